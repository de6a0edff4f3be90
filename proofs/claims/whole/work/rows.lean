section
-- ===== PART A: goes FIRST, ahead of the names: the tables' words, and 'selects' of the private methods out of them =====
/-- a private method of a class that the tables say can be made, by its rows of tables_1 -/
def lw_okq (q : MethodName × Nat) : Prop := (q.1.cls ≠ "java/lang/invoke/MethodHandle" ∧ q.1.cls ≠ "java/lang/invoke/VarHandle") ∧ Cond.instantiable q.1.cls q.2 ∈ tables_1 ∧ Cond.privateMethod q.1 ∈ tables_1 ∧ Cond.instanceMethod q.1 ∈ tables_1
theorem lw_p0 : lw_okq (⟨"CountyJigsaw", "found", "(I)I"⟩, 8) := ⟨⟨by decide +kernel, by decide +kernel⟩, List.mem_of_getElem? (i := 15) (by decide +kernel), List.mem_of_getElem? (i := 176) (by decide +kernel), List.mem_of_getElem? (i := 177) (by decide +kernel)⟩
theorem lw_p1 : lw_okq (⟨"CountyJigsaw$BestLaying", "weigh", "(LCountyJigsaw$County;)V"⟩, 4) := ⟨⟨by decide +kernel, by decide +kernel⟩, List.mem_of_getElem? (i := 79) (by decide +kernel), List.mem_of_getElem? (i := 329) (by decide +kernel), List.mem_of_getElem? (i := 330) (by decide +kernel)⟩
theorem lw_p2 : lw_okq (⟨"CountyJigsaw$BestLaying", "fillRests", "(I)V"⟩, 4) := ⟨⟨by decide +kernel, by decide +kernel⟩, List.mem_of_getElem? (i := 79) (by decide +kernel), List.mem_of_getElem? (i := 335) (by decide +kernel), List.mem_of_getElem? (i := 336) (by decide +kernel)⟩
theorem lw_p3 : lw_okq (⟨"CountyJigsaw$BestLaying", "leastRest", "(III)I"⟩, 4) := ⟨⟨by decide +kernel, by decide +kernel⟩, List.mem_of_getElem? (i := 79) (by decide +kernel), List.mem_of_getElem? (i := 339) (by decide +kernel), List.mem_of_getElem? (i := 340) (by decide +kernel)⟩
theorem lw_p4 : lw_okq (⟨"CountyJigsaw$BestLaying", "costOfNext", "(III)I"⟩, 4) := ⟨⟨by decide +kernel, by decide +kernel⟩, List.mem_of_getElem? (i := 79) (by decide +kernel), List.mem_of_getElem? (i := 344) (by decide +kernel), List.mem_of_getElem? (i := 345) (by decide +kernel)⟩
theorem lw_p5 : lw_okq (⟨"CountyJigsaw$BestLaying", "bestNext", "(III)I"⟩, 4) := ⟨⟨by decide +kernel, by decide +kernel⟩, List.mem_of_getElem? (i := 79) (by decide +kernel), List.mem_of_getElem? (i := 351) (by decide +kernel), List.mem_of_getElem? (i := 352) (by decide +kernel)⟩
theorem lw_p6 : lw_okq (⟨"CountyJigsaw", "leastExchange", "()I"⟩, 8) := ⟨⟨by decide +kernel, by decide +kernel⟩, List.mem_of_getElem? (i := 15) (by decide +kernel), List.mem_of_getElem? (i := 355) (by decide +kernel), List.mem_of_getElem? (i := 356) (by decide +kernel)⟩
theorem lw_p7 : lw_okq (⟨"CountyJigsaw", "sumExchanged", "(II)I"⟩, 8) := ⟨⟨by decide +kernel, by decide +kernel⟩, List.mem_of_getElem? (i := 15) (by decide +kernel), List.mem_of_getElem? (i := 359) (by decide +kernel), List.mem_of_getElem? (i := 360) (by decide +kernel)⟩
theorem lw_p8 : lw_okq (⟨"CountyJigsaw", "bestValueFor", "(III)I"⟩, 8) := ⟨⟨by decide +kernel, by decide +kernel⟩, List.mem_of_getElem? (i := 15) (by decide +kernel), List.mem_of_getElem? (i := 417) (by decide +kernel), List.mem_of_getElem? (i := 418) (by decide +kernel)⟩
theorem lw_p9 : lw_okq (⟨"CountyJigsaw", "wrongSheet", "(I)I"⟩, 8) := ⟨⟨by decide +kernel, by decide +kernel⟩, List.mem_of_getElem? (i := 15) (by decide +kernel), List.mem_of_getElem? (i := 439) (by decide +kernel), List.mem_of_getElem? (i := 440) (by decide +kernel)⟩
theorem lw_p10 : lw_okq (⟨"CountyJigsaw", "trialGoesAs", "(LCountyJigsaw$Sheet;)Z"⟩, 8) := ⟨⟨by decide +kernel, by decide +kernel⟩, List.mem_of_getElem? (i := 15) (by decide +kernel), List.mem_of_getElem? (i := 446) (by decide +kernel), List.mem_of_getElem? (i := 447) (by decide +kernel)⟩
theorem lw_p11 : lw_okq (⟨"CountyJigsaw", "harmlessSwaps", "()I"⟩, 8) := ⟨⟨by decide +kernel, by decide +kernel⟩, List.mem_of_getElem? (i := 15) (by decide +kernel), List.mem_of_getElem? (i := 468) (by decide +kernel), List.mem_of_getElem? (i := 469) (by decide +kernel)⟩
theorem lw_p12 : lw_okq (⟨"CountyJigsaw$Tape", "step", "()V"⟩, 5) := ⟨⟨by decide +kernel, by decide +kernel⟩, List.mem_of_getElem? (i := 98) (by decide +kernel), List.mem_of_getElem? (i := 499) (by decide +kernel), List.mem_of_getElem? (i := 500) (by decide +kernel)⟩
theorem lw_p13 : lw_okq (⟨"CountyJigsaw$Tape", "sortAt", "(I)I"⟩, 5) := ⟨⟨by decide +kernel, by decide +kernel⟩, List.mem_of_getElem? (i := 98) (by decide +kernel), List.mem_of_getElem? (i := 503) (by decide +kernel), List.mem_of_getElem? (i := 504) (by decide +kernel)⟩
theorem lw_p14 : lw_okq (⟨"CountyJigsaw$Tape", "readItem", "(LCountyJigsaw$County;)Z"⟩, 5) := ⟨⟨by decide +kernel, by decide +kernel⟩, List.mem_of_getElem? (i := 98) (by decide +kernel), List.mem_of_getElem? (i := 507) (by decide +kernel), List.mem_of_getElem? (i := 508) (by decide +kernel)⟩
theorem lw_p15 : lw_okq (⟨"CountyJigsaw$Tape", "kindNamed", "()I"⟩, 5) := ⟨⟨by decide +kernel, by decide +kernel⟩, List.mem_of_getElem? (i := 98) (by decide +kernel), List.mem_of_getElem? (i := 511) (by decide +kernel), List.mem_of_getElem? (i := 512) (by decide +kernel)⟩
def lw_privs_1 : List (MethodName × Nat) := [(⟨"CountyJigsaw", "found", "(I)I"⟩, 8), (⟨"CountyJigsaw$BestLaying", "weigh", "(LCountyJigsaw$County;)V"⟩, 4), (⟨"CountyJigsaw$BestLaying", "fillRests", "(I)V"⟩, 4), (⟨"CountyJigsaw$BestLaying", "leastRest", "(III)I"⟩, 4), (⟨"CountyJigsaw$BestLaying", "costOfNext", "(III)I"⟩, 4), (⟨"CountyJigsaw$BestLaying", "bestNext", "(III)I"⟩, 4), (⟨"CountyJigsaw", "leastExchange", "()I"⟩, 8), (⟨"CountyJigsaw", "sumExchanged", "(II)I"⟩, 8), (⟨"CountyJigsaw", "bestValueFor", "(III)I"⟩, 8), (⟨"CountyJigsaw", "wrongSheet", "(I)I"⟩, 8), (⟨"CountyJigsaw", "trialGoesAs", "(LCountyJigsaw$Sheet;)Z"⟩, 8), (⟨"CountyJigsaw", "harmlessSwaps", "()I"⟩, 8), (⟨"CountyJigsaw$Tape", "step", "()V"⟩, 5), (⟨"CountyJigsaw$Tape", "sortAt", "(I)I"⟩, 5), (⟨"CountyJigsaw$Tape", "readItem", "(LCountyJigsaw$County;)Z"⟩, 5), (⟨"CountyJigsaw$Tape", "kindNamed", "()I"⟩, 5)]
theorem lw_r1 : ∀ q ∈ lw_privs_1, lw_okq q := List.forall_mem_cons.mpr ⟨lw_p0, List.forall_mem_cons.mpr ⟨lw_p1, List.forall_mem_cons.mpr ⟨lw_p2, List.forall_mem_cons.mpr ⟨lw_p3, List.forall_mem_cons.mpr ⟨lw_p4, List.forall_mem_cons.mpr ⟨lw_p5, List.forall_mem_cons.mpr ⟨lw_p6, List.forall_mem_cons.mpr ⟨lw_p7, List.forall_mem_cons.mpr ⟨lw_p8, List.forall_mem_cons.mpr ⟨lw_p9, List.forall_mem_cons.mpr ⟨lw_p10, List.forall_mem_cons.mpr ⟨lw_p11, List.forall_mem_cons.mpr ⟨lw_p12, List.forall_mem_cons.mpr ⟨lw_p13, List.forall_mem_cons.mpr ⟨lw_p14, List.forall_mem_cons.mpr ⟨lw_p15, fun _ h => absurd h List.not_mem_nil⟩⟩⟩⟩⟩⟩⟩⟩⟩⟩⟩⟩⟩⟩⟩⟩
theorem lw_p16 : lw_okq (⟨"CountyJigsaw$Tape", "isWord", "(Ljava/lang/String;)Z"⟩, 5) := ⟨⟨by decide +kernel, by decide +kernel⟩, List.mem_of_getElem? (i := 98) (by decide +kernel), List.mem_of_getElem? (i := 525) (by decide +kernel), List.mem_of_getElem? (i := 526) (by decide +kernel)⟩
theorem lw_p17 : lw_okq (⟨"CountyJigsaw$Tape", "readPiece", "(LCountyJigsaw$County;I)Z"⟩, 5) := ⟨⟨by decide +kernel, by decide +kernel⟩, List.mem_of_getElem? (i := 98) (by decide +kernel), List.mem_of_getElem? (i := 577) (by decide +kernel), List.mem_of_getElem? (i := 578) (by decide +kernel)⟩
theorem lw_p18 : lw_okq (⟨"CountyJigsaw$Tape", "readNumber", "(I)I"⟩, 5) := ⟨⟨by decide +kernel, by decide +kernel⟩, List.mem_of_getElem? (i := 98) (by decide +kernel), List.mem_of_getElem? (i := 581) (by decide +kernel), List.mem_of_getElem? (i := 582) (by decide +kernel)⟩
theorem lw_p19 : lw_okq (⟨"CountyJigsaw$Tape", "valueOfDigits", "()I"⟩, 5) := ⟨⟨by decide +kernel, by decide +kernel⟩, List.mem_of_getElem? (i := 98) (by decide +kernel), List.mem_of_getElem? (i := 585) (by decide +kernel), List.mem_of_getElem? (i := 586) (by decide +kernel)⟩
theorem lw_p20 : lw_okq (⟨"CountyJigsaw$Tape", "readSwap", "(LCountyJigsaw$County;)Z"⟩, 5) := ⟨⟨by decide +kernel, by decide +kernel⟩, List.mem_of_getElem? (i := 98) (by decide +kernel), List.mem_of_getElem? (i := 594) (by decide +kernel), List.mem_of_getElem? (i := 595) (by decide +kernel)⟩
theorem lw_p21 : lw_okq (⟨"CountyJigsaw$Tape", "readLay", "(LCountyJigsaw$County;)Z"⟩, 5) := ⟨⟨by decide +kernel, by decide +kernel⟩, List.mem_of_getElem? (i := 98) (by decide +kernel), List.mem_of_getElem? (i := 599) (by decide +kernel), List.mem_of_getElem? (i := 600) (by decide +kernel)⟩
theorem lw_p22 : lw_okq (⟨"CountyJigsaw", "allFindings", "()I"⟩, 8) := ⟨⟨by decide +kernel, by decide +kernel⟩, List.mem_of_getElem? (i := 15) (by decide +kernel), List.mem_of_getElem? (i := 674) (by decide +kernel), List.mem_of_getElem? (i := 675) (by decide +kernel)⟩
theorem lw_p23 : lw_okq (⟨"CountyJigsawModel", "become", "(II)I"⟩, 21) := ⟨⟨by decide +kernel, by decide +kernel⟩, List.mem_of_getElem? (i := 678) (by decide +kernel), List.mem_of_getElem? (i := 770) (by decide +kernel), List.mem_of_getElem? (i := 771) (by decide +kernel)⟩
theorem lw_p24 : lw_okq (⟨"CountyJigsawModel", "finding", "(I)I"⟩, 21) := ⟨⟨by decide +kernel, by decide +kernel⟩, List.mem_of_getElem? (i := 678) (by decide +kernel), List.mem_of_getElem? (i := 775) (by decide +kernel), List.mem_of_getElem? (i := 776) (by decide +kernel)⟩
theorem lw_p25 : lw_okq (⟨"CountyJigsawModel", "isCut", "(III)I"⟩, 21) := ⟨⟨by decide +kernel, by decide +kernel⟩, List.mem_of_getElem? (i := 678) (by decide +kernel), List.mem_of_getElem? (i := 794) (by decide +kernel), List.mem_of_getElem? (i := 795) (by decide +kernel)⟩
theorem lw_p26 : lw_okq (⟨"CountyJigsawModel", "isPiece", "(I)Z"⟩, 21) := ⟨⟨by decide +kernel, by decide +kernel⟩, List.mem_of_getElem? (i := 678) (by decide +kernel), List.mem_of_getElem? (i := 805) (by decide +kernel), List.mem_of_getElem? (i := 806) (by decide +kernel)⟩
theorem lw_p27 : lw_okq (⟨"CountyJigsawModel", "told", "(II)I"⟩, 21) := ⟨⟨by decide +kernel, by decide +kernel⟩, List.mem_of_getElem? (i := 678) (by decide +kernel), List.mem_of_getElem? (i := 809) (by decide +kernel), List.mem_of_getElem? (i := 810) (by decide +kernel)⟩
theorem lw_p28 : lw_okq (⟨"CountyJigsawModel", "whereLies", "(I)I"⟩, 21) := ⟨⟨by decide +kernel, by decide +kernel⟩, List.mem_of_getElem? (i := 678) (by decide +kernel), List.mem_of_getElem? (i := 813) (by decide +kernel), List.mem_of_getElem? (i := 814) (by decide +kernel)⟩
theorem lw_p29 : lw_okq (⟨"CountyJigsawModel", "grows", "(I)I"⟩, 21) := ⟨⟨by decide +kernel, by decide +kernel⟩, List.mem_of_getElem? (i := 678) (by decide +kernel), List.mem_of_getElem? (i := 817) (by decide +kernel), List.mem_of_getElem? (i := 818) (by decide +kernel)⟩
theorem lw_p30 : lw_okq (⟨"CountyJigsawModel", "pieceIs", "(II)I"⟩, 21) := ⟨⟨by decide +kernel, by decide +kernel⟩, List.mem_of_getElem? (i := 678) (by decide +kernel), List.mem_of_getElem? (i := 821) (by decide +kernel), List.mem_of_getElem? (i := 822) (by decide +kernel)⟩
theorem lw_p31 : lw_okq (⟨"CountyJigsawModel", "gapOf", "(II)I"⟩, 21) := ⟨⟨by decide +kernel, by decide +kernel⟩, List.mem_of_getElem? (i := 678) (by decide +kernel), List.mem_of_getElem? (i := 840) (by decide +kernel), List.mem_of_getElem? (i := 841) (by decide +kernel)⟩
def lw_privs_2 : List (MethodName × Nat) := [(⟨"CountyJigsaw$Tape", "isWord", "(Ljava/lang/String;)Z"⟩, 5), (⟨"CountyJigsaw$Tape", "readPiece", "(LCountyJigsaw$County;I)Z"⟩, 5), (⟨"CountyJigsaw$Tape", "readNumber", "(I)I"⟩, 5), (⟨"CountyJigsaw$Tape", "valueOfDigits", "()I"⟩, 5), (⟨"CountyJigsaw$Tape", "readSwap", "(LCountyJigsaw$County;)Z"⟩, 5), (⟨"CountyJigsaw$Tape", "readLay", "(LCountyJigsaw$County;)Z"⟩, 5), (⟨"CountyJigsaw", "allFindings", "()I"⟩, 8), (⟨"CountyJigsawModel", "become", "(II)I"⟩, 21), (⟨"CountyJigsawModel", "finding", "(I)I"⟩, 21), (⟨"CountyJigsawModel", "isCut", "(III)I"⟩, 21), (⟨"CountyJigsawModel", "isPiece", "(I)Z"⟩, 21), (⟨"CountyJigsawModel", "told", "(II)I"⟩, 21), (⟨"CountyJigsawModel", "whereLies", "(I)I"⟩, 21), (⟨"CountyJigsawModel", "grows", "(I)I"⟩, 21), (⟨"CountyJigsawModel", "pieceIs", "(II)I"⟩, 21), (⟨"CountyJigsawModel", "gapOf", "(II)I"⟩, 21)]
theorem lw_r2 : ∀ q ∈ lw_privs_2, lw_okq q := List.forall_mem_cons.mpr ⟨lw_p16, List.forall_mem_cons.mpr ⟨lw_p17, List.forall_mem_cons.mpr ⟨lw_p18, List.forall_mem_cons.mpr ⟨lw_p19, List.forall_mem_cons.mpr ⟨lw_p20, List.forall_mem_cons.mpr ⟨lw_p21, List.forall_mem_cons.mpr ⟨lw_p22, List.forall_mem_cons.mpr ⟨lw_p23, List.forall_mem_cons.mpr ⟨lw_p24, List.forall_mem_cons.mpr ⟨lw_p25, List.forall_mem_cons.mpr ⟨lw_p26, List.forall_mem_cons.mpr ⟨lw_p27, List.forall_mem_cons.mpr ⟨lw_p28, List.forall_mem_cons.mpr ⟨lw_p29, List.forall_mem_cons.mpr ⟨lw_p30, List.forall_mem_cons.mpr ⟨lw_p31, fun _ h => absurd h List.not_mem_nil⟩⟩⟩⟩⟩⟩⟩⟩⟩⟩⟩⟩⟩⟩⟩⟩
theorem lw_p32 : lw_okq (⟨"CountyJigsawModel", "side", "(II)I"⟩, 21) := ⟨⟨by decide +kernel, by decide +kernel⟩, List.mem_of_getElem? (i := 678) (by decide +kernel), List.mem_of_getElem? (i := 844) (by decide +kernel), List.mem_of_getElem? (i := 845) (by decide +kernel)⟩
theorem lw_p33 : lw_okq (⟨"CountyJigsawModel", "isSky", "(I)Z"⟩, 21) := ⟨⟨by decide +kernel, by decide +kernel⟩, List.mem_of_getElem? (i := 678) (by decide +kernel), List.mem_of_getElem? (i := 849) (by decide +kernel), List.mem_of_getElem? (i := 850) (by decide +kernel)⟩
theorem lw_p34 : lw_okq (⟨"CountyJigsawModel", "edgeOf", "(II)I"⟩, 21) := ⟨⟨by decide +kernel, by decide +kernel⟩, List.mem_of_getElem? (i := 678) (by decide +kernel), List.mem_of_getElem? (i := 857) (by decide +kernel), List.mem_of_getElem? (i := 858) (by decide +kernel)⟩
theorem lw_p35 : lw_okq (⟨"CountyJigsawModel", "exchange", "(II)V"⟩, 21) := ⟨⟨by decide +kernel, by decide +kernel⟩, List.mem_of_getElem? (i := 678) (by decide +kernel), List.mem_of_getElem? (i := 865) (by decide +kernel), List.mem_of_getElem? (i := 866) (by decide +kernel)⟩
theorem lw_p36 : lw_okq (⟨"CountyJigsawModel", "sumNow", "()I"⟩, 21) := ⟨⟨by decide +kernel, by decide +kernel⟩, List.mem_of_getElem? (i := 678) (by decide +kernel), List.mem_of_getElem? (i := 869) (by decide +kernel), List.mem_of_getElem? (i := 870) (by decide +kernel)⟩
theorem lw_p37 : lw_okq (⟨"CountyJigsawModel", "yearsGo", "(I)V"⟩, 21) := ⟨⟨by decide +kernel, by decide +kernel⟩, List.mem_of_getElem? (i := 678) (by decide +kernel), List.mem_of_getElem? (i := 879) (by decide +kernel), List.mem_of_getElem? (i := 880) (by decide +kernel)⟩
theorem lw_p38 : lw_okq (⟨"CountyJigsawModel", "year", "()V"⟩, 21) := ⟨⟨by decide +kernel, by decide +kernel⟩, List.mem_of_getElem? (i := 678) (by decide +kernel), List.mem_of_getElem? (i := 883) (by decide +kernel), List.mem_of_getElem? (i := 884) (by decide +kernel)⟩
theorem lw_p39 : lw_okq (⟨"CountyJigsawModel", "placeNow", "()I"⟩, 21) := ⟨⟨by decide +kernel, by decide +kernel⟩, List.mem_of_getElem? (i := 678) (by decide +kernel), List.mem_of_getElem? (i := 887) (by decide +kernel), List.mem_of_getElem? (i := 888) (by decide +kernel)⟩
theorem lw_p40 : lw_okq (⟨"CountyJigsawModel", "closePlaces", "()I"⟩, 21) := ⟨⟨by decide +kernel, by decide +kernel⟩, List.mem_of_getElem? (i := 678) (by decide +kernel), List.mem_of_getElem? (i := 896) (by decide +kernel), List.mem_of_getElem? (i := 897) (by decide +kernel)⟩
theorem lw_p41 : lw_okq (⟨"CountyJigsawModel", "grantedOnes", "()I"⟩, 21) := ⟨⟨by decide +kernel, by decide +kernel⟩, List.mem_of_getElem? (i := 678) (by decide +kernel), List.mem_of_getElem? (i := 900) (by decide +kernel), List.mem_of_getElem? (i := 901) (by decide +kernel)⟩
theorem lw_p42 : lw_okq (⟨"CountyJigsawModel", "isGranted", "(I)Z"⟩, 21) := ⟨⟨by decide +kernel, by decide +kernel⟩, List.mem_of_getElem? (i := 678) (by decide +kernel), List.mem_of_getElem? (i := 904) (by decide +kernel), List.mem_of_getElem? (i := 905) (by decide +kernel)⟩
theorem lw_p43 : lw_okq (⟨"CountyJigsawModel", "widestGap", "()I"⟩, 21) := ⟨⟨by decide +kernel, by decide +kernel⟩, List.mem_of_getElem? (i := 678) (by decide +kernel), List.mem_of_getElem? (i := 908) (by decide +kernel), List.mem_of_getElem? (i := 909) (by decide +kernel)⟩
theorem lw_p44 : lw_okq (⟨"CountyJigsawModel", "turnedOnes", "()I"⟩, 21) := ⟨⟨by decide +kernel, by decide +kernel⟩, List.mem_of_getElem? (i := 678) (by decide +kernel), List.mem_of_getElem? (i := 913) (by decide +kernel), List.mem_of_getElem? (i := 914) (by decide +kernel)⟩
theorem lw_p45 : lw_okq (⟨"CountyJigsawModel", "bestSum", "()I"⟩, 21) := ⟨⟨by decide +kernel, by decide +kernel⟩, List.mem_of_getElem? (i := 678) (by decide +kernel), List.mem_of_getElem? (i := 917) (by decide +kernel), List.mem_of_getElem? (i := 918) (by decide +kernel)⟩
theorem lw_p46 : lw_okq (⟨"CountyJigsawModel", "isTabled", "()V"⟩, 21) := ⟨⟨by decide +kernel, by decide +kernel⟩, List.mem_of_getElem? (i := 678) (by decide +kernel), List.mem_of_getElem? (i := 921) (by decide +kernel), List.mem_of_getElem? (i := 922) (by decide +kernel)⟩
theorem lw_p47 : lw_okq (⟨"CountyJigsawModel", "leastRest", "(II)I"⟩, 21) := ⟨⟨by decide +kernel, by decide +kernel⟩, List.mem_of_getElem? (i := 678) (by decide +kernel), List.mem_of_getElem? (i := 925) (by decide +kernel), List.mem_of_getElem? (i := 926) (by decide +kernel)⟩
def lw_privs_3 : List (MethodName × Nat) := [(⟨"CountyJigsawModel", "side", "(II)I"⟩, 21), (⟨"CountyJigsawModel", "isSky", "(I)Z"⟩, 21), (⟨"CountyJigsawModel", "edgeOf", "(II)I"⟩, 21), (⟨"CountyJigsawModel", "exchange", "(II)V"⟩, 21), (⟨"CountyJigsawModel", "sumNow", "()I"⟩, 21), (⟨"CountyJigsawModel", "yearsGo", "(I)V"⟩, 21), (⟨"CountyJigsawModel", "year", "()V"⟩, 21), (⟨"CountyJigsawModel", "placeNow", "()I"⟩, 21), (⟨"CountyJigsawModel", "closePlaces", "()I"⟩, 21), (⟨"CountyJigsawModel", "grantedOnes", "()I"⟩, 21), (⟨"CountyJigsawModel", "isGranted", "(I)Z"⟩, 21), (⟨"CountyJigsawModel", "widestGap", "()I"⟩, 21), (⟨"CountyJigsawModel", "turnedOnes", "()I"⟩, 21), (⟨"CountyJigsawModel", "bestSum", "()I"⟩, 21), (⟨"CountyJigsawModel", "isTabled", "()V"⟩, 21), (⟨"CountyJigsawModel", "leastRest", "(II)I"⟩, 21)]
theorem lw_r3 : ∀ q ∈ lw_privs_3, lw_okq q := List.forall_mem_cons.mpr ⟨lw_p32, List.forall_mem_cons.mpr ⟨lw_p33, List.forall_mem_cons.mpr ⟨lw_p34, List.forall_mem_cons.mpr ⟨lw_p35, List.forall_mem_cons.mpr ⟨lw_p36, List.forall_mem_cons.mpr ⟨lw_p37, List.forall_mem_cons.mpr ⟨lw_p38, List.forall_mem_cons.mpr ⟨lw_p39, List.forall_mem_cons.mpr ⟨lw_p40, List.forall_mem_cons.mpr ⟨lw_p41, List.forall_mem_cons.mpr ⟨lw_p42, List.forall_mem_cons.mpr ⟨lw_p43, List.forall_mem_cons.mpr ⟨lw_p44, List.forall_mem_cons.mpr ⟨lw_p45, List.forall_mem_cons.mpr ⟨lw_p46, List.forall_mem_cons.mpr ⟨lw_p47, fun _ h => absurd h List.not_mem_nil⟩⟩⟩⟩⟩⟩⟩⟩⟩⟩⟩⟩⟩⟩⟩⟩
theorem lw_p48 : lw_okq (⟨"CountyJigsawModel", "everything", "()I"⟩, 21) := ⟨⟨by decide +kernel, by decide +kernel⟩, List.mem_of_getElem? (i := 678) (by decide +kernel), List.mem_of_getElem? (i := 930) (by decide +kernel), List.mem_of_getElem? (i := 931) (by decide +kernel)⟩
theorem lw_p49 : lw_okq (⟨"CountyJigsawModel", "bestNext", "(II)I"⟩, 21) := ⟨⟨by decide +kernel, by decide +kernel⟩, List.mem_of_getElem? (i := 678) (by decide +kernel), List.mem_of_getElem? (i := 934) (by decide +kernel), List.mem_of_getElem? (i := 935) (by decide +kernel)⟩
theorem lw_p50 : lw_okq (⟨"CountyJigsawModel", "betterSwap", "()I"⟩, 21) := ⟨⟨by decide +kernel, by decide +kernel⟩, List.mem_of_getElem? (i := 678) (by decide +kernel), List.mem_of_getElem? (i := 938) (by decide +kernel), List.mem_of_getElem? (i := 939) (by decide +kernel)⟩
theorem lw_p51 : lw_okq (⟨"CountyJigsawModel", "putBack", "(I)I"⟩, 21) := ⟨⟨by decide +kernel, by decide +kernel⟩, List.mem_of_getElem? (i := 678) (by decide +kernel), List.mem_of_getElem? (i := 949) (by decide +kernel), List.mem_of_getElem? (i := 950) (by decide +kernel)⟩
theorem lw_p52 : lw_okq (⟨"CountyJigsawModel", "orNone", "(I)I"⟩, 21) := ⟨⟨by decide +kernel, by decide +kernel⟩, List.mem_of_getElem? (i := 678) (by decide +kernel), List.mem_of_getElem? (i := 961) (by decide +kernel), List.mem_of_getElem? (i := 962) (by decide +kernel)⟩
theorem lw_p53 : lw_okq (⟨"CountyJigsawModel", "cheapest", "(II)I"⟩, 21) := ⟨⟨by decide +kernel, by decide +kernel⟩, List.mem_of_getElem? (i := 678) (by decide +kernel), List.mem_of_getElem? (i := 990) (by decide +kernel), List.mem_of_getElem? (i := 991) (by decide +kernel)⟩
theorem lw_p54 : lw_okq (⟨"CountyJigsawModel", "sumTurned", "(I)I"⟩, 21) := ⟨⟨by decide +kernel, by decide +kernel⟩, List.mem_of_getElem? (i := 678) (by decide +kernel), List.mem_of_getElem? (i := 1005) (by decide +kernel), List.mem_of_getElem? (i := 1006) (by decide +kernel)⟩
theorem lw_p55 : lw_okq (⟨"CountyJigsawModel", "lacks", "(IZ)I"⟩, 21) := ⟨⟨by decide +kernel, by decide +kernel⟩, List.mem_of_getElem? (i := 678) (by decide +kernel), List.mem_of_getElem? (i := 1013) (by decide +kernel), List.mem_of_getElem? (i := 1014) (by decide +kernel)⟩
theorem lw_p56 : lw_okq (⟨"CountyJigsawModel", "isSo", "(I)Z"⟩, 21) := ⟨⟨by decide +kernel, by decide +kernel⟩, List.mem_of_getElem? (i := 678) (by decide +kernel), List.mem_of_getElem? (i := 1021) (by decide +kernel), List.mem_of_getElem? (i := 1022) (by decide +kernel)⟩
theorem lw_p57 : lw_okq (⟨"CountyJigsawModel", "drawn", "()I"⟩, 21) := ⟨⟨by decide +kernel, by decide +kernel⟩, List.mem_of_getElem? (i := 678) (by decide +kernel), List.mem_of_getElem? (i := 1033) (by decide +kernel), List.mem_of_getElem? (i := 1034) (by decide +kernel)⟩
theorem lw_p58 : lw_okq (⟨"CountyJigsawModel", "isNoWorse", "(II)Z"⟩, 21) := ⟨⟨by decide +kernel, by decide +kernel⟩, List.mem_of_getElem? (i := 678) (by decide +kernel), List.mem_of_getElem? (i := 1042) (by decide +kernel), List.mem_of_getElem? (i := 1043) (by decide +kernel)⟩
theorem lw_p59 : lw_okq (⟨"CountyJigsawModel", "token", "()V"⟩, 21) := ⟨⟨by decide +kernel, by decide +kernel⟩, List.mem_of_getElem? (i := 678) (by decide +kernel), List.mem_of_getElem? (i := 1062) (by decide +kernel), List.mem_of_getElem? (i := 1063) (by decide +kernel)⟩
theorem lw_p60 : lw_okq (⟨"CountyJigsawModel", "byteAt", "(I)I"⟩, 21) := ⟨⟨by decide +kernel, by decide +kernel⟩, List.mem_of_getElem? (i := 678) (by decide +kernel), List.mem_of_getElem? (i := 1066) (by decide +kernel), List.mem_of_getElem? (i := 1067) (by decide +kernel)⟩
theorem lw_p61 : lw_okq (⟨"CountyJigsawModel", "readItem", "()V"⟩, 21) := ⟨⟨by decide +kernel, by decide +kernel⟩, List.mem_of_getElem? (i := 678) (by decide +kernel), List.mem_of_getElem? (i := 1070) (by decide +kernel), List.mem_of_getElem? (i := 1071) (by decide +kernel)⟩
theorem lw_p62 : lw_okq (⟨"CountyJigsawModel", "isWord", "(Ljava/lang/String;)Z"⟩, 21) := ⟨⟨by decide +kernel, by decide +kernel⟩, List.mem_of_getElem? (i := 678) (by decide +kernel), List.mem_of_getElem? (i := 1074) (by decide +kernel), List.mem_of_getElem? (i := 1075) (by decide +kernel)⟩
theorem lw_p63 : lw_okq (⟨"CountyJigsawModel", "readPiece", "(I)V"⟩, 21) := ⟨⟨by decide +kernel, by decide +kernel⟩, List.mem_of_getElem? (i := 678) (by decide +kernel), List.mem_of_getElem? (i := 1080) (by decide +kernel), List.mem_of_getElem? (i := 1081) (by decide +kernel)⟩
def lw_privs_4 : List (MethodName × Nat) := [(⟨"CountyJigsawModel", "everything", "()I"⟩, 21), (⟨"CountyJigsawModel", "bestNext", "(II)I"⟩, 21), (⟨"CountyJigsawModel", "betterSwap", "()I"⟩, 21), (⟨"CountyJigsawModel", "putBack", "(I)I"⟩, 21), (⟨"CountyJigsawModel", "orNone", "(I)I"⟩, 21), (⟨"CountyJigsawModel", "cheapest", "(II)I"⟩, 21), (⟨"CountyJigsawModel", "sumTurned", "(I)I"⟩, 21), (⟨"CountyJigsawModel", "lacks", "(IZ)I"⟩, 21), (⟨"CountyJigsawModel", "isSo", "(I)Z"⟩, 21), (⟨"CountyJigsawModel", "drawn", "()I"⟩, 21), (⟨"CountyJigsawModel", "isNoWorse", "(II)Z"⟩, 21), (⟨"CountyJigsawModel", "token", "()V"⟩, 21), (⟨"CountyJigsawModel", "byteAt", "(I)I"⟩, 21), (⟨"CountyJigsawModel", "readItem", "()V"⟩, 21), (⟨"CountyJigsawModel", "isWord", "(Ljava/lang/String;)Z"⟩, 21), (⟨"CountyJigsawModel", "readPiece", "(I)V"⟩, 21)]
theorem lw_r4 : ∀ q ∈ lw_privs_4, lw_okq q := List.forall_mem_cons.mpr ⟨lw_p48, List.forall_mem_cons.mpr ⟨lw_p49, List.forall_mem_cons.mpr ⟨lw_p50, List.forall_mem_cons.mpr ⟨lw_p51, List.forall_mem_cons.mpr ⟨lw_p52, List.forall_mem_cons.mpr ⟨lw_p53, List.forall_mem_cons.mpr ⟨lw_p54, List.forall_mem_cons.mpr ⟨lw_p55, List.forall_mem_cons.mpr ⟨lw_p56, List.forall_mem_cons.mpr ⟨lw_p57, List.forall_mem_cons.mpr ⟨lw_p58, List.forall_mem_cons.mpr ⟨lw_p59, List.forall_mem_cons.mpr ⟨lw_p60, List.forall_mem_cons.mpr ⟨lw_p61, List.forall_mem_cons.mpr ⟨lw_p62, List.forall_mem_cons.mpr ⟨lw_p63, fun _ h => absurd h List.not_mem_nil⟩⟩⟩⟩⟩⟩⟩⟩⟩⟩⟩⟩⟩⟩⟩⟩
theorem lw_p64 : lw_okq (⟨"CountyJigsawModel", "must", "(Z)V"⟩, 21) := ⟨⟨by decide +kernel, by decide +kernel⟩, List.mem_of_getElem? (i := 678) (by decide +kernel), List.mem_of_getElem? (i := 1084) (by decide +kernel), List.mem_of_getElem? (i := 1085) (by decide +kernel)⟩
theorem lw_p65 : lw_okq (⟨"CountyJigsawModel", "number", "(II)I"⟩, 21) := ⟨⟨by decide +kernel, by decide +kernel⟩, List.mem_of_getElem? (i := 678) (by decide +kernel), List.mem_of_getElem? (i := 1088) (by decide +kernel), List.mem_of_getElem? (i := 1089) (by decide +kernel)⟩
theorem lw_p66 : lw_okq (⟨"CountyJigsawModel", "takesWord", "(Ljava/lang/String;)Z"⟩, 21) := ⟨⟨by decide +kernel, by decide +kernel⟩, List.mem_of_getElem? (i := 678) (by decide +kernel), List.mem_of_getElem? (i := 1093) (by decide +kernel), List.mem_of_getElem? (i := 1094) (by decide +kernel)⟩
theorem lw_p67 : lw_okq (⟨"CountyJigsawModel", "addItem", "(IIIII)V"⟩, 21) := ⟨⟨by decide +kernel, by decide +kernel⟩, List.mem_of_getElem? (i := 678) (by decide +kernel), List.mem_of_getElem? (i := 1098) (by decide +kernel), List.mem_of_getElem? (i := 1099) (by decide +kernel)⟩
theorem lw_p68 : lw_okq (⟨"CountyJigsawModel", "isToldSo", "(I)V"⟩, 21) := ⟨⟨by decide +kernel, by decide +kernel⟩, List.mem_of_getElem? (i := 678) (by decide +kernel), List.mem_of_getElem? (i := 1104) (by decide +kernel), List.mem_of_getElem? (i := 1105) (by decide +kernel)⟩
def lw_privs_5 : List (MethodName × Nat) := [(⟨"CountyJigsawModel", "must", "(Z)V"⟩, 21), (⟨"CountyJigsawModel", "number", "(II)I"⟩, 21), (⟨"CountyJigsawModel", "takesWord", "(Ljava/lang/String;)Z"⟩, 21), (⟨"CountyJigsawModel", "addItem", "(IIIII)V"⟩, 21), (⟨"CountyJigsawModel", "isToldSo", "(I)V"⟩, 21)]
theorem lw_r5 : ∀ q ∈ lw_privs_5, lw_okq q := List.forall_mem_cons.mpr ⟨lw_p64, List.forall_mem_cons.mpr ⟨lw_p65, List.forall_mem_cons.mpr ⟨lw_p66, List.forall_mem_cons.mpr ⟨lw_p67, List.forall_mem_cons.mpr ⟨lw_p68, fun _ h => absurd h List.not_mem_nil⟩⟩⟩⟩⟩
def lw_privs : List (MethodName × Nat) := lw_privs_1 ++ (lw_privs_2 ++ (lw_privs_3 ++ (lw_privs_4 ++ (lw_privs_5))))
def lw_tbl : List Cond := k2_sels lw_privs ++ tables_1
theorem lw_privs_ok : ∀ q ∈ lw_privs, lw_okq q := by
  show ∀ q ∈ lw_privs_1 ++ (lw_privs_2 ++ (lw_privs_3 ++ (lw_privs_4 ++ (lw_privs_5)))), lw_okq q
  exact List.forall_mem_append.mpr ⟨lw_r1, List.forall_mem_append.mpr ⟨lw_r2, List.forall_mem_append.mpr ⟨lw_r3, List.forall_mem_append.mpr ⟨lw_r4, lw_r5⟩⟩⟩⟩
end
section
/-! ===== BEGIN printed: names, fields, word lists, decode rows ===== -/
def RX0 : String := "CountyJigsaw$BestLaying"
def TX0 : u_T := fun k => match k with
  | 0 => ("CountyJigsaw$BestLaying", "gaps", "[I", true)
  | 1 => ("CountyJigsaw$BestLaying", "firstEdges", "[I", true)
  | 2 => ("CountyJigsaw$BestLaying", "lastEdges", "[I", true)
  | _ => ("CountyJigsaw$BestLaying", "rests", "[I", true)
def tyX0 : Nat → FieldType := fun k => match k with
  | 0 => .array .int
  | 1 => .array .int
  | 2 => .array .int
  | _ => .array .int
abbrev wsX00 : List Cond := u_ws RX0 TX0 4
theorem nmX0 : ∀ a, a < 4 → ∀ b, b < 4 → a ≠ b → (TX0 a).2.1 ≠ (TX0 b).2.1 := by decide +kernel
theorem tyX0_ok : ∀ k, k < 4 → parseFieldDescriptor (TX0 k).2.2.1 = some (tyX0 k) := by decide +kernel
abbrev cX0_init : ByteArray := prog_2_method_1_code
def yX0_init : MethodName := ⟨RX0, "<init>", "()V"⟩
abbrev cX0_leastSum : ByteArray := prog_2_method_2_code
def yX0_leastSum : MethodName := ⟨RX0, "leastSum", "(LCountyJigsaw$County;)I"⟩
abbrev cX0_pieceAt : ByteArray := prog_2_method_3_code
def yX0_pieceAt : MethodName := ⟨RX0, "pieceAt", "(LCountyJigsaw$County;I)I"⟩
abbrev cX0_weigh : ByteArray := prog_2_method_4_code
def yX0_weigh : MethodName := ⟨RX0, "weigh", "(LCountyJigsaw$County;)V"⟩
abbrev cX0_fillRests : ByteArray := prog_2_method_5_code
def yX0_fillRests : MethodName := ⟨RX0, "fillRests", "(I)V"⟩
abbrev cX0_leastRest : ByteArray := prog_2_method_6_code
def yX0_leastRest : MethodName := ⟨RX0, "leastRest", "(III)I"⟩
abbrev cX0_bestNext : ByteArray := prog_2_method_7_code
def yX0_bestNext : MethodName := ⟨RX0, "bestNext", "(III)I"⟩
abbrev cX0_costOfNext : ByteArray := prog_2_method_8_code
def yX0_costOfNext : MethodName := ⟨RX0, "costOfNext", "(III)I"⟩
def RX1 : String := "CountyJigsaw$County"
def TX1 : u_T := fun k => match k with
  | 0 => ("CountyJigsaw$County", "kind", "[I", true)
  | 1 => ("CountyJigsaw$County", "left", "[I", true)
  | 2 => ("CountyJigsaw$County", "right", "[I", true)
  | 3 => ("CountyJigsaw$County", "want", "[I", true)
  | 4 => ("CountyJigsaw$County", "row", "[I", true)
  | 5 => ("CountyJigsaw$County", "swaps", "[I", true)
  | 6 => ("CountyJigsaw$County", "spots", "[I", true)
  | 7 => ("CountyJigsaw$County", "turned", "I", false)
  | 8 => ("CountyJigsaw$County", "pieces", "I", false)
  | 9 => ("CountyJigsaw$County", "year", "I", false)
  | _ => ("CountyJigsaw$County", "z", "I", false)
def tyX1 : Nat → FieldType := fun k => match k with
  | 0 => .array .int
  | 1 => .array .int
  | 2 => .array .int
  | 3 => .array .int
  | 4 => .array .int
  | 5 => .array .int
  | 6 => .array .int
  | 7 => .int
  | 8 => .int
  | 9 => .int
  | _ => .int
abbrev wsX10 : List Cond := u_ws RX1 TX1 11
theorem nmX1 : ∀ a, a < 11 → ∀ b, b < 11 → a ≠ b → (TX1 a).2.1 ≠ (TX1 b).2.1 := by decide +kernel
theorem tyX1_ok : ∀ k, k < 11 → parseFieldDescriptor (TX1 k).2.2.1 = some (tyX1 k) := by decide +kernel
abbrev cX1_init : ByteArray := prog_3_method_1_code
def yX1_init : MethodName := ⟨RX1, "<init>", "()V"⟩
abbrev cX1_takeFrom : ByteArray := prog_3_method_2_code
def yX1_takeFrom : MethodName := ⟨RX1, "takeFrom", "(LCountyJigsaw$County;)V"⟩
abbrev cX1_has : ByteArray := prog_3_method_3_code
def yX1_has : MethodName := ⟨RX1, "has", "(I)Z"⟩
abbrev cX1_addPiece : ByteArray := prog_3_method_4_code
def yX1_addPiece : MethodName := ⟨RX1, "addPiece", "(III)I"⟩
abbrev cX1_told : ByteArray := prog_3_method_5_code
def yX1_told : MethodName := ⟨RX1, "told", "(II)I"⟩
abbrev cX1_become : ByteArray := prog_3_method_6_code
def yX1_become : MethodName := ⟨RX1, "become", "(III)V"⟩
abbrev cX1_placeOf : ByteArray := prog_3_method_7_code
def yX1_placeOf : MethodName := ⟨RX1, "placeOf", "(I)I"⟩
abbrev cX1_shownLeft : ByteArray := prog_3_method_8_code
def yX1_shownLeft : MethodName := ⟨RX1, "shownLeft", "(I)I"⟩
abbrev cX1_shownRight : ByteArray := prog_3_method_9_code
def yX1_shownRight : MethodName := ⟨RX1, "shownRight", "(I)I"⟩
abbrev cX1_gapOf : ByteArray := prog_3_method_10_code
def yX1_gapOf : MethodName := ⟨RX1, "gapOf", "(II)I"⟩
abbrev cX1_edgeOf : ByteArray := prog_3_method_11_code
def yX1_edgeOf : MethodName := ⟨RX1, "edgeOf", "(II)I"⟩
abbrev cX1_growsOf : ByteArray := prog_3_method_12_code
def yX1_growsOf : MethodName := ⟨RX1, "growsOf", "(I)I"⟩
abbrev cX1_gapBehind : ByteArray := prog_3_method_13_code
def yX1_gapBehind : MethodName := ⟨RX1, "gapBehind", "(I)I"⟩
abbrev cX1_sumOfRow : ByteArray := prog_3_method_14_code
def yX1_sumOfRow : MethodName := ⟨RX1, "sumOfRow", "()I"⟩
abbrev cX1_exchange : ByteArray := prog_3_method_15_code
def yX1_exchange : MethodName := ⟨RX1, "exchange", "(II)V"⟩
abbrev cX1_passYears : ByteArray := prog_3_method_16_code
def yX1_passYears : MethodName := ⟨RX1, "passYears", "(I)V"⟩
abbrev cX1_passYear : ByteArray := prog_3_method_17_code
def yX1_passYear : MethodName := ⟨RX1, "passYear", "()V"⟩
abbrev cX1_cut : ByteArray := prog_3_method_18_code
def yX1_cut : MethodName := ⟨RX1, "cut", "()V"⟩
abbrev cX1_draw : ByteArray := prog_3_method_19_code
def yX1_draw : MethodName := ⟨RX1, "draw", "()I"⟩
abbrev cX1_isGranted : ByteArray := prog_3_method_20_code
def yX1_isGranted : MethodName := ⟨RX1, "isGranted", "(I)Z"⟩
abbrev cX1_grantedPieces : ByteArray := prog_3_method_21_code
def yX1_grantedPieces : MethodName := ⟨RX1, "grantedPieces", "()I"⟩
abbrev cX1_closedPlaces : ByteArray := prog_3_method_22_code
def yX1_closedPlaces : MethodName := ⟨RX1, "closedPlaces", "()I"⟩
abbrev cX1_greatestGap : ByteArray := prog_3_method_23_code
def yX1_greatestGap : MethodName := ⟨RX1, "greatestGap", "()I"⟩
abbrev cX1_filledSpots : ByteArray := prog_3_method_24_code
def yX1_filledSpots : MethodName := ⟨RX1, "filledSpots", "()I"⟩
def RX2 : String := "CountyJigsaw$Sheet"
def TX2 : u_T := fun k => match k with
  | 0 => ("CountyJigsaw$Sheet", "numbers", "[I", true)
  | 1 => ("CountyJigsaw$Sheet", "bits", "I", false)
  | _ => ("CountyJigsaw$Sheet", "size", "I", false)
def tyX2 : Nat → FieldType := fun k => match k with
  | 0 => .array .int
  | 1 => .int
  | _ => .int
abbrev wsX20 : List Cond := u_ws RX2 TX2 3
theorem nmX2 : ∀ a, a < 3 → ∀ b, b < 3 → a ≠ b → (TX2 a).2.1 ≠ (TX2 b).2.1 := by decide +kernel
theorem tyX2_ok : ∀ k, k < 3 → parseFieldDescriptor (TX2 k).2.2.1 = some (tyX2 k) := by decide +kernel
abbrev cX2_init : ByteArray := prog_4_method_1_code
def yX2_init : MethodName := ⟨RX2, "<init>", "()V"⟩
abbrev cX2_begin : ByteArray := prog_4_method_2_code
def yX2_begin : MethodName := ⟨RX2, "begin", "(II)V"⟩
abbrev cX2_put : ByteArray := prog_4_method_3_code
def yX2_put : MethodName := ⟨RX2, "put", "(II)V"⟩
abbrev cX2_hasRun : ByteArray := prog_4_method_4_code
def yX2_hasRun : MethodName := ⟨RX2, "hasRun", "(II)Z"⟩
def RX3 : String := "CountyJigsaw$Tape"
def TX3 : u_T := fun k => match k with
  | 0 => ("CountyJigsaw$Tape", "bytes", "[I", true)
  | 1 => ("CountyJigsaw$Tape", "length", "I", false)
  | 2 => ("CountyJigsaw$Tape", "sort", "I", false)
  | 3 => ("CountyJigsaw$Tape", "begin", "I", false)
  | _ => ("CountyJigsaw$Tape", "end", "I", false)
def tyX3 : Nat → FieldType := fun k => match k with
  | 0 => .array .int
  | 1 => .int
  | 2 => .int
  | 3 => .int
  | _ => .int
abbrev wsX30 : List Cond := u_ws RX3 TX3 5
theorem nmX3 : ∀ a, a < 5 → ∀ b, b < 5 → a ≠ b → (TX3 a).2.1 ≠ (TX3 b).2.1 := by decide +kernel
theorem tyX3_ok : ∀ k, k < 5 → parseFieldDescriptor (TX3 k).2.2.1 = some (tyX3 k) := by decide +kernel
abbrev cX3_init : ByteArray := prog_5_method_1_code
def yX3_init : MethodName := ⟨RX3, "<init>", "()V"⟩
abbrev cX3_append : ByteArray := prog_5_method_2_code
def yX3_append : MethodName := ⟨RX3, "append", "(II)V"⟩
abbrev cX3_readInto : ByteArray := prog_5_method_3_code
def yX3_readInto : MethodName := ⟨RX3, "readInto", "(LCountyJigsaw$County;)I"⟩
abbrev cX3_readItem : ByteArray := prog_5_method_4_code
def yX3_readItem : MethodName := ⟨RX3, "readItem", "(LCountyJigsaw$County;)Z"⟩
abbrev cX3_readPiece : ByteArray := prog_5_method_5_code
def yX3_readPiece : MethodName := ⟨RX3, "readPiece", "(LCountyJigsaw$County;I)Z"⟩
abbrev cX3_readSwap : ByteArray := prog_5_method_6_code
def yX3_readSwap : MethodName := ⟨RX3, "readSwap", "(LCountyJigsaw$County;)Z"⟩
abbrev cX3_readLay : ByteArray := prog_5_method_7_code
def yX3_readLay : MethodName := ⟨RX3, "readLay", "(LCountyJigsaw$County;)Z"⟩
abbrev cX3_readNumber : ByteArray := prog_5_method_8_code
def yX3_readNumber : MethodName := ⟨RX3, "readNumber", "(I)I"⟩
abbrev cX3_kindNamed : ByteArray := prog_5_method_9_code
def yX3_kindNamed : MethodName := ⟨RX3, "kindNamed", "()I"⟩
abbrev cX3_nameOf : ByteArray := prog_5_method_10_code
def yX3_nameOf : MethodName := ⟨RX3, "nameOf", "(I)Ljava/lang/String;"⟩
abbrev cX3_isWord : ByteArray := prog_5_method_11_code
def yX3_isWord : MethodName := ⟨RX3, "isWord", "(Ljava/lang/String;)Z"⟩
abbrev cX3_step : ByteArray := prog_5_method_12_code
def yX3_step : MethodName := ⟨RX3, "step", "()V"⟩
abbrev cX3_sortAt : ByteArray := prog_5_method_13_code
def yX3_sortAt : MethodName := ⟨RX3, "sortAt", "(I)I"⟩
abbrev cX3_valueOfDigits : ByteArray := prog_5_method_14_code
def yX3_valueOfDigits : MethodName := ⟨RX3, "valueOfDigits", "()I"⟩
def RX4 : String := "CountyJigsaw"
def TX4 : u_T := fun k => match k with
  | 0 => ("CountyJigsaw", "county", "LCountyJigsaw$County;", true)
  | 1 => ("CountyJigsaw", "kept", "LCountyJigsaw$County;", true)
  | 2 => ("CountyJigsaw", "trial", "LCountyJigsaw$County;", true)
  | 3 => ("CountyJigsaw", "laying", "LCountyJigsaw$BestLaying;", true)
  | 4 => ("CountyJigsaw", "tape", "LCountyJigsaw$Tape;", true)
  | 5 => ("CountyJigsaw", "sheets", "[LCountyJigsaw$Sheet;", true)
  | 6 => ("CountyJigsaw", "findings", "[I", true)
  | _ => ("CountyJigsaw", "isKept", "Z", false)
def tyX4 : Nat → FieldType := fun k => match k with
  | 0 => .object "CountyJigsaw$County"
  | 1 => .object "CountyJigsaw$County"
  | 2 => .object "CountyJigsaw$County"
  | 3 => .object "CountyJigsaw$BestLaying"
  | 4 => .object "CountyJigsaw$Tape"
  | 5 => .array (.object "CountyJigsaw$Sheet")
  | 6 => .array .int
  | _ => .boolean
abbrev wsX40 : List Cond := u_ws RX4 TX4 8
theorem nmX4 : ∀ a, a < 8 → ∀ b, b < 8 → a ≠ b → (TX4 a).2.1 ≠ (TX4 b).2.1 := by decide +kernel
theorem tyX4_ok : ∀ k, k < 8 → parseFieldDescriptor (TX4 k).2.2.1 = some (tyX4 k) := by decide +kernel
abbrev cX4_init : ByteArray := prog_1_method_1_code
def yX4_init : MethodName := ⟨RX4, "<init>", "()V"⟩
abbrev cX4_list : ByteArray := prog_1_method_2_code
def yX4_list : MethodName := ⟨RX4, "list", "(III)I"⟩
abbrev cX4_listed : ByteArray := prog_1_method_3_code
def yX4_listed : MethodName := ⟨RX4, "listed", "(I)I"⟩
abbrev cX4_piece : ByteArray := prog_1_method_4_code
def yX4_piece : MethodName := ⟨RX4, "piece", "(III)I"⟩
abbrev cX4_of : ByteArray := prog_1_method_5_code
def yX4_of : MethodName := ⟨RX4, "of", "(II)I"⟩
abbrev cX4_change : ByteArray := prog_1_method_6_code
def yX4_change : MethodName := ⟨RX4, "change", "(III)I"⟩
abbrev cX4_lies : ByteArray := prog_1_method_7_code
def yX4_lies : MethodName := ⟨RX4, "lies", "(I)I"⟩
abbrev cX4_gap : ByteArray := prog_1_method_8_code
def yX4_gap : MethodName := ⟨RX4, "gap", "(II)I"⟩
abbrev cX4_edge : ByteArray := prog_1_method_9_code
def yX4_edge : MethodName := ⟨RX4, "edge", "(II)I"⟩
abbrev cX4_swap : ByteArray := prog_1_method_10_code
def yX4_swap : MethodName := ⟨RX4, "swap", "(II)I"⟩
abbrev cX4_go : ByteArray := prog_1_method_11_code
def yX4_go : MethodName := ⟨RX4, "go", "(I)I"⟩
abbrev cX4_now : ByteArray := prog_1_method_12_code
def yX4_now : MethodName := ⟨RX4, "now", "(I)I"⟩
abbrev cX4_ahead : ByteArray := prog_1_method_13_code
def yX4_ahead : MethodName := ⟨RX4, "ahead", "(III)I"⟩
abbrev cX4_sum : ByteArray := prog_1_method_14_code
def yX4_sum : MethodName := ⟨RX4, "sum", "(I)I"⟩
abbrev cX4_when : ByteArray := prog_1_method_15_code
def yX4_when : MethodName := ⟨RX4, "when", "(I)I"⟩
abbrev cX4_comes : ByteArray := prog_1_method_16_code
def yX4_comes : MethodName := ⟨RX4, "comes", "(II)I"⟩
abbrev cX4_granted : ByteArray := prog_1_method_17_code
def yX4_granted : MethodName := ⟨RX4, "granted", "(I)I"⟩
abbrev cX4_best : ByteArray := prog_1_method_18_code
def yX4_best : MethodName := ⟨RX4, "best", "()I"⟩
abbrev cX4_bestAt : ByteArray := prog_1_method_19_code
def yX4_bestAt : MethodName := ⟨RX4, "bestAt", "(I)I"⟩
abbrev cX4_settle : ByteArray := prog_1_method_20_code
def yX4_settle : MethodName := ⟨RX4, "settle", "()I"⟩
abbrev cX4_edgeFor : ByteArray := prog_1_method_21_code
def yX4_edgeFor : MethodName := ⟨RX4, "edgeFor", "(I)I"⟩
abbrev cX4_kindFor : ByteArray := prog_1_method_22_code
def yX4_kindFor : MethodName := ⟨RX4, "kindFor", "(I)I"⟩
abbrev cX4_turn : ByteArray := prog_1_method_23_code
def yX4_turn : MethodName := ⟨RX4, "turn", "(I)I"⟩
abbrev cX4_fits : ByteArray := prog_1_method_24_code
def yX4_fits : MethodName := ⟨RX4, "fits", "(II)I"⟩
abbrev cX4_kinds : ByteArray := prog_1_method_25_code
def yX4_kinds : MethodName := ⟨RX4, "kinds", "(II)I"⟩
abbrev cX4_tip : ByteArray := prog_1_method_26_code
def yX4_tip : MethodName := ⟨RX4, "tip", "(I)I"⟩
abbrev cX4_odds : ByteArray := prog_1_method_27_code
def yX4_odds : MethodName := ⟨RX4, "odds", "(II)J"⟩
abbrev cX4_seed : ByteArray := prog_1_method_28_code
def yX4_seed : MethodName := ⟨RX4, "seed", "(I)I"⟩
abbrev cX4_feed : ByteArray := prog_1_method_29_code
def yX4_feed : MethodName := ⟨RX4, "feed", "(II)I"⟩
abbrev cX4_wipe : ByteArray := prog_1_method_30_code
def yX4_wipe : MethodName := ⟨RX4, "wipe", "()I"⟩
abbrev cX4_text : ByteArray := prog_1_method_31_code
def yX4_text : MethodName := ⟨RX4, "text", "()I"⟩
abbrev cX4_hold : ByteArray := prog_1_method_32_code
def yX4_hold : MethodName := ⟨RX4, "hold", "(II)I"⟩
abbrev cX4_as : ByteArray := prog_1_method_33_code
def yX4_as : MethodName := ⟨RX4, "as", "(II)I"⟩
abbrev cX4_sheet : ByteArray := prog_1_method_34_code
def yX4_sheet : MethodName := ⟨RX4, "sheet", "(III)I"⟩
abbrev cX4_write : ByteArray := prog_1_method_35_code
def yX4_write : MethodName := ⟨RX4, "write", "(III)I"⟩
abbrev cX4_copy : ByteArray := prog_1_method_36_code
def yX4_copy : MethodName := ⟨RX4, "copy", "(IIIII)I"⟩
abbrev cX4_load : ByteArray := prog_1_method_37_code
def yX4_load : MethodName := ⟨RX4, "load", "(I)I"⟩
abbrev cX4_judge : ByteArray := prog_1_method_38_code
def yX4_judge : MethodName := ⟨RX4, "judge", "(I)I"⟩
abbrev cX4_image : ByteArray := prog_1_method_39_code
def yX4_image : MethodName := ⟨RX4, "image", "()I"⟩
abbrev cX4_undo : ByteArray := prog_1_method_40_code
def yX4_undo : MethodName := ⟨RX4, "undo", "()I"⟩
abbrev cX4_tear : ByteArray := prog_1_method_41_code
def yX4_tear : MethodName := ⟨RX4, "tear", "()I"⟩
abbrev cX4_count : ByteArray := prog_1_method_42_code
def yX4_count : MethodName := ⟨RX4, "count", "(I)I"⟩
abbrev cX4_status : ByteArray := prog_1_method_43_code
def yX4_status : MethodName := ⟨RX4, "status", "(I)I"⟩
abbrev cX4_found : ByteArray := prog_1_method_44_code
def yX4_found : MethodName := ⟨RX4, "found", "(I)I"⟩
abbrev cX4_allFindings : ByteArray := prog_1_method_45_code
def yX4_allFindings : MethodName := ⟨RX4, "allFindings", "()I"⟩
abbrev cX4_wrongSheet : ByteArray := prog_1_method_46_code
def yX4_wrongSheet : MethodName := ⟨RX4, "wrongSheet", "(I)I"⟩
abbrev cX4_leastExchange : ByteArray := prog_1_method_47_code
def yX4_leastExchange : MethodName := ⟨RX4, "leastExchange", "()I"⟩
abbrev cX4_sumExchanged : ByteArray := prog_1_method_48_code
def yX4_sumExchanged : MethodName := ⟨RX4, "sumExchanged", "(II)I"⟩
abbrev cX4_harmlessSwaps : ByteArray := prog_1_method_49_code
def yX4_harmlessSwaps : MethodName := ⟨RX4, "harmlessSwaps", "()I"⟩
abbrev cX4_bestValueFor : ByteArray := prog_1_method_50_code
def yX4_bestValueFor : MethodName := ⟨RX4, "bestValueFor", "(III)I"⟩
abbrev cX4_trialGoesAs : ByteArray := prog_1_method_51_code
def yX4_trialGoesAs : MethodName := ⟨RX4, "trialGoesAs", "(LCountyJigsaw$Sheet;)Z"⟩
abbrev cX4_power : ByteArray := prog_1_method_52_code
def yX4_power : MethodName := ⟨RX4, "power", "(II)J"⟩
abbrev cX4_couldBe : ByteArray := prog_1_method_53_code
def yX4_couldBe : MethodName := ⟨RX4, "couldBe", "(II)Z"⟩
abbrev cX4_isKind : ByteArray := prog_1_method_54_code
def yX4_isKind : MethodName := ⟨RX4, "isKind", "(I)Z"⟩
abbrev cX4_isEdge : ByteArray := prog_1_method_55_code
def yX4_isEdge : MethodName := ⟨RX4, "isEdge", "(I)Z"⟩
abbrev cX4_isPlace : ByteArray := prog_1_method_56_code
def yX4_isPlace : MethodName := ⟨RX4, "isPlace", "(I)Z"⟩
abbrev cX4_isListPlace : ByteArray := prog_1_method_57_code
def yX4_isListPlace : MethodName := ⟨RX4, "isListPlace", "(I)Z"⟩
abbrev cX4_isSpot : ByteArray := prog_1_method_58_code
def yX4_isSpot : MethodName := ⟨RX4, "isSpot", "(I)Z"⟩
abbrev cX4_isSheet : ByteArray := prog_1_method_59_code
def yX4_isSheet : MethodName := ⟨RX4, "isSheet", "(I)Z"⟩
abbrev cX4_isToldSum : ByteArray := prog_1_method_60_code
def yX4_isToldSum : MethodName := ⟨RX4, "isToldSum", "(I)Z"⟩
abbrev cX4_isOrUnder : ByteArray := prog_1_method_61_code
def yX4_isOrUnder : MethodName := ⟨RX4, "isOrUnder", "(II)Z"⟩
def RX5 : String := "CountyJigsawModel"
def TX5 : u_T := fun k => match k with
  | 0 => ("CountyJigsawModel", "now", "[I", true)
  | 1 => ("CountyJigsawModel", "kept", "[I", true)
  | 2 => ("CountyJigsawModel", "aside", "[I", true)
  | 3 => ("CountyJigsawModel", "isKept", "Z", false)
  | 4 => ("CountyJigsawModel", "found", "[I", true)
  | 5 => ("CountyJigsawModel", "rest", "[I", true)
  | 6 => ("CountyJigsawModel", "tape", "[I", true)
  | 7 => ("CountyJigsawModel", "taped", "I", false)
  | 8 => ("CountyJigsawModel", "begins", "I", false)
  | 9 => ("CountyJigsawModel", "ends", "I", false)
  | 10 => ("CountyJigsawModel", "sort", "I", false)
  | 11 => ("CountyJigsawModel", "value", "I", false)
  | 12 => ("CountyJigsawModel", "isWrong", "Z", false)
  | 13 => ("CountyJigsawModel", "kindNames", "[Ljava/lang/String;", true)
  | 14 => ("CountyJigsawModel", "items", "[I", true)
  | 15 => ("CountyJigsawModel", "itemMany", "I", false)
  | 16 => ("CountyJigsawModel", "piecesThen", "I", false)
  | 17 => ("CountyJigsawModel", "widths", "[I", true)
  | 18 => ("CountyJigsawModel", "sizes", "[I", true)
  | 19 => ("CountyJigsawModel", "numbers", "[I", true)
  | _ => ("CountyJigsawModel", "moved", "[I", true)
def tyX5 : Nat → FieldType := fun k => match k with
  | 0 => .array .int
  | 1 => .array .int
  | 2 => .array .int
  | 3 => .boolean
  | 4 => .array .int
  | 5 => .array .int
  | 6 => .array .int
  | 7 => .int
  | 8 => .int
  | 9 => .int
  | 10 => .int
  | 11 => .int
  | 12 => .boolean
  | 13 => .array (.object "java/lang/String")
  | 14 => .array .int
  | 15 => .int
  | 16 => .int
  | 17 => .array .int
  | 18 => .array .int
  | 19 => .array .int
  | _ => .array .int
abbrev wsX50 : List Cond := u_ws RX5 TX5 21
theorem nmX5 : ∀ a, a < 21 → ∀ b, b < 21 → a ≠ b → (TX5 a).2.1 ≠ (TX5 b).2.1 := by decide +kernel
theorem tyX5_ok : ∀ k, k < 21 → parseFieldDescriptor (TX5 k).2.2.1 = some (tyX5 k) := by decide +kernel
abbrev cX5_init : ByteArray := prog_7_method_1_code
def yX5_init : MethodName := ⟨RX5, "<init>", "()V"⟩
abbrev cX5_finding : ByteArray := prog_7_method_2_code
def yX5_finding : MethodName := ⟨RX5, "finding", "(I)I"⟩
abbrev cX5_within : ByteArray := prog_7_method_3_code
def yX5_within : MethodName := ⟨RX5, "within", "(III)Z"⟩
abbrev cX5_become : ByteArray := prog_7_method_4_code
def yX5_become : MethodName := ⟨RX5, "become", "(II)I"⟩
abbrev cX5_copyRow : ByteArray := prog_7_method_5_code
def yX5_copyRow : MethodName := ⟨RX5, "copyRow", "([I[I)V"⟩
abbrev cX5_putBack : ByteArray := prog_7_method_6_code
def yX5_putBack : MethodName := ⟨RX5, "putBack", "(I)I"⟩
abbrev cX5_orNone : ByteArray := prog_7_method_7_code
def yX5_orNone : MethodName := ⟨RX5, "orNone", "(I)I"⟩
abbrev cX5_bits : ByteArray := prog_7_method_8_code
def yX5_bits : MethodName := ⟨RX5, "bits", "(I)I"⟩
abbrev cX5_isOne : ByteArray := prog_7_method_9_code
def yX5_isOne : MethodName := ⟨RX5, "isOne", "(I)Z"⟩
abbrev cX5_isEdge : ByteArray := prog_7_method_10_code
def yX5_isEdge : MethodName := ⟨RX5, "isEdge", "(I)Z"⟩
abbrev cX5_isPlace : ByteArray := prog_7_method_11_code
def yX5_isPlace : MethodName := ⟨RX5, "isPlace", "(I)Z"⟩
abbrev cX5_list : ByteArray := prog_7_method_12_code
def yX5_list : MethodName := ⟨RX5, "list", "(III)I"⟩
abbrev cX5_listed : ByteArray := prog_7_method_13_code
def yX5_listed : MethodName := ⟨RX5, "listed", "(I)I"⟩
abbrev cX5_placeNow : ByteArray := prog_7_method_14_code
def yX5_placeNow : MethodName := ⟨RX5, "placeNow", "()I"⟩
abbrev cX5_pieceAt : ByteArray := prog_7_method_15_code
def yX5_pieceAt : MethodName := ⟨RX5, "pieceAt", "(II)I"⟩
abbrev cX5_pieceIs : ByteArray := prog_7_method_16_code
def yX5_pieceIs : MethodName := ⟨RX5, "pieceIs", "(II)I"⟩
abbrev cX5_isPiece : ByteArray := prog_7_method_17_code
def yX5_isPiece : MethodName := ⟨RX5, "isPiece", "(I)Z"⟩
abbrev cX5_isKind : ByteArray := prog_7_method_18_code
def yX5_isKind : MethodName := ⟨RX5, "isKind", "(I)Z"⟩
abbrev cX5_isCut : ByteArray := prog_7_method_19_code
def yX5_isCut : MethodName := ⟨RX5, "isCut", "(III)I"⟩
abbrev cX5_piece : ByteArray := prog_7_method_20_code
def yX5_piece : MethodName := ⟨RX5, "piece", "(III)I"⟩
abbrev cX5_whereLies : ByteArray := prog_7_method_21_code
def yX5_whereLies : MethodName := ⟨RX5, "whereLies", "(I)I"⟩
abbrev cX5_grows : ByteArray := prog_7_method_22_code
def yX5_grows : MethodName := ⟨RX5, "grows", "(I)I"⟩
abbrev cX5_told : ByteArray := prog_7_method_23_code
def yX5_told : MethodName := ⟨RX5, "told", "(II)I"⟩
abbrev cX5_of : ByteArray := prog_7_method_24_code
def yX5_of : MethodName := ⟨RX5, "of", "(II)I"⟩
abbrev cX5_isField : ByteArray := prog_7_method_25_code
def yX5_isField : MethodName := ⟨RX5, "isField", "(II)Z"⟩
abbrev cX5_change : ByteArray := prog_7_method_26_code
def yX5_change : MethodName := ⟨RX5, "change", "(III)I"⟩
abbrev cX5_lies : ByteArray := prog_7_method_27_code
def yX5_lies : MethodName := ⟨RX5, "lies", "(I)I"⟩
abbrev cX5_side : ByteArray := prog_7_method_28_code
def yX5_side : MethodName := ⟨RX5, "side", "(II)I"⟩
abbrev cX5_isSky : ByteArray := prog_7_method_29_code
def yX5_isSky : MethodName := ⟨RX5, "isSky", "(I)Z"⟩
abbrev cX5_gapOf : ByteArray := prog_7_method_30_code
def yX5_gapOf : MethodName := ⟨RX5, "gapOf", "(II)I"⟩
abbrev cX5_gap : ByteArray := prog_7_method_31_code
def yX5_gap : MethodName := ⟨RX5, "gap", "(II)I"⟩
abbrev cX5_edgeOf : ByteArray := prog_7_method_32_code
def yX5_edgeOf : MethodName := ⟨RX5, "edgeOf", "(II)I"⟩
abbrev cX5_edge : ByteArray := prog_7_method_33_code
def yX5_edge : MethodName := ⟨RX5, "edge", "(II)I"⟩
abbrev cX5_sumNow : ByteArray := prog_7_method_34_code
def yX5_sumNow : MethodName := ⟨RX5, "sumNow", "()I"⟩
abbrev cX5_exchange : ByteArray := prog_7_method_35_code
def yX5_exchange : MethodName := ⟨RX5, "exchange", "(II)V"⟩
abbrev cX5_swap : ByteArray := prog_7_method_36_code
def yX5_swap : MethodName := ⟨RX5, "swap", "(II)I"⟩
abbrev cX5_year : ByteArray := prog_7_method_37_code
def yX5_year : MethodName := ⟨RX5, "year", "()V"⟩
abbrev cX5_yearsGo : ByteArray := prog_7_method_38_code
def yX5_yearsGo : MethodName := ⟨RX5, "yearsGo", "(I)V"⟩
abbrev cX5_go : ByteArray := prog_7_method_39_code
def yX5_go : MethodName := ⟨RX5, "go", "(I)I"⟩
abbrev cX5_isGranted : ByteArray := prog_7_method_40_code
def yX5_isGranted : MethodName := ⟨RX5, "isGranted", "(I)Z"⟩
abbrev cX5_closePlaces : ByteArray := prog_7_method_41_code
def yX5_closePlaces : MethodName := ⟨RX5, "closePlaces", "()I"⟩
abbrev cX5_grantedOnes : ByteArray := prog_7_method_42_code
def yX5_grantedOnes : MethodName := ⟨RX5, "grantedOnes", "()I"⟩
abbrev cX5_widestGap : ByteArray := prog_7_method_43_code
def yX5_widestGap : MethodName := ⟨RX5, "widestGap", "()I"⟩
abbrev cX5_turnedOnes : ByteArray := prog_7_method_44_code
def yX5_turnedOnes : MethodName := ⟨RX5, "turnedOnes", "()I"⟩
abbrev cX5_now : ByteArray := prog_7_method_45_code
def yX5_now : MethodName := ⟨RX5, "now", "(I)I"⟩
abbrev cX5_ahead : ByteArray := prog_7_method_46_code
def yX5_ahead : MethodName := ⟨RX5, "ahead", "(III)I"⟩
abbrev cX5_sum : ByteArray := prog_7_method_47_code
def yX5_sum : MethodName := ⟨RX5, "sum", "(I)I"⟩
abbrev cX5_when : ByteArray := prog_7_method_48_code
def yX5_when : MethodName := ⟨RX5, "when", "(I)I"⟩
abbrev cX5_comes : ByteArray := prog_7_method_49_code
def yX5_comes : MethodName := ⟨RX5, "comes", "(II)I"⟩
abbrev cX5_granted : ByteArray := prog_7_method_50_code
def yX5_granted : MethodName := ⟨RX5, "granted", "(I)I"⟩
abbrev cX5_leastRest : ByteArray := prog_7_method_51_code
def yX5_leastRest : MethodName := ⟨RX5, "leastRest", "(II)I"⟩
abbrev cX5_isTabled : ByteArray := prog_7_method_52_code
def yX5_isTabled : MethodName := ⟨RX5, "isTabled", "()V"⟩
abbrev cX5_bestNext : ByteArray := prog_7_method_53_code
def yX5_bestNext : MethodName := ⟨RX5, "bestNext", "(II)I"⟩
abbrev cX5_everything : ByteArray := prog_7_method_54_code
def yX5_everything : MethodName := ⟨RX5, "everything", "()I"⟩
abbrev cX5_bestSum : ByteArray := prog_7_method_55_code
def yX5_bestSum : MethodName := ⟨RX5, "bestSum", "()I"⟩
abbrev cX5_best : ByteArray := prog_7_method_56_code
def yX5_best : MethodName := ⟨RX5, "best", "()I"⟩
abbrev cX5_bestAt : ByteArray := prog_7_method_57_code
def yX5_bestAt : MethodName := ⟨RX5, "bestAt", "(I)I"⟩
abbrev cX5_betterSwap : ByteArray := prog_7_method_58_code
def yX5_betterSwap : MethodName := ⟨RX5, "betterSwap", "()I"⟩
abbrev cX5_settle : ByteArray := prog_7_method_59_code
def yX5_settle : MethodName := ⟨RX5, "settle", "()I"⟩
abbrev cX5_cheapest : ByteArray := prog_7_method_60_code
def yX5_cheapest : MethodName := ⟨RX5, "cheapest", "(II)I"⟩
abbrev cX5_edgeFor : ByteArray := prog_7_method_61_code
def yX5_edgeFor : MethodName := ⟨RX5, "edgeFor", "(I)I"⟩
abbrev cX5_kindFor : ByteArray := prog_7_method_62_code
def yX5_kindFor : MethodName := ⟨RX5, "kindFor", "(I)I"⟩
abbrev cX5_sumTurned : ByteArray := prog_7_method_63_code
def yX5_sumTurned : MethodName := ⟨RX5, "sumTurned", "(I)I"⟩
abbrev cX5_turn : ByteArray := prog_7_method_64_code
def yX5_turn : MethodName := ⟨RX5, "turn", "(I)I"⟩
abbrev cX5_lacks : ByteArray := prog_7_method_65_code
def yX5_lacks : MethodName := ⟨RX5, "lacks", "(IZ)I"⟩
abbrev cX5_isSo : ByteArray := prog_7_method_66_code
def yX5_isSo : MethodName := ⟨RX5, "isSo", "(I)Z"⟩
abbrev cX5_fits : ByteArray := prog_7_method_67_code
def yX5_fits : MethodName := ⟨RX5, "fits", "(II)I"⟩
abbrev cX5_kinds : ByteArray := prog_7_method_68_code
def yX5_kinds : MethodName := ⟨RX5, "kinds", "(II)I"⟩
abbrev cX5_drawn : ByteArray := prog_7_method_69_code
def yX5_drawn : MethodName := ⟨RX5, "drawn", "()I"⟩
abbrev cX5_tip : ByteArray := prog_7_method_70_code
def yX5_tip : MethodName := ⟨RX5, "tip", "(I)I"⟩
abbrev cX5_isNoWorse : ByteArray := prog_7_method_71_code
def yX5_isNoWorse : MethodName := ⟨RX5, "isNoWorse", "(II)Z"⟩
abbrev cX5_odds : ByteArray := prog_7_method_72_code
def yX5_odds : MethodName := ⟨RX5, "odds", "(II)J"⟩
abbrev cX5_seed : ByteArray := prog_7_method_73_code
def yX5_seed : MethodName := ⟨RX5, "seed", "(I)I"⟩
abbrev cX5_feed : ByteArray := prog_7_method_74_code
def yX5_feed : MethodName := ⟨RX5, "feed", "(II)I"⟩
abbrev cX5_wipe : ByteArray := prog_7_method_75_code
def yX5_wipe : MethodName := ⟨RX5, "wipe", "()I"⟩
abbrev cX5_byteAt : ByteArray := prog_7_method_76_code
def yX5_byteAt : MethodName := ⟨RX5, "byteAt", "(I)I"⟩
abbrev cX5_token : ByteArray := prog_7_method_77_code
def yX5_token : MethodName := ⟨RX5, "token", "()V"⟩
abbrev cX5_isWord : ByteArray := prog_7_method_78_code
def yX5_isWord : MethodName := ⟨RX5, "isWord", "(Ljava/lang/String;)Z"⟩
abbrev cX5_must : ByteArray := prog_7_method_79_code
def yX5_must : MethodName := ⟨RX5, "must", "(Z)V"⟩
abbrev cX5_number : ByteArray := prog_7_method_80_code
def yX5_number : MethodName := ⟨RX5, "number", "(II)I"⟩
abbrev cX5_addItem : ByteArray := prog_7_method_81_code
def yX5_addItem : MethodName := ⟨RX5, "addItem", "(IIIII)V"⟩
abbrev cX5_takesWord : ByteArray := prog_7_method_82_code
def yX5_takesWord : MethodName := ⟨RX5, "takesWord", "(Ljava/lang/String;)Z"⟩
abbrev cX5_readPiece : ByteArray := prog_7_method_83_code
def yX5_readPiece : MethodName := ⟨RX5, "readPiece", "(I)V"⟩
abbrev cX5_readItem : ByteArray := prog_7_method_84_code
def yX5_readItem : MethodName := ⟨RX5, "readItem", "()V"⟩
abbrev cX5_isToldSo : ByteArray := prog_7_method_85_code
def yX5_isToldSo : MethodName := ⟨RX5, "isToldSo", "(I)V"⟩
abbrev cX5_text : ByteArray := prog_7_method_86_code
def yX5_text : MethodName := ⟨RX5, "text", "()I"⟩
abbrev cX5_isSpot : ByteArray := prog_7_method_87_code
def yX5_isSpot : MethodName := ⟨RX5, "isSpot", "(I)Z"⟩
abbrev cX5_hold : ByteArray := prog_7_method_88_code
def yX5_hold : MethodName := ⟨RX5, "hold", "(II)I"⟩
abbrev cX5_as : ByteArray := prog_7_method_89_code
def yX5_as : MethodName := ⟨RX5, "as", "(II)I"⟩
abbrev cX5_isSheet : ByteArray := prog_7_method_90_code
def yX5_isSheet : MethodName := ⟨RX5, "isSheet", "(I)Z"⟩
abbrev cX5_cutTo : ByteArray := prog_7_method_91_code
def yX5_cutTo : MethodName := ⟨RX5, "cutTo", "(II)I"⟩
abbrev cX5_sheet : ByteArray := prog_7_method_92_code
def yX5_sheet : MethodName := ⟨RX5, "sheet", "(III)I"⟩
abbrev cX5_write : ByteArray := prog_7_method_93_code
def yX5_write : MethodName := ⟨RX5, "write", "(III)I"⟩
abbrev cX5_copy : ByteArray := prog_7_method_94_code
def yX5_copy : MethodName := ⟨RX5, "copy", "(IIIII)I"⟩
abbrev cX5_above : ByteArray := prog_7_method_95_code
def yX5_above : MethodName := ⟨RX5, "above", "(I)I"⟩
abbrev cX5_isUnder : ByteArray := prog_7_method_96_code
def yX5_isUnder : MethodName := ⟨RX5, "isUnder", "(II)Z"⟩
abbrev cX5_load : ByteArray := prog_7_method_97_code
def yX5_load : MethodName := ⟨RX5, "load", "(I)I"⟩
abbrev cX5_judge : ByteArray := prog_7_method_98_code
def yX5_judge : MethodName := ⟨RX5, "judge", "(I)I"⟩
abbrev cX5_image : ByteArray := prog_7_method_99_code
def yX5_image : MethodName := ⟨RX5, "image", "()I"⟩
abbrev cX5_undo : ByteArray := prog_7_method_100_code
def yX5_undo : MethodName := ⟨RX5, "undo", "()I"⟩
abbrev cX5_tear : ByteArray := prog_7_method_101_code
def yX5_tear : MethodName := ⟨RX5, "tear", "()I"⟩
abbrev cX5_count : ByteArray := prog_7_method_102_code
def yX5_count : MethodName := ⟨RX5, "count", "(I)I"⟩
abbrev cX5_status : ByteArray := prog_7_method_103_code
def yX5_status : MethodName := ⟨RX5, "status", "(I)I"⟩
def RJ6 : String := "java/lang/Integer"
def TJ6 : u_T := fun k => match k with
  | _ => ("", "", "", false)
def tyJ6 : Nat → FieldType := fun k => match k with
  | _ => .int
abbrev wsJ60 : List Cond := u_ws RJ6 TJ6 0
theorem nmJ6 : ∀ a, a < 0 → ∀ b, b < 0 → a ≠ b → (TJ6 a).2.1 ≠ (TJ6 b).2.1 := by decide +kernel
theorem tyJ6_ok : ∀ k, k < 0 → parseFieldDescriptor (TJ6 k).2.2.1 = some (tyJ6 k) := by decide +kernel
abbrev cJ6_bitCount_0f7a4 : ByteArray := prog_8_method_49_code
def yJ6_bitCount_0f7a4 : MethodName := ⟨RJ6, "bitCount", "(I)I"⟩
def RJ9 : String := "java/lang/Math"
def TJ9 : u_T := fun k => match k with
  | _ => ("", "", "", false)
def tyJ9 : Nat → FieldType := fun k => match k with
  | _ => .int
abbrev wsJ90 : List Cond := u_ws RJ9 TJ9 0
theorem nmJ9 : ∀ a, a < 0 → ∀ b, b < 0 → a ≠ b → (TJ9 a).2.1 ≠ (TJ9 b).2.1 := by decide +kernel
theorem tyJ9_ok : ∀ k, k < 0 → parseFieldDescriptor (TJ9 k).2.2.1 = some (tyJ9 k) := by decide +kernel
abbrev cJ9_abs_0f7a4 : ByteArray := prog_9_method_59_code
def yJ9_abs_0f7a4 : MethodName := ⟨RJ9, "abs", "(I)I"⟩
abbrev cJ9_max_7cf53 : ByteArray := prog_9_method_65_code
def yJ9_max_7cf53 : MethodName := ⟨RJ9, "max", "(II)I"⟩
abbrev cJ9_min_7cf53 : ByteArray := prog_9_method_69_code
def yJ9_min_7cf53 : MethodName := ⟨RJ9, "min", "(II)I"⟩
def RJ0 : String := "java/lang/String"
def TJ0 : u_T := fun k => match k with
  | _ => ("", "", "", false)
def tyJ0 : Nat → FieldType := fun k => match k with
  | _ => .int
abbrev wsJ00 : List Cond := u_ws RJ0 TJ0 0
theorem nmJ0 : ∀ a, a < 0 → ∀ b, b < 0 → a ≠ b → (TJ0 a).2.1 ≠ (TJ0 b).2.1 := by decide +kernel
theorem tyJ0_ok : ∀ k, k < 0 → parseFieldDescriptor (TJ0 k).2.2.1 = some (tyJ0 k) := by decide +kernel
abbrev cJ0_length_8abf5 : ByteArray := prog_10_method_54_code
def yJ0_length_8abf5 : MethodName := ⟨RJ0, "length", "()I"⟩
abbrev cJ0_charAt_5068e : ByteArray := prog_10_method_56_code
def yJ0_charAt_5068e : MethodName := ⟨RJ0, "charAt", "(I)C"⟩
abbrev cJ0_coder_7d493 : ByteArray := prog_10_method_152_code
def yJ0_coder_7d493 : MethodName := ⟨RJ0, "coder", "()B"⟩
abbrev cJ0_isLatin1_aae02 : ByteArray := prog_10_method_154_code
def yJ0_isLatin1_aae02 : MethodName := ⟨RJ0, "isLatin1", "()Z"⟩
abbrev cJ0_checkIndex_df160 : ByteArray := prog_10_method_155_code
def yJ0_checkIndex_df160 : MethodName := ⟨RJ0, "checkIndex", "(II)V"⟩
def RJ1 : String := "java/lang/StringLatin1"
def TJ1 : u_T := fun k => match k with
  | _ => ("", "", "", false)
def tyJ1 : Nat → FieldType := fun k => match k with
  | _ => .int
abbrev wsJ10 : List Cond := u_ws RJ1 TJ1 0
theorem nmJ1 : ∀ a, a < 0 → ∀ b, b < 0 → a ≠ b → (TJ1 a).2.1 ≠ (TJ1 b).2.1 := by decide +kernel
theorem tyJ1_ok : ∀ k, k < 0 → parseFieldDescriptor (TJ1 k).2.2.1 = some (tyJ1 k) := by decide +kernel
abbrev cJ1_charAt_3b067 : ByteArray := prog_11_method_2_code
def yJ1_charAt_3b067 : MethodName := ⟨RJ1, "charAt", "([BI)C"⟩
def RJ2 : String := "java/lang/StringUTF16"
def TJ2 : u_T := fun k => match k with
  | _ => ("", "", "", false)
def tyJ2 : Nat → FieldType := fun k => match k with
  | _ => .int
abbrev wsJ20 : List Cond := u_ws RJ2 TJ2 0
theorem nmJ2 : ∀ a, a < 0 → ∀ b, b < 0 → a ≠ b → (TJ2 a).2.1 ≠ (TJ2 b).2.1 := by decide +kernel
theorem tyJ2_ok : ∀ k, k < 0 → parseFieldDescriptor (TJ2 k).2.2.1 = some (tyJ2 k) := by decide +kernel
abbrev cJ2_getChar_3b067 : ByteArray := prog_12_method_5_code
def yJ2_getChar_3b067 : MethodName := ⟨RJ2, "getChar", "([BI)C"⟩
abbrev cJ2_length_9d52b : ByteArray := prog_12_method_6_code
def yJ2_length_9d52b : MethodName := ⟨RJ2, "length", "([B)I"⟩
abbrev cJ2_charAt_3b067 : ByteArray := prog_12_method_83_code
def yJ2_charAt_3b067 : MethodName := ⟨RJ2, "charAt", "([BI)C"⟩
abbrev cJ2_checkIndex_2214a : ByteArray := prog_12_method_91_code
def yJ2_checkIndex_2214a : MethodName := ⟨RJ2, "checkIndex", "(I[B)V"⟩
def RJ10 : String := "java/lang/System"
def TJ10 : u_T := fun k => match k with
  | _ => ("", "", "", false)
def tyJ10 : Nat → FieldType := fun k => match k with
  | _ => .int
abbrev wsJ100 : List Cond := u_ws RJ10 TJ10 0
theorem nmJ10 : ∀ a, a < 0 → ∀ b, b < 0 → a ≠ b → (TJ10 a).2.1 ≠ (TJ10 b).2.1 := by decide +kernel
theorem tyJ10_ok : ∀ k, k < 0 → parseFieldDescriptor (TJ10 k).2.2.1 = some (tyJ10 k) := by decide +kernel
def RJ3 : String := "jdk/internal/util/Preconditions"
def TJ3 : u_T := fun k => match k with
  | _ => ("", "", "", false)
def tyJ3 : Nat → FieldType := fun k => match k with
  | _ => .int
abbrev wsJ30 : List Cond := u_ws RJ3 TJ3 0
theorem nmJ3 : ∀ a, a < 0 → ∀ b, b < 0 → a ≠ b → (TJ3 a).2.1 ≠ (TJ3 b).2.1 := by decide +kernel
theorem tyJ3_ok : ∀ k, k < 0 → parseFieldDescriptor (TJ3 k).2.2.1 = some (tyJ3 k) := by decide +kernel
abbrev cJ3_checkIndex_8e157 : ByteArray := prog_14_method_11_code
def yJ3_checkIndex_8e157 : MethodName := ⟨RJ3, "checkIndex", "(IILjava/util/function/BiFunction;)I"⟩
def RL : String := "CountyJigsawLaw"
abbrev cL_law : ByteArray := code
def yL_law : MethodName := ⟨RL, "law", "([I)Z"⟩
/-! ===== END printed: names ===== -/
abbrev classes : List vw_C := [(RX0, TX0, 4), (RX1, TX1, 11), (RX2, TX2, 3), (RX3, TX3, 5), (RX4, TX4, 8), (RX5, TX5, 21)]
end
section
/-- the tables' words that every method may rest on -/
def gG : List Cond := lw_tbl.filter goodWord
theorem mG {i : Nat} {w : Cond} (h : lw_tbl[i]? = some w) (hg : goodWord w = true) : w ∈ gG := List.mem_filter.mpr ⟨List.mem_of_getElem? h, hg⟩
theorem gG_good : ∀ w ∈ gG, goodWord w = true := fun _ h => (List.mem_filter.mp h).2
def wz (y : MethodName) (b : ByteArray) (n : Nat) (r : Option FieldType) : List Cond := .code y b n r :: gG
theorem good_wz {y : MethodName} {b : ByteArray} {n : Nat} {r : Option FieldType} (h : Cond.code y b n r ∈ gG) : GoodIn gG (wz y b n r) := by
  intro w hw
  rcases List.mem_cons.mp hw with rfl | hw
  · exact ⟨h, good_of_word (gG_good _ h)⟩
  · exact ⟨hw, good_of_word (gG_good _ hw)⟩
theorem gG_sub {args : Array Value} {s : State} (h : ∀ w ∈ lw_tbl, w.before args s = true) : ∀ w ∈ gG, w.before args s = true := fun w hw => h w (List.mem_filter.mp hw).1
theorem inG {ws : List Cond} (h : ws.all (fun w => decide (w ∈ lw_tbl) && goodWord w) = true) : ∀ w ∈ ws, w ∈ gG := fun w hw => by
  have h1 := List.all_eq_true.mp h w hw
  simp only [Bool.and_eq_true, decide_eq_true_eq] at h1
  exact List.mem_filter.mpr h1
theorem iX0 : ∀ w ∈ wsX00, w ∈ gG := inG (by decide +kernel)
theorem iX1 : ∀ w ∈ wsX10, w ∈ gG := inG (by decide +kernel)
theorem iX2 : ∀ w ∈ wsX20, w ∈ gG := inG (by decide +kernel)
theorem iX3 : ∀ w ∈ wsX30, w ∈ gG := inG (by decide +kernel)
theorem iX4 : ∀ w ∈ wsX40, w ∈ gG := inG (by decide +kernel)
theorem iX5 : ∀ w ∈ wsX50, w ∈ gG := inG (by decide +kernel)
theorem tw_0 {args : Array Value} {s : State} (h : ∀ w ∈ gG, w.before args s = true) : (Cond.selects RX4 yX4_found yX4_found).before args s = true := h _ (mG (i := 0) (by decide +kernel) rfl)
theorem tw_1 {args : Array Value} {s : State} (h : ∀ w ∈ gG, w.before args s = true) : (Cond.selects RX0 yX0_weigh yX0_weigh).before args s = true := h _ (mG (i := 1) (by decide +kernel) rfl)
theorem tw_2 {args : Array Value} {s : State} (h : ∀ w ∈ gG, w.before args s = true) : (Cond.selects RX0 yX0_fillRests yX0_fillRests).before args s = true := h _ (mG (i := 2) (by decide +kernel) rfl)
theorem tw_3 {args : Array Value} {s : State} (h : ∀ w ∈ gG, w.before args s = true) : (Cond.selects RX0 yX0_leastRest yX0_leastRest).before args s = true := h _ (mG (i := 3) (by decide +kernel) rfl)
theorem tw_4 {args : Array Value} {s : State} (h : ∀ w ∈ gG, w.before args s = true) : (Cond.selects RX0 yX0_costOfNext yX0_costOfNext).before args s = true := h _ (mG (i := 4) (by decide +kernel) rfl)
theorem tw_5 {args : Array Value} {s : State} (h : ∀ w ∈ gG, w.before args s = true) : (Cond.selects RX0 yX0_bestNext yX0_bestNext).before args s = true := h _ (mG (i := 5) (by decide +kernel) rfl)
theorem tw_6 {args : Array Value} {s : State} (h : ∀ w ∈ gG, w.before args s = true) : (Cond.selects RX4 yX4_leastExchange yX4_leastExchange).before args s = true := h _ (mG (i := 6) (by decide +kernel) rfl)
theorem tw_7 {args : Array Value} {s : State} (h : ∀ w ∈ gG, w.before args s = true) : (Cond.selects RX4 yX4_sumExchanged yX4_sumExchanged).before args s = true := h _ (mG (i := 7) (by decide +kernel) rfl)
theorem tw_8 {args : Array Value} {s : State} (h : ∀ w ∈ gG, w.before args s = true) : (Cond.selects RX4 yX4_bestValueFor yX4_bestValueFor).before args s = true := h _ (mG (i := 8) (by decide +kernel) rfl)
theorem tw_9 {args : Array Value} {s : State} (h : ∀ w ∈ gG, w.before args s = true) : (Cond.selects RX4 yX4_wrongSheet yX4_wrongSheet).before args s = true := h _ (mG (i := 9) (by decide +kernel) rfl)
theorem tw_10 {args : Array Value} {s : State} (h : ∀ w ∈ gG, w.before args s = true) : (Cond.selects RX4 yX4_trialGoesAs yX4_trialGoesAs).before args s = true := h _ (mG (i := 10) (by decide +kernel) rfl)
theorem tw_11 {args : Array Value} {s : State} (h : ∀ w ∈ gG, w.before args s = true) : (Cond.selects RX4 yX4_harmlessSwaps yX4_harmlessSwaps).before args s = true := h _ (mG (i := 11) (by decide +kernel) rfl)
theorem tw_12 {args : Array Value} {s : State} (h : ∀ w ∈ gG, w.before args s = true) : (Cond.selects RX3 yX3_step yX3_step).before args s = true := h _ (mG (i := 12) (by decide +kernel) rfl)
theorem tw_13 {args : Array Value} {s : State} (h : ∀ w ∈ gG, w.before args s = true) : (Cond.selects RX3 yX3_sortAt yX3_sortAt).before args s = true := h _ (mG (i := 13) (by decide +kernel) rfl)
theorem tw_14 {args : Array Value} {s : State} (h : ∀ w ∈ gG, w.before args s = true) : (Cond.selects RX3 yX3_readItem yX3_readItem).before args s = true := h _ (mG (i := 14) (by decide +kernel) rfl)
theorem tw_15 {args : Array Value} {s : State} (h : ∀ w ∈ gG, w.before args s = true) : (Cond.selects RX3 yX3_kindNamed yX3_kindNamed).before args s = true := h _ (mG (i := 15) (by decide +kernel) rfl)
theorem tw_16 {args : Array Value} {s : State} (h : ∀ w ∈ gG, w.before args s = true) : (Cond.selects RX3 yX3_isWord yX3_isWord).before args s = true := h _ (mG (i := 16) (by decide +kernel) rfl)
theorem tw_17 {args : Array Value} {s : State} (h : ∀ w ∈ gG, w.before args s = true) : (Cond.selects RX3 yX3_readPiece yX3_readPiece).before args s = true := h _ (mG (i := 17) (by decide +kernel) rfl)
theorem tw_18 {args : Array Value} {s : State} (h : ∀ w ∈ gG, w.before args s = true) : (Cond.selects RX3 yX3_readNumber yX3_readNumber).before args s = true := h _ (mG (i := 18) (by decide +kernel) rfl)
theorem tw_19 {args : Array Value} {s : State} (h : ∀ w ∈ gG, w.before args s = true) : (Cond.selects RX3 yX3_valueOfDigits yX3_valueOfDigits).before args s = true := h _ (mG (i := 19) (by decide +kernel) rfl)
theorem tw_20 {args : Array Value} {s : State} (h : ∀ w ∈ gG, w.before args s = true) : (Cond.selects RX3 yX3_readSwap yX3_readSwap).before args s = true := h _ (mG (i := 20) (by decide +kernel) rfl)
theorem tw_21 {args : Array Value} {s : State} (h : ∀ w ∈ gG, w.before args s = true) : (Cond.selects RX3 yX3_readLay yX3_readLay).before args s = true := h _ (mG (i := 21) (by decide +kernel) rfl)
theorem tw_22 {args : Array Value} {s : State} (h : ∀ w ∈ gG, w.before args s = true) : (Cond.selects RX4 yX4_allFindings yX4_allFindings).before args s = true := h _ (mG (i := 22) (by decide +kernel) rfl)
theorem tw_23 {args : Array Value} {s : State} (h : ∀ w ∈ gG, w.before args s = true) : (Cond.selects RX5 yX5_become yX5_become).before args s = true := h _ (mG (i := 23) (by decide +kernel) rfl)
theorem tw_24 {args : Array Value} {s : State} (h : ∀ w ∈ gG, w.before args s = true) : (Cond.selects RX5 yX5_finding yX5_finding).before args s = true := h _ (mG (i := 24) (by decide +kernel) rfl)
theorem tw_25 {args : Array Value} {s : State} (h : ∀ w ∈ gG, w.before args s = true) : (Cond.selects RX5 yX5_isCut yX5_isCut).before args s = true := h _ (mG (i := 25) (by decide +kernel) rfl)
theorem tw_26 {args : Array Value} {s : State} (h : ∀ w ∈ gG, w.before args s = true) : (Cond.selects RX5 yX5_isPiece yX5_isPiece).before args s = true := h _ (mG (i := 26) (by decide +kernel) rfl)
theorem tw_27 {args : Array Value} {s : State} (h : ∀ w ∈ gG, w.before args s = true) : (Cond.selects RX5 yX5_told yX5_told).before args s = true := h _ (mG (i := 27) (by decide +kernel) rfl)
theorem tw_28 {args : Array Value} {s : State} (h : ∀ w ∈ gG, w.before args s = true) : (Cond.selects RX5 yX5_whereLies yX5_whereLies).before args s = true := h _ (mG (i := 28) (by decide +kernel) rfl)
theorem tw_29 {args : Array Value} {s : State} (h : ∀ w ∈ gG, w.before args s = true) : (Cond.selects RX5 yX5_grows yX5_grows).before args s = true := h _ (mG (i := 29) (by decide +kernel) rfl)
theorem tw_30 {args : Array Value} {s : State} (h : ∀ w ∈ gG, w.before args s = true) : (Cond.selects RX5 yX5_pieceIs yX5_pieceIs).before args s = true := h _ (mG (i := 30) (by decide +kernel) rfl)
theorem tw_31 {args : Array Value} {s : State} (h : ∀ w ∈ gG, w.before args s = true) : (Cond.selects RX5 yX5_gapOf yX5_gapOf).before args s = true := h _ (mG (i := 31) (by decide +kernel) rfl)
theorem tw_32 {args : Array Value} {s : State} (h : ∀ w ∈ gG, w.before args s = true) : (Cond.selects RX5 yX5_side yX5_side).before args s = true := h _ (mG (i := 32) (by decide +kernel) rfl)
theorem tw_33 {args : Array Value} {s : State} (h : ∀ w ∈ gG, w.before args s = true) : (Cond.selects RX5 yX5_isSky yX5_isSky).before args s = true := h _ (mG (i := 33) (by decide +kernel) rfl)
theorem tw_34 {args : Array Value} {s : State} (h : ∀ w ∈ gG, w.before args s = true) : (Cond.selects RX5 yX5_edgeOf yX5_edgeOf).before args s = true := h _ (mG (i := 34) (by decide +kernel) rfl)
theorem tw_35 {args : Array Value} {s : State} (h : ∀ w ∈ gG, w.before args s = true) : (Cond.selects RX5 yX5_exchange yX5_exchange).before args s = true := h _ (mG (i := 35) (by decide +kernel) rfl)
theorem tw_36 {args : Array Value} {s : State} (h : ∀ w ∈ gG, w.before args s = true) : (Cond.selects RX5 yX5_sumNow yX5_sumNow).before args s = true := h _ (mG (i := 36) (by decide +kernel) rfl)
theorem tw_37 {args : Array Value} {s : State} (h : ∀ w ∈ gG, w.before args s = true) : (Cond.selects RX5 yX5_yearsGo yX5_yearsGo).before args s = true := h _ (mG (i := 37) (by decide +kernel) rfl)
theorem tw_38 {args : Array Value} {s : State} (h : ∀ w ∈ gG, w.before args s = true) : (Cond.selects RX5 yX5_year yX5_year).before args s = true := h _ (mG (i := 38) (by decide +kernel) rfl)
theorem tw_39 {args : Array Value} {s : State} (h : ∀ w ∈ gG, w.before args s = true) : (Cond.selects RX5 yX5_placeNow yX5_placeNow).before args s = true := h _ (mG (i := 39) (by decide +kernel) rfl)
theorem tw_40 {args : Array Value} {s : State} (h : ∀ w ∈ gG, w.before args s = true) : (Cond.selects RX5 yX5_closePlaces yX5_closePlaces).before args s = true := h _ (mG (i := 40) (by decide +kernel) rfl)
theorem tw_41 {args : Array Value} {s : State} (h : ∀ w ∈ gG, w.before args s = true) : (Cond.selects RX5 yX5_grantedOnes yX5_grantedOnes).before args s = true := h _ (mG (i := 41) (by decide +kernel) rfl)
theorem tw_42 {args : Array Value} {s : State} (h : ∀ w ∈ gG, w.before args s = true) : (Cond.selects RX5 yX5_isGranted yX5_isGranted).before args s = true := h _ (mG (i := 42) (by decide +kernel) rfl)
theorem tw_43 {args : Array Value} {s : State} (h : ∀ w ∈ gG, w.before args s = true) : (Cond.selects RX5 yX5_widestGap yX5_widestGap).before args s = true := h _ (mG (i := 43) (by decide +kernel) rfl)
theorem tw_44 {args : Array Value} {s : State} (h : ∀ w ∈ gG, w.before args s = true) : (Cond.selects RX5 yX5_turnedOnes yX5_turnedOnes).before args s = true := h _ (mG (i := 44) (by decide +kernel) rfl)
theorem tw_45 {args : Array Value} {s : State} (h : ∀ w ∈ gG, w.before args s = true) : (Cond.selects RX5 yX5_bestSum yX5_bestSum).before args s = true := h _ (mG (i := 45) (by decide +kernel) rfl)
theorem tw_46 {args : Array Value} {s : State} (h : ∀ w ∈ gG, w.before args s = true) : (Cond.selects RX5 yX5_isTabled yX5_isTabled).before args s = true := h _ (mG (i := 46) (by decide +kernel) rfl)
theorem tw_47 {args : Array Value} {s : State} (h : ∀ w ∈ gG, w.before args s = true) : (Cond.selects RX5 yX5_leastRest yX5_leastRest).before args s = true := h _ (mG (i := 47) (by decide +kernel) rfl)
theorem tw_48 {args : Array Value} {s : State} (h : ∀ w ∈ gG, w.before args s = true) : (Cond.selects RX5 yX5_everything yX5_everything).before args s = true := h _ (mG (i := 48) (by decide +kernel) rfl)
theorem tw_49 {args : Array Value} {s : State} (h : ∀ w ∈ gG, w.before args s = true) : (Cond.selects RX5 yX5_bestNext yX5_bestNext).before args s = true := h _ (mG (i := 49) (by decide +kernel) rfl)
theorem tw_50 {args : Array Value} {s : State} (h : ∀ w ∈ gG, w.before args s = true) : (Cond.selects RX5 yX5_betterSwap yX5_betterSwap).before args s = true := h _ (mG (i := 50) (by decide +kernel) rfl)
theorem tw_51 {args : Array Value} {s : State} (h : ∀ w ∈ gG, w.before args s = true) : (Cond.selects RX5 yX5_putBack yX5_putBack).before args s = true := h _ (mG (i := 51) (by decide +kernel) rfl)
theorem tw_52 {args : Array Value} {s : State} (h : ∀ w ∈ gG, w.before args s = true) : (Cond.selects RX5 yX5_orNone yX5_orNone).before args s = true := h _ (mG (i := 52) (by decide +kernel) rfl)
theorem tw_53 {args : Array Value} {s : State} (h : ∀ w ∈ gG, w.before args s = true) : (Cond.selects RX5 yX5_cheapest yX5_cheapest).before args s = true := h _ (mG (i := 53) (by decide +kernel) rfl)
theorem tw_54 {args : Array Value} {s : State} (h : ∀ w ∈ gG, w.before args s = true) : (Cond.selects RX5 yX5_sumTurned yX5_sumTurned).before args s = true := h _ (mG (i := 54) (by decide +kernel) rfl)
theorem tw_55 {args : Array Value} {s : State} (h : ∀ w ∈ gG, w.before args s = true) : (Cond.selects RX5 yX5_lacks yX5_lacks).before args s = true := h _ (mG (i := 55) (by decide +kernel) rfl)
theorem tw_56 {args : Array Value} {s : State} (h : ∀ w ∈ gG, w.before args s = true) : (Cond.selects RX5 yX5_isSo yX5_isSo).before args s = true := h _ (mG (i := 56) (by decide +kernel) rfl)
theorem tw_57 {args : Array Value} {s : State} (h : ∀ w ∈ gG, w.before args s = true) : (Cond.selects RX5 yX5_drawn yX5_drawn).before args s = true := h _ (mG (i := 57) (by decide +kernel) rfl)
theorem tw_58 {args : Array Value} {s : State} (h : ∀ w ∈ gG, w.before args s = true) : (Cond.selects RX5 yX5_isNoWorse yX5_isNoWorse).before args s = true := h _ (mG (i := 58) (by decide +kernel) rfl)
theorem tw_59 {args : Array Value} {s : State} (h : ∀ w ∈ gG, w.before args s = true) : (Cond.selects RX5 yX5_token yX5_token).before args s = true := h _ (mG (i := 59) (by decide +kernel) rfl)
theorem tw_60 {args : Array Value} {s : State} (h : ∀ w ∈ gG, w.before args s = true) : (Cond.selects RX5 yX5_byteAt yX5_byteAt).before args s = true := h _ (mG (i := 60) (by decide +kernel) rfl)
theorem tw_61 {args : Array Value} {s : State} (h : ∀ w ∈ gG, w.before args s = true) : (Cond.selects RX5 yX5_readItem yX5_readItem).before args s = true := h _ (mG (i := 61) (by decide +kernel) rfl)
theorem tw_62 {args : Array Value} {s : State} (h : ∀ w ∈ gG, w.before args s = true) : (Cond.selects RX5 yX5_isWord yX5_isWord).before args s = true := h _ (mG (i := 62) (by decide +kernel) rfl)
theorem tw_63 {args : Array Value} {s : State} (h : ∀ w ∈ gG, w.before args s = true) : (Cond.selects RX5 yX5_readPiece yX5_readPiece).before args s = true := h _ (mG (i := 63) (by decide +kernel) rfl)
theorem tw_64 {args : Array Value} {s : State} (h : ∀ w ∈ gG, w.before args s = true) : (Cond.selects RX5 yX5_must yX5_must).before args s = true := h _ (mG (i := 64) (by decide +kernel) rfl)
theorem tw_65 {args : Array Value} {s : State} (h : ∀ w ∈ gG, w.before args s = true) : (Cond.selects RX5 yX5_number yX5_number).before args s = true := h _ (mG (i := 65) (by decide +kernel) rfl)
theorem tw_66 {args : Array Value} {s : State} (h : ∀ w ∈ gG, w.before args s = true) : (Cond.selects RX5 yX5_takesWord yX5_takesWord).before args s = true := h _ (mG (i := 66) (by decide +kernel) rfl)
theorem tw_67 {args : Array Value} {s : State} (h : ∀ w ∈ gG, w.before args s = true) : (Cond.selects RX5 yX5_addItem yX5_addItem).before args s = true := h _ (mG (i := 67) (by decide +kernel) rfl)
theorem tw_68 {args : Array Value} {s : State} (h : ∀ w ∈ gG, w.before args s = true) : (Cond.selects RX5 yX5_isToldSo yX5_isToldSo).before args s = true := h _ (mG (i := 68) (by decide +kernel) rfl)
theorem tw_69 {args : Array Value} {s : State} (h : ∀ w ∈ gG, w.before args s = true) : (Cond.initialized RL).before args s = true := h _ (mG (i := 69) (by decide +kernel) rfl)
theorem tw_70 {args : Array Value} {s : State} (h : ∀ w ∈ gG, w.before args s = true) : (Cond.initialized RX4).before args s = true := h _ (mG (i := 70) (by decide +kernel) rfl)
theorem tw_71 {args : Array Value} {s : State} (h : ∀ w ∈ gG, w.before args s = true) : (Cond.initialized RX1).before args s = true := h _ (mG (i := 71) (by decide +kernel) rfl)
theorem tw_72 {args : Array Value} {s : State} (h : ∀ w ∈ gG, w.before args s = true) : (Cond.initialized RX0).before args s = true := h _ (mG (i := 72) (by decide +kernel) rfl)
theorem tw_73 {args : Array Value} {s : State} (h : ∀ w ∈ gG, w.before args s = true) : (Cond.initialized RX3).before args s = true := h _ (mG (i := 73) (by decide +kernel) rfl)
theorem tw_74 {args : Array Value} {s : State} (h : ∀ w ∈ gG, w.before args s = true) : (Cond.initialized RX2).before args s = true := h _ (mG (i := 74) (by decide +kernel) rfl)
theorem tw_75 {args : Array Value} {s : State} (h : ∀ w ∈ gG, w.before args s = true) : (Cond.initialized RX5).before args s = true := h _ (mG (i := 75) (by decide +kernel) rfl)
theorem tw_76 {args : Array Value} {s : State} (h : ∀ w ∈ gG, w.before args s = true) : (Cond.initialized RJ9).before args s = true := h _ (mG (i := 76) (by decide +kernel) rfl)
theorem tw_77 {args : Array Value} {s : State} (h : ∀ w ∈ gG, w.before args s = true) : (Cond.initialized RJ10).before args s = true := h _ (mG (i := 77) (by decide +kernel) rfl)
theorem tw_78 {args : Array Value} {s : State} (h : ∀ w ∈ gG, w.before args s = true) : (Cond.initialized RJ6).before args s = true := h _ (mG (i := 78) (by decide +kernel) rfl)
theorem tw_79 {args : Array Value} {s : State} (h : ∀ w ∈ gG, w.before args s = true) : (Cond.initialized RJ0).before args s = true := h _ (mG (i := 79) (by decide +kernel) rfl)
theorem tw_80 {args : Array Value} {s : State} (h : ∀ w ∈ gG, w.before args s = true) : (Cond.initialized RJ1).before args s = true := h _ (mG (i := 80) (by decide +kernel) rfl)
theorem tw_81 {args : Array Value} {s : State} (h : ∀ w ∈ gG, w.before args s = true) : (Cond.initialized RJ3).before args s = true := h _ (mG (i := 81) (by decide +kernel) rfl)
theorem tw_82 {args : Array Value} {s : State} (h : ∀ w ∈ gG, w.before args s = true) : (Cond.initialized RJ2).before args s = true := h _ (mG (i := 82) (by decide +kernel) rfl)
theorem tw_83 {args : Array Value} {s : State} (h : ∀ w ∈ gG, w.before args s = true) : (Cond.classLink RL 7 RX4).before args s = true := h _ (mG (i := 83) (by decide +kernel) rfl)
theorem tw_84 {args : Array Value} {s : State} (h : ∀ w ∈ gG, w.before args s = true) : (Cond.instantiable RX4 8).before args s = true := h _ (mG (i := 84) (by decide +kernel) rfl)
theorem tw_85 {args : Array Value} {s : State} (h : ∀ w ∈ gG, w.before args s = true) : (Cond.methodLink RL 9 yX4_init).before args s = true := h _ (mG (i := 85) (by decide +kernel) rfl)
theorem tw_86 {args : Array Value} {s : State} (h : ∀ w ∈ gG, w.before args s = true) : (Cond.instanceMethod yX4_init).before args s = true := h _ (mG (i := 86) (by decide +kernel) rfl)
theorem mw_87 : Cond.code yX4_init cX4_init 2 none ∈ gG := mG (i := 87) (by decide +kernel) rfl
theorem tw_87 {args : Array Value} {s : State} (h : ∀ w ∈ gG, w.before args s = true) : (Cond.code yX4_init cX4_init 2 none).before args s = true := h _ mw_87
theorem tw_88 {args : Array Value} {s : State} (h : ∀ w ∈ gG, w.before args s = true) : (Cond.methodLink RX4 1 objectInit).before args s = true := h _ (mG (i := 88) (by decide +kernel) rfl)
theorem tw_89 {args : Array Value} {s : State} (h : ∀ w ∈ gG, w.before args s = true) : (Cond.instanceMethod objectInit).before args s = true := h _ (mG (i := 89) (by decide +kernel) rfl)
theorem mw_90 : Cond.code objectInit ⟨#[0xb1]⟩ 1 none ∈ gG := mG (i := 90) (by decide +kernel) rfl
theorem tw_90 {args : Array Value} {s : State} (h : ∀ w ∈ gG, w.before args s = true) : (Cond.code objectInit ⟨#[0xb1]⟩ 1 none).before args s = true := h _ mw_90
theorem tw_91 {args : Array Value} {s : State} (h : ∀ w ∈ gG, w.before args s = true) : (Cond.classLink RX4 7 RX1).before args s = true := h _ (mG (i := 91) (by decide +kernel) rfl)
theorem tw_92 {args : Array Value} {s : State} (h : ∀ w ∈ gG, w.before args s = true) : (Cond.instantiable RX1 11).before args s = true := h _ (mG (i := 92) (by decide +kernel) rfl)
theorem tw_93 {args : Array Value} {s : State} (h : ∀ w ∈ gG, w.before args s = true) : (Cond.methodLink RX4 9 yX1_init).before args s = true := h _ (mG (i := 93) (by decide +kernel) rfl)
theorem tw_94 {args : Array Value} {s : State} (h : ∀ w ∈ gG, w.before args s = true) : (Cond.instanceMethod yX1_init).before args s = true := h _ (mG (i := 94) (by decide +kernel) rfl)
theorem mw_95 : Cond.code yX1_init cX1_init 2 none ∈ gG := mG (i := 95) (by decide +kernel) rfl
theorem tw_95 {args : Array Value} {s : State} (h : ∀ w ∈ gG, w.before args s = true) : (Cond.code yX1_init cX1_init 2 none).before args s = true := h _ mw_95
theorem tw_96 {args : Array Value} {s : State} (h : ∀ w ∈ gG, w.before args s = true) : (Cond.methodLink RX1 3 objectInit).before args s = true := h _ (mG (i := 96) (by decide +kernel) rfl)
theorem tw_97 {args : Array Value} {s : State} (h : ∀ w ∈ gG, w.before args s = true) : (Cond.fieldLink RX1 9 "CountyJigsaw$County" "kind" "[I").before args s = true := h _ (mG (i := 97) (by decide +kernel) rfl)
theorem tw_98 {args : Array Value} {s : State} (h : ∀ w ∈ gG, w.before args s = true) : (Cond.fieldLink RX4 176 "CountyJigsaw$County" "kind" "[I").before args s = true := h _ (mG (i := 98) (by decide +kernel) rfl)
theorem tw_99 {args : Array Value} {s : State} (h : ∀ w ∈ gG, w.before args s = true) : (Cond.fieldLink RX1 15 "CountyJigsaw$County" "left" "[I").before args s = true := h _ (mG (i := 99) (by decide +kernel) rfl)
theorem tw_100 {args : Array Value} {s : State} (h : ∀ w ∈ gG, w.before args s = true) : (Cond.fieldLink RX4 166 "CountyJigsaw$County" "left" "[I").before args s = true := h _ (mG (i := 100) (by decide +kernel) rfl)
theorem tw_101 {args : Array Value} {s : State} (h : ∀ w ∈ gG, w.before args s = true) : (Cond.fieldLink RX1 18 "CountyJigsaw$County" "right" "[I").before args s = true := h _ (mG (i := 101) (by decide +kernel) rfl)
theorem tw_102 {args : Array Value} {s : State} (h : ∀ w ∈ gG, w.before args s = true) : (Cond.fieldLink RX4 169 "CountyJigsaw$County" "right" "[I").before args s = true := h _ (mG (i := 102) (by decide +kernel) rfl)
theorem tw_103 {args : Array Value} {s : State} (h : ∀ w ∈ gG, w.before args s = true) : (Cond.fieldLink RX1 21 "CountyJigsaw$County" "want" "[I").before args s = true := h _ (mG (i := 103) (by decide +kernel) rfl)
theorem tw_104 {args : Array Value} {s : State} (h : ∀ w ∈ gG, w.before args s = true) : (Cond.fieldLink RX3 72 "CountyJigsaw$County" "want" "[I").before args s = true := h _ (mG (i := 104) (by decide +kernel) rfl)
theorem tw_105 {args : Array Value} {s : State} (h : ∀ w ∈ gG, w.before args s = true) : (Cond.fieldLink RX1 24 "CountyJigsaw$County" "row" "[I").before args s = true := h _ (mG (i := 105) (by decide +kernel) rfl)
theorem tw_106 {args : Array Value} {s : State} (h : ∀ w ∈ gG, w.before args s = true) : (Cond.fieldLink RX4 90 "CountyJigsaw$County" "row" "[I").before args s = true := h _ (mG (i := 106) (by decide +kernel) rfl)
theorem tw_107 {args : Array Value} {s : State} (h : ∀ w ∈ gG, w.before args s = true) : (Cond.fieldLink RX1 27 "CountyJigsaw$County" "swaps" "[I").before args s = true := h _ (mG (i := 107) (by decide +kernel) rfl)
theorem tw_108 {args : Array Value} {s : State} (h : ∀ w ∈ gG, w.before args s = true) : (Cond.fieldLink RX4 58 "CountyJigsaw$County" "swaps" "[I").before args s = true := h _ (mG (i := 108) (by decide +kernel) rfl)
theorem tw_109 {args : Array Value} {s : State} (h : ∀ w ∈ gG, w.before args s = true) : (Cond.fieldLink RX3 79 "CountyJigsaw$County" "swaps" "[I").before args s = true := h _ (mG (i := 109) (by decide +kernel) rfl)
theorem tw_110 {args : Array Value} {s : State} (h : ∀ w ∈ gG, w.before args s = true) : (Cond.fieldLink RX1 30 "CountyJigsaw$County" "spots" "[I").before args s = true := h _ (mG (i := 110) (by decide +kernel) rfl)
theorem tw_111 {args : Array Value} {s : State} (h : ∀ w ∈ gG, w.before args s = true) : (Cond.fieldLink RX4 204 "CountyJigsaw$County" "spots" "[I").before args s = true := h _ (mG (i := 111) (by decide +kernel) rfl)
theorem tw_112 {args : Array Value} {s : State} (h : ∀ w ∈ gG, w.before args s = true) : (Cond.fieldLink RX1 43 "CountyJigsaw$County" "turned" "I").before args s = true := h _ (mG (i := 112) (by decide +kernel) rfl)
theorem tw_113 {args : Array Value} {s : State} (h : ∀ w ∈ gG, w.before args s = true) : (Cond.fieldLink RX3 77 "CountyJigsaw$County" "turned" "I").before args s = true := h _ (mG (i := 113) (by decide +kernel) rfl)
theorem tw_114 {args : Array Value} {s : State} (h : ∀ w ∈ gG, w.before args s = true) : (Cond.fieldLink RX4 124 "CountyJigsaw$County" "turned" "I").before args s = true := h _ (mG (i := 114) (by decide +kernel) rfl)
theorem tw_115 {args : Array Value} {s : State} (h : ∀ w ∈ gG, w.before args s = true) : (Cond.fieldLink RX0 24 "CountyJigsaw$County" "pieces" "I").before args s = true := h _ (mG (i := 115) (by decide +kernel) rfl)
theorem tw_116 {args : Array Value} {s : State} (h : ∀ w ∈ gG, w.before args s = true) : (Cond.fieldLink RX1 46 "CountyJigsaw$County" "pieces" "I").before args s = true := h _ (mG (i := 116) (by decide +kernel) rfl)
theorem tw_117 {args : Array Value} {s : State} (h : ∀ w ∈ gG, w.before args s = true) : (Cond.fieldLink RX4 67 "CountyJigsaw$County" "pieces" "I").before args s = true := h _ (mG (i := 117) (by decide +kernel) rfl)
theorem tw_118 {args : Array Value} {s : State} (h : ∀ w ∈ gG, w.before args s = true) : (Cond.fieldLink RX3 57 "CountyJigsaw$County" "pieces" "I").before args s = true := h _ (mG (i := 118) (by decide +kernel) rfl)
theorem tw_119 {args : Array Value} {s : State} (h : ∀ w ∈ gG, w.before args s = true) : (Cond.fieldLink RX1 49 "CountyJigsaw$County" "year" "I").before args s = true := h _ (mG (i := 119) (by decide +kernel) rfl)
theorem tw_120 {args : Array Value} {s : State} (h : ∀ w ∈ gG, w.before args s = true) : (Cond.fieldLink RX4 107 "CountyJigsaw$County" "year" "I").before args s = true := h _ (mG (i := 120) (by decide +kernel) rfl)
theorem tw_121 {args : Array Value} {s : State} (h : ∀ w ∈ gG, w.before args s = true) : (Cond.fieldLink RX1 33 "CountyJigsaw$County" "z" "I").before args s = true := h _ (mG (i := 121) (by decide +kernel) rfl)
theorem tw_122 {args : Array Value} {s : State} (h : ∀ w ∈ gG, w.before args s = true) : (Cond.fieldLink RX4 189 "CountyJigsaw$County" "z" "I").before args s = true := h _ (mG (i := 122) (by decide +kernel) rfl)
theorem tw_146 {args : Array Value} {s : State} (h : ∀ w ∈ gG, w.before args s = true) : (Cond.arrayClass .int).before args s = true := h _ (mG (i := 146) (by decide +kernel) rfl)
theorem tw_147 {args : Array Value} {s : State} (h : ∀ w ∈ gG, w.before args s = true) : (Cond.classLink RX4 22 RX0).before args s = true := h _ (mG (i := 147) (by decide +kernel) rfl)
theorem tw_148 {args : Array Value} {s : State} (h : ∀ w ∈ gG, w.before args s = true) : (Cond.instantiable RX0 4).before args s = true := h _ (mG (i := 148) (by decide +kernel) rfl)
theorem tw_150 {args : Array Value} {s : State} (h : ∀ w ∈ gG, w.before args s = true) : (Cond.instanceMethod yX0_init).before args s = true := h _ (mG (i := 150) (by decide +kernel) rfl)
theorem mw_151 : Cond.code yX0_init cX0_init 1 none ∈ gG := mG (i := 151) (by decide +kernel) rfl
theorem tw_151 {args : Array Value} {s : State} (h : ∀ w ∈ gG, w.before args s = true) : (Cond.code yX0_init cX0_init 1 none).before args s = true := h _ mw_151
theorem tw_152 {args : Array Value} {s : State} (h : ∀ w ∈ gG, w.before args s = true) : (Cond.methodLink RX0 3 objectInit).before args s = true := h _ (mG (i := 152) (by decide +kernel) rfl)
theorem tw_153 {args : Array Value} {s : State} (h : ∀ w ∈ gG, w.before args s = true) : (Cond.fieldLink RX0 9 "CountyJigsaw$BestLaying" "gaps" "[I").before args s = true := h _ (mG (i := 153) (by decide +kernel) rfl)
theorem tw_154 {args : Array Value} {s : State} (h : ∀ w ∈ gG, w.before args s = true) : (Cond.fieldLink RX0 15 "CountyJigsaw$BestLaying" "firstEdges" "[I").before args s = true := h _ (mG (i := 154) (by decide +kernel) rfl)
theorem tw_155 {args : Array Value} {s : State} (h : ∀ w ∈ gG, w.before args s = true) : (Cond.fieldLink RX0 18 "CountyJigsaw$BestLaying" "lastEdges" "[I").before args s = true := h _ (mG (i := 155) (by decide +kernel) rfl)
theorem tw_156 {args : Array Value} {s : State} (h : ∀ w ∈ gG, w.before args s = true) : (Cond.fieldLink RX0 21 "CountyJigsaw$BestLaying" "rests" "[I").before args s = true := h _ (mG (i := 156) (by decide +kernel) rfl)
theorem tw_166 {args : Array Value} {s : State} (h : ∀ w ∈ gG, w.before args s = true) : (Cond.classLink RX4 29 RX3).before args s = true := h _ (mG (i := 166) (by decide +kernel) rfl)
theorem tw_167 {args : Array Value} {s : State} (h : ∀ w ∈ gG, w.before args s = true) : (Cond.instantiable RX3 5).before args s = true := h _ (mG (i := 167) (by decide +kernel) rfl)
theorem tw_169 {args : Array Value} {s : State} (h : ∀ w ∈ gG, w.before args s = true) : (Cond.instanceMethod yX3_init).before args s = true := h _ (mG (i := 169) (by decide +kernel) rfl)
theorem mw_170 : Cond.code yX3_init cX3_init 1 none ∈ gG := mG (i := 170) (by decide +kernel) rfl
theorem tw_170 {args : Array Value} {s : State} (h : ∀ w ∈ gG, w.before args s = true) : (Cond.code yX3_init cX3_init 1 none).before args s = true := h _ mw_170
theorem tw_171 {args : Array Value} {s : State} (h : ∀ w ∈ gG, w.before args s = true) : (Cond.methodLink RX3 3 objectInit).before args s = true := h _ (mG (i := 171) (by decide +kernel) rfl)
theorem tw_172 {args : Array Value} {s : State} (h : ∀ w ∈ gG, w.before args s = true) : (Cond.fieldLink RX3 9 "CountyJigsaw$Tape" "bytes" "[I").before args s = true := h _ (mG (i := 172) (by decide +kernel) rfl)
theorem tw_173 {args : Array Value} {s : State} (h : ∀ w ∈ gG, w.before args s = true) : (Cond.fieldLink RX3 15 "CountyJigsaw$Tape" "length" "I").before args s = true := h _ (mG (i := 173) (by decide +kernel) rfl)
theorem tw_174 {args : Array Value} {s : State} (h : ∀ w ∈ gG, w.before args s = true) : (Cond.fieldLink RX4 192 "CountyJigsaw$Tape" "length" "I").before args s = true := h _ (mG (i := 174) (by decide +kernel) rfl)
theorem tw_175 {args : Array Value} {s : State} (h : ∀ w ∈ gG, w.before args s = true) : (Cond.fieldLink RX3 32 "CountyJigsaw$Tape" "sort" "I").before args s = true := h _ (mG (i := 175) (by decide +kernel) rfl)
theorem tw_176 {args : Array Value} {s : State} (h : ∀ w ∈ gG, w.before args s = true) : (Cond.fieldLink RX3 29 "CountyJigsaw$Tape" "begin" "I").before args s = true := h _ (mG (i := 176) (by decide +kernel) rfl)
theorem tw_177 {args : Array Value} {s : State} (h : ∀ w ∈ gG, w.before args s = true) : (Cond.fieldLink RX3 19 "CountyJigsaw$Tape" "end" "I").before args s = true := h _ (mG (i := 177) (by decide +kernel) rfl)
theorem tw_189 {args : Array Value} {s : State} (h : ∀ w ∈ gG, w.before args s = true) : (Cond.classLink RX4 36 RX2).before args s = true := h _ (mG (i := 189) (by decide +kernel) rfl)
theorem tw_191 {args : Array Value} {s : State} (h : ∀ w ∈ gG, w.before args s = true) : (Cond.instantiable RX2 3).before args s = true := h _ (mG (i := 191) (by decide +kernel) rfl)
theorem tw_193 {args : Array Value} {s : State} (h : ∀ w ∈ gG, w.before args s = true) : (Cond.instanceMethod yX2_init).before args s = true := h _ (mG (i := 193) (by decide +kernel) rfl)
theorem mw_194 : Cond.code yX2_init cX2_init 1 none ∈ gG := mG (i := 194) (by decide +kernel) rfl
theorem tw_194 {args : Array Value} {s : State} (h : ∀ w ∈ gG, w.before args s = true) : (Cond.code yX2_init cX2_init 1 none).before args s = true := h _ mw_194
theorem tw_195 {args : Array Value} {s : State} (h : ∀ w ∈ gG, w.before args s = true) : (Cond.methodLink RX2 3 objectInit).before args s = true := h _ (mG (i := 195) (by decide +kernel) rfl)
theorem tw_196 {args : Array Value} {s : State} (h : ∀ w ∈ gG, w.before args s = true) : (Cond.fieldLink RX2 9 "CountyJigsaw$Sheet" "numbers" "[I").before args s = true := h _ (mG (i := 196) (by decide +kernel) rfl)
theorem tw_197 {args : Array Value} {s : State} (h : ∀ w ∈ gG, w.before args s = true) : (Cond.fieldLink RX4 228 "CountyJigsaw$Sheet" "numbers" "[I").before args s = true := h _ (mG (i := 197) (by decide +kernel) rfl)
theorem tw_198 {args : Array Value} {s : State} (h : ∀ w ∈ gG, w.before args s = true) : (Cond.fieldLink RX2 15 "CountyJigsaw$Sheet" "bits" "I").before args s = true := h _ (mG (i := 198) (by decide +kernel) rfl)
theorem tw_199 {args : Array Value} {s : State} (h : ∀ w ∈ gG, w.before args s = true) : (Cond.fieldLink RX4 222 "CountyJigsaw$Sheet" "bits" "I").before args s = true := h _ (mG (i := 199) (by decide +kernel) rfl)
theorem tw_200 {args : Array Value} {s : State} (h : ∀ w ∈ gG, w.before args s = true) : (Cond.fieldLink RX2 19 "CountyJigsaw$Sheet" "size" "I").before args s = true := h _ (mG (i := 200) (by decide +kernel) rfl)
theorem tw_201 {args : Array Value} {s : State} (h : ∀ w ∈ gG, w.before args s = true) : (Cond.fieldLink RX4 216 "CountyJigsaw$Sheet" "size" "I").before args s = true := h _ (mG (i := 201) (by decide +kernel) rfl)
theorem tw_209 {args : Array Value} {s : State} (h : ∀ w ∈ gG, w.before args s = true) : (Cond.fieldLink RX4 10 "CountyJigsaw" "county" "LCountyJigsaw$County;").before args s = true := h _ (mG (i := 209) (by decide +kernel) rfl)
theorem tw_210 {args : Array Value} {s : State} (h : ∀ w ∈ gG, w.before args s = true) : (Cond.fieldLink RX4 16 "CountyJigsaw" "kept" "LCountyJigsaw$County;").before args s = true := h _ (mG (i := 210) (by decide +kernel) rfl)
theorem tw_211 {args : Array Value} {s : State} (h : ∀ w ∈ gG, w.before args s = true) : (Cond.fieldLink RX4 19 "CountyJigsaw" "trial" "LCountyJigsaw$County;").before args s = true := h _ (mG (i := 211) (by decide +kernel) rfl)
theorem tw_212 {args : Array Value} {s : State} (h : ∀ w ∈ gG, w.before args s = true) : (Cond.fieldLink RX4 25 "CountyJigsaw" "laying" "LCountyJigsaw$BestLaying;").before args s = true := h _ (mG (i := 212) (by decide +kernel) rfl)
theorem tw_213 {args : Array Value} {s : State} (h : ∀ w ∈ gG, w.before args s = true) : (Cond.fieldLink RX4 32 "CountyJigsaw" "tape" "LCountyJigsaw$Tape;").before args s = true := h _ (mG (i := 213) (by decide +kernel) rfl)
theorem tw_214 {args : Array Value} {s : State} (h : ∀ w ∈ gG, w.before args s = true) : (Cond.fieldLink RX4 38 "CountyJigsaw" "sheets" "[LCountyJigsaw$Sheet;").before args s = true := h _ (mG (i := 214) (by decide +kernel) rfl)
theorem tw_215 {args : Array Value} {s : State} (h : ∀ w ∈ gG, w.before args s = true) : (Cond.fieldLink RX4 42 "CountyJigsaw" "findings" "[I").before args s = true := h _ (mG (i := 215) (by decide +kernel) rfl)
theorem tw_216 {args : Array Value} {s : State} (h : ∀ w ∈ gG, w.before args s = true) : (Cond.fieldLink RX4 237 "CountyJigsaw" "isKept" "Z").before args s = true := h _ (mG (i := 216) (by decide +kernel) rfl)
theorem tw_234 {args : Array Value} {s : State} (h : ∀ w ∈ gG, w.before args s = true) : (Cond.methodLink RL 13 yX4_list).before args s = true := h _ (mG (i := 234) (by decide +kernel) rfl)
theorem tw_235 {args : Array Value} {s : State} (h : ∀ w ∈ gG, w.before args s = true) : (Cond.instanceMethod yX4_list).before args s = true := h _ (mG (i := 235) (by decide +kernel) rfl)
theorem tw_236 {args : Array Value} {s : State} (h : ∀ w ∈ gG, w.before args s = true) : (Cond.selects RX4 yX4_list yX4_list).before args s = true := h _ (mG (i := 236) (by decide +kernel) rfl)
theorem mw_237 : Cond.code yX4_list cX4_list 5 (some .int) ∈ gG := mG (i := 237) (by decide +kernel) rfl
theorem tw_237 {args : Array Value} {s : State} (h : ∀ w ∈ gG, w.before args s = true) : (Cond.code yX4_list cX4_list 5 (some .int)).before args s = true := h _ mw_237
theorem tw_238 {args : Array Value} {s : State} (h : ∀ w ∈ gG, w.before args s = true) : (Cond.methodLink RX4 47 yX4_isListPlace).before args s = true := h _ (mG (i := 238) (by decide +kernel) rfl)
theorem tw_239 {args : Array Value} {s : State} (h : ∀ w ∈ gG, w.before args s = true) : (Cond.static yX4_isListPlace).before args s = true := h _ (mG (i := 239) (by decide +kernel) rfl)
theorem mw_240 : Cond.code yX4_isListPlace cX4_isListPlace 1 (some .boolean) ∈ gG := mG (i := 240) (by decide +kernel) rfl
theorem tw_240 {args : Array Value} {s : State} (h : ∀ w ∈ gG, w.before args s = true) : (Cond.code yX4_isListPlace cX4_isListPlace 1 (some .boolean)).before args s = true := h _ mw_240
theorem tw_241 {args : Array Value} {s : State} (h : ∀ w ∈ gG, w.before args s = true) : (Cond.methodLink RX4 51 yX4_isPlace).before args s = true := h _ (mG (i := 241) (by decide +kernel) rfl)
theorem tw_242 {args : Array Value} {s : State} (h : ∀ w ∈ gG, w.before args s = true) : (Cond.static yX4_isPlace).before args s = true := h _ (mG (i := 242) (by decide +kernel) rfl)
theorem mw_243 : Cond.code yX4_isPlace cX4_isPlace 1 (some .boolean) ∈ gG := mG (i := 243) (by decide +kernel) rfl
theorem tw_243 {args : Array Value} {s : State} (h : ∀ w ∈ gG, w.before args s = true) : (Cond.code yX4_isPlace cX4_isPlace 1 (some .boolean)).before args s = true := h _ mw_243
theorem tw_244 {args : Array Value} {s : State} (h : ∀ w ∈ gG, w.before args s = true) : (Cond.methodLink RX4 54 yX4_found).before args s = true := h _ (mG (i := 244) (by decide +kernel) rfl)
theorem tw_246 {args : Array Value} {s : State} (h : ∀ w ∈ gG, w.before args s = true) : (Cond.instanceMethod yX4_found).before args s = true := h _ (mG (i := 246) (by decide +kernel) rfl)
theorem mw_247 : Cond.code yX4_found cX4_found 2 (some .int) ∈ gG := mG (i := 247) (by decide +kernel) rfl
theorem tw_247 {args : Array Value} {s : State} (h : ∀ w ∈ gG, w.before args s = true) : (Cond.code yX4_found cX4_found 2 (some .int)).before args s = true := h _ mw_247
theorem tw_248 {args : Array Value} {s : State} (h : ∀ w ∈ gG, w.before args s = true) : (Cond.constant RX4 247 (-1000001)).before args s = true := h _ (mG (i := 248) (by decide +kernel) rfl)
theorem tw_249 {args : Array Value} {s : State} (h : ∀ w ∈ gG, w.before args s = true) : (Cond.methodLink RL 18 yX4_listed).before args s = true := h _ (mG (i := 249) (by decide +kernel) rfl)
theorem tw_250 {args : Array Value} {s : State} (h : ∀ w ∈ gG, w.before args s = true) : (Cond.instanceMethod yX4_listed).before args s = true := h _ (mG (i := 250) (by decide +kernel) rfl)
theorem tw_251 {args : Array Value} {s : State} (h : ∀ w ∈ gG, w.before args s = true) : (Cond.selects RX4 yX4_listed yX4_listed).before args s = true := h _ (mG (i := 251) (by decide +kernel) rfl)
theorem mw_252 : Cond.code yX4_listed cX4_listed 2 (some .int) ∈ gG := mG (i := 252) (by decide +kernel) rfl
theorem tw_252 {args : Array Value} {s : State} (h : ∀ w ∈ gG, w.before args s = true) : (Cond.code yX4_listed cX4_listed 2 (some .int)).before args s = true := h _ mw_252
theorem tw_253 {args : Array Value} {s : State} (h : ∀ w ∈ gG, w.before args s = true) : (Cond.methodLink RL 23 yX4_piece).before args s = true := h _ (mG (i := 253) (by decide +kernel) rfl)
theorem tw_254 {args : Array Value} {s : State} (h : ∀ w ∈ gG, w.before args s = true) : (Cond.instanceMethod yX4_piece).before args s = true := h _ (mG (i := 254) (by decide +kernel) rfl)
theorem tw_255 {args : Array Value} {s : State} (h : ∀ w ∈ gG, w.before args s = true) : (Cond.selects RX4 yX4_piece yX4_piece).before args s = true := h _ (mG (i := 255) (by decide +kernel) rfl)
theorem mw_256 : Cond.code yX4_piece cX4_piece 4 (some .int) ∈ gG := mG (i := 256) (by decide +kernel) rfl
theorem tw_256 {args : Array Value} {s : State} (h : ∀ w ∈ gG, w.before args s = true) : (Cond.code yX4_piece cX4_piece 4 (some .int)).before args s = true := h _ mw_256
theorem tw_257 {args : Array Value} {s : State} (h : ∀ w ∈ gG, w.before args s = true) : (Cond.methodLink RX4 61 yX4_isKind).before args s = true := h _ (mG (i := 257) (by decide +kernel) rfl)
theorem tw_258 {args : Array Value} {s : State} (h : ∀ w ∈ gG, w.before args s = true) : (Cond.static yX4_isKind).before args s = true := h _ (mG (i := 258) (by decide +kernel) rfl)
theorem mw_259 : Cond.code yX4_isKind cX4_isKind 1 (some .boolean) ∈ gG := mG (i := 259) (by decide +kernel) rfl
theorem tw_259 {args : Array Value} {s : State} (h : ∀ w ∈ gG, w.before args s = true) : (Cond.code yX4_isKind cX4_isKind 1 (some .boolean)).before args s = true := h _ mw_259
theorem tw_260 {args : Array Value} {s : State} (h : ∀ w ∈ gG, w.before args s = true) : (Cond.methodLink RX4 64 yX4_isEdge).before args s = true := h _ (mG (i := 260) (by decide +kernel) rfl)
theorem tw_261 {args : Array Value} {s : State} (h : ∀ w ∈ gG, w.before args s = true) : (Cond.static yX4_isEdge).before args s = true := h _ (mG (i := 261) (by decide +kernel) rfl)
theorem mw_262 : Cond.code yX4_isEdge cX4_isEdge 1 (some .boolean) ∈ gG := mG (i := 262) (by decide +kernel) rfl
theorem tw_262 {args : Array Value} {s : State} (h : ∀ w ∈ gG, w.before args s = true) : (Cond.code yX4_isEdge cX4_isEdge 1 (some .boolean)).before args s = true := h _ mw_262
theorem tw_263 {args : Array Value} {s : State} (h : ∀ w ∈ gG, w.before args s = true) : (Cond.methodLink RX4 71 yX1_addPiece).before args s = true := h _ (mG (i := 263) (by decide +kernel) rfl)
theorem tw_264 {args : Array Value} {s : State} (h : ∀ w ∈ gG, w.before args s = true) : (Cond.instanceMethod yX1_addPiece).before args s = true := h _ (mG (i := 264) (by decide +kernel) rfl)
theorem tw_265 {args : Array Value} {s : State} (h : ∀ w ∈ gG, w.before args s = true) : (Cond.selects RX1 yX1_addPiece yX1_addPiece).before args s = true := h _ (mG (i := 265) (by decide +kernel) rfl)
theorem mw_266 : Cond.code yX1_addPiece cX1_addPiece 5 (some .int) ∈ gG := mG (i := 266) (by decide +kernel) rfl
theorem tw_266 {args : Array Value} {s : State} (h : ∀ w ∈ gG, w.before args s = true) : (Cond.code yX1_addPiece cX1_addPiece 5 (some .int)).before args s = true := h _ mw_266
theorem tw_267 {args : Array Value} {s : State} (h : ∀ w ∈ gG, w.before args s = true) : (Cond.methodLink RL 27 yX4_of).before args s = true := h _ (mG (i := 267) (by decide +kernel) rfl)
theorem tw_268 {args : Array Value} {s : State} (h : ∀ w ∈ gG, w.before args s = true) : (Cond.instanceMethod yX4_of).before args s = true := h _ (mG (i := 268) (by decide +kernel) rfl)
theorem tw_269 {args : Array Value} {s : State} (h : ∀ w ∈ gG, w.before args s = true) : (Cond.selects RX4 yX4_of yX4_of).before args s = true := h _ (mG (i := 269) (by decide +kernel) rfl)
theorem mw_270 : Cond.code yX4_of cX4_of 3 (some .int) ∈ gG := mG (i := 270) (by decide +kernel) rfl
theorem tw_270 {args : Array Value} {s : State} (h : ∀ w ∈ gG, w.before args s = true) : (Cond.code yX4_of cX4_of 3 (some .int)).before args s = true := h _ mw_270
theorem tw_271 {args : Array Value} {s : State} (h : ∀ w ∈ gG, w.before args s = true) : (Cond.methodLink RX4 75 yX1_has).before args s = true := h _ (mG (i := 271) (by decide +kernel) rfl)
theorem tw_272 {args : Array Value} {s : State} (h : ∀ w ∈ gG, w.before args s = true) : (Cond.instanceMethod yX1_has).before args s = true := h _ (mG (i := 272) (by decide +kernel) rfl)
theorem tw_273 {args : Array Value} {s : State} (h : ∀ w ∈ gG, w.before args s = true) : (Cond.selects RX1 yX1_has yX1_has).before args s = true := h _ (mG (i := 273) (by decide +kernel) rfl)
theorem mw_274 : Cond.code yX1_has cX1_has 2 (some .boolean) ∈ gG := mG (i := 274) (by decide +kernel) rfl
theorem tw_274 {args : Array Value} {s : State} (h : ∀ w ∈ gG, w.before args s = true) : (Cond.code yX1_has cX1_has 2 (some .boolean)).before args s = true := h _ mw_274
theorem tw_275 {args : Array Value} {s : State} (h : ∀ w ∈ gG, w.before args s = true) : (Cond.methodLink RX4 78 yX1_told).before args s = true := h _ (mG (i := 275) (by decide +kernel) rfl)
theorem tw_276 {args : Array Value} {s : State} (h : ∀ w ∈ gG, w.before args s = true) : (Cond.instanceMethod yX1_told).before args s = true := h _ (mG (i := 276) (by decide +kernel) rfl)
theorem tw_277 {args : Array Value} {s : State} (h : ∀ w ∈ gG, w.before args s = true) : (Cond.selects RX1 yX1_told yX1_told).before args s = true := h _ (mG (i := 277) (by decide +kernel) rfl)
theorem mw_278 : Cond.code yX1_told cX1_told 3 (some .int) ∈ gG := mG (i := 278) (by decide +kernel) rfl
theorem tw_278 {args : Array Value} {s : State} (h : ∀ w ∈ gG, w.before args s = true) : (Cond.code yX1_told cX1_told 3 (some .int)).before args s = true := h _ mw_278
theorem tw_279 {args : Array Value} {s : State} (h : ∀ w ∈ gG, w.before args s = true) : (Cond.methodLink RX1 52 yX1_placeOf).before args s = true := h _ (mG (i := 279) (by decide +kernel) rfl)
theorem tw_280 {args : Array Value} {s : State} (h : ∀ w ∈ gG, w.before args s = true) : (Cond.instanceMethod yX1_placeOf).before args s = true := h _ (mG (i := 280) (by decide +kernel) rfl)
theorem tw_281 {args : Array Value} {s : State} (h : ∀ w ∈ gG, w.before args s = true) : (Cond.selects RX1 yX1_placeOf yX1_placeOf).before args s = true := h _ (mG (i := 281) (by decide +kernel) rfl)
theorem mw_282 : Cond.code yX1_placeOf cX1_placeOf 3 (some .int) ∈ gG := mG (i := 282) (by decide +kernel) rfl
theorem tw_282 {args : Array Value} {s : State} (h : ∀ w ∈ gG, w.before args s = true) : (Cond.code yX1_placeOf cX1_placeOf 3 (some .int)).before args s = true := h _ mw_282
theorem tw_283 {args : Array Value} {s : State} (h : ∀ w ∈ gG, w.before args s = true) : (Cond.methodLink RX1 56 yX1_growsOf).before args s = true := h _ (mG (i := 283) (by decide +kernel) rfl)
theorem tw_284 {args : Array Value} {s : State} (h : ∀ w ∈ gG, w.before args s = true) : (Cond.instanceMethod yX1_growsOf).before args s = true := h _ (mG (i := 284) (by decide +kernel) rfl)
theorem tw_285 {args : Array Value} {s : State} (h : ∀ w ∈ gG, w.before args s = true) : (Cond.selects RX1 yX1_growsOf yX1_growsOf).before args s = true := h _ (mG (i := 285) (by decide +kernel) rfl)
theorem mw_286 : Cond.code yX1_growsOf cX1_growsOf 5 (some .int) ∈ gG := mG (i := 286) (by decide +kernel) rfl
theorem tw_286 {args : Array Value} {s : State} (h : ∀ w ∈ gG, w.before args s = true) : (Cond.code yX1_growsOf cX1_growsOf 5 (some .int)).before args s = true := h _ mw_286
theorem tw_287 {args : Array Value} {s : State} (h : ∀ w ∈ gG, w.before args s = true) : (Cond.methodLink RL 32 yX4_change).before args s = true := h _ (mG (i := 287) (by decide +kernel) rfl)
theorem tw_288 {args : Array Value} {s : State} (h : ∀ w ∈ gG, w.before args s = true) : (Cond.instanceMethod yX4_change).before args s = true := h _ (mG (i := 288) (by decide +kernel) rfl)
theorem tw_289 {args : Array Value} {s : State} (h : ∀ w ∈ gG, w.before args s = true) : (Cond.selects RX4 yX4_change yX4_change).before args s = true := h _ (mG (i := 289) (by decide +kernel) rfl)
theorem mw_290 : Cond.code yX4_change cX4_change 5 (some .int) ∈ gG := mG (i := 290) (by decide +kernel) rfl
theorem tw_290 {args : Array Value} {s : State} (h : ∀ w ∈ gG, w.before args s = true) : (Cond.code yX4_change cX4_change 5 (some .int)).before args s = true := h _ mw_290
theorem tw_291 {args : Array Value} {s : State} (h : ∀ w ∈ gG, w.before args s = true) : (Cond.methodLink RX4 82 yX4_couldBe).before args s = true := h _ (mG (i := 291) (by decide +kernel) rfl)
theorem tw_292 {args : Array Value} {s : State} (h : ∀ w ∈ gG, w.before args s = true) : (Cond.static yX4_couldBe).before args s = true := h _ (mG (i := 292) (by decide +kernel) rfl)
theorem mw_293 : Cond.code yX4_couldBe cX4_couldBe 2 (some .boolean) ∈ gG := mG (i := 293) (by decide +kernel) rfl
theorem tw_293 {args : Array Value} {s : State} (h : ∀ w ∈ gG, w.before args s = true) : (Cond.code yX4_couldBe cX4_couldBe 2 (some .boolean)).before args s = true := h _ mw_293
theorem tw_294 {args : Array Value} {s : State} (h : ∀ w ∈ gG, w.before args s = true) : (Cond.methodLink RX4 86 yX1_become).before args s = true := h _ (mG (i := 294) (by decide +kernel) rfl)
theorem tw_295 {args : Array Value} {s : State} (h : ∀ w ∈ gG, w.before args s = true) : (Cond.instanceMethod yX1_become).before args s = true := h _ (mG (i := 295) (by decide +kernel) rfl)
theorem tw_296 {args : Array Value} {s : State} (h : ∀ w ∈ gG, w.before args s = true) : (Cond.selects RX1 yX1_become yX1_become).before args s = true := h _ (mG (i := 296) (by decide +kernel) rfl)
theorem mw_297 : Cond.code yX1_become cX1_become 4 none ∈ gG := mG (i := 297) (by decide +kernel) rfl
theorem tw_297 {args : Array Value} {s : State} (h : ∀ w ∈ gG, w.before args s = true) : (Cond.code yX1_become cX1_become 4 none).before args s = true := h _ mw_297
theorem tw_298 {args : Array Value} {s : State} (h : ∀ w ∈ gG, w.before args s = true) : (Cond.methodLink RL 36 yX4_lies).before args s = true := h _ (mG (i := 298) (by decide +kernel) rfl)
theorem tw_299 {args : Array Value} {s : State} (h : ∀ w ∈ gG, w.before args s = true) : (Cond.instanceMethod yX4_lies).before args s = true := h _ (mG (i := 299) (by decide +kernel) rfl)
theorem tw_300 {args : Array Value} {s : State} (h : ∀ w ∈ gG, w.before args s = true) : (Cond.selects RX4 yX4_lies yX4_lies).before args s = true := h _ (mG (i := 300) (by decide +kernel) rfl)
theorem mw_301 : Cond.code yX4_lies cX4_lies 2 (some .int) ∈ gG := mG (i := 301) (by decide +kernel) rfl
theorem tw_301 {args : Array Value} {s : State} (h : ∀ w ∈ gG, w.before args s = true) : (Cond.code yX4_lies cX4_lies 2 (some .int)).before args s = true := h _ mw_301
theorem tw_302 {args : Array Value} {s : State} (h : ∀ w ∈ gG, w.before args s = true) : (Cond.methodLink RL 40 yX4_gap).before args s = true := h _ (mG (i := 302) (by decide +kernel) rfl)
theorem tw_303 {args : Array Value} {s : State} (h : ∀ w ∈ gG, w.before args s = true) : (Cond.instanceMethod yX4_gap).before args s = true := h _ (mG (i := 303) (by decide +kernel) rfl)
theorem tw_304 {args : Array Value} {s : State} (h : ∀ w ∈ gG, w.before args s = true) : (Cond.selects RX4 yX4_gap yX4_gap).before args s = true := h _ (mG (i := 304) (by decide +kernel) rfl)
theorem mw_305 : Cond.code yX4_gap cX4_gap 3 (some .int) ∈ gG := mG (i := 305) (by decide +kernel) rfl
theorem tw_305 {args : Array Value} {s : State} (h : ∀ w ∈ gG, w.before args s = true) : (Cond.code yX4_gap cX4_gap 3 (some .int)).before args s = true := h _ mw_305
theorem tw_306 {args : Array Value} {s : State} (h : ∀ w ∈ gG, w.before args s = true) : (Cond.methodLink RX4 93 yX1_gapOf).before args s = true := h _ (mG (i := 306) (by decide +kernel) rfl)
theorem tw_307 {args : Array Value} {s : State} (h : ∀ w ∈ gG, w.before args s = true) : (Cond.instanceMethod yX1_gapOf).before args s = true := h _ (mG (i := 307) (by decide +kernel) rfl)
theorem tw_308 {args : Array Value} {s : State} (h : ∀ w ∈ gG, w.before args s = true) : (Cond.selects RX1 yX1_gapOf yX1_gapOf).before args s = true := h _ (mG (i := 308) (by decide +kernel) rfl)
theorem mw_309 : Cond.code yX1_gapOf cX1_gapOf 7 (some .int) ∈ gG := mG (i := 309) (by decide +kernel) rfl
theorem tw_309 {args : Array Value} {s : State} (h : ∀ w ∈ gG, w.before args s = true) : (Cond.code yX1_gapOf cX1_gapOf 7 (some .int)).before args s = true := h _ mw_309
theorem tw_310 {args : Array Value} {s : State} (h : ∀ w ∈ gG, w.before args s = true) : (Cond.methodLink RX1 59 yX1_shownRight).before args s = true := h _ (mG (i := 310) (by decide +kernel) rfl)
theorem tw_311 {args : Array Value} {s : State} (h : ∀ w ∈ gG, w.before args s = true) : (Cond.instanceMethod yX1_shownRight).before args s = true := h _ (mG (i := 311) (by decide +kernel) rfl)
theorem tw_312 {args : Array Value} {s : State} (h : ∀ w ∈ gG, w.before args s = true) : (Cond.selects RX1 yX1_shownRight yX1_shownRight).before args s = true := h _ (mG (i := 312) (by decide +kernel) rfl)
theorem mw_313 : Cond.code yX1_shownRight cX1_shownRight 2 (some .int) ∈ gG := mG (i := 313) (by decide +kernel) rfl
theorem tw_313 {args : Array Value} {s : State} (h : ∀ w ∈ gG, w.before args s = true) : (Cond.code yX1_shownRight cX1_shownRight 2 (some .int)).before args s = true := h _ mw_313
theorem tw_314 {args : Array Value} {s : State} (h : ∀ w ∈ gG, w.before args s = true) : (Cond.methodLink RX1 62 yX1_shownLeft).before args s = true := h _ (mG (i := 314) (by decide +kernel) rfl)
theorem tw_315 {args : Array Value} {s : State} (h : ∀ w ∈ gG, w.before args s = true) : (Cond.instanceMethod yX1_shownLeft).before args s = true := h _ (mG (i := 315) (by decide +kernel) rfl)
theorem tw_316 {args : Array Value} {s : State} (h : ∀ w ∈ gG, w.before args s = true) : (Cond.selects RX1 yX1_shownLeft yX1_shownLeft).before args s = true := h _ (mG (i := 316) (by decide +kernel) rfl)
theorem mw_317 : Cond.code yX1_shownLeft cX1_shownLeft 2 (some .int) ∈ gG := mG (i := 317) (by decide +kernel) rfl
theorem tw_317 {args : Array Value} {s : State} (h : ∀ w ∈ gG, w.before args s = true) : (Cond.code yX1_shownLeft cX1_shownLeft 2 (some .int)).before args s = true := h _ mw_317
theorem tw_318 {args : Array Value} {s : State} (h : ∀ w ∈ gG, w.before args s = true) : (Cond.methodLink RX1 65 yJ9_abs_0f7a4).before args s = true := h _ (mG (i := 318) (by decide +kernel) rfl)
theorem tw_319 {args : Array Value} {s : State} (h : ∀ w ∈ gG, w.before args s = true) : (Cond.static yJ9_abs_0f7a4).before args s = true := h _ (mG (i := 319) (by decide +kernel) rfl)
theorem mw_320 : Cond.code yJ9_abs_0f7a4 cJ9_abs_0f7a4 1 (some .int) ∈ gG := mG (i := 320) (by decide +kernel) rfl
theorem tw_320 {args : Array Value} {s : State} (h : ∀ w ∈ gG, w.before args s = true) : (Cond.code yJ9_abs_0f7a4 cJ9_abs_0f7a4 1 (some .int)).before args s = true := h _ mw_320
theorem tw_322 {args : Array Value} {s : State} (h : ∀ w ∈ gG, w.before args s = true) : (Cond.static yX4_isOrUnder).before args s = true := h _ (mG (i := 322) (by decide +kernel) rfl)
theorem mw_323 : Cond.code yX4_isOrUnder cX4_isOrUnder 2 (some .boolean) ∈ gG := mG (i := 323) (by decide +kernel) rfl
theorem tw_323 {args : Array Value} {s : State} (h : ∀ w ∈ gG, w.before args s = true) : (Cond.code yX4_isOrUnder cX4_isOrUnder 2 (some .boolean)).before args s = true := h _ mw_323
theorem tw_324 {args : Array Value} {s : State} (h : ∀ w ∈ gG, w.before args s = true) : (Cond.methodLink RL 44 yX4_edge).before args s = true := h _ (mG (i := 324) (by decide +kernel) rfl)
theorem tw_325 {args : Array Value} {s : State} (h : ∀ w ∈ gG, w.before args s = true) : (Cond.instanceMethod yX4_edge).before args s = true := h _ (mG (i := 325) (by decide +kernel) rfl)
theorem tw_326 {args : Array Value} {s : State} (h : ∀ w ∈ gG, w.before args s = true) : (Cond.selects RX4 yX4_edge yX4_edge).before args s = true := h _ (mG (i := 326) (by decide +kernel) rfl)
theorem mw_327 : Cond.code yX4_edge cX4_edge 3 (some .int) ∈ gG := mG (i := 327) (by decide +kernel) rfl
theorem tw_327 {args : Array Value} {s : State} (h : ∀ w ∈ gG, w.before args s = true) : (Cond.code yX4_edge cX4_edge 3 (some .int)).before args s = true := h _ mw_327
theorem tw_328 {args : Array Value} {s : State} (h : ∀ w ∈ gG, w.before args s = true) : (Cond.methodLink RX4 96 yX1_edgeOf).before args s = true := h _ (mG (i := 328) (by decide +kernel) rfl)
theorem tw_329 {args : Array Value} {s : State} (h : ∀ w ∈ gG, w.before args s = true) : (Cond.instanceMethod yX1_edgeOf).before args s = true := h _ (mG (i := 329) (by decide +kernel) rfl)
theorem tw_330 {args : Array Value} {s : State} (h : ∀ w ∈ gG, w.before args s = true) : (Cond.selects RX1 yX1_edgeOf yX1_edgeOf).before args s = true := h _ (mG (i := 330) (by decide +kernel) rfl)
theorem mw_331 : Cond.code yX1_edgeOf cX1_edgeOf 4 (some .int) ∈ gG := mG (i := 331) (by decide +kernel) rfl
theorem tw_331 {args : Array Value} {s : State} (h : ∀ w ∈ gG, w.before args s = true) : (Cond.code yX1_edgeOf cX1_edgeOf 4 (some .int)).before args s = true := h _ mw_331
theorem tw_332 {args : Array Value} {s : State} (h : ∀ w ∈ gG, w.before args s = true) : (Cond.methodLink RL 48 yX4_swap).before args s = true := h _ (mG (i := 332) (by decide +kernel) rfl)
theorem tw_333 {args : Array Value} {s : State} (h : ∀ w ∈ gG, w.before args s = true) : (Cond.instanceMethod yX4_swap).before args s = true := h _ (mG (i := 333) (by decide +kernel) rfl)
theorem tw_334 {args : Array Value} {s : State} (h : ∀ w ∈ gG, w.before args s = true) : (Cond.selects RX4 yX4_swap yX4_swap).before args s = true := h _ (mG (i := 334) (by decide +kernel) rfl)
theorem mw_335 : Cond.code yX4_swap cX4_swap 3 (some .int) ∈ gG := mG (i := 335) (by decide +kernel) rfl
theorem tw_335 {args : Array Value} {s : State} (h : ∀ w ∈ gG, w.before args s = true) : (Cond.code yX4_swap cX4_swap 3 (some .int)).before args s = true := h _ mw_335
theorem tw_336 {args : Array Value} {s : State} (h : ∀ w ∈ gG, w.before args s = true) : (Cond.methodLink RX4 99 yX1_exchange).before args s = true := h _ (mG (i := 336) (by decide +kernel) rfl)
theorem tw_337 {args : Array Value} {s : State} (h : ∀ w ∈ gG, w.before args s = true) : (Cond.instanceMethod yX1_exchange).before args s = true := h _ (mG (i := 337) (by decide +kernel) rfl)
theorem tw_338 {args : Array Value} {s : State} (h : ∀ w ∈ gG, w.before args s = true) : (Cond.selects RX1 yX1_exchange yX1_exchange).before args s = true := h _ (mG (i := 338) (by decide +kernel) rfl)
theorem mw_339 : Cond.code yX1_exchange cX1_exchange 4 none ∈ gG := mG (i := 339) (by decide +kernel) rfl
theorem tw_339 {args : Array Value} {s : State} (h : ∀ w ∈ gG, w.before args s = true) : (Cond.code yX1_exchange cX1_exchange 4 none).before args s = true := h _ mw_339
theorem tw_340 {args : Array Value} {s : State} (h : ∀ w ∈ gG, w.before args s = true) : (Cond.methodLink RX1 84 yX1_has).before args s = true := h _ (mG (i := 340) (by decide +kernel) rfl)
theorem tw_341 {args : Array Value} {s : State} (h : ∀ w ∈ gG, w.before args s = true) : (Cond.methodLink RX4 103 yX1_sumOfRow).before args s = true := h _ (mG (i := 341) (by decide +kernel) rfl)
theorem tw_342 {args : Array Value} {s : State} (h : ∀ w ∈ gG, w.before args s = true) : (Cond.instanceMethod yX1_sumOfRow).before args s = true := h _ (mG (i := 342) (by decide +kernel) rfl)
theorem tw_343 {args : Array Value} {s : State} (h : ∀ w ∈ gG, w.before args s = true) : (Cond.selects RX1 yX1_sumOfRow yX1_sumOfRow).before args s = true := h _ (mG (i := 343) (by decide +kernel) rfl)
theorem mw_344 : Cond.code yX1_sumOfRow cX1_sumOfRow 3 (some .int) ∈ gG := mG (i := 344) (by decide +kernel) rfl
theorem tw_344 {args : Array Value} {s : State} (h : ∀ w ∈ gG, w.before args s = true) : (Cond.code yX1_sumOfRow cX1_sumOfRow 3 (some .int)).before args s = true := h _ mw_344
theorem tw_345 {args : Array Value} {s : State} (h : ∀ w ∈ gG, w.before args s = true) : (Cond.methodLink RX1 78 yX1_edgeOf).before args s = true := h _ (mG (i := 345) (by decide +kernel) rfl)
theorem tw_346 {args : Array Value} {s : State} (h : ∀ w ∈ gG, w.before args s = true) : (Cond.methodLink RX1 81 yX1_gapBehind).before args s = true := h _ (mG (i := 346) (by decide +kernel) rfl)
theorem tw_347 {args : Array Value} {s : State} (h : ∀ w ∈ gG, w.before args s = true) : (Cond.instanceMethod yX1_gapBehind).before args s = true := h _ (mG (i := 347) (by decide +kernel) rfl)
theorem tw_348 {args : Array Value} {s : State} (h : ∀ w ∈ gG, w.before args s = true) : (Cond.selects RX1 yX1_gapBehind yX1_gapBehind).before args s = true := h _ (mG (i := 348) (by decide +kernel) rfl)
theorem mw_349 : Cond.code yX1_gapBehind cX1_gapBehind 2 (some .int) ∈ gG := mG (i := 349) (by decide +kernel) rfl
theorem tw_349 {args : Array Value} {s : State} (h : ∀ w ∈ gG, w.before args s = true) : (Cond.code yX1_gapBehind cX1_gapBehind 2 (some .int)).before args s = true := h _ mw_349
theorem tw_350 {args : Array Value} {s : State} (h : ∀ w ∈ gG, w.before args s = true) : (Cond.methodLink RX1 74 yX1_gapOf).before args s = true := h _ (mG (i := 350) (by decide +kernel) rfl)
theorem tw_351 {args : Array Value} {s : State} (h : ∀ w ∈ gG, w.before args s = true) : (Cond.methodLink RL 52 yX4_go).before args s = true := h _ (mG (i := 351) (by decide +kernel) rfl)
theorem tw_352 {args : Array Value} {s : State} (h : ∀ w ∈ gG, w.before args s = true) : (Cond.instanceMethod yX4_go).before args s = true := h _ (mG (i := 352) (by decide +kernel) rfl)
theorem tw_353 {args : Array Value} {s : State} (h : ∀ w ∈ gG, w.before args s = true) : (Cond.selects RX4 yX4_go yX4_go).before args s = true := h _ (mG (i := 353) (by decide +kernel) rfl)
theorem mw_354 : Cond.code yX4_go cX4_go 2 (some .int) ∈ gG := mG (i := 354) (by decide +kernel) rfl
theorem tw_354 {args : Array Value} {s : State} (h : ∀ w ∈ gG, w.before args s = true) : (Cond.code yX4_go cX4_go 2 (some .int)).before args s = true := h _ mw_354
theorem tw_355 {args : Array Value} {s : State} (h : ∀ w ∈ gG, w.before args s = true) : (Cond.constant RX4 110 (99999)).before args s = true := h _ (mG (i := 355) (by decide +kernel) rfl)
theorem tw_356 {args : Array Value} {s : State} (h : ∀ w ∈ gG, w.before args s = true) : (Cond.methodLink RX4 111 yX1_passYears).before args s = true := h _ (mG (i := 356) (by decide +kernel) rfl)
theorem tw_357 {args : Array Value} {s : State} (h : ∀ w ∈ gG, w.before args s = true) : (Cond.instanceMethod yX1_passYears).before args s = true := h _ (mG (i := 357) (by decide +kernel) rfl)
theorem tw_358 {args : Array Value} {s : State} (h : ∀ w ∈ gG, w.before args s = true) : (Cond.selects RX1 yX1_passYears yX1_passYears).before args s = true := h _ (mG (i := 358) (by decide +kernel) rfl)
theorem mw_359 : Cond.code yX1_passYears cX1_passYears 3 none ∈ gG := mG (i := 359) (by decide +kernel) rfl
theorem tw_359 {args : Array Value} {s : State} (h : ∀ w ∈ gG, w.before args s = true) : (Cond.code yX1_passYears cX1_passYears 3 none).before args s = true := h _ mw_359
theorem tw_360 {args : Array Value} {s : State} (h : ∀ w ∈ gG, w.before args s = true) : (Cond.methodLink RX1 88 yX1_passYear).before args s = true := h _ (mG (i := 360) (by decide +kernel) rfl)
theorem tw_361 {args : Array Value} {s : State} (h : ∀ w ∈ gG, w.before args s = true) : (Cond.instanceMethod yX1_passYear).before args s = true := h _ (mG (i := 361) (by decide +kernel) rfl)
theorem tw_362 {args : Array Value} {s : State} (h : ∀ w ∈ gG, w.before args s = true) : (Cond.selects RX1 yX1_passYear yX1_passYear).before args s = true := h _ (mG (i := 362) (by decide +kernel) rfl)
theorem mw_363 : Cond.code yX1_passYear cX1_passYear 2 none ∈ gG := mG (i := 363) (by decide +kernel) rfl
theorem tw_363 {args : Array Value} {s : State} (h : ∀ w ∈ gG, w.before args s = true) : (Cond.code yX1_passYear cX1_passYear 2 none).before args s = true := h _ mw_363
theorem tw_364 {args : Array Value} {s : State} (h : ∀ w ∈ gG, w.before args s = true) : (Cond.methodLink RX1 91 yX1_exchange).before args s = true := h _ (mG (i := 364) (by decide +kernel) rfl)
theorem tw_365 {args : Array Value} {s : State} (h : ∀ w ∈ gG, w.before args s = true) : (Cond.methodLink RX1 95 yX1_cut).before args s = true := h _ (mG (i := 365) (by decide +kernel) rfl)
theorem tw_366 {args : Array Value} {s : State} (h : ∀ w ∈ gG, w.before args s = true) : (Cond.instanceMethod yX1_cut).before args s = true := h _ (mG (i := 366) (by decide +kernel) rfl)
theorem tw_367 {args : Array Value} {s : State} (h : ∀ w ∈ gG, w.before args s = true) : (Cond.selects RX1 yX1_cut yX1_cut).before args s = true := h _ (mG (i := 367) (by decide +kernel) rfl)
theorem mw_368 : Cond.code yX1_cut cX1_cut 2 none ∈ gG := mG (i := 368) (by decide +kernel) rfl
theorem tw_368 {args : Array Value} {s : State} (h : ∀ w ∈ gG, w.before args s = true) : (Cond.code yX1_cut cX1_cut 2 none).before args s = true := h _ mw_368
theorem tw_369 {args : Array Value} {s : State} (h : ∀ w ∈ gG, w.before args s = true) : (Cond.constant RX1 98 (99999)).before args s = true := h _ (mG (i := 369) (by decide +kernel) rfl)
theorem tw_370 {args : Array Value} {s : State} (h : ∀ w ∈ gG, w.before args s = true) : (Cond.methodLink RL 56 yX4_now).before args s = true := h _ (mG (i := 370) (by decide +kernel) rfl)
theorem tw_371 {args : Array Value} {s : State} (h : ∀ w ∈ gG, w.before args s = true) : (Cond.instanceMethod yX4_now).before args s = true := h _ (mG (i := 371) (by decide +kernel) rfl)
theorem tw_372 {args : Array Value} {s : State} (h : ∀ w ∈ gG, w.before args s = true) : (Cond.selects RX4 yX4_now yX4_now).before args s = true := h _ (mG (i := 372) (by decide +kernel) rfl)
theorem mw_373 : Cond.code yX4_now cX4_now 2 (some .int) ∈ gG := mG (i := 373) (by decide +kernel) rfl
theorem tw_373 {args : Array Value} {s : State} (h : ∀ w ∈ gG, w.before args s = true) : (Cond.code yX4_now cX4_now 2 (some .int)).before args s = true := h _ mw_373
theorem tw_374 {args : Array Value} {s : State} (h : ∀ w ∈ gG, w.before args s = true) : (Cond.methodLink RX4 115 yX1_closedPlaces).before args s = true := h _ (mG (i := 374) (by decide +kernel) rfl)
theorem tw_375 {args : Array Value} {s : State} (h : ∀ w ∈ gG, w.before args s = true) : (Cond.instanceMethod yX1_closedPlaces).before args s = true := h _ (mG (i := 375) (by decide +kernel) rfl)
theorem tw_376 {args : Array Value} {s : State} (h : ∀ w ∈ gG, w.before args s = true) : (Cond.selects RX1 yX1_closedPlaces yX1_closedPlaces).before args s = true := h _ (mG (i := 376) (by decide +kernel) rfl)
theorem mw_377 : Cond.code yX1_closedPlaces cX1_closedPlaces 3 (some .int) ∈ gG := mG (i := 377) (by decide +kernel) rfl
theorem tw_377 {args : Array Value} {s : State} (h : ∀ w ∈ gG, w.before args s = true) : (Cond.code yX1_closedPlaces cX1_closedPlaces 3 (some .int)).before args s = true := h _ mw_377
theorem tw_378 {args : Array Value} {s : State} (h : ∀ w ∈ gG, w.before args s = true) : (Cond.methodLink RX4 118 yX1_grantedPieces).before args s = true := h _ (mG (i := 378) (by decide +kernel) rfl)
theorem tw_379 {args : Array Value} {s : State} (h : ∀ w ∈ gG, w.before args s = true) : (Cond.instanceMethod yX1_grantedPieces).before args s = true := h _ (mG (i := 379) (by decide +kernel) rfl)
theorem tw_380 {args : Array Value} {s : State} (h : ∀ w ∈ gG, w.before args s = true) : (Cond.selects RX1 yX1_grantedPieces yX1_grantedPieces).before args s = true := h _ (mG (i := 380) (by decide +kernel) rfl)
theorem mw_381 : Cond.code yX1_grantedPieces cX1_grantedPieces 3 (some .int) ∈ gG := mG (i := 381) (by decide +kernel) rfl
theorem tw_381 {args : Array Value} {s : State} (h : ∀ w ∈ gG, w.before args s = true) : (Cond.code yX1_grantedPieces cX1_grantedPieces 3 (some .int)).before args s = true := h _ mw_381
theorem tw_382 {args : Array Value} {s : State} (h : ∀ w ∈ gG, w.before args s = true) : (Cond.methodLink RX1 100 yX1_isGranted).before args s = true := h _ (mG (i := 382) (by decide +kernel) rfl)
theorem tw_383 {args : Array Value} {s : State} (h : ∀ w ∈ gG, w.before args s = true) : (Cond.instanceMethod yX1_isGranted).before args s = true := h _ (mG (i := 383) (by decide +kernel) rfl)
theorem tw_384 {args : Array Value} {s : State} (h : ∀ w ∈ gG, w.before args s = true) : (Cond.selects RX1 yX1_isGranted yX1_isGranted).before args s = true := h _ (mG (i := 384) (by decide +kernel) rfl)
theorem mw_385 : Cond.code yX1_isGranted cX1_isGranted 3 (some .boolean) ∈ gG := mG (i := 385) (by decide +kernel) rfl
theorem tw_385 {args : Array Value} {s : State} (h : ∀ w ∈ gG, w.before args s = true) : (Cond.code yX1_isGranted cX1_isGranted 3 (some .boolean)).before args s = true := h _ mw_385
theorem tw_386 {args : Array Value} {s : State} (h : ∀ w ∈ gG, w.before args s = true) : (Cond.methodLink RX4 121 yX1_greatestGap).before args s = true := h _ (mG (i := 386) (by decide +kernel) rfl)
theorem tw_387 {args : Array Value} {s : State} (h : ∀ w ∈ gG, w.before args s = true) : (Cond.instanceMethod yX1_greatestGap).before args s = true := h _ (mG (i := 387) (by decide +kernel) rfl)
theorem tw_388 {args : Array Value} {s : State} (h : ∀ w ∈ gG, w.before args s = true) : (Cond.selects RX1 yX1_greatestGap yX1_greatestGap).before args s = true := h _ (mG (i := 388) (by decide +kernel) rfl)
theorem mw_389 : Cond.code yX1_greatestGap cX1_greatestGap 3 (some .int) ∈ gG := mG (i := 389) (by decide +kernel) rfl
theorem tw_389 {args : Array Value} {s : State} (h : ∀ w ∈ gG, w.before args s = true) : (Cond.code yX1_greatestGap cX1_greatestGap 3 (some .int)).before args s = true := h _ mw_389
theorem tw_390 {args : Array Value} {s : State} (h : ∀ w ∈ gG, w.before args s = true) : (Cond.methodLink RX1 103 yJ9_max_7cf53).before args s = true := h _ (mG (i := 390) (by decide +kernel) rfl)
theorem tw_391 {args : Array Value} {s : State} (h : ∀ w ∈ gG, w.before args s = true) : (Cond.static yJ9_max_7cf53).before args s = true := h _ (mG (i := 391) (by decide +kernel) rfl)
theorem mw_392 : Cond.code yJ9_max_7cf53 cJ9_max_7cf53 2 (some .int) ∈ gG := mG (i := 392) (by decide +kernel) rfl
theorem tw_392 {args : Array Value} {s : State} (h : ∀ w ∈ gG, w.before args s = true) : (Cond.code yJ9_max_7cf53 cJ9_max_7cf53 2 (some .int)).before args s = true := h _ mw_392
theorem tw_393 {args : Array Value} {s : State} (h : ∀ w ∈ gG, w.before args s = true) : (Cond.methodLink RX4 127 yX0_leastSum).before args s = true := h _ (mG (i := 393) (by decide +kernel) rfl)
theorem tw_394 {args : Array Value} {s : State} (h : ∀ w ∈ gG, w.before args s = true) : (Cond.instanceMethod yX0_leastSum).before args s = true := h _ (mG (i := 394) (by decide +kernel) rfl)
theorem tw_395 {args : Array Value} {s : State} (h : ∀ w ∈ gG, w.before args s = true) : (Cond.selects RX0 yX0_leastSum yX0_leastSum).before args s = true := h _ (mG (i := 395) (by decide +kernel) rfl)
theorem mw_396 : Cond.code yX0_leastSum cX0_leastSum 3 (some .int) ∈ gG := mG (i := 396) (by decide +kernel) rfl
theorem tw_396 {args : Array Value} {s : State} (h : ∀ w ∈ gG, w.before args s = true) : (Cond.code yX0_leastSum cX0_leastSum 3 (some .int)).before args s = true := h _ mw_396
theorem tw_397 {args : Array Value} {s : State} (h : ∀ w ∈ gG, w.before args s = true) : (Cond.methodLink RX0 30 yX0_weigh).before args s = true := h _ (mG (i := 397) (by decide +kernel) rfl)
theorem tw_399 {args : Array Value} {s : State} (h : ∀ w ∈ gG, w.before args s = true) : (Cond.instanceMethod yX0_weigh).before args s = true := h _ (mG (i := 399) (by decide +kernel) rfl)
theorem mw_400 : Cond.code yX0_weigh cX0_weigh 4 none ∈ gG := mG (i := 400) (by decide +kernel) rfl
theorem tw_400 {args : Array Value} {s : State} (h : ∀ w ∈ gG, w.before args s = true) : (Cond.code yX0_weigh cX0_weigh 4 none).before args s = true := h _ mw_400
theorem tw_401 {args : Array Value} {s : State} (h : ∀ w ∈ gG, w.before args s = true) : (Cond.methodLink RX0 45 yX1_edgeOf).before args s = true := h _ (mG (i := 401) (by decide +kernel) rfl)
theorem tw_402 {args : Array Value} {s : State} (h : ∀ w ∈ gG, w.before args s = true) : (Cond.methodLink RX0 49 yX1_gapOf).before args s = true := h _ (mG (i := 402) (by decide +kernel) rfl)
theorem tw_403 {args : Array Value} {s : State} (h : ∀ w ∈ gG, w.before args s = true) : (Cond.methodLink RX0 34 yX0_fillRests).before args s = true := h _ (mG (i := 403) (by decide +kernel) rfl)
theorem tw_405 {args : Array Value} {s : State} (h : ∀ w ∈ gG, w.before args s = true) : (Cond.instanceMethod yX0_fillRests).before args s = true := h _ (mG (i := 405) (by decide +kernel) rfl)
theorem mw_406 : Cond.code yX0_fillRests cX0_fillRests 5 none ∈ gG := mG (i := 406) (by decide +kernel) rfl
theorem tw_406 {args : Array Value} {s : State} (h : ∀ w ∈ gG, w.before args s = true) : (Cond.code yX0_fillRests cX0_fillRests 5 none).before args s = true := h _ mw_406
theorem tw_407 {args : Array Value} {s : State} (h : ∀ w ∈ gG, w.before args s = true) : (Cond.methodLink RX0 52 yX0_leastRest).before args s = true := h _ (mG (i := 407) (by decide +kernel) rfl)
theorem tw_409 {args : Array Value} {s : State} (h : ∀ w ∈ gG, w.before args s = true) : (Cond.instanceMethod yX0_leastRest).before args s = true := h _ (mG (i := 409) (by decide +kernel) rfl)
theorem mw_410 : Cond.code yX0_leastRest cX0_leastRest 6 (some .int) ∈ gG := mG (i := 410) (by decide +kernel) rfl
theorem tw_410 {args : Array Value} {s : State} (h : ∀ w ∈ gG, w.before args s = true) : (Cond.code yX0_leastRest cX0_leastRest 6 (some .int)).before args s = true := h _ mw_410
theorem tw_411 {args : Array Value} {s : State} (h : ∀ w ∈ gG, w.before args s = true) : (Cond.constant RX0 55 (1000000)).before args s = true := h _ (mG (i := 411) (by decide +kernel) rfl)
theorem tw_412 {args : Array Value} {s : State} (h : ∀ w ∈ gG, w.before args s = true) : (Cond.methodLink RX0 42 yX0_costOfNext).before args s = true := h _ (mG (i := 412) (by decide +kernel) rfl)
theorem tw_414 {args : Array Value} {s : State} (h : ∀ w ∈ gG, w.before args s = true) : (Cond.instanceMethod yX0_costOfNext).before args s = true := h _ (mG (i := 414) (by decide +kernel) rfl)
theorem mw_415 : Cond.code yX0_costOfNext cX0_costOfNext 5 (some .int) ∈ gG := mG (i := 415) (by decide +kernel) rfl
theorem tw_415 {args : Array Value} {s : State} (h : ∀ w ∈ gG, w.before args s = true) : (Cond.code yX0_costOfNext cX0_costOfNext 5 (some .int)).before args s = true := h _ mw_415
theorem tw_416 {args : Array Value} {s : State} (h : ∀ w ∈ gG, w.before args s = true) : (Cond.methodLink RX0 56 yJ9_min_7cf53).before args s = true := h _ (mG (i := 416) (by decide +kernel) rfl)
theorem tw_417 {args : Array Value} {s : State} (h : ∀ w ∈ gG, w.before args s = true) : (Cond.static yJ9_min_7cf53).before args s = true := h _ (mG (i := 417) (by decide +kernel) rfl)
theorem mw_418 : Cond.code yJ9_min_7cf53 cJ9_min_7cf53 2 (some .int) ∈ gG := mG (i := 418) (by decide +kernel) rfl
theorem tw_418 {args : Array Value} {s : State} (h : ∀ w ∈ gG, w.before args s = true) : (Cond.code yJ9_min_7cf53 cJ9_min_7cf53 2 (some .int)).before args s = true := h _ mw_418
theorem tw_419 {args : Array Value} {s : State} (h : ∀ w ∈ gG, w.before args s = true) : (Cond.methodLink RX0 38 yX0_bestNext).before args s = true := h _ (mG (i := 419) (by decide +kernel) rfl)
theorem tw_421 {args : Array Value} {s : State} (h : ∀ w ∈ gG, w.before args s = true) : (Cond.instanceMethod yX0_bestNext).before args s = true := h _ (mG (i := 421) (by decide +kernel) rfl)
theorem mw_422 : Cond.code yX0_bestNext cX0_bestNext 8 (some .int) ∈ gG := mG (i := 422) (by decide +kernel) rfl
theorem tw_422 {args : Array Value} {s : State} (h : ∀ w ∈ gG, w.before args s = true) : (Cond.code yX0_bestNext cX0_bestNext 8 (some .int)).before args s = true := h _ mw_422
theorem tw_423 {args : Array Value} {s : State} (h : ∀ w ∈ gG, w.before args s = true) : (Cond.methodLink RX4 131 yX4_leastExchange).before args s = true := h _ (mG (i := 423) (by decide +kernel) rfl)
theorem tw_425 {args : Array Value} {s : State} (h : ∀ w ∈ gG, w.before args s = true) : (Cond.instanceMethod yX4_leastExchange).before args s = true := h _ (mG (i := 425) (by decide +kernel) rfl)
theorem mw_426 : Cond.code yX4_leastExchange cX4_leastExchange 6 (some .int) ∈ gG := mG (i := 426) (by decide +kernel) rfl
theorem tw_426 {args : Array Value} {s : State} (h : ∀ w ∈ gG, w.before args s = true) : (Cond.code yX4_leastExchange cX4_leastExchange 6 (some .int)).before args s = true := h _ mw_426
theorem tw_427 {args : Array Value} {s : State} (h : ∀ w ∈ gG, w.before args s = true) : (Cond.methodLink RX4 248 yX4_sumExchanged).before args s = true := h _ (mG (i := 427) (by decide +kernel) rfl)
theorem tw_429 {args : Array Value} {s : State} (h : ∀ w ∈ gG, w.before args s = true) : (Cond.instanceMethod yX4_sumExchanged).before args s = true := h _ (mG (i := 429) (by decide +kernel) rfl)
theorem mw_430 : Cond.code yX4_sumExchanged cX4_sumExchanged 4 (some .int) ∈ gG := mG (i := 430) (by decide +kernel) rfl
theorem tw_430 {args : Array Value} {s : State} (h : ∀ w ∈ gG, w.before args s = true) : (Cond.code yX4_sumExchanged cX4_sumExchanged 4 (some .int)).before args s = true := h _ mw_430
theorem tw_431 {args : Array Value} {s : State} (h : ∀ w ∈ gG, w.before args s = true) : (Cond.methodLink RL 60 yX4_ahead).before args s = true := h _ (mG (i := 431) (by decide +kernel) rfl)
theorem tw_432 {args : Array Value} {s : State} (h : ∀ w ∈ gG, w.before args s = true) : (Cond.instanceMethod yX4_ahead).before args s = true := h _ (mG (i := 432) (by decide +kernel) rfl)
theorem tw_433 {args : Array Value} {s : State} (h : ∀ w ∈ gG, w.before args s = true) : (Cond.selects RX4 yX4_ahead yX4_ahead).before args s = true := h _ (mG (i := 433) (by decide +kernel) rfl)
theorem mw_434 : Cond.code yX4_ahead cX4_ahead 5 (some .int) ∈ gG := mG (i := 434) (by decide +kernel) rfl
theorem tw_434 {args : Array Value} {s : State} (h : ∀ w ∈ gG, w.before args s = true) : (Cond.code yX4_ahead cX4_ahead 5 (some .int)).before args s = true := h _ mw_434
theorem tw_435 {args : Array Value} {s : State} (h : ∀ w ∈ gG, w.before args s = true) : (Cond.methodLink RX4 134 yX1_takeFrom).before args s = true := h _ (mG (i := 435) (by decide +kernel) rfl)
theorem tw_436 {args : Array Value} {s : State} (h : ∀ w ∈ gG, w.before args s = true) : (Cond.instanceMethod yX1_takeFrom).before args s = true := h _ (mG (i := 436) (by decide +kernel) rfl)
theorem tw_437 {args : Array Value} {s : State} (h : ∀ w ∈ gG, w.before args s = true) : (Cond.selects RX1 yX1_takeFrom yX1_takeFrom).before args s = true := h _ (mG (i := 437) (by decide +kernel) rfl)
theorem mw_438 : Cond.code yX1_takeFrom cX1_takeFrom 2 none ∈ gG := mG (i := 438) (by decide +kernel) rfl
theorem tw_438 {args : Array Value} {s : State} (h : ∀ w ∈ gG, w.before args s = true) : (Cond.code yX1_takeFrom cX1_takeFrom 2 none).before args s = true := h _ mw_438
theorem tw_439 {args : Array Value} {s : State} (h : ∀ w ∈ gG, w.before args s = true) : (Cond.methodLink RX1 37 arraycopyName).before args s = true := h _ (mG (i := 439) (by decide +kernel) rfl)
theorem tw_440 {args : Array Value} {s : State} (h : ∀ w ∈ gG, w.before args s = true) : (Cond.static arraycopyName).before args s = true := h _ (mG (i := 440) (by decide +kernel) rfl)
theorem tw_441 {args : Array Value} {s : State} (h : ∀ w ∈ gG, w.before args s = true) : (Cond.native arraycopyName).before args s = true := h _ (mG (i := 441) (by decide +kernel) rfl)
theorem tw_442 {args : Array Value} {s : State} (h : ∀ w ∈ gG, w.before args s = true) : (Cond.methodLink RL 64 yX4_sum).before args s = true := h _ (mG (i := 442) (by decide +kernel) rfl)
theorem tw_443 {args : Array Value} {s : State} (h : ∀ w ∈ gG, w.before args s = true) : (Cond.instanceMethod yX4_sum).before args s = true := h _ (mG (i := 443) (by decide +kernel) rfl)
theorem tw_444 {args : Array Value} {s : State} (h : ∀ w ∈ gG, w.before args s = true) : (Cond.selects RX4 yX4_sum yX4_sum).before args s = true := h _ (mG (i := 444) (by decide +kernel) rfl)
theorem mw_445 : Cond.code yX4_sum cX4_sum 2 (some .int) ∈ gG := mG (i := 445) (by decide +kernel) rfl
theorem tw_445 {args : Array Value} {s : State} (h : ∀ w ∈ gG, w.before args s = true) : (Cond.code yX4_sum cX4_sum 2 (some .int)).before args s = true := h _ mw_445
theorem tw_446 {args : Array Value} {s : State} (h : ∀ w ∈ gG, w.before args s = true) : (Cond.methodLink RL 68 yX4_when).before args s = true := h _ (mG (i := 446) (by decide +kernel) rfl)
theorem tw_447 {args : Array Value} {s : State} (h : ∀ w ∈ gG, w.before args s = true) : (Cond.instanceMethod yX4_when).before args s = true := h _ (mG (i := 447) (by decide +kernel) rfl)
theorem tw_448 {args : Array Value} {s : State} (h : ∀ w ∈ gG, w.before args s = true) : (Cond.selects RX4 yX4_when yX4_when).before args s = true := h _ (mG (i := 448) (by decide +kernel) rfl)
theorem mw_449 : Cond.code yX4_when cX4_when 3 (some .int) ∈ gG := mG (i := 449) (by decide +kernel) rfl
theorem tw_449 {args : Array Value} {s : State} (h : ∀ w ∈ gG, w.before args s = true) : (Cond.code yX4_when cX4_when 3 (some .int)).before args s = true := h _ mw_449
theorem tw_450 {args : Array Value} {s : State} (h : ∀ w ∈ gG, w.before args s = true) : (Cond.methodLink RX4 138 yX4_isToldSum).before args s = true := h _ (mG (i := 450) (by decide +kernel) rfl)
theorem tw_451 {args : Array Value} {s : State} (h : ∀ w ∈ gG, w.before args s = true) : (Cond.static yX4_isToldSum).before args s = true := h _ (mG (i := 451) (by decide +kernel) rfl)
theorem mw_452 : Cond.code yX4_isToldSum cX4_isToldSum 1 (some .boolean) ∈ gG := mG (i := 452) (by decide +kernel) rfl
theorem tw_452 {args : Array Value} {s : State} (h : ∀ w ∈ gG, w.before args s = true) : (Cond.code yX4_isToldSum cX4_isToldSum 1 (some .boolean)).before args s = true := h _ mw_452
theorem tw_453 {args : Array Value} {s : State} (h : ∀ w ∈ gG, w.before args s = true) : (Cond.methodLink RX4 141 yX1_passYear).before args s = true := h _ (mG (i := 453) (by decide +kernel) rfl)
theorem tw_454 {args : Array Value} {s : State} (h : ∀ w ∈ gG, w.before args s = true) : (Cond.methodLink RL 72 yX4_comes).before args s = true := h _ (mG (i := 454) (by decide +kernel) rfl)
theorem tw_455 {args : Array Value} {s : State} (h : ∀ w ∈ gG, w.before args s = true) : (Cond.instanceMethod yX4_comes).before args s = true := h _ (mG (i := 455) (by decide +kernel) rfl)
theorem tw_456 {args : Array Value} {s : State} (h : ∀ w ∈ gG, w.before args s = true) : (Cond.selects RX4 yX4_comes yX4_comes).before args s = true := h _ (mG (i := 456) (by decide +kernel) rfl)
theorem mw_457 : Cond.code yX4_comes cX4_comes 4 (some .int) ∈ gG := mG (i := 457) (by decide +kernel) rfl
theorem tw_457 {args : Array Value} {s : State} (h : ∀ w ∈ gG, w.before args s = true) : (Cond.code yX4_comes cX4_comes 4 (some .int)).before args s = true := h _ mw_457
theorem tw_458 {args : Array Value} {s : State} (h : ∀ w ∈ gG, w.before args s = true) : (Cond.methodLink RX4 144 yX1_placeOf).before args s = true := h _ (mG (i := 458) (by decide +kernel) rfl)
theorem tw_459 {args : Array Value} {s : State} (h : ∀ w ∈ gG, w.before args s = true) : (Cond.methodLink RL 76 yX4_granted).before args s = true := h _ (mG (i := 459) (by decide +kernel) rfl)
theorem tw_460 {args : Array Value} {s : State} (h : ∀ w ∈ gG, w.before args s = true) : (Cond.instanceMethod yX4_granted).before args s = true := h _ (mG (i := 460) (by decide +kernel) rfl)
theorem tw_461 {args : Array Value} {s : State} (h : ∀ w ∈ gG, w.before args s = true) : (Cond.selects RX4 yX4_granted yX4_granted).before args s = true := h _ (mG (i := 461) (by decide +kernel) rfl)
theorem mw_462 : Cond.code yX4_granted cX4_granted 3 (some .int) ∈ gG := mG (i := 462) (by decide +kernel) rfl
theorem tw_462 {args : Array Value} {s : State} (h : ∀ w ∈ gG, w.before args s = true) : (Cond.code yX4_granted cX4_granted 3 (some .int)).before args s = true := h _ mw_462
theorem tw_463 {args : Array Value} {s : State} (h : ∀ w ∈ gG, w.before args s = true) : (Cond.methodLink RX4 147 yX1_isGranted).before args s = true := h _ (mG (i := 463) (by decide +kernel) rfl)
theorem tw_464 {args : Array Value} {s : State} (h : ∀ w ∈ gG, w.before args s = true) : (Cond.methodLink RL 80 yX4_best).before args s = true := h _ (mG (i := 464) (by decide +kernel) rfl)
theorem tw_465 {args : Array Value} {s : State} (h : ∀ w ∈ gG, w.before args s = true) : (Cond.instanceMethod yX4_best).before args s = true := h _ (mG (i := 465) (by decide +kernel) rfl)
theorem tw_466 {args : Array Value} {s : State} (h : ∀ w ∈ gG, w.before args s = true) : (Cond.selects RX4 yX4_best yX4_best).before args s = true := h _ (mG (i := 466) (by decide +kernel) rfl)
theorem mw_467 : Cond.code yX4_best cX4_best 1 (some .int) ∈ gG := mG (i := 467) (by decide +kernel) rfl
theorem tw_467 {args : Array Value} {s : State} (h : ∀ w ∈ gG, w.before args s = true) : (Cond.code yX4_best cX4_best 1 (some .int)).before args s = true := h _ mw_467
theorem tw_468 {args : Array Value} {s : State} (h : ∀ w ∈ gG, w.before args s = true) : (Cond.methodLink RL 85 yX4_bestAt).before args s = true := h _ (mG (i := 468) (by decide +kernel) rfl)
theorem tw_469 {args : Array Value} {s : State} (h : ∀ w ∈ gG, w.before args s = true) : (Cond.instanceMethod yX4_bestAt).before args s = true := h _ (mG (i := 469) (by decide +kernel) rfl)
theorem tw_470 {args : Array Value} {s : State} (h : ∀ w ∈ gG, w.before args s = true) : (Cond.selects RX4 yX4_bestAt yX4_bestAt).before args s = true := h _ (mG (i := 470) (by decide +kernel) rfl)
theorem mw_471 : Cond.code yX4_bestAt cX4_bestAt 2 (some .int) ∈ gG := mG (i := 471) (by decide +kernel) rfl
theorem tw_471 {args : Array Value} {s : State} (h : ∀ w ∈ gG, w.before args s = true) : (Cond.code yX4_bestAt cX4_bestAt 2 (some .int)).before args s = true := h _ mw_471
theorem tw_472 {args : Array Value} {s : State} (h : ∀ w ∈ gG, w.before args s = true) : (Cond.methodLink RX4 150 yX0_pieceAt).before args s = true := h _ (mG (i := 472) (by decide +kernel) rfl)
theorem tw_473 {args : Array Value} {s : State} (h : ∀ w ∈ gG, w.before args s = true) : (Cond.instanceMethod yX0_pieceAt).before args s = true := h _ (mG (i := 473) (by decide +kernel) rfl)
theorem tw_474 {args : Array Value} {s : State} (h : ∀ w ∈ gG, w.before args s = true) : (Cond.selects RX0 yX0_pieceAt yX0_pieceAt).before args s = true := h _ (mG (i := 474) (by decide +kernel) rfl)
theorem mw_475 : Cond.code yX0_pieceAt cX0_pieceAt 6 (some .int) ∈ gG := mG (i := 475) (by decide +kernel) rfl
theorem tw_475 {args : Array Value} {s : State} (h : ∀ w ∈ gG, w.before args s = true) : (Cond.code yX0_pieceAt cX0_pieceAt 6 (some .int)).before args s = true := h _ mw_475
theorem tw_476 {args : Array Value} {s : State} (h : ∀ w ∈ gG, w.before args s = true) : (Cond.methodLink RL 89 yX4_settle).before args s = true := h _ (mG (i := 476) (by decide +kernel) rfl)
theorem tw_477 {args : Array Value} {s : State} (h : ∀ w ∈ gG, w.before args s = true) : (Cond.instanceMethod yX4_settle).before args s = true := h _ (mG (i := 477) (by decide +kernel) rfl)
theorem tw_478 {args : Array Value} {s : State} (h : ∀ w ∈ gG, w.before args s = true) : (Cond.selects RX4 yX4_settle yX4_settle).before args s = true := h _ (mG (i := 478) (by decide +kernel) rfl)
theorem mw_479 : Cond.code yX4_settle cX4_settle 4 (some .int) ∈ gG := mG (i := 479) (by decide +kernel) rfl
theorem tw_479 {args : Array Value} {s : State} (h : ∀ w ∈ gG, w.before args s = true) : (Cond.code yX4_settle cX4_settle 4 (some .int)).before args s = true := h _ mw_479
theorem tw_480 {args : Array Value} {s : State} (h : ∀ w ∈ gG, w.before args s = true) : (Cond.constant RX4 154 (1000000)).before args s = true := h _ (mG (i := 480) (by decide +kernel) rfl)
theorem tw_481 {args : Array Value} {s : State} (h : ∀ w ∈ gG, w.before args s = true) : (Cond.methodLink RL 93 yX4_edgeFor).before args s = true := h _ (mG (i := 481) (by decide +kernel) rfl)
theorem tw_482 {args : Array Value} {s : State} (h : ∀ w ∈ gG, w.before args s = true) : (Cond.instanceMethod yX4_edgeFor).before args s = true := h _ (mG (i := 482) (by decide +kernel) rfl)
theorem tw_483 {args : Array Value} {s : State} (h : ∀ w ∈ gG, w.before args s = true) : (Cond.selects RX4 yX4_edgeFor yX4_edgeFor).before args s = true := h _ (mG (i := 483) (by decide +kernel) rfl)
theorem mw_484 : Cond.code yX4_edgeFor cX4_edgeFor 2 (some .int) ∈ gG := mG (i := 484) (by decide +kernel) rfl
theorem tw_484 {args : Array Value} {s : State} (h : ∀ w ∈ gG, w.before args s = true) : (Cond.code yX4_edgeFor cX4_edgeFor 2 (some .int)).before args s = true := h _ mw_484
theorem tw_485 {args : Array Value} {s : State} (h : ∀ w ∈ gG, w.before args s = true) : (Cond.methodLink RX4 155 yX4_bestValueFor).before args s = true := h _ (mG (i := 485) (by decide +kernel) rfl)
theorem tw_487 {args : Array Value} {s : State} (h : ∀ w ∈ gG, w.before args s = true) : (Cond.instanceMethod yX4_bestValueFor).before args s = true := h _ (mG (i := 487) (by decide +kernel) rfl)
theorem mw_488 : Cond.code yX4_bestValueFor cX4_bestValueFor 8 (some .int) ∈ gG := mG (i := 488) (by decide +kernel) rfl
theorem tw_488 {args : Array Value} {s : State} (h : ∀ w ∈ gG, w.before args s = true) : (Cond.code yX4_bestValueFor cX4_bestValueFor 8 (some .int)).before args s = true := h _ mw_488
theorem tw_489 {args : Array Value} {s : State} (h : ∀ w ∈ gG, w.before args s = true) : (Cond.methodLink RL 97 yX4_kindFor).before args s = true := h _ (mG (i := 489) (by decide +kernel) rfl)
theorem tw_490 {args : Array Value} {s : State} (h : ∀ w ∈ gG, w.before args s = true) : (Cond.instanceMethod yX4_kindFor).before args s = true := h _ (mG (i := 490) (by decide +kernel) rfl)
theorem tw_491 {args : Array Value} {s : State} (h : ∀ w ∈ gG, w.before args s = true) : (Cond.selects RX4 yX4_kindFor yX4_kindFor).before args s = true := h _ (mG (i := 491) (by decide +kernel) rfl)
theorem mw_492 : Cond.code yX4_kindFor cX4_kindFor 2 (some .int) ∈ gG := mG (i := 492) (by decide +kernel) rfl
theorem tw_492 {args : Array Value} {s : State} (h : ∀ w ∈ gG, w.before args s = true) : (Cond.code yX4_kindFor cX4_kindFor 2 (some .int)).before args s = true := h _ mw_492
theorem tw_493 {args : Array Value} {s : State} (h : ∀ w ∈ gG, w.before args s = true) : (Cond.methodLink RL 101 yX4_turn).before args s = true := h _ (mG (i := 493) (by decide +kernel) rfl)
theorem tw_494 {args : Array Value} {s : State} (h : ∀ w ∈ gG, w.before args s = true) : (Cond.instanceMethod yX4_turn).before args s = true := h _ (mG (i := 494) (by decide +kernel) rfl)
theorem tw_495 {args : Array Value} {s : State} (h : ∀ w ∈ gG, w.before args s = true) : (Cond.selects RX4 yX4_turn yX4_turn).before args s = true := h _ (mG (i := 495) (by decide +kernel) rfl)
theorem mw_496 : Cond.code yX4_turn cX4_turn 6 (some .int) ∈ gG := mG (i := 496) (by decide +kernel) rfl
theorem tw_496 {args : Array Value} {s : State} (h : ∀ w ∈ gG, w.before args s = true) : (Cond.code yX4_turn cX4_turn 6 (some .int)).before args s = true := h _ mw_496
theorem tw_497 {args : Array Value} {s : State} (h : ∀ w ∈ gG, w.before args s = true) : (Cond.methodLink RX4 158 yJ6_bitCount_0f7a4).before args s = true := h _ (mG (i := 497) (by decide +kernel) rfl)
theorem tw_498 {args : Array Value} {s : State} (h : ∀ w ∈ gG, w.before args s = true) : (Cond.static yJ6_bitCount_0f7a4).before args s = true := h _ (mG (i := 498) (by decide +kernel) rfl)
theorem mw_499 : Cond.code yJ6_bitCount_0f7a4 cJ6_bitCount_0f7a4 1 (some .int) ∈ gG := mG (i := 499) (by decide +kernel) rfl
theorem tw_499 {args : Array Value} {s : State} (h : ∀ w ∈ gG, w.before args s = true) : (Cond.code yJ6_bitCount_0f7a4 cJ6_bitCount_0f7a4 1 (some .int)).before args s = true := h _ mw_499
theorem tw_500 {args : Array Value} {s : State} (h : ∀ w ∈ gG, w.before args s = true) : (Cond.constant RJ6 265 (1431655765)).before args s = true := h _ (mG (i := 500) (by decide +kernel) rfl)
theorem tw_501 {args : Array Value} {s : State} (h : ∀ w ∈ gG, w.before args s = true) : (Cond.constant RJ6 266 (858993459)).before args s = true := h _ (mG (i := 501) (by decide +kernel) rfl)
theorem tw_502 {args : Array Value} {s : State} (h : ∀ w ∈ gG, w.before args s = true) : (Cond.constant RJ6 267 (252645135)).before args s = true := h _ (mG (i := 502) (by decide +kernel) rfl)
theorem tw_503 {args : Array Value} {s : State} (h : ∀ w ∈ gG, w.before args s = true) : (Cond.methodLink RL 105 yX4_fits).before args s = true := h _ (mG (i := 503) (by decide +kernel) rfl)
theorem tw_504 {args : Array Value} {s : State} (h : ∀ w ∈ gG, w.before args s = true) : (Cond.instanceMethod yX4_fits).before args s = true := h _ (mG (i := 504) (by decide +kernel) rfl)
theorem tw_505 {args : Array Value} {s : State} (h : ∀ w ∈ gG, w.before args s = true) : (Cond.selects RX4 yX4_fits yX4_fits).before args s = true := h _ (mG (i := 505) (by decide +kernel) rfl)
theorem mw_506 : Cond.code yX4_fits cX4_fits 7 (some .int) ∈ gG := mG (i := 506) (by decide +kernel) rfl
theorem tw_506 {args : Array Value} {s : State} (h : ∀ w ∈ gG, w.before args s = true) : (Cond.code yX4_fits cX4_fits 7 (some .int)).before args s = true := h _ mw_506
theorem tw_507 {args : Array Value} {s : State} (h : ∀ w ∈ gG, w.before args s = true) : (Cond.methodLink RX4 163 yX4_wrongSheet).before args s = true := h _ (mG (i := 507) (by decide +kernel) rfl)
theorem tw_509 {args : Array Value} {s : State} (h : ∀ w ∈ gG, w.before args s = true) : (Cond.instanceMethod yX4_wrongSheet).before args s = true := h _ (mG (i := 509) (by decide +kernel) rfl)
theorem mw_510 : Cond.code yX4_wrongSheet cX4_wrongSheet 2 (some .int) ∈ gG := mG (i := 510) (by decide +kernel) rfl
theorem tw_510 {args : Array Value} {s : State} (h : ∀ w ∈ gG, w.before args s = true) : (Cond.code yX4_wrongSheet cX4_wrongSheet 2 (some .int)).before args s = true := h _ mw_510
theorem tw_511 {args : Array Value} {s : State} (h : ∀ w ∈ gG, w.before args s = true) : (Cond.methodLink RX4 210 yX4_isSheet).before args s = true := h _ (mG (i := 511) (by decide +kernel) rfl)
theorem tw_512 {args : Array Value} {s : State} (h : ∀ w ∈ gG, w.before args s = true) : (Cond.static yX4_isSheet).before args s = true := h _ (mG (i := 512) (by decide +kernel) rfl)
theorem mw_513 : Cond.code yX4_isSheet cX4_isSheet 1 (some .boolean) ∈ gG := mG (i := 513) (by decide +kernel) rfl
theorem tw_513 {args : Array Value} {s : State} (h : ∀ w ∈ gG, w.before args s = true) : (Cond.code yX4_isSheet cX4_isSheet 1 (some .boolean)).before args s = true := h _ mw_513
theorem tw_514 {args : Array Value} {s : State} (h : ∀ w ∈ gG, w.before args s = true) : (Cond.methodLink RX4 172 yX4_trialGoesAs).before args s = true := h _ (mG (i := 514) (by decide +kernel) rfl)
theorem tw_516 {args : Array Value} {s : State} (h : ∀ w ∈ gG, w.before args s = true) : (Cond.instanceMethod yX4_trialGoesAs).before args s = true := h _ (mG (i := 516) (by decide +kernel) rfl)
theorem mw_517 : Cond.code yX4_trialGoesAs cX4_trialGoesAs 4 (some .boolean) ∈ gG := mG (i := 517) (by decide +kernel) rfl
theorem tw_517 {args : Array Value} {s : State} (h : ∀ w ∈ gG, w.before args s = true) : (Cond.code yX4_trialGoesAs cX4_trialGoesAs 4 (some .boolean)).before args s = true := h _ mw_517
theorem tw_518 {args : Array Value} {s : State} (h : ∀ w ∈ gG, w.before args s = true) : (Cond.methodLink RX4 251 yJ9_min_7cf53).before args s = true := h _ (mG (i := 518) (by decide +kernel) rfl)
theorem tw_519 {args : Array Value} {s : State} (h : ∀ w ∈ gG, w.before args s = true) : (Cond.methodLink RL 109 yX4_kinds).before args s = true := h _ (mG (i := 519) (by decide +kernel) rfl)
theorem tw_520 {args : Array Value} {s : State} (h : ∀ w ∈ gG, w.before args s = true) : (Cond.instanceMethod yX4_kinds).before args s = true := h _ (mG (i := 520) (by decide +kernel) rfl)
theorem tw_521 {args : Array Value} {s : State} (h : ∀ w ∈ gG, w.before args s = true) : (Cond.selects RX4 yX4_kinds yX4_kinds).before args s = true := h _ (mG (i := 521) (by decide +kernel) rfl)
theorem mw_522 : Cond.code yX4_kinds cX4_kinds 6 (some .int) ∈ gG := mG (i := 522) (by decide +kernel) rfl
theorem tw_522 {args : Array Value} {s : State} (h : ∀ w ∈ gG, w.before args s = true) : (Cond.code yX4_kinds cX4_kinds 6 (some .int)).before args s = true := h _ mw_522
theorem tw_523 {args : Array Value} {s : State} (h : ∀ w ∈ gG, w.before args s = true) : (Cond.methodLink RL 113 yX4_tip).before args s = true := h _ (mG (i := 523) (by decide +kernel) rfl)
theorem tw_524 {args : Array Value} {s : State} (h : ∀ w ∈ gG, w.before args s = true) : (Cond.instanceMethod yX4_tip).before args s = true := h _ (mG (i := 524) (by decide +kernel) rfl)
theorem tw_525 {args : Array Value} {s : State} (h : ∀ w ∈ gG, w.before args s = true) : (Cond.selects RX4 yX4_tip yX4_tip).before args s = true := h _ (mG (i := 525) (by decide +kernel) rfl)
theorem mw_526 : Cond.code yX4_tip cX4_tip 5 (some .int) ∈ gG := mG (i := 526) (by decide +kernel) rfl
theorem tw_526 {args : Array Value} {s : State} (h : ∀ w ∈ gG, w.before args s = true) : (Cond.code yX4_tip cX4_tip 5 (some .int)).before args s = true := h _ mw_526
theorem tw_527 {args : Array Value} {s : State} (h : ∀ w ∈ gG, w.before args s = true) : (Cond.methodLink RX4 179 yX1_draw).before args s = true := h _ (mG (i := 527) (by decide +kernel) rfl)
theorem tw_528 {args : Array Value} {s : State} (h : ∀ w ∈ gG, w.before args s = true) : (Cond.instanceMethod yX1_draw).before args s = true := h _ (mG (i := 528) (by decide +kernel) rfl)
theorem tw_529 {args : Array Value} {s : State} (h : ∀ w ∈ gG, w.before args s = true) : (Cond.selects RX1 yX1_draw yX1_draw).before args s = true := h _ (mG (i := 529) (by decide +kernel) rfl)
theorem mw_530 : Cond.code yX1_draw cX1_draw 1 (some .int) ∈ gG := mG (i := 530) (by decide +kernel) rfl
theorem tw_530 {args : Array Value} {s : State} (h : ∀ w ∈ gG, w.before args s = true) : (Cond.code yX1_draw cX1_draw 1 (some .int)).before args s = true := h _ mw_530
theorem tw_531 {args : Array Value} {s : State} (h : ∀ w ∈ gG, w.before args s = true) : (Cond.constant RX1 99 (1103515245)).before args s = true := h _ (mG (i := 531) (by decide +kernel) rfl)
theorem tw_532 {args : Array Value} {s : State} (h : ∀ w ∈ gG, w.before args s = true) : (Cond.methodLink RL 117 yX4_odds).before args s = true := h _ (mG (i := 532) (by decide +kernel) rfl)
theorem tw_533 {args : Array Value} {s : State} (h : ∀ w ∈ gG, w.before args s = true) : (Cond.instanceMethod yX4_odds).before args s = true := h _ (mG (i := 533) (by decide +kernel) rfl)
theorem tw_534 {args : Array Value} {s : State} (h : ∀ w ∈ gG, w.before args s = true) : (Cond.selects RX4 yX4_odds yX4_odds).before args s = true := h _ (mG (i := 534) (by decide +kernel) rfl)
theorem mw_535 : Cond.code yX4_odds cX4_odds 5 (some .long) ∈ gG := mG (i := 535) (by decide +kernel) rfl
theorem tw_535 {args : Array Value} {s : State} (h : ∀ w ∈ gG, w.before args s = true) : (Cond.code yX4_odds cX4_odds 5 (some .long)).before args s = true := h _ mw_535
theorem tw_536 {args : Array Value} {s : State} (h : ∀ w ∈ gG, w.before args s = true) : (Cond.methodLink RX4 182 yX4_harmlessSwaps).before args s = true := h _ (mG (i := 536) (by decide +kernel) rfl)
theorem tw_538 {args : Array Value} {s : State} (h : ∀ w ∈ gG, w.before args s = true) : (Cond.instanceMethod yX4_harmlessSwaps).before args s = true := h _ (mG (i := 538) (by decide +kernel) rfl)
theorem mw_539 : Cond.code yX4_harmlessSwaps cX4_harmlessSwaps 5 (some .int) ∈ gG := mG (i := 539) (by decide +kernel) rfl
theorem tw_539 {args : Array Value} {s : State} (h : ∀ w ∈ gG, w.before args s = true) : (Cond.code yX4_harmlessSwaps cX4_harmlessSwaps 5 (some .int)).before args s = true := h _ mw_539
theorem tw_540 {args : Array Value} {s : State} (h : ∀ w ∈ gG, w.before args s = true) : (Cond.methodLink RX4 185 yX4_power).before args s = true := h _ (mG (i := 540) (by decide +kernel) rfl)
theorem tw_541 {args : Array Value} {s : State} (h : ∀ w ∈ gG, w.before args s = true) : (Cond.static yX4_power).before args s = true := h _ (mG (i := 541) (by decide +kernel) rfl)
theorem mw_542 : Cond.code yX4_power cX4_power 5 (some .long) ∈ gG := mG (i := 542) (by decide +kernel) rfl
theorem tw_542 {args : Array Value} {s : State} (h : ∀ w ∈ gG, w.before args s = true) : (Cond.code yX4_power cX4_power 5 (some .long)).before args s = true := h _ mw_542
theorem tw_543 {args : Array Value} {s : State} (h : ∀ w ∈ gG, w.before args s = true) : (Cond.methodLink RL 122 yX4_seed).before args s = true := h _ (mG (i := 543) (by decide +kernel) rfl)
theorem tw_544 {args : Array Value} {s : State} (h : ∀ w ∈ gG, w.before args s = true) : (Cond.instanceMethod yX4_seed).before args s = true := h _ (mG (i := 544) (by decide +kernel) rfl)
theorem tw_545 {args : Array Value} {s : State} (h : ∀ w ∈ gG, w.before args s = true) : (Cond.selects RX4 yX4_seed yX4_seed).before args s = true := h _ (mG (i := 545) (by decide +kernel) rfl)
theorem mw_546 : Cond.code yX4_seed cX4_seed 3 (some .int) ∈ gG := mG (i := 546) (by decide +kernel) rfl
theorem tw_546 {args : Array Value} {s : State} (h : ∀ w ∈ gG, w.before args s = true) : (Cond.code yX4_seed cX4_seed 3 (some .int)).before args s = true := h _ mw_546
theorem tw_547 {args : Array Value} {s : State} (h : ∀ w ∈ gG, w.before args s = true) : (Cond.methodLink RL 126 yX4_feed).before args s = true := h _ (mG (i := 547) (by decide +kernel) rfl)
theorem tw_548 {args : Array Value} {s : State} (h : ∀ w ∈ gG, w.before args s = true) : (Cond.instanceMethod yX4_feed).before args s = true := h _ (mG (i := 548) (by decide +kernel) rfl)
theorem tw_549 {args : Array Value} {s : State} (h : ∀ w ∈ gG, w.before args s = true) : (Cond.selects RX4 yX4_feed yX4_feed).before args s = true := h _ (mG (i := 549) (by decide +kernel) rfl)
theorem mw_550 : Cond.code yX4_feed cX4_feed 3 (some .int) ∈ gG := mG (i := 550) (by decide +kernel) rfl
theorem tw_550 {args : Array Value} {s : State} (h : ∀ w ∈ gG, w.before args s = true) : (Cond.code yX4_feed cX4_feed 3 (some .int)).before args s = true := h _ mw_550
theorem tw_551 {args : Array Value} {s : State} (h : ∀ w ∈ gG, w.before args s = true) : (Cond.methodLink RX4 195 yX3_append).before args s = true := h _ (mG (i := 551) (by decide +kernel) rfl)
theorem tw_552 {args : Array Value} {s : State} (h : ∀ w ∈ gG, w.before args s = true) : (Cond.instanceMethod yX3_append).before args s = true := h _ (mG (i := 552) (by decide +kernel) rfl)
theorem tw_553 {args : Array Value} {s : State} (h : ∀ w ∈ gG, w.before args s = true) : (Cond.selects RX3 yX3_append yX3_append).before args s = true := h _ (mG (i := 553) (by decide +kernel) rfl)
theorem mw_554 : Cond.code yX3_append cX3_append 4 none ∈ gG := mG (i := 554) (by decide +kernel) rfl
theorem tw_554 {args : Array Value} {s : State} (h : ∀ w ∈ gG, w.before args s = true) : (Cond.code yX3_append cX3_append 4 none).before args s = true := h _ mw_554
theorem tw_555 {args : Array Value} {s : State} (h : ∀ w ∈ gG, w.before args s = true) : (Cond.methodLink RL 130 yX4_wipe).before args s = true := h _ (mG (i := 555) (by decide +kernel) rfl)
theorem tw_556 {args : Array Value} {s : State} (h : ∀ w ∈ gG, w.before args s = true) : (Cond.instanceMethod yX4_wipe).before args s = true := h _ (mG (i := 556) (by decide +kernel) rfl)
theorem tw_557 {args : Array Value} {s : State} (h : ∀ w ∈ gG, w.before args s = true) : (Cond.selects RX4 yX4_wipe yX4_wipe).before args s = true := h _ (mG (i := 557) (by decide +kernel) rfl)
theorem mw_558 : Cond.code yX4_wipe cX4_wipe 2 (some .int) ∈ gG := mG (i := 558) (by decide +kernel) rfl
theorem tw_558 {args : Array Value} {s : State} (h : ∀ w ∈ gG, w.before args s = true) : (Cond.code yX4_wipe cX4_wipe 2 (some .int)).before args s = true := h _ mw_558
theorem tw_559 {args : Array Value} {s : State} (h : ∀ w ∈ gG, w.before args s = true) : (Cond.methodLink RL 134 yX4_text).before args s = true := h _ (mG (i := 559) (by decide +kernel) rfl)
theorem tw_560 {args : Array Value} {s : State} (h : ∀ w ∈ gG, w.before args s = true) : (Cond.instanceMethod yX4_text).before args s = true := h _ (mG (i := 560) (by decide +kernel) rfl)
theorem tw_561 {args : Array Value} {s : State} (h : ∀ w ∈ gG, w.before args s = true) : (Cond.selects RX4 yX4_text yX4_text).before args s = true := h _ (mG (i := 561) (by decide +kernel) rfl)
theorem mw_562 : Cond.code yX4_text cX4_text 2 (some .int) ∈ gG := mG (i := 562) (by decide +kernel) rfl
theorem tw_562 {args : Array Value} {s : State} (h : ∀ w ∈ gG, w.before args s = true) : (Cond.code yX4_text cX4_text 2 (some .int)).before args s = true := h _ mw_562
theorem tw_563 {args : Array Value} {s : State} (h : ∀ w ∈ gG, w.before args s = true) : (Cond.methodLink RX4 198 yX3_readInto).before args s = true := h _ (mG (i := 563) (by decide +kernel) rfl)
theorem tw_564 {args : Array Value} {s : State} (h : ∀ w ∈ gG, w.before args s = true) : (Cond.instanceMethod yX3_readInto).before args s = true := h _ (mG (i := 564) (by decide +kernel) rfl)
theorem tw_565 {args : Array Value} {s : State} (h : ∀ w ∈ gG, w.before args s = true) : (Cond.selects RX3 yX3_readInto yX3_readInto).before args s = true := h _ (mG (i := 565) (by decide +kernel) rfl)
theorem mw_566 : Cond.code yX3_readInto cX3_readInto 3 (some .int) ∈ gG := mG (i := 566) (by decide +kernel) rfl
theorem tw_566 {args : Array Value} {s : State} (h : ∀ w ∈ gG, w.before args s = true) : (Cond.code yX3_readInto cX3_readInto 3 (some .int)).before args s = true := h _ mw_566
theorem tw_567 {args : Array Value} {s : State} (h : ∀ w ∈ gG, w.before args s = true) : (Cond.methodLink RX3 22 yX3_step).before args s = true := h _ (mG (i := 567) (by decide +kernel) rfl)
theorem tw_569 {args : Array Value} {s : State} (h : ∀ w ∈ gG, w.before args s = true) : (Cond.instanceMethod yX3_step).before args s = true := h _ (mG (i := 569) (by decide +kernel) rfl)
theorem mw_570 : Cond.code yX3_step cX3_step 2 none ∈ gG := mG (i := 570) (by decide +kernel) rfl
theorem tw_570 {args : Array Value} {s : State} (h : ∀ w ∈ gG, w.before args s = true) : (Cond.code yX3_step cX3_step 2 none).before args s = true := h _ mw_570
theorem tw_571 {args : Array Value} {s : State} (h : ∀ w ∈ gG, w.before args s = true) : (Cond.methodLink RX3 115 yX3_sortAt).before args s = true := h _ (mG (i := 571) (by decide +kernel) rfl)
theorem tw_573 {args : Array Value} {s : State} (h : ∀ w ∈ gG, w.before args s = true) : (Cond.instanceMethod yX3_sortAt).before args s = true := h _ (mG (i := 573) (by decide +kernel) rfl)
theorem mw_574 : Cond.code yX3_sortAt cX3_sortAt 2 (some .int) ∈ gG := mG (i := 574) (by decide +kernel) rfl
theorem tw_574 {args : Array Value} {s : State} (h : ∀ w ∈ gG, w.before args s = true) : (Cond.code yX3_sortAt cX3_sortAt 2 (some .int)).before args s = true := h _ mw_574
theorem tw_575 {args : Array Value} {s : State} (h : ∀ w ∈ gG, w.before args s = true) : (Cond.methodLink RX3 25 yX3_readItem).before args s = true := h _ (mG (i := 575) (by decide +kernel) rfl)
theorem tw_577 {args : Array Value} {s : State} (h : ∀ w ∈ gG, w.before args s = true) : (Cond.instanceMethod yX3_readItem).before args s = true := h _ (mG (i := 577) (by decide +kernel) rfl)
theorem mw_578 : Cond.code yX3_readItem cX3_readItem 3 (some .boolean) ∈ gG := mG (i := 578) (by decide +kernel) rfl
theorem tw_578 {args : Array Value} {s : State} (h : ∀ w ∈ gG, w.before args s = true) : (Cond.code yX3_readItem cX3_readItem 3 (some .boolean)).before args s = true := h _ mw_578
theorem tw_579 {args : Array Value} {s : State} (h : ∀ w ∈ gG, w.before args s = true) : (Cond.methodLink RX3 35 yX3_kindNamed).before args s = true := h _ (mG (i := 579) (by decide +kernel) rfl)
theorem tw_581 {args : Array Value} {s : State} (h : ∀ w ∈ gG, w.before args s = true) : (Cond.instanceMethod yX3_kindNamed).before args s = true := h _ (mG (i := 581) (by decide +kernel) rfl)
theorem mw_582 : Cond.code yX3_kindNamed cX3_kindNamed 2 (some .int) ∈ gG := mG (i := 582) (by decide +kernel) rfl
theorem tw_582 {args : Array Value} {s : State} (h : ∀ w ∈ gG, w.before args s = true) : (Cond.code yX3_kindNamed cX3_kindNamed 2 (some .int)).before args s = true := h _ mw_582
theorem tw_583 {args : Array Value} {s : State} (h : ∀ w ∈ gG, w.before args s = true) : (Cond.methodLink RX3 89 yX3_nameOf).before args s = true := h _ (mG (i := 583) (by decide +kernel) rfl)
theorem tw_584 {args : Array Value} {s : State} (h : ∀ w ∈ gG, w.before args s = true) : (Cond.static yX3_nameOf).before args s = true := h _ (mG (i := 584) (by decide +kernel) rfl)
theorem mw_585 : Cond.code yX3_nameOf cX3_nameOf 1 (some (.object "java/lang/String")) ∈ gG := mG (i := 585) (by decide +kernel) rfl
theorem tw_585 {args : Array Value} {s : State} (h : ∀ w ∈ gG, w.before args s = true) : (Cond.code yX3_nameOf cX3_nameOf 1 (some (.object "java/lang/String"))).before args s = true := h _ mw_585
theorem tw_593 {args : Array Value} {s : State} (h : ∀ w ∈ gG, w.before args s = true) : (Cond.methodLink RX3 45 yX3_isWord).before args s = true := h _ (mG (i := 593) (by decide +kernel) rfl)
theorem tw_595 {args : Array Value} {s : State} (h : ∀ w ∈ gG, w.before args s = true) : (Cond.instanceMethod yX3_isWord).before args s = true := h _ (mG (i := 595) (by decide +kernel) rfl)
theorem mw_596 : Cond.code yX3_isWord cX3_isWord 3 (some .boolean) ∈ gG := mG (i := 596) (by decide +kernel) rfl
theorem tw_596 {args : Array Value} {s : State} (h : ∀ w ∈ gG, w.before args s = true) : (Cond.code yX3_isWord cX3_isWord 3 (some .boolean)).before args s = true := h _ mw_596
theorem tw_597 {args : Array Value} {s : State} (h : ∀ w ∈ gG, w.before args s = true) : (Cond.methodLink RX3 107 yJ0_length_8abf5).before args s = true := h _ (mG (i := 597) (by decide +kernel) rfl)
theorem tw_598 {args : Array Value} {s : State} (h : ∀ w ∈ gG, w.before args s = true) : (Cond.instanceMethod yJ0_length_8abf5).before args s = true := h _ (mG (i := 598) (by decide +kernel) rfl)
theorem tw_599 {args : Array Value} {s : State} (h : ∀ w ∈ gG, w.before args s = true) : (Cond.selects RJ0 yJ0_length_8abf5 yJ0_length_8abf5).before args s = true := h _ (mG (i := 599) (by decide +kernel) rfl)
theorem mw_600 : Cond.code yJ0_length_8abf5 cJ0_length_8abf5 1 (some .int) ∈ gG := mG (i := 600) (by decide +kernel) rfl
theorem tw_600 {args : Array Value} {s : State} (h : ∀ w ∈ gG, w.before args s = true) : (Cond.code yJ0_length_8abf5 cJ0_length_8abf5 1 (some .int)).before args s = true := h _ mw_600
theorem tw_601 {args : Array Value} {s : State} (h : ∀ w ∈ gG, w.before args s = true) : (Cond.methodLink RJ0 335 yJ0_coder_7d493).before args s = true := h _ (mG (i := 601) (by decide +kernel) rfl)
theorem tw_602 {args : Array Value} {s : State} (h : ∀ w ∈ gG, w.before args s = true) : (Cond.instanceMethod yJ0_coder_7d493).before args s = true := h _ (mG (i := 602) (by decide +kernel) rfl)
theorem tw_603 {args : Array Value} {s : State} (h : ∀ w ∈ gG, w.before args s = true) : (Cond.selects RJ0 yJ0_coder_7d493 yJ0_coder_7d493).before args s = true := h _ (mG (i := 603) (by decide +kernel) rfl)
theorem mw_604 : Cond.code yJ0_coder_7d493 cJ0_coder_7d493 1 (some .byte) ∈ gG := mG (i := 604) (by decide +kernel) rfl
theorem tw_604 {args : Array Value} {s : State} (h : ∀ w ∈ gG, w.before args s = true) : (Cond.code yJ0_coder_7d493 cJ0_coder_7d493 1 (some .byte)).before args s = true := h _ mw_604
theorem tw_605 {args : Array Value} {s : State} (h : ∀ w ∈ gG, w.before args s = true) : (Cond.fieldLink RJ0 38 "java/lang/String" "COMPACT_STRINGS" "Z").before args s = true := h _ (mG (i := 605) (by decide +kernel) rfl)
theorem tw_607 {args : Array Value} {s : State} (h : ∀ w ∈ gG, w.before args s = true) : (Cond.methodLink RX3 111 yJ0_charAt_5068e).before args s = true := h _ (mG (i := 607) (by decide +kernel) rfl)
theorem tw_608 {args : Array Value} {s : State} (h : ∀ w ∈ gG, w.before args s = true) : (Cond.instanceMethod yJ0_charAt_5068e).before args s = true := h _ (mG (i := 608) (by decide +kernel) rfl)
theorem tw_609 {args : Array Value} {s : State} (h : ∀ w ∈ gG, w.before args s = true) : (Cond.selects RJ0 yJ0_charAt_5068e yJ0_charAt_5068e).before args s = true := h _ (mG (i := 609) (by decide +kernel) rfl)
theorem mw_610 : Cond.code yJ0_charAt_5068e cJ0_charAt_5068e 2 (some .char) ∈ gG := mG (i := 610) (by decide +kernel) rfl
theorem tw_610 {args : Array Value} {s : State} (h : ∀ w ∈ gG, w.before args s = true) : (Cond.code yJ0_charAt_5068e cJ0_charAt_5068e 2 (some .char)).before args s = true := h _ mw_610
theorem tw_611 {args : Array Value} {s : State} (h : ∀ w ∈ gG, w.before args s = true) : (Cond.methodLink RJ0 492 yJ0_isLatin1_aae02).before args s = true := h _ (mG (i := 611) (by decide +kernel) rfl)
theorem tw_612 {args : Array Value} {s : State} (h : ∀ w ∈ gG, w.before args s = true) : (Cond.instanceMethod yJ0_isLatin1_aae02).before args s = true := h _ (mG (i := 612) (by decide +kernel) rfl)
theorem tw_613 {args : Array Value} {s : State} (h : ∀ w ∈ gG, w.before args s = true) : (Cond.selects RJ0 yJ0_isLatin1_aae02 yJ0_isLatin1_aae02).before args s = true := h _ (mG (i := 613) (by decide +kernel) rfl)
theorem mw_614 : Cond.code yJ0_isLatin1_aae02 cJ0_isLatin1_aae02 1 (some .boolean) ∈ gG := mG (i := 614) (by decide +kernel) rfl
theorem tw_614 {args : Array Value} {s : State} (h : ∀ w ∈ gG, w.before args s = true) : (Cond.code yJ0_isLatin1_aae02 cJ0_isLatin1_aae02 1 (some .boolean)).before args s = true := h _ mw_614
theorem tw_615 {args : Array Value} {s : State} (h : ∀ w ∈ gG, w.before args s = true) : (Cond.methodLink RJ0 495 yJ1_charAt_3b067).before args s = true := h _ (mG (i := 615) (by decide +kernel) rfl)
theorem tw_616 {args : Array Value} {s : State} (h : ∀ w ∈ gG, w.before args s = true) : (Cond.static yJ1_charAt_3b067).before args s = true := h _ (mG (i := 616) (by decide +kernel) rfl)
theorem mw_617 : Cond.code yJ1_charAt_3b067 cJ1_charAt_3b067 2 (some .char) ∈ gG := mG (i := 617) (by decide +kernel) rfl
theorem tw_617 {args : Array Value} {s : State} (h : ∀ w ∈ gG, w.before args s = true) : (Cond.code yJ1_charAt_3b067 cJ1_charAt_3b067 2 (some .char)).before args s = true := h _ mw_617
theorem tw_618 {args : Array Value} {s : State} (h : ∀ w ∈ gG, w.before args s = true) : (Cond.methodLink RJ1 9 yJ0_checkIndex_df160).before args s = true := h _ (mG (i := 618) (by decide +kernel) rfl)
theorem tw_619 {args : Array Value} {s : State} (h : ∀ w ∈ gG, w.before args s = true) : (Cond.static yJ0_checkIndex_df160).before args s = true := h _ (mG (i := 619) (by decide +kernel) rfl)
theorem mw_620 : Cond.code yJ0_checkIndex_df160 cJ0_checkIndex_df160 2 none ∈ gG := mG (i := 620) (by decide +kernel) rfl
theorem tw_620 {args : Array Value} {s : State} (h : ∀ w ∈ gG, w.before args s = true) : (Cond.code yJ0_checkIndex_df160 cJ0_checkIndex_df160 2 none).before args s = true := h _ mw_620
theorem tw_621 {args : Array Value} {s : State} (h : ∀ w ∈ gG, w.before args s = true) : (Cond.fieldLink RJ0 1053 "jdk/internal/util/Preconditions" "SIOOBE_FORMATTER" "Ljava/util/function/BiFunction;").before args s = true := h _ (mG (i := 621) (by decide +kernel) rfl)
theorem tw_623 {args : Array Value} {s : State} (h : ∀ w ∈ gG, w.before args s = true) : (Cond.methodLink RJ0 1059 yJ3_checkIndex_8e157).before args s = true := h _ (mG (i := 623) (by decide +kernel) rfl)
theorem tw_624 {args : Array Value} {s : State} (h : ∀ w ∈ gG, w.before args s = true) : (Cond.static yJ3_checkIndex_8e157).before args s = true := h _ (mG (i := 624) (by decide +kernel) rfl)
theorem mw_625 : Cond.code yJ3_checkIndex_8e157 cJ3_checkIndex_8e157 3 (some .int) ∈ gG := mG (i := 625) (by decide +kernel) rfl
theorem tw_625 {args : Array Value} {s : State} (h : ∀ w ∈ gG, w.before args s = true) : (Cond.code yJ3_checkIndex_8e157 cJ3_checkIndex_8e157 3 (some .int)).before args s = true := h _ mw_625
theorem tw_626 {args : Array Value} {s : State} (h : ∀ w ∈ gG, w.before args s = true) : (Cond.methodLink RJ0 498 yJ2_charAt_3b067).before args s = true := h _ (mG (i := 626) (by decide +kernel) rfl)
theorem tw_627 {args : Array Value} {s : State} (h : ∀ w ∈ gG, w.before args s = true) : (Cond.static yJ2_charAt_3b067).before args s = true := h _ (mG (i := 627) (by decide +kernel) rfl)
theorem mw_628 : Cond.code yJ2_charAt_3b067 cJ2_charAt_3b067 2 (some .char) ∈ gG := mG (i := 628) (by decide +kernel) rfl
theorem tw_628 {args : Array Value} {s : State} (h : ∀ w ∈ gG, w.before args s = true) : (Cond.code yJ2_charAt_3b067 cJ2_charAt_3b067 2 (some .char)).before args s = true := h _ mw_628
theorem tw_629 {args : Array Value} {s : State} (h : ∀ w ∈ gG, w.before args s = true) : (Cond.methodLink RJ2 67 yJ2_checkIndex_2214a).before args s = true := h _ (mG (i := 629) (by decide +kernel) rfl)
theorem tw_630 {args : Array Value} {s : State} (h : ∀ w ∈ gG, w.before args s = true) : (Cond.static yJ2_checkIndex_2214a).before args s = true := h _ (mG (i := 630) (by decide +kernel) rfl)
theorem mw_631 : Cond.code yJ2_checkIndex_2214a cJ2_checkIndex_2214a 2 none ∈ gG := mG (i := 631) (by decide +kernel) rfl
theorem tw_631 {args : Array Value} {s : State} (h : ∀ w ∈ gG, w.before args s = true) : (Cond.code yJ2_checkIndex_2214a cJ2_checkIndex_2214a 2 none).before args s = true := h _ mw_631
theorem tw_632 {args : Array Value} {s : State} (h : ∀ w ∈ gG, w.before args s = true) : (Cond.methodLink RJ2 48 yJ2_length_9d52b).before args s = true := h _ (mG (i := 632) (by decide +kernel) rfl)
theorem tw_633 {args : Array Value} {s : State} (h : ∀ w ∈ gG, w.before args s = true) : (Cond.static yJ2_length_9d52b).before args s = true := h _ (mG (i := 633) (by decide +kernel) rfl)
theorem mw_634 : Cond.code yJ2_length_9d52b cJ2_length_9d52b 1 (some .int) ∈ gG := mG (i := 634) (by decide +kernel) rfl
theorem tw_634 {args : Array Value} {s : State} (h : ∀ w ∈ gG, w.before args s = true) : (Cond.code yJ2_length_9d52b cJ2_length_9d52b 1 (some .int)).before args s = true := h _ mw_634
theorem tw_635 {args : Array Value} {s : State} (h : ∀ w ∈ gG, w.before args s = true) : (Cond.methodLink RJ2 414 yJ0_checkIndex_df160).before args s = true := h _ (mG (i := 635) (by decide +kernel) rfl)
theorem tw_636 {args : Array Value} {s : State} (h : ∀ w ∈ gG, w.before args s = true) : (Cond.methodLink RJ2 71 yJ2_getChar_3b067).before args s = true := h _ (mG (i := 636) (by decide +kernel) rfl)
theorem tw_637 {args : Array Value} {s : State} (h : ∀ w ∈ gG, w.before args s = true) : (Cond.static yJ2_getChar_3b067).before args s = true := h _ (mG (i := 637) (by decide +kernel) rfl)
theorem mw_638 : Cond.code yJ2_getChar_3b067 cJ2_getChar_3b067 2 (some .char) ∈ gG := mG (i := 638) (by decide +kernel) rfl
theorem tw_638 {args : Array Value} {s : State} (h : ∀ w ∈ gG, w.before args s = true) : (Cond.code yJ2_getChar_3b067 cJ2_getChar_3b067 2 (some .char)).before args s = true := h _ mw_638
theorem tw_639 {args : Array Value} {s : State} (h : ∀ w ∈ gG, w.before args s = true) : (Cond.fieldLink RJ2 44 "java/lang/StringUTF16" "$assertionsDisabled" "Z").before args s = true := h _ (mG (i := 639) (by decide +kernel) rfl)
theorem tw_641 {args : Array Value} {s : State} (h : ∀ w ∈ gG, w.before args s = true) : (Cond.fieldLink RJ2 59 "java/lang/StringUTF16" "HI_BYTE_SHIFT" "I").before args s = true := h _ (mG (i := 641) (by decide +kernel) rfl)
theorem tw_643 {args : Array Value} {s : State} (h : ∀ w ∈ gG, w.before args s = true) : (Cond.fieldLink RJ2 63 "java/lang/StringUTF16" "LO_BYTE_SHIFT" "I").before args s = true := h _ (mG (i := 643) (by decide +kernel) rfl)
theorem tw_645 {args : Array Value} {s : State} (h : ∀ w ∈ gG, w.before args s = true) : (Cond.methodLink RX3 39 yX3_readPiece).before args s = true := h _ (mG (i := 645) (by decide +kernel) rfl)
theorem tw_647 {args : Array Value} {s : State} (h : ∀ w ∈ gG, w.before args s = true) : (Cond.instanceMethod yX3_readPiece).before args s = true := h _ (mG (i := 647) (by decide +kernel) rfl)
theorem mw_648 : Cond.code yX3_readPiece cX3_readPiece 7 (some .boolean) ∈ gG := mG (i := 648) (by decide +kernel) rfl
theorem tw_648 {args : Array Value} {s : State} (h : ∀ w ∈ gG, w.before args s = true) : (Cond.code yX3_readPiece cX3_readPiece 7 (some .boolean)).before args s = true := h _ mw_648
theorem tw_649 {args : Array Value} {s : State} (h : ∀ w ∈ gG, w.before args s = true) : (Cond.methodLink RX3 62 yX3_readNumber).before args s = true := h _ (mG (i := 649) (by decide +kernel) rfl)
theorem tw_651 {args : Array Value} {s : State} (h : ∀ w ∈ gG, w.before args s = true) : (Cond.instanceMethod yX3_readNumber).before args s = true := h _ (mG (i := 651) (by decide +kernel) rfl)
theorem mw_652 : Cond.code yX3_readNumber cX3_readNumber 3 (some .int) ∈ gG := mG (i := 652) (by decide +kernel) rfl
theorem tw_652 {args : Array Value} {s : State} (h : ∀ w ∈ gG, w.before args s = true) : (Cond.code yX3_readNumber cX3_readNumber 3 (some .int)).before args s = true := h _ mw_652
theorem tw_653 {args : Array Value} {s : State} (h : ∀ w ∈ gG, w.before args s = true) : (Cond.methodLink RX3 86 yX3_valueOfDigits).before args s = true := h _ (mG (i := 653) (by decide +kernel) rfl)
theorem tw_655 {args : Array Value} {s : State} (h : ∀ w ∈ gG, w.before args s = true) : (Cond.instanceMethod yX3_valueOfDigits).before args s = true := h _ (mG (i := 655) (by decide +kernel) rfl)
theorem mw_656 : Cond.code yX3_valueOfDigits cX3_valueOfDigits 3 (some .int) ∈ gG := mG (i := 656) (by decide +kernel) rfl
theorem tw_656 {args : Array Value} {s : State} (h : ∀ w ∈ gG, w.before args s = true) : (Cond.code yX3_valueOfDigits cX3_valueOfDigits 3 (some .int)).before args s = true := h _ mw_656
theorem tw_657 {args : Array Value} {s : State} (h : ∀ w ∈ gG, w.before args s = true) : (Cond.methodLink RX3 118 yJ9_min_7cf53).before args s = true := h _ (mG (i := 657) (by decide +kernel) rfl)
theorem tw_658 {args : Array Value} {s : State} (h : ∀ w ∈ gG, w.before args s = true) : (Cond.methodLink RX3 66 yX1_addPiece).before args s = true := h _ (mG (i := 658) (by decide +kernel) rfl)
theorem tw_662 {args : Array Value} {s : State} (h : ∀ w ∈ gG, w.before args s = true) : (Cond.methodLink RX3 49 yX3_readSwap).before args s = true := h _ (mG (i := 662) (by decide +kernel) rfl)
theorem tw_664 {args : Array Value} {s : State} (h : ∀ w ∈ gG, w.before args s = true) : (Cond.instanceMethod yX3_readSwap).before args s = true := h _ (mG (i := 664) (by decide +kernel) rfl)
theorem mw_665 : Cond.code yX3_readSwap cX3_readSwap 5 (some .boolean) ∈ gG := mG (i := 665) (by decide +kernel) rfl
theorem tw_665 {args : Array Value} {s : State} (h : ∀ w ∈ gG, w.before args s = true) : (Cond.code yX3_readSwap cX3_readSwap 5 (some .boolean)).before args s = true := h _ mw_665
theorem tw_667 {args : Array Value} {s : State} (h : ∀ w ∈ gG, w.before args s = true) : (Cond.methodLink RX3 54 yX3_readLay).before args s = true := h _ (mG (i := 667) (by decide +kernel) rfl)
theorem tw_669 {args : Array Value} {s : State} (h : ∀ w ∈ gG, w.before args s = true) : (Cond.instanceMethod yX3_readLay).before args s = true := h _ (mG (i := 669) (by decide +kernel) rfl)
theorem mw_670 : Cond.code yX3_readLay cX3_readLay 4 (some .boolean) ∈ gG := mG (i := 670) (by decide +kernel) rfl
theorem tw_670 {args : Array Value} {s : State} (h : ∀ w ∈ gG, w.before args s = true) : (Cond.code yX3_readLay cX3_readLay 4 (some .boolean)).before args s = true := h _ mw_670
theorem tw_671 {args : Array Value} {s : State} (h : ∀ w ∈ gG, w.before args s = true) : (Cond.methodLink RX3 82 yX1_exchange).before args s = true := h _ (mG (i := 671) (by decide +kernel) rfl)
theorem tw_672 {args : Array Value} {s : State} (h : ∀ w ∈ gG, w.before args s = true) : (Cond.arrayClass .byte).before args s = true := h _ (mG (i := 672) (by decide +kernel) rfl)
theorem tw_673 {args : Array Value} {s : State} (h : ∀ w ∈ gG, w.before args s = true) : (Cond.methodLink RL 138 yX4_hold).before args s = true := h _ (mG (i := 673) (by decide +kernel) rfl)
theorem tw_674 {args : Array Value} {s : State} (h : ∀ w ∈ gG, w.before args s = true) : (Cond.instanceMethod yX4_hold).before args s = true := h _ (mG (i := 674) (by decide +kernel) rfl)
theorem tw_675 {args : Array Value} {s : State} (h : ∀ w ∈ gG, w.before args s = true) : (Cond.selects RX4 yX4_hold yX4_hold).before args s = true := h _ (mG (i := 675) (by decide +kernel) rfl)
theorem mw_676 : Cond.code yX4_hold cX4_hold 3 (some .int) ∈ gG := mG (i := 676) (by decide +kernel) rfl
theorem tw_676 {args : Array Value} {s : State} (h : ∀ w ∈ gG, w.before args s = true) : (Cond.code yX4_hold cX4_hold 3 (some .int)).before args s = true := h _ mw_676
theorem tw_677 {args : Array Value} {s : State} (h : ∀ w ∈ gG, w.before args s = true) : (Cond.methodLink RX4 201 yX4_isSpot).before args s = true := h _ (mG (i := 677) (by decide +kernel) rfl)
theorem tw_678 {args : Array Value} {s : State} (h : ∀ w ∈ gG, w.before args s = true) : (Cond.static yX4_isSpot).before args s = true := h _ (mG (i := 678) (by decide +kernel) rfl)
theorem mw_679 : Cond.code yX4_isSpot cX4_isSpot 1 (some .boolean) ∈ gG := mG (i := 679) (by decide +kernel) rfl
theorem tw_679 {args : Array Value} {s : State} (h : ∀ w ∈ gG, w.before args s = true) : (Cond.code yX4_isSpot cX4_isSpot 1 (some .boolean)).before args s = true := h _ mw_679
theorem tw_680 {args : Array Value} {s : State} (h : ∀ w ∈ gG, w.before args s = true) : (Cond.methodLink RL 142 yX4_as).before args s = true := h _ (mG (i := 680) (by decide +kernel) rfl)
theorem tw_681 {args : Array Value} {s : State} (h : ∀ w ∈ gG, w.before args s = true) : (Cond.instanceMethod yX4_as).before args s = true := h _ (mG (i := 681) (by decide +kernel) rfl)
theorem tw_682 {args : Array Value} {s : State} (h : ∀ w ∈ gG, w.before args s = true) : (Cond.selects RX4 yX4_as yX4_as).before args s = true := h _ (mG (i := 682) (by decide +kernel) rfl)
theorem mw_683 : Cond.code yX4_as cX4_as 4 (some .int) ∈ gG := mG (i := 683) (by decide +kernel) rfl
theorem tw_683 {args : Array Value} {s : State} (h : ∀ w ∈ gG, w.before args s = true) : (Cond.code yX4_as cX4_as 4 (some .int)).before args s = true := h _ mw_683
theorem tw_684 {args : Array Value} {s : State} (h : ∀ w ∈ gG, w.before args s = true) : (Cond.methodLink RX4 207 yX4_isOrUnder).before args s = true := h _ (mG (i := 684) (by decide +kernel) rfl)
theorem tw_685 {args : Array Value} {s : State} (h : ∀ w ∈ gG, w.before args s = true) : (Cond.methodLink RL 146 yX4_sheet).before args s = true := h _ (mG (i := 685) (by decide +kernel) rfl)
theorem tw_686 {args : Array Value} {s : State} (h : ∀ w ∈ gG, w.before args s = true) : (Cond.instanceMethod yX4_sheet).before args s = true := h _ (mG (i := 686) (by decide +kernel) rfl)
theorem tw_687 {args : Array Value} {s : State} (h : ∀ w ∈ gG, w.before args s = true) : (Cond.selects RX4 yX4_sheet yX4_sheet).before args s = true := h _ (mG (i := 687) (by decide +kernel) rfl)
theorem mw_688 : Cond.code yX4_sheet cX4_sheet 5 (some .int) ∈ gG := mG (i := 688) (by decide +kernel) rfl
theorem tw_688 {args : Array Value} {s : State} (h : ∀ w ∈ gG, w.before args s = true) : (Cond.code yX4_sheet cX4_sheet 5 (some .int)).before args s = true := h _ mw_688
theorem tw_689 {args : Array Value} {s : State} (h : ∀ w ∈ gG, w.before args s = true) : (Cond.methodLink RX4 213 yX2_begin).before args s = true := h _ (mG (i := 689) (by decide +kernel) rfl)
theorem tw_690 {args : Array Value} {s : State} (h : ∀ w ∈ gG, w.before args s = true) : (Cond.instanceMethod yX2_begin).before args s = true := h _ (mG (i := 690) (by decide +kernel) rfl)
theorem tw_691 {args : Array Value} {s : State} (h : ∀ w ∈ gG, w.before args s = true) : (Cond.selects RX2 yX2_begin yX2_begin).before args s = true := h _ (mG (i := 691) (by decide +kernel) rfl)
theorem mw_692 : Cond.code yX2_begin cX2_begin 4 none ∈ gG := mG (i := 692) (by decide +kernel) rfl
theorem tw_692 {args : Array Value} {s : State} (h : ∀ w ∈ gG, w.before args s = true) : (Cond.code yX2_begin cX2_begin 4 none).before args s = true := h _ mw_692
theorem tw_693 {args : Array Value} {s : State} (h : ∀ w ∈ gG, w.before args s = true) : (Cond.methodLink RL 150 yX4_write).before args s = true := h _ (mG (i := 693) (by decide +kernel) rfl)
theorem tw_694 {args : Array Value} {s : State} (h : ∀ w ∈ gG, w.before args s = true) : (Cond.instanceMethod yX4_write).before args s = true := h _ (mG (i := 694) (by decide +kernel) rfl)
theorem tw_695 {args : Array Value} {s : State} (h : ∀ w ∈ gG, w.before args s = true) : (Cond.selects RX4 yX4_write yX4_write).before args s = true := h _ (mG (i := 695) (by decide +kernel) rfl)
theorem mw_696 : Cond.code yX4_write cX4_write 5 (some .int) ∈ gG := mG (i := 696) (by decide +kernel) rfl
theorem tw_696 {args : Array Value} {s : State} (h : ∀ w ∈ gG, w.before args s = true) : (Cond.code yX4_write cX4_write 5 (some .int)).before args s = true := h _ mw_696
theorem tw_697 {args : Array Value} {s : State} (h : ∀ w ∈ gG, w.before args s = true) : (Cond.methodLink RX4 219 yX2_put).before args s = true := h _ (mG (i := 697) (by decide +kernel) rfl)
theorem tw_698 {args : Array Value} {s : State} (h : ∀ w ∈ gG, w.before args s = true) : (Cond.instanceMethod yX2_put).before args s = true := h _ (mG (i := 698) (by decide +kernel) rfl)
theorem tw_699 {args : Array Value} {s : State} (h : ∀ w ∈ gG, w.before args s = true) : (Cond.selects RX2 yX2_put yX2_put).before args s = true := h _ (mG (i := 699) (by decide +kernel) rfl)
theorem mw_700 : Cond.code yX2_put cX2_put 3 none ∈ gG := mG (i := 700) (by decide +kernel) rfl
theorem tw_700 {args : Array Value} {s : State} (h : ∀ w ∈ gG, w.before args s = true) : (Cond.code yX2_put cX2_put 3 none).before args s = true := h _ mw_700
theorem tw_701 {args : Array Value} {s : State} (h : ∀ w ∈ gG, w.before args s = true) : (Cond.methodLink RL 154 yX4_copy).before args s = true := h _ (mG (i := 701) (by decide +kernel) rfl)
theorem tw_702 {args : Array Value} {s : State} (h : ∀ w ∈ gG, w.before args s = true) : (Cond.instanceMethod yX4_copy).before args s = true := h _ (mG (i := 702) (by decide +kernel) rfl)
theorem tw_703 {args : Array Value} {s : State} (h : ∀ w ∈ gG, w.before args s = true) : (Cond.selects RX4 yX4_copy yX4_copy).before args s = true := h _ (mG (i := 703) (by decide +kernel) rfl)
theorem mw_704 : Cond.code yX4_copy cX4_copy 6 (some .int) ∈ gG := mG (i := 704) (by decide +kernel) rfl
theorem tw_704 {args : Array Value} {s : State} (h : ∀ w ∈ gG, w.before args s = true) : (Cond.code yX4_copy cX4_copy 6 (some .int)).before args s = true := h _ mw_704
theorem tw_705 {args : Array Value} {s : State} (h : ∀ w ∈ gG, w.before args s = true) : (Cond.methodLink RX4 225 yX2_hasRun).before args s = true := h _ (mG (i := 705) (by decide +kernel) rfl)
theorem tw_706 {args : Array Value} {s : State} (h : ∀ w ∈ gG, w.before args s = true) : (Cond.instanceMethod yX2_hasRun).before args s = true := h _ (mG (i := 706) (by decide +kernel) rfl)
theorem tw_707 {args : Array Value} {s : State} (h : ∀ w ∈ gG, w.before args s = true) : (Cond.selects RX2 yX2_hasRun yX2_hasRun).before args s = true := h _ (mG (i := 707) (by decide +kernel) rfl)
theorem mw_708 : Cond.code yX2_hasRun cX2_hasRun 3 (some .boolean) ∈ gG := mG (i := 708) (by decide +kernel) rfl
theorem tw_708 {args : Array Value} {s : State} (h : ∀ w ∈ gG, w.before args s = true) : (Cond.code yX2_hasRun cX2_hasRun 3 (some .boolean)).before args s = true := h _ mw_708
theorem tw_709 {args : Array Value} {s : State} (h : ∀ w ∈ gG, w.before args s = true) : (Cond.methodLink RX4 231 arraycopyName).before args s = true := h _ (mG (i := 709) (by decide +kernel) rfl)
theorem tw_710 {args : Array Value} {s : State} (h : ∀ w ∈ gG, w.before args s = true) : (Cond.methodLink RL 159 yX4_load).before args s = true := h _ (mG (i := 710) (by decide +kernel) rfl)
theorem tw_711 {args : Array Value} {s : State} (h : ∀ w ∈ gG, w.before args s = true) : (Cond.instanceMethod yX4_load).before args s = true := h _ (mG (i := 711) (by decide +kernel) rfl)
theorem tw_712 {args : Array Value} {s : State} (h : ∀ w ∈ gG, w.before args s = true) : (Cond.selects RX4 yX4_load yX4_load).before args s = true := h _ (mG (i := 712) (by decide +kernel) rfl)
theorem mw_713 : Cond.code yX4_load cX4_load 4 (some .int) ∈ gG := mG (i := 713) (by decide +kernel) rfl
theorem tw_713 {args : Array Value} {s : State} (h : ∀ w ∈ gG, w.before args s = true) : (Cond.code yX4_load cX4_load 4 (some .int)).before args s = true := h _ mw_713
theorem tw_714 {args : Array Value} {s : State} (h : ∀ w ∈ gG, w.before args s = true) : (Cond.methodLink RL 163 yX4_judge).before args s = true := h _ (mG (i := 714) (by decide +kernel) rfl)
theorem tw_715 {args : Array Value} {s : State} (h : ∀ w ∈ gG, w.before args s = true) : (Cond.instanceMethod yX4_judge).before args s = true := h _ (mG (i := 715) (by decide +kernel) rfl)
theorem tw_716 {args : Array Value} {s : State} (h : ∀ w ∈ gG, w.before args s = true) : (Cond.selects RX4 yX4_judge yX4_judge).before args s = true := h _ (mG (i := 716) (by decide +kernel) rfl)
theorem mw_717 : Cond.code yX4_judge cX4_judge 4 (some .int) ∈ gG := mG (i := 717) (by decide +kernel) rfl
theorem tw_717 {args : Array Value} {s : State} (h : ∀ w ∈ gG, w.before args s = true) : (Cond.code yX4_judge cX4_judge 4 (some .int)).before args s = true := h _ mw_717
theorem tw_718 {args : Array Value} {s : State} (h : ∀ w ∈ gG, w.before args s = true) : (Cond.methodLink RL 167 yX4_image).before args s = true := h _ (mG (i := 718) (by decide +kernel) rfl)
theorem tw_719 {args : Array Value} {s : State} (h : ∀ w ∈ gG, w.before args s = true) : (Cond.instanceMethod yX4_image).before args s = true := h _ (mG (i := 719) (by decide +kernel) rfl)
theorem tw_720 {args : Array Value} {s : State} (h : ∀ w ∈ gG, w.before args s = true) : (Cond.selects RX4 yX4_image yX4_image).before args s = true := h _ (mG (i := 720) (by decide +kernel) rfl)
theorem mw_721 : Cond.code yX4_image cX4_image 1 (some .int) ∈ gG := mG (i := 721) (by decide +kernel) rfl
theorem tw_721 {args : Array Value} {s : State} (h : ∀ w ∈ gG, w.before args s = true) : (Cond.code yX4_image cX4_image 1 (some .int)).before args s = true := h _ mw_721
theorem tw_722 {args : Array Value} {s : State} (h : ∀ w ∈ gG, w.before args s = true) : (Cond.methodLink RL 171 yX4_undo).before args s = true := h _ (mG (i := 722) (by decide +kernel) rfl)
theorem tw_723 {args : Array Value} {s : State} (h : ∀ w ∈ gG, w.before args s = true) : (Cond.instanceMethod yX4_undo).before args s = true := h _ (mG (i := 723) (by decide +kernel) rfl)
theorem tw_724 {args : Array Value} {s : State} (h : ∀ w ∈ gG, w.before args s = true) : (Cond.selects RX4 yX4_undo yX4_undo).before args s = true := h _ (mG (i := 724) (by decide +kernel) rfl)
theorem mw_725 : Cond.code yX4_undo cX4_undo 1 (some .int) ∈ gG := mG (i := 725) (by decide +kernel) rfl
theorem tw_725 {args : Array Value} {s : State} (h : ∀ w ∈ gG, w.before args s = true) : (Cond.code yX4_undo cX4_undo 1 (some .int)).before args s = true := h _ mw_725
theorem tw_726 {args : Array Value} {s : State} (h : ∀ w ∈ gG, w.before args s = true) : (Cond.methodLink RL 175 yX4_tear).before args s = true := h _ (mG (i := 726) (by decide +kernel) rfl)
theorem tw_727 {args : Array Value} {s : State} (h : ∀ w ∈ gG, w.before args s = true) : (Cond.instanceMethod yX4_tear).before args s = true := h _ (mG (i := 727) (by decide +kernel) rfl)
theorem tw_728 {args : Array Value} {s : State} (h : ∀ w ∈ gG, w.before args s = true) : (Cond.selects RX4 yX4_tear yX4_tear).before args s = true := h _ (mG (i := 728) (by decide +kernel) rfl)
theorem mw_729 : Cond.code yX4_tear cX4_tear 2 (some .int) ∈ gG := mG (i := 729) (by decide +kernel) rfl
theorem tw_729 {args : Array Value} {s : State} (h : ∀ w ∈ gG, w.before args s = true) : (Cond.code yX4_tear cX4_tear 2 (some .int)).before args s = true := h _ mw_729
theorem tw_730 {args : Array Value} {s : State} (h : ∀ w ∈ gG, w.before args s = true) : (Cond.methodLink RL 179 yX4_count).before args s = true := h _ (mG (i := 730) (by decide +kernel) rfl)
theorem tw_731 {args : Array Value} {s : State} (h : ∀ w ∈ gG, w.before args s = true) : (Cond.instanceMethod yX4_count).before args s = true := h _ (mG (i := 731) (by decide +kernel) rfl)
theorem tw_732 {args : Array Value} {s : State} (h : ∀ w ∈ gG, w.before args s = true) : (Cond.selects RX4 yX4_count yX4_count).before args s = true := h _ (mG (i := 732) (by decide +kernel) rfl)
theorem mw_733 : Cond.code yX4_count cX4_count 2 (some .int) ∈ gG := mG (i := 733) (by decide +kernel) rfl
theorem tw_733 {args : Array Value} {s : State} (h : ∀ w ∈ gG, w.before args s = true) : (Cond.code yX4_count cX4_count 2 (some .int)).before args s = true := h _ mw_733
theorem tw_734 {args : Array Value} {s : State} (h : ∀ w ∈ gG, w.before args s = true) : (Cond.methodLink RX4 241 yX1_filledSpots).before args s = true := h _ (mG (i := 734) (by decide +kernel) rfl)
theorem tw_735 {args : Array Value} {s : State} (h : ∀ w ∈ gG, w.before args s = true) : (Cond.instanceMethod yX1_filledSpots).before args s = true := h _ (mG (i := 735) (by decide +kernel) rfl)
theorem tw_736 {args : Array Value} {s : State} (h : ∀ w ∈ gG, w.before args s = true) : (Cond.selects RX1 yX1_filledSpots yX1_filledSpots).before args s = true := h _ (mG (i := 736) (by decide +kernel) rfl)
theorem mw_737 : Cond.code yX1_filledSpots cX1_filledSpots 3 (some .int) ∈ gG := mG (i := 737) (by decide +kernel) rfl
theorem tw_737 {args : Array Value} {s : State} (h : ∀ w ∈ gG, w.before args s = true) : (Cond.code yX1_filledSpots cX1_filledSpots 3 (some .int)).before args s = true := h _ mw_737
theorem tw_738 {args : Array Value} {s : State} (h : ∀ w ∈ gG, w.before args s = true) : (Cond.methodLink RL 183 yX4_status).before args s = true := h _ (mG (i := 738) (by decide +kernel) rfl)
theorem tw_739 {args : Array Value} {s : State} (h : ∀ w ∈ gG, w.before args s = true) : (Cond.instanceMethod yX4_status).before args s = true := h _ (mG (i := 739) (by decide +kernel) rfl)
theorem tw_740 {args : Array Value} {s : State} (h : ∀ w ∈ gG, w.before args s = true) : (Cond.selects RX4 yX4_status yX4_status).before args s = true := h _ (mG (i := 740) (by decide +kernel) rfl)
theorem mw_741 : Cond.code yX4_status cX4_status 2 (some .int) ∈ gG := mG (i := 741) (by decide +kernel) rfl
theorem tw_741 {args : Array Value} {s : State} (h : ∀ w ∈ gG, w.before args s = true) : (Cond.code yX4_status cX4_status 2 (some .int)).before args s = true := h _ mw_741
theorem tw_742 {args : Array Value} {s : State} (h : ∀ w ∈ gG, w.before args s = true) : (Cond.methodLink RX4 244 yX4_allFindings).before args s = true := h _ (mG (i := 742) (by decide +kernel) rfl)
theorem tw_744 {args : Array Value} {s : State} (h : ∀ w ∈ gG, w.before args s = true) : (Cond.instanceMethod yX4_allFindings).before args s = true := h _ (mG (i := 744) (by decide +kernel) rfl)
theorem mw_745 : Cond.code yX4_allFindings cX4_allFindings 3 (some .int) ∈ gG := mG (i := 745) (by decide +kernel) rfl
theorem tw_745 {args : Array Value} {s : State} (h : ∀ w ∈ gG, w.before args s = true) : (Cond.code yX4_allFindings cX4_allFindings 3 (some .int)).before args s = true := h _ mw_745
theorem tw_746 {args : Array Value} {s : State} (h : ∀ w ∈ gG, w.before args s = true) : (Cond.classLink RL 10 RX5).before args s = true := h _ (mG (i := 746) (by decide +kernel) rfl)
theorem tw_747 {args : Array Value} {s : State} (h : ∀ w ∈ gG, w.before args s = true) : (Cond.instantiable RX5 21).before args s = true := h _ (mG (i := 747) (by decide +kernel) rfl)
theorem tw_748 {args : Array Value} {s : State} (h : ∀ w ∈ gG, w.before args s = true) : (Cond.methodLink RL 12 yX5_init).before args s = true := h _ (mG (i := 748) (by decide +kernel) rfl)
theorem tw_749 {args : Array Value} {s : State} (h : ∀ w ∈ gG, w.before args s = true) : (Cond.instanceMethod yX5_init).before args s = true := h _ (mG (i := 749) (by decide +kernel) rfl)
theorem mw_750 : Cond.code yX5_init cX5_init 2 none ∈ gG := mG (i := 750) (by decide +kernel) rfl
theorem tw_750 {args : Array Value} {s : State} (h : ∀ w ∈ gG, w.before args s = true) : (Cond.code yX5_init cX5_init 2 none).before args s = true := h _ mw_750
theorem tw_751 {args : Array Value} {s : State} (h : ∀ w ∈ gG, w.before args s = true) : (Cond.methodLink RX5 1 objectInit).before args s = true := h _ (mG (i := 751) (by decide +kernel) rfl)
theorem tw_752 {args : Array Value} {s : State} (h : ∀ w ∈ gG, w.before args s = true) : (Cond.classLink RX5 28 RJ0).before args s = true := h _ (mG (i := 752) (by decide +kernel) rfl)
theorem tw_761 {args : Array Value} {s : State} (h : ∀ w ∈ gG, w.before args s = true) : (Cond.fieldLink RX5 9 "CountyJigsawModel" "now" "[I").before args s = true := h _ (mG (i := 761) (by decide +kernel) rfl)
theorem tw_762 {args : Array Value} {s : State} (h : ∀ w ∈ gG, w.before args s = true) : (Cond.fieldLink RX5 13 "CountyJigsawModel" "kept" "[I").before args s = true := h _ (mG (i := 762) (by decide +kernel) rfl)
theorem tw_763 {args : Array Value} {s : State} (h : ∀ w ∈ gG, w.before args s = true) : (Cond.fieldLink RX5 16 "CountyJigsawModel" "aside" "[I").before args s = true := h _ (mG (i := 763) (by decide +kernel) rfl)
theorem tw_764 {args : Array Value} {s : State} (h : ∀ w ∈ gG, w.before args s = true) : (Cond.fieldLink RX5 319 "CountyJigsawModel" "isKept" "Z").before args s = true := h _ (mG (i := 764) (by decide +kernel) rfl)
theorem tw_765 {args : Array Value} {s : State} (h : ∀ w ∈ gG, w.before args s = true) : (Cond.fieldLink RX5 19 "CountyJigsawModel" "found" "[I").before args s = true := h _ (mG (i := 765) (by decide +kernel) rfl)
theorem tw_766 {args : Array Value} {s : State} (h : ∀ w ∈ gG, w.before args s = true) : (Cond.fieldLink RX5 22 "CountyJigsawModel" "rest" "[I").before args s = true := h _ (mG (i := 766) (by decide +kernel) rfl)
theorem tw_767 {args : Array Value} {s : State} (h : ∀ w ∈ gG, w.before args s = true) : (Cond.fieldLink RX5 25 "CountyJigsawModel" "tape" "[I").before args s = true := h _ (mG (i := 767) (by decide +kernel) rfl)
theorem tw_768 {args : Array Value} {s : State} (h : ∀ w ∈ gG, w.before args s = true) : (Cond.fieldLink RX5 231 "CountyJigsawModel" "taped" "I").before args s = true := h _ (mG (i := 768) (by decide +kernel) rfl)
theorem tw_769 {args : Array Value} {s : State} (h : ∀ w ∈ gG, w.before args s = true) : (Cond.fieldLink RX5 238 "CountyJigsawModel" "begins" "I").before args s = true := h _ (mG (i := 769) (by decide +kernel) rfl)
theorem tw_770 {args : Array Value} {s : State} (h : ∀ w ∈ gG, w.before args s = true) : (Cond.fieldLink RX5 235 "CountyJigsawModel" "ends" "I").before args s = true := h _ (mG (i := 770) (by decide +kernel) rfl)
theorem tw_771 {args : Array Value} {s : State} (h : ∀ w ∈ gG, w.before args s = true) : (Cond.fieldLink RX5 247 "CountyJigsawModel" "sort" "I").before args s = true := h _ (mG (i := 771) (by decide +kernel) rfl)
theorem tw_772 {args : Array Value} {s : State} (h : ∀ w ∈ gG, w.before args s = true) : (Cond.fieldLink RX5 244 "CountyJigsawModel" "value" "I").before args s = true := h _ (mG (i := 772) (by decide +kernel) rfl)
theorem tw_773 {args : Array Value} {s : State} (h : ∀ w ∈ gG, w.before args s = true) : (Cond.fieldLink RX5 257 "CountyJigsawModel" "isWrong" "Z").before args s = true := h _ (mG (i := 773) (by decide +kernel) rfl)
theorem tw_774 {args : Array Value} {s : State} (h : ∀ w ∈ gG, w.before args s = true) : (Cond.fieldLink RX5 44 "CountyJigsawModel" "kindNames" "[Ljava/lang/String;").before args s = true := h _ (mG (i := 774) (by decide +kernel) rfl)
theorem tw_775 {args : Array Value} {s : State} (h : ∀ w ∈ gG, w.before args s = true) : (Cond.fieldLink RX5 48 "CountyJigsawModel" "items" "[I").before args s = true := h _ (mG (i := 775) (by decide +kernel) rfl)
theorem tw_776 {args : Array Value} {s : State} (h : ∀ w ∈ gG, w.before args s = true) : (Cond.fieldLink RX5 268 "CountyJigsawModel" "itemMany" "I").before args s = true := h _ (mG (i := 776) (by decide +kernel) rfl)
theorem tw_777 {args : Array Value} {s : State} (h : ∀ w ∈ gG, w.before args s = true) : (Cond.fieldLink RX5 275 "CountyJigsawModel" "piecesThen" "I").before args s = true := h _ (mG (i := 777) (by decide +kernel) rfl)
theorem tw_778 {args : Array Value} {s : State} (h : ∀ w ∈ gG, w.before args s = true) : (Cond.fieldLink RX5 51 "CountyJigsawModel" "widths" "[I").before args s = true := h _ (mG (i := 778) (by decide +kernel) rfl)
theorem tw_779 {args : Array Value} {s : State} (h : ∀ w ∈ gG, w.before args s = true) : (Cond.fieldLink RX5 54 "CountyJigsawModel" "sizes" "[I").before args s = true := h _ (mG (i := 779) (by decide +kernel) rfl)
theorem tw_780 {args : Array Value} {s : State} (h : ∀ w ∈ gG, w.before args s = true) : (Cond.fieldLink RX5 57 "CountyJigsawModel" "numbers" "[I").before args s = true := h _ (mG (i := 780) (by decide +kernel) rfl)
theorem tw_781 {args : Array Value} {s : State} (h : ∀ w ∈ gG, w.before args s = true) : (Cond.fieldLink RX5 60 "CountyJigsawModel" "moved" "[I").before args s = true := h _ (mG (i := 781) (by decide +kernel) rfl)
theorem tw_825 {args : Array Value} {s : State} (h : ∀ w ∈ gG, w.before args s = true) : (Cond.methodLink RL 17 yX5_list).before args s = true := h _ (mG (i := 825) (by decide +kernel) rfl)
theorem tw_826 {args : Array Value} {s : State} (h : ∀ w ∈ gG, w.before args s = true) : (Cond.instanceMethod yX5_list).before args s = true := h _ (mG (i := 826) (by decide +kernel) rfl)
theorem tw_827 {args : Array Value} {s : State} (h : ∀ w ∈ gG, w.before args s = true) : (Cond.selects RX5 yX5_list yX5_list).before args s = true := h _ (mG (i := 827) (by decide +kernel) rfl)
theorem mw_828 : Cond.code yX5_list cX5_list 4 (some .int) ∈ gG := mG (i := 828) (by decide +kernel) rfl
theorem tw_828 {args : Array Value} {s : State} (h : ∀ w ∈ gG, w.before args s = true) : (Cond.code yX5_list cX5_list 4 (some .int)).before args s = true := h _ mw_828
theorem tw_829 {args : Array Value} {s : State} (h : ∀ w ∈ gG, w.before args s = true) : (Cond.methodLink RX5 77 yX5_isPlace).before args s = true := h _ (mG (i := 829) (by decide +kernel) rfl)
theorem tw_830 {args : Array Value} {s : State} (h : ∀ w ∈ gG, w.before args s = true) : (Cond.static yX5_isPlace).before args s = true := h _ (mG (i := 830) (by decide +kernel) rfl)
theorem mw_831 : Cond.code yX5_isPlace cX5_isPlace 1 (some .boolean) ∈ gG := mG (i := 831) (by decide +kernel) rfl
theorem tw_831 {args : Array Value} {s : State} (h : ∀ w ∈ gG, w.before args s = true) : (Cond.code yX5_isPlace cX5_isPlace 1 (some .boolean)).before args s = true := h _ mw_831
theorem tw_832 {args : Array Value} {s : State} (h : ∀ w ∈ gG, w.before args s = true) : (Cond.methodLink RX5 73 yX5_within).before args s = true := h _ (mG (i := 832) (by decide +kernel) rfl)
theorem tw_833 {args : Array Value} {s : State} (h : ∀ w ∈ gG, w.before args s = true) : (Cond.static yX5_within).before args s = true := h _ (mG (i := 833) (by decide +kernel) rfl)
theorem mw_834 : Cond.code yX5_within cX5_within 3 (some .boolean) ∈ gG := mG (i := 834) (by decide +kernel) rfl
theorem tw_834 {args : Array Value} {s : State} (h : ∀ w ∈ gG, w.before args s = true) : (Cond.code yX5_within cX5_within 3 (some .boolean)).before args s = true := h _ mw_834
theorem tw_835 {args : Array Value} {s : State} (h : ∀ w ∈ gG, w.before args s = true) : (Cond.methodLink RX5 81 yX5_isOne).before args s = true := h _ (mG (i := 835) (by decide +kernel) rfl)
theorem tw_836 {args : Array Value} {s : State} (h : ∀ w ∈ gG, w.before args s = true) : (Cond.static yX5_isOne).before args s = true := h _ (mG (i := 836) (by decide +kernel) rfl)
theorem mw_837 : Cond.code yX5_isOne cX5_isOne 1 (some .boolean) ∈ gG := mG (i := 837) (by decide +kernel) rfl
theorem tw_837 {args : Array Value} {s : State} (h : ∀ w ∈ gG, w.before args s = true) : (Cond.code yX5_isOne cX5_isOne 1 (some .boolean)).before args s = true := h _ mw_837
theorem tw_838 {args : Array Value} {s : State} (h : ∀ w ∈ gG, w.before args s = true) : (Cond.methodLink RX5 84 yX5_become).before args s = true := h _ (mG (i := 838) (by decide +kernel) rfl)
theorem tw_840 {args : Array Value} {s : State} (h : ∀ w ∈ gG, w.before args s = true) : (Cond.instanceMethod yX5_become).before args s = true := h _ (mG (i := 840) (by decide +kernel) rfl)
theorem mw_841 : Cond.code yX5_become cX5_become 4 (some .int) ∈ gG := mG (i := 841) (by decide +kernel) rfl
theorem tw_841 {args : Array Value} {s : State} (h : ∀ w ∈ gG, w.before args s = true) : (Cond.code yX5_become cX5_become 4 (some .int)).before args s = true := h _ mw_841
theorem tw_842 {args : Array Value} {s : State} (h : ∀ w ∈ gG, w.before args s = true) : (Cond.constant RX5 63 (-1000001)).before args s = true := h _ (mG (i := 842) (by decide +kernel) rfl)
theorem tw_843 {args : Array Value} {s : State} (h : ∀ w ∈ gG, w.before args s = true) : (Cond.methodLink RX5 69 yX5_finding).before args s = true := h _ (mG (i := 843) (by decide +kernel) rfl)
theorem tw_845 {args : Array Value} {s : State} (h : ∀ w ∈ gG, w.before args s = true) : (Cond.instanceMethod yX5_finding).before args s = true := h _ (mG (i := 845) (by decide +kernel) rfl)
theorem mw_846 : Cond.code yX5_finding cX5_finding 2 (some .int) ∈ gG := mG (i := 846) (by decide +kernel) rfl
theorem tw_846 {args : Array Value} {s : State} (h : ∀ w ∈ gG, w.before args s = true) : (Cond.code yX5_finding cX5_finding 2 (some .int)).before args s = true := h _ mw_846
theorem tw_847 {args : Array Value} {s : State} (h : ∀ w ∈ gG, w.before args s = true) : (Cond.methodLink RL 22 yX5_listed).before args s = true := h _ (mG (i := 847) (by decide +kernel) rfl)
theorem tw_848 {args : Array Value} {s : State} (h : ∀ w ∈ gG, w.before args s = true) : (Cond.instanceMethod yX5_listed).before args s = true := h _ (mG (i := 848) (by decide +kernel) rfl)
theorem tw_849 {args : Array Value} {s : State} (h : ∀ w ∈ gG, w.before args s = true) : (Cond.selects RX5 yX5_listed yX5_listed).before args s = true := h _ (mG (i := 849) (by decide +kernel) rfl)
theorem mw_850 : Cond.code yX5_listed cX5_listed 2 (some .int) ∈ gG := mG (i := 850) (by decide +kernel) rfl
theorem tw_850 {args : Array Value} {s : State} (h : ∀ w ∈ gG, w.before args s = true) : (Cond.code yX5_listed cX5_listed 2 (some .int)).before args s = true := h _ mw_850
theorem tw_851 {args : Array Value} {s : State} (h : ∀ w ∈ gG, w.before args s = true) : (Cond.methodLink RL 26 yX5_piece).before args s = true := h _ (mG (i := 851) (by decide +kernel) rfl)
theorem tw_852 {args : Array Value} {s : State} (h : ∀ w ∈ gG, w.before args s = true) : (Cond.instanceMethod yX5_piece).before args s = true := h _ (mG (i := 852) (by decide +kernel) rfl)
theorem tw_853 {args : Array Value} {s : State} (h : ∀ w ∈ gG, w.before args s = true) : (Cond.selects RX5 yX5_piece yX5_piece).before args s = true := h _ (mG (i := 853) (by decide +kernel) rfl)
theorem mw_854 : Cond.code yX5_piece cX5_piece 4 (some .int) ∈ gG := mG (i := 854) (by decide +kernel) rfl
theorem tw_854 {args : Array Value} {s : State} (h : ∀ w ∈ gG, w.before args s = true) : (Cond.code yX5_piece cX5_piece 4 (some .int)).before args s = true := h _ mw_854
theorem tw_855 {args : Array Value} {s : State} (h : ∀ w ∈ gG, w.before args s = true) : (Cond.methodLink RX5 91 yX5_isKind).before args s = true := h _ (mG (i := 855) (by decide +kernel) rfl)
theorem tw_856 {args : Array Value} {s : State} (h : ∀ w ∈ gG, w.before args s = true) : (Cond.static yX5_isKind).before args s = true := h _ (mG (i := 856) (by decide +kernel) rfl)
theorem mw_857 : Cond.code yX5_isKind cX5_isKind 1 (some .boolean) ∈ gG := mG (i := 857) (by decide +kernel) rfl
theorem tw_857 {args : Array Value} {s : State} (h : ∀ w ∈ gG, w.before args s = true) : (Cond.code yX5_isKind cX5_isKind 1 (some .boolean)).before args s = true := h _ mw_857
theorem tw_858 {args : Array Value} {s : State} (h : ∀ w ∈ gG, w.before args s = true) : (Cond.methodLink RX5 94 yX5_isEdge).before args s = true := h _ (mG (i := 858) (by decide +kernel) rfl)
theorem tw_859 {args : Array Value} {s : State} (h : ∀ w ∈ gG, w.before args s = true) : (Cond.static yX5_isEdge).before args s = true := h _ (mG (i := 859) (by decide +kernel) rfl)
theorem mw_860 : Cond.code yX5_isEdge cX5_isEdge 1 (some .boolean) ∈ gG := mG (i := 860) (by decide +kernel) rfl
theorem tw_860 {args : Array Value} {s : State} (h : ∀ w ∈ gG, w.before args s = true) : (Cond.code yX5_isEdge cX5_isEdge 1 (some .boolean)).before args s = true := h _ mw_860
theorem tw_861 {args : Array Value} {s : State} (h : ∀ w ∈ gG, w.before args s = true) : (Cond.constant RX5 97 (-1000002)).before args s = true := h _ (mG (i := 861) (by decide +kernel) rfl)
theorem tw_862 {args : Array Value} {s : State} (h : ∀ w ∈ gG, w.before args s = true) : (Cond.methodLink RX5 98 yX5_isCut).before args s = true := h _ (mG (i := 862) (by decide +kernel) rfl)
theorem tw_864 {args : Array Value} {s : State} (h : ∀ w ∈ gG, w.before args s = true) : (Cond.instanceMethod yX5_isCut).before args s = true := h _ (mG (i := 864) (by decide +kernel) rfl)
theorem mw_865 : Cond.code yX5_isCut cX5_isCut 5 (some .int) ∈ gG := mG (i := 865) (by decide +kernel) rfl
theorem tw_865 {args : Array Value} {s : State} (h : ∀ w ∈ gG, w.before args s = true) : (Cond.code yX5_isCut cX5_isCut 5 (some .int)).before args s = true := h _ mw_865
theorem tw_866 {args : Array Value} {s : State} (h : ∀ w ∈ gG, w.before args s = true) : (Cond.methodLink RX5 88 yX5_pieceAt).before args s = true := h _ (mG (i := 866) (by decide +kernel) rfl)
theorem tw_867 {args : Array Value} {s : State} (h : ∀ w ∈ gG, w.before args s = true) : (Cond.static yX5_pieceAt).before args s = true := h _ (mG (i := 867) (by decide +kernel) rfl)
theorem mw_868 : Cond.code yX5_pieceAt cX5_pieceAt 2 (some .int) ∈ gG := mG (i := 868) (by decide +kernel) rfl
theorem tw_868 {args : Array Value} {s : State} (h : ∀ w ∈ gG, w.before args s = true) : (Cond.code yX5_pieceAt cX5_pieceAt 2 (some .int)).before args s = true := h _ mw_868
theorem tw_869 {args : Array Value} {s : State} (h : ∀ w ∈ gG, w.before args s = true) : (Cond.methodLink RL 31 yX5_of).before args s = true := h _ (mG (i := 869) (by decide +kernel) rfl)
theorem tw_870 {args : Array Value} {s : State} (h : ∀ w ∈ gG, w.before args s = true) : (Cond.instanceMethod yX5_of).before args s = true := h _ (mG (i := 870) (by decide +kernel) rfl)
theorem tw_871 {args : Array Value} {s : State} (h : ∀ w ∈ gG, w.before args s = true) : (Cond.selects RX5 yX5_of yX5_of).before args s = true := h _ (mG (i := 871) (by decide +kernel) rfl)
theorem mw_872 : Cond.code yX5_of cX5_of 3 (some .int) ∈ gG := mG (i := 872) (by decide +kernel) rfl
theorem tw_872 {args : Array Value} {s : State} (h : ∀ w ∈ gG, w.before args s = true) : (Cond.code yX5_of cX5_of 3 (some .int)).before args s = true := h _ mw_872
theorem tw_873 {args : Array Value} {s : State} (h : ∀ w ∈ gG, w.before args s = true) : (Cond.methodLink RX5 111 yX5_isPiece).before args s = true := h _ (mG (i := 873) (by decide +kernel) rfl)
theorem tw_875 {args : Array Value} {s : State} (h : ∀ w ∈ gG, w.before args s = true) : (Cond.instanceMethod yX5_isPiece).before args s = true := h _ (mG (i := 875) (by decide +kernel) rfl)
theorem mw_876 : Cond.code yX5_isPiece cX5_isPiece 2 (some .boolean) ∈ gG := mG (i := 876) (by decide +kernel) rfl
theorem tw_876 {args : Array Value} {s : State} (h : ∀ w ∈ gG, w.before args s = true) : (Cond.code yX5_isPiece cX5_isPiece 2 (some .boolean)).before args s = true := h _ mw_876
theorem tw_877 {args : Array Value} {s : State} (h : ∀ w ∈ gG, w.before args s = true) : (Cond.methodLink RX5 114 yX5_told).before args s = true := h _ (mG (i := 877) (by decide +kernel) rfl)
theorem tw_879 {args : Array Value} {s : State} (h : ∀ w ∈ gG, w.before args s = true) : (Cond.instanceMethod yX5_told).before args s = true := h _ (mG (i := 879) (by decide +kernel) rfl)
theorem mw_880 : Cond.code yX5_told cX5_told 3 (some .int) ∈ gG := mG (i := 880) (by decide +kernel) rfl
theorem tw_880 {args : Array Value} {s : State} (h : ∀ w ∈ gG, w.before args s = true) : (Cond.code yX5_told cX5_told 3 (some .int)).before args s = true := h _ mw_880
theorem tw_881 {args : Array Value} {s : State} (h : ∀ w ∈ gG, w.before args s = true) : (Cond.methodLink RX5 105 yX5_whereLies).before args s = true := h _ (mG (i := 881) (by decide +kernel) rfl)
theorem tw_883 {args : Array Value} {s : State} (h : ∀ w ∈ gG, w.before args s = true) : (Cond.instanceMethod yX5_whereLies).before args s = true := h _ (mG (i := 883) (by decide +kernel) rfl)
theorem mw_884 : Cond.code yX5_whereLies cX5_whereLies 3 (some .int) ∈ gG := mG (i := 884) (by decide +kernel) rfl
theorem tw_884 {args : Array Value} {s : State} (h : ∀ w ∈ gG, w.before args s = true) : (Cond.code yX5_whereLies cX5_whereLies 3 (some .int)).before args s = true := h _ mw_884
theorem tw_885 {args : Array Value} {s : State} (h : ∀ w ∈ gG, w.before args s = true) : (Cond.methodLink RX5 108 yX5_grows).before args s = true := h _ (mG (i := 885) (by decide +kernel) rfl)
theorem tw_887 {args : Array Value} {s : State} (h : ∀ w ∈ gG, w.before args s = true) : (Cond.instanceMethod yX5_grows).before args s = true := h _ (mG (i := 887) (by decide +kernel) rfl)
theorem mw_888 : Cond.code yX5_grows cX5_grows 2 (some .int) ∈ gG := mG (i := 888) (by decide +kernel) rfl
theorem tw_888 {args : Array Value} {s : State} (h : ∀ w ∈ gG, w.before args s = true) : (Cond.code yX5_grows cX5_grows 2 (some .int)).before args s = true := h _ mw_888
theorem tw_889 {args : Array Value} {s : State} (h : ∀ w ∈ gG, w.before args s = true) : (Cond.methodLink RX5 102 yX5_pieceIs).before args s = true := h _ (mG (i := 889) (by decide +kernel) rfl)
theorem tw_891 {args : Array Value} {s : State} (h : ∀ w ∈ gG, w.before args s = true) : (Cond.instanceMethod yX5_pieceIs).before args s = true := h _ (mG (i := 891) (by decide +kernel) rfl)
theorem mw_892 : Cond.code yX5_pieceIs cX5_pieceIs 3 (some .int) ∈ gG := mG (i := 892) (by decide +kernel) rfl
theorem tw_892 {args : Array Value} {s : State} (h : ∀ w ∈ gG, w.before args s = true) : (Cond.code yX5_pieceIs cX5_pieceIs 3 (some .int)).before args s = true := h _ mw_892
theorem tw_893 {args : Array Value} {s : State} (h : ∀ w ∈ gG, w.before args s = true) : (Cond.methodLink RL 35 yX5_change).before args s = true := h _ (mG (i := 893) (by decide +kernel) rfl)
theorem tw_894 {args : Array Value} {s : State} (h : ∀ w ∈ gG, w.before args s = true) : (Cond.instanceMethod yX5_change).before args s = true := h _ (mG (i := 894) (by decide +kernel) rfl)
theorem tw_895 {args : Array Value} {s : State} (h : ∀ w ∈ gG, w.before args s = true) : (Cond.selects RX5 yX5_change yX5_change).before args s = true := h _ (mG (i := 895) (by decide +kernel) rfl)
theorem mw_896 : Cond.code yX5_change cX5_change 4 (some .int) ∈ gG := mG (i := 896) (by decide +kernel) rfl
theorem tw_896 {args : Array Value} {s : State} (h : ∀ w ∈ gG, w.before args s = true) : (Cond.code yX5_change cX5_change 4 (some .int)).before args s = true := h _ mw_896
theorem tw_897 {args : Array Value} {s : State} (h : ∀ w ∈ gG, w.before args s = true) : (Cond.methodLink RX5 117 yX5_isField).before args s = true := h _ (mG (i := 897) (by decide +kernel) rfl)
theorem tw_898 {args : Array Value} {s : State} (h : ∀ w ∈ gG, w.before args s = true) : (Cond.static yX5_isField).before args s = true := h _ (mG (i := 898) (by decide +kernel) rfl)
theorem mw_899 : Cond.code yX5_isField cX5_isField 2 (some .boolean) ∈ gG := mG (i := 899) (by decide +kernel) rfl
theorem tw_899 {args : Array Value} {s : State} (h : ∀ w ∈ gG, w.before args s = true) : (Cond.code yX5_isField cX5_isField 2 (some .boolean)).before args s = true := h _ mw_899
theorem tw_900 {args : Array Value} {s : State} (h : ∀ w ∈ gG, w.before args s = true) : (Cond.methodLink RL 39 yX5_lies).before args s = true := h _ (mG (i := 900) (by decide +kernel) rfl)
theorem tw_901 {args : Array Value} {s : State} (h : ∀ w ∈ gG, w.before args s = true) : (Cond.instanceMethod yX5_lies).before args s = true := h _ (mG (i := 901) (by decide +kernel) rfl)
theorem tw_902 {args : Array Value} {s : State} (h : ∀ w ∈ gG, w.before args s = true) : (Cond.selects RX5 yX5_lies yX5_lies).before args s = true := h _ (mG (i := 902) (by decide +kernel) rfl)
theorem mw_903 : Cond.code yX5_lies cX5_lies 2 (some .int) ∈ gG := mG (i := 903) (by decide +kernel) rfl
theorem tw_903 {args : Array Value} {s : State} (h : ∀ w ∈ gG, w.before args s = true) : (Cond.code yX5_lies cX5_lies 2 (some .int)).before args s = true := h _ mw_903
theorem tw_904 {args : Array Value} {s : State} (h : ∀ w ∈ gG, w.before args s = true) : (Cond.methodLink RL 43 yX5_gap).before args s = true := h _ (mG (i := 904) (by decide +kernel) rfl)
theorem tw_905 {args : Array Value} {s : State} (h : ∀ w ∈ gG, w.before args s = true) : (Cond.instanceMethod yX5_gap).before args s = true := h _ (mG (i := 905) (by decide +kernel) rfl)
theorem tw_906 {args : Array Value} {s : State} (h : ∀ w ∈ gG, w.before args s = true) : (Cond.selects RX5 yX5_gap yX5_gap).before args s = true := h _ (mG (i := 906) (by decide +kernel) rfl)
theorem mw_907 : Cond.code yX5_gap cX5_gap 3 (some .int) ∈ gG := mG (i := 907) (by decide +kernel) rfl
theorem tw_907 {args : Array Value} {s : State} (h : ∀ w ∈ gG, w.before args s = true) : (Cond.code yX5_gap cX5_gap 3 (some .int)).before args s = true := h _ mw_907
theorem tw_908 {args : Array Value} {s : State} (h : ∀ w ∈ gG, w.before args s = true) : (Cond.methodLink RX5 132 yX5_gapOf).before args s = true := h _ (mG (i := 908) (by decide +kernel) rfl)
theorem tw_910 {args : Array Value} {s : State} (h : ∀ w ∈ gG, w.before args s = true) : (Cond.instanceMethod yX5_gapOf).before args s = true := h _ (mG (i := 910) (by decide +kernel) rfl)
theorem mw_911 : Cond.code yX5_gapOf cX5_gapOf 6 (some .int) ∈ gG := mG (i := 911) (by decide +kernel) rfl
theorem tw_911 {args : Array Value} {s : State} (h : ∀ w ∈ gG, w.before args s = true) : (Cond.code yX5_gapOf cX5_gapOf 6 (some .int)).before args s = true := h _ mw_911
theorem tw_912 {args : Array Value} {s : State} (h : ∀ w ∈ gG, w.before args s = true) : (Cond.methodLink RX5 121 yX5_side).before args s = true := h _ (mG (i := 912) (by decide +kernel) rfl)
theorem tw_914 {args : Array Value} {s : State} (h : ∀ w ∈ gG, w.before args s = true) : (Cond.instanceMethod yX5_side).before args s = true := h _ (mG (i := 914) (by decide +kernel) rfl)
theorem mw_915 : Cond.code yX5_side cX5_side 3 (some .int) ∈ gG := mG (i := 915) (by decide +kernel) rfl
theorem tw_915 {args : Array Value} {s : State} (h : ∀ w ∈ gG, w.before args s = true) : (Cond.code yX5_side cX5_side 3 (some .int)).before args s = true := h _ mw_915
theorem tw_916 {args : Array Value} {s : State} (h : ∀ w ∈ gG, w.before args s = true) : (Cond.methodLink RX5 124 yJ9_abs_0f7a4).before args s = true := h _ (mG (i := 916) (by decide +kernel) rfl)
theorem tw_917 {args : Array Value} {s : State} (h : ∀ w ∈ gG, w.before args s = true) : (Cond.methodLink RX5 129 yX5_isSky).before args s = true := h _ (mG (i := 917) (by decide +kernel) rfl)
theorem tw_919 {args : Array Value} {s : State} (h : ∀ w ∈ gG, w.before args s = true) : (Cond.instanceMethod yX5_isSky).before args s = true := h _ (mG (i := 919) (by decide +kernel) rfl)
theorem mw_920 : Cond.code yX5_isSky cX5_isSky 2 (some .boolean) ∈ gG := mG (i := 920) (by decide +kernel) rfl
theorem tw_920 {args : Array Value} {s : State} (h : ∀ w ∈ gG, w.before args s = true) : (Cond.code yX5_isSky cX5_isSky 2 (some .boolean)).before args s = true := h _ mw_920
theorem tw_921 {args : Array Value} {s : State} (h : ∀ w ∈ gG, w.before args s = true) : (Cond.methodLink RL 47 yX5_edge).before args s = true := h _ (mG (i := 921) (by decide +kernel) rfl)
theorem tw_922 {args : Array Value} {s : State} (h : ∀ w ∈ gG, w.before args s = true) : (Cond.instanceMethod yX5_edge).before args s = true := h _ (mG (i := 922) (by decide +kernel) rfl)
theorem tw_923 {args : Array Value} {s : State} (h : ∀ w ∈ gG, w.before args s = true) : (Cond.selects RX5 yX5_edge yX5_edge).before args s = true := h _ (mG (i := 923) (by decide +kernel) rfl)
theorem mw_924 : Cond.code yX5_edge cX5_edge 3 (some .int) ∈ gG := mG (i := 924) (by decide +kernel) rfl
theorem tw_924 {args : Array Value} {s : State} (h : ∀ w ∈ gG, w.before args s = true) : (Cond.code yX5_edge cX5_edge 3 (some .int)).before args s = true := h _ mw_924
theorem tw_925 {args : Array Value} {s : State} (h : ∀ w ∈ gG, w.before args s = true) : (Cond.methodLink RX5 135 yX5_edgeOf).before args s = true := h _ (mG (i := 925) (by decide +kernel) rfl)
theorem tw_927 {args : Array Value} {s : State} (h : ∀ w ∈ gG, w.before args s = true) : (Cond.instanceMethod yX5_edgeOf).before args s = true := h _ (mG (i := 927) (by decide +kernel) rfl)
theorem mw_928 : Cond.code yX5_edgeOf cX5_edgeOf 4 (some .int) ∈ gG := mG (i := 928) (by decide +kernel) rfl
theorem tw_928 {args : Array Value} {s : State} (h : ∀ w ∈ gG, w.before args s = true) : (Cond.code yX5_edgeOf cX5_edgeOf 4 (some .int)).before args s = true := h _ mw_928
theorem tw_929 {args : Array Value} {s : State} (h : ∀ w ∈ gG, w.before args s = true) : (Cond.methodLink RL 51 yX5_swap).before args s = true := h _ (mG (i := 929) (by decide +kernel) rfl)
theorem tw_930 {args : Array Value} {s : State} (h : ∀ w ∈ gG, w.before args s = true) : (Cond.instanceMethod yX5_swap).before args s = true := h _ (mG (i := 930) (by decide +kernel) rfl)
theorem tw_931 {args : Array Value} {s : State} (h : ∀ w ∈ gG, w.before args s = true) : (Cond.selects RX5 yX5_swap yX5_swap).before args s = true := h _ (mG (i := 931) (by decide +kernel) rfl)
theorem mw_932 : Cond.code yX5_swap cX5_swap 3 (some .int) ∈ gG := mG (i := 932) (by decide +kernel) rfl
theorem tw_932 {args : Array Value} {s : State} (h : ∀ w ∈ gG, w.before args s = true) : (Cond.code yX5_swap cX5_swap 3 (some .int)).before args s = true := h _ mw_932
theorem tw_933 {args : Array Value} {s : State} (h : ∀ w ∈ gG, w.before args s = true) : (Cond.methodLink RX5 138 yX5_exchange).before args s = true := h _ (mG (i := 933) (by decide +kernel) rfl)
theorem tw_935 {args : Array Value} {s : State} (h : ∀ w ∈ gG, w.before args s = true) : (Cond.instanceMethod yX5_exchange).before args s = true := h _ (mG (i := 935) (by decide +kernel) rfl)
theorem mw_936 : Cond.code yX5_exchange cX5_exchange 4 none ∈ gG := mG (i := 936) (by decide +kernel) rfl
theorem tw_936 {args : Array Value} {s : State} (h : ∀ w ∈ gG, w.before args s = true) : (Cond.code yX5_exchange cX5_exchange 4 none).before args s = true := h _ mw_936
theorem tw_937 {args : Array Value} {s : State} (h : ∀ w ∈ gG, w.before args s = true) : (Cond.methodLink RX5 142 yX5_sumNow).before args s = true := h _ (mG (i := 937) (by decide +kernel) rfl)
theorem tw_939 {args : Array Value} {s : State} (h : ∀ w ∈ gG, w.before args s = true) : (Cond.instanceMethod yX5_sumNow).before args s = true := h _ (mG (i := 939) (by decide +kernel) rfl)
theorem mw_940 : Cond.code yX5_sumNow cX5_sumNow 4 (some .int) ∈ gG := mG (i := 940) (by decide +kernel) rfl
theorem tw_940 {args : Array Value} {s : State} (h : ∀ w ∈ gG, w.before args s = true) : (Cond.code yX5_sumNow cX5_sumNow 4 (some .int)).before args s = true := h _ mw_940
theorem tw_941 {args : Array Value} {s : State} (h : ∀ w ∈ gG, w.before args s = true) : (Cond.methodLink RL 55 yX5_go).before args s = true := h _ (mG (i := 941) (by decide +kernel) rfl)
theorem tw_942 {args : Array Value} {s : State} (h : ∀ w ∈ gG, w.before args s = true) : (Cond.instanceMethod yX5_go).before args s = true := h _ (mG (i := 942) (by decide +kernel) rfl)
theorem tw_943 {args : Array Value} {s : State} (h : ∀ w ∈ gG, w.before args s = true) : (Cond.selects RX5 yX5_go yX5_go).before args s = true := h _ (mG (i := 943) (by decide +kernel) rfl)
theorem mw_944 : Cond.code yX5_go cX5_go 2 (some .int) ∈ gG := mG (i := 944) (by decide +kernel) rfl
theorem tw_944 {args : Array Value} {s : State} (h : ∀ w ∈ gG, w.before args s = true) : (Cond.code yX5_go cX5_go 2 (some .int)).before args s = true := h _ mw_944
theorem tw_945 {args : Array Value} {s : State} (h : ∀ w ∈ gG, w.before args s = true) : (Cond.constant RX5 149 (99999)).before args s = true := h _ (mG (i := 945) (by decide +kernel) rfl)
theorem tw_946 {args : Array Value} {s : State} (h : ∀ w ∈ gG, w.before args s = true) : (Cond.constant RX5 156 (-1000005)).before args s = true := h _ (mG (i := 946) (by decide +kernel) rfl)
theorem tw_947 {args : Array Value} {s : State} (h : ∀ w ∈ gG, w.before args s = true) : (Cond.methodLink RX5 157 yX5_yearsGo).before args s = true := h _ (mG (i := 947) (by decide +kernel) rfl)
theorem tw_949 {args : Array Value} {s : State} (h : ∀ w ∈ gG, w.before args s = true) : (Cond.instanceMethod yX5_yearsGo).before args s = true := h _ (mG (i := 949) (by decide +kernel) rfl)
theorem mw_950 : Cond.code yX5_yearsGo cX5_yearsGo 3 none ∈ gG := mG (i := 950) (by decide +kernel) rfl
theorem tw_950 {args : Array Value} {s : State} (h : ∀ w ∈ gG, w.before args s = true) : (Cond.code yX5_yearsGo cX5_yearsGo 3 none).before args s = true := h _ mw_950
theorem tw_951 {args : Array Value} {s : State} (h : ∀ w ∈ gG, w.before args s = true) : (Cond.methodLink RX5 153 yX5_year).before args s = true := h _ (mG (i := 951) (by decide +kernel) rfl)
theorem tw_953 {args : Array Value} {s : State} (h : ∀ w ∈ gG, w.before args s = true) : (Cond.instanceMethod yX5_year).before args s = true := h _ (mG (i := 953) (by decide +kernel) rfl)
theorem mw_954 : Cond.code yX5_year cX5_year 4 none ∈ gG := mG (i := 954) (by decide +kernel) rfl
theorem tw_954 {args : Array Value} {s : State} (h : ∀ w ∈ gG, w.before args s = true) : (Cond.code yX5_year cX5_year 4 none).before args s = true := h _ mw_954
theorem tw_955 {args : Array Value} {s : State} (h : ∀ w ∈ gG, w.before args s = true) : (Cond.methodLink RX5 146 yX5_placeNow).before args s = true := h _ (mG (i := 955) (by decide +kernel) rfl)
theorem tw_957 {args : Array Value} {s : State} (h : ∀ w ∈ gG, w.before args s = true) : (Cond.instanceMethod yX5_placeNow).before args s = true := h _ (mG (i := 957) (by decide +kernel) rfl)
theorem mw_958 : Cond.code yX5_placeNow cX5_placeNow 1 (some .int) ∈ gG := mG (i := 958) (by decide +kernel) rfl
theorem tw_958 {args : Array Value} {s : State} (h : ∀ w ∈ gG, w.before args s = true) : (Cond.code yX5_placeNow cX5_placeNow 1 (some .int)).before args s = true := h _ mw_958
theorem tw_959 {args : Array Value} {s : State} (h : ∀ w ∈ gG, w.before args s = true) : (Cond.methodLink RX5 150 yJ9_min_7cf53).before args s = true := h _ (mG (i := 959) (by decide +kernel) rfl)
theorem tw_960 {args : Array Value} {s : State} (h : ∀ w ∈ gG, w.before args s = true) : (Cond.methodLink RL 59 yX5_now).before args s = true := h _ (mG (i := 960) (by decide +kernel) rfl)
theorem tw_961 {args : Array Value} {s : State} (h : ∀ w ∈ gG, w.before args s = true) : (Cond.instanceMethod yX5_now).before args s = true := h _ (mG (i := 961) (by decide +kernel) rfl)
theorem tw_962 {args : Array Value} {s : State} (h : ∀ w ∈ gG, w.before args s = true) : (Cond.selects RX5 yX5_now yX5_now).before args s = true := h _ (mG (i := 962) (by decide +kernel) rfl)
theorem mw_963 : Cond.code yX5_now cX5_now 2 (some .int) ∈ gG := mG (i := 963) (by decide +kernel) rfl
theorem tw_963 {args : Array Value} {s : State} (h : ∀ w ∈ gG, w.before args s = true) : (Cond.code yX5_now cX5_now 2 (some .int)).before args s = true := h _ mw_963
theorem tw_964 {args : Array Value} {s : State} (h : ∀ w ∈ gG, w.before args s = true) : (Cond.methodLink RX5 167 yX5_closePlaces).before args s = true := h _ (mG (i := 964) (by decide +kernel) rfl)
theorem tw_966 {args : Array Value} {s : State} (h : ∀ w ∈ gG, w.before args s = true) : (Cond.instanceMethod yX5_closePlaces).before args s = true := h _ (mG (i := 966) (by decide +kernel) rfl)
theorem mw_967 : Cond.code yX5_closePlaces cX5_closePlaces 3 (some .int) ∈ gG := mG (i := 967) (by decide +kernel) rfl
theorem tw_967 {args : Array Value} {s : State} (h : ∀ w ∈ gG, w.before args s = true) : (Cond.code yX5_closePlaces cX5_closePlaces 3 (some .int)).before args s = true := h _ mw_967
theorem tw_968 {args : Array Value} {s : State} (h : ∀ w ∈ gG, w.before args s = true) : (Cond.methodLink RX5 170 yX5_grantedOnes).before args s = true := h _ (mG (i := 968) (by decide +kernel) rfl)
theorem tw_970 {args : Array Value} {s : State} (h : ∀ w ∈ gG, w.before args s = true) : (Cond.instanceMethod yX5_grantedOnes).before args s = true := h _ (mG (i := 970) (by decide +kernel) rfl)
theorem mw_971 : Cond.code yX5_grantedOnes cX5_grantedOnes 3 (some .int) ∈ gG := mG (i := 971) (by decide +kernel) rfl
theorem tw_971 {args : Array Value} {s : State} (h : ∀ w ∈ gG, w.before args s = true) : (Cond.code yX5_grantedOnes cX5_grantedOnes 3 (some .int)).before args s = true := h _ mw_971
theorem tw_972 {args : Array Value} {s : State} (h : ∀ w ∈ gG, w.before args s = true) : (Cond.methodLink RX5 161 yX5_isGranted).before args s = true := h _ (mG (i := 972) (by decide +kernel) rfl)
theorem tw_974 {args : Array Value} {s : State} (h : ∀ w ∈ gG, w.before args s = true) : (Cond.instanceMethod yX5_isGranted).before args s = true := h _ (mG (i := 974) (by decide +kernel) rfl)
theorem mw_975 : Cond.code yX5_isGranted cX5_isGranted 3 (some .boolean) ∈ gG := mG (i := 975) (by decide +kernel) rfl
theorem tw_975 {args : Array Value} {s : State} (h : ∀ w ∈ gG, w.before args s = true) : (Cond.code yX5_isGranted cX5_isGranted 3 (some .boolean)).before args s = true := h _ mw_975
theorem tw_976 {args : Array Value} {s : State} (h : ∀ w ∈ gG, w.before args s = true) : (Cond.methodLink RX5 173 yX5_widestGap).before args s = true := h _ (mG (i := 976) (by decide +kernel) rfl)
theorem tw_978 {args : Array Value} {s : State} (h : ∀ w ∈ gG, w.before args s = true) : (Cond.instanceMethod yX5_widestGap).before args s = true := h _ (mG (i := 978) (by decide +kernel) rfl)
theorem mw_979 : Cond.code yX5_widestGap cX5_widestGap 3 (some .int) ∈ gG := mG (i := 979) (by decide +kernel) rfl
theorem tw_979 {args : Array Value} {s : State} (h : ∀ w ∈ gG, w.before args s = true) : (Cond.code yX5_widestGap cX5_widestGap 3 (some .int)).before args s = true := h _ mw_979
theorem tw_980 {args : Array Value} {s : State} (h : ∀ w ∈ gG, w.before args s = true) : (Cond.methodLink RX5 164 yJ9_max_7cf53).before args s = true := h _ (mG (i := 980) (by decide +kernel) rfl)
theorem tw_981 {args : Array Value} {s : State} (h : ∀ w ∈ gG, w.before args s = true) : (Cond.methodLink RX5 176 yX5_turnedOnes).before args s = true := h _ (mG (i := 981) (by decide +kernel) rfl)
theorem tw_983 {args : Array Value} {s : State} (h : ∀ w ∈ gG, w.before args s = true) : (Cond.instanceMethod yX5_turnedOnes).before args s = true := h _ (mG (i := 983) (by decide +kernel) rfl)
theorem mw_984 : Cond.code yX5_turnedOnes cX5_turnedOnes 3 (some .int) ∈ gG := mG (i := 984) (by decide +kernel) rfl
theorem tw_984 {args : Array Value} {s : State} (h : ∀ w ∈ gG, w.before args s = true) : (Cond.code yX5_turnedOnes cX5_turnedOnes 3 (some .int)).before args s = true := h _ mw_984
theorem tw_985 {args : Array Value} {s : State} (h : ∀ w ∈ gG, w.before args s = true) : (Cond.methodLink RX5 179 yX5_bestSum).before args s = true := h _ (mG (i := 985) (by decide +kernel) rfl)
theorem tw_987 {args : Array Value} {s : State} (h : ∀ w ∈ gG, w.before args s = true) : (Cond.instanceMethod yX5_bestSum).before args s = true := h _ (mG (i := 987) (by decide +kernel) rfl)
theorem mw_988 : Cond.code yX5_bestSum cX5_bestSum 2 (some .int) ∈ gG := mG (i := 988) (by decide +kernel) rfl
theorem tw_988 {args : Array Value} {s : State} (h : ∀ w ∈ gG, w.before args s = true) : (Cond.code yX5_bestSum cX5_bestSum 2 (some .int)).before args s = true := h _ mw_988
theorem tw_989 {args : Array Value} {s : State} (h : ∀ w ∈ gG, w.before args s = true) : (Cond.methodLink RX5 195 yX5_isTabled).before args s = true := h _ (mG (i := 989) (by decide +kernel) rfl)
theorem tw_991 {args : Array Value} {s : State} (h : ∀ w ∈ gG, w.before args s = true) : (Cond.instanceMethod yX5_isTabled).before args s = true := h _ (mG (i := 991) (by decide +kernel) rfl)
theorem mw_992 : Cond.code yX5_isTabled cX5_isTabled 3 none ∈ gG := mG (i := 992) (by decide +kernel) rfl
theorem tw_992 {args : Array Value} {s : State} (h : ∀ w ∈ gG, w.before args s = true) : (Cond.code yX5_isTabled cX5_isTabled 3 none).before args s = true := h _ mw_992
theorem tw_993 {args : Array Value} {s : State} (h : ∀ w ∈ gG, w.before args s = true) : (Cond.methodLink RX5 192 yX5_leastRest).before args s = true := h _ (mG (i := 993) (by decide +kernel) rfl)
theorem tw_995 {args : Array Value} {s : State} (h : ∀ w ∈ gG, w.before args s = true) : (Cond.instanceMethod yX5_leastRest).before args s = true := h _ (mG (i := 995) (by decide +kernel) rfl)
theorem mw_996 : Cond.code yX5_leastRest cX5_leastRest 6 (some .int) ∈ gG := mG (i := 996) (by decide +kernel) rfl
theorem tw_996 {args : Array Value} {s : State} (h : ∀ w ∈ gG, w.before args s = true) : (Cond.code yX5_leastRest cX5_leastRest 6 (some .int)).before args s = true := h _ mw_996
theorem tw_997 {args : Array Value} {s : State} (h : ∀ w ∈ gG, w.before args s = true) : (Cond.constant RX5 191 (1000000)).before args s = true := h _ (mG (i := 997) (by decide +kernel) rfl)
theorem tw_998 {args : Array Value} {s : State} (h : ∀ w ∈ gG, w.before args s = true) : (Cond.methodLink RX5 198 yX5_everything).before args s = true := h _ (mG (i := 998) (by decide +kernel) rfl)
theorem tw_1000 {args : Array Value} {s : State} (h : ∀ w ∈ gG, w.before args s = true) : (Cond.instanceMethod yX5_everything).before args s = true := h _ (mG (i := 1000) (by decide +kernel) rfl)
theorem mw_1001 : Cond.code yX5_everything cX5_everything 1 (some .int) ∈ gG := mG (i := 1001) (by decide +kernel) rfl
theorem tw_1001 {args : Array Value} {s : State} (h : ∀ w ∈ gG, w.before args s = true) : (Cond.code yX5_everything cX5_everything 1 (some .int)).before args s = true := h _ mw_1001
theorem tw_1002 {args : Array Value} {s : State} (h : ∀ w ∈ gG, w.before args s = true) : (Cond.methodLink RX5 201 yX5_bestNext).before args s = true := h _ (mG (i := 1002) (by decide +kernel) rfl)
theorem tw_1004 {args : Array Value} {s : State} (h : ∀ w ∈ gG, w.before args s = true) : (Cond.instanceMethod yX5_bestNext).before args s = true := h _ (mG (i := 1004) (by decide +kernel) rfl)
theorem mw_1005 : Cond.code yX5_bestNext cX5_bestNext 7 (some .int) ∈ gG := mG (i := 1005) (by decide +kernel) rfl
theorem tw_1005 {args : Array Value} {s : State} (h : ∀ w ∈ gG, w.before args s = true) : (Cond.code yX5_bestNext cX5_bestNext 7 (some .int)).before args s = true := h _ mw_1005
theorem tw_1006 {args : Array Value} {s : State} (h : ∀ w ∈ gG, w.before args s = true) : (Cond.methodLink RX5 182 yX5_betterSwap).before args s = true := h _ (mG (i := 1006) (by decide +kernel) rfl)
theorem tw_1008 {args : Array Value} {s : State} (h : ∀ w ∈ gG, w.before args s = true) : (Cond.instanceMethod yX5_betterSwap).before args s = true := h _ (mG (i := 1008) (by decide +kernel) rfl)
theorem mw_1009 : Cond.code yX5_betterSwap cX5_betterSwap 6 (some .int) ∈ gG := mG (i := 1009) (by decide +kernel) rfl
theorem tw_1009 {args : Array Value} {s : State} (h : ∀ w ∈ gG, w.before args s = true) : (Cond.code yX5_betterSwap cX5_betterSwap 6 (some .int)).before args s = true := h _ mw_1009
theorem tw_1010 {args : Array Value} {s : State} (h : ∀ w ∈ gG, w.before args s = true) : (Cond.methodLink RL 63 yX5_ahead).before args s = true := h _ (mG (i := 1010) (by decide +kernel) rfl)
theorem tw_1011 {args : Array Value} {s : State} (h : ∀ w ∈ gG, w.before args s = true) : (Cond.instanceMethod yX5_ahead).before args s = true := h _ (mG (i := 1011) (by decide +kernel) rfl)
theorem tw_1012 {args : Array Value} {s : State} (h : ∀ w ∈ gG, w.before args s = true) : (Cond.selects RX5 yX5_ahead yX5_ahead).before args s = true := h _ (mG (i := 1012) (by decide +kernel) rfl)
theorem mw_1013 : Cond.code yX5_ahead cX5_ahead 4 (some .int) ∈ gG := mG (i := 1013) (by decide +kernel) rfl
theorem tw_1013 {args : Array Value} {s : State} (h : ∀ w ∈ gG, w.before args s = true) : (Cond.code yX5_ahead cX5_ahead 4 (some .int)).before args s = true := h _ mw_1013
theorem tw_1014 {args : Array Value} {s : State} (h : ∀ w ∈ gG, w.before args s = true) : (Cond.methodLink RX5 64 yX5_copyRow).before args s = true := h _ (mG (i := 1014) (by decide +kernel) rfl)
theorem tw_1015 {args : Array Value} {s : State} (h : ∀ w ∈ gG, w.before args s = true) : (Cond.static yX5_copyRow).before args s = true := h _ (mG (i := 1015) (by decide +kernel) rfl)
theorem mw_1016 : Cond.code yX5_copyRow cX5_copyRow 3 none ∈ gG := mG (i := 1016) (by decide +kernel) rfl
theorem tw_1016 {args : Array Value} {s : State} (h : ∀ w ∈ gG, w.before args s = true) : (Cond.code yX5_copyRow cX5_copyRow 3 none).before args s = true := h _ mw_1016
theorem tw_1017 {args : Array Value} {s : State} (h : ∀ w ∈ gG, w.before args s = true) : (Cond.methodLink RX5 185 yX5_putBack).before args s = true := h _ (mG (i := 1017) (by decide +kernel) rfl)
theorem tw_1019 {args : Array Value} {s : State} (h : ∀ w ∈ gG, w.before args s = true) : (Cond.instanceMethod yX5_putBack).before args s = true := h _ (mG (i := 1019) (by decide +kernel) rfl)
theorem mw_1020 : Cond.code yX5_putBack cX5_putBack 2 (some .int) ∈ gG := mG (i := 1020) (by decide +kernel) rfl
theorem tw_1020 {args : Array Value} {s : State} (h : ∀ w ∈ gG, w.before args s = true) : (Cond.code yX5_putBack cX5_putBack 2 (some .int)).before args s = true := h _ mw_1020
theorem tw_1021 {args : Array Value} {s : State} (h : ∀ w ∈ gG, w.before args s = true) : (Cond.methodLink RL 67 yX5_sum).before args s = true := h _ (mG (i := 1021) (by decide +kernel) rfl)
theorem tw_1022 {args : Array Value} {s : State} (h : ∀ w ∈ gG, w.before args s = true) : (Cond.instanceMethod yX5_sum).before args s = true := h _ (mG (i := 1022) (by decide +kernel) rfl)
theorem tw_1023 {args : Array Value} {s : State} (h : ∀ w ∈ gG, w.before args s = true) : (Cond.selects RX5 yX5_sum yX5_sum).before args s = true := h _ (mG (i := 1023) (by decide +kernel) rfl)
theorem mw_1024 : Cond.code yX5_sum cX5_sum 2 (some .int) ∈ gG := mG (i := 1024) (by decide +kernel) rfl
theorem tw_1024 {args : Array Value} {s : State} (h : ∀ w ∈ gG, w.before args s = true) : (Cond.code yX5_sum cX5_sum 2 (some .int)).before args s = true := h _ mw_1024
theorem tw_1025 {args : Array Value} {s : State} (h : ∀ w ∈ gG, w.before args s = true) : (Cond.methodLink RL 71 yX5_when).before args s = true := h _ (mG (i := 1025) (by decide +kernel) rfl)
theorem tw_1026 {args : Array Value} {s : State} (h : ∀ w ∈ gG, w.before args s = true) : (Cond.instanceMethod yX5_when).before args s = true := h _ (mG (i := 1026) (by decide +kernel) rfl)
theorem tw_1027 {args : Array Value} {s : State} (h : ∀ w ∈ gG, w.before args s = true) : (Cond.selects RX5 yX5_when yX5_when).before args s = true := h _ (mG (i := 1027) (by decide +kernel) rfl)
theorem mw_1028 : Cond.code yX5_when cX5_when 3 (some .int) ∈ gG := mG (i := 1028) (by decide +kernel) rfl
theorem tw_1028 {args : Array Value} {s : State} (h : ∀ w ∈ gG, w.before args s = true) : (Cond.code yX5_when cX5_when 3 (some .int)).before args s = true := h _ mw_1028
theorem tw_1029 {args : Array Value} {s : State} (h : ∀ w ∈ gG, w.before args s = true) : (Cond.methodLink RX5 188 yX5_orNone).before args s = true := h _ (mG (i := 1029) (by decide +kernel) rfl)
theorem tw_1031 {args : Array Value} {s : State} (h : ∀ w ∈ gG, w.before args s = true) : (Cond.instanceMethod yX5_orNone).before args s = true := h _ (mG (i := 1031) (by decide +kernel) rfl)
theorem mw_1032 : Cond.code yX5_orNone cX5_orNone 2 (some .int) ∈ gG := mG (i := 1032) (by decide +kernel) rfl
theorem tw_1032 {args : Array Value} {s : State} (h : ∀ w ∈ gG, w.before args s = true) : (Cond.code yX5_orNone cX5_orNone 2 (some .int)).before args s = true := h _ mw_1032
theorem tw_1033 {args : Array Value} {s : State} (h : ∀ w ∈ gG, w.before args s = true) : (Cond.constant RX5 68 (-1000004)).before args s = true := h _ (mG (i := 1033) (by decide +kernel) rfl)
theorem tw_1034 {args : Array Value} {s : State} (h : ∀ w ∈ gG, w.before args s = true) : (Cond.methodLink RL 75 yX5_comes).before args s = true := h _ (mG (i := 1034) (by decide +kernel) rfl)
theorem tw_1035 {args : Array Value} {s : State} (h : ∀ w ∈ gG, w.before args s = true) : (Cond.instanceMethod yX5_comes).before args s = true := h _ (mG (i := 1035) (by decide +kernel) rfl)
theorem tw_1036 {args : Array Value} {s : State} (h : ∀ w ∈ gG, w.before args s = true) : (Cond.selects RX5 yX5_comes yX5_comes).before args s = true := h _ (mG (i := 1036) (by decide +kernel) rfl)
theorem mw_1037 : Cond.code yX5_comes cX5_comes 4 (some .int) ∈ gG := mG (i := 1037) (by decide +kernel) rfl
theorem tw_1037 {args : Array Value} {s : State} (h : ∀ w ∈ gG, w.before args s = true) : (Cond.code yX5_comes cX5_comes 4 (some .int)).before args s = true := h _ mw_1037
theorem tw_1038 {args : Array Value} {s : State} (h : ∀ w ∈ gG, w.before args s = true) : (Cond.methodLink RL 79 yX5_granted).before args s = true := h _ (mG (i := 1038) (by decide +kernel) rfl)
theorem tw_1039 {args : Array Value} {s : State} (h : ∀ w ∈ gG, w.before args s = true) : (Cond.instanceMethod yX5_granted).before args s = true := h _ (mG (i := 1039) (by decide +kernel) rfl)
theorem tw_1040 {args : Array Value} {s : State} (h : ∀ w ∈ gG, w.before args s = true) : (Cond.selects RX5 yX5_granted yX5_granted).before args s = true := h _ (mG (i := 1040) (by decide +kernel) rfl)
theorem mw_1041 : Cond.code yX5_granted cX5_granted 3 (some .int) ∈ gG := mG (i := 1041) (by decide +kernel) rfl
theorem tw_1041 {args : Array Value} {s : State} (h : ∀ w ∈ gG, w.before args s = true) : (Cond.code yX5_granted cX5_granted 3 (some .int)).before args s = true := h _ mw_1041
theorem tw_1042 {args : Array Value} {s : State} (h : ∀ w ∈ gG, w.before args s = true) : (Cond.methodLink RL 84 yX5_best).before args s = true := h _ (mG (i := 1042) (by decide +kernel) rfl)
theorem tw_1043 {args : Array Value} {s : State} (h : ∀ w ∈ gG, w.before args s = true) : (Cond.instanceMethod yX5_best).before args s = true := h _ (mG (i := 1043) (by decide +kernel) rfl)
theorem tw_1044 {args : Array Value} {s : State} (h : ∀ w ∈ gG, w.before args s = true) : (Cond.selects RX5 yX5_best yX5_best).before args s = true := h _ (mG (i := 1044) (by decide +kernel) rfl)
theorem mw_1045 : Cond.code yX5_best cX5_best 1 (some .int) ∈ gG := mG (i := 1045) (by decide +kernel) rfl
theorem tw_1045 {args : Array Value} {s : State} (h : ∀ w ∈ gG, w.before args s = true) : (Cond.code yX5_best cX5_best 1 (some .int)).before args s = true := h _ mw_1045
theorem tw_1046 {args : Array Value} {s : State} (h : ∀ w ∈ gG, w.before args s = true) : (Cond.methodLink RL 88 yX5_bestAt).before args s = true := h _ (mG (i := 1046) (by decide +kernel) rfl)
theorem tw_1047 {args : Array Value} {s : State} (h : ∀ w ∈ gG, w.before args s = true) : (Cond.instanceMethod yX5_bestAt).before args s = true := h _ (mG (i := 1047) (by decide +kernel) rfl)
theorem tw_1048 {args : Array Value} {s : State} (h : ∀ w ∈ gG, w.before args s = true) : (Cond.selects RX5 yX5_bestAt yX5_bestAt).before args s = true := h _ (mG (i := 1048) (by decide +kernel) rfl)
theorem mw_1049 : Cond.code yX5_bestAt cX5_bestAt 5 (some .int) ∈ gG := mG (i := 1049) (by decide +kernel) rfl
theorem tw_1049 {args : Array Value} {s : State} (h : ∀ w ∈ gG, w.before args s = true) : (Cond.code yX5_bestAt cX5_bestAt 5 (some .int)).before args s = true := h _ mw_1049
theorem tw_1050 {args : Array Value} {s : State} (h : ∀ w ∈ gG, w.before args s = true) : (Cond.methodLink RL 92 yX5_settle).before args s = true := h _ (mG (i := 1050) (by decide +kernel) rfl)
theorem tw_1051 {args : Array Value} {s : State} (h : ∀ w ∈ gG, w.before args s = true) : (Cond.instanceMethod yX5_settle).before args s = true := h _ (mG (i := 1051) (by decide +kernel) rfl)
theorem tw_1052 {args : Array Value} {s : State} (h : ∀ w ∈ gG, w.before args s = true) : (Cond.selects RX5 yX5_settle yX5_settle).before args s = true := h _ (mG (i := 1052) (by decide +kernel) rfl)
theorem mw_1053 : Cond.code yX5_settle cX5_settle 3 (some .int) ∈ gG := mG (i := 1053) (by decide +kernel) rfl
theorem tw_1053 {args : Array Value} {s : State} (h : ∀ w ∈ gG, w.before args s = true) : (Cond.code yX5_settle cX5_settle 3 (some .int)).before args s = true := h _ mw_1053
theorem tw_1054 {args : Array Value} {s : State} (h : ∀ w ∈ gG, w.before args s = true) : (Cond.methodLink RL 96 yX5_edgeFor).before args s = true := h _ (mG (i := 1054) (by decide +kernel) rfl)
theorem tw_1055 {args : Array Value} {s : State} (h : ∀ w ∈ gG, w.before args s = true) : (Cond.instanceMethod yX5_edgeFor).before args s = true := h _ (mG (i := 1055) (by decide +kernel) rfl)
theorem tw_1056 {args : Array Value} {s : State} (h : ∀ w ∈ gG, w.before args s = true) : (Cond.selects RX5 yX5_edgeFor yX5_edgeFor).before args s = true := h _ (mG (i := 1056) (by decide +kernel) rfl)
theorem mw_1057 : Cond.code yX5_edgeFor cX5_edgeFor 2 (some .int) ∈ gG := mG (i := 1057) (by decide +kernel) rfl
theorem tw_1057 {args : Array Value} {s : State} (h : ∀ w ∈ gG, w.before args s = true) : (Cond.code yX5_edgeFor cX5_edgeFor 2 (some .int)).before args s = true := h _ mw_1057
theorem tw_1058 {args : Array Value} {s : State} (h : ∀ w ∈ gG, w.before args s = true) : (Cond.methodLink RX5 204 yX5_cheapest).before args s = true := h _ (mG (i := 1058) (by decide +kernel) rfl)
theorem tw_1060 {args : Array Value} {s : State} (h : ∀ w ∈ gG, w.before args s = true) : (Cond.instanceMethod yX5_cheapest).before args s = true := h _ (mG (i := 1060) (by decide +kernel) rfl)
theorem mw_1061 : Cond.code yX5_cheapest cX5_cheapest 8 (some .int) ∈ gG := mG (i := 1061) (by decide +kernel) rfl
theorem tw_1061 {args : Array Value} {s : State} (h : ∀ w ∈ gG, w.before args s = true) : (Cond.code yX5_cheapest cX5_cheapest 8 (some .int)).before args s = true := h _ mw_1061
theorem tw_1062 {args : Array Value} {s : State} (h : ∀ w ∈ gG, w.before args s = true) : (Cond.methodLink RL 100 yX5_kindFor).before args s = true := h _ (mG (i := 1062) (by decide +kernel) rfl)
theorem tw_1063 {args : Array Value} {s : State} (h : ∀ w ∈ gG, w.before args s = true) : (Cond.instanceMethod yX5_kindFor).before args s = true := h _ (mG (i := 1063) (by decide +kernel) rfl)
theorem tw_1064 {args : Array Value} {s : State} (h : ∀ w ∈ gG, w.before args s = true) : (Cond.selects RX5 yX5_kindFor yX5_kindFor).before args s = true := h _ (mG (i := 1064) (by decide +kernel) rfl)
theorem mw_1065 : Cond.code yX5_kindFor cX5_kindFor 2 (some .int) ∈ gG := mG (i := 1065) (by decide +kernel) rfl
theorem tw_1065 {args : Array Value} {s : State} (h : ∀ w ∈ gG, w.before args s = true) : (Cond.code yX5_kindFor cX5_kindFor 2 (some .int)).before args s = true := h _ mw_1065
theorem tw_1066 {args : Array Value} {s : State} (h : ∀ w ∈ gG, w.before args s = true) : (Cond.methodLink RL 104 yX5_turn).before args s = true := h _ (mG (i := 1066) (by decide +kernel) rfl)
theorem tw_1067 {args : Array Value} {s : State} (h : ∀ w ∈ gG, w.before args s = true) : (Cond.instanceMethod yX5_turn).before args s = true := h _ (mG (i := 1067) (by decide +kernel) rfl)
theorem tw_1068 {args : Array Value} {s : State} (h : ∀ w ∈ gG, w.before args s = true) : (Cond.selects RX5 yX5_turn yX5_turn).before args s = true := h _ (mG (i := 1068) (by decide +kernel) rfl)
theorem mw_1069 : Cond.code yX5_turn cX5_turn 4 (some .int) ∈ gG := mG (i := 1069) (by decide +kernel) rfl
theorem tw_1069 {args : Array Value} {s : State} (h : ∀ w ∈ gG, w.before args s = true) : (Cond.code yX5_turn cX5_turn 4 (some .int)).before args s = true := h _ mw_1069
theorem tw_1070 {args : Array Value} {s : State} (h : ∀ w ∈ gG, w.before args s = true) : (Cond.methodLink RX5 207 yX5_bits).before args s = true := h _ (mG (i := 1070) (by decide +kernel) rfl)
theorem tw_1071 {args : Array Value} {s : State} (h : ∀ w ∈ gG, w.before args s = true) : (Cond.static yX5_bits).before args s = true := h _ (mG (i := 1071) (by decide +kernel) rfl)
theorem mw_1072 : Cond.code yX5_bits cX5_bits 3 (some .int) ∈ gG := mG (i := 1072) (by decide +kernel) rfl
theorem tw_1072 {args : Array Value} {s : State} (h : ∀ w ∈ gG, w.before args s = true) : (Cond.code yX5_bits cX5_bits 3 (some .int)).before args s = true := h _ mw_1072
theorem tw_1073 {args : Array Value} {s : State} (h : ∀ w ∈ gG, w.before args s = true) : (Cond.methodLink RX5 210 yX5_sumTurned).before args s = true := h _ (mG (i := 1073) (by decide +kernel) rfl)
theorem tw_1075 {args : Array Value} {s : State} (h : ∀ w ∈ gG, w.before args s = true) : (Cond.instanceMethod yX5_sumTurned).before args s = true := h _ (mG (i := 1075) (by decide +kernel) rfl)
theorem mw_1076 : Cond.code yX5_sumTurned cX5_sumTurned 4 (some .int) ∈ gG := mG (i := 1076) (by decide +kernel) rfl
theorem tw_1076 {args : Array Value} {s : State} (h : ∀ w ∈ gG, w.before args s = true) : (Cond.code yX5_sumTurned cX5_sumTurned 4 (some .int)).before args s = true := h _ mw_1076
theorem tw_1077 {args : Array Value} {s : State} (h : ∀ w ∈ gG, w.before args s = true) : (Cond.methodLink RL 108 yX5_fits).before args s = true := h _ (mG (i := 1077) (by decide +kernel) rfl)
theorem tw_1078 {args : Array Value} {s : State} (h : ∀ w ∈ gG, w.before args s = true) : (Cond.instanceMethod yX5_fits).before args s = true := h _ (mG (i := 1078) (by decide +kernel) rfl)
theorem tw_1079 {args : Array Value} {s : State} (h : ∀ w ∈ gG, w.before args s = true) : (Cond.selects RX5 yX5_fits yX5_fits).before args s = true := h _ (mG (i := 1079) (by decide +kernel) rfl)
theorem mw_1080 : Cond.code yX5_fits cX5_fits 8 (some .int) ∈ gG := mG (i := 1080) (by decide +kernel) rfl
theorem tw_1080 {args : Array Value} {s : State} (h : ∀ w ∈ gG, w.before args s = true) : (Cond.code yX5_fits cX5_fits 8 (some .int)).before args s = true := h _ mw_1080
theorem tw_1081 {args : Array Value} {s : State} (h : ∀ w ∈ gG, w.before args s = true) : (Cond.methodLink RX5 217 yX5_lacks).before args s = true := h _ (mG (i := 1081) (by decide +kernel) rfl)
theorem tw_1083 {args : Array Value} {s : State} (h : ∀ w ∈ gG, w.before args s = true) : (Cond.instanceMethod yX5_lacks).before args s = true := h _ (mG (i := 1083) (by decide +kernel) rfl)
theorem mw_1084 : Cond.code yX5_lacks cX5_lacks 3 (some .int) ∈ gG := mG (i := 1084) (by decide +kernel) rfl
theorem tw_1084 {args : Array Value} {s : State} (h : ∀ w ∈ gG, w.before args s = true) : (Cond.code yX5_lacks cX5_lacks 3 (some .int)).before args s = true := h _ mw_1084
theorem tw_1085 {args : Array Value} {s : State} (h : ∀ w ∈ gG, w.before args s = true) : (Cond.methodLink RX5 213 yX5_isSheet).before args s = true := h _ (mG (i := 1085) (by decide +kernel) rfl)
theorem tw_1086 {args : Array Value} {s : State} (h : ∀ w ∈ gG, w.before args s = true) : (Cond.static yX5_isSheet).before args s = true := h _ (mG (i := 1086) (by decide +kernel) rfl)
theorem mw_1087 : Cond.code yX5_isSheet cX5_isSheet 1 (some .boolean) ∈ gG := mG (i := 1087) (by decide +kernel) rfl
theorem tw_1087 {args : Array Value} {s : State} (h : ∀ w ∈ gG, w.before args s = true) : (Cond.code yX5_isSheet cX5_isSheet 1 (some .boolean)).before args s = true := h _ mw_1087
theorem tw_1088 {args : Array Value} {s : State} (h : ∀ w ∈ gG, w.before args s = true) : (Cond.constant RX5 216 (-1000006)).before args s = true := h _ (mG (i := 1088) (by decide +kernel) rfl)
theorem tw_1089 {args : Array Value} {s : State} (h : ∀ w ∈ gG, w.before args s = true) : (Cond.methodLink RX5 221 yX5_isSo).before args s = true := h _ (mG (i := 1089) (by decide +kernel) rfl)
theorem tw_1091 {args : Array Value} {s : State} (h : ∀ w ∈ gG, w.before args s = true) : (Cond.instanceMethod yX5_isSo).before args s = true := h _ (mG (i := 1091) (by decide +kernel) rfl)
theorem mw_1092 : Cond.code yX5_isSo cX5_isSo 5 (some .boolean) ∈ gG := mG (i := 1092) (by decide +kernel) rfl
theorem tw_1092 {args : Array Value} {s : State} (h : ∀ w ∈ gG, w.before args s = true) : (Cond.code yX5_isSo cX5_isSo 5 (some .boolean)).before args s = true := h _ mw_1092
theorem tw_1093 {args : Array Value} {s : State} (h : ∀ w ∈ gG, w.before args s = true) : (Cond.methodLink RL 112 yX5_kinds).before args s = true := h _ (mG (i := 1093) (by decide +kernel) rfl)
theorem tw_1094 {args : Array Value} {s : State} (h : ∀ w ∈ gG, w.before args s = true) : (Cond.instanceMethod yX5_kinds).before args s = true := h _ (mG (i := 1094) (by decide +kernel) rfl)
theorem tw_1095 {args : Array Value} {s : State} (h : ∀ w ∈ gG, w.before args s = true) : (Cond.selects RX5 yX5_kinds yX5_kinds).before args s = true := h _ (mG (i := 1095) (by decide +kernel) rfl)
theorem mw_1096 : Cond.code yX5_kinds cX5_kinds 8 (some .int) ∈ gG := mG (i := 1096) (by decide +kernel) rfl
theorem tw_1096 {args : Array Value} {s : State} (h : ∀ w ∈ gG, w.before args s = true) : (Cond.code yX5_kinds cX5_kinds 8 (some .int)).before args s = true := h _ mw_1096
theorem tw_1097 {args : Array Value} {s : State} (h : ∀ w ∈ gG, w.before args s = true) : (Cond.methodLink RL 116 yX5_tip).before args s = true := h _ (mG (i := 1097) (by decide +kernel) rfl)
theorem tw_1098 {args : Array Value} {s : State} (h : ∀ w ∈ gG, w.before args s = true) : (Cond.instanceMethod yX5_tip).before args s = true := h _ (mG (i := 1098) (by decide +kernel) rfl)
theorem tw_1099 {args : Array Value} {s : State} (h : ∀ w ∈ gG, w.before args s = true) : (Cond.selects RX5 yX5_tip yX5_tip).before args s = true := h _ (mG (i := 1099) (by decide +kernel) rfl)
theorem mw_1100 : Cond.code yX5_tip cX5_tip 5 (some .int) ∈ gG := mG (i := 1100) (by decide +kernel) rfl
theorem tw_1100 {args : Array Value} {s : State} (h : ∀ w ∈ gG, w.before args s = true) : (Cond.code yX5_tip cX5_tip 5 (some .int)).before args s = true := h _ mw_1100
theorem tw_1101 {args : Array Value} {s : State} (h : ∀ w ∈ gG, w.before args s = true) : (Cond.methodLink RX5 225 yX5_drawn).before args s = true := h _ (mG (i := 1101) (by decide +kernel) rfl)
theorem tw_1103 {args : Array Value} {s : State} (h : ∀ w ∈ gG, w.before args s = true) : (Cond.instanceMethod yX5_drawn).before args s = true := h _ (mG (i := 1103) (by decide +kernel) rfl)
theorem mw_1104 : Cond.code yX5_drawn cX5_drawn 1 (some .int) ∈ gG := mG (i := 1104) (by decide +kernel) rfl
theorem tw_1104 {args : Array Value} {s : State} (h : ∀ w ∈ gG, w.before args s = true) : (Cond.code yX5_drawn cX5_drawn 1 (some .int)).before args s = true := h _ mw_1104
theorem tw_1105 {args : Array Value} {s : State} (h : ∀ w ∈ gG, w.before args s = true) : (Cond.constant RX5 224 (1103515245)).before args s = true := h _ (mG (i := 1105) (by decide +kernel) rfl)
theorem tw_1106 {args : Array Value} {s : State} (h : ∀ w ∈ gG, w.before args s = true) : (Cond.methodLink RL 121 yX5_odds).before args s = true := h _ (mG (i := 1106) (by decide +kernel) rfl)
theorem tw_1107 {args : Array Value} {s : State} (h : ∀ w ∈ gG, w.before args s = true) : (Cond.instanceMethod yX5_odds).before args s = true := h _ (mG (i := 1107) (by decide +kernel) rfl)
theorem tw_1108 {args : Array Value} {s : State} (h : ∀ w ∈ gG, w.before args s = true) : (Cond.selects RX5 yX5_odds yX5_odds).before args s = true := h _ (mG (i := 1108) (by decide +kernel) rfl)
theorem mw_1109 : Cond.code yX5_odds cX5_odds 10 (some .long) ∈ gG := mG (i := 1109) (by decide +kernel) rfl
theorem tw_1109 {args : Array Value} {s : State} (h : ∀ w ∈ gG, w.before args s = true) : (Cond.code yX5_odds cX5_odds 10 (some .long)).before args s = true := h _ mw_1109
theorem tw_1110 {args : Array Value} {s : State} (h : ∀ w ∈ gG, w.before args s = true) : (Cond.methodLink RX5 228 yX5_isNoWorse).before args s = true := h _ (mG (i := 1110) (by decide +kernel) rfl)
theorem tw_1112 {args : Array Value} {s : State} (h : ∀ w ∈ gG, w.before args s = true) : (Cond.instanceMethod yX5_isNoWorse).before args s = true := h _ (mG (i := 1112) (by decide +kernel) rfl)
theorem mw_1113 : Cond.code yX5_isNoWorse cX5_isNoWorse 5 (some .boolean) ∈ gG := mG (i := 1113) (by decide +kernel) rfl
theorem tw_1113 {args : Array Value} {s : State} (h : ∀ w ∈ gG, w.before args s = true) : (Cond.code yX5_isNoWorse cX5_isNoWorse 5 (some .boolean)).before args s = true := h _ mw_1113
theorem tw_1114 {args : Array Value} {s : State} (h : ∀ w ∈ gG, w.before args s = true) : (Cond.methodLink RL 125 yX5_seed).before args s = true := h _ (mG (i := 1114) (by decide +kernel) rfl)
theorem tw_1115 {args : Array Value} {s : State} (h : ∀ w ∈ gG, w.before args s = true) : (Cond.instanceMethod yX5_seed).before args s = true := h _ (mG (i := 1115) (by decide +kernel) rfl)
theorem tw_1116 {args : Array Value} {s : State} (h : ∀ w ∈ gG, w.before args s = true) : (Cond.selects RX5 yX5_seed yX5_seed).before args s = true := h _ (mG (i := 1116) (by decide +kernel) rfl)
theorem mw_1117 : Cond.code yX5_seed cX5_seed 2 (some .int) ∈ gG := mG (i := 1117) (by decide +kernel) rfl
theorem tw_1117 {args : Array Value} {s : State} (h : ∀ w ∈ gG, w.before args s = true) : (Cond.code yX5_seed cX5_seed 2 (some .int)).before args s = true := h _ mw_1117
theorem tw_1118 {args : Array Value} {s : State} (h : ∀ w ∈ gG, w.before args s = true) : (Cond.methodLink RL 129 yX5_feed).before args s = true := h _ (mG (i := 1118) (by decide +kernel) rfl)
theorem tw_1119 {args : Array Value} {s : State} (h : ∀ w ∈ gG, w.before args s = true) : (Cond.instanceMethod yX5_feed).before args s = true := h _ (mG (i := 1119) (by decide +kernel) rfl)
theorem tw_1120 {args : Array Value} {s : State} (h : ∀ w ∈ gG, w.before args s = true) : (Cond.selects RX5 yX5_feed yX5_feed).before args s = true := h _ (mG (i := 1120) (by decide +kernel) rfl)
theorem mw_1121 : Cond.code yX5_feed cX5_feed 4 (some .int) ∈ gG := mG (i := 1121) (by decide +kernel) rfl
theorem tw_1121 {args : Array Value} {s : State} (h : ∀ w ∈ gG, w.before args s = true) : (Cond.code yX5_feed cX5_feed 4 (some .int)).before args s = true := h _ mw_1121
theorem tw_1122 {args : Array Value} {s : State} (h : ∀ w ∈ gG, w.before args s = true) : (Cond.methodLink RL 133 yX5_wipe).before args s = true := h _ (mG (i := 1122) (by decide +kernel) rfl)
theorem tw_1123 {args : Array Value} {s : State} (h : ∀ w ∈ gG, w.before args s = true) : (Cond.instanceMethod yX5_wipe).before args s = true := h _ (mG (i := 1123) (by decide +kernel) rfl)
theorem tw_1124 {args : Array Value} {s : State} (h : ∀ w ∈ gG, w.before args s = true) : (Cond.selects RX5 yX5_wipe yX5_wipe).before args s = true := h _ (mG (i := 1124) (by decide +kernel) rfl)
theorem mw_1125 : Cond.code yX5_wipe cX5_wipe 2 (some .int) ∈ gG := mG (i := 1125) (by decide +kernel) rfl
theorem tw_1125 {args : Array Value} {s : State} (h : ∀ w ∈ gG, w.before args s = true) : (Cond.code yX5_wipe cX5_wipe 2 (some .int)).before args s = true := h _ mw_1125
theorem tw_1126 {args : Array Value} {s : State} (h : ∀ w ∈ gG, w.before args s = true) : (Cond.methodLink RL 137 yX5_text).before args s = true := h _ (mG (i := 1126) (by decide +kernel) rfl)
theorem tw_1127 {args : Array Value} {s : State} (h : ∀ w ∈ gG, w.before args s = true) : (Cond.instanceMethod yX5_text).before args s = true := h _ (mG (i := 1127) (by decide +kernel) rfl)
theorem tw_1128 {args : Array Value} {s : State} (h : ∀ w ∈ gG, w.before args s = true) : (Cond.selects RX5 yX5_text yX5_text).before args s = true := h _ (mG (i := 1128) (by decide +kernel) rfl)
theorem mw_1129 : Cond.code yX5_text cX5_text 2 (some .int) ∈ gG := mG (i := 1129) (by decide +kernel) rfl
theorem tw_1129 {args : Array Value} {s : State} (h : ∀ w ∈ gG, w.before args s = true) : (Cond.code yX5_text cX5_text 2 (some .int)).before args s = true := h _ mw_1129
theorem tw_1130 {args : Array Value} {s : State} (h : ∀ w ∈ gG, w.before args s = true) : (Cond.methodLink RX5 261 yX5_token).before args s = true := h _ (mG (i := 1130) (by decide +kernel) rfl)
theorem tw_1132 {args : Array Value} {s : State} (h : ∀ w ∈ gG, w.before args s = true) : (Cond.instanceMethod yX5_token).before args s = true := h _ (mG (i := 1132) (by decide +kernel) rfl)
theorem mw_1133 : Cond.code yX5_token cX5_token 2 none ∈ gG := mG (i := 1133) (by decide +kernel) rfl
theorem tw_1133 {args : Array Value} {s : State} (h : ∀ w ∈ gG, w.before args s = true) : (Cond.code yX5_token cX5_token 2 none).before args s = true := h _ mw_1133
theorem tw_1134 {args : Array Value} {s : State} (h : ∀ w ∈ gG, w.before args s = true) : (Cond.methodLink RX5 241 yX5_byteAt).before args s = true := h _ (mG (i := 1134) (by decide +kernel) rfl)
theorem tw_1136 {args : Array Value} {s : State} (h : ∀ w ∈ gG, w.before args s = true) : (Cond.instanceMethod yX5_byteAt).before args s = true := h _ (mG (i := 1136) (by decide +kernel) rfl)
theorem mw_1137 : Cond.code yX5_byteAt cX5_byteAt 2 (some .int) ∈ gG := mG (i := 1137) (by decide +kernel) rfl
theorem tw_1137 {args : Array Value} {s : State} (h : ∀ w ∈ gG, w.before args s = true) : (Cond.code yX5_byteAt cX5_byteAt 2 (some .int)).before args s = true := h _ mw_1137
theorem tw_1138 {args : Array Value} {s : State} (h : ∀ w ∈ gG, w.before args s = true) : (Cond.methodLink RX5 299 yX5_readItem).before args s = true := h _ (mG (i := 1138) (by decide +kernel) rfl)
theorem tw_1140 {args : Array Value} {s : State} (h : ∀ w ∈ gG, w.before args s = true) : (Cond.instanceMethod yX5_readItem).before args s = true := h _ (mG (i := 1140) (by decide +kernel) rfl)
theorem mw_1141 : Cond.code yX5_readItem cX5_readItem 4 none ∈ gG := mG (i := 1141) (by decide +kernel) rfl
theorem tw_1141 {args : Array Value} {s : State} (h : ∀ w ∈ gG, w.before args s = true) : (Cond.code yX5_readItem cX5_readItem 4 none).before args s = true := h _ mw_1141
theorem tw_1142 {args : Array Value} {s : State} (h : ∀ w ∈ gG, w.before args s = true) : (Cond.methodLink RX5 271 yX5_isWord).before args s = true := h _ (mG (i := 1142) (by decide +kernel) rfl)
theorem tw_1144 {args : Array Value} {s : State} (h : ∀ w ∈ gG, w.before args s = true) : (Cond.instanceMethod yX5_isWord).before args s = true := h _ (mG (i := 1144) (by decide +kernel) rfl)
theorem mw_1145 : Cond.code yX5_isWord cX5_isWord 4 (some .boolean) ∈ gG := mG (i := 1145) (by decide +kernel) rfl
theorem tw_1145 {args : Array Value} {s : State} (h : ∀ w ∈ gG, w.before args s = true) : (Cond.code yX5_isWord cX5_isWord 4 (some .boolean)).before args s = true := h _ mw_1145
theorem tw_1146 {args : Array Value} {s : State} (h : ∀ w ∈ gG, w.before args s = true) : (Cond.methodLink RX5 250 yJ0_length_8abf5).before args s = true := h _ (mG (i := 1146) (by decide +kernel) rfl)
theorem tw_1147 {args : Array Value} {s : State} (h : ∀ w ∈ gG, w.before args s = true) : (Cond.methodLink RX5 253 yJ0_charAt_5068e).before args s = true := h _ (mG (i := 1147) (by decide +kernel) rfl)
theorem tw_1148 {args : Array Value} {s : State} (h : ∀ w ∈ gG, w.before args s = true) : (Cond.methodLink RX5 292 yX5_readPiece).before args s = true := h _ (mG (i := 1148) (by decide +kernel) rfl)
theorem tw_1150 {args : Array Value} {s : State} (h : ∀ w ∈ gG, w.before args s = true) : (Cond.instanceMethod yX5_readPiece).before args s = true := h _ (mG (i := 1150) (by decide +kernel) rfl)
theorem mw_1151 : Cond.code yX5_readPiece cX5_readPiece 5 none ∈ gG := mG (i := 1151) (by decide +kernel) rfl
theorem tw_1151 {args : Array Value} {s : State} (h : ∀ w ∈ gG, w.before args s = true) : (Cond.code yX5_readPiece cX5_readPiece 5 none).before args s = true := h _ mw_1151
theorem tw_1152 {args : Array Value} {s : State} (h : ∀ w ∈ gG, w.before args s = true) : (Cond.methodLink RX5 264 yX5_must).before args s = true := h _ (mG (i := 1152) (by decide +kernel) rfl)
theorem tw_1154 {args : Array Value} {s : State} (h : ∀ w ∈ gG, w.before args s = true) : (Cond.instanceMethod yX5_must).before args s = true := h _ (mG (i := 1154) (by decide +kernel) rfl)
theorem mw_1155 : Cond.code yX5_must cX5_must 2 none ∈ gG := mG (i := 1155) (by decide +kernel) rfl
theorem tw_1155 {args : Array Value} {s : State} (h : ∀ w ∈ gG, w.before args s = true) : (Cond.code yX5_must cX5_must 2 none).before args s = true := h _ mw_1155
theorem tw_1156 {args : Array Value} {s : State} (h : ∀ w ∈ gG, w.before args s = true) : (Cond.methodLink RX5 278 yX5_number).before args s = true := h _ (mG (i := 1156) (by decide +kernel) rfl)
theorem tw_1158 {args : Array Value} {s : State} (h : ∀ w ∈ gG, w.before args s = true) : (Cond.instanceMethod yX5_number).before args s = true := h _ (mG (i := 1158) (by decide +kernel) rfl)
theorem mw_1159 : Cond.code yX5_number cX5_number 4 (some .int) ∈ gG := mG (i := 1159) (by decide +kernel) rfl
theorem tw_1159 {args : Array Value} {s : State} (h : ∀ w ∈ gG, w.before args s = true) : (Cond.code yX5_number cX5_number 4 (some .int)).before args s = true := h _ mw_1159
theorem tw_1161 {args : Array Value} {s : State} (h : ∀ w ∈ gG, w.before args s = true) : (Cond.methodLink RX5 283 yX5_takesWord).before args s = true := h _ (mG (i := 1161) (by decide +kernel) rfl)
theorem tw_1163 {args : Array Value} {s : State} (h : ∀ w ∈ gG, w.before args s = true) : (Cond.instanceMethod yX5_takesWord).before args s = true := h _ (mG (i := 1163) (by decide +kernel) rfl)
theorem mw_1164 : Cond.code yX5_takesWord cX5_takesWord 3 (some .boolean) ∈ gG := mG (i := 1164) (by decide +kernel) rfl
theorem tw_1164 {args : Array Value} {s : State} (h : ∀ w ∈ gG, w.before args s = true) : (Cond.code yX5_takesWord cX5_takesWord 3 (some .boolean)).before args s = true := h _ mw_1164
theorem tw_1166 {args : Array Value} {s : State} (h : ∀ w ∈ gG, w.before args s = true) : (Cond.methodLink RX5 288 yX5_addItem).before args s = true := h _ (mG (i := 1166) (by decide +kernel) rfl)
theorem tw_1168 {args : Array Value} {s : State} (h : ∀ w ∈ gG, w.before args s = true) : (Cond.instanceMethod yX5_addItem).before args s = true := h _ (mG (i := 1168) (by decide +kernel) rfl)
theorem mw_1169 : Cond.code yX5_addItem cX5_addItem 7 none ∈ gG := mG (i := 1169) (by decide +kernel) rfl
theorem tw_1169 {args : Array Value} {s : State} (h : ∀ w ∈ gG, w.before args s = true) : (Cond.code yX5_addItem cX5_addItem 7 none).before args s = true := h _ mw_1169
theorem tw_1172 {args : Array Value} {s : State} (h : ∀ w ∈ gG, w.before args s = true) : (Cond.methodLink RX5 302 yX5_isToldSo).before args s = true := h _ (mG (i := 1172) (by decide +kernel) rfl)
theorem tw_1174 {args : Array Value} {s : State} (h : ∀ w ∈ gG, w.before args s = true) : (Cond.instanceMethod yX5_isToldSo).before args s = true := h _ (mG (i := 1174) (by decide +kernel) rfl)
theorem mw_1175 : Cond.code yX5_isToldSo cX5_isToldSo 6 none ∈ gG := mG (i := 1175) (by decide +kernel) rfl
theorem tw_1175 {args : Array Value} {s : State} (h : ∀ w ∈ gG, w.before args s = true) : (Cond.code yX5_isToldSo cX5_isToldSo 6 none).before args s = true := h _ mw_1175
theorem tw_1176 {args : Array Value} {s : State} (h : ∀ w ∈ gG, w.before args s = true) : (Cond.methodLink RL 141 yX5_hold).before args s = true := h _ (mG (i := 1176) (by decide +kernel) rfl)
theorem tw_1177 {args : Array Value} {s : State} (h : ∀ w ∈ gG, w.before args s = true) : (Cond.instanceMethod yX5_hold).before args s = true := h _ (mG (i := 1177) (by decide +kernel) rfl)
theorem tw_1178 {args : Array Value} {s : State} (h : ∀ w ∈ gG, w.before args s = true) : (Cond.selects RX5 yX5_hold yX5_hold).before args s = true := h _ (mG (i := 1178) (by decide +kernel) rfl)
theorem mw_1179 : Cond.code yX5_hold cX5_hold 3 (some .int) ∈ gG := mG (i := 1179) (by decide +kernel) rfl
theorem tw_1179 {args : Array Value} {s : State} (h : ∀ w ∈ gG, w.before args s = true) : (Cond.code yX5_hold cX5_hold 3 (some .int)).before args s = true := h _ mw_1179
theorem tw_1180 {args : Array Value} {s : State} (h : ∀ w ∈ gG, w.before args s = true) : (Cond.methodLink RX5 305 yX5_isSpot).before args s = true := h _ (mG (i := 1180) (by decide +kernel) rfl)
theorem tw_1181 {args : Array Value} {s : State} (h : ∀ w ∈ gG, w.before args s = true) : (Cond.static yX5_isSpot).before args s = true := h _ (mG (i := 1181) (by decide +kernel) rfl)
theorem mw_1182 : Cond.code yX5_isSpot cX5_isSpot 1 (some .boolean) ∈ gG := mG (i := 1182) (by decide +kernel) rfl
theorem tw_1182 {args : Array Value} {s : State} (h : ∀ w ∈ gG, w.before args s = true) : (Cond.code yX5_isSpot cX5_isSpot 1 (some .boolean)).before args s = true := h _ mw_1182
theorem tw_1183 {args : Array Value} {s : State} (h : ∀ w ∈ gG, w.before args s = true) : (Cond.methodLink RL 145 yX5_as).before args s = true := h _ (mG (i := 1183) (by decide +kernel) rfl)
theorem tw_1184 {args : Array Value} {s : State} (h : ∀ w ∈ gG, w.before args s = true) : (Cond.instanceMethod yX5_as).before args s = true := h _ (mG (i := 1184) (by decide +kernel) rfl)
theorem tw_1185 {args : Array Value} {s : State} (h : ∀ w ∈ gG, w.before args s = true) : (Cond.selects RX5 yX5_as yX5_as).before args s = true := h _ (mG (i := 1185) (by decide +kernel) rfl)
theorem mw_1186 : Cond.code yX5_as cX5_as 4 (some .int) ∈ gG := mG (i := 1186) (by decide +kernel) rfl
theorem tw_1186 {args : Array Value} {s : State} (h : ∀ w ∈ gG, w.before args s = true) : (Cond.code yX5_as cX5_as 4 (some .int)).before args s = true := h _ mw_1186
theorem tw_1187 {args : Array Value} {s : State} (h : ∀ w ∈ gG, w.before args s = true) : (Cond.methodLink RX5 308 yX5_isUnder).before args s = true := h _ (mG (i := 1187) (by decide +kernel) rfl)
theorem tw_1188 {args : Array Value} {s : State} (h : ∀ w ∈ gG, w.before args s = true) : (Cond.static yX5_isUnder).before args s = true := h _ (mG (i := 1188) (by decide +kernel) rfl)
theorem mw_1189 : Cond.code yX5_isUnder cX5_isUnder 3 (some .boolean) ∈ gG := mG (i := 1189) (by decide +kernel) rfl
theorem tw_1189 {args : Array Value} {s : State} (h : ∀ w ∈ gG, w.before args s = true) : (Cond.code yX5_isUnder cX5_isUnder 3 (some .boolean)).before args s = true := h _ mw_1189
theorem tw_1190 {args : Array Value} {s : State} (h : ∀ w ∈ gG, w.before args s = true) : (Cond.methodLink RX5 316 yX5_above).before args s = true := h _ (mG (i := 1190) (by decide +kernel) rfl)
theorem tw_1191 {args : Array Value} {s : State} (h : ∀ w ∈ gG, w.before args s = true) : (Cond.static yX5_above).before args s = true := h _ (mG (i := 1191) (by decide +kernel) rfl)
theorem mw_1192 : Cond.code yX5_above cX5_above 1 (some .int) ∈ gG := mG (i := 1192) (by decide +kernel) rfl
theorem tw_1192 {args : Array Value} {s : State} (h : ∀ w ∈ gG, w.before args s = true) : (Cond.code yX5_above cX5_above 1 (some .int)).before args s = true := h _ mw_1192
theorem tw_1193 {args : Array Value} {s : State} (h : ∀ w ∈ gG, w.before args s = true) : (Cond.constant RX5 311 (-1000003)).before args s = true := h _ (mG (i := 1193) (by decide +kernel) rfl)
theorem tw_1194 {args : Array Value} {s : State} (h : ∀ w ∈ gG, w.before args s = true) : (Cond.methodLink RL 149 yX5_sheet).before args s = true := h _ (mG (i := 1194) (by decide +kernel) rfl)
theorem tw_1195 {args : Array Value} {s : State} (h : ∀ w ∈ gG, w.before args s = true) : (Cond.instanceMethod yX5_sheet).before args s = true := h _ (mG (i := 1195) (by decide +kernel) rfl)
theorem tw_1196 {args : Array Value} {s : State} (h : ∀ w ∈ gG, w.before args s = true) : (Cond.selects RX5 yX5_sheet yX5_sheet).before args s = true := h _ (mG (i := 1196) (by decide +kernel) rfl)
theorem mw_1197 : Cond.code yX5_sheet cX5_sheet 5 (some .int) ∈ gG := mG (i := 1197) (by decide +kernel) rfl
theorem tw_1197 {args : Array Value} {s : State} (h : ∀ w ∈ gG, w.before args s = true) : (Cond.code yX5_sheet cX5_sheet 5 (some .int)).before args s = true := h _ mw_1197
theorem tw_1198 {args : Array Value} {s : State} (h : ∀ w ∈ gG, w.before args s = true) : (Cond.constant RX5 312 (-1000007)).before args s = true := h _ (mG (i := 1198) (by decide +kernel) rfl)
theorem tw_1199 {args : Array Value} {s : State} (h : ∀ w ∈ gG, w.before args s = true) : (Cond.methodLink RL 153 yX5_write).before args s = true := h _ (mG (i := 1199) (by decide +kernel) rfl)
theorem tw_1200 {args : Array Value} {s : State} (h : ∀ w ∈ gG, w.before args s = true) : (Cond.instanceMethod yX5_write).before args s = true := h _ (mG (i := 1200) (by decide +kernel) rfl)
theorem tw_1201 {args : Array Value} {s : State} (h : ∀ w ∈ gG, w.before args s = true) : (Cond.selects RX5 yX5_write yX5_write).before args s = true := h _ (mG (i := 1201) (by decide +kernel) rfl)
theorem mw_1202 : Cond.code yX5_write cX5_write 4 (some .int) ∈ gG := mG (i := 1202) (by decide +kernel) rfl
theorem tw_1202 {args : Array Value} {s : State} (h : ∀ w ∈ gG, w.before args s = true) : (Cond.code yX5_write cX5_write 4 (some .int)).before args s = true := h _ mw_1202
theorem tw_1203 {args : Array Value} {s : State} (h : ∀ w ∈ gG, w.before args s = true) : (Cond.methodLink RX5 313 yX5_cutTo).before args s = true := h _ (mG (i := 1203) (by decide +kernel) rfl)
theorem tw_1204 {args : Array Value} {s : State} (h : ∀ w ∈ gG, w.before args s = true) : (Cond.static yX5_cutTo).before args s = true := h _ (mG (i := 1204) (by decide +kernel) rfl)
theorem mw_1205 : Cond.code yX5_cutTo cX5_cutTo 2 (some .int) ∈ gG := mG (i := 1205) (by decide +kernel) rfl
theorem tw_1205 {args : Array Value} {s : State} (h : ∀ w ∈ gG, w.before args s = true) : (Cond.code yX5_cutTo cX5_cutTo 2 (some .int)).before args s = true := h _ mw_1205
theorem tw_1206 {args : Array Value} {s : State} (h : ∀ w ∈ gG, w.before args s = true) : (Cond.methodLink RL 158 yX5_copy).before args s = true := h _ (mG (i := 1206) (by decide +kernel) rfl)
theorem tw_1207 {args : Array Value} {s : State} (h : ∀ w ∈ gG, w.before args s = true) : (Cond.instanceMethod yX5_copy).before args s = true := h _ (mG (i := 1207) (by decide +kernel) rfl)
theorem tw_1208 {args : Array Value} {s : State} (h : ∀ w ∈ gG, w.before args s = true) : (Cond.selects RX5 yX5_copy yX5_copy).before args s = true := h _ (mG (i := 1208) (by decide +kernel) rfl)
theorem mw_1209 : Cond.code yX5_copy cX5_copy 7 (some .int) ∈ gG := mG (i := 1209) (by decide +kernel) rfl
theorem tw_1209 {args : Array Value} {s : State} (h : ∀ w ∈ gG, w.before args s = true) : (Cond.code yX5_copy cX5_copy 7 (some .int)).before args s = true := h _ mw_1209
theorem tw_1210 {args : Array Value} {s : State} (h : ∀ w ∈ gG, w.before args s = true) : (Cond.methodLink RL 162 yX5_load).before args s = true := h _ (mG (i := 1210) (by decide +kernel) rfl)
theorem tw_1211 {args : Array Value} {s : State} (h : ∀ w ∈ gG, w.before args s = true) : (Cond.instanceMethod yX5_load).before args s = true := h _ (mG (i := 1211) (by decide +kernel) rfl)
theorem tw_1212 {args : Array Value} {s : State} (h : ∀ w ∈ gG, w.before args s = true) : (Cond.selects RX5 yX5_load yX5_load).before args s = true := h _ (mG (i := 1212) (by decide +kernel) rfl)
theorem mw_1213 : Cond.code yX5_load cX5_load 3 (some .int) ∈ gG := mG (i := 1213) (by decide +kernel) rfl
theorem tw_1213 {args : Array Value} {s : State} (h : ∀ w ∈ gG, w.before args s = true) : (Cond.code yX5_load cX5_load 3 (some .int)).before args s = true := h _ mw_1213
theorem tw_1214 {args : Array Value} {s : State} (h : ∀ w ∈ gG, w.before args s = true) : (Cond.methodLink RL 166 yX5_judge).before args s = true := h _ (mG (i := 1214) (by decide +kernel) rfl)
theorem tw_1215 {args : Array Value} {s : State} (h : ∀ w ∈ gG, w.before args s = true) : (Cond.instanceMethod yX5_judge).before args s = true := h _ (mG (i := 1215) (by decide +kernel) rfl)
theorem tw_1216 {args : Array Value} {s : State} (h : ∀ w ∈ gG, w.before args s = true) : (Cond.selects RX5 yX5_judge yX5_judge).before args s = true := h _ (mG (i := 1216) (by decide +kernel) rfl)
theorem mw_1217 : Cond.code yX5_judge cX5_judge 3 (some .int) ∈ gG := mG (i := 1217) (by decide +kernel) rfl
theorem tw_1217 {args : Array Value} {s : State} (h : ∀ w ∈ gG, w.before args s = true) : (Cond.code yX5_judge cX5_judge 3 (some .int)).before args s = true := h _ mw_1217
theorem tw_1218 {args : Array Value} {s : State} (h : ∀ w ∈ gG, w.before args s = true) : (Cond.methodLink RL 170 yX5_image).before args s = true := h _ (mG (i := 1218) (by decide +kernel) rfl)
theorem tw_1219 {args : Array Value} {s : State} (h : ∀ w ∈ gG, w.before args s = true) : (Cond.instanceMethod yX5_image).before args s = true := h _ (mG (i := 1219) (by decide +kernel) rfl)
theorem tw_1220 {args : Array Value} {s : State} (h : ∀ w ∈ gG, w.before args s = true) : (Cond.selects RX5 yX5_image yX5_image).before args s = true := h _ (mG (i := 1220) (by decide +kernel) rfl)
theorem mw_1221 : Cond.code yX5_image cX5_image 1 (some .int) ∈ gG := mG (i := 1221) (by decide +kernel) rfl
theorem tw_1221 {args : Array Value} {s : State} (h : ∀ w ∈ gG, w.before args s = true) : (Cond.code yX5_image cX5_image 1 (some .int)).before args s = true := h _ mw_1221
theorem tw_1222 {args : Array Value} {s : State} (h : ∀ w ∈ gG, w.before args s = true) : (Cond.methodLink RL 174 yX5_undo).before args s = true := h _ (mG (i := 1222) (by decide +kernel) rfl)
theorem tw_1223 {args : Array Value} {s : State} (h : ∀ w ∈ gG, w.before args s = true) : (Cond.instanceMethod yX5_undo).before args s = true := h _ (mG (i := 1223) (by decide +kernel) rfl)
theorem tw_1224 {args : Array Value} {s : State} (h : ∀ w ∈ gG, w.before args s = true) : (Cond.selects RX5 yX5_undo yX5_undo).before args s = true := h _ (mG (i := 1224) (by decide +kernel) rfl)
theorem mw_1225 : Cond.code yX5_undo cX5_undo 1 (some .int) ∈ gG := mG (i := 1225) (by decide +kernel) rfl
theorem tw_1225 {args : Array Value} {s : State} (h : ∀ w ∈ gG, w.before args s = true) : (Cond.code yX5_undo cX5_undo 1 (some .int)).before args s = true := h _ mw_1225
theorem tw_1226 {args : Array Value} {s : State} (h : ∀ w ∈ gG, w.before args s = true) : (Cond.methodLink RL 178 yX5_tear).before args s = true := h _ (mG (i := 1226) (by decide +kernel) rfl)
theorem tw_1227 {args : Array Value} {s : State} (h : ∀ w ∈ gG, w.before args s = true) : (Cond.instanceMethod yX5_tear).before args s = true := h _ (mG (i := 1227) (by decide +kernel) rfl)
theorem tw_1228 {args : Array Value} {s : State} (h : ∀ w ∈ gG, w.before args s = true) : (Cond.selects RX5 yX5_tear yX5_tear).before args s = true := h _ (mG (i := 1228) (by decide +kernel) rfl)
theorem mw_1229 : Cond.code yX5_tear cX5_tear 2 (some .int) ∈ gG := mG (i := 1229) (by decide +kernel) rfl
theorem tw_1229 {args : Array Value} {s : State} (h : ∀ w ∈ gG, w.before args s = true) : (Cond.code yX5_tear cX5_tear 2 (some .int)).before args s = true := h _ mw_1229
theorem tw_1230 {args : Array Value} {s : State} (h : ∀ w ∈ gG, w.before args s = true) : (Cond.methodLink RL 182 yX5_count).before args s = true := h _ (mG (i := 1230) (by decide +kernel) rfl)
theorem tw_1231 {args : Array Value} {s : State} (h : ∀ w ∈ gG, w.before args s = true) : (Cond.instanceMethod yX5_count).before args s = true := h _ (mG (i := 1231) (by decide +kernel) rfl)
theorem tw_1232 {args : Array Value} {s : State} (h : ∀ w ∈ gG, w.before args s = true) : (Cond.selects RX5 yX5_count yX5_count).before args s = true := h _ (mG (i := 1232) (by decide +kernel) rfl)
theorem mw_1233 : Cond.code yX5_count cX5_count 4 (some .int) ∈ gG := mG (i := 1233) (by decide +kernel) rfl
theorem tw_1233 {args : Array Value} {s : State} (h : ∀ w ∈ gG, w.before args s = true) : (Cond.code yX5_count cX5_count 4 (some .int)).before args s = true := h _ mw_1233
theorem tw_1234 {args : Array Value} {s : State} (h : ∀ w ∈ gG, w.before args s = true) : (Cond.methodLink RL 186 yX5_status).before args s = true := h _ (mG (i := 1234) (by decide +kernel) rfl)
theorem tw_1235 {args : Array Value} {s : State} (h : ∀ w ∈ gG, w.before args s = true) : (Cond.instanceMethod yX5_status).before args s = true := h _ (mG (i := 1235) (by decide +kernel) rfl)
theorem tw_1236 {args : Array Value} {s : State} (h : ∀ w ∈ gG, w.before args s = true) : (Cond.selects RX5 yX5_status yX5_status).before args s = true := h _ (mG (i := 1236) (by decide +kernel) rfl)
theorem mw_1237 : Cond.code yX5_status cX5_status 2 (some .int) ∈ gG := mG (i := 1237) (by decide +kernel) rfl
theorem tw_1237 {args : Array Value} {s : State} (h : ∀ w ∈ gG, w.before args s = true) : (Cond.code yX5_status cX5_status 2 (some .int)).before args s = true := h _ mw_1237
theorem tw_1238 {args : Array Value} {s : State} (h : ∀ w ∈ gG, w.before args s = true) : (Cond.fieldLink RJ0 9 "java/lang/String" "value" "[B").before args s = true := h _ (mG (i := 1238) (by decide +kernel) rfl)
theorem tw_1239 {args : Array Value} {s : State} (h : ∀ w ∈ gG, w.before args s = true) : (Cond.fieldLink RJ0 15 "java/lang/String" "coder" "B").before args s = true := h _ (mG (i := 1239) (by decide +kernel) rfl)
end
section
theorem dX0_init_0 : decode cX0_init 0 = .ok (.aload_n 0, 1) := by decide +kernel
theorem dX0_init_1 : decode cX0_init 1 = .ok (.invokespecial 3, 3) := by decide +kernel
theorem dX0_init_4 : decode cX0_init 4 = .ok (.aload_n 0, 1) := by decide +kernel
theorem dX0_init_5 : decode cX0_init 5 = .ok (.bipush 64, 2) := by decide +kernel
theorem dX0_init_7 : decode cX0_init 7 = .ok (.newarray .int, 2) := by decide +kernel
theorem dX0_init_9 : decode cX0_init 9 = .ok (.putfield 9, 3) := by decide +kernel
theorem dX0_init_12 : decode cX0_init 12 = .ok (.aload_n 0, 1) := by decide +kernel
theorem dX0_init_13 : decode cX0_init 13 = .ok (.bipush 8, 2) := by decide +kernel
theorem dX0_init_15 : decode cX0_init 15 = .ok (.newarray .int, 2) := by decide +kernel
theorem dX0_init_17 : decode cX0_init 17 = .ok (.putfield 15, 3) := by decide +kernel
theorem dX0_init_20 : decode cX0_init 20 = .ok (.aload_n 0, 1) := by decide +kernel
theorem dX0_init_21 : decode cX0_init 21 = .ok (.bipush 8, 2) := by decide +kernel
theorem dX0_init_23 : decode cX0_init 23 = .ok (.newarray .int, 2) := by decide +kernel
theorem dX0_init_25 : decode cX0_init 25 = .ok (.putfield 18, 3) := by decide +kernel
theorem dX0_init_28 : decode cX0_init 28 = .ok (.aload_n 0, 1) := by decide +kernel
theorem dX0_init_29 : decode cX0_init 29 = .ok (.sipush 2048, 3) := by decide +kernel
theorem dX0_init_32 : decode cX0_init 32 = .ok (.newarray .int, 2) := by decide +kernel
theorem dX0_init_34 : decode cX0_init 34 = .ok (.putfield 21, 3) := by decide +kernel
theorem dX0_init_37 : decode cX0_init 37 = .ok (.return_, 1) := by decide +kernel
theorem dX0_leastSum_0 : decode cX0_leastSum 0 = .ok (.aload_n 1, 1) := by decide +kernel
theorem dX0_leastSum_1 : decode cX0_leastSum 1 = .ok (.getfield 24, 3) := by decide +kernel
theorem dX0_leastSum_4 : decode cX0_leastSum 4 = .ok (.ifCond .ne 5, 3) := by decide +kernel
theorem dX0_leastSum_7 : decode cX0_leastSum 7 = .ok (.iconst 0, 1) := by decide +kernel
theorem dX0_leastSum_8 : decode cX0_leastSum 8 = .ok (.ireturn, 1) := by decide +kernel
theorem dX0_leastSum_9 : decode cX0_leastSum 9 = .ok (.aload_n 0, 1) := by decide +kernel
theorem dX0_leastSum_10 : decode cX0_leastSum 10 = .ok (.aload_n 1, 1) := by decide +kernel
theorem dX0_leastSum_11 : decode cX0_leastSum 11 = .ok (.invokevirtual 30, 3) := by decide +kernel
theorem dX0_leastSum_14 : decode cX0_leastSum 14 = .ok (.aload_n 0, 1) := by decide +kernel
theorem dX0_leastSum_15 : decode cX0_leastSum 15 = .ok (.aload_n 1, 1) := by decide +kernel
theorem dX0_leastSum_16 : decode cX0_leastSum 16 = .ok (.getfield 24, 3) := by decide +kernel
theorem dX0_leastSum_19 : decode cX0_leastSum 19 = .ok (.invokevirtual 34, 3) := by decide +kernel
theorem dX0_leastSum_22 : decode cX0_leastSum 22 = .ok (.aload_n 0, 1) := by decide +kernel
theorem dX0_leastSum_23 : decode cX0_leastSum 23 = .ok (.aload_n 1, 1) := by decide +kernel
theorem dX0_leastSum_24 : decode cX0_leastSum 24 = .ok (.getfield 24, 3) := by decide +kernel
theorem dX0_leastSum_27 : decode cX0_leastSum 27 = .ok (.iconst 0, 1) := by decide +kernel
theorem dX0_leastSum_28 : decode cX0_leastSum 28 = .ok (.iconst (-1), 1) := by decide +kernel
theorem dX0_leastSum_29 : decode cX0_leastSum 29 = .ok (.invokevirtual 38, 3) := by decide +kernel
theorem dX0_leastSum_32 : decode cX0_leastSum 32 = .ok (.istore_n 2, 1) := by decide +kernel
theorem dX0_leastSum_33 : decode cX0_leastSum 33 = .ok (.aload_n 0, 1) := by decide +kernel
theorem dX0_leastSum_34 : decode cX0_leastSum 34 = .ok (.iconst 0, 1) := by decide +kernel
theorem dX0_leastSum_35 : decode cX0_leastSum 35 = .ok (.iconst (-1), 1) := by decide +kernel
theorem dX0_leastSum_36 : decode cX0_leastSum 36 = .ok (.iload_n 2, 1) := by decide +kernel
theorem dX0_leastSum_37 : decode cX0_leastSum 37 = .ok (.invokevirtual 42, 3) := by decide +kernel
theorem dX0_leastSum_40 : decode cX0_leastSum 40 = .ok (.ireturn, 1) := by decide +kernel
theorem dX0_pieceAt_0 : decode cX0_pieceAt 0 = .ok (.aload_n 0, 1) := by decide +kernel
theorem dX0_pieceAt_1 : decode cX0_pieceAt 1 = .ok (.aload_n 1, 1) := by decide +kernel
theorem dX0_pieceAt_2 : decode cX0_pieceAt 2 = .ok (.invokevirtual 30, 3) := by decide +kernel
theorem dX0_pieceAt_5 : decode cX0_pieceAt 5 = .ok (.aload_n 0, 1) := by decide +kernel
theorem dX0_pieceAt_6 : decode cX0_pieceAt 6 = .ok (.aload_n 1, 1) := by decide +kernel
theorem dX0_pieceAt_7 : decode cX0_pieceAt 7 = .ok (.getfield 24, 3) := by decide +kernel
theorem dX0_pieceAt_10 : decode cX0_pieceAt 10 = .ok (.invokevirtual 34, 3) := by decide +kernel
theorem dX0_pieceAt_13 : decode cX0_pieceAt 13 = .ok (.iconst 0, 1) := by decide +kernel
theorem dX0_pieceAt_14 : decode cX0_pieceAt 14 = .ok (.istore_n 3, 1) := by decide +kernel
theorem dX0_pieceAt_15 : decode cX0_pieceAt 15 = .ok (.iconst (-1), 1) := by decide +kernel
theorem dX0_pieceAt_16 : decode cX0_pieceAt 16 = .ok (.istore 4, 2) := by decide +kernel
theorem dX0_pieceAt_18 : decode cX0_pieceAt 18 = .ok (.iconst 0, 1) := by decide +kernel
theorem dX0_pieceAt_19 : decode cX0_pieceAt 19 = .ok (.istore 5, 2) := by decide +kernel
theorem dX0_pieceAt_21 : decode cX0_pieceAt 21 = .ok (.iload 5, 2) := by decide +kernel
theorem dX0_pieceAt_23 : decode cX0_pieceAt 23 = .ok (.iload_n 2, 1) := by decide +kernel
theorem dX0_pieceAt_24 : decode cX0_pieceAt 24 = .ok (.if_icmp .gt 29, 3) := by decide +kernel
theorem dX0_pieceAt_27 : decode cX0_pieceAt 27 = .ok (.aload_n 0, 1) := by decide +kernel
theorem dX0_pieceAt_28 : decode cX0_pieceAt 28 = .ok (.aload_n 1, 1) := by decide +kernel
theorem dX0_pieceAt_29 : decode cX0_pieceAt 29 = .ok (.getfield 24, 3) := by decide +kernel
theorem dX0_pieceAt_32 : decode cX0_pieceAt 32 = .ok (.iload_n 3, 1) := by decide +kernel
theorem dX0_pieceAt_33 : decode cX0_pieceAt 33 = .ok (.iload 4, 2) := by decide +kernel
theorem dX0_pieceAt_35 : decode cX0_pieceAt 35 = .ok (.invokevirtual 38, 3) := by decide +kernel
theorem dX0_pieceAt_38 : decode cX0_pieceAt 38 = .ok (.istore 4, 2) := by decide +kernel
theorem dX0_pieceAt_40 : decode cX0_pieceAt 40 = .ok (.iload_n 3, 1) := by decide +kernel
theorem dX0_pieceAt_41 : decode cX0_pieceAt 41 = .ok (.iconst 1, 1) := by decide +kernel
theorem dX0_pieceAt_42 : decode cX0_pieceAt 42 = .ok (.iload 4, 2) := by decide +kernel
theorem dX0_pieceAt_44 : decode cX0_pieceAt 44 = .ok (.ishl, 1) := by decide +kernel
theorem dX0_pieceAt_45 : decode cX0_pieceAt 45 = .ok (.ior, 1) := by decide +kernel
theorem dX0_pieceAt_46 : decode cX0_pieceAt 46 = .ok (.istore_n 3, 1) := by decide +kernel
theorem dX0_pieceAt_47 : decode cX0_pieceAt 47 = .ok (.iinc 5 1, 3) := by decide +kernel
theorem dX0_pieceAt_50 : decode cX0_pieceAt 50 = .ok (.goto (-29), 3) := by decide +kernel
theorem dX0_pieceAt_53 : decode cX0_pieceAt 53 = .ok (.iload 4, 2) := by decide +kernel
theorem dX0_pieceAt_55 : decode cX0_pieceAt 55 = .ok (.ireturn, 1) := by decide +kernel
theorem dX0_weigh_0 : decode cX0_weigh 0 = .ok (.iconst 0, 1) := by decide +kernel
theorem dX0_weigh_1 : decode cX0_weigh 1 = .ok (.istore_n 2, 1) := by decide +kernel
theorem dX0_weigh_2 : decode cX0_weigh 2 = .ok (.iload_n 2, 1) := by decide +kernel
theorem dX0_weigh_3 : decode cX0_weigh 3 = .ok (.aload_n 1, 1) := by decide +kernel
theorem dX0_weigh_4 : decode cX0_weigh 4 = .ok (.getfield 24, 3) := by decide +kernel
theorem dX0_weigh_7 : decode cX0_weigh 7 = .ok (.if_icmp .ge 66, 3) := by decide +kernel
theorem dX0_weigh_10 : decode cX0_weigh 10 = .ok (.aload_n 0, 1) := by decide +kernel
theorem dX0_weigh_11 : decode cX0_weigh 11 = .ok (.getfield 15, 3) := by decide +kernel
theorem dX0_weigh_14 : decode cX0_weigh 14 = .ok (.iload_n 2, 1) := by decide +kernel
theorem dX0_weigh_15 : decode cX0_weigh 15 = .ok (.aload_n 1, 1) := by decide +kernel
theorem dX0_weigh_16 : decode cX0_weigh 16 = .ok (.iload_n 2, 1) := by decide +kernel
theorem dX0_weigh_17 : decode cX0_weigh 17 = .ok (.iconst 0, 1) := by decide +kernel
theorem dX0_weigh_18 : decode cX0_weigh 18 = .ok (.invokevirtual 45, 3) := by decide +kernel
theorem dX0_weigh_21 : decode cX0_weigh 21 = .ok (.iastore, 1) := by decide +kernel
theorem dX0_weigh_22 : decode cX0_weigh 22 = .ok (.aload_n 0, 1) := by decide +kernel
theorem dX0_weigh_23 : decode cX0_weigh 23 = .ok (.getfield 18, 3) := by decide +kernel
theorem dX0_weigh_26 : decode cX0_weigh 26 = .ok (.iload_n 2, 1) := by decide +kernel
theorem dX0_weigh_27 : decode cX0_weigh 27 = .ok (.aload_n 1, 1) := by decide +kernel
theorem dX0_weigh_28 : decode cX0_weigh 28 = .ok (.iload_n 2, 1) := by decide +kernel
theorem dX0_weigh_29 : decode cX0_weigh 29 = .ok (.iconst 1, 1) := by decide +kernel
theorem dX0_weigh_30 : decode cX0_weigh 30 = .ok (.invokevirtual 45, 3) := by decide +kernel
theorem dX0_weigh_33 : decode cX0_weigh 33 = .ok (.iastore, 1) := by decide +kernel
theorem dX0_weigh_34 : decode cX0_weigh 34 = .ok (.iconst 0, 1) := by decide +kernel
theorem dX0_weigh_35 : decode cX0_weigh 35 = .ok (.istore_n 3, 1) := by decide +kernel
theorem dX0_weigh_36 : decode cX0_weigh 36 = .ok (.iload_n 3, 1) := by decide +kernel
theorem dX0_weigh_37 : decode cX0_weigh 37 = .ok (.aload_n 1, 1) := by decide +kernel
theorem dX0_weigh_38 : decode cX0_weigh 38 = .ok (.getfield 24, 3) := by decide +kernel
theorem dX0_weigh_41 : decode cX0_weigh 41 = .ok (.if_icmp .ge 26, 3) := by decide +kernel
theorem dX0_weigh_44 : decode cX0_weigh 44 = .ok (.aload_n 0, 1) := by decide +kernel
theorem dX0_weigh_45 : decode cX0_weigh 45 = .ok (.getfield 9, 3) := by decide +kernel
theorem dX0_weigh_48 : decode cX0_weigh 48 = .ok (.iload_n 2, 1) := by decide +kernel
theorem dX0_weigh_49 : decode cX0_weigh 49 = .ok (.bipush 8, 2) := by decide +kernel
theorem dX0_weigh_51 : decode cX0_weigh 51 = .ok (.imul, 1) := by decide +kernel
theorem dX0_weigh_52 : decode cX0_weigh 52 = .ok (.iload_n 3, 1) := by decide +kernel
theorem dX0_weigh_53 : decode cX0_weigh 53 = .ok (.iadd, 1) := by decide +kernel
theorem dX0_weigh_54 : decode cX0_weigh 54 = .ok (.aload_n 1, 1) := by decide +kernel
theorem dX0_weigh_55 : decode cX0_weigh 55 = .ok (.iload_n 2, 1) := by decide +kernel
theorem dX0_weigh_56 : decode cX0_weigh 56 = .ok (.iload_n 3, 1) := by decide +kernel
theorem dX0_weigh_57 : decode cX0_weigh 57 = .ok (.invokevirtual 49, 3) := by decide +kernel
theorem dX0_weigh_60 : decode cX0_weigh 60 = .ok (.iastore, 1) := by decide +kernel
theorem dX0_weigh_61 : decode cX0_weigh 61 = .ok (.iinc 3 1, 3) := by decide +kernel
theorem dX0_weigh_64 : decode cX0_weigh 64 = .ok (.goto (-28), 3) := by decide +kernel
theorem dX0_weigh_67 : decode cX0_weigh 67 = .ok (.iinc 2 1, 3) := by decide +kernel
theorem dX0_weigh_70 : decode cX0_weigh 70 = .ok (.goto (-68), 3) := by decide +kernel
theorem dX0_weigh_73 : decode cX0_weigh 73 = .ok (.return_, 1) := by decide +kernel
theorem dX0_fillRests_0 : decode cX0_fillRests 0 = .ok (.iconst 1, 1) := by decide +kernel
theorem dX0_fillRests_1 : decode cX0_fillRests 1 = .ok (.iload_n 1, 1) := by decide +kernel
theorem dX0_fillRests_2 : decode cX0_fillRests 2 = .ok (.ishl, 1) := by decide +kernel
theorem dX0_fillRests_3 : decode cX0_fillRests 3 = .ok (.iconst 1, 1) := by decide +kernel
theorem dX0_fillRests_4 : decode cX0_fillRests 4 = .ok (.isub, 1) := by decide +kernel
theorem dX0_fillRests_5 : decode cX0_fillRests 5 = .ok (.istore_n 2, 1) := by decide +kernel
theorem dX0_fillRests_6 : decode cX0_fillRests 6 = .ok (.iload_n 2, 1) := by decide +kernel
theorem dX0_fillRests_7 : decode cX0_fillRests 7 = .ok (.istore_n 3, 1) := by decide +kernel
theorem dX0_fillRests_8 : decode cX0_fillRests 8 = .ok (.iload_n 3, 1) := by decide +kernel
theorem dX0_fillRests_9 : decode cX0_fillRests 9 = .ok (.ifCond .le 69, 3) := by decide +kernel
theorem dX0_fillRests_12 : decode cX0_fillRests 12 = .ok (.iconst 0, 1) := by decide +kernel
theorem dX0_fillRests_13 : decode cX0_fillRests 13 = .ok (.istore 4, 2) := by decide +kernel
theorem dX0_fillRests_15 : decode cX0_fillRests 15 = .ok (.iload 4, 2) := by decide +kernel
theorem dX0_fillRests_17 : decode cX0_fillRests 17 = .ok (.iload_n 1, 1) := by decide +kernel
theorem dX0_fillRests_18 : decode cX0_fillRests 18 = .ok (.if_icmp .ge 54, 3) := by decide +kernel
theorem dX0_fillRests_21 : decode cX0_fillRests 21 = .ok (.iload_n 3, 1) := by decide +kernel
theorem dX0_fillRests_22 : decode cX0_fillRests 22 = .ok (.iload 4, 2) := by decide +kernel
theorem dX0_fillRests_24 : decode cX0_fillRests 24 = .ok (.ishr, 1) := by decide +kernel
theorem dX0_fillRests_25 : decode cX0_fillRests 25 = .ok (.iconst 1, 1) := by decide +kernel
theorem dX0_fillRests_26 : decode cX0_fillRests 26 = .ok (.iand, 1) := by decide +kernel
theorem dX0_fillRests_27 : decode cX0_fillRests 27 = .ok (.iconst 1, 1) := by decide +kernel
theorem dX0_fillRests_28 : decode cX0_fillRests 28 = .ok (.if_icmp .ne 38, 3) := by decide +kernel
theorem dX0_fillRests_31 : decode cX0_fillRests 31 = .ok (.aload_n 0, 1) := by decide +kernel
theorem dX0_fillRests_32 : decode cX0_fillRests 32 = .ok (.getfield 21, 3) := by decide +kernel
theorem dX0_fillRests_35 : decode cX0_fillRests 35 = .ok (.iload_n 3, 1) := by decide +kernel
theorem dX0_fillRests_36 : decode cX0_fillRests 36 = .ok (.bipush 8, 2) := by decide +kernel
theorem dX0_fillRests_38 : decode cX0_fillRests 38 = .ok (.imul, 1) := by decide +kernel
theorem dX0_fillRests_39 : decode cX0_fillRests 39 = .ok (.iload 4, 2) := by decide +kernel
theorem dX0_fillRests_41 : decode cX0_fillRests 41 = .ok (.iadd, 1) := by decide +kernel
theorem dX0_fillRests_42 : decode cX0_fillRests 42 = .ok (.iload_n 3, 1) := by decide +kernel
theorem dX0_fillRests_43 : decode cX0_fillRests 43 = .ok (.iload_n 2, 1) := by decide +kernel
theorem dX0_fillRests_44 : decode cX0_fillRests 44 = .ok (.if_icmp .ne 13, 3) := by decide +kernel
theorem dX0_fillRests_47 : decode cX0_fillRests 47 = .ok (.aload_n 0, 1) := by decide +kernel
theorem dX0_fillRests_48 : decode cX0_fillRests 48 = .ok (.getfield 18, 3) := by decide +kernel
theorem dX0_fillRests_51 : decode cX0_fillRests 51 = .ok (.iload 4, 2) := by decide +kernel
theorem dX0_fillRests_53 : decode cX0_fillRests 53 = .ok (.iaload, 1) := by decide +kernel
theorem dX0_fillRests_54 : decode cX0_fillRests 54 = .ok (.goto 11, 3) := by decide +kernel
theorem dX0_fillRests_57 : decode cX0_fillRests 57 = .ok (.aload_n 0, 1) := by decide +kernel
theorem dX0_fillRests_58 : decode cX0_fillRests 58 = .ok (.iload_n 1, 1) := by decide +kernel
theorem dX0_fillRests_59 : decode cX0_fillRests 59 = .ok (.iload_n 3, 1) := by decide +kernel
theorem dX0_fillRests_60 : decode cX0_fillRests 60 = .ok (.iload 4, 2) := by decide +kernel
theorem dX0_fillRests_62 : decode cX0_fillRests 62 = .ok (.invokevirtual 52, 3) := by decide +kernel
theorem dX0_fillRests_65 : decode cX0_fillRests 65 = .ok (.iastore, 1) := by decide +kernel
theorem dX0_fillRests_66 : decode cX0_fillRests 66 = .ok (.iinc 4 1, 3) := by decide +kernel
theorem dX0_fillRests_69 : decode cX0_fillRests 69 = .ok (.goto (-54), 3) := by decide +kernel
theorem dX0_fillRests_72 : decode cX0_fillRests 72 = .ok (.iinc 3 (-1), 3) := by decide +kernel
theorem dX0_fillRests_75 : decode cX0_fillRests 75 = .ok (.goto (-67), 3) := by decide +kernel
theorem dX0_fillRests_78 : decode cX0_fillRests 78 = .ok (.return_, 1) := by decide +kernel
theorem dX0_leastRest_0 : decode cX0_leastRest 0 = .ok (.ldc 55, 2) := by decide +kernel
theorem dX0_leastRest_2 : decode cX0_leastRest 2 = .ok (.istore 4, 2) := by decide +kernel
theorem dX0_leastRest_4 : decode cX0_leastRest 4 = .ok (.iconst 0, 1) := by decide +kernel
theorem dX0_leastRest_5 : decode cX0_leastRest 5 = .ok (.istore 5, 2) := by decide +kernel
theorem dX0_leastRest_7 : decode cX0_leastRest 7 = .ok (.iload 5, 2) := by decide +kernel
theorem dX0_leastRest_9 : decode cX0_leastRest 9 = .ok (.iload_n 1, 1) := by decide +kernel
theorem dX0_leastRest_10 : decode cX0_leastRest 10 = .ok (.if_icmp .ge 33, 3) := by decide +kernel
theorem dX0_leastRest_13 : decode cX0_leastRest 13 = .ok (.iload_n 2, 1) := by decide +kernel
theorem dX0_leastRest_14 : decode cX0_leastRest 14 = .ok (.iload 5, 2) := by decide +kernel
theorem dX0_leastRest_16 : decode cX0_leastRest 16 = .ok (.ishr, 1) := by decide +kernel
theorem dX0_leastRest_17 : decode cX0_leastRest 17 = .ok (.iconst 1, 1) := by decide +kernel
theorem dX0_leastRest_18 : decode cX0_leastRest 18 = .ok (.iand, 1) := by decide +kernel
theorem dX0_leastRest_19 : decode cX0_leastRest 19 = .ok (.ifCond .ne 18, 3) := by decide +kernel
theorem dX0_leastRest_22 : decode cX0_leastRest 22 = .ok (.iload 4, 2) := by decide +kernel
theorem dX0_leastRest_24 : decode cX0_leastRest 24 = .ok (.aload_n 0, 1) := by decide +kernel
theorem dX0_leastRest_25 : decode cX0_leastRest 25 = .ok (.iload_n 2, 1) := by decide +kernel
theorem dX0_leastRest_26 : decode cX0_leastRest 26 = .ok (.iload_n 3, 1) := by decide +kernel
theorem dX0_leastRest_27 : decode cX0_leastRest 27 = .ok (.iload 5, 2) := by decide +kernel
theorem dX0_leastRest_29 : decode cX0_leastRest 29 = .ok (.invokevirtual 42, 3) := by decide +kernel
theorem dX0_leastRest_32 : decode cX0_leastRest 32 = .ok (.invokestatic 56, 3) := by decide +kernel
theorem dX0_leastRest_35 : decode cX0_leastRest 35 = .ok (.istore 4, 2) := by decide +kernel
theorem dX0_leastRest_37 : decode cX0_leastRest 37 = .ok (.iinc 5 1, 3) := by decide +kernel
theorem dX0_leastRest_40 : decode cX0_leastRest 40 = .ok (.goto (-33), 3) := by decide +kernel
theorem dX0_leastRest_43 : decode cX0_leastRest 43 = .ok (.iload 4, 2) := by decide +kernel
theorem dX0_leastRest_45 : decode cX0_leastRest 45 = .ok (.ireturn, 1) := by decide +kernel
theorem dX0_bestNext_0 : decode cX0_bestNext 0 = .ok (.ldc 55, 2) := by decide +kernel
theorem dX0_bestNext_2 : decode cX0_bestNext 2 = .ok (.istore 4, 2) := by decide +kernel
theorem dX0_bestNext_4 : decode cX0_bestNext 4 = .ok (.iconst 0, 1) := by decide +kernel
theorem dX0_bestNext_5 : decode cX0_bestNext 5 = .ok (.istore 5, 2) := by decide +kernel
theorem dX0_bestNext_7 : decode cX0_bestNext 7 = .ok (.iconst 0, 1) := by decide +kernel
theorem dX0_bestNext_8 : decode cX0_bestNext 8 = .ok (.istore 6, 2) := by decide +kernel
theorem dX0_bestNext_10 : decode cX0_bestNext 10 = .ok (.iload 6, 2) := by decide +kernel
theorem dX0_bestNext_12 : decode cX0_bestNext 12 = .ok (.iload_n 1, 1) := by decide +kernel
theorem dX0_bestNext_13 : decode cX0_bestNext 13 = .ok (.if_icmp .ge 43, 3) := by decide +kernel
theorem dX0_bestNext_16 : decode cX0_bestNext 16 = .ok (.iload_n 2, 1) := by decide +kernel
theorem dX0_bestNext_17 : decode cX0_bestNext 17 = .ok (.iload 6, 2) := by decide +kernel
theorem dX0_bestNext_19 : decode cX0_bestNext 19 = .ok (.ishr, 1) := by decide +kernel
theorem dX0_bestNext_20 : decode cX0_bestNext 20 = .ok (.iconst 1, 1) := by decide +kernel
theorem dX0_bestNext_21 : decode cX0_bestNext 21 = .ok (.iand, 1) := by decide +kernel
theorem dX0_bestNext_22 : decode cX0_bestNext 22 = .ok (.ifCond .ne 28, 3) := by decide +kernel
theorem dX0_bestNext_25 : decode cX0_bestNext 25 = .ok (.aload_n 0, 1) := by decide +kernel
theorem dX0_bestNext_26 : decode cX0_bestNext 26 = .ok (.iload_n 2, 1) := by decide +kernel
theorem dX0_bestNext_27 : decode cX0_bestNext 27 = .ok (.iload_n 3, 1) := by decide +kernel
theorem dX0_bestNext_28 : decode cX0_bestNext 28 = .ok (.iload 6, 2) := by decide +kernel
theorem dX0_bestNext_30 : decode cX0_bestNext 30 = .ok (.invokevirtual 42, 3) := by decide +kernel
theorem dX0_bestNext_33 : decode cX0_bestNext 33 = .ok (.istore 7, 2) := by decide +kernel
theorem dX0_bestNext_35 : decode cX0_bestNext 35 = .ok (.iload 7, 2) := by decide +kernel
theorem dX0_bestNext_37 : decode cX0_bestNext 37 = .ok (.iload 4, 2) := by decide +kernel
theorem dX0_bestNext_39 : decode cX0_bestNext 39 = .ok (.if_icmp .ge 11, 3) := by decide +kernel
theorem dX0_bestNext_42 : decode cX0_bestNext 42 = .ok (.iload 7, 2) := by decide +kernel
theorem dX0_bestNext_44 : decode cX0_bestNext 44 = .ok (.istore 4, 2) := by decide +kernel
theorem dX0_bestNext_46 : decode cX0_bestNext 46 = .ok (.iload 6, 2) := by decide +kernel
theorem dX0_bestNext_48 : decode cX0_bestNext 48 = .ok (.istore 5, 2) := by decide +kernel
theorem dX0_bestNext_50 : decode cX0_bestNext 50 = .ok (.iinc 6 1, 3) := by decide +kernel
theorem dX0_bestNext_53 : decode cX0_bestNext 53 = .ok (.goto (-43), 3) := by decide +kernel
theorem dX0_bestNext_56 : decode cX0_bestNext 56 = .ok (.iload 5, 2) := by decide +kernel
theorem dX0_bestNext_58 : decode cX0_bestNext 58 = .ok (.ireturn, 1) := by decide +kernel
theorem dX0_costOfNext_0 : decode cX0_costOfNext 0 = .ok (.iload_n 2, 1) := by decide +kernel
theorem dX0_costOfNext_1 : decode cX0_costOfNext 1 = .ok (.ifCond .ge 12, 3) := by decide +kernel
theorem dX0_costOfNext_4 : decode cX0_costOfNext 4 = .ok (.aload_n 0, 1) := by decide +kernel
theorem dX0_costOfNext_5 : decode cX0_costOfNext 5 = .ok (.getfield 15, 3) := by decide +kernel
theorem dX0_costOfNext_8 : decode cX0_costOfNext 8 = .ok (.iload_n 3, 1) := by decide +kernel
theorem dX0_costOfNext_9 : decode cX0_costOfNext 9 = .ok (.iaload, 1) := by decide +kernel
theorem dX0_costOfNext_10 : decode cX0_costOfNext 10 = .ok (.goto 14, 3) := by decide +kernel
theorem dX0_costOfNext_13 : decode cX0_costOfNext 13 = .ok (.aload_n 0, 1) := by decide +kernel
theorem dX0_costOfNext_14 : decode cX0_costOfNext 14 = .ok (.getfield 9, 3) := by decide +kernel
theorem dX0_costOfNext_17 : decode cX0_costOfNext 17 = .ok (.iload_n 2, 1) := by decide +kernel
theorem dX0_costOfNext_18 : decode cX0_costOfNext 18 = .ok (.bipush 8, 2) := by decide +kernel
theorem dX0_costOfNext_20 : decode cX0_costOfNext 20 = .ok (.imul, 1) := by decide +kernel
theorem dX0_costOfNext_21 : decode cX0_costOfNext 21 = .ok (.iload_n 3, 1) := by decide +kernel
theorem dX0_costOfNext_22 : decode cX0_costOfNext 22 = .ok (.iadd, 1) := by decide +kernel
theorem dX0_costOfNext_23 : decode cX0_costOfNext 23 = .ok (.iaload, 1) := by decide +kernel
theorem dX0_costOfNext_24 : decode cX0_costOfNext 24 = .ok (.istore 4, 2) := by decide +kernel
theorem dX0_costOfNext_26 : decode cX0_costOfNext 26 = .ok (.iload 4, 2) := by decide +kernel
theorem dX0_costOfNext_28 : decode cX0_costOfNext 28 = .ok (.aload_n 0, 1) := by decide +kernel
theorem dX0_costOfNext_29 : decode cX0_costOfNext 29 = .ok (.getfield 21, 3) := by decide +kernel
theorem dX0_costOfNext_32 : decode cX0_costOfNext 32 = .ok (.iload_n 1, 1) := by decide +kernel
theorem dX0_costOfNext_33 : decode cX0_costOfNext 33 = .ok (.iconst 1, 1) := by decide +kernel
theorem dX0_costOfNext_34 : decode cX0_costOfNext 34 = .ok (.iload_n 3, 1) := by decide +kernel
theorem dX0_costOfNext_35 : decode cX0_costOfNext 35 = .ok (.ishl, 1) := by decide +kernel
theorem dX0_costOfNext_36 : decode cX0_costOfNext 36 = .ok (.ior, 1) := by decide +kernel
theorem dX0_costOfNext_37 : decode cX0_costOfNext 37 = .ok (.bipush 8, 2) := by decide +kernel
theorem dX0_costOfNext_39 : decode cX0_costOfNext 39 = .ok (.imul, 1) := by decide +kernel
theorem dX0_costOfNext_40 : decode cX0_costOfNext 40 = .ok (.iload_n 3, 1) := by decide +kernel
theorem dX0_costOfNext_41 : decode cX0_costOfNext 41 = .ok (.iadd, 1) := by decide +kernel
theorem dX0_costOfNext_42 : decode cX0_costOfNext 42 = .ok (.iaload, 1) := by decide +kernel
theorem dX0_costOfNext_43 : decode cX0_costOfNext 43 = .ok (.iadd, 1) := by decide +kernel
theorem dX0_costOfNext_44 : decode cX0_costOfNext 44 = .ok (.ireturn, 1) := by decide +kernel
theorem dX1_init_0 : decode cX1_init 0 = .ok (.aload_n 0, 1) := by decide +kernel
theorem dX1_init_1 : decode cX1_init 1 = .ok (.invokespecial 3, 3) := by decide +kernel
theorem dX1_init_4 : decode cX1_init 4 = .ok (.aload_n 0, 1) := by decide +kernel
theorem dX1_init_5 : decode cX1_init 5 = .ok (.bipush 8, 2) := by decide +kernel
theorem dX1_init_7 : decode cX1_init 7 = .ok (.newarray .int, 2) := by decide +kernel
theorem dX1_init_9 : decode cX1_init 9 = .ok (.putfield 9, 3) := by decide +kernel
theorem dX1_init_12 : decode cX1_init 12 = .ok (.aload_n 0, 1) := by decide +kernel
theorem dX1_init_13 : decode cX1_init 13 = .ok (.bipush 8, 2) := by decide +kernel
theorem dX1_init_15 : decode cX1_init 15 = .ok (.newarray .int, 2) := by decide +kernel
theorem dX1_init_17 : decode cX1_init 17 = .ok (.putfield 15, 3) := by decide +kernel
theorem dX1_init_20 : decode cX1_init 20 = .ok (.aload_n 0, 1) := by decide +kernel
theorem dX1_init_21 : decode cX1_init 21 = .ok (.bipush 8, 2) := by decide +kernel
theorem dX1_init_23 : decode cX1_init 23 = .ok (.newarray .int, 2) := by decide +kernel
theorem dX1_init_25 : decode cX1_init 25 = .ok (.putfield 18, 3) := by decide +kernel
theorem dX1_init_28 : decode cX1_init 28 = .ok (.aload_n 0, 1) := by decide +kernel
theorem dX1_init_29 : decode cX1_init 29 = .ok (.bipush 8, 2) := by decide +kernel
theorem dX1_init_31 : decode cX1_init 31 = .ok (.newarray .int, 2) := by decide +kernel
theorem dX1_init_33 : decode cX1_init 33 = .ok (.putfield 21, 3) := by decide +kernel
theorem dX1_init_36 : decode cX1_init 36 = .ok (.aload_n 0, 1) := by decide +kernel
theorem dX1_init_37 : decode cX1_init 37 = .ok (.bipush 8, 2) := by decide +kernel
theorem dX1_init_39 : decode cX1_init 39 = .ok (.newarray .int, 2) := by decide +kernel
theorem dX1_init_41 : decode cX1_init 41 = .ok (.putfield 24, 3) := by decide +kernel
theorem dX1_init_44 : decode cX1_init 44 = .ok (.aload_n 0, 1) := by decide +kernel
theorem dX1_init_45 : decode cX1_init 45 = .ok (.bipush 6, 2) := by decide +kernel
theorem dX1_init_47 : decode cX1_init 47 = .ok (.newarray .int, 2) := by decide +kernel
theorem dX1_init_49 : decode cX1_init 49 = .ok (.putfield 27, 3) := by decide +kernel
theorem dX1_init_52 : decode cX1_init 52 = .ok (.aload_n 0, 1) := by decide +kernel
theorem dX1_init_53 : decode cX1_init 53 = .ok (.bipush 10, 2) := by decide +kernel
theorem dX1_init_55 : decode cX1_init 55 = .ok (.newarray .int, 2) := by decide +kernel
theorem dX1_init_57 : decode cX1_init 57 = .ok (.putfield 30, 3) := by decide +kernel
theorem dX1_init_60 : decode cX1_init 60 = .ok (.aload_n 0, 1) := by decide +kernel
theorem dX1_init_61 : decode cX1_init 61 = .ok (.iconst 1, 1) := by decide +kernel
theorem dX1_init_62 : decode cX1_init 62 = .ok (.putfield 33, 3) := by decide +kernel
theorem dX1_init_65 : decode cX1_init 65 = .ok (.iconst 0, 1) := by decide +kernel
theorem dX1_init_66 : decode cX1_init 66 = .ok (.istore_n 1, 1) := by decide +kernel
theorem dX1_init_67 : decode cX1_init 67 = .ok (.iload_n 1, 1) := by decide +kernel
theorem dX1_init_68 : decode cX1_init 68 = .ok (.bipush 10, 2) := by decide +kernel
theorem dX1_init_70 : decode cX1_init 70 = .ok (.if_icmp .ge 16, 3) := by decide +kernel
theorem dX1_init_73 : decode cX1_init 73 = .ok (.aload_n 0, 1) := by decide +kernel
theorem dX1_init_74 : decode cX1_init 74 = .ok (.getfield 30, 3) := by decide +kernel
theorem dX1_init_77 : decode cX1_init 77 = .ok (.iload_n 1, 1) := by decide +kernel
theorem dX1_init_78 : decode cX1_init 78 = .ok (.iconst (-1), 1) := by decide +kernel
theorem dX1_init_79 : decode cX1_init 79 = .ok (.iastore, 1) := by decide +kernel
theorem dX1_init_80 : decode cX1_init 80 = .ok (.iinc 1 1, 3) := by decide +kernel
theorem dX1_init_83 : decode cX1_init 83 = .ok (.goto (-16), 3) := by decide +kernel
theorem dX1_init_86 : decode cX1_init 86 = .ok (.return_, 1) := by decide +kernel
theorem dX1_takeFrom_0 : decode cX1_takeFrom 0 = .ok (.aload_n 1, 1) := by decide +kernel
theorem dX1_takeFrom_1 : decode cX1_takeFrom 1 = .ok (.getfield 9, 3) := by decide +kernel
theorem dX1_takeFrom_4 : decode cX1_takeFrom 4 = .ok (.iconst 0, 1) := by decide +kernel
theorem dX1_takeFrom_5 : decode cX1_takeFrom 5 = .ok (.aload_n 0, 1) := by decide +kernel
theorem dX1_takeFrom_6 : decode cX1_takeFrom 6 = .ok (.getfield 9, 3) := by decide +kernel
theorem dX1_takeFrom_9 : decode cX1_takeFrom 9 = .ok (.iconst 0, 1) := by decide +kernel
theorem dX1_takeFrom_10 : decode cX1_takeFrom 10 = .ok (.bipush 8, 2) := by decide +kernel
theorem dX1_takeFrom_12 : decode cX1_takeFrom 12 = .ok (.invokestatic 37, 3) := by decide +kernel
theorem dX1_takeFrom_15 : decode cX1_takeFrom 15 = .ok (.aload_n 1, 1) := by decide +kernel
theorem dX1_takeFrom_16 : decode cX1_takeFrom 16 = .ok (.getfield 15, 3) := by decide +kernel
theorem dX1_takeFrom_19 : decode cX1_takeFrom 19 = .ok (.iconst 0, 1) := by decide +kernel
theorem dX1_takeFrom_20 : decode cX1_takeFrom 20 = .ok (.aload_n 0, 1) := by decide +kernel
theorem dX1_takeFrom_21 : decode cX1_takeFrom 21 = .ok (.getfield 15, 3) := by decide +kernel
theorem dX1_takeFrom_24 : decode cX1_takeFrom 24 = .ok (.iconst 0, 1) := by decide +kernel
theorem dX1_takeFrom_25 : decode cX1_takeFrom 25 = .ok (.bipush 8, 2) := by decide +kernel
theorem dX1_takeFrom_27 : decode cX1_takeFrom 27 = .ok (.invokestatic 37, 3) := by decide +kernel
theorem dX1_takeFrom_30 : decode cX1_takeFrom 30 = .ok (.aload_n 1, 1) := by decide +kernel
theorem dX1_takeFrom_31 : decode cX1_takeFrom 31 = .ok (.getfield 18, 3) := by decide +kernel
theorem dX1_takeFrom_34 : decode cX1_takeFrom 34 = .ok (.iconst 0, 1) := by decide +kernel
theorem dX1_takeFrom_35 : decode cX1_takeFrom 35 = .ok (.aload_n 0, 1) := by decide +kernel
theorem dX1_takeFrom_36 : decode cX1_takeFrom 36 = .ok (.getfield 18, 3) := by decide +kernel
theorem dX1_takeFrom_39 : decode cX1_takeFrom 39 = .ok (.iconst 0, 1) := by decide +kernel
theorem dX1_takeFrom_40 : decode cX1_takeFrom 40 = .ok (.bipush 8, 2) := by decide +kernel
theorem dX1_takeFrom_42 : decode cX1_takeFrom 42 = .ok (.invokestatic 37, 3) := by decide +kernel
theorem dX1_takeFrom_45 : decode cX1_takeFrom 45 = .ok (.aload_n 1, 1) := by decide +kernel
theorem dX1_takeFrom_46 : decode cX1_takeFrom 46 = .ok (.getfield 21, 3) := by decide +kernel
theorem dX1_takeFrom_49 : decode cX1_takeFrom 49 = .ok (.iconst 0, 1) := by decide +kernel
theorem dX1_takeFrom_50 : decode cX1_takeFrom 50 = .ok (.aload_n 0, 1) := by decide +kernel
theorem dX1_takeFrom_51 : decode cX1_takeFrom 51 = .ok (.getfield 21, 3) := by decide +kernel
theorem dX1_takeFrom_54 : decode cX1_takeFrom 54 = .ok (.iconst 0, 1) := by decide +kernel
theorem dX1_takeFrom_55 : decode cX1_takeFrom 55 = .ok (.bipush 8, 2) := by decide +kernel
theorem dX1_takeFrom_57 : decode cX1_takeFrom 57 = .ok (.invokestatic 37, 3) := by decide +kernel
theorem dX1_takeFrom_60 : decode cX1_takeFrom 60 = .ok (.aload_n 1, 1) := by decide +kernel
theorem dX1_takeFrom_61 : decode cX1_takeFrom 61 = .ok (.getfield 24, 3) := by decide +kernel
theorem dX1_takeFrom_64 : decode cX1_takeFrom 64 = .ok (.iconst 0, 1) := by decide +kernel
theorem dX1_takeFrom_65 : decode cX1_takeFrom 65 = .ok (.aload_n 0, 1) := by decide +kernel
theorem dX1_takeFrom_66 : decode cX1_takeFrom 66 = .ok (.getfield 24, 3) := by decide +kernel
theorem dX1_takeFrom_69 : decode cX1_takeFrom 69 = .ok (.iconst 0, 1) := by decide +kernel
theorem dX1_takeFrom_70 : decode cX1_takeFrom 70 = .ok (.bipush 8, 2) := by decide +kernel
theorem dX1_takeFrom_72 : decode cX1_takeFrom 72 = .ok (.invokestatic 37, 3) := by decide +kernel
theorem dX1_takeFrom_75 : decode cX1_takeFrom 75 = .ok (.aload_n 1, 1) := by decide +kernel
theorem dX1_takeFrom_76 : decode cX1_takeFrom 76 = .ok (.getfield 27, 3) := by decide +kernel
theorem dX1_takeFrom_79 : decode cX1_takeFrom 79 = .ok (.iconst 0, 1) := by decide +kernel
theorem dX1_takeFrom_80 : decode cX1_takeFrom 80 = .ok (.aload_n 0, 1) := by decide +kernel
theorem dX1_takeFrom_81 : decode cX1_takeFrom 81 = .ok (.getfield 27, 3) := by decide +kernel
theorem dX1_takeFrom_84 : decode cX1_takeFrom 84 = .ok (.iconst 0, 1) := by decide +kernel
theorem dX1_takeFrom_85 : decode cX1_takeFrom 85 = .ok (.bipush 6, 2) := by decide +kernel
theorem dX1_takeFrom_87 : decode cX1_takeFrom 87 = .ok (.invokestatic 37, 3) := by decide +kernel
theorem dX1_takeFrom_90 : decode cX1_takeFrom 90 = .ok (.aload_n 1, 1) := by decide +kernel
theorem dX1_takeFrom_91 : decode cX1_takeFrom 91 = .ok (.getfield 30, 3) := by decide +kernel
theorem dX1_takeFrom_94 : decode cX1_takeFrom 94 = .ok (.iconst 0, 1) := by decide +kernel
theorem dX1_takeFrom_95 : decode cX1_takeFrom 95 = .ok (.aload_n 0, 1) := by decide +kernel
theorem dX1_takeFrom_96 : decode cX1_takeFrom 96 = .ok (.getfield 30, 3) := by decide +kernel
theorem dX1_takeFrom_99 : decode cX1_takeFrom 99 = .ok (.iconst 0, 1) := by decide +kernel
theorem dX1_takeFrom_100 : decode cX1_takeFrom 100 = .ok (.bipush 10, 2) := by decide +kernel
theorem dX1_takeFrom_102 : decode cX1_takeFrom 102 = .ok (.invokestatic 37, 3) := by decide +kernel
theorem dX1_takeFrom_105 : decode cX1_takeFrom 105 = .ok (.aload_n 0, 1) := by decide +kernel
theorem dX1_takeFrom_106 : decode cX1_takeFrom 106 = .ok (.aload_n 1, 1) := by decide +kernel
theorem dX1_takeFrom_107 : decode cX1_takeFrom 107 = .ok (.getfield 43, 3) := by decide +kernel
theorem dX1_takeFrom_110 : decode cX1_takeFrom 110 = .ok (.putfield 43, 3) := by decide +kernel
theorem dX1_takeFrom_113 : decode cX1_takeFrom 113 = .ok (.aload_n 0, 1) := by decide +kernel
theorem dX1_takeFrom_114 : decode cX1_takeFrom 114 = .ok (.aload_n 1, 1) := by decide +kernel
theorem dX1_takeFrom_115 : decode cX1_takeFrom 115 = .ok (.getfield 46, 3) := by decide +kernel
theorem dX1_takeFrom_118 : decode cX1_takeFrom 118 = .ok (.putfield 46, 3) := by decide +kernel
theorem dX1_takeFrom_121 : decode cX1_takeFrom 121 = .ok (.aload_n 0, 1) := by decide +kernel
theorem dX1_takeFrom_122 : decode cX1_takeFrom 122 = .ok (.aload_n 1, 1) := by decide +kernel
theorem dX1_takeFrom_123 : decode cX1_takeFrom 123 = .ok (.getfield 49, 3) := by decide +kernel
theorem dX1_takeFrom_126 : decode cX1_takeFrom 126 = .ok (.putfield 49, 3) := by decide +kernel
theorem dX1_takeFrom_129 : decode cX1_takeFrom 129 = .ok (.aload_n 0, 1) := by decide +kernel
theorem dX1_takeFrom_130 : decode cX1_takeFrom 130 = .ok (.aload_n 1, 1) := by decide +kernel
theorem dX1_takeFrom_131 : decode cX1_takeFrom 131 = .ok (.getfield 33, 3) := by decide +kernel
theorem dX1_takeFrom_134 : decode cX1_takeFrom 134 = .ok (.putfield 33, 3) := by decide +kernel
theorem dX1_takeFrom_137 : decode cX1_takeFrom 137 = .ok (.return_, 1) := by decide +kernel
theorem dX1_has_0 : decode cX1_has 0 = .ok (.iload_n 1, 1) := by decide +kernel
theorem dX1_has_1 : decode cX1_has 1 = .ok (.ifCond .lt 15, 3) := by decide +kernel
theorem dX1_has_4 : decode cX1_has 4 = .ok (.iload_n 1, 1) := by decide +kernel
theorem dX1_has_5 : decode cX1_has 5 = .ok (.aload_n 0, 1) := by decide +kernel
theorem dX1_has_6 : decode cX1_has 6 = .ok (.getfield 46, 3) := by decide +kernel
theorem dX1_has_9 : decode cX1_has 9 = .ok (.if_icmp .ge 7, 3) := by decide +kernel
theorem dX1_has_12 : decode cX1_has 12 = .ok (.iconst 1, 1) := by decide +kernel
theorem dX1_has_13 : decode cX1_has 13 = .ok (.goto 4, 3) := by decide +kernel
theorem dX1_has_16 : decode cX1_has 16 = .ok (.iconst 0, 1) := by decide +kernel
theorem dX1_has_17 : decode cX1_has 17 = .ok (.ireturn, 1) := by decide +kernel
theorem dX1_addPiece_0 : decode cX1_addPiece 0 = .ok (.aload_n 0, 1) := by decide +kernel
theorem dX1_addPiece_1 : decode cX1_addPiece 1 = .ok (.getfield 46, 3) := by decide +kernel
theorem dX1_addPiece_4 : decode cX1_addPiece 4 = .ok (.istore 4, 2) := by decide +kernel
theorem dX1_addPiece_6 : decode cX1_addPiece 6 = .ok (.aload_n 0, 1) := by decide +kernel
theorem dX1_addPiece_7 : decode cX1_addPiece 7 = .ok (.getfield 9, 3) := by decide +kernel
theorem dX1_addPiece_10 : decode cX1_addPiece 10 = .ok (.iload 4, 2) := by decide +kernel
theorem dX1_addPiece_12 : decode cX1_addPiece 12 = .ok (.iload_n 1, 1) := by decide +kernel
theorem dX1_addPiece_13 : decode cX1_addPiece 13 = .ok (.iastore, 1) := by decide +kernel
theorem dX1_addPiece_14 : decode cX1_addPiece 14 = .ok (.aload_n 0, 1) := by decide +kernel
theorem dX1_addPiece_15 : decode cX1_addPiece 15 = .ok (.getfield 15, 3) := by decide +kernel
theorem dX1_addPiece_18 : decode cX1_addPiece 18 = .ok (.iload 4, 2) := by decide +kernel
theorem dX1_addPiece_20 : decode cX1_addPiece 20 = .ok (.iload_n 2, 1) := by decide +kernel
theorem dX1_addPiece_21 : decode cX1_addPiece 21 = .ok (.iastore, 1) := by decide +kernel
theorem dX1_addPiece_22 : decode cX1_addPiece 22 = .ok (.aload_n 0, 1) := by decide +kernel
theorem dX1_addPiece_23 : decode cX1_addPiece 23 = .ok (.getfield 18, 3) := by decide +kernel
theorem dX1_addPiece_26 : decode cX1_addPiece 26 = .ok (.iload 4, 2) := by decide +kernel
theorem dX1_addPiece_28 : decode cX1_addPiece 28 = .ok (.iload_n 3, 1) := by decide +kernel
theorem dX1_addPiece_29 : decode cX1_addPiece 29 = .ok (.iastore, 1) := by decide +kernel
theorem dX1_addPiece_30 : decode cX1_addPiece 30 = .ok (.aload_n 0, 1) := by decide +kernel
theorem dX1_addPiece_31 : decode cX1_addPiece 31 = .ok (.getfield 21, 3) := by decide +kernel
theorem dX1_addPiece_34 : decode cX1_addPiece 34 = .ok (.iload 4, 2) := by decide +kernel
theorem dX1_addPiece_36 : decode cX1_addPiece 36 = .ok (.iconst (-1), 1) := by decide +kernel
theorem dX1_addPiece_37 : decode cX1_addPiece 37 = .ok (.iastore, 1) := by decide +kernel
theorem dX1_addPiece_38 : decode cX1_addPiece 38 = .ok (.aload_n 0, 1) := by decide +kernel
theorem dX1_addPiece_39 : decode cX1_addPiece 39 = .ok (.getfield 24, 3) := by decide +kernel
theorem dX1_addPiece_42 : decode cX1_addPiece 42 = .ok (.iload 4, 2) := by decide +kernel
theorem dX1_addPiece_44 : decode cX1_addPiece 44 = .ok (.iload 4, 2) := by decide +kernel
theorem dX1_addPiece_46 : decode cX1_addPiece 46 = .ok (.iastore, 1) := by decide +kernel
theorem dX1_addPiece_47 : decode cX1_addPiece 47 = .ok (.aload_n 0, 1) := by decide +kernel
theorem dX1_addPiece_48 : decode cX1_addPiece 48 = .ok (.dup, 1) := by decide +kernel
theorem dX1_addPiece_49 : decode cX1_addPiece 49 = .ok (.getfield 46, 3) := by decide +kernel
theorem dX1_addPiece_52 : decode cX1_addPiece 52 = .ok (.iconst 1, 1) := by decide +kernel
theorem dX1_addPiece_53 : decode cX1_addPiece 53 = .ok (.iadd, 1) := by decide +kernel
theorem dX1_addPiece_54 : decode cX1_addPiece 54 = .ok (.putfield 46, 3) := by decide +kernel
theorem dX1_addPiece_57 : decode cX1_addPiece 57 = .ok (.iload 4, 2) := by decide +kernel
theorem dX1_addPiece_59 : decode cX1_addPiece 59 = .ok (.ireturn, 1) := by decide +kernel
theorem dX1_told_0 : decode cX1_told 0 = .ok (.iload_n 2, 1) := by decide +kernel
theorem dX1_told_1 : decode cX1_told 1 = .ok (.tableswitch 82 0 5 #[39, 46, 53, 60, 67, 76], 39) := by decide +kernel
theorem dX1_told_40 : decode cX1_told 40 = .ok (.aload_n 0, 1) := by decide +kernel
theorem dX1_told_41 : decode cX1_told 41 = .ok (.getfield 9, 3) := by decide +kernel
theorem dX1_told_44 : decode cX1_told 44 = .ok (.iload_n 1, 1) := by decide +kernel
theorem dX1_told_45 : decode cX1_told 45 = .ok (.iaload, 1) := by decide +kernel
theorem dX1_told_46 : decode cX1_told 46 = .ok (.ireturn, 1) := by decide +kernel
theorem dX1_told_47 : decode cX1_told 47 = .ok (.aload_n 0, 1) := by decide +kernel
theorem dX1_told_48 : decode cX1_told 48 = .ok (.getfield 15, 3) := by decide +kernel
theorem dX1_told_51 : decode cX1_told 51 = .ok (.iload_n 1, 1) := by decide +kernel
theorem dX1_told_52 : decode cX1_told 52 = .ok (.iaload, 1) := by decide +kernel
theorem dX1_told_53 : decode cX1_told 53 = .ok (.ireturn, 1) := by decide +kernel
theorem dX1_told_54 : decode cX1_told 54 = .ok (.aload_n 0, 1) := by decide +kernel
theorem dX1_told_55 : decode cX1_told 55 = .ok (.getfield 18, 3) := by decide +kernel
theorem dX1_told_58 : decode cX1_told 58 = .ok (.iload_n 1, 1) := by decide +kernel
theorem dX1_told_59 : decode cX1_told 59 = .ok (.iaload, 1) := by decide +kernel
theorem dX1_told_60 : decode cX1_told 60 = .ok (.ireturn, 1) := by decide +kernel
theorem dX1_told_61 : decode cX1_told 61 = .ok (.aload_n 0, 1) := by decide +kernel
theorem dX1_told_62 : decode cX1_told 62 = .ok (.getfield 21, 3) := by decide +kernel
theorem dX1_told_65 : decode cX1_told 65 = .ok (.iload_n 1, 1) := by decide +kernel
theorem dX1_told_66 : decode cX1_told 66 = .ok (.iaload, 1) := by decide +kernel
theorem dX1_told_67 : decode cX1_told 67 = .ok (.ireturn, 1) := by decide +kernel
theorem dX1_told_68 : decode cX1_told 68 = .ok (.aload_n 0, 1) := by decide +kernel
theorem dX1_told_69 : decode cX1_told 69 = .ok (.getfield 43, 3) := by decide +kernel
theorem dX1_told_72 : decode cX1_told 72 = .ok (.iload_n 1, 1) := by decide +kernel
theorem dX1_told_73 : decode cX1_told 73 = .ok (.ishr, 1) := by decide +kernel
theorem dX1_told_74 : decode cX1_told 74 = .ok (.iconst 1, 1) := by decide +kernel
theorem dX1_told_75 : decode cX1_told 75 = .ok (.iand, 1) := by decide +kernel
theorem dX1_told_76 : decode cX1_told 76 = .ok (.ireturn, 1) := by decide +kernel
theorem dX1_told_77 : decode cX1_told 77 = .ok (.aload_n 0, 1) := by decide +kernel
theorem dX1_told_78 : decode cX1_told 78 = .ok (.iload_n 1, 1) := by decide +kernel
theorem dX1_told_79 : decode cX1_told 79 = .ok (.invokevirtual 52, 3) := by decide +kernel
theorem dX1_told_82 : decode cX1_told 82 = .ok (.ireturn, 1) := by decide +kernel
theorem dX1_told_83 : decode cX1_told 83 = .ok (.aload_n 0, 1) := by decide +kernel
theorem dX1_told_84 : decode cX1_told 84 = .ok (.iload_n 1, 1) := by decide +kernel
theorem dX1_told_85 : decode cX1_told 85 = .ok (.invokevirtual 56, 3) := by decide +kernel
theorem dX1_told_88 : decode cX1_told 88 = .ok (.ireturn, 1) := by decide +kernel
theorem dX1_become_0 : decode cX1_become 0 = .ok (.iload_n 2, 1) := by decide +kernel
theorem dX1_become_1 : decode cX1_become 1 = .ok (.tableswitch 71 0 3 #[31, 41, 51, 61], 31) := by decide +kernel
theorem dX1_become_32 : decode cX1_become 32 = .ok (.aload_n 0, 1) := by decide +kernel
theorem dX1_become_33 : decode cX1_become 33 = .ok (.getfield 9, 3) := by decide +kernel
theorem dX1_become_36 : decode cX1_become 36 = .ok (.iload_n 1, 1) := by decide +kernel
theorem dX1_become_37 : decode cX1_become 37 = .ok (.iload_n 3, 1) := by decide +kernel
theorem dX1_become_38 : decode cX1_become 38 = .ok (.iastore, 1) := by decide +kernel
theorem dX1_become_39 : decode cX1_become 39 = .ok (.goto 51, 3) := by decide +kernel
theorem dX1_become_42 : decode cX1_become 42 = .ok (.aload_n 0, 1) := by decide +kernel
theorem dX1_become_43 : decode cX1_become 43 = .ok (.getfield 15, 3) := by decide +kernel
theorem dX1_become_46 : decode cX1_become 46 = .ok (.iload_n 1, 1) := by decide +kernel
theorem dX1_become_47 : decode cX1_become 47 = .ok (.iload_n 3, 1) := by decide +kernel
theorem dX1_become_48 : decode cX1_become 48 = .ok (.iastore, 1) := by decide +kernel
theorem dX1_become_49 : decode cX1_become 49 = .ok (.goto 41, 3) := by decide +kernel
theorem dX1_become_52 : decode cX1_become 52 = .ok (.aload_n 0, 1) := by decide +kernel
theorem dX1_become_53 : decode cX1_become 53 = .ok (.getfield 18, 3) := by decide +kernel
theorem dX1_become_56 : decode cX1_become 56 = .ok (.iload_n 1, 1) := by decide +kernel
theorem dX1_become_57 : decode cX1_become 57 = .ok (.iload_n 3, 1) := by decide +kernel
theorem dX1_become_58 : decode cX1_become 58 = .ok (.iastore, 1) := by decide +kernel
theorem dX1_become_59 : decode cX1_become 59 = .ok (.goto 31, 3) := by decide +kernel
theorem dX1_become_62 : decode cX1_become 62 = .ok (.aload_n 0, 1) := by decide +kernel
theorem dX1_become_63 : decode cX1_become 63 = .ok (.getfield 21, 3) := by decide +kernel
theorem dX1_become_66 : decode cX1_become 66 = .ok (.iload_n 1, 1) := by decide +kernel
theorem dX1_become_67 : decode cX1_become 67 = .ok (.iload_n 3, 1) := by decide +kernel
theorem dX1_become_68 : decode cX1_become 68 = .ok (.iastore, 1) := by decide +kernel
theorem dX1_become_69 : decode cX1_become 69 = .ok (.goto 21, 3) := by decide +kernel
theorem dX1_become_72 : decode cX1_become 72 = .ok (.aload_n 0, 1) := by decide +kernel
theorem dX1_become_73 : decode cX1_become 73 = .ok (.aload_n 0, 1) := by decide +kernel
theorem dX1_become_74 : decode cX1_become 74 = .ok (.getfield 43, 3) := by decide +kernel
theorem dX1_become_77 : decode cX1_become 77 = .ok (.iconst 1, 1) := by decide +kernel
theorem dX1_become_78 : decode cX1_become 78 = .ok (.iload_n 1, 1) := by decide +kernel
theorem dX1_become_79 : decode cX1_become 79 = .ok (.ishl, 1) := by decide +kernel
theorem dX1_become_80 : decode cX1_become 80 = .ok (.iconst (-1), 1) := by decide +kernel
theorem dX1_become_81 : decode cX1_become 81 = .ok (.ixor, 1) := by decide +kernel
theorem dX1_become_82 : decode cX1_become 82 = .ok (.iand, 1) := by decide +kernel
theorem dX1_become_83 : decode cX1_become 83 = .ok (.iload_n 3, 1) := by decide +kernel
theorem dX1_become_84 : decode cX1_become 84 = .ok (.iload_n 1, 1) := by decide +kernel
theorem dX1_become_85 : decode cX1_become 85 = .ok (.ishl, 1) := by decide +kernel
theorem dX1_become_86 : decode cX1_become 86 = .ok (.ior, 1) := by decide +kernel
theorem dX1_become_87 : decode cX1_become 87 = .ok (.putfield 43, 3) := by decide +kernel
theorem dX1_become_90 : decode cX1_become 90 = .ok (.return_, 1) := by decide +kernel
theorem dX1_placeOf_0 : decode cX1_placeOf 0 = .ok (.iconst 0, 1) := by decide +kernel
theorem dX1_placeOf_1 : decode cX1_placeOf 1 = .ok (.istore_n 2, 1) := by decide +kernel
theorem dX1_placeOf_2 : decode cX1_placeOf 2 = .ok (.iload_n 2, 1) := by decide +kernel
theorem dX1_placeOf_3 : decode cX1_placeOf 3 = .ok (.aload_n 0, 1) := by decide +kernel
theorem dX1_placeOf_4 : decode cX1_placeOf 4 = .ok (.getfield 46, 3) := by decide +kernel
theorem dX1_placeOf_7 : decode cX1_placeOf 7 = .ok (.if_icmp .ge 19, 3) := by decide +kernel
theorem dX1_placeOf_10 : decode cX1_placeOf 10 = .ok (.aload_n 0, 1) := by decide +kernel
theorem dX1_placeOf_11 : decode cX1_placeOf 11 = .ok (.getfield 24, 3) := by decide +kernel
theorem dX1_placeOf_14 : decode cX1_placeOf 14 = .ok (.iload_n 2, 1) := by decide +kernel
theorem dX1_placeOf_15 : decode cX1_placeOf 15 = .ok (.iaload, 1) := by decide +kernel
theorem dX1_placeOf_16 : decode cX1_placeOf 16 = .ok (.iload_n 1, 1) := by decide +kernel
theorem dX1_placeOf_17 : decode cX1_placeOf 17 = .ok (.if_icmp .eq 9, 3) := by decide +kernel
theorem dX1_placeOf_20 : decode cX1_placeOf 20 = .ok (.iinc 2 1, 3) := by decide +kernel
theorem dX1_placeOf_23 : decode cX1_placeOf 23 = .ok (.goto (-21), 3) := by decide +kernel
theorem dX1_placeOf_26 : decode cX1_placeOf 26 = .ok (.iload_n 2, 1) := by decide +kernel
theorem dX1_placeOf_27 : decode cX1_placeOf 27 = .ok (.ireturn, 1) := by decide +kernel
theorem dX1_shownLeft_0 : decode cX1_shownLeft 0 = .ok (.aload_n 0, 1) := by decide +kernel
theorem dX1_shownLeft_1 : decode cX1_shownLeft 1 = .ok (.getfield 43, 3) := by decide +kernel
theorem dX1_shownLeft_4 : decode cX1_shownLeft 4 = .ok (.iload_n 1, 1) := by decide +kernel
theorem dX1_shownLeft_5 : decode cX1_shownLeft 5 = .ok (.ishr, 1) := by decide +kernel
theorem dX1_shownLeft_6 : decode cX1_shownLeft 6 = .ok (.iconst 1, 1) := by decide +kernel
theorem dX1_shownLeft_7 : decode cX1_shownLeft 7 = .ok (.iand, 1) := by decide +kernel
theorem dX1_shownLeft_8 : decode cX1_shownLeft 8 = .ok (.ifCond .ne 12, 3) := by decide +kernel
theorem dX1_shownLeft_11 : decode cX1_shownLeft 11 = .ok (.aload_n 0, 1) := by decide +kernel
theorem dX1_shownLeft_12 : decode cX1_shownLeft 12 = .ok (.getfield 15, 3) := by decide +kernel
theorem dX1_shownLeft_15 : decode cX1_shownLeft 15 = .ok (.iload_n 1, 1) := by decide +kernel
theorem dX1_shownLeft_16 : decode cX1_shownLeft 16 = .ok (.iaload, 1) := by decide +kernel
theorem dX1_shownLeft_17 : decode cX1_shownLeft 17 = .ok (.goto 9, 3) := by decide +kernel
theorem dX1_shownLeft_20 : decode cX1_shownLeft 20 = .ok (.aload_n 0, 1) := by decide +kernel
theorem dX1_shownLeft_21 : decode cX1_shownLeft 21 = .ok (.getfield 18, 3) := by decide +kernel
theorem dX1_shownLeft_24 : decode cX1_shownLeft 24 = .ok (.iload_n 1, 1) := by decide +kernel
theorem dX1_shownLeft_25 : decode cX1_shownLeft 25 = .ok (.iaload, 1) := by decide +kernel
theorem dX1_shownLeft_26 : decode cX1_shownLeft 26 = .ok (.ireturn, 1) := by decide +kernel
theorem dX1_shownRight_0 : decode cX1_shownRight 0 = .ok (.aload_n 0, 1) := by decide +kernel
theorem dX1_shownRight_1 : decode cX1_shownRight 1 = .ok (.getfield 43, 3) := by decide +kernel
theorem dX1_shownRight_4 : decode cX1_shownRight 4 = .ok (.iload_n 1, 1) := by decide +kernel
theorem dX1_shownRight_5 : decode cX1_shownRight 5 = .ok (.ishr, 1) := by decide +kernel
theorem dX1_shownRight_6 : decode cX1_shownRight 6 = .ok (.iconst 1, 1) := by decide +kernel
theorem dX1_shownRight_7 : decode cX1_shownRight 7 = .ok (.iand, 1) := by decide +kernel
theorem dX1_shownRight_8 : decode cX1_shownRight 8 = .ok (.ifCond .ne 12, 3) := by decide +kernel
theorem dX1_shownRight_11 : decode cX1_shownRight 11 = .ok (.aload_n 0, 1) := by decide +kernel
theorem dX1_shownRight_12 : decode cX1_shownRight 12 = .ok (.getfield 18, 3) := by decide +kernel
theorem dX1_shownRight_15 : decode cX1_shownRight 15 = .ok (.iload_n 1, 1) := by decide +kernel
theorem dX1_shownRight_16 : decode cX1_shownRight 16 = .ok (.iaload, 1) := by decide +kernel
theorem dX1_shownRight_17 : decode cX1_shownRight 17 = .ok (.goto 9, 3) := by decide +kernel
theorem dX1_shownRight_20 : decode cX1_shownRight 20 = .ok (.aload_n 0, 1) := by decide +kernel
theorem dX1_shownRight_21 : decode cX1_shownRight 21 = .ok (.getfield 15, 3) := by decide +kernel
theorem dX1_shownRight_24 : decode cX1_shownRight 24 = .ok (.iload_n 1, 1) := by decide +kernel
theorem dX1_shownRight_25 : decode cX1_shownRight 25 = .ok (.iaload, 1) := by decide +kernel
theorem dX1_shownRight_26 : decode cX1_shownRight 26 = .ok (.ireturn, 1) := by decide +kernel
theorem dX1_gapOf_0 : decode cX1_gapOf 0 = .ok (.aload_n 0, 1) := by decide +kernel
theorem dX1_gapOf_1 : decode cX1_gapOf 1 = .ok (.iload_n 1, 1) := by decide +kernel
theorem dX1_gapOf_2 : decode cX1_gapOf 2 = .ok (.invokevirtual 59, 3) := by decide +kernel
theorem dX1_gapOf_5 : decode cX1_gapOf 5 = .ok (.aload_n 0, 1) := by decide +kernel
theorem dX1_gapOf_6 : decode cX1_gapOf 6 = .ok (.iload_n 2, 1) := by decide +kernel
theorem dX1_gapOf_7 : decode cX1_gapOf 7 = .ok (.invokevirtual 62, 3) := by decide +kernel
theorem dX1_gapOf_10 : decode cX1_gapOf 10 = .ok (.isub, 1) := by decide +kernel
theorem dX1_gapOf_11 : decode cX1_gapOf 11 = .ok (.invokestatic 65, 3) := by decide +kernel
theorem dX1_gapOf_14 : decode cX1_gapOf 14 = .ok (.istore_n 3, 1) := by decide +kernel
theorem dX1_gapOf_15 : decode cX1_gapOf 15 = .ok (.iload_n 2, 1) := by decide +kernel
theorem dX1_gapOf_16 : decode cX1_gapOf 16 = .ok (.aload_n 0, 1) := by decide +kernel
theorem dX1_gapOf_17 : decode cX1_gapOf 17 = .ok (.getfield 21, 3) := by decide +kernel
theorem dX1_gapOf_20 : decode cX1_gapOf 20 = .ok (.iload_n 1, 1) := by decide +kernel
theorem dX1_gapOf_21 : decode cX1_gapOf 21 = .ok (.iaload, 1) := by decide +kernel
theorem dX1_gapOf_22 : decode cX1_gapOf 22 = .ok (.if_icmp .ne 7, 3) := by decide +kernel
theorem dX1_gapOf_25 : decode cX1_gapOf 25 = .ok (.iconst 0, 1) := by decide +kernel
theorem dX1_gapOf_26 : decode cX1_gapOf 26 = .ok (.goto 4, 3) := by decide +kernel
theorem dX1_gapOf_29 : decode cX1_gapOf 29 = .ok (.iload_n 3, 1) := by decide +kernel
theorem dX1_gapOf_30 : decode cX1_gapOf 30 = .ok (.istore 4, 2) := by decide +kernel
theorem dX1_gapOf_32 : decode cX1_gapOf 32 = .ok (.aload_n 0, 1) := by decide +kernel
theorem dX1_gapOf_33 : decode cX1_gapOf 33 = .ok (.getfield 9, 3) := by decide +kernel
theorem dX1_gapOf_36 : decode cX1_gapOf 36 = .ok (.iload_n 2, 1) := by decide +kernel
theorem dX1_gapOf_37 : decode cX1_gapOf 37 = .ok (.iaload, 1) := by decide +kernel
theorem dX1_gapOf_38 : decode cX1_gapOf 38 = .ok (.iconst 2, 1) := by decide +kernel
theorem dX1_gapOf_39 : decode cX1_gapOf 39 = .ok (.invokestatic 70, 3) := by decide +kernel
theorem dX1_gapOf_42 : decode cX1_gapOf 42 = .ok (.ifCond .eq 7, 3) := by decide +kernel
theorem dX1_gapOf_45 : decode cX1_gapOf 45 = .ok (.iconst 0, 1) := by decide +kernel
theorem dX1_gapOf_46 : decode cX1_gapOf 46 = .ok (.goto 6, 3) := by decide +kernel
theorem dX1_gapOf_49 : decode cX1_gapOf 49 = .ok (.iload_n 3, 1) := by decide +kernel
theorem dX1_gapOf_50 : decode cX1_gapOf 50 = .ok (.iconst 1, 1) := by decide +kernel
theorem dX1_gapOf_51 : decode cX1_gapOf 51 = .ok (.iadd, 1) := by decide +kernel
theorem dX1_gapOf_52 : decode cX1_gapOf 52 = .ok (.istore 5, 2) := by decide +kernel
theorem dX1_gapOf_54 : decode cX1_gapOf 54 = .ok (.iload 5, 2) := by decide +kernel
theorem dX1_gapOf_56 : decode cX1_gapOf 56 = .ok (.iconst 2, 1) := by decide +kernel
theorem dX1_gapOf_57 : decode cX1_gapOf 57 = .ok (.idiv, 1) := by decide +kernel
theorem dX1_gapOf_58 : decode cX1_gapOf 58 = .ok (.istore 6, 2) := by decide +kernel
theorem dX1_gapOf_60 : decode cX1_gapOf 60 = .ok (.aload_n 0, 1) := by decide +kernel
theorem dX1_gapOf_61 : decode cX1_gapOf 61 = .ok (.getfield 9, 3) := by decide +kernel
theorem dX1_gapOf_64 : decode cX1_gapOf 64 = .ok (.iload_n 1, 1) := by decide +kernel
theorem dX1_gapOf_65 : decode cX1_gapOf 65 = .ok (.iaload, 1) := by decide +kernel
theorem dX1_gapOf_66 : decode cX1_gapOf 66 = .ok (.tableswitch 72 1 6 #[38, 46, 49, 52, 62, 41], 38) := by decide +kernel
theorem dX1_gapOf_104 : decode cX1_gapOf 104 = .ok (.iload 4, 2) := by decide +kernel
theorem dX1_gapOf_106 : decode cX1_gapOf 106 = .ok (.ireturn, 1) := by decide +kernel
theorem dX1_gapOf_107 : decode cX1_gapOf 107 = .ok (.iload 4, 2) := by decide +kernel
theorem dX1_gapOf_109 : decode cX1_gapOf 109 = .ok (.iconst 2, 1) := by decide +kernel
theorem dX1_gapOf_110 : decode cX1_gapOf 110 = .ok (.iadd, 1) := by decide +kernel
theorem dX1_gapOf_111 : decode cX1_gapOf 111 = .ok (.ireturn, 1) := by decide +kernel
theorem dX1_gapOf_112 : decode cX1_gapOf 112 = .ok (.iload 5, 2) := by decide +kernel
theorem dX1_gapOf_114 : decode cX1_gapOf 114 = .ok (.ireturn, 1) := by decide +kernel
theorem dX1_gapOf_115 : decode cX1_gapOf 115 = .ok (.iload 6, 2) := by decide +kernel
theorem dX1_gapOf_117 : decode cX1_gapOf 117 = .ok (.ireturn, 1) := by decide +kernel
theorem dX1_gapOf_118 : decode cX1_gapOf 118 = .ok (.iload 6, 2) := by decide +kernel
theorem dX1_gapOf_120 : decode cX1_gapOf 120 = .ok (.aload_n 0, 1) := by decide +kernel
theorem dX1_gapOf_121 : decode cX1_gapOf 121 = .ok (.getfield 49, 3) := by decide +kernel
theorem dX1_gapOf_124 : decode cX1_gapOf 124 = .ok (.iconst 3, 1) := by decide +kernel
theorem dX1_gapOf_125 : decode cX1_gapOf 125 = .ok (.irem, 1) := by decide +kernel
theorem dX1_gapOf_126 : decode cX1_gapOf 126 = .ok (.iadd, 1) := by decide +kernel
theorem dX1_gapOf_127 : decode cX1_gapOf 127 = .ok (.ireturn, 1) := by decide +kernel
theorem dX1_gapOf_128 : decode cX1_gapOf 128 = .ok (.iload_n 3, 1) := by decide +kernel
theorem dX1_gapOf_129 : decode cX1_gapOf 129 = .ok (.ifCond .le 7, 3) := by decide +kernel
theorem dX1_gapOf_132 : decode cX1_gapOf 132 = .ok (.iconst 1, 1) := by decide +kernel
theorem dX1_gapOf_133 : decode cX1_gapOf 133 = .ok (.goto 4, 3) := by decide +kernel
theorem dX1_gapOf_136 : decode cX1_gapOf 136 = .ok (.iconst 0, 1) := by decide +kernel
theorem dX1_gapOf_137 : decode cX1_gapOf 137 = .ok (.ireturn, 1) := by decide +kernel
theorem dX1_gapOf_138 : decode cX1_gapOf 138 = .ok (.iload_n 3, 1) := by decide +kernel
theorem dX1_gapOf_139 : decode cX1_gapOf 139 = .ok (.ireturn, 1) := by decide +kernel
theorem dX1_edgeOf_0 : decode cX1_edgeOf 0 = .ok (.iload_n 2, 1) := by decide +kernel
theorem dX1_edgeOf_1 : decode cX1_edgeOf 1 = .ok (.ifCond .ne 11, 3) := by decide +kernel
theorem dX1_edgeOf_4 : decode cX1_edgeOf 4 = .ok (.aload_n 0, 1) := by decide +kernel
theorem dX1_edgeOf_5 : decode cX1_edgeOf 5 = .ok (.iload_n 1, 1) := by decide +kernel
theorem dX1_edgeOf_6 : decode cX1_edgeOf 6 = .ok (.invokevirtual 62, 3) := by decide +kernel
theorem dX1_edgeOf_9 : decode cX1_edgeOf 9 = .ok (.goto 8, 3) := by decide +kernel
theorem dX1_edgeOf_12 : decode cX1_edgeOf 12 = .ok (.aload_n 0, 1) := by decide +kernel
theorem dX1_edgeOf_13 : decode cX1_edgeOf 13 = .ok (.iload_n 1, 1) := by decide +kernel
theorem dX1_edgeOf_14 : decode cX1_edgeOf 14 = .ok (.invokevirtual 59, 3) := by decide +kernel
theorem dX1_edgeOf_17 : decode cX1_edgeOf 17 = .ok (.istore_n 3, 1) := by decide +kernel
theorem dX1_edgeOf_18 : decode cX1_edgeOf 18 = .ok (.aload_n 0, 1) := by decide +kernel
theorem dX1_edgeOf_19 : decode cX1_edgeOf 19 = .ok (.getfield 9, 3) := by decide +kernel
theorem dX1_edgeOf_22 : decode cX1_edgeOf 22 = .ok (.iload_n 1, 1) := by decide +kernel
theorem dX1_edgeOf_23 : decode cX1_edgeOf 23 = .ok (.iaload, 1) := by decide +kernel
theorem dX1_edgeOf_24 : decode cX1_edgeOf 24 = .ok (.tableswitch 53 2 6 #[38, 38, 42, 48, 36], 36) := by decide +kernel
theorem dX1_edgeOf_60 : decode cX1_edgeOf 60 = .ok (.iconst 0, 1) := by decide +kernel
theorem dX1_edgeOf_61 : decode cX1_edgeOf 61 = .ok (.ireturn, 1) := by decide +kernel
theorem dX1_edgeOf_62 : decode cX1_edgeOf 62 = .ok (.iload_n 3, 1) := by decide +kernel
theorem dX1_edgeOf_63 : decode cX1_edgeOf 63 = .ok (.iconst 2, 1) := by decide +kernel
theorem dX1_edgeOf_64 : decode cX1_edgeOf 64 = .ok (.idiv, 1) := by decide +kernel
theorem dX1_edgeOf_65 : decode cX1_edgeOf 65 = .ok (.ireturn, 1) := by decide +kernel
theorem dX1_edgeOf_66 : decode cX1_edgeOf 66 = .ok (.iload_n 3, 1) := by decide +kernel
theorem dX1_edgeOf_67 : decode cX1_edgeOf 67 = .ok (.iconst 2, 1) := by decide +kernel
theorem dX1_edgeOf_68 : decode cX1_edgeOf 68 = .ok (.idiv, 1) := by decide +kernel
theorem dX1_edgeOf_69 : decode cX1_edgeOf 69 = .ok (.iconst 1, 1) := by decide +kernel
theorem dX1_edgeOf_70 : decode cX1_edgeOf 70 = .ok (.iadd, 1) := by decide +kernel
theorem dX1_edgeOf_71 : decode cX1_edgeOf 71 = .ok (.ireturn, 1) := by decide +kernel
theorem dX1_edgeOf_72 : decode cX1_edgeOf 72 = .ok (.bipush 9, 2) := by decide +kernel
theorem dX1_edgeOf_74 : decode cX1_edgeOf 74 = .ok (.iload_n 3, 1) := by decide +kernel
theorem dX1_edgeOf_75 : decode cX1_edgeOf 75 = .ok (.isub, 1) := by decide +kernel
theorem dX1_edgeOf_76 : decode cX1_edgeOf 76 = .ok (.ireturn, 1) := by decide +kernel
theorem dX1_edgeOf_77 : decode cX1_edgeOf 77 = .ok (.iload_n 3, 1) := by decide +kernel
theorem dX1_edgeOf_78 : decode cX1_edgeOf 78 = .ok (.ireturn, 1) := by decide +kernel
theorem dX1_growsOf_0 : decode cX1_growsOf 0 = .ok (.iconst 1, 1) := by decide +kernel
theorem dX1_growsOf_1 : decode cX1_growsOf 1 = .ok (.istore_n 2, 1) := by decide +kernel
theorem dX1_growsOf_2 : decode cX1_growsOf 2 = .ok (.iload_n 2, 1) := by decide +kernel
theorem dX1_growsOf_3 : decode cX1_growsOf 3 = .ok (.iconst 2, 1) := by decide +kernel
theorem dX1_growsOf_4 : decode cX1_growsOf 4 = .ok (.iadd, 1) := by decide +kernel
theorem dX1_growsOf_5 : decode cX1_growsOf 5 = .ok (.istore_n 3, 1) := by decide +kernel
theorem dX1_growsOf_6 : decode cX1_growsOf 6 = .ok (.iload_n 3, 1) := by decide +kernel
theorem dX1_growsOf_7 : decode cX1_growsOf 7 = .ok (.iconst 1, 1) := by decide +kernel
theorem dX1_growsOf_8 : decode cX1_growsOf 8 = .ok (.iadd, 1) := by decide +kernel
theorem dX1_growsOf_9 : decode cX1_growsOf 9 = .ok (.istore 4, 2) := by decide +kernel
theorem dX1_growsOf_11 : decode cX1_growsOf 11 = .ok (.aload_n 0, 1) := by decide +kernel
theorem dX1_growsOf_12 : decode cX1_growsOf 12 = .ok (.getfield 9, 3) := by decide +kernel
theorem dX1_growsOf_15 : decode cX1_growsOf 15 = .ok (.iload_n 1, 1) := by decide +kernel
theorem dX1_growsOf_16 : decode cX1_growsOf 16 = .ok (.iaload, 1) := by decide +kernel
theorem dX1_growsOf_17 : decode cX1_growsOf 17 = .ok (.tableswitch 55 1 6 #[39, 43, 45, 48, 53, 39], 39) := by decide +kernel
theorem dX1_growsOf_56 : decode cX1_growsOf 56 = .ok (.iload_n 2, 1) := by decide +kernel
theorem dX1_growsOf_57 : decode cX1_growsOf 57 = .ok (.iconst 1, 1) := by decide +kernel
theorem dX1_growsOf_58 : decode cX1_growsOf 58 = .ok (.isub, 1) := by decide +kernel
theorem dX1_growsOf_59 : decode cX1_growsOf 59 = .ok (.ireturn, 1) := by decide +kernel
theorem dX1_growsOf_60 : decode cX1_growsOf 60 = .ok (.iload_n 3, 1) := by decide +kernel
theorem dX1_growsOf_61 : decode cX1_growsOf 61 = .ok (.ireturn, 1) := by decide +kernel
theorem dX1_growsOf_62 : decode cX1_growsOf 62 = .ok (.iload 4, 2) := by decide +kernel
theorem dX1_growsOf_64 : decode cX1_growsOf 64 = .ok (.ireturn, 1) := by decide +kernel
theorem dX1_growsOf_65 : decode cX1_growsOf 65 = .ok (.iconst 2, 1) := by decide +kernel
theorem dX1_growsOf_66 : decode cX1_growsOf 66 = .ok (.iload 4, 2) := by decide +kernel
theorem dX1_growsOf_68 : decode cX1_growsOf 68 = .ok (.imul, 1) := by decide +kernel
theorem dX1_growsOf_69 : decode cX1_growsOf 69 = .ok (.ireturn, 1) := by decide +kernel
theorem dX1_growsOf_70 : decode cX1_growsOf 70 = .ok (.iconst 0, 1) := by decide +kernel
theorem dX1_growsOf_71 : decode cX1_growsOf 71 = .ok (.ireturn, 1) := by decide +kernel
theorem dX1_growsOf_72 : decode cX1_growsOf 72 = .ok (.iload_n 2, 1) := by decide +kernel
theorem dX1_growsOf_73 : decode cX1_growsOf 73 = .ok (.ireturn, 1) := by decide +kernel
theorem dX1_gapBehind_0 : decode cX1_gapBehind 0 = .ok (.aload_n 0, 1) := by decide +kernel
theorem dX1_gapBehind_1 : decode cX1_gapBehind 1 = .ok (.aload_n 0, 1) := by decide +kernel
theorem dX1_gapBehind_2 : decode cX1_gapBehind 2 = .ok (.getfield 24, 3) := by decide +kernel
theorem dX1_gapBehind_5 : decode cX1_gapBehind 5 = .ok (.iload_n 1, 1) := by decide +kernel
theorem dX1_gapBehind_6 : decode cX1_gapBehind 6 = .ok (.iaload, 1) := by decide +kernel
theorem dX1_gapBehind_7 : decode cX1_gapBehind 7 = .ok (.aload_n 0, 1) := by decide +kernel
theorem dX1_gapBehind_8 : decode cX1_gapBehind 8 = .ok (.getfield 24, 3) := by decide +kernel
theorem dX1_gapBehind_11 : decode cX1_gapBehind 11 = .ok (.iload_n 1, 1) := by decide +kernel
theorem dX1_gapBehind_12 : decode cX1_gapBehind 12 = .ok (.iconst 1, 1) := by decide +kernel
theorem dX1_gapBehind_13 : decode cX1_gapBehind 13 = .ok (.iadd, 1) := by decide +kernel
theorem dX1_gapBehind_14 : decode cX1_gapBehind 14 = .ok (.iaload, 1) := by decide +kernel
theorem dX1_gapBehind_15 : decode cX1_gapBehind 15 = .ok (.invokevirtual 74, 3) := by decide +kernel
theorem dX1_gapBehind_18 : decode cX1_gapBehind 18 = .ok (.ireturn, 1) := by decide +kernel
theorem dX1_sumOfRow_0 : decode cX1_sumOfRow 0 = .ok (.aload_n 0, 1) := by decide +kernel
theorem dX1_sumOfRow_1 : decode cX1_sumOfRow 1 = .ok (.getfield 46, 3) := by decide +kernel
theorem dX1_sumOfRow_4 : decode cX1_sumOfRow 4 = .ok (.ifCond .ne 5, 3) := by decide +kernel
theorem dX1_sumOfRow_7 : decode cX1_sumOfRow 7 = .ok (.iconst 0, 1) := by decide +kernel
theorem dX1_sumOfRow_8 : decode cX1_sumOfRow 8 = .ok (.ireturn, 1) := by decide +kernel
theorem dX1_sumOfRow_9 : decode cX1_sumOfRow 9 = .ok (.aload_n 0, 1) := by decide +kernel
theorem dX1_sumOfRow_10 : decode cX1_sumOfRow 10 = .ok (.aload_n 0, 1) := by decide +kernel
theorem dX1_sumOfRow_11 : decode cX1_sumOfRow 11 = .ok (.getfield 24, 3) := by decide +kernel
theorem dX1_sumOfRow_14 : decode cX1_sumOfRow 14 = .ok (.iconst 0, 1) := by decide +kernel
theorem dX1_sumOfRow_15 : decode cX1_sumOfRow 15 = .ok (.iaload, 1) := by decide +kernel
theorem dX1_sumOfRow_16 : decode cX1_sumOfRow 16 = .ok (.iconst 0, 1) := by decide +kernel
theorem dX1_sumOfRow_17 : decode cX1_sumOfRow 17 = .ok (.invokevirtual 78, 3) := by decide +kernel
theorem dX1_sumOfRow_20 : decode cX1_sumOfRow 20 = .ok (.aload_n 0, 1) := by decide +kernel
theorem dX1_sumOfRow_21 : decode cX1_sumOfRow 21 = .ok (.aload_n 0, 1) := by decide +kernel
theorem dX1_sumOfRow_22 : decode cX1_sumOfRow 22 = .ok (.getfield 24, 3) := by decide +kernel
theorem dX1_sumOfRow_25 : decode cX1_sumOfRow 25 = .ok (.aload_n 0, 1) := by decide +kernel
theorem dX1_sumOfRow_26 : decode cX1_sumOfRow 26 = .ok (.getfield 46, 3) := by decide +kernel
theorem dX1_sumOfRow_29 : decode cX1_sumOfRow 29 = .ok (.iconst 1, 1) := by decide +kernel
theorem dX1_sumOfRow_30 : decode cX1_sumOfRow 30 = .ok (.isub, 1) := by decide +kernel
theorem dX1_sumOfRow_31 : decode cX1_sumOfRow 31 = .ok (.iaload, 1) := by decide +kernel
theorem dX1_sumOfRow_32 : decode cX1_sumOfRow 32 = .ok (.iconst 1, 1) := by decide +kernel
theorem dX1_sumOfRow_33 : decode cX1_sumOfRow 33 = .ok (.invokevirtual 78, 3) := by decide +kernel
theorem dX1_sumOfRow_36 : decode cX1_sumOfRow 36 = .ok (.iadd, 1) := by decide +kernel
theorem dX1_sumOfRow_37 : decode cX1_sumOfRow 37 = .ok (.istore_n 1, 1) := by decide +kernel
theorem dX1_sumOfRow_38 : decode cX1_sumOfRow 38 = .ok (.iconst 0, 1) := by decide +kernel
theorem dX1_sumOfRow_39 : decode cX1_sumOfRow 39 = .ok (.istore_n 2, 1) := by decide +kernel
theorem dX1_sumOfRow_40 : decode cX1_sumOfRow 40 = .ok (.iload_n 2, 1) := by decide +kernel
theorem dX1_sumOfRow_41 : decode cX1_sumOfRow 41 = .ok (.iconst 1, 1) := by decide +kernel
theorem dX1_sumOfRow_42 : decode cX1_sumOfRow 42 = .ok (.iadd, 1) := by decide +kernel
theorem dX1_sumOfRow_43 : decode cX1_sumOfRow 43 = .ok (.aload_n 0, 1) := by decide +kernel
theorem dX1_sumOfRow_44 : decode cX1_sumOfRow 44 = .ok (.getfield 46, 3) := by decide +kernel
theorem dX1_sumOfRow_47 : decode cX1_sumOfRow 47 = .ok (.if_icmp .ge 17, 3) := by decide +kernel
theorem dX1_sumOfRow_50 : decode cX1_sumOfRow 50 = .ok (.iload_n 1, 1) := by decide +kernel
theorem dX1_sumOfRow_51 : decode cX1_sumOfRow 51 = .ok (.aload_n 0, 1) := by decide +kernel
theorem dX1_sumOfRow_52 : decode cX1_sumOfRow 52 = .ok (.iload_n 2, 1) := by decide +kernel
theorem dX1_sumOfRow_53 : decode cX1_sumOfRow 53 = .ok (.invokevirtual 81, 3) := by decide +kernel
theorem dX1_sumOfRow_56 : decode cX1_sumOfRow 56 = .ok (.iadd, 1) := by decide +kernel
theorem dX1_sumOfRow_57 : decode cX1_sumOfRow 57 = .ok (.istore_n 1, 1) := by decide +kernel
theorem dX1_sumOfRow_58 : decode cX1_sumOfRow 58 = .ok (.iinc 2 1, 3) := by decide +kernel
theorem dX1_sumOfRow_61 : decode cX1_sumOfRow 61 = .ok (.goto (-21), 3) := by decide +kernel
theorem dX1_sumOfRow_64 : decode cX1_sumOfRow 64 = .ok (.iload_n 1, 1) := by decide +kernel
theorem dX1_sumOfRow_65 : decode cX1_sumOfRow 65 = .ok (.ireturn, 1) := by decide +kernel
theorem dX1_exchange_0 : decode cX1_exchange 0 = .ok (.aload_n 0, 1) := by decide +kernel
theorem dX1_exchange_1 : decode cX1_exchange 1 = .ok (.iload_n 1, 1) := by decide +kernel
theorem dX1_exchange_2 : decode cX1_exchange 2 = .ok (.invokevirtual 84, 3) := by decide +kernel
theorem dX1_exchange_5 : decode cX1_exchange 5 = .ok (.ifCond .eq 37, 3) := by decide +kernel
theorem dX1_exchange_8 : decode cX1_exchange 8 = .ok (.aload_n 0, 1) := by decide +kernel
theorem dX1_exchange_9 : decode cX1_exchange 9 = .ok (.iload_n 2, 1) := by decide +kernel
theorem dX1_exchange_10 : decode cX1_exchange 10 = .ok (.invokevirtual 84, 3) := by decide +kernel
theorem dX1_exchange_13 : decode cX1_exchange 13 = .ok (.ifCond .eq 29, 3) := by decide +kernel
theorem dX1_exchange_16 : decode cX1_exchange 16 = .ok (.aload_n 0, 1) := by decide +kernel
theorem dX1_exchange_17 : decode cX1_exchange 17 = .ok (.getfield 24, 3) := by decide +kernel
theorem dX1_exchange_20 : decode cX1_exchange 20 = .ok (.iload_n 1, 1) := by decide +kernel
theorem dX1_exchange_21 : decode cX1_exchange 21 = .ok (.iaload, 1) := by decide +kernel
theorem dX1_exchange_22 : decode cX1_exchange 22 = .ok (.istore_n 3, 1) := by decide +kernel
theorem dX1_exchange_23 : decode cX1_exchange 23 = .ok (.aload_n 0, 1) := by decide +kernel
theorem dX1_exchange_24 : decode cX1_exchange 24 = .ok (.getfield 24, 3) := by decide +kernel
theorem dX1_exchange_27 : decode cX1_exchange 27 = .ok (.iload_n 1, 1) := by decide +kernel
theorem dX1_exchange_28 : decode cX1_exchange 28 = .ok (.aload_n 0, 1) := by decide +kernel
theorem dX1_exchange_29 : decode cX1_exchange 29 = .ok (.getfield 24, 3) := by decide +kernel
theorem dX1_exchange_32 : decode cX1_exchange 32 = .ok (.iload_n 2, 1) := by decide +kernel
theorem dX1_exchange_33 : decode cX1_exchange 33 = .ok (.iaload, 1) := by decide +kernel
theorem dX1_exchange_34 : decode cX1_exchange 34 = .ok (.iastore, 1) := by decide +kernel
theorem dX1_exchange_35 : decode cX1_exchange 35 = .ok (.aload_n 0, 1) := by decide +kernel
theorem dX1_exchange_36 : decode cX1_exchange 36 = .ok (.getfield 24, 3) := by decide +kernel
theorem dX1_exchange_39 : decode cX1_exchange 39 = .ok (.iload_n 2, 1) := by decide +kernel
theorem dX1_exchange_40 : decode cX1_exchange 40 = .ok (.iload_n 3, 1) := by decide +kernel
theorem dX1_exchange_41 : decode cX1_exchange 41 = .ok (.iastore, 1) := by decide +kernel
theorem dX1_exchange_42 : decode cX1_exchange 42 = .ok (.return_, 1) := by decide +kernel
theorem dX1_passYears_0 : decode cX1_passYears 0 = .ok (.iconst 0, 1) := by decide +kernel
theorem dX1_passYears_1 : decode cX1_passYears 1 = .ok (.istore_n 2, 1) := by decide +kernel
theorem dX1_passYears_2 : decode cX1_passYears 2 = .ok (.iload_n 2, 1) := by decide +kernel
theorem dX1_passYears_3 : decode cX1_passYears 3 = .ok (.iload_n 1, 1) := by decide +kernel
theorem dX1_passYears_4 : decode cX1_passYears 4 = .ok (.if_icmp .ge 13, 3) := by decide +kernel
theorem dX1_passYears_7 : decode cX1_passYears 7 = .ok (.aload_n 0, 1) := by decide +kernel
theorem dX1_passYears_8 : decode cX1_passYears 8 = .ok (.invokevirtual 88, 3) := by decide +kernel
theorem dX1_passYears_11 : decode cX1_passYears 11 = .ok (.iinc 2 1, 3) := by decide +kernel
theorem dX1_passYears_14 : decode cX1_passYears 14 = .ok (.goto (-12), 3) := by decide +kernel
theorem dX1_passYears_17 : decode cX1_passYears 17 = .ok (.return_, 1) := by decide +kernel
theorem dX1_passYear_0 : decode cX1_passYear 0 = .ok (.aload_n 0, 1) := by decide +kernel
theorem dX1_passYear_1 : decode cX1_passYear 1 = .ok (.getfield 27, 3) := by decide +kernel
theorem dX1_passYear_4 : decode cX1_passYear 4 = .ok (.aload_n 0, 1) := by decide +kernel
theorem dX1_passYear_5 : decode cX1_passYear 5 = .ok (.getfield 49, 3) := by decide +kernel
theorem dX1_passYear_8 : decode cX1_passYear 8 = .ok (.bipush 6, 2) := by decide +kernel
theorem dX1_passYear_10 : decode cX1_passYear 10 = .ok (.irem, 1) := by decide +kernel
theorem dX1_passYear_11 : decode cX1_passYear 11 = .ok (.iaload, 1) := by decide +kernel
theorem dX1_passYear_12 : decode cX1_passYear 12 = .ok (.istore_n 1, 1) := by decide +kernel
theorem dX1_passYear_13 : decode cX1_passYear 13 = .ok (.aload_n 0, 1) := by decide +kernel
theorem dX1_passYear_14 : decode cX1_passYear 14 = .ok (.iload_n 1, 1) := by decide +kernel
theorem dX1_passYear_15 : decode cX1_passYear 15 = .ok (.bipush 10, 2) := by decide +kernel
theorem dX1_passYear_17 : decode cX1_passYear 17 = .ok (.idiv, 1) := by decide +kernel
theorem dX1_passYear_18 : decode cX1_passYear 18 = .ok (.iload_n 1, 1) := by decide +kernel
theorem dX1_passYear_19 : decode cX1_passYear 19 = .ok (.bipush 10, 2) := by decide +kernel
theorem dX1_passYear_21 : decode cX1_passYear 21 = .ok (.irem, 1) := by decide +kernel
theorem dX1_passYear_22 : decode cX1_passYear 22 = .ok (.invokevirtual 91, 3) := by decide +kernel
theorem dX1_passYear_25 : decode cX1_passYear 25 = .ok (.aload_n 0, 1) := by decide +kernel
theorem dX1_passYear_26 : decode cX1_passYear 26 = .ok (.getfield 49, 3) := by decide +kernel
theorem dX1_passYear_29 : decode cX1_passYear 29 = .ok (.iconst 3, 1) := by decide +kernel
theorem dX1_passYear_30 : decode cX1_passYear 30 = .ok (.irem, 1) := by decide +kernel
theorem dX1_passYear_31 : decode cX1_passYear 31 = .ok (.iconst 2, 1) := by decide +kernel
theorem dX1_passYear_32 : decode cX1_passYear 32 = .ok (.if_icmp .ne 7, 3) := by decide +kernel
theorem dX1_passYear_35 : decode cX1_passYear 35 = .ok (.aload_n 0, 1) := by decide +kernel
theorem dX1_passYear_36 : decode cX1_passYear 36 = .ok (.invokevirtual 95, 3) := by decide +kernel
theorem dX1_passYear_39 : decode cX1_passYear 39 = .ok (.aload_n 0, 1) := by decide +kernel
theorem dX1_passYear_40 : decode cX1_passYear 40 = .ok (.getfield 49, 3) := by decide +kernel
theorem dX1_passYear_43 : decode cX1_passYear 43 = .ok (.ldc 98, 2) := by decide +kernel
theorem dX1_passYear_45 : decode cX1_passYear 45 = .ok (.if_icmp .ge 13, 3) := by decide +kernel
theorem dX1_passYear_48 : decode cX1_passYear 48 = .ok (.aload_n 0, 1) := by decide +kernel
theorem dX1_passYear_49 : decode cX1_passYear 49 = .ok (.dup, 1) := by decide +kernel
theorem dX1_passYear_50 : decode cX1_passYear 50 = .ok (.getfield 49, 3) := by decide +kernel
theorem dX1_passYear_53 : decode cX1_passYear 53 = .ok (.iconst 1, 1) := by decide +kernel
theorem dX1_passYear_54 : decode cX1_passYear 54 = .ok (.iadd, 1) := by decide +kernel
theorem dX1_passYear_55 : decode cX1_passYear 55 = .ok (.putfield 49, 3) := by decide +kernel
theorem dX1_passYear_58 : decode cX1_passYear 58 = .ok (.return_, 1) := by decide +kernel
theorem dX1_cut_0 : decode cX1_cut 0 = .ok (.iconst 0, 1) := by decide +kernel
theorem dX1_cut_1 : decode cX1_cut 1 = .ok (.istore_n 1, 1) := by decide +kernel
theorem dX1_cut_2 : decode cX1_cut 2 = .ok (.iload_n 1, 1) := by decide +kernel
theorem dX1_cut_3 : decode cX1_cut 3 = .ok (.aload_n 0, 1) := by decide +kernel
theorem dX1_cut_4 : decode cX1_cut 4 = .ok (.getfield 46, 3) := by decide +kernel
theorem dX1_cut_7 : decode cX1_cut 7 = .ok (.if_icmp .ge 30, 3) := by decide +kernel
theorem dX1_cut_10 : decode cX1_cut 10 = .ok (.aload_n 0, 1) := by decide +kernel
theorem dX1_cut_11 : decode cX1_cut 11 = .ok (.getfield 15, 3) := by decide +kernel
theorem dX1_cut_14 : decode cX1_cut 14 = .ok (.iload_n 1, 1) := by decide +kernel
theorem dX1_cut_15 : decode cX1_cut 15 = .ok (.aload_n 0, 1) := by decide +kernel
theorem dX1_cut_16 : decode cX1_cut 16 = .ok (.getfield 15, 3) := by decide +kernel
theorem dX1_cut_19 : decode cX1_cut 19 = .ok (.iload_n 1, 1) := by decide +kernel
theorem dX1_cut_20 : decode cX1_cut 20 = .ok (.iaload, 1) := by decide +kernel
theorem dX1_cut_21 : decode cX1_cut 21 = .ok (.aload_n 0, 1) := by decide +kernel
theorem dX1_cut_22 : decode cX1_cut 22 = .ok (.iload_n 1, 1) := by decide +kernel
theorem dX1_cut_23 : decode cX1_cut 23 = .ok (.invokevirtual 56, 3) := by decide +kernel
theorem dX1_cut_26 : decode cX1_cut 26 = .ok (.iadd, 1) := by decide +kernel
theorem dX1_cut_27 : decode cX1_cut 27 = .ok (.bipush 10, 2) := by decide +kernel
theorem dX1_cut_29 : decode cX1_cut 29 = .ok (.irem, 1) := by decide +kernel
theorem dX1_cut_30 : decode cX1_cut 30 = .ok (.iastore, 1) := by decide +kernel
theorem dX1_cut_31 : decode cX1_cut 31 = .ok (.iinc 1 1, 3) := by decide +kernel
theorem dX1_cut_34 : decode cX1_cut 34 = .ok (.goto (-32), 3) := by decide +kernel
theorem dX1_cut_37 : decode cX1_cut 37 = .ok (.return_, 1) := by decide +kernel
theorem dX1_draw_0 : decode cX1_draw 0 = .ok (.aload_n 0, 1) := by decide +kernel
theorem dX1_draw_1 : decode cX1_draw 1 = .ok (.aload_n 0, 1) := by decide +kernel
theorem dX1_draw_2 : decode cX1_draw 2 = .ok (.getfield 33, 3) := by decide +kernel
theorem dX1_draw_5 : decode cX1_draw 5 = .ok (.ldc 99, 2) := by decide +kernel
theorem dX1_draw_7 : decode cX1_draw 7 = .ok (.imul, 1) := by decide +kernel
theorem dX1_draw_8 : decode cX1_draw 8 = .ok (.sipush 12345, 3) := by decide +kernel
theorem dX1_draw_11 : decode cX1_draw 11 = .ok (.iadd, 1) := by decide +kernel
theorem dX1_draw_12 : decode cX1_draw 12 = .ok (.putfield 33, 3) := by decide +kernel
theorem dX1_draw_15 : decode cX1_draw 15 = .ok (.aload_n 0, 1) := by decide +kernel
theorem dX1_draw_16 : decode cX1_draw 16 = .ok (.getfield 33, 3) := by decide +kernel
theorem dX1_draw_19 : decode cX1_draw 19 = .ok (.bipush 8, 2) := by decide +kernel
theorem dX1_draw_21 : decode cX1_draw 21 = .ok (.iushr, 1) := by decide +kernel
theorem dX1_draw_22 : decode cX1_draw 22 = .ok (.ireturn, 1) := by decide +kernel
theorem dX1_isGranted_0 : decode cX1_isGranted 0 = .ok (.aload_n 0, 1) := by decide +kernel
theorem dX1_isGranted_1 : decode cX1_isGranted 1 = .ok (.iload_n 1, 1) := by decide +kernel
theorem dX1_isGranted_2 : decode cX1_isGranted 2 = .ok (.invokevirtual 52, 3) := by decide +kernel
theorem dX1_isGranted_5 : decode cX1_isGranted 5 = .ok (.iconst 1, 1) := by decide +kernel
theorem dX1_isGranted_6 : decode cX1_isGranted 6 = .ok (.iadd, 1) := by decide +kernel
theorem dX1_isGranted_7 : decode cX1_isGranted 7 = .ok (.istore_n 2, 1) := by decide +kernel
theorem dX1_isGranted_8 : decode cX1_isGranted 8 = .ok (.iload_n 2, 1) := by decide +kernel
theorem dX1_isGranted_9 : decode cX1_isGranted 9 = .ok (.aload_n 0, 1) := by decide +kernel
theorem dX1_isGranted_10 : decode cX1_isGranted 10 = .ok (.getfield 46, 3) := by decide +kernel
theorem dX1_isGranted_13 : decode cX1_isGranted 13 = .ok (.if_icmp .ge 22, 3) := by decide +kernel
theorem dX1_isGranted_16 : decode cX1_isGranted 16 = .ok (.aload_n 0, 1) := by decide +kernel
theorem dX1_isGranted_17 : decode cX1_isGranted 17 = .ok (.getfield 24, 3) := by decide +kernel
theorem dX1_isGranted_20 : decode cX1_isGranted 20 = .ok (.iload_n 2, 1) := by decide +kernel
theorem dX1_isGranted_21 : decode cX1_isGranted 21 = .ok (.iaload, 1) := by decide +kernel
theorem dX1_isGranted_22 : decode cX1_isGranted 22 = .ok (.aload_n 0, 1) := by decide +kernel
theorem dX1_isGranted_23 : decode cX1_isGranted 23 = .ok (.getfield 21, 3) := by decide +kernel
theorem dX1_isGranted_26 : decode cX1_isGranted 26 = .ok (.iload_n 1, 1) := by decide +kernel
theorem dX1_isGranted_27 : decode cX1_isGranted 27 = .ok (.iaload, 1) := by decide +kernel
theorem dX1_isGranted_28 : decode cX1_isGranted 28 = .ok (.if_icmp .ne 7, 3) := by decide +kernel
theorem dX1_isGranted_31 : decode cX1_isGranted 31 = .ok (.iconst 1, 1) := by decide +kernel
theorem dX1_isGranted_32 : decode cX1_isGranted 32 = .ok (.goto 4, 3) := by decide +kernel
theorem dX1_isGranted_35 : decode cX1_isGranted 35 = .ok (.iconst 0, 1) := by decide +kernel
theorem dX1_isGranted_36 : decode cX1_isGranted 36 = .ok (.ireturn, 1) := by decide +kernel
theorem dX1_grantedPieces_0 : decode cX1_grantedPieces 0 = .ok (.iconst 0, 1) := by decide +kernel
theorem dX1_grantedPieces_1 : decode cX1_grantedPieces 1 = .ok (.istore_n 1, 1) := by decide +kernel
theorem dX1_grantedPieces_2 : decode cX1_grantedPieces 2 = .ok (.iconst 0, 1) := by decide +kernel
theorem dX1_grantedPieces_3 : decode cX1_grantedPieces 3 = .ok (.istore_n 2, 1) := by decide +kernel
theorem dX1_grantedPieces_4 : decode cX1_grantedPieces 4 = .ok (.iload_n 2, 1) := by decide +kernel
theorem dX1_grantedPieces_5 : decode cX1_grantedPieces 5 = .ok (.aload_n 0, 1) := by decide +kernel
theorem dX1_grantedPieces_6 : decode cX1_grantedPieces 6 = .ok (.getfield 46, 3) := by decide +kernel
theorem dX1_grantedPieces_9 : decode cX1_grantedPieces 9 = .ok (.if_icmp .ge 23, 3) := by decide +kernel
theorem dX1_grantedPieces_12 : decode cX1_grantedPieces 12 = .ok (.aload_n 0, 1) := by decide +kernel
theorem dX1_grantedPieces_13 : decode cX1_grantedPieces 13 = .ok (.iload_n 2, 1) := by decide +kernel
theorem dX1_grantedPieces_14 : decode cX1_grantedPieces 14 = .ok (.invokevirtual 100, 3) := by decide +kernel
theorem dX1_grantedPieces_17 : decode cX1_grantedPieces 17 = .ok (.ifCond .eq 9, 3) := by decide +kernel
theorem dX1_grantedPieces_20 : decode cX1_grantedPieces 20 = .ok (.iload_n 1, 1) := by decide +kernel
theorem dX1_grantedPieces_21 : decode cX1_grantedPieces 21 = .ok (.iconst 1, 1) := by decide +kernel
theorem dX1_grantedPieces_22 : decode cX1_grantedPieces 22 = .ok (.iload_n 2, 1) := by decide +kernel
theorem dX1_grantedPieces_23 : decode cX1_grantedPieces 23 = .ok (.ishl, 1) := by decide +kernel
theorem dX1_grantedPieces_24 : decode cX1_grantedPieces 24 = .ok (.ior, 1) := by decide +kernel
theorem dX1_grantedPieces_25 : decode cX1_grantedPieces 25 = .ok (.istore_n 1, 1) := by decide +kernel
theorem dX1_grantedPieces_26 : decode cX1_grantedPieces 26 = .ok (.iinc 2 1, 3) := by decide +kernel
theorem dX1_grantedPieces_29 : decode cX1_grantedPieces 29 = .ok (.goto (-25), 3) := by decide +kernel
theorem dX1_grantedPieces_32 : decode cX1_grantedPieces 32 = .ok (.iload_n 1, 1) := by decide +kernel
theorem dX1_grantedPieces_33 : decode cX1_grantedPieces 33 = .ok (.ireturn, 1) := by decide +kernel
theorem dX1_closedPlaces_0 : decode cX1_closedPlaces 0 = .ok (.iconst 0, 1) := by decide +kernel
theorem dX1_closedPlaces_1 : decode cX1_closedPlaces 1 = .ok (.istore_n 1, 1) := by decide +kernel
theorem dX1_closedPlaces_2 : decode cX1_closedPlaces 2 = .ok (.iconst 0, 1) := by decide +kernel
theorem dX1_closedPlaces_3 : decode cX1_closedPlaces 3 = .ok (.istore_n 2, 1) := by decide +kernel
theorem dX1_closedPlaces_4 : decode cX1_closedPlaces 4 = .ok (.iload_n 2, 1) := by decide +kernel
theorem dX1_closedPlaces_5 : decode cX1_closedPlaces 5 = .ok (.iconst 1, 1) := by decide +kernel
theorem dX1_closedPlaces_6 : decode cX1_closedPlaces 6 = .ok (.iadd, 1) := by decide +kernel
theorem dX1_closedPlaces_7 : decode cX1_closedPlaces 7 = .ok (.aload_n 0, 1) := by decide +kernel
theorem dX1_closedPlaces_8 : decode cX1_closedPlaces 8 = .ok (.getfield 46, 3) := by decide +kernel
theorem dX1_closedPlaces_11 : decode cX1_closedPlaces 11 = .ok (.if_icmp .ge 23, 3) := by decide +kernel
theorem dX1_closedPlaces_14 : decode cX1_closedPlaces 14 = .ok (.aload_n 0, 1) := by decide +kernel
theorem dX1_closedPlaces_15 : decode cX1_closedPlaces 15 = .ok (.iload_n 2, 1) := by decide +kernel
theorem dX1_closedPlaces_16 : decode cX1_closedPlaces 16 = .ok (.invokevirtual 81, 3) := by decide +kernel
theorem dX1_closedPlaces_19 : decode cX1_closedPlaces 19 = .ok (.ifCond .ne 9, 3) := by decide +kernel
theorem dX1_closedPlaces_22 : decode cX1_closedPlaces 22 = .ok (.iload_n 1, 1) := by decide +kernel
theorem dX1_closedPlaces_23 : decode cX1_closedPlaces 23 = .ok (.iconst 1, 1) := by decide +kernel
theorem dX1_closedPlaces_24 : decode cX1_closedPlaces 24 = .ok (.iload_n 2, 1) := by decide +kernel
theorem dX1_closedPlaces_25 : decode cX1_closedPlaces 25 = .ok (.ishl, 1) := by decide +kernel
theorem dX1_closedPlaces_26 : decode cX1_closedPlaces 26 = .ok (.ior, 1) := by decide +kernel
theorem dX1_closedPlaces_27 : decode cX1_closedPlaces 27 = .ok (.istore_n 1, 1) := by decide +kernel
theorem dX1_closedPlaces_28 : decode cX1_closedPlaces 28 = .ok (.iinc 2 1, 3) := by decide +kernel
theorem dX1_closedPlaces_31 : decode cX1_closedPlaces 31 = .ok (.goto (-27), 3) := by decide +kernel
theorem dX1_closedPlaces_34 : decode cX1_closedPlaces 34 = .ok (.iload_n 1, 1) := by decide +kernel
theorem dX1_closedPlaces_35 : decode cX1_closedPlaces 35 = .ok (.ireturn, 1) := by decide +kernel
theorem dX1_greatestGap_0 : decode cX1_greatestGap 0 = .ok (.iconst 0, 1) := by decide +kernel
theorem dX1_greatestGap_1 : decode cX1_greatestGap 1 = .ok (.istore_n 1, 1) := by decide +kernel
theorem dX1_greatestGap_2 : decode cX1_greatestGap 2 = .ok (.iconst 0, 1) := by decide +kernel
theorem dX1_greatestGap_3 : decode cX1_greatestGap 3 = .ok (.istore_n 2, 1) := by decide +kernel
theorem dX1_greatestGap_4 : decode cX1_greatestGap 4 = .ok (.iload_n 2, 1) := by decide +kernel
theorem dX1_greatestGap_5 : decode cX1_greatestGap 5 = .ok (.iconst 1, 1) := by decide +kernel
theorem dX1_greatestGap_6 : decode cX1_greatestGap 6 = .ok (.iadd, 1) := by decide +kernel
theorem dX1_greatestGap_7 : decode cX1_greatestGap 7 = .ok (.aload_n 0, 1) := by decide +kernel
theorem dX1_greatestGap_8 : decode cX1_greatestGap 8 = .ok (.getfield 46, 3) := by decide +kernel
theorem dX1_greatestGap_11 : decode cX1_greatestGap 11 = .ok (.if_icmp .ge 19, 3) := by decide +kernel
theorem dX1_greatestGap_14 : decode cX1_greatestGap 14 = .ok (.iload_n 1, 1) := by decide +kernel
theorem dX1_greatestGap_15 : decode cX1_greatestGap 15 = .ok (.aload_n 0, 1) := by decide +kernel
theorem dX1_greatestGap_16 : decode cX1_greatestGap 16 = .ok (.iload_n 2, 1) := by decide +kernel
theorem dX1_greatestGap_17 : decode cX1_greatestGap 17 = .ok (.invokevirtual 81, 3) := by decide +kernel
theorem dX1_greatestGap_20 : decode cX1_greatestGap 20 = .ok (.invokestatic 103, 3) := by decide +kernel
theorem dX1_greatestGap_23 : decode cX1_greatestGap 23 = .ok (.istore_n 1, 1) := by decide +kernel
theorem dX1_greatestGap_24 : decode cX1_greatestGap 24 = .ok (.iinc 2 1, 3) := by decide +kernel
theorem dX1_greatestGap_27 : decode cX1_greatestGap 27 = .ok (.goto (-23), 3) := by decide +kernel
theorem dX1_greatestGap_30 : decode cX1_greatestGap 30 = .ok (.iload_n 1, 1) := by decide +kernel
theorem dX1_greatestGap_31 : decode cX1_greatestGap 31 = .ok (.ireturn, 1) := by decide +kernel
theorem dX1_filledSpots_0 : decode cX1_filledSpots 0 = .ok (.iconst 0, 1) := by decide +kernel
theorem dX1_filledSpots_1 : decode cX1_filledSpots 1 = .ok (.istore_n 1, 1) := by decide +kernel
theorem dX1_filledSpots_2 : decode cX1_filledSpots 2 = .ok (.iconst 0, 1) := by decide +kernel
theorem dX1_filledSpots_3 : decode cX1_filledSpots 3 = .ok (.istore_n 2, 1) := by decide +kernel
theorem dX1_filledSpots_4 : decode cX1_filledSpots 4 = .ok (.iload_n 2, 1) := by decide +kernel
theorem dX1_filledSpots_5 : decode cX1_filledSpots 5 = .ok (.bipush 10, 2) := by decide +kernel
theorem dX1_filledSpots_7 : decode cX1_filledSpots 7 = .ok (.if_icmp .ge 21, 3) := by decide +kernel
theorem dX1_filledSpots_10 : decode cX1_filledSpots 10 = .ok (.aload_n 0, 1) := by decide +kernel
theorem dX1_filledSpots_11 : decode cX1_filledSpots 11 = .ok (.getfield 30, 3) := by decide +kernel
theorem dX1_filledSpots_14 : decode cX1_filledSpots 14 = .ok (.iload_n 2, 1) := by decide +kernel
theorem dX1_filledSpots_15 : decode cX1_filledSpots 15 = .ok (.iaload, 1) := by decide +kernel
theorem dX1_filledSpots_16 : decode cX1_filledSpots 16 = .ok (.ifCond .lt 6, 3) := by decide +kernel
theorem dX1_filledSpots_19 : decode cX1_filledSpots 19 = .ok (.iinc 1 1, 3) := by decide +kernel
theorem dX1_filledSpots_22 : decode cX1_filledSpots 22 = .ok (.iinc 2 1, 3) := by decide +kernel
theorem dX1_filledSpots_25 : decode cX1_filledSpots 25 = .ok (.goto (-21), 3) := by decide +kernel
theorem dX1_filledSpots_28 : decode cX1_filledSpots 28 = .ok (.iload_n 1, 1) := by decide +kernel
theorem dX1_filledSpots_29 : decode cX1_filledSpots 29 = .ok (.ireturn, 1) := by decide +kernel
theorem dX2_init_0 : decode cX2_init 0 = .ok (.aload_n 0, 1) := by decide +kernel
theorem dX2_init_1 : decode cX2_init 1 = .ok (.invokespecial 3, 3) := by decide +kernel
theorem dX2_init_4 : decode cX2_init 4 = .ok (.aload_n 0, 1) := by decide +kernel
theorem dX2_init_5 : decode cX2_init 5 = .ok (.bipush 40, 2) := by decide +kernel
theorem dX2_init_7 : decode cX2_init 7 = .ok (.newarray .int, 2) := by decide +kernel
theorem dX2_init_9 : decode cX2_init 9 = .ok (.putfield 9, 3) := by decide +kernel
theorem dX2_init_12 : decode cX2_init 12 = .ok (.return_, 1) := by decide +kernel
theorem dX2_begin_0 : decode cX2_begin 0 = .ok (.aload_n 0, 1) := by decide +kernel
theorem dX2_begin_1 : decode cX2_begin 1 = .ok (.iload_n 1, 1) := by decide +kernel
theorem dX2_begin_2 : decode cX2_begin 2 = .ok (.putfield 15, 3) := by decide +kernel
theorem dX2_begin_5 : decode cX2_begin 5 = .ok (.aload_n 0, 1) := by decide +kernel
theorem dX2_begin_6 : decode cX2_begin 6 = .ok (.iload_n 1, 1) := by decide +kernel
theorem dX2_begin_7 : decode cX2_begin 7 = .ok (.ifCond .ne 7, 3) := by decide +kernel
theorem dX2_begin_10 : decode cX2_begin 10 = .ok (.iconst 0, 1) := by decide +kernel
theorem dX2_begin_11 : decode cX2_begin 11 = .ok (.goto 4, 3) := by decide +kernel
theorem dX2_begin_14 : decode cX2_begin 14 = .ok (.iload_n 2, 1) := by decide +kernel
theorem dX2_begin_15 : decode cX2_begin 15 = .ok (.putfield 19, 3) := by decide +kernel
theorem dX2_begin_18 : decode cX2_begin 18 = .ok (.iconst 0, 1) := by decide +kernel
theorem dX2_begin_19 : decode cX2_begin 19 = .ok (.istore_n 3, 1) := by decide +kernel
theorem dX2_begin_20 : decode cX2_begin 20 = .ok (.iload_n 3, 1) := by decide +kernel
theorem dX2_begin_21 : decode cX2_begin 21 = .ok (.bipush 40, 2) := by decide +kernel
theorem dX2_begin_23 : decode cX2_begin 23 = .ok (.if_icmp .ge 16, 3) := by decide +kernel
theorem dX2_begin_26 : decode cX2_begin 26 = .ok (.aload_n 0, 1) := by decide +kernel
theorem dX2_begin_27 : decode cX2_begin 27 = .ok (.getfield 9, 3) := by decide +kernel
theorem dX2_begin_30 : decode cX2_begin 30 = .ok (.iload_n 3, 1) := by decide +kernel
theorem dX2_begin_31 : decode cX2_begin 31 = .ok (.iconst 0, 1) := by decide +kernel
theorem dX2_begin_32 : decode cX2_begin 32 = .ok (.iastore, 1) := by decide +kernel
theorem dX2_begin_33 : decode cX2_begin 33 = .ok (.iinc 3 1, 3) := by decide +kernel
theorem dX2_begin_36 : decode cX2_begin 36 = .ok (.goto (-16), 3) := by decide +kernel
theorem dX2_begin_39 : decode cX2_begin 39 = .ok (.return_, 1) := by decide +kernel
theorem dX2_put_0 : decode cX2_put 0 = .ok (.aload_n 0, 1) := by decide +kernel
theorem dX2_put_1 : decode cX2_put 1 = .ok (.getfield 15, 3) := by decide +kernel
theorem dX2_put_4 : decode cX2_put 4 = .ok (.bipush 8, 2) := by decide +kernel
theorem dX2_put_6 : decode cX2_put 6 = .ok (.if_icmp .ne 14, 3) := by decide +kernel
theorem dX2_put_9 : decode cX2_put 9 = .ok (.aload_n 0, 1) := by decide +kernel
theorem dX2_put_10 : decode cX2_put 10 = .ok (.getfield 9, 3) := by decide +kernel
theorem dX2_put_13 : decode cX2_put 13 = .ok (.iload_n 1, 1) := by decide +kernel
theorem dX2_put_14 : decode cX2_put 14 = .ok (.iload_n 2, 1) := by decide +kernel
theorem dX2_put_15 : decode cX2_put 15 = .ok (.i2b, 1) := by decide +kernel
theorem dX2_put_16 : decode cX2_put 16 = .ok (.iastore, 1) := by decide +kernel
theorem dX2_put_17 : decode cX2_put 17 = .ok (.goto 30, 3) := by decide +kernel
theorem dX2_put_20 : decode cX2_put 20 = .ok (.aload_n 0, 1) := by decide +kernel
theorem dX2_put_21 : decode cX2_put 21 = .ok (.getfield 15, 3) := by decide +kernel
theorem dX2_put_24 : decode cX2_put 24 = .ok (.bipush 16, 2) := by decide +kernel
theorem dX2_put_26 : decode cX2_put 26 = .ok (.if_icmp .ne 14, 3) := by decide +kernel
theorem dX2_put_29 : decode cX2_put 29 = .ok (.aload_n 0, 1) := by decide +kernel
theorem dX2_put_30 : decode cX2_put 30 = .ok (.getfield 9, 3) := by decide +kernel
theorem dX2_put_33 : decode cX2_put 33 = .ok (.iload_n 1, 1) := by decide +kernel
theorem dX2_put_34 : decode cX2_put 34 = .ok (.iload_n 2, 1) := by decide +kernel
theorem dX2_put_35 : decode cX2_put 35 = .ok (.i2s, 1) := by decide +kernel
theorem dX2_put_36 : decode cX2_put 36 = .ok (.iastore, 1) := by decide +kernel
theorem dX2_put_37 : decode cX2_put 37 = .ok (.goto 10, 3) := by decide +kernel
theorem dX2_put_40 : decode cX2_put 40 = .ok (.aload_n 0, 1) := by decide +kernel
theorem dX2_put_41 : decode cX2_put 41 = .ok (.getfield 9, 3) := by decide +kernel
theorem dX2_put_44 : decode cX2_put 44 = .ok (.iload_n 1, 1) := by decide +kernel
theorem dX2_put_45 : decode cX2_put 45 = .ok (.iload_n 2, 1) := by decide +kernel
theorem dX2_put_46 : decode cX2_put 46 = .ok (.iastore, 1) := by decide +kernel
theorem dX2_put_47 : decode cX2_put 47 = .ok (.return_, 1) := by decide +kernel
theorem dX2_hasRun_0 : decode cX2_hasRun 0 = .ok (.iload_n 1, 1) := by decide +kernel
theorem dX2_hasRun_1 : decode cX2_hasRun 1 = .ok (.ifCond .lt 29, 3) := by decide +kernel
theorem dX2_hasRun_4 : decode cX2_hasRun 4 = .ok (.iload_n 2, 1) := by decide +kernel
theorem dX2_hasRun_5 : decode cX2_hasRun 5 = .ok (.ifCond .lt 25, 3) := by decide +kernel
theorem dX2_hasRun_8 : decode cX2_hasRun 8 = .ok (.iload_n 1, 1) := by decide +kernel
theorem dX2_hasRun_9 : decode cX2_hasRun 9 = .ok (.aload_n 0, 1) := by decide +kernel
theorem dX2_hasRun_10 : decode cX2_hasRun 10 = .ok (.getfield 19, 3) := by decide +kernel
theorem dX2_hasRun_13 : decode cX2_hasRun 13 = .ok (.if_icmp .gt 17, 3) := by decide +kernel
theorem dX2_hasRun_16 : decode cX2_hasRun 16 = .ok (.iload_n 2, 1) := by decide +kernel
theorem dX2_hasRun_17 : decode cX2_hasRun 17 = .ok (.aload_n 0, 1) := by decide +kernel
theorem dX2_hasRun_18 : decode cX2_hasRun 18 = .ok (.getfield 19, 3) := by decide +kernel
theorem dX2_hasRun_21 : decode cX2_hasRun 21 = .ok (.iload_n 1, 1) := by decide +kernel
theorem dX2_hasRun_22 : decode cX2_hasRun 22 = .ok (.isub, 1) := by decide +kernel
theorem dX2_hasRun_23 : decode cX2_hasRun 23 = .ok (.if_icmp .gt 7, 3) := by decide +kernel
theorem dX2_hasRun_26 : decode cX2_hasRun 26 = .ok (.iconst 1, 1) := by decide +kernel
theorem dX2_hasRun_27 : decode cX2_hasRun 27 = .ok (.goto 4, 3) := by decide +kernel
theorem dX2_hasRun_30 : decode cX2_hasRun 30 = .ok (.iconst 0, 1) := by decide +kernel
theorem dX2_hasRun_31 : decode cX2_hasRun 31 = .ok (.ireturn, 1) := by decide +kernel
theorem dX3_init_0 : decode cX3_init 0 = .ok (.aload_n 0, 1) := by decide +kernel
theorem dX3_init_1 : decode cX3_init 1 = .ok (.invokespecial 3, 3) := by decide +kernel
theorem dX3_init_4 : decode cX3_init 4 = .ok (.aload_n 0, 1) := by decide +kernel
theorem dX3_init_5 : decode cX3_init 5 = .ok (.bipush 120, 2) := by decide +kernel
theorem dX3_init_7 : decode cX3_init 7 = .ok (.newarray .int, 2) := by decide +kernel
theorem dX3_init_9 : decode cX3_init 9 = .ok (.putfield 9, 3) := by decide +kernel
theorem dX3_init_12 : decode cX3_init 12 = .ok (.return_, 1) := by decide +kernel
theorem dX3_append_0 : decode cX3_append 0 = .ok (.iload_n 2, 1) := by decide +kernel
theorem dX3_append_1 : decode cX3_append 1 = .ok (.iconst 1, 1) := by decide +kernel
theorem dX3_append_2 : decode cX3_append 2 = .ok (.isub, 1) := by decide +kernel
theorem dX3_append_3 : decode cX3_append 3 = .ok (.istore_n 3, 1) := by decide +kernel
theorem dX3_append_4 : decode cX3_append 4 = .ok (.iload_n 3, 1) := by decide +kernel
theorem dX3_append_5 : decode cX3_append 5 = .ok (.ifCond .lt 38, 3) := by decide +kernel
theorem dX3_append_8 : decode cX3_append 8 = .ok (.aload_n 0, 1) := by decide +kernel
theorem dX3_append_9 : decode cX3_append 9 = .ok (.getfield 9, 3) := by decide +kernel
theorem dX3_append_12 : decode cX3_append 12 = .ok (.aload_n 0, 1) := by decide +kernel
theorem dX3_append_13 : decode cX3_append 13 = .ok (.getfield 15, 3) := by decide +kernel
theorem dX3_append_16 : decode cX3_append 16 = .ok (.iload_n 1, 1) := by decide +kernel
theorem dX3_append_17 : decode cX3_append 17 = .ok (.bipush 8, 2) := by decide +kernel
theorem dX3_append_19 : decode cX3_append 19 = .ok (.iload_n 3, 1) := by decide +kernel
theorem dX3_append_20 : decode cX3_append 20 = .ok (.imul, 1) := by decide +kernel
theorem dX3_append_21 : decode cX3_append 21 = .ok (.iushr, 1) := by decide +kernel
theorem dX3_append_22 : decode cX3_append 22 = .ok (.sipush 255, 3) := by decide +kernel
theorem dX3_append_25 : decode cX3_append 25 = .ok (.iand, 1) := by decide +kernel
theorem dX3_append_26 : decode cX3_append 26 = .ok (.iastore, 1) := by decide +kernel
theorem dX3_append_27 : decode cX3_append 27 = .ok (.aload_n 0, 1) := by decide +kernel
theorem dX3_append_28 : decode cX3_append 28 = .ok (.dup, 1) := by decide +kernel
theorem dX3_append_29 : decode cX3_append 29 = .ok (.getfield 15, 3) := by decide +kernel
theorem dX3_append_32 : decode cX3_append 32 = .ok (.iconst 1, 1) := by decide +kernel
theorem dX3_append_33 : decode cX3_append 33 = .ok (.iadd, 1) := by decide +kernel
theorem dX3_append_34 : decode cX3_append 34 = .ok (.putfield 15, 3) := by decide +kernel
theorem dX3_append_37 : decode cX3_append 37 = .ok (.iinc 3 (-1), 3) := by decide +kernel
theorem dX3_append_40 : decode cX3_append 40 = .ok (.goto (-36), 3) := by decide +kernel
theorem dX3_append_43 : decode cX3_append 43 = .ok (.return_, 1) := by decide +kernel
theorem dX3_readInto_0 : decode cX3_readInto 0 = .ok (.aload_n 0, 1) := by decide +kernel
theorem dX3_readInto_1 : decode cX3_readInto 1 = .ok (.iconst 0, 1) := by decide +kernel
theorem dX3_readInto_2 : decode cX3_readInto 2 = .ok (.putfield 19, 3) := by decide +kernel
theorem dX3_readInto_5 : decode cX3_readInto 5 = .ok (.aload_n 0, 1) := by decide +kernel
theorem dX3_readInto_6 : decode cX3_readInto 6 = .ok (.invokevirtual 22, 3) := by decide +kernel
theorem dX3_readInto_9 : decode cX3_readInto 9 = .ok (.iconst 1, 1) := by decide +kernel
theorem dX3_readInto_10 : decode cX3_readInto 10 = .ok (.istore_n 2, 1) := by decide +kernel
theorem dX3_readInto_11 : decode cX3_readInto 11 = .ok (.iload_n 2, 1) := by decide +kernel
theorem dX3_readInto_12 : decode cX3_readInto 12 = .ok (.aload_n 0, 1) := by decide +kernel
theorem dX3_readInto_13 : decode cX3_readInto 13 = .ok (.getfield 15, 3) := by decide +kernel
theorem dX3_readInto_16 : decode cX3_readInto 16 = .ok (.if_icmp .gt 52, 3) := by decide +kernel
theorem dX3_readInto_19 : decode cX3_readInto 19 = .ok (.aload_n 0, 1) := by decide +kernel
theorem dX3_readInto_20 : decode cX3_readInto 20 = .ok (.aload_n 1, 1) := by decide +kernel
theorem dX3_readInto_21 : decode cX3_readInto 21 = .ok (.invokevirtual 25, 3) := by decide +kernel
theorem dX3_readInto_24 : decode cX3_readInto 24 = .ok (.ifCond .ne 10, 3) := by decide +kernel
theorem dX3_readInto_27 : decode cX3_readInto 27 = .ok (.iconst (-1), 1) := by decide +kernel
theorem dX3_readInto_28 : decode cX3_readInto 28 = .ok (.aload_n 0, 1) := by decide +kernel
theorem dX3_readInto_29 : decode cX3_readInto 29 = .ok (.getfield 29, 3) := by decide +kernel
theorem dX3_readInto_32 : decode cX3_readInto 32 = .ok (.isub, 1) := by decide +kernel
theorem dX3_readInto_33 : decode cX3_readInto 33 = .ok (.ireturn, 1) := by decide +kernel
theorem dX3_readInto_34 : decode cX3_readInto 34 = .ok (.aload_n 0, 1) := by decide +kernel
theorem dX3_readInto_35 : decode cX3_readInto 35 = .ok (.getfield 32, 3) := by decide +kernel
theorem dX3_readInto_38 : decode cX3_readInto 38 = .ok (.ifCond .ne 5, 3) := by decide +kernel
theorem dX3_readInto_41 : decode cX3_readInto 41 = .ok (.iload_n 2, 1) := by decide +kernel
theorem dX3_readInto_42 : decode cX3_readInto 42 = .ok (.ireturn, 1) := by decide +kernel
theorem dX3_readInto_43 : decode cX3_readInto 43 = .ok (.aload_n 0, 1) := by decide +kernel
theorem dX3_readInto_44 : decode cX3_readInto 44 = .ok (.getfield 32, 3) := by decide +kernel
theorem dX3_readInto_47 : decode cX3_readInto 47 = .ok (.iconst 3, 1) := by decide +kernel
theorem dX3_readInto_48 : decode cX3_readInto 48 = .ok (.if_icmp .eq 10, 3) := by decide +kernel
theorem dX3_readInto_51 : decode cX3_readInto 51 = .ok (.iconst (-1), 1) := by decide +kernel
theorem dX3_readInto_52 : decode cX3_readInto 52 = .ok (.aload_n 0, 1) := by decide +kernel
theorem dX3_readInto_53 : decode cX3_readInto 53 = .ok (.getfield 29, 3) := by decide +kernel
theorem dX3_readInto_56 : decode cX3_readInto 56 = .ok (.isub, 1) := by decide +kernel
theorem dX3_readInto_57 : decode cX3_readInto 57 = .ok (.ireturn, 1) := by decide +kernel
theorem dX3_readInto_58 : decode cX3_readInto 58 = .ok (.aload_n 0, 1) := by decide +kernel
theorem dX3_readInto_59 : decode cX3_readInto 59 = .ok (.invokevirtual 22, 3) := by decide +kernel
theorem dX3_readInto_62 : decode cX3_readInto 62 = .ok (.iinc 2 1, 3) := by decide +kernel
theorem dX3_readInto_65 : decode cX3_readInto 65 = .ok (.goto (-54), 3) := by decide +kernel
theorem dX3_readInto_68 : decode cX3_readInto 68 = .ok (.iconst (-1), 1) := by decide +kernel
theorem dX3_readInto_69 : decode cX3_readInto 69 = .ok (.aload_n 0, 1) := by decide +kernel
theorem dX3_readInto_70 : decode cX3_readInto 70 = .ok (.getfield 29, 3) := by decide +kernel
theorem dX3_readInto_73 : decode cX3_readInto 73 = .ok (.isub, 1) := by decide +kernel
theorem dX3_readInto_74 : decode cX3_readInto 74 = .ok (.ireturn, 1) := by decide +kernel
theorem dX3_readItem_0 : decode cX3_readItem 0 = .ok (.aload_n 0, 1) := by decide +kernel
theorem dX3_readItem_1 : decode cX3_readItem 1 = .ok (.invokevirtual 35, 3) := by decide +kernel
theorem dX3_readItem_4 : decode cX3_readItem 4 = .ok (.istore_n 2, 1) := by decide +kernel
theorem dX3_readItem_5 : decode cX3_readItem 5 = .ok (.iload_n 2, 1) := by decide +kernel
theorem dX3_readItem_6 : decode cX3_readItem 6 = .ok (.ifCond .lt 10, 3) := by decide +kernel
theorem dX3_readItem_9 : decode cX3_readItem 9 = .ok (.aload_n 0, 1) := by decide +kernel
theorem dX3_readItem_10 : decode cX3_readItem 10 = .ok (.aload_n 1, 1) := by decide +kernel
theorem dX3_readItem_11 : decode cX3_readItem 11 = .ok (.iload_n 2, 1) := by decide +kernel
theorem dX3_readItem_12 : decode cX3_readItem 12 = .ok (.invokevirtual 39, 3) := by decide +kernel
theorem dX3_readItem_15 : decode cX3_readItem 15 = .ok (.ireturn, 1) := by decide +kernel
theorem dX3_readItem_16 : decode cX3_readItem 16 = .ok (.aload_n 0, 1) := by decide +kernel
theorem dX3_readItem_17 : decode cX3_readItem 17 = .ok (.ldc 43, 2) := by decide +kernel
theorem dX3_readItem_19 : decode cX3_readItem 19 = .ok (.invokevirtual 45, 3) := by decide +kernel
theorem dX3_readItem_22 : decode cX3_readItem 22 = .ok (.ifCond .eq 9, 3) := by decide +kernel
theorem dX3_readItem_25 : decode cX3_readItem 25 = .ok (.aload_n 0, 1) := by decide +kernel
theorem dX3_readItem_26 : decode cX3_readItem 26 = .ok (.aload_n 1, 1) := by decide +kernel
theorem dX3_readItem_27 : decode cX3_readItem 27 = .ok (.invokevirtual 49, 3) := by decide +kernel
theorem dX3_readItem_30 : decode cX3_readItem 30 = .ok (.ireturn, 1) := by decide +kernel
theorem dX3_readItem_31 : decode cX3_readItem 31 = .ok (.aload_n 0, 1) := by decide +kernel
theorem dX3_readItem_32 : decode cX3_readItem 32 = .ok (.ldc 52, 2) := by decide +kernel
theorem dX3_readItem_34 : decode cX3_readItem 34 = .ok (.invokevirtual 45, 3) := by decide +kernel
theorem dX3_readItem_37 : decode cX3_readItem 37 = .ok (.ifCond .eq 15, 3) := by decide +kernel
theorem dX3_readItem_40 : decode cX3_readItem 40 = .ok (.aload_n 0, 1) := by decide +kernel
theorem dX3_readItem_41 : decode cX3_readItem 41 = .ok (.aload_n 1, 1) := by decide +kernel
theorem dX3_readItem_42 : decode cX3_readItem 42 = .ok (.invokevirtual 54, 3) := by decide +kernel
theorem dX3_readItem_45 : decode cX3_readItem 45 = .ok (.ifCond .eq 7, 3) := by decide +kernel
theorem dX3_readItem_48 : decode cX3_readItem 48 = .ok (.iconst 1, 1) := by decide +kernel
theorem dX3_readItem_49 : decode cX3_readItem 49 = .ok (.goto 4, 3) := by decide +kernel
theorem dX3_readItem_52 : decode cX3_readItem 52 = .ok (.iconst 0, 1) := by decide +kernel
theorem dX3_readItem_53 : decode cX3_readItem 53 = .ok (.ireturn, 1) := by decide +kernel
theorem dX3_readPiece_0 : decode cX3_readPiece 0 = .ok (.aload_n 1, 1) := by decide +kernel
theorem dX3_readPiece_1 : decode cX3_readPiece 1 = .ok (.getfield 57, 3) := by decide +kernel
theorem dX3_readPiece_4 : decode cX3_readPiece 4 = .ok (.bipush 8, 2) := by decide +kernel
theorem dX3_readPiece_6 : decode cX3_readPiece 6 = .ok (.if_icmp .lt 5, 3) := by decide +kernel
theorem dX3_readPiece_9 : decode cX3_readPiece 9 = .ok (.iconst 0, 1) := by decide +kernel
theorem dX3_readPiece_10 : decode cX3_readPiece 10 = .ok (.ireturn, 1) := by decide +kernel
theorem dX3_readPiece_11 : decode cX3_readPiece 11 = .ok (.aload_n 0, 1) := by decide +kernel
theorem dX3_readPiece_12 : decode cX3_readPiece 12 = .ok (.invokevirtual 22, 3) := by decide +kernel
theorem dX3_readPiece_15 : decode cX3_readPiece 15 = .ok (.aload_n 0, 1) := by decide +kernel
theorem dX3_readPiece_16 : decode cX3_readPiece 16 = .ok (.bipush 9, 2) := by decide +kernel
theorem dX3_readPiece_18 : decode cX3_readPiece 18 = .ok (.invokevirtual 62, 3) := by decide +kernel
theorem dX3_readPiece_21 : decode cX3_readPiece 21 = .ok (.istore_n 3, 1) := by decide +kernel
theorem dX3_readPiece_22 : decode cX3_readPiece 22 = .ok (.iload_n 3, 1) := by decide +kernel
theorem dX3_readPiece_23 : decode cX3_readPiece 23 = .ok (.ifCond .ge 7, 3) := by decide +kernel
theorem dX3_readPiece_26 : decode cX3_readPiece 26 = .ok (.iconst (-1), 1) := by decide +kernel
theorem dX3_readPiece_27 : decode cX3_readPiece 27 = .ok (.goto 9, 3) := by decide +kernel
theorem dX3_readPiece_30 : decode cX3_readPiece 30 = .ok (.aload_n 0, 1) := by decide +kernel
theorem dX3_readPiece_31 : decode cX3_readPiece 31 = .ok (.bipush 9, 2) := by decide +kernel
theorem dX3_readPiece_33 : decode cX3_readPiece 33 = .ok (.invokevirtual 62, 3) := by decide +kernel
theorem dX3_readPiece_36 : decode cX3_readPiece 36 = .ok (.istore 4, 2) := by decide +kernel
theorem dX3_readPiece_38 : decode cX3_readPiece 38 = .ok (.iload 4, 2) := by decide +kernel
theorem dX3_readPiece_40 : decode cX3_readPiece 40 = .ok (.ifCond .ge 5, 3) := by decide +kernel
theorem dX3_readPiece_43 : decode cX3_readPiece 43 = .ok (.iconst 0, 1) := by decide +kernel
theorem dX3_readPiece_44 : decode cX3_readPiece 44 = .ok (.ireturn, 1) := by decide +kernel
theorem dX3_readPiece_45 : decode cX3_readPiece 45 = .ok (.aload_n 1, 1) := by decide +kernel
theorem dX3_readPiece_46 : decode cX3_readPiece 46 = .ok (.iload_n 2, 1) := by decide +kernel
theorem dX3_readPiece_47 : decode cX3_readPiece 47 = .ok (.iload_n 3, 1) := by decide +kernel
theorem dX3_readPiece_48 : decode cX3_readPiece 48 = .ok (.iload 4, 2) := by decide +kernel
theorem dX3_readPiece_50 : decode cX3_readPiece 50 = .ok (.invokevirtual 66, 3) := by decide +kernel
theorem dX3_readPiece_53 : decode cX3_readPiece 53 = .ok (.istore 5, 2) := by decide +kernel
theorem dX3_readPiece_55 : decode cX3_readPiece 55 = .ok (.aload_n 0, 1) := by decide +kernel
theorem dX3_readPiece_56 : decode cX3_readPiece 56 = .ok (.ldc 70, 2) := by decide +kernel
theorem dX3_readPiece_58 : decode cX3_readPiece 58 = .ok (.invokevirtual 45, 3) := by decide +kernel
theorem dX3_readPiece_61 : decode cX3_readPiece 61 = .ok (.ifCond .eq 31, 3) := by decide +kernel
theorem dX3_readPiece_64 : decode cX3_readPiece 64 = .ok (.aload_n 0, 1) := by decide +kernel
theorem dX3_readPiece_65 : decode cX3_readPiece 65 = .ok (.invokevirtual 22, 3) := by decide +kernel
theorem dX3_readPiece_68 : decode cX3_readPiece 68 = .ok (.aload_n 0, 1) := by decide +kernel
theorem dX3_readPiece_69 : decode cX3_readPiece 69 = .ok (.bipush 7, 2) := by decide +kernel
theorem dX3_readPiece_71 : decode cX3_readPiece 71 = .ok (.invokevirtual 62, 3) := by decide +kernel
theorem dX3_readPiece_74 : decode cX3_readPiece 74 = .ok (.istore 6, 2) := by decide +kernel
theorem dX3_readPiece_76 : decode cX3_readPiece 76 = .ok (.iload 6, 2) := by decide +kernel
theorem dX3_readPiece_78 : decode cX3_readPiece 78 = .ok (.ifCond .ge 5, 3) := by decide +kernel
theorem dX3_readPiece_81 : decode cX3_readPiece 81 = .ok (.iconst 0, 1) := by decide +kernel
theorem dX3_readPiece_82 : decode cX3_readPiece 82 = .ok (.ireturn, 1) := by decide +kernel
theorem dX3_readPiece_83 : decode cX3_readPiece 83 = .ok (.aload_n 1, 1) := by decide +kernel
theorem dX3_readPiece_84 : decode cX3_readPiece 84 = .ok (.getfield 72, 3) := by decide +kernel
theorem dX3_readPiece_87 : decode cX3_readPiece 87 = .ok (.iload 5, 2) := by decide +kernel
theorem dX3_readPiece_89 : decode cX3_readPiece 89 = .ok (.iload 6, 2) := by decide +kernel
theorem dX3_readPiece_91 : decode cX3_readPiece 91 = .ok (.iastore, 1) := by decide +kernel
theorem dX3_readPiece_92 : decode cX3_readPiece 92 = .ok (.aload_n 0, 1) := by decide +kernel
theorem dX3_readPiece_93 : decode cX3_readPiece 93 = .ok (.ldc 75, 2) := by decide +kernel
theorem dX3_readPiece_95 : decode cX3_readPiece 95 = .ok (.invokevirtual 45, 3) := by decide +kernel
theorem dX3_readPiece_98 : decode cX3_readPiece 98 = .ok (.ifCond .eq 20, 3) := by decide +kernel
theorem dX3_readPiece_101 : decode cX3_readPiece 101 = .ok (.aload_n 0, 1) := by decide +kernel
theorem dX3_readPiece_102 : decode cX3_readPiece 102 = .ok (.invokevirtual 22, 3) := by decide +kernel
theorem dX3_readPiece_105 : decode cX3_readPiece 105 = .ok (.aload_n 1, 1) := by decide +kernel
theorem dX3_readPiece_106 : decode cX3_readPiece 106 = .ok (.dup, 1) := by decide +kernel
theorem dX3_readPiece_107 : decode cX3_readPiece 107 = .ok (.getfield 77, 3) := by decide +kernel
theorem dX3_readPiece_110 : decode cX3_readPiece 110 = .ok (.iconst 1, 1) := by decide +kernel
theorem dX3_readPiece_111 : decode cX3_readPiece 111 = .ok (.iload 5, 2) := by decide +kernel
theorem dX3_readPiece_113 : decode cX3_readPiece 113 = .ok (.ishl, 1) := by decide +kernel
theorem dX3_readPiece_114 : decode cX3_readPiece 114 = .ok (.ior, 1) := by decide +kernel
theorem dX3_readPiece_115 : decode cX3_readPiece 115 = .ok (.putfield 77, 3) := by decide +kernel
theorem dX3_readPiece_118 : decode cX3_readPiece 118 = .ok (.iconst 1, 1) := by decide +kernel
theorem dX3_readPiece_119 : decode cX3_readPiece 119 = .ok (.ireturn, 1) := by decide +kernel
theorem dX3_readSwap_0 : decode cX3_readSwap 0 = .ok (.aload_n 0, 1) := by decide +kernel
theorem dX3_readSwap_1 : decode cX3_readSwap 1 = .ok (.invokevirtual 22, 3) := by decide +kernel
theorem dX3_readSwap_4 : decode cX3_readSwap 4 = .ok (.aload_n 0, 1) := by decide +kernel
theorem dX3_readSwap_5 : decode cX3_readSwap 5 = .ok (.iconst 5, 1) := by decide +kernel
theorem dX3_readSwap_6 : decode cX3_readSwap 6 = .ok (.invokevirtual 62, 3) := by decide +kernel
theorem dX3_readSwap_9 : decode cX3_readSwap 9 = .ok (.istore_n 2, 1) := by decide +kernel
theorem dX3_readSwap_10 : decode cX3_readSwap 10 = .ok (.iload_n 2, 1) := by decide +kernel
theorem dX3_readSwap_11 : decode cX3_readSwap 11 = .ok (.ifCond .ge 7, 3) := by decide +kernel
theorem dX3_readSwap_14 : decode cX3_readSwap 14 = .ok (.iconst (-1), 1) := by decide +kernel
theorem dX3_readSwap_15 : decode cX3_readSwap 15 = .ok (.goto 9, 3) := by decide +kernel
theorem dX3_readSwap_18 : decode cX3_readSwap 18 = .ok (.aload_n 0, 1) := by decide +kernel
theorem dX3_readSwap_19 : decode cX3_readSwap 19 = .ok (.bipush 7, 2) := by decide +kernel
theorem dX3_readSwap_21 : decode cX3_readSwap 21 = .ok (.invokevirtual 62, 3) := by decide +kernel
theorem dX3_readSwap_24 : decode cX3_readSwap 24 = .ok (.istore_n 3, 1) := by decide +kernel
theorem dX3_readSwap_25 : decode cX3_readSwap 25 = .ok (.iload_n 3, 1) := by decide +kernel
theorem dX3_readSwap_26 : decode cX3_readSwap 26 = .ok (.ifCond .ge 7, 3) := by decide +kernel
theorem dX3_readSwap_29 : decode cX3_readSwap 29 = .ok (.iconst (-1), 1) := by decide +kernel
theorem dX3_readSwap_30 : decode cX3_readSwap 30 = .ok (.goto 9, 3) := by decide +kernel
theorem dX3_readSwap_33 : decode cX3_readSwap 33 = .ok (.aload_n 0, 1) := by decide +kernel
theorem dX3_readSwap_34 : decode cX3_readSwap 34 = .ok (.bipush 7, 2) := by decide +kernel
theorem dX3_readSwap_36 : decode cX3_readSwap 36 = .ok (.invokevirtual 62, 3) := by decide +kernel
theorem dX3_readSwap_39 : decode cX3_readSwap 39 = .ok (.istore 4, 2) := by decide +kernel
theorem dX3_readSwap_41 : decode cX3_readSwap 41 = .ok (.iload 4, 2) := by decide +kernel
theorem dX3_readSwap_43 : decode cX3_readSwap 43 = .ok (.ifCond .ge 5, 3) := by decide +kernel
theorem dX3_readSwap_46 : decode cX3_readSwap 46 = .ok (.iconst 0, 1) := by decide +kernel
theorem dX3_readSwap_47 : decode cX3_readSwap 47 = .ok (.ireturn, 1) := by decide +kernel
theorem dX3_readSwap_48 : decode cX3_readSwap 48 = .ok (.aload_n 1, 1) := by decide +kernel
theorem dX3_readSwap_49 : decode cX3_readSwap 49 = .ok (.getfield 79, 3) := by decide +kernel
theorem dX3_readSwap_52 : decode cX3_readSwap 52 = .ok (.iload_n 2, 1) := by decide +kernel
theorem dX3_readSwap_53 : decode cX3_readSwap 53 = .ok (.bipush 10, 2) := by decide +kernel
theorem dX3_readSwap_55 : decode cX3_readSwap 55 = .ok (.iload_n 3, 1) := by decide +kernel
theorem dX3_readSwap_56 : decode cX3_readSwap 56 = .ok (.imul, 1) := by decide +kernel
theorem dX3_readSwap_57 : decode cX3_readSwap 57 = .ok (.iload 4, 2) := by decide +kernel
theorem dX3_readSwap_59 : decode cX3_readSwap 59 = .ok (.iadd, 1) := by decide +kernel
theorem dX3_readSwap_60 : decode cX3_readSwap 60 = .ok (.iastore, 1) := by decide +kernel
theorem dX3_readSwap_61 : decode cX3_readSwap 61 = .ok (.iconst 1, 1) := by decide +kernel
theorem dX3_readSwap_62 : decode cX3_readSwap 62 = .ok (.ireturn, 1) := by decide +kernel
theorem dX3_readLay_0 : decode cX3_readLay 0 = .ok (.aload_n 0, 1) := by decide +kernel
theorem dX3_readLay_1 : decode cX3_readLay 1 = .ok (.invokevirtual 22, 3) := by decide +kernel
theorem dX3_readLay_4 : decode cX3_readLay 4 = .ok (.aload_n 0, 1) := by decide +kernel
theorem dX3_readLay_5 : decode cX3_readLay 5 = .ok (.aload_n 1, 1) := by decide +kernel
theorem dX3_readLay_6 : decode cX3_readLay 6 = .ok (.getfield 57, 3) := by decide +kernel
theorem dX3_readLay_9 : decode cX3_readLay 9 = .ok (.iconst 1, 1) := by decide +kernel
theorem dX3_readLay_10 : decode cX3_readLay 10 = .ok (.isub, 1) := by decide +kernel
theorem dX3_readLay_11 : decode cX3_readLay 11 = .ok (.invokevirtual 62, 3) := by decide +kernel
theorem dX3_readLay_14 : decode cX3_readLay 14 = .ok (.istore_n 2, 1) := by decide +kernel
theorem dX3_readLay_15 : decode cX3_readLay 15 = .ok (.iload_n 2, 1) := by decide +kernel
theorem dX3_readLay_16 : decode cX3_readLay 16 = .ok (.ifCond .ge 7, 3) := by decide +kernel
theorem dX3_readLay_19 : decode cX3_readLay 19 = .ok (.iconst (-1), 1) := by decide +kernel
theorem dX3_readLay_20 : decode cX3_readLay 20 = .ok (.goto 13, 3) := by decide +kernel
theorem dX3_readLay_23 : decode cX3_readLay 23 = .ok (.aload_n 0, 1) := by decide +kernel
theorem dX3_readLay_24 : decode cX3_readLay 24 = .ok (.aload_n 1, 1) := by decide +kernel
theorem dX3_readLay_25 : decode cX3_readLay 25 = .ok (.getfield 57, 3) := by decide +kernel
theorem dX3_readLay_28 : decode cX3_readLay 28 = .ok (.iconst 1, 1) := by decide +kernel
theorem dX3_readLay_29 : decode cX3_readLay 29 = .ok (.isub, 1) := by decide +kernel
theorem dX3_readLay_30 : decode cX3_readLay 30 = .ok (.invokevirtual 62, 3) := by decide +kernel
theorem dX3_readLay_33 : decode cX3_readLay 33 = .ok (.istore_n 3, 1) := by decide +kernel
theorem dX3_readLay_34 : decode cX3_readLay 34 = .ok (.iload_n 3, 1) := by decide +kernel
theorem dX3_readLay_35 : decode cX3_readLay 35 = .ok (.ifCond .ge 5, 3) := by decide +kernel
theorem dX3_readLay_38 : decode cX3_readLay 38 = .ok (.iconst 0, 1) := by decide +kernel
theorem dX3_readLay_39 : decode cX3_readLay 39 = .ok (.ireturn, 1) := by decide +kernel
theorem dX3_readLay_40 : decode cX3_readLay 40 = .ok (.aload_n 1, 1) := by decide +kernel
theorem dX3_readLay_41 : decode cX3_readLay 41 = .ok (.iload_n 2, 1) := by decide +kernel
theorem dX3_readLay_42 : decode cX3_readLay 42 = .ok (.iload_n 3, 1) := by decide +kernel
theorem dX3_readLay_43 : decode cX3_readLay 43 = .ok (.invokevirtual 82, 3) := by decide +kernel
theorem dX3_readLay_46 : decode cX3_readLay 46 = .ok (.iconst 1, 1) := by decide +kernel
theorem dX3_readLay_47 : decode cX3_readLay 47 = .ok (.ireturn, 1) := by decide +kernel
theorem dX3_readNumber_0 : decode cX3_readNumber 0 = .ok (.aload_n 0, 1) := by decide +kernel
theorem dX3_readNumber_1 : decode cX3_readNumber 1 = .ok (.getfield 32, 3) := by decide +kernel
theorem dX3_readNumber_4 : decode cX3_readNumber 4 = .ok (.iconst 2, 1) := by decide +kernel
theorem dX3_readNumber_5 : decode cX3_readNumber 5 = .ok (.if_icmp .ne 10, 3) := by decide +kernel
theorem dX3_readNumber_8 : decode cX3_readNumber 8 = .ok (.aload_n 0, 1) := by decide +kernel
theorem dX3_readNumber_9 : decode cX3_readNumber 9 = .ok (.invokevirtual 86, 3) := by decide +kernel
theorem dX3_readNumber_12 : decode cX3_readNumber 12 = .ok (.goto 6, 3) := by decide +kernel
theorem dX3_readNumber_15 : decode cX3_readNumber 15 = .ok (.sipush 10000, 3) := by decide +kernel
theorem dX3_readNumber_18 : decode cX3_readNumber 18 = .ok (.istore_n 2, 1) := by decide +kernel
theorem dX3_readNumber_19 : decode cX3_readNumber 19 = .ok (.iload_n 2, 1) := by decide +kernel
theorem dX3_readNumber_20 : decode cX3_readNumber 20 = .ok (.iload_n 1, 1) := by decide +kernel
theorem dX3_readNumber_21 : decode cX3_readNumber 21 = .ok (.if_icmp .le 5, 3) := by decide +kernel
theorem dX3_readNumber_24 : decode cX3_readNumber 24 = .ok (.iconst (-1), 1) := by decide +kernel
theorem dX3_readNumber_25 : decode cX3_readNumber 25 = .ok (.ireturn, 1) := by decide +kernel
theorem dX3_readNumber_26 : decode cX3_readNumber 26 = .ok (.aload_n 0, 1) := by decide +kernel
theorem dX3_readNumber_27 : decode cX3_readNumber 27 = .ok (.invokevirtual 22, 3) := by decide +kernel
theorem dX3_readNumber_30 : decode cX3_readNumber 30 = .ok (.iload_n 2, 1) := by decide +kernel
theorem dX3_readNumber_31 : decode cX3_readNumber 31 = .ok (.ireturn, 1) := by decide +kernel
theorem dX3_kindNamed_0 : decode cX3_kindNamed 0 = .ok (.iconst 0, 1) := by decide +kernel
theorem dX3_kindNamed_1 : decode cX3_kindNamed 1 = .ok (.istore_n 1, 1) := by decide +kernel
theorem dX3_kindNamed_2 : decode cX3_kindNamed 2 = .ok (.iload_n 1, 1) := by decide +kernel
theorem dX3_kindNamed_3 : decode cX3_kindNamed 3 = .ok (.bipush 7, 2) := by decide +kernel
theorem dX3_kindNamed_5 : decode cX3_kindNamed 5 = .ok (.if_icmp .ge 22, 3) := by decide +kernel
theorem dX3_kindNamed_8 : decode cX3_kindNamed 8 = .ok (.aload_n 0, 1) := by decide +kernel
theorem dX3_kindNamed_9 : decode cX3_kindNamed 9 = .ok (.iload_n 1, 1) := by decide +kernel
theorem dX3_kindNamed_10 : decode cX3_kindNamed 10 = .ok (.invokestatic 89, 3) := by decide +kernel
theorem dX3_kindNamed_13 : decode cX3_kindNamed 13 = .ok (.invokevirtual 45, 3) := by decide +kernel
theorem dX3_kindNamed_16 : decode cX3_kindNamed 16 = .ok (.ifCond .eq 5, 3) := by decide +kernel
theorem dX3_kindNamed_19 : decode cX3_kindNamed 19 = .ok (.iload_n 1, 1) := by decide +kernel
theorem dX3_kindNamed_20 : decode cX3_kindNamed 20 = .ok (.ireturn, 1) := by decide +kernel
theorem dX3_kindNamed_21 : decode cX3_kindNamed 21 = .ok (.iinc 1 1, 3) := by decide +kernel
theorem dX3_kindNamed_24 : decode cX3_kindNamed 24 = .ok (.goto (-22), 3) := by decide +kernel
theorem dX3_kindNamed_27 : decode cX3_kindNamed 27 = .ok (.iconst (-1), 1) := by decide +kernel
theorem dX3_kindNamed_28 : decode cX3_kindNamed 28 = .ok (.ireturn, 1) := by decide +kernel
theorem dX3_nameOf_0 : decode cX3_nameOf 0 = .ok (.iload_n 0, 1) := by decide +kernel
theorem dX3_nameOf_1 : decode cX3_nameOf 1 = .ok (.tableswitch 57 1 6 #[39, 42, 45, 48, 51, 54], 39) := by decide +kernel
theorem dX3_nameOf_40 : decode cX3_nameOf 40 = .ok (.ldc 93, 2) := by decide +kernel
theorem dX3_nameOf_42 : decode cX3_nameOf 42 = .ok (.areturn, 1) := by decide +kernel
theorem dX3_nameOf_43 : decode cX3_nameOf 43 = .ok (.ldc 95, 2) := by decide +kernel
theorem dX3_nameOf_45 : decode cX3_nameOf 45 = .ok (.areturn, 1) := by decide +kernel
theorem dX3_nameOf_46 : decode cX3_nameOf 46 = .ok (.ldc 97, 2) := by decide +kernel
theorem dX3_nameOf_48 : decode cX3_nameOf 48 = .ok (.areturn, 1) := by decide +kernel
theorem dX3_nameOf_49 : decode cX3_nameOf 49 = .ok (.ldc 99, 2) := by decide +kernel
theorem dX3_nameOf_51 : decode cX3_nameOf 51 = .ok (.areturn, 1) := by decide +kernel
theorem dX3_nameOf_52 : decode cX3_nameOf 52 = .ok (.ldc 101, 2) := by decide +kernel
theorem dX3_nameOf_54 : decode cX3_nameOf 54 = .ok (.areturn, 1) := by decide +kernel
theorem dX3_nameOf_55 : decode cX3_nameOf 55 = .ok (.ldc 103, 2) := by decide +kernel
theorem dX3_nameOf_57 : decode cX3_nameOf 57 = .ok (.areturn, 1) := by decide +kernel
theorem dX3_nameOf_58 : decode cX3_nameOf 58 = .ok (.ldc 105, 2) := by decide +kernel
theorem dX3_nameOf_60 : decode cX3_nameOf 60 = .ok (.areturn, 1) := by decide +kernel
theorem dX3_isWord_0 : decode cX3_isWord 0 = .ok (.aload_n 0, 1) := by decide +kernel
theorem dX3_isWord_1 : decode cX3_isWord 1 = .ok (.getfield 32, 3) := by decide +kernel
theorem dX3_isWord_4 : decode cX3_isWord 4 = .ok (.iconst 1, 1) := by decide +kernel
theorem dX3_isWord_5 : decode cX3_isWord 5 = .ok (.if_icmp .ne 19, 3) := by decide +kernel
theorem dX3_isWord_8 : decode cX3_isWord 8 = .ok (.aload_n 0, 1) := by decide +kernel
theorem dX3_isWord_9 : decode cX3_isWord 9 = .ok (.getfield 19, 3) := by decide +kernel
theorem dX3_isWord_12 : decode cX3_isWord 12 = .ok (.aload_n 0, 1) := by decide +kernel
theorem dX3_isWord_13 : decode cX3_isWord 13 = .ok (.getfield 29, 3) := by decide +kernel
theorem dX3_isWord_16 : decode cX3_isWord 16 = .ok (.isub, 1) := by decide +kernel
theorem dX3_isWord_17 : decode cX3_isWord 17 = .ok (.aload_n 1, 1) := by decide +kernel
theorem dX3_isWord_18 : decode cX3_isWord 18 = .ok (.invokevirtual 107, 3) := by decide +kernel
theorem dX3_isWord_21 : decode cX3_isWord 21 = .ok (.if_icmp .eq 5, 3) := by decide +kernel
theorem dX3_isWord_24 : decode cX3_isWord 24 = .ok (.iconst 0, 1) := by decide +kernel
theorem dX3_isWord_25 : decode cX3_isWord 25 = .ok (.ireturn, 1) := by decide +kernel
theorem dX3_isWord_26 : decode cX3_isWord 26 = .ok (.iconst 0, 1) := by decide +kernel
theorem dX3_isWord_27 : decode cX3_isWord 27 = .ok (.istore_n 2, 1) := by decide +kernel
theorem dX3_isWord_28 : decode cX3_isWord 28 = .ok (.iload_n 2, 1) := by decide +kernel
theorem dX3_isWord_29 : decode cX3_isWord 29 = .ok (.aload_n 1, 1) := by decide +kernel
theorem dX3_isWord_30 : decode cX3_isWord 30 = .ok (.invokevirtual 107, 3) := by decide +kernel
theorem dX3_isWord_33 : decode cX3_isWord 33 = .ok (.if_icmp .ge 30, 3) := by decide +kernel
theorem dX3_isWord_36 : decode cX3_isWord 36 = .ok (.aload_n 0, 1) := by decide +kernel
theorem dX3_isWord_37 : decode cX3_isWord 37 = .ok (.getfield 9, 3) := by decide +kernel
theorem dX3_isWord_40 : decode cX3_isWord 40 = .ok (.aload_n 0, 1) := by decide +kernel
theorem dX3_isWord_41 : decode cX3_isWord 41 = .ok (.getfield 29, 3) := by decide +kernel
theorem dX3_isWord_44 : decode cX3_isWord 44 = .ok (.iload_n 2, 1) := by decide +kernel
theorem dX3_isWord_45 : decode cX3_isWord 45 = .ok (.iadd, 1) := by decide +kernel
theorem dX3_isWord_46 : decode cX3_isWord 46 = .ok (.iaload, 1) := by decide +kernel
theorem dX3_isWord_47 : decode cX3_isWord 47 = .ok (.aload_n 1, 1) := by decide +kernel
theorem dX3_isWord_48 : decode cX3_isWord 48 = .ok (.iload_n 2, 1) := by decide +kernel
theorem dX3_isWord_49 : decode cX3_isWord 49 = .ok (.invokevirtual 111, 3) := by decide +kernel
theorem dX3_isWord_52 : decode cX3_isWord 52 = .ok (.if_icmp .eq 5, 3) := by decide +kernel
theorem dX3_isWord_55 : decode cX3_isWord 55 = .ok (.iconst 0, 1) := by decide +kernel
theorem dX3_isWord_56 : decode cX3_isWord 56 = .ok (.ireturn, 1) := by decide +kernel
theorem dX3_isWord_57 : decode cX3_isWord 57 = .ok (.iinc 2 1, 3) := by decide +kernel
theorem dX3_isWord_60 : decode cX3_isWord 60 = .ok (.goto (-32), 3) := by decide +kernel
theorem dX3_isWord_63 : decode cX3_isWord 63 = .ok (.iconst 1, 1) := by decide +kernel
theorem dX3_isWord_64 : decode cX3_isWord 64 = .ok (.ireturn, 1) := by decide +kernel
theorem dX3_step_0 : decode cX3_step 0 = .ok (.aload_n 0, 1) := by decide +kernel
theorem dX3_step_1 : decode cX3_step 1 = .ok (.aload_n 0, 1) := by decide +kernel
theorem dX3_step_2 : decode cX3_step 2 = .ok (.getfield 19, 3) := by decide +kernel
theorem dX3_step_5 : decode cX3_step 5 = .ok (.putfield 29, 3) := by decide +kernel
theorem dX3_step_8 : decode cX3_step 8 = .ok (.aload_n 0, 1) := by decide +kernel
theorem dX3_step_9 : decode cX3_step 9 = .ok (.getfield 29, 3) := by decide +kernel
theorem dX3_step_12 : decode cX3_step 12 = .ok (.aload_n 0, 1) := by decide +kernel
theorem dX3_step_13 : decode cX3_step 13 = .ok (.getfield 15, 3) := by decide +kernel
theorem dX3_step_16 : decode cX3_step 16 = .ok (.if_icmp .ge 30, 3) := by decide +kernel
theorem dX3_step_19 : decode cX3_step 19 = .ok (.aload_n 0, 1) := by decide +kernel
theorem dX3_step_20 : decode cX3_step 20 = .ok (.getfield 9, 3) := by decide +kernel
theorem dX3_step_23 : decode cX3_step 23 = .ok (.aload_n 0, 1) := by decide +kernel
theorem dX3_step_24 : decode cX3_step 24 = .ok (.getfield 29, 3) := by decide +kernel
theorem dX3_step_27 : decode cX3_step 27 = .ok (.iaload, 1) := by decide +kernel
theorem dX3_step_28 : decode cX3_step 28 = .ok (.bipush 32, 2) := by decide +kernel
theorem dX3_step_30 : decode cX3_step 30 = .ok (.if_icmp .ne 16, 3) := by decide +kernel
theorem dX3_step_33 : decode cX3_step 33 = .ok (.aload_n 0, 1) := by decide +kernel
theorem dX3_step_34 : decode cX3_step 34 = .ok (.dup, 1) := by decide +kernel
theorem dX3_step_35 : decode cX3_step 35 = .ok (.getfield 29, 3) := by decide +kernel
theorem dX3_step_38 : decode cX3_step 38 = .ok (.iconst 1, 1) := by decide +kernel
theorem dX3_step_39 : decode cX3_step 39 = .ok (.iadd, 1) := by decide +kernel
theorem dX3_step_40 : decode cX3_step 40 = .ok (.putfield 29, 3) := by decide +kernel
theorem dX3_step_43 : decode cX3_step 43 = .ok (.goto (-35), 3) := by decide +kernel
theorem dX3_step_46 : decode cX3_step 46 = .ok (.aload_n 0, 1) := by decide +kernel
theorem dX3_step_47 : decode cX3_step 47 = .ok (.aload_n 0, 1) := by decide +kernel
theorem dX3_step_48 : decode cX3_step 48 = .ok (.aload_n 0, 1) := by decide +kernel
theorem dX3_step_49 : decode cX3_step 49 = .ok (.getfield 29, 3) := by decide +kernel
theorem dX3_step_52 : decode cX3_step 52 = .ok (.invokevirtual 115, 3) := by decide +kernel
theorem dX3_step_55 : decode cX3_step 55 = .ok (.putfield 32, 3) := by decide +kernel
theorem dX3_step_58 : decode cX3_step 58 = .ok (.aload_n 0, 1) := by decide +kernel
theorem dX3_step_59 : decode cX3_step 59 = .ok (.aload_n 0, 1) := by decide +kernel
theorem dX3_step_60 : decode cX3_step 60 = .ok (.getfield 32, 3) := by decide +kernel
theorem dX3_step_63 : decode cX3_step 63 = .ok (.ifCond .ne 10, 3) := by decide +kernel
theorem dX3_step_66 : decode cX3_step 66 = .ok (.aload_n 0, 1) := by decide +kernel
theorem dX3_step_67 : decode cX3_step 67 = .ok (.getfield 29, 3) := by decide +kernel
theorem dX3_step_70 : decode cX3_step 70 = .ok (.goto 9, 3) := by decide +kernel
theorem dX3_step_73 : decode cX3_step 73 = .ok (.aload_n 0, 1) := by decide +kernel
theorem dX3_step_74 : decode cX3_step 74 = .ok (.getfield 29, 3) := by decide +kernel
theorem dX3_step_77 : decode cX3_step 77 = .ok (.iconst 1, 1) := by decide +kernel
theorem dX3_step_78 : decode cX3_step 78 = .ok (.iadd, 1) := by decide +kernel
theorem dX3_step_79 : decode cX3_step 79 = .ok (.putfield 19, 3) := by decide +kernel
theorem dX3_step_82 : decode cX3_step 82 = .ok (.aload_n 0, 1) := by decide +kernel
theorem dX3_step_83 : decode cX3_step 83 = .ok (.getfield 32, 3) := by decide +kernel
theorem dX3_step_86 : decode cX3_step 86 = .ok (.iconst 1, 1) := by decide +kernel
theorem dX3_step_87 : decode cX3_step 87 = .ok (.if_icmp .eq 11, 3) := by decide +kernel
theorem dX3_step_90 : decode cX3_step 90 = .ok (.aload_n 0, 1) := by decide +kernel
theorem dX3_step_91 : decode cX3_step 91 = .ok (.getfield 32, 3) := by decide +kernel
theorem dX3_step_94 : decode cX3_step 94 = .ok (.iconst 2, 1) := by decide +kernel
theorem dX3_step_95 : decode cX3_step 95 = .ok (.if_icmp .ne 7, 3) := by decide +kernel
theorem dX3_step_98 : decode cX3_step 98 = .ok (.iconst 1, 1) := by decide +kernel
theorem dX3_step_99 : decode cX3_step 99 = .ok (.goto 4, 3) := by decide +kernel
theorem dX3_step_102 : decode cX3_step 102 = .ok (.iconst 0, 1) := by decide +kernel
theorem dX3_step_103 : decode cX3_step 103 = .ok (.istore_n 1, 1) := by decide +kernel
theorem dX3_step_104 : decode cX3_step 104 = .ok (.iload_n 1, 1) := by decide +kernel
theorem dX3_step_105 : decode cX3_step 105 = .ok (.ifCond .eq 42, 3) := by decide +kernel
theorem dX3_step_108 : decode cX3_step 108 = .ok (.aload_n 0, 1) := by decide +kernel
theorem dX3_step_109 : decode cX3_step 109 = .ok (.getfield 19, 3) := by decide +kernel
theorem dX3_step_112 : decode cX3_step 112 = .ok (.aload_n 0, 1) := by decide +kernel
theorem dX3_step_113 : decode cX3_step 113 = .ok (.getfield 15, 3) := by decide +kernel
theorem dX3_step_116 : decode cX3_step 116 = .ok (.if_icmp .ge 31, 3) := by decide +kernel
theorem dX3_step_119 : decode cX3_step 119 = .ok (.aload_n 0, 1) := by decide +kernel
theorem dX3_step_120 : decode cX3_step 120 = .ok (.aload_n 0, 1) := by decide +kernel
theorem dX3_step_121 : decode cX3_step 121 = .ok (.getfield 19, 3) := by decide +kernel
theorem dX3_step_124 : decode cX3_step 124 = .ok (.invokevirtual 115, 3) := by decide +kernel
theorem dX3_step_127 : decode cX3_step 127 = .ok (.aload_n 0, 1) := by decide +kernel
theorem dX3_step_128 : decode cX3_step 128 = .ok (.getfield 32, 3) := by decide +kernel
theorem dX3_step_131 : decode cX3_step 131 = .ok (.if_icmp .ne 16, 3) := by decide +kernel
theorem dX3_step_134 : decode cX3_step 134 = .ok (.aload_n 0, 1) := by decide +kernel
theorem dX3_step_135 : decode cX3_step 135 = .ok (.dup, 1) := by decide +kernel
theorem dX3_step_136 : decode cX3_step 136 = .ok (.getfield 19, 3) := by decide +kernel
theorem dX3_step_139 : decode cX3_step 139 = .ok (.iconst 1, 1) := by decide +kernel
theorem dX3_step_140 : decode cX3_step 140 = .ok (.iadd, 1) := by decide +kernel
theorem dX3_step_141 : decode cX3_step 141 = .ok (.putfield 19, 3) := by decide +kernel
theorem dX3_step_144 : decode cX3_step 144 = .ok (.goto (-40), 3) := by decide +kernel
theorem dX3_step_147 : decode cX3_step 147 = .ok (.return_, 1) := by decide +kernel
theorem dX3_sortAt_0 : decode cX3_sortAt 0 = .ok (.iload_n 1, 1) := by decide +kernel
theorem dX3_sortAt_1 : decode cX3_sortAt 1 = .ok (.aload_n 0, 1) := by decide +kernel
theorem dX3_sortAt_2 : decode cX3_sortAt 2 = .ok (.getfield 15, 3) := by decide +kernel
theorem dX3_sortAt_5 : decode cX3_sortAt 5 = .ok (.if_icmp .lt 5, 3) := by decide +kernel
theorem dX3_sortAt_8 : decode cX3_sortAt 8 = .ok (.iconst 0, 1) := by decide +kernel
theorem dX3_sortAt_9 : decode cX3_sortAt 9 = .ok (.ireturn, 1) := by decide +kernel
theorem dX3_sortAt_10 : decode cX3_sortAt 10 = .ok (.aload_n 0, 1) := by decide +kernel
theorem dX3_sortAt_11 : decode cX3_sortAt 11 = .ok (.getfield 9, 3) := by decide +kernel
theorem dX3_sortAt_14 : decode cX3_sortAt 14 = .ok (.iload_n 1, 1) := by decide +kernel
theorem dX3_sortAt_15 : decode cX3_sortAt 15 = .ok (.iaload, 1) := by decide +kernel
theorem dX3_sortAt_16 : decode cX3_sortAt 16 = .ok (.bipush 97, 2) := by decide +kernel
theorem dX3_sortAt_18 : decode cX3_sortAt 18 = .ok (.if_icmp .lt 16, 3) := by decide +kernel
theorem dX3_sortAt_21 : decode cX3_sortAt 21 = .ok (.aload_n 0, 1) := by decide +kernel
theorem dX3_sortAt_22 : decode cX3_sortAt 22 = .ok (.getfield 9, 3) := by decide +kernel
theorem dX3_sortAt_25 : decode cX3_sortAt 25 = .ok (.iload_n 1, 1) := by decide +kernel
theorem dX3_sortAt_26 : decode cX3_sortAt 26 = .ok (.iaload, 1) := by decide +kernel
theorem dX3_sortAt_27 : decode cX3_sortAt 27 = .ok (.bipush 122, 2) := by decide +kernel
theorem dX3_sortAt_29 : decode cX3_sortAt 29 = .ok (.if_icmp .gt 5, 3) := by decide +kernel
theorem dX3_sortAt_32 : decode cX3_sortAt 32 = .ok (.iconst 1, 1) := by decide +kernel
theorem dX3_sortAt_33 : decode cX3_sortAt 33 = .ok (.ireturn, 1) := by decide +kernel
theorem dX3_sortAt_34 : decode cX3_sortAt 34 = .ok (.aload_n 0, 1) := by decide +kernel
theorem dX3_sortAt_35 : decode cX3_sortAt 35 = .ok (.getfield 9, 3) := by decide +kernel
theorem dX3_sortAt_38 : decode cX3_sortAt 38 = .ok (.iload_n 1, 1) := by decide +kernel
theorem dX3_sortAt_39 : decode cX3_sortAt 39 = .ok (.iaload, 1) := by decide +kernel
theorem dX3_sortAt_40 : decode cX3_sortAt 40 = .ok (.bipush 48, 2) := by decide +kernel
theorem dX3_sortAt_42 : decode cX3_sortAt 42 = .ok (.if_icmp .lt 16, 3) := by decide +kernel
theorem dX3_sortAt_45 : decode cX3_sortAt 45 = .ok (.aload_n 0, 1) := by decide +kernel
theorem dX3_sortAt_46 : decode cX3_sortAt 46 = .ok (.getfield 9, 3) := by decide +kernel
theorem dX3_sortAt_49 : decode cX3_sortAt 49 = .ok (.iload_n 1, 1) := by decide +kernel
theorem dX3_sortAt_50 : decode cX3_sortAt 50 = .ok (.iaload, 1) := by decide +kernel
theorem dX3_sortAt_51 : decode cX3_sortAt 51 = .ok (.bipush 57, 2) := by decide +kernel
theorem dX3_sortAt_53 : decode cX3_sortAt 53 = .ok (.if_icmp .gt 5, 3) := by decide +kernel
theorem dX3_sortAt_56 : decode cX3_sortAt 56 = .ok (.iconst 2, 1) := by decide +kernel
theorem dX3_sortAt_57 : decode cX3_sortAt 57 = .ok (.ireturn, 1) := by decide +kernel
theorem dX3_sortAt_58 : decode cX3_sortAt 58 = .ok (.aload_n 0, 1) := by decide +kernel
theorem dX3_sortAt_59 : decode cX3_sortAt 59 = .ok (.getfield 9, 3) := by decide +kernel
theorem dX3_sortAt_62 : decode cX3_sortAt 62 = .ok (.iload_n 1, 1) := by decide +kernel
theorem dX3_sortAt_63 : decode cX3_sortAt 63 = .ok (.iaload, 1) := by decide +kernel
theorem dX3_sortAt_64 : decode cX3_sortAt 64 = .ok (.bipush 59, 2) := by decide +kernel
theorem dX3_sortAt_66 : decode cX3_sortAt 66 = .ok (.if_icmp .ne 7, 3) := by decide +kernel
theorem dX3_sortAt_69 : decode cX3_sortAt 69 = .ok (.iconst 3, 1) := by decide +kernel
theorem dX3_sortAt_70 : decode cX3_sortAt 70 = .ok (.goto 4, 3) := by decide +kernel
theorem dX3_sortAt_73 : decode cX3_sortAt 73 = .ok (.iconst 4, 1) := by decide +kernel
theorem dX3_sortAt_74 : decode cX3_sortAt 74 = .ok (.ireturn, 1) := by decide +kernel
theorem dX3_valueOfDigits_0 : decode cX3_valueOfDigits 0 = .ok (.iconst 0, 1) := by decide +kernel
theorem dX3_valueOfDigits_1 : decode cX3_valueOfDigits 1 = .ok (.istore_n 1, 1) := by decide +kernel
theorem dX3_valueOfDigits_2 : decode cX3_valueOfDigits 2 = .ok (.aload_n 0, 1) := by decide +kernel
theorem dX3_valueOfDigits_3 : decode cX3_valueOfDigits 3 = .ok (.getfield 29, 3) := by decide +kernel
theorem dX3_valueOfDigits_6 : decode cX3_valueOfDigits 6 = .ok (.istore_n 2, 1) := by decide +kernel
theorem dX3_valueOfDigits_7 : decode cX3_valueOfDigits 7 = .ok (.iload_n 2, 1) := by decide +kernel
theorem dX3_valueOfDigits_8 : decode cX3_valueOfDigits 8 = .ok (.aload_n 0, 1) := by decide +kernel
theorem dX3_valueOfDigits_9 : decode cX3_valueOfDigits 9 = .ok (.getfield 19, 3) := by decide +kernel
theorem dX3_valueOfDigits_12 : decode cX3_valueOfDigits 12 = .ok (.if_icmp .ge 30, 3) := by decide +kernel
theorem dX3_valueOfDigits_15 : decode cX3_valueOfDigits 15 = .ok (.bipush 10, 2) := by decide +kernel
theorem dX3_valueOfDigits_17 : decode cX3_valueOfDigits 17 = .ok (.iload_n 1, 1) := by decide +kernel
theorem dX3_valueOfDigits_18 : decode cX3_valueOfDigits 18 = .ok (.imul, 1) := by decide +kernel
theorem dX3_valueOfDigits_19 : decode cX3_valueOfDigits 19 = .ok (.aload_n 0, 1) := by decide +kernel
theorem dX3_valueOfDigits_20 : decode cX3_valueOfDigits 20 = .ok (.getfield 9, 3) := by decide +kernel
theorem dX3_valueOfDigits_23 : decode cX3_valueOfDigits 23 = .ok (.iload_n 2, 1) := by decide +kernel
theorem dX3_valueOfDigits_24 : decode cX3_valueOfDigits 24 = .ok (.iaload, 1) := by decide +kernel
theorem dX3_valueOfDigits_25 : decode cX3_valueOfDigits 25 = .ok (.iadd, 1) := by decide +kernel
theorem dX3_valueOfDigits_26 : decode cX3_valueOfDigits 26 = .ok (.bipush 48, 2) := by decide +kernel
theorem dX3_valueOfDigits_28 : decode cX3_valueOfDigits 28 = .ok (.isub, 1) := by decide +kernel
theorem dX3_valueOfDigits_29 : decode cX3_valueOfDigits 29 = .ok (.sipush 10000, 3) := by decide +kernel
theorem dX3_valueOfDigits_32 : decode cX3_valueOfDigits 32 = .ok (.invokestatic 118, 3) := by decide +kernel
theorem dX3_valueOfDigits_35 : decode cX3_valueOfDigits 35 = .ok (.istore_n 1, 1) := by decide +kernel
theorem dX3_valueOfDigits_36 : decode cX3_valueOfDigits 36 = .ok (.iinc 2 1, 3) := by decide +kernel
theorem dX3_valueOfDigits_39 : decode cX3_valueOfDigits 39 = .ok (.goto (-32), 3) := by decide +kernel
theorem dX3_valueOfDigits_42 : decode cX3_valueOfDigits 42 = .ok (.iload_n 1, 1) := by decide +kernel
theorem dX3_valueOfDigits_43 : decode cX3_valueOfDigits 43 = .ok (.ireturn, 1) := by decide +kernel
theorem dJ6_bitCount_0f7a4_0 : decode cJ6_bitCount_0f7a4 0 = .ok (.iload_n 0, 1) := by decide +kernel
theorem dJ6_bitCount_0f7a4_1 : decode cJ6_bitCount_0f7a4 1 = .ok (.iload_n 0, 1) := by decide +kernel
theorem dJ6_bitCount_0f7a4_2 : decode cJ6_bitCount_0f7a4 2 = .ok (.iconst 1, 1) := by decide +kernel
theorem dJ6_bitCount_0f7a4_3 : decode cJ6_bitCount_0f7a4 3 = .ok (.iushr, 1) := by decide +kernel
theorem dJ6_bitCount_0f7a4_4 : decode cJ6_bitCount_0f7a4 4 = .ok (.ldc_w 265, 3) := by decide +kernel
theorem dJ6_bitCount_0f7a4_7 : decode cJ6_bitCount_0f7a4 7 = .ok (.iand, 1) := by decide +kernel
theorem dJ6_bitCount_0f7a4_8 : decode cJ6_bitCount_0f7a4 8 = .ok (.isub, 1) := by decide +kernel
theorem dJ6_bitCount_0f7a4_9 : decode cJ6_bitCount_0f7a4 9 = .ok (.istore_n 0, 1) := by decide +kernel
theorem dJ6_bitCount_0f7a4_10 : decode cJ6_bitCount_0f7a4 10 = .ok (.iload_n 0, 1) := by decide +kernel
theorem dJ6_bitCount_0f7a4_11 : decode cJ6_bitCount_0f7a4 11 = .ok (.ldc_w 266, 3) := by decide +kernel
theorem dJ6_bitCount_0f7a4_14 : decode cJ6_bitCount_0f7a4 14 = .ok (.iand, 1) := by decide +kernel
theorem dJ6_bitCount_0f7a4_15 : decode cJ6_bitCount_0f7a4 15 = .ok (.iload_n 0, 1) := by decide +kernel
theorem dJ6_bitCount_0f7a4_16 : decode cJ6_bitCount_0f7a4 16 = .ok (.iconst 2, 1) := by decide +kernel
theorem dJ6_bitCount_0f7a4_17 : decode cJ6_bitCount_0f7a4 17 = .ok (.iushr, 1) := by decide +kernel
theorem dJ6_bitCount_0f7a4_18 : decode cJ6_bitCount_0f7a4 18 = .ok (.ldc_w 266, 3) := by decide +kernel
theorem dJ6_bitCount_0f7a4_21 : decode cJ6_bitCount_0f7a4 21 = .ok (.iand, 1) := by decide +kernel
theorem dJ6_bitCount_0f7a4_22 : decode cJ6_bitCount_0f7a4 22 = .ok (.iadd, 1) := by decide +kernel
theorem dJ6_bitCount_0f7a4_23 : decode cJ6_bitCount_0f7a4 23 = .ok (.istore_n 0, 1) := by decide +kernel
theorem dJ6_bitCount_0f7a4_24 : decode cJ6_bitCount_0f7a4 24 = .ok (.iload_n 0, 1) := by decide +kernel
theorem dJ6_bitCount_0f7a4_25 : decode cJ6_bitCount_0f7a4 25 = .ok (.iload_n 0, 1) := by decide +kernel
theorem dJ6_bitCount_0f7a4_26 : decode cJ6_bitCount_0f7a4 26 = .ok (.iconst 4, 1) := by decide +kernel
theorem dJ6_bitCount_0f7a4_27 : decode cJ6_bitCount_0f7a4 27 = .ok (.iushr, 1) := by decide +kernel
theorem dJ6_bitCount_0f7a4_28 : decode cJ6_bitCount_0f7a4 28 = .ok (.iadd, 1) := by decide +kernel
theorem dJ6_bitCount_0f7a4_29 : decode cJ6_bitCount_0f7a4 29 = .ok (.ldc_w 267, 3) := by decide +kernel
theorem dJ6_bitCount_0f7a4_32 : decode cJ6_bitCount_0f7a4 32 = .ok (.iand, 1) := by decide +kernel
theorem dJ6_bitCount_0f7a4_33 : decode cJ6_bitCount_0f7a4 33 = .ok (.istore_n 0, 1) := by decide +kernel
theorem dJ6_bitCount_0f7a4_34 : decode cJ6_bitCount_0f7a4 34 = .ok (.iload_n 0, 1) := by decide +kernel
theorem dJ6_bitCount_0f7a4_35 : decode cJ6_bitCount_0f7a4 35 = .ok (.iload_n 0, 1) := by decide +kernel
theorem dJ6_bitCount_0f7a4_36 : decode cJ6_bitCount_0f7a4 36 = .ok (.bipush 8, 2) := by decide +kernel
theorem dJ6_bitCount_0f7a4_38 : decode cJ6_bitCount_0f7a4 38 = .ok (.iushr, 1) := by decide +kernel
theorem dJ6_bitCount_0f7a4_39 : decode cJ6_bitCount_0f7a4 39 = .ok (.iadd, 1) := by decide +kernel
theorem dJ6_bitCount_0f7a4_40 : decode cJ6_bitCount_0f7a4 40 = .ok (.istore_n 0, 1) := by decide +kernel
theorem dJ6_bitCount_0f7a4_41 : decode cJ6_bitCount_0f7a4 41 = .ok (.iload_n 0, 1) := by decide +kernel
theorem dJ6_bitCount_0f7a4_42 : decode cJ6_bitCount_0f7a4 42 = .ok (.iload_n 0, 1) := by decide +kernel
theorem dJ6_bitCount_0f7a4_43 : decode cJ6_bitCount_0f7a4 43 = .ok (.bipush 16, 2) := by decide +kernel
theorem dJ6_bitCount_0f7a4_45 : decode cJ6_bitCount_0f7a4 45 = .ok (.iushr, 1) := by decide +kernel
theorem dJ6_bitCount_0f7a4_46 : decode cJ6_bitCount_0f7a4 46 = .ok (.iadd, 1) := by decide +kernel
theorem dJ6_bitCount_0f7a4_47 : decode cJ6_bitCount_0f7a4 47 = .ok (.istore_n 0, 1) := by decide +kernel
theorem dJ6_bitCount_0f7a4_48 : decode cJ6_bitCount_0f7a4 48 = .ok (.iload_n 0, 1) := by decide +kernel
theorem dJ6_bitCount_0f7a4_49 : decode cJ6_bitCount_0f7a4 49 = .ok (.bipush 63, 2) := by decide +kernel
theorem dJ6_bitCount_0f7a4_51 : decode cJ6_bitCount_0f7a4 51 = .ok (.iand, 1) := by decide +kernel
theorem dJ6_bitCount_0f7a4_52 : decode cJ6_bitCount_0f7a4 52 = .ok (.ireturn, 1) := by decide +kernel
theorem dJ9_abs_0f7a4_0 : decode cJ9_abs_0f7a4 0 = .ok (.iload_n 0, 1) := by decide +kernel
theorem dJ9_abs_0f7a4_1 : decode cJ9_abs_0f7a4 1 = .ok (.ifCond .ge 8, 3) := by decide +kernel
theorem dJ9_abs_0f7a4_4 : decode cJ9_abs_0f7a4 4 = .ok (.iload_n 0, 1) := by decide +kernel
theorem dJ9_abs_0f7a4_5 : decode cJ9_abs_0f7a4 5 = .ok (.ineg, 1) := by decide +kernel
theorem dJ9_abs_0f7a4_6 : decode cJ9_abs_0f7a4 6 = .ok (.goto 4, 3) := by decide +kernel
theorem dJ9_abs_0f7a4_9 : decode cJ9_abs_0f7a4 9 = .ok (.iload_n 0, 1) := by decide +kernel
theorem dJ9_abs_0f7a4_10 : decode cJ9_abs_0f7a4 10 = .ok (.ireturn, 1) := by decide +kernel
theorem dJ9_max_7cf53_0 : decode cJ9_max_7cf53 0 = .ok (.iload_n 0, 1) := by decide +kernel
theorem dJ9_max_7cf53_1 : decode cJ9_max_7cf53 1 = .ok (.iload_n 1, 1) := by decide +kernel
theorem dJ9_max_7cf53_2 : decode cJ9_max_7cf53 2 = .ok (.if_icmp .lt 7, 3) := by decide +kernel
theorem dJ9_max_7cf53_5 : decode cJ9_max_7cf53 5 = .ok (.iload_n 0, 1) := by decide +kernel
theorem dJ9_max_7cf53_6 : decode cJ9_max_7cf53 6 = .ok (.goto 4, 3) := by decide +kernel
theorem dJ9_max_7cf53_9 : decode cJ9_max_7cf53 9 = .ok (.iload_n 1, 1) := by decide +kernel
theorem dJ9_max_7cf53_10 : decode cJ9_max_7cf53 10 = .ok (.ireturn, 1) := by decide +kernel
theorem dJ9_min_7cf53_0 : decode cJ9_min_7cf53 0 = .ok (.iload_n 0, 1) := by decide +kernel
theorem dJ9_min_7cf53_1 : decode cJ9_min_7cf53 1 = .ok (.iload_n 1, 1) := by decide +kernel
theorem dJ9_min_7cf53_2 : decode cJ9_min_7cf53 2 = .ok (.if_icmp .gt 7, 3) := by decide +kernel
theorem dJ9_min_7cf53_5 : decode cJ9_min_7cf53 5 = .ok (.iload_n 0, 1) := by decide +kernel
theorem dJ9_min_7cf53_6 : decode cJ9_min_7cf53 6 = .ok (.goto 4, 3) := by decide +kernel
theorem dJ9_min_7cf53_9 : decode cJ9_min_7cf53 9 = .ok (.iload_n 1, 1) := by decide +kernel
theorem dJ9_min_7cf53_10 : decode cJ9_min_7cf53 10 = .ok (.ireturn, 1) := by decide +kernel
theorem dJ0_length_8abf5_0 : decode cJ0_length_8abf5 0 = .ok (.aload_n 0, 1) := by decide +kernel
theorem dJ0_length_8abf5_1 : decode cJ0_length_8abf5 1 = .ok (.getfield 9, 3) := by decide +kernel
theorem dJ0_length_8abf5_4 : decode cJ0_length_8abf5 4 = .ok (.arraylength, 1) := by decide +kernel
theorem dJ0_length_8abf5_5 : decode cJ0_length_8abf5 5 = .ok (.aload_n 0, 1) := by decide +kernel
theorem dJ0_length_8abf5_6 : decode cJ0_length_8abf5 6 = .ok (.invokevirtual 335, 3) := by decide +kernel
theorem dJ0_length_8abf5_9 : decode cJ0_length_8abf5 9 = .ok (.ishr, 1) := by decide +kernel
theorem dJ0_length_8abf5_10 : decode cJ0_length_8abf5 10 = .ok (.ireturn, 1) := by decide +kernel
theorem dJ0_charAt_5068e_0 : decode cJ0_charAt_5068e 0 = .ok (.aload_n 0, 1) := by decide +kernel
theorem dJ0_charAt_5068e_1 : decode cJ0_charAt_5068e 1 = .ok (.invokevirtual 492, 3) := by decide +kernel
theorem dJ0_charAt_5068e_4 : decode cJ0_charAt_5068e 4 = .ok (.ifCond .eq 12, 3) := by decide +kernel
theorem dJ0_charAt_5068e_7 : decode cJ0_charAt_5068e 7 = .ok (.aload_n 0, 1) := by decide +kernel
theorem dJ0_charAt_5068e_8 : decode cJ0_charAt_5068e 8 = .ok (.getfield 9, 3) := by decide +kernel
theorem dJ0_charAt_5068e_11 : decode cJ0_charAt_5068e 11 = .ok (.iload_n 1, 1) := by decide +kernel
theorem dJ0_charAt_5068e_12 : decode cJ0_charAt_5068e 12 = .ok (.invokestatic 495, 3) := by decide +kernel
theorem dJ0_charAt_5068e_15 : decode cJ0_charAt_5068e 15 = .ok (.ireturn, 1) := by decide +kernel
theorem dJ0_charAt_5068e_16 : decode cJ0_charAt_5068e 16 = .ok (.aload_n 0, 1) := by decide +kernel
theorem dJ0_charAt_5068e_17 : decode cJ0_charAt_5068e 17 = .ok (.getfield 9, 3) := by decide +kernel
theorem dJ0_charAt_5068e_20 : decode cJ0_charAt_5068e 20 = .ok (.iload_n 1, 1) := by decide +kernel
theorem dJ0_charAt_5068e_21 : decode cJ0_charAt_5068e 21 = .ok (.invokestatic 498, 3) := by decide +kernel
theorem dJ0_charAt_5068e_24 : decode cJ0_charAt_5068e 24 = .ok (.ireturn, 1) := by decide +kernel
theorem dJ0_coder_7d493_0 : decode cJ0_coder_7d493 0 = .ok (.getstatic 38, 3) := by decide +kernel
theorem dJ0_coder_7d493_3 : decode cJ0_coder_7d493 3 = .ok (.ifCond .eq 10, 3) := by decide +kernel
theorem dJ0_coder_7d493_6 : decode cJ0_coder_7d493 6 = .ok (.aload_n 0, 1) := by decide +kernel
theorem dJ0_coder_7d493_7 : decode cJ0_coder_7d493 7 = .ok (.getfield 15, 3) := by decide +kernel
theorem dJ0_coder_7d493_10 : decode cJ0_coder_7d493 10 = .ok (.goto 4, 3) := by decide +kernel
theorem dJ0_coder_7d493_13 : decode cJ0_coder_7d493 13 = .ok (.iconst 1, 1) := by decide +kernel
theorem dJ0_coder_7d493_14 : decode cJ0_coder_7d493 14 = .ok (.ireturn, 1) := by decide +kernel
theorem dJ0_isLatin1_aae02_0 : decode cJ0_isLatin1_aae02 0 = .ok (.getstatic 38, 3) := by decide +kernel
theorem dJ0_isLatin1_aae02_3 : decode cJ0_isLatin1_aae02 3 = .ok (.ifCond .eq 14, 3) := by decide +kernel
theorem dJ0_isLatin1_aae02_6 : decode cJ0_isLatin1_aae02 6 = .ok (.aload_n 0, 1) := by decide +kernel
theorem dJ0_isLatin1_aae02_7 : decode cJ0_isLatin1_aae02 7 = .ok (.getfield 15, 3) := by decide +kernel
theorem dJ0_isLatin1_aae02_10 : decode cJ0_isLatin1_aae02 10 = .ok (.ifCond .ne 7, 3) := by decide +kernel
theorem dJ0_isLatin1_aae02_13 : decode cJ0_isLatin1_aae02 13 = .ok (.iconst 1, 1) := by decide +kernel
theorem dJ0_isLatin1_aae02_14 : decode cJ0_isLatin1_aae02 14 = .ok (.goto 4, 3) := by decide +kernel
theorem dJ0_isLatin1_aae02_17 : decode cJ0_isLatin1_aae02 17 = .ok (.iconst 0, 1) := by decide +kernel
theorem dJ0_isLatin1_aae02_18 : decode cJ0_isLatin1_aae02 18 = .ok (.ireturn, 1) := by decide +kernel
theorem dJ0_checkIndex_df160_0 : decode cJ0_checkIndex_df160 0 = .ok (.iload_n 0, 1) := by decide +kernel
theorem dJ0_checkIndex_df160_1 : decode cJ0_checkIndex_df160 1 = .ok (.iload_n 1, 1) := by decide +kernel
theorem dJ0_checkIndex_df160_2 : decode cJ0_checkIndex_df160 2 = .ok (.getstatic 1053, 3) := by decide +kernel
theorem dJ0_checkIndex_df160_5 : decode cJ0_checkIndex_df160 5 = .ok (.invokestatic 1059, 3) := by decide +kernel
theorem dJ0_checkIndex_df160_8 : decode cJ0_checkIndex_df160 8 = .ok (.pop, 1) := by decide +kernel
theorem dJ0_checkIndex_df160_9 : decode cJ0_checkIndex_df160 9 = .ok (.return_, 1) := by decide +kernel
theorem dJ1_charAt_3b067_0 : decode cJ1_charAt_3b067 0 = .ok (.iload_n 1, 1) := by decide +kernel
theorem dJ1_charAt_3b067_1 : decode cJ1_charAt_3b067 1 = .ok (.aload_n 0, 1) := by decide +kernel
theorem dJ1_charAt_3b067_2 : decode cJ1_charAt_3b067 2 = .ok (.arraylength, 1) := by decide +kernel
theorem dJ1_charAt_3b067_3 : decode cJ1_charAt_3b067 3 = .ok (.invokestatic 9, 3) := by decide +kernel
theorem dJ1_charAt_3b067_6 : decode cJ1_charAt_3b067 6 = .ok (.aload_n 0, 1) := by decide +kernel
theorem dJ1_charAt_3b067_7 : decode cJ1_charAt_3b067 7 = .ok (.iload_n 1, 1) := by decide +kernel
theorem dJ1_charAt_3b067_8 : decode cJ1_charAt_3b067 8 = .ok (.baload, 1) := by decide +kernel
theorem dJ1_charAt_3b067_9 : decode cJ1_charAt_3b067 9 = .ok (.sipush 255, 3) := by decide +kernel
theorem dJ1_charAt_3b067_12 : decode cJ1_charAt_3b067 12 = .ok (.iand, 1) := by decide +kernel
theorem dJ1_charAt_3b067_13 : decode cJ1_charAt_3b067 13 = .ok (.i2c, 1) := by decide +kernel
theorem dJ1_charAt_3b067_14 : decode cJ1_charAt_3b067 14 = .ok (.ireturn, 1) := by decide +kernel
theorem dJ2_getChar_3b067_0 : decode cJ2_getChar_3b067 0 = .ok (.getstatic 44, 3) := by decide +kernel
theorem dJ2_getChar_3b067_3 : decode cJ2_getChar_3b067 3 = .ok (.ifCond .ne 25, 3) := by decide +kernel
theorem dJ2_getChar_3b067_6 : decode cJ2_getChar_3b067 6 = .ok (.iload_n 1, 1) := by decide +kernel
theorem dJ2_getChar_3b067_7 : decode cJ2_getChar_3b067 7 = .ok (.ifCond .lt 11, 3) := by decide +kernel
theorem dJ2_getChar_3b067_10 : decode cJ2_getChar_3b067 10 = .ok (.iload_n 1, 1) := by decide +kernel
theorem dJ2_getChar_3b067_11 : decode cJ2_getChar_3b067 11 = .ok (.aload_n 0, 1) := by decide +kernel
theorem dJ2_getChar_3b067_12 : decode cJ2_getChar_3b067 12 = .ok (.invokestatic 48, 3) := by decide +kernel
theorem dJ2_getChar_3b067_15 : decode cJ2_getChar_3b067 15 = .ok (.if_icmp .lt 13, 3) := by decide +kernel
theorem dJ2_getChar_3b067_18 : decode cJ2_getChar_3b067 18 = .ok (.new 52, 3) := by decide +kernel
theorem dJ2_getChar_3b067_21 : decode cJ2_getChar_3b067 21 = .ok (.dup, 1) := by decide +kernel
theorem dJ2_getChar_3b067_22 : decode cJ2_getChar_3b067 22 = .ok (.ldc 54, 2) := by decide +kernel
theorem dJ2_getChar_3b067_24 : decode cJ2_getChar_3b067 24 = .ok (.invokespecial 56, 3) := by decide +kernel
theorem dJ2_getChar_3b067_27 : decode cJ2_getChar_3b067 27 = .ok (.athrow, 1) := by decide +kernel
theorem dJ2_getChar_3b067_28 : decode cJ2_getChar_3b067 28 = .ok (.iload_n 1, 1) := by decide +kernel
theorem dJ2_getChar_3b067_29 : decode cJ2_getChar_3b067 29 = .ok (.iconst 1, 1) := by decide +kernel
theorem dJ2_getChar_3b067_30 : decode cJ2_getChar_3b067 30 = .ok (.ishl, 1) := by decide +kernel
theorem dJ2_getChar_3b067_31 : decode cJ2_getChar_3b067 31 = .ok (.istore_n 1, 1) := by decide +kernel
theorem dJ2_getChar_3b067_32 : decode cJ2_getChar_3b067 32 = .ok (.aload_n 0, 1) := by decide +kernel
theorem dJ2_getChar_3b067_33 : decode cJ2_getChar_3b067 33 = .ok (.iload_n 1, 1) := by decide +kernel
theorem dJ2_getChar_3b067_34 : decode cJ2_getChar_3b067 34 = .ok (.iinc 1 1, 3) := by decide +kernel
theorem dJ2_getChar_3b067_37 : decode cJ2_getChar_3b067 37 = .ok (.baload, 1) := by decide +kernel
theorem dJ2_getChar_3b067_38 : decode cJ2_getChar_3b067 38 = .ok (.sipush 255, 3) := by decide +kernel
theorem dJ2_getChar_3b067_41 : decode cJ2_getChar_3b067 41 = .ok (.iand, 1) := by decide +kernel
theorem dJ2_getChar_3b067_42 : decode cJ2_getChar_3b067 42 = .ok (.getstatic 59, 3) := by decide +kernel
theorem dJ2_getChar_3b067_45 : decode cJ2_getChar_3b067 45 = .ok (.ishl, 1) := by decide +kernel
theorem dJ2_getChar_3b067_46 : decode cJ2_getChar_3b067 46 = .ok (.aload_n 0, 1) := by decide +kernel
theorem dJ2_getChar_3b067_47 : decode cJ2_getChar_3b067 47 = .ok (.iload_n 1, 1) := by decide +kernel
theorem dJ2_getChar_3b067_48 : decode cJ2_getChar_3b067 48 = .ok (.baload, 1) := by decide +kernel
theorem dJ2_getChar_3b067_49 : decode cJ2_getChar_3b067 49 = .ok (.sipush 255, 3) := by decide +kernel
theorem dJ2_getChar_3b067_52 : decode cJ2_getChar_3b067 52 = .ok (.iand, 1) := by decide +kernel
theorem dJ2_getChar_3b067_53 : decode cJ2_getChar_3b067 53 = .ok (.getstatic 63, 3) := by decide +kernel
theorem dJ2_getChar_3b067_56 : decode cJ2_getChar_3b067 56 = .ok (.ishl, 1) := by decide +kernel
theorem dJ2_getChar_3b067_57 : decode cJ2_getChar_3b067 57 = .ok (.ior, 1) := by decide +kernel
theorem dJ2_getChar_3b067_58 : decode cJ2_getChar_3b067 58 = .ok (.i2c, 1) := by decide +kernel
theorem dJ2_getChar_3b067_59 : decode cJ2_getChar_3b067 59 = .ok (.ireturn, 1) := by decide +kernel
theorem dJ2_length_9d52b_0 : decode cJ2_length_9d52b 0 = .ok (.aload_n 0, 1) := by decide +kernel
theorem dJ2_length_9d52b_1 : decode cJ2_length_9d52b 1 = .ok (.arraylength, 1) := by decide +kernel
theorem dJ2_length_9d52b_2 : decode cJ2_length_9d52b 2 = .ok (.iconst 1, 1) := by decide +kernel
theorem dJ2_length_9d52b_3 : decode cJ2_length_9d52b 3 = .ok (.ishr, 1) := by decide +kernel
theorem dJ2_length_9d52b_4 : decode cJ2_length_9d52b 4 = .ok (.ireturn, 1) := by decide +kernel
theorem dJ2_charAt_3b067_0 : decode cJ2_charAt_3b067 0 = .ok (.iload_n 1, 1) := by decide +kernel
theorem dJ2_charAt_3b067_1 : decode cJ2_charAt_3b067 1 = .ok (.aload_n 0, 1) := by decide +kernel
theorem dJ2_charAt_3b067_2 : decode cJ2_charAt_3b067 2 = .ok (.invokestatic 67, 3) := by decide +kernel
theorem dJ2_charAt_3b067_5 : decode cJ2_charAt_3b067 5 = .ok (.aload_n 0, 1) := by decide +kernel
theorem dJ2_charAt_3b067_6 : decode cJ2_charAt_3b067 6 = .ok (.iload_n 1, 1) := by decide +kernel
theorem dJ2_charAt_3b067_7 : decode cJ2_charAt_3b067 7 = .ok (.invokestatic 71, 3) := by decide +kernel
theorem dJ2_charAt_3b067_10 : decode cJ2_charAt_3b067 10 = .ok (.ireturn, 1) := by decide +kernel
theorem dJ2_checkIndex_2214a_0 : decode cJ2_checkIndex_2214a 0 = .ok (.iload_n 0, 1) := by decide +kernel
theorem dJ2_checkIndex_2214a_1 : decode cJ2_checkIndex_2214a 1 = .ok (.aload_n 1, 1) := by decide +kernel
theorem dJ2_checkIndex_2214a_2 : decode cJ2_checkIndex_2214a 2 = .ok (.invokestatic 48, 3) := by decide +kernel
theorem dJ2_checkIndex_2214a_5 : decode cJ2_checkIndex_2214a 5 = .ok (.invokestatic 414, 3) := by decide +kernel
theorem dJ2_checkIndex_2214a_8 : decode cJ2_checkIndex_2214a 8 = .ok (.return_, 1) := by decide +kernel
theorem dJ3_checkIndex_8e157_0 : decode cJ3_checkIndex_8e157 0 = .ok (.iload_n 0, 1) := by decide +kernel
theorem dJ3_checkIndex_8e157_1 : decode cJ3_checkIndex_8e157 1 = .ok (.ifCond .lt 8, 3) := by decide +kernel
theorem dJ3_checkIndex_8e157_4 : decode cJ3_checkIndex_8e157 4 = .ok (.iload_n 0, 1) := by decide +kernel
theorem dJ3_checkIndex_8e157_5 : decode cJ3_checkIndex_8e157 5 = .ok (.iload_n 1, 1) := by decide +kernel
theorem dJ3_checkIndex_8e157_6 : decode cJ3_checkIndex_8e157 6 = .ok (.if_icmp .lt 10, 3) := by decide +kernel
theorem dJ3_checkIndex_8e157_9 : decode cJ3_checkIndex_8e157 9 = .ok (.aload_n 2, 1) := by decide +kernel
theorem dJ3_checkIndex_8e157_10 : decode cJ3_checkIndex_8e157 10 = .ok (.iload_n 0, 1) := by decide +kernel
theorem dJ3_checkIndex_8e157_11 : decode cJ3_checkIndex_8e157 11 = .ok (.iload_n 1, 1) := by decide +kernel
theorem dJ3_checkIndex_8e157_12 : decode cJ3_checkIndex_8e157 12 = .ok (.invokestatic 95, 3) := by decide +kernel
theorem dJ3_checkIndex_8e157_15 : decode cJ3_checkIndex_8e157 15 = .ok (.athrow, 1) := by decide +kernel
theorem dJ3_checkIndex_8e157_16 : decode cJ3_checkIndex_8e157 16 = .ok (.iload_n 0, 1) := by decide +kernel
theorem dJ3_checkIndex_8e157_17 : decode cJ3_checkIndex_8e157 17 = .ok (.ireturn, 1) := by decide +kernel
end
section
theorem dX4_init_0 : decode cX4_init 0 = .ok (.aload_n 0, 1) := by decide +kernel
theorem dX4_init_1 : decode cX4_init 1 = .ok (.invokespecial 1, 3) := by decide +kernel
theorem dX4_init_4 : decode cX4_init 4 = .ok (.aload_n 0, 1) := by decide +kernel
theorem dX4_init_5 : decode cX4_init 5 = .ok (.new 7, 3) := by decide +kernel
theorem dX4_init_8 : decode cX4_init 8 = .ok (.dup, 1) := by decide +kernel
theorem dX4_init_9 : decode cX4_init 9 = .ok (.invokespecial 9, 3) := by decide +kernel
theorem dX4_init_12 : decode cX4_init 12 = .ok (.putfield 10, 3) := by decide +kernel
theorem dX4_init_15 : decode cX4_init 15 = .ok (.aload_n 0, 1) := by decide +kernel
theorem dX4_init_16 : decode cX4_init 16 = .ok (.new 7, 3) := by decide +kernel
theorem dX4_init_19 : decode cX4_init 19 = .ok (.dup, 1) := by decide +kernel
theorem dX4_init_20 : decode cX4_init 20 = .ok (.invokespecial 9, 3) := by decide +kernel
theorem dX4_init_23 : decode cX4_init 23 = .ok (.putfield 16, 3) := by decide +kernel
theorem dX4_init_26 : decode cX4_init 26 = .ok (.aload_n 0, 1) := by decide +kernel
theorem dX4_init_27 : decode cX4_init 27 = .ok (.new 7, 3) := by decide +kernel
theorem dX4_init_30 : decode cX4_init 30 = .ok (.dup, 1) := by decide +kernel
theorem dX4_init_31 : decode cX4_init 31 = .ok (.invokespecial 9, 3) := by decide +kernel
theorem dX4_init_34 : decode cX4_init 34 = .ok (.putfield 19, 3) := by decide +kernel
theorem dX4_init_37 : decode cX4_init 37 = .ok (.aload_n 0, 1) := by decide +kernel
theorem dX4_init_38 : decode cX4_init 38 = .ok (.new 22, 3) := by decide +kernel
theorem dX4_init_41 : decode cX4_init 41 = .ok (.dup, 1) := by decide +kernel
theorem dX4_init_42 : decode cX4_init 42 = .ok (.invokespecial 24, 3) := by decide +kernel
theorem dX4_init_45 : decode cX4_init 45 = .ok (.putfield 25, 3) := by decide +kernel
theorem dX4_init_48 : decode cX4_init 48 = .ok (.aload_n 0, 1) := by decide +kernel
theorem dX4_init_49 : decode cX4_init 49 = .ok (.new 29, 3) := by decide +kernel
theorem dX4_init_52 : decode cX4_init 52 = .ok (.dup, 1) := by decide +kernel
theorem dX4_init_53 : decode cX4_init 53 = .ok (.invokespecial 31, 3) := by decide +kernel
theorem dX4_init_56 : decode cX4_init 56 = .ok (.putfield 32, 3) := by decide +kernel
theorem dX4_init_59 : decode cX4_init 59 = .ok (.aload_n 0, 1) := by decide +kernel
theorem dX4_init_60 : decode cX4_init 60 = .ok (.iconst 4, 1) := by decide +kernel
theorem dX4_init_61 : decode cX4_init 61 = .ok (.anewarray 36, 3) := by decide +kernel
theorem dX4_init_64 : decode cX4_init 64 = .ok (.putfield 38, 3) := by decide +kernel
theorem dX4_init_67 : decode cX4_init 67 = .ok (.aload_n 0, 1) := by decide +kernel
theorem dX4_init_68 : decode cX4_init 68 = .ok (.bipush 7, 2) := by decide +kernel
theorem dX4_init_70 : decode cX4_init 70 = .ok (.newarray .int, 2) := by decide +kernel
theorem dX4_init_72 : decode cX4_init 72 = .ok (.putfield 42, 3) := by decide +kernel
theorem dX4_init_75 : decode cX4_init 75 = .ok (.iconst 0, 1) := by decide +kernel
theorem dX4_init_76 : decode cX4_init 76 = .ok (.istore_n 1, 1) := by decide +kernel
theorem dX4_init_77 : decode cX4_init 77 = .ok (.iload_n 1, 1) := by decide +kernel
theorem dX4_init_78 : decode cX4_init 78 = .ok (.iconst 4, 1) := by decide +kernel
theorem dX4_init_79 : decode cX4_init 79 = .ok (.if_icmp .ge 22, 3) := by decide +kernel
theorem dX4_init_82 : decode cX4_init 82 = .ok (.aload_n 0, 1) := by decide +kernel
theorem dX4_init_83 : decode cX4_init 83 = .ok (.getfield 38, 3) := by decide +kernel
theorem dX4_init_86 : decode cX4_init 86 = .ok (.iload_n 1, 1) := by decide +kernel
theorem dX4_init_87 : decode cX4_init 87 = .ok (.new 36, 3) := by decide +kernel
theorem dX4_init_90 : decode cX4_init 90 = .ok (.dup, 1) := by decide +kernel
theorem dX4_init_91 : decode cX4_init 91 = .ok (.invokespecial 46, 3) := by decide +kernel
theorem dX4_init_94 : decode cX4_init 94 = .ok (.aastore, 1) := by decide +kernel
theorem dX4_init_95 : decode cX4_init 95 = .ok (.iinc 1 1, 3) := by decide +kernel
theorem dX4_init_98 : decode cX4_init 98 = .ok (.goto (-21), 3) := by decide +kernel
theorem dX4_init_101 : decode cX4_init 101 = .ok (.return_, 1) := by decide +kernel
theorem dX4_list_0 : decode cX4_list 0 = .ok (.iload_n 1, 1) := by decide +kernel
theorem dX4_list_1 : decode cX4_list 1 = .ok (.invokestatic 47, 3) := by decide +kernel
theorem dX4_list_4 : decode cX4_list 4 = .ok (.ifCond .eq 17, 3) := by decide +kernel
theorem dX4_list_7 : decode cX4_list 7 = .ok (.iload_n 2, 1) := by decide +kernel
theorem dX4_list_8 : decode cX4_list 8 = .ok (.invokestatic 51, 3) := by decide +kernel
theorem dX4_list_11 : decode cX4_list 11 = .ok (.ifCond .eq 10, 3) := by decide +kernel
theorem dX4_list_14 : decode cX4_list 14 = .ok (.iload_n 3, 1) := by decide +kernel
theorem dX4_list_15 : decode cX4_list 15 = .ok (.invokestatic 51, 3) := by decide +kernel
theorem dX4_list_18 : decode cX4_list 18 = .ok (.ifCond .ne 9, 3) := by decide +kernel
theorem dX4_list_21 : decode cX4_list 21 = .ok (.aload_n 0, 1) := by decide +kernel
theorem dX4_list_22 : decode cX4_list 22 = .ok (.iconst 0, 1) := by decide +kernel
theorem dX4_list_23 : decode cX4_list 23 = .ok (.invokevirtual 54, 3) := by decide +kernel
theorem dX4_list_26 : decode cX4_list 26 = .ok (.ireturn, 1) := by decide +kernel
theorem dX4_list_27 : decode cX4_list 27 = .ok (.aload_n 0, 1) := by decide +kernel
theorem dX4_list_28 : decode cX4_list 28 = .ok (.getfield 10, 3) := by decide +kernel
theorem dX4_list_31 : decode cX4_list 31 = .ok (.getfield 58, 3) := by decide +kernel
theorem dX4_list_34 : decode cX4_list 34 = .ok (.iload_n 1, 1) := by decide +kernel
theorem dX4_list_35 : decode cX4_list 35 = .ok (.iaload, 1) := by decide +kernel
theorem dX4_list_36 : decode cX4_list 36 = .ok (.istore 4, 2) := by decide +kernel
theorem dX4_list_38 : decode cX4_list 38 = .ok (.aload_n 0, 1) := by decide +kernel
theorem dX4_list_39 : decode cX4_list 39 = .ok (.getfield 10, 3) := by decide +kernel
theorem dX4_list_42 : decode cX4_list 42 = .ok (.getfield 58, 3) := by decide +kernel
theorem dX4_list_45 : decode cX4_list 45 = .ok (.iload_n 1, 1) := by decide +kernel
theorem dX4_list_46 : decode cX4_list 46 = .ok (.bipush 10, 2) := by decide +kernel
theorem dX4_list_48 : decode cX4_list 48 = .ok (.iload_n 2, 1) := by decide +kernel
theorem dX4_list_49 : decode cX4_list 49 = .ok (.imul, 1) := by decide +kernel
theorem dX4_list_50 : decode cX4_list 50 = .ok (.iload_n 3, 1) := by decide +kernel
theorem dX4_list_51 : decode cX4_list 51 = .ok (.iadd, 1) := by decide +kernel
theorem dX4_list_52 : decode cX4_list 52 = .ok (.iastore, 1) := by decide +kernel
theorem dX4_list_53 : decode cX4_list 53 = .ok (.iload 4, 2) := by decide +kernel
theorem dX4_list_55 : decode cX4_list 55 = .ok (.ireturn, 1) := by decide +kernel
theorem dX4_listed_0 : decode cX4_listed 0 = .ok (.iload_n 1, 1) := by decide +kernel
theorem dX4_listed_1 : decode cX4_listed 1 = .ok (.invokestatic 47, 3) := by decide +kernel
theorem dX4_listed_4 : decode cX4_listed 4 = .ok (.ifCond .eq 15, 3) := by decide +kernel
theorem dX4_listed_7 : decode cX4_listed 7 = .ok (.aload_n 0, 1) := by decide +kernel
theorem dX4_listed_8 : decode cX4_listed 8 = .ok (.getfield 10, 3) := by decide +kernel
theorem dX4_listed_11 : decode cX4_listed 11 = .ok (.getfield 58, 3) := by decide +kernel
theorem dX4_listed_14 : decode cX4_listed 14 = .ok (.iload_n 1, 1) := by decide +kernel
theorem dX4_listed_15 : decode cX4_listed 15 = .ok (.iaload, 1) := by decide +kernel
theorem dX4_listed_16 : decode cX4_listed 16 = .ok (.goto 8, 3) := by decide +kernel
theorem dX4_listed_19 : decode cX4_listed 19 = .ok (.aload_n 0, 1) := by decide +kernel
theorem dX4_listed_20 : decode cX4_listed 20 = .ok (.iconst 0, 1) := by decide +kernel
theorem dX4_listed_21 : decode cX4_listed 21 = .ok (.invokevirtual 54, 3) := by decide +kernel
theorem dX4_listed_24 : decode cX4_listed 24 = .ok (.ireturn, 1) := by decide +kernel
theorem dX4_piece_0 : decode cX4_piece 0 = .ok (.iload_n 1, 1) := by decide +kernel
theorem dX4_piece_1 : decode cX4_piece 1 = .ok (.invokestatic 61, 3) := by decide +kernel
theorem dX4_piece_4 : decode cX4_piece 4 = .ok (.ifCond .eq 17, 3) := by decide +kernel
theorem dX4_piece_7 : decode cX4_piece 7 = .ok (.iload_n 2, 1) := by decide +kernel
theorem dX4_piece_8 : decode cX4_piece 8 = .ok (.invokestatic 64, 3) := by decide +kernel
theorem dX4_piece_11 : decode cX4_piece 11 = .ok (.ifCond .eq 10, 3) := by decide +kernel
theorem dX4_piece_14 : decode cX4_piece 14 = .ok (.iload_n 3, 1) := by decide +kernel
theorem dX4_piece_15 : decode cX4_piece 15 = .ok (.invokestatic 64, 3) := by decide +kernel
theorem dX4_piece_18 : decode cX4_piece 18 = .ok (.ifCond .ne 9, 3) := by decide +kernel
theorem dX4_piece_21 : decode cX4_piece 21 = .ok (.aload_n 0, 1) := by decide +kernel
theorem dX4_piece_22 : decode cX4_piece 22 = .ok (.iconst 0, 1) := by decide +kernel
theorem dX4_piece_23 : decode cX4_piece 23 = .ok (.invokevirtual 54, 3) := by decide +kernel
theorem dX4_piece_26 : decode cX4_piece 26 = .ok (.ireturn, 1) := by decide +kernel
theorem dX4_piece_27 : decode cX4_piece 27 = .ok (.aload_n 0, 1) := by decide +kernel
theorem dX4_piece_28 : decode cX4_piece 28 = .ok (.getfield 10, 3) := by decide +kernel
theorem dX4_piece_31 : decode cX4_piece 31 = .ok (.getfield 67, 3) := by decide +kernel
theorem dX4_piece_34 : decode cX4_piece 34 = .ok (.bipush 8, 2) := by decide +kernel
theorem dX4_piece_36 : decode cX4_piece 36 = .ok (.if_icmp .lt 9, 3) := by decide +kernel
theorem dX4_piece_39 : decode cX4_piece 39 = .ok (.aload_n 0, 1) := by decide +kernel
theorem dX4_piece_40 : decode cX4_piece 40 = .ok (.iconst 1, 1) := by decide +kernel
theorem dX4_piece_41 : decode cX4_piece 41 = .ok (.invokevirtual 54, 3) := by decide +kernel
theorem dX4_piece_44 : decode cX4_piece 44 = .ok (.ireturn, 1) := by decide +kernel
theorem dX4_piece_45 : decode cX4_piece 45 = .ok (.aload_n 0, 1) := by decide +kernel
theorem dX4_piece_46 : decode cX4_piece 46 = .ok (.getfield 10, 3) := by decide +kernel
theorem dX4_piece_49 : decode cX4_piece 49 = .ok (.iload_n 1, 1) := by decide +kernel
theorem dX4_piece_50 : decode cX4_piece 50 = .ok (.iload_n 2, 1) := by decide +kernel
theorem dX4_piece_51 : decode cX4_piece 51 = .ok (.iload_n 3, 1) := by decide +kernel
theorem dX4_piece_52 : decode cX4_piece 52 = .ok (.invokevirtual 71, 3) := by decide +kernel
theorem dX4_piece_55 : decode cX4_piece 55 = .ok (.ireturn, 1) := by decide +kernel
theorem dX4_of_0 : decode cX4_of 0 = .ok (.aload_n 0, 1) := by decide +kernel
theorem dX4_of_1 : decode cX4_of 1 = .ok (.getfield 10, 3) := by decide +kernel
theorem dX4_of_4 : decode cX4_of 4 = .ok (.iload_n 1, 1) := by decide +kernel
theorem dX4_of_5 : decode cX4_of 5 = .ok (.invokevirtual 75, 3) := by decide +kernel
theorem dX4_of_8 : decode cX4_of 8 = .ok (.ifCond .eq 13, 3) := by decide +kernel
theorem dX4_of_11 : decode cX4_of 11 = .ok (.iload_n 2, 1) := by decide +kernel
theorem dX4_of_12 : decode cX4_of 12 = .ok (.ifCond .lt 9, 3) := by decide +kernel
theorem dX4_of_15 : decode cX4_of 15 = .ok (.iload_n 2, 1) := by decide +kernel
theorem dX4_of_16 : decode cX4_of 16 = .ok (.bipush 6, 2) := by decide +kernel
theorem dX4_of_18 : decode cX4_of 18 = .ok (.if_icmp .le 9, 3) := by decide +kernel
theorem dX4_of_21 : decode cX4_of 21 = .ok (.aload_n 0, 1) := by decide +kernel
theorem dX4_of_22 : decode cX4_of 22 = .ok (.iconst 0, 1) := by decide +kernel
theorem dX4_of_23 : decode cX4_of 23 = .ok (.invokevirtual 54, 3) := by decide +kernel
theorem dX4_of_26 : decode cX4_of 26 = .ok (.ireturn, 1) := by decide +kernel
theorem dX4_of_27 : decode cX4_of 27 = .ok (.aload_n 0, 1) := by decide +kernel
theorem dX4_of_28 : decode cX4_of 28 = .ok (.getfield 10, 3) := by decide +kernel
theorem dX4_of_31 : decode cX4_of 31 = .ok (.iload_n 1, 1) := by decide +kernel
theorem dX4_of_32 : decode cX4_of 32 = .ok (.iload_n 2, 1) := by decide +kernel
theorem dX4_of_33 : decode cX4_of 33 = .ok (.invokevirtual 78, 3) := by decide +kernel
theorem dX4_of_36 : decode cX4_of 36 = .ok (.ireturn, 1) := by decide +kernel
theorem dX4_change_0 : decode cX4_change 0 = .ok (.aload_n 0, 1) := by decide +kernel
theorem dX4_change_1 : decode cX4_change 1 = .ok (.getfield 10, 3) := by decide +kernel
theorem dX4_change_4 : decode cX4_change 4 = .ok (.iload_n 1, 1) := by decide +kernel
theorem dX4_change_5 : decode cX4_change 5 = .ok (.invokevirtual 75, 3) := by decide +kernel
theorem dX4_change_8 : decode cX4_change 8 = .ok (.ifCond .eq 11, 3) := by decide +kernel
theorem dX4_change_11 : decode cX4_change 11 = .ok (.iload_n 2, 1) := by decide +kernel
theorem dX4_change_12 : decode cX4_change 12 = .ok (.iload_n 3, 1) := by decide +kernel
theorem dX4_change_13 : decode cX4_change 13 = .ok (.invokestatic 82, 3) := by decide +kernel
theorem dX4_change_16 : decode cX4_change 16 = .ok (.ifCond .ne 9, 3) := by decide +kernel
theorem dX4_change_19 : decode cX4_change 19 = .ok (.aload_n 0, 1) := by decide +kernel
theorem dX4_change_20 : decode cX4_change 20 = .ok (.iconst 0, 1) := by decide +kernel
theorem dX4_change_21 : decode cX4_change 21 = .ok (.invokevirtual 54, 3) := by decide +kernel
theorem dX4_change_24 : decode cX4_change 24 = .ok (.ireturn, 1) := by decide +kernel
theorem dX4_change_25 : decode cX4_change 25 = .ok (.aload_n 0, 1) := by decide +kernel
theorem dX4_change_26 : decode cX4_change 26 = .ok (.getfield 10, 3) := by decide +kernel
theorem dX4_change_29 : decode cX4_change 29 = .ok (.iload_n 1, 1) := by decide +kernel
theorem dX4_change_30 : decode cX4_change 30 = .ok (.iload_n 2, 1) := by decide +kernel
theorem dX4_change_31 : decode cX4_change 31 = .ok (.invokevirtual 78, 3) := by decide +kernel
theorem dX4_change_34 : decode cX4_change 34 = .ok (.istore 4, 2) := by decide +kernel
theorem dX4_change_36 : decode cX4_change 36 = .ok (.aload_n 0, 1) := by decide +kernel
theorem dX4_change_37 : decode cX4_change 37 = .ok (.getfield 10, 3) := by decide +kernel
theorem dX4_change_40 : decode cX4_change 40 = .ok (.iload_n 1, 1) := by decide +kernel
theorem dX4_change_41 : decode cX4_change 41 = .ok (.iload_n 2, 1) := by decide +kernel
theorem dX4_change_42 : decode cX4_change 42 = .ok (.iload_n 3, 1) := by decide +kernel
theorem dX4_change_43 : decode cX4_change 43 = .ok (.invokevirtual 86, 3) := by decide +kernel
theorem dX4_change_46 : decode cX4_change 46 = .ok (.iload 4, 2) := by decide +kernel
theorem dX4_change_48 : decode cX4_change 48 = .ok (.ireturn, 1) := by decide +kernel
theorem dX4_lies_0 : decode cX4_lies 0 = .ok (.aload_n 0, 1) := by decide +kernel
theorem dX4_lies_1 : decode cX4_lies 1 = .ok (.getfield 10, 3) := by decide +kernel
theorem dX4_lies_4 : decode cX4_lies 4 = .ok (.iload_n 1, 1) := by decide +kernel
theorem dX4_lies_5 : decode cX4_lies 5 = .ok (.invokevirtual 75, 3) := by decide +kernel
theorem dX4_lies_8 : decode cX4_lies 8 = .ok (.ifCond .eq 15, 3) := by decide +kernel
theorem dX4_lies_11 : decode cX4_lies 11 = .ok (.aload_n 0, 1) := by decide +kernel
theorem dX4_lies_12 : decode cX4_lies 12 = .ok (.getfield 10, 3) := by decide +kernel
theorem dX4_lies_15 : decode cX4_lies 15 = .ok (.getfield 90, 3) := by decide +kernel
theorem dX4_lies_18 : decode cX4_lies 18 = .ok (.iload_n 1, 1) := by decide +kernel
theorem dX4_lies_19 : decode cX4_lies 19 = .ok (.iaload, 1) := by decide +kernel
theorem dX4_lies_20 : decode cX4_lies 20 = .ok (.goto 8, 3) := by decide +kernel
theorem dX4_lies_23 : decode cX4_lies 23 = .ok (.aload_n 0, 1) := by decide +kernel
theorem dX4_lies_24 : decode cX4_lies 24 = .ok (.iconst 0, 1) := by decide +kernel
theorem dX4_lies_25 : decode cX4_lies 25 = .ok (.invokevirtual 54, 3) := by decide +kernel
theorem dX4_lies_28 : decode cX4_lies 28 = .ok (.ireturn, 1) := by decide +kernel
theorem dX4_gap_0 : decode cX4_gap 0 = .ok (.aload_n 0, 1) := by decide +kernel
theorem dX4_gap_1 : decode cX4_gap 1 = .ok (.getfield 10, 3) := by decide +kernel
theorem dX4_gap_4 : decode cX4_gap 4 = .ok (.iload_n 1, 1) := by decide +kernel
theorem dX4_gap_5 : decode cX4_gap 5 = .ok (.invokevirtual 75, 3) := by decide +kernel
theorem dX4_gap_8 : decode cX4_gap 8 = .ok (.ifCond .eq 19, 3) := by decide +kernel
theorem dX4_gap_11 : decode cX4_gap 11 = .ok (.aload_n 0, 1) := by decide +kernel
theorem dX4_gap_12 : decode cX4_gap 12 = .ok (.getfield 10, 3) := by decide +kernel
theorem dX4_gap_15 : decode cX4_gap 15 = .ok (.iload_n 2, 1) := by decide +kernel
theorem dX4_gap_16 : decode cX4_gap 16 = .ok (.invokevirtual 75, 3) := by decide +kernel
theorem dX4_gap_19 : decode cX4_gap 19 = .ok (.ifCond .eq 8, 3) := by decide +kernel
theorem dX4_gap_22 : decode cX4_gap 22 = .ok (.iload_n 1, 1) := by decide +kernel
theorem dX4_gap_23 : decode cX4_gap 23 = .ok (.iload_n 2, 1) := by decide +kernel
theorem dX4_gap_24 : decode cX4_gap 24 = .ok (.if_icmp .ne 9, 3) := by decide +kernel
theorem dX4_gap_27 : decode cX4_gap 27 = .ok (.aload_n 0, 1) := by decide +kernel
theorem dX4_gap_28 : decode cX4_gap 28 = .ok (.iconst 0, 1) := by decide +kernel
theorem dX4_gap_29 : decode cX4_gap 29 = .ok (.invokevirtual 54, 3) := by decide +kernel
theorem dX4_gap_32 : decode cX4_gap 32 = .ok (.ireturn, 1) := by decide +kernel
theorem dX4_gap_33 : decode cX4_gap 33 = .ok (.aload_n 0, 1) := by decide +kernel
theorem dX4_gap_34 : decode cX4_gap 34 = .ok (.getfield 10, 3) := by decide +kernel
theorem dX4_gap_37 : decode cX4_gap 37 = .ok (.iload_n 1, 1) := by decide +kernel
theorem dX4_gap_38 : decode cX4_gap 38 = .ok (.iload_n 2, 1) := by decide +kernel
theorem dX4_gap_39 : decode cX4_gap 39 = .ok (.invokevirtual 93, 3) := by decide +kernel
theorem dX4_gap_42 : decode cX4_gap 42 = .ok (.ireturn, 1) := by decide +kernel
theorem dX4_edge_0 : decode cX4_edge 0 = .ok (.aload_n 0, 1) := by decide +kernel
theorem dX4_edge_1 : decode cX4_edge 1 = .ok (.getfield 10, 3) := by decide +kernel
theorem dX4_edge_4 : decode cX4_edge 4 = .ok (.iload_n 1, 1) := by decide +kernel
theorem dX4_edge_5 : decode cX4_edge 5 = .ok (.invokevirtual 75, 3) := by decide +kernel
theorem dX4_edge_8 : decode cX4_edge 8 = .ok (.ifCond .eq 12, 3) := by decide +kernel
theorem dX4_edge_11 : decode cX4_edge 11 = .ok (.iload_n 2, 1) := by decide +kernel
theorem dX4_edge_12 : decode cX4_edge 12 = .ok (.ifCond .lt 8, 3) := by decide +kernel
theorem dX4_edge_15 : decode cX4_edge 15 = .ok (.iload_n 2, 1) := by decide +kernel
theorem dX4_edge_16 : decode cX4_edge 16 = .ok (.iconst 1, 1) := by decide +kernel
theorem dX4_edge_17 : decode cX4_edge 17 = .ok (.if_icmp .le 9, 3) := by decide +kernel
theorem dX4_edge_20 : decode cX4_edge 20 = .ok (.aload_n 0, 1) := by decide +kernel
theorem dX4_edge_21 : decode cX4_edge 21 = .ok (.iconst 0, 1) := by decide +kernel
theorem dX4_edge_22 : decode cX4_edge 22 = .ok (.invokevirtual 54, 3) := by decide +kernel
theorem dX4_edge_25 : decode cX4_edge 25 = .ok (.ireturn, 1) := by decide +kernel
theorem dX4_edge_26 : decode cX4_edge 26 = .ok (.aload_n 0, 1) := by decide +kernel
theorem dX4_edge_27 : decode cX4_edge 27 = .ok (.getfield 10, 3) := by decide +kernel
theorem dX4_edge_30 : decode cX4_edge 30 = .ok (.iload_n 1, 1) := by decide +kernel
theorem dX4_edge_31 : decode cX4_edge 31 = .ok (.iload_n 2, 1) := by decide +kernel
theorem dX4_edge_32 : decode cX4_edge 32 = .ok (.invokevirtual 96, 3) := by decide +kernel
theorem dX4_edge_35 : decode cX4_edge 35 = .ok (.ireturn, 1) := by decide +kernel
theorem dX4_swap_0 : decode cX4_swap 0 = .ok (.aload_n 0, 1) := by decide +kernel
theorem dX4_swap_1 : decode cX4_swap 1 = .ok (.getfield 10, 3) := by decide +kernel
theorem dX4_swap_4 : decode cX4_swap 4 = .ok (.iload_n 1, 1) := by decide +kernel
theorem dX4_swap_5 : decode cX4_swap 5 = .ok (.invokevirtual 75, 3) := by decide +kernel
theorem dX4_swap_8 : decode cX4_swap 8 = .ok (.ifCond .eq 14, 3) := by decide +kernel
theorem dX4_swap_11 : decode cX4_swap 11 = .ok (.aload_n 0, 1) := by decide +kernel
theorem dX4_swap_12 : decode cX4_swap 12 = .ok (.getfield 10, 3) := by decide +kernel
theorem dX4_swap_15 : decode cX4_swap 15 = .ok (.iload_n 2, 1) := by decide +kernel
theorem dX4_swap_16 : decode cX4_swap 16 = .ok (.invokevirtual 75, 3) := by decide +kernel
theorem dX4_swap_19 : decode cX4_swap 19 = .ok (.ifCond .ne 9, 3) := by decide +kernel
theorem dX4_swap_22 : decode cX4_swap 22 = .ok (.aload_n 0, 1) := by decide +kernel
theorem dX4_swap_23 : decode cX4_swap 23 = .ok (.iconst 0, 1) := by decide +kernel
theorem dX4_swap_24 : decode cX4_swap 24 = .ok (.invokevirtual 54, 3) := by decide +kernel
theorem dX4_swap_27 : decode cX4_swap 27 = .ok (.ireturn, 1) := by decide +kernel
theorem dX4_swap_28 : decode cX4_swap 28 = .ok (.aload_n 0, 1) := by decide +kernel
theorem dX4_swap_29 : decode cX4_swap 29 = .ok (.getfield 10, 3) := by decide +kernel
theorem dX4_swap_32 : decode cX4_swap 32 = .ok (.iload_n 1, 1) := by decide +kernel
theorem dX4_swap_33 : decode cX4_swap 33 = .ok (.iload_n 2, 1) := by decide +kernel
theorem dX4_swap_34 : decode cX4_swap 34 = .ok (.invokevirtual 99, 3) := by decide +kernel
theorem dX4_swap_37 : decode cX4_swap 37 = .ok (.aload_n 0, 1) := by decide +kernel
theorem dX4_swap_38 : decode cX4_swap 38 = .ok (.getfield 10, 3) := by decide +kernel
theorem dX4_swap_41 : decode cX4_swap 41 = .ok (.invokevirtual 103, 3) := by decide +kernel
theorem dX4_swap_44 : decode cX4_swap 44 = .ok (.ireturn, 1) := by decide +kernel
theorem dX4_go_0 : decode cX4_go 0 = .ok (.iload_n 1, 1) := by decide +kernel
theorem dX4_go_1 : decode cX4_go 1 = .ok (.iconst 1, 1) := by decide +kernel
theorem dX4_go_2 : decode cX4_go 2 = .ok (.if_icmp .lt 9, 3) := by decide +kernel
theorem dX4_go_5 : decode cX4_go 5 = .ok (.iload_n 1, 1) := by decide +kernel
theorem dX4_go_6 : decode cX4_go 6 = .ok (.bipush 60, 2) := by decide +kernel
theorem dX4_go_8 : decode cX4_go 8 = .ok (.if_icmp .le 9, 3) := by decide +kernel
theorem dX4_go_11 : decode cX4_go 11 = .ok (.aload_n 0, 1) := by decide +kernel
theorem dX4_go_12 : decode cX4_go 12 = .ok (.iconst 0, 1) := by decide +kernel
theorem dX4_go_13 : decode cX4_go 13 = .ok (.invokevirtual 54, 3) := by decide +kernel
theorem dX4_go_16 : decode cX4_go 16 = .ok (.ireturn, 1) := by decide +kernel
theorem dX4_go_17 : decode cX4_go 17 = .ok (.aload_n 0, 1) := by decide +kernel
theorem dX4_go_18 : decode cX4_go 18 = .ok (.getfield 10, 3) := by decide +kernel
theorem dX4_go_21 : decode cX4_go 21 = .ok (.getfield 107, 3) := by decide +kernel
theorem dX4_go_24 : decode cX4_go 24 = .ok (.iload_n 1, 1) := by decide +kernel
theorem dX4_go_25 : decode cX4_go 25 = .ok (.iadd, 1) := by decide +kernel
theorem dX4_go_26 : decode cX4_go 26 = .ok (.ldc 110, 2) := by decide +kernel
theorem dX4_go_28 : decode cX4_go 28 = .ok (.if_icmp .le 9, 3) := by decide +kernel
theorem dX4_go_31 : decode cX4_go 31 = .ok (.aload_n 0, 1) := by decide +kernel
theorem dX4_go_32 : decode cX4_go 32 = .ok (.iconst 4, 1) := by decide +kernel
theorem dX4_go_33 : decode cX4_go 33 = .ok (.invokevirtual 54, 3) := by decide +kernel
theorem dX4_go_36 : decode cX4_go 36 = .ok (.ireturn, 1) := by decide +kernel
theorem dX4_go_37 : decode cX4_go 37 = .ok (.aload_n 0, 1) := by decide +kernel
theorem dX4_go_38 : decode cX4_go 38 = .ok (.getfield 10, 3) := by decide +kernel
theorem dX4_go_41 : decode cX4_go 41 = .ok (.iload_n 1, 1) := by decide +kernel
theorem dX4_go_42 : decode cX4_go 42 = .ok (.invokevirtual 111, 3) := by decide +kernel
theorem dX4_go_45 : decode cX4_go 45 = .ok (.aload_n 0, 1) := by decide +kernel
theorem dX4_go_46 : decode cX4_go 46 = .ok (.getfield 10, 3) := by decide +kernel
theorem dX4_go_49 : decode cX4_go 49 = .ok (.invokevirtual 103, 3) := by decide +kernel
theorem dX4_go_52 : decode cX4_go 52 = .ok (.ireturn, 1) := by decide +kernel
theorem dX4_now_0 : decode cX4_now 0 = .ok (.iload_n 1, 1) := by decide +kernel
theorem dX4_now_1 : decode cX4_now 1 = .ok (.tableswitch 128 0 7 #[47, 55, 63, 71, 79, 87, 95, 115], 47) := by decide +kernel
theorem dX4_now_48 : decode cX4_now 48 = .ok (.aload_n 0, 1) := by decide +kernel
theorem dX4_now_49 : decode cX4_now 49 = .ok (.getfield 10, 3) := by decide +kernel
theorem dX4_now_52 : decode cX4_now 52 = .ok (.getfield 107, 3) := by decide +kernel
theorem dX4_now_55 : decode cX4_now 55 = .ok (.ireturn, 1) := by decide +kernel
theorem dX4_now_56 : decode cX4_now 56 = .ok (.aload_n 0, 1) := by decide +kernel
theorem dX4_now_57 : decode cX4_now 57 = .ok (.getfield 10, 3) := by decide +kernel
theorem dX4_now_60 : decode cX4_now 60 = .ok (.invokevirtual 103, 3) := by decide +kernel
theorem dX4_now_63 : decode cX4_now 63 = .ok (.ireturn, 1) := by decide +kernel
theorem dX4_now_64 : decode cX4_now 64 = .ok (.aload_n 0, 1) := by decide +kernel
theorem dX4_now_65 : decode cX4_now 65 = .ok (.getfield 10, 3) := by decide +kernel
theorem dX4_now_68 : decode cX4_now 68 = .ok (.invokevirtual 115, 3) := by decide +kernel
theorem dX4_now_71 : decode cX4_now 71 = .ok (.ireturn, 1) := by decide +kernel
theorem dX4_now_72 : decode cX4_now 72 = .ok (.aload_n 0, 1) := by decide +kernel
theorem dX4_now_73 : decode cX4_now 73 = .ok (.getfield 10, 3) := by decide +kernel
theorem dX4_now_76 : decode cX4_now 76 = .ok (.invokevirtual 118, 3) := by decide +kernel
theorem dX4_now_79 : decode cX4_now 79 = .ok (.ireturn, 1) := by decide +kernel
theorem dX4_now_80 : decode cX4_now 80 = .ok (.aload_n 0, 1) := by decide +kernel
theorem dX4_now_81 : decode cX4_now 81 = .ok (.getfield 10, 3) := by decide +kernel
theorem dX4_now_84 : decode cX4_now 84 = .ok (.invokevirtual 121, 3) := by decide +kernel
theorem dX4_now_87 : decode cX4_now 87 = .ok (.ireturn, 1) := by decide +kernel
theorem dX4_now_88 : decode cX4_now 88 = .ok (.aload_n 0, 1) := by decide +kernel
theorem dX4_now_89 : decode cX4_now 89 = .ok (.getfield 10, 3) := by decide +kernel
theorem dX4_now_92 : decode cX4_now 92 = .ok (.getfield 124, 3) := by decide +kernel
theorem dX4_now_95 : decode cX4_now 95 = .ok (.ireturn, 1) := by decide +kernel
theorem dX4_now_96 : decode cX4_now 96 = .ok (.aload_n 0, 1) := by decide +kernel
theorem dX4_now_97 : decode cX4_now 97 = .ok (.getfield 10, 3) := by decide +kernel
theorem dX4_now_100 : decode cX4_now 100 = .ok (.invokevirtual 103, 3) := by decide +kernel
theorem dX4_now_103 : decode cX4_now 103 = .ok (.aload_n 0, 1) := by decide +kernel
theorem dX4_now_104 : decode cX4_now 104 = .ok (.getfield 25, 3) := by decide +kernel
theorem dX4_now_107 : decode cX4_now 107 = .ok (.aload_n 0, 1) := by decide +kernel
theorem dX4_now_108 : decode cX4_now 108 = .ok (.getfield 10, 3) := by decide +kernel
theorem dX4_now_111 : decode cX4_now 111 = .ok (.invokevirtual 127, 3) := by decide +kernel
theorem dX4_now_114 : decode cX4_now 114 = .ok (.isub, 1) := by decide +kernel
theorem dX4_now_115 : decode cX4_now 115 = .ok (.ireturn, 1) := by decide +kernel
theorem dX4_now_116 : decode cX4_now 116 = .ok (.aload_n 0, 1) := by decide +kernel
theorem dX4_now_117 : decode cX4_now 117 = .ok (.invokevirtual 131, 3) := by decide +kernel
theorem dX4_now_120 : decode cX4_now 120 = .ok (.ifCond .ge 7, 3) := by decide +kernel
theorem dX4_now_123 : decode cX4_now 123 = .ok (.iconst 1, 1) := by decide +kernel
theorem dX4_now_124 : decode cX4_now 124 = .ok (.goto 4, 3) := by decide +kernel
theorem dX4_now_127 : decode cX4_now 127 = .ok (.iconst 0, 1) := by decide +kernel
theorem dX4_now_128 : decode cX4_now 128 = .ok (.ireturn, 1) := by decide +kernel
theorem dX4_now_129 : decode cX4_now 129 = .ok (.aload_n 0, 1) := by decide +kernel
theorem dX4_now_130 : decode cX4_now 130 = .ok (.iconst 0, 1) := by decide +kernel
theorem dX4_now_131 : decode cX4_now 131 = .ok (.invokevirtual 54, 3) := by decide +kernel
theorem dX4_now_134 : decode cX4_now 134 = .ok (.ireturn, 1) := by decide +kernel
theorem dX4_ahead_0 : decode cX4_ahead 0 = .ok (.iload_n 2, 1) := by decide +kernel
theorem dX4_ahead_1 : decode cX4_ahead 1 = .ok (.iconst 1, 1) := by decide +kernel
theorem dX4_ahead_2 : decode cX4_ahead 2 = .ok (.if_icmp .eq 8, 3) := by decide +kernel
theorem dX4_ahead_5 : decode cX4_ahead 5 = .ok (.iload_n 2, 1) := by decide +kernel
theorem dX4_ahead_6 : decode cX4_ahead 6 = .ok (.iconst 5, 1) := by decide +kernel
theorem dX4_ahead_7 : decode cX4_ahead 7 = .ok (.if_icmp .ne 7, 3) := by decide +kernel
theorem dX4_ahead_10 : decode cX4_ahead 10 = .ok (.iconst 1, 1) := by decide +kernel
theorem dX4_ahead_11 : decode cX4_ahead 11 = .ok (.goto 4, 3) := by decide +kernel
theorem dX4_ahead_14 : decode cX4_ahead 14 = .ok (.iconst 0, 1) := by decide +kernel
theorem dX4_ahead_15 : decode cX4_ahead 15 = .ok (.istore 4, 2) := by decide +kernel
theorem dX4_ahead_17 : decode cX4_ahead 17 = .ok (.aload_n 0, 1) := by decide +kernel
theorem dX4_ahead_18 : decode cX4_ahead 18 = .ok (.getfield 10, 3) := by decide +kernel
theorem dX4_ahead_21 : decode cX4_ahead 21 = .ok (.iload_n 1, 1) := by decide +kernel
theorem dX4_ahead_22 : decode cX4_ahead 22 = .ok (.invokevirtual 75, 3) := by decide +kernel
theorem dX4_ahead_25 : decode cX4_ahead 25 = .ok (.ifCond .eq 18, 3) := by decide +kernel
theorem dX4_ahead_28 : decode cX4_ahead 28 = .ok (.iload 4, 2) := by decide +kernel
theorem dX4_ahead_30 : decode cX4_ahead 30 = .ok (.ifCond .eq 13, 3) := by decide +kernel
theorem dX4_ahead_33 : decode cX4_ahead 33 = .ok (.iload_n 3, 1) := by decide +kernel
theorem dX4_ahead_34 : decode cX4_ahead 34 = .ok (.ifCond .lt 9, 3) := by decide +kernel
theorem dX4_ahead_37 : decode cX4_ahead 37 = .ok (.iload_n 3, 1) := by decide +kernel
theorem dX4_ahead_38 : decode cX4_ahead 38 = .ok (.bipush 100, 2) := by decide +kernel
theorem dX4_ahead_40 : decode cX4_ahead 40 = .ok (.if_icmp .le 9, 3) := by decide +kernel
theorem dX4_ahead_43 : decode cX4_ahead 43 = .ok (.aload_n 0, 1) := by decide +kernel
theorem dX4_ahead_44 : decode cX4_ahead 44 = .ok (.iconst 0, 1) := by decide +kernel
theorem dX4_ahead_45 : decode cX4_ahead 45 = .ok (.invokevirtual 54, 3) := by decide +kernel
theorem dX4_ahead_48 : decode cX4_ahead 48 = .ok (.ireturn, 1) := by decide +kernel
theorem dX4_ahead_49 : decode cX4_ahead 49 = .ok (.aload_n 0, 1) := by decide +kernel
theorem dX4_ahead_50 : decode cX4_ahead 50 = .ok (.getfield 19, 3) := by decide +kernel
theorem dX4_ahead_53 : decode cX4_ahead 53 = .ok (.aload_n 0, 1) := by decide +kernel
theorem dX4_ahead_54 : decode cX4_ahead 54 = .ok (.getfield 10, 3) := by decide +kernel
theorem dX4_ahead_57 : decode cX4_ahead 57 = .ok (.invokevirtual 134, 3) := by decide +kernel
theorem dX4_ahead_60 : decode cX4_ahead 60 = .ok (.aload_n 0, 1) := by decide +kernel
theorem dX4_ahead_61 : decode cX4_ahead 61 = .ok (.getfield 19, 3) := by decide +kernel
theorem dX4_ahead_64 : decode cX4_ahead 64 = .ok (.iload_n 3, 1) := by decide +kernel
theorem dX4_ahead_65 : decode cX4_ahead 65 = .ok (.invokevirtual 111, 3) := by decide +kernel
theorem dX4_ahead_68 : decode cX4_ahead 68 = .ok (.aload_n 0, 1) := by decide +kernel
theorem dX4_ahead_69 : decode cX4_ahead 69 = .ok (.getfield 19, 3) := by decide +kernel
theorem dX4_ahead_72 : decode cX4_ahead 72 = .ok (.iload_n 1, 1) := by decide +kernel
theorem dX4_ahead_73 : decode cX4_ahead 73 = .ok (.iload_n 2, 1) := by decide +kernel
theorem dX4_ahead_74 : decode cX4_ahead 74 = .ok (.invokevirtual 78, 3) := by decide +kernel
theorem dX4_ahead_77 : decode cX4_ahead 77 = .ok (.ireturn, 1) := by decide +kernel
theorem dX4_sum_0 : decode cX4_sum 0 = .ok (.iload_n 1, 1) := by decide +kernel
theorem dX4_sum_1 : decode cX4_sum 1 = .ok (.ifCond .lt 9, 3) := by decide +kernel
theorem dX4_sum_4 : decode cX4_sum 4 = .ok (.iload_n 1, 1) := by decide +kernel
theorem dX4_sum_5 : decode cX4_sum 5 = .ok (.bipush 100, 2) := by decide +kernel
theorem dX4_sum_7 : decode cX4_sum 7 = .ok (.if_icmp .le 9, 3) := by decide +kernel
theorem dX4_sum_10 : decode cX4_sum 10 = .ok (.aload_n 0, 1) := by decide +kernel
theorem dX4_sum_11 : decode cX4_sum 11 = .ok (.iconst 0, 1) := by decide +kernel
theorem dX4_sum_12 : decode cX4_sum 12 = .ok (.invokevirtual 54, 3) := by decide +kernel
theorem dX4_sum_15 : decode cX4_sum 15 = .ok (.ireturn, 1) := by decide +kernel
theorem dX4_sum_16 : decode cX4_sum 16 = .ok (.aload_n 0, 1) := by decide +kernel
theorem dX4_sum_17 : decode cX4_sum 17 = .ok (.getfield 19, 3) := by decide +kernel
theorem dX4_sum_20 : decode cX4_sum 20 = .ok (.aload_n 0, 1) := by decide +kernel
theorem dX4_sum_21 : decode cX4_sum 21 = .ok (.getfield 10, 3) := by decide +kernel
theorem dX4_sum_24 : decode cX4_sum 24 = .ok (.invokevirtual 134, 3) := by decide +kernel
theorem dX4_sum_27 : decode cX4_sum 27 = .ok (.aload_n 0, 1) := by decide +kernel
theorem dX4_sum_28 : decode cX4_sum 28 = .ok (.getfield 19, 3) := by decide +kernel
theorem dX4_sum_31 : decode cX4_sum 31 = .ok (.iload_n 1, 1) := by decide +kernel
theorem dX4_sum_32 : decode cX4_sum 32 = .ok (.invokevirtual 111, 3) := by decide +kernel
theorem dX4_sum_35 : decode cX4_sum 35 = .ok (.aload_n 0, 1) := by decide +kernel
theorem dX4_sum_36 : decode cX4_sum 36 = .ok (.getfield 19, 3) := by decide +kernel
theorem dX4_sum_39 : decode cX4_sum 39 = .ok (.invokevirtual 103, 3) := by decide +kernel
theorem dX4_sum_42 : decode cX4_sum 42 = .ok (.ireturn, 1) := by decide +kernel
theorem dX4_when_0 : decode cX4_when 0 = .ok (.iload_n 1, 1) := by decide +kernel
theorem dX4_when_1 : decode cX4_when 1 = .ok (.invokestatic 138, 3) := by decide +kernel
theorem dX4_when_4 : decode cX4_when 4 = .ok (.ifCond .ne 9, 3) := by decide +kernel
theorem dX4_when_7 : decode cX4_when 7 = .ok (.aload_n 0, 1) := by decide +kernel
theorem dX4_when_8 : decode cX4_when 8 = .ok (.iconst 0, 1) := by decide +kernel
theorem dX4_when_9 : decode cX4_when 9 = .ok (.invokevirtual 54, 3) := by decide +kernel
theorem dX4_when_12 : decode cX4_when 12 = .ok (.ireturn, 1) := by decide +kernel
theorem dX4_when_13 : decode cX4_when 13 = .ok (.aload_n 0, 1) := by decide +kernel
theorem dX4_when_14 : decode cX4_when 14 = .ok (.getfield 19, 3) := by decide +kernel
theorem dX4_when_17 : decode cX4_when 17 = .ok (.aload_n 0, 1) := by decide +kernel
theorem dX4_when_18 : decode cX4_when 18 = .ok (.getfield 10, 3) := by decide +kernel
theorem dX4_when_21 : decode cX4_when 21 = .ok (.invokevirtual 134, 3) := by decide +kernel
theorem dX4_when_24 : decode cX4_when 24 = .ok (.iconst 0, 1) := by decide +kernel
theorem dX4_when_25 : decode cX4_when 25 = .ok (.istore_n 2, 1) := by decide +kernel
theorem dX4_when_26 : decode cX4_when 26 = .ok (.iload_n 2, 1) := by decide +kernel
theorem dX4_when_27 : decode cX4_when 27 = .ok (.sipush 200, 3) := by decide +kernel
theorem dX4_when_30 : decode cX4_when 30 = .ok (.if_icmp .gt 29, 3) := by decide +kernel
theorem dX4_when_33 : decode cX4_when 33 = .ok (.aload_n 0, 1) := by decide +kernel
theorem dX4_when_34 : decode cX4_when 34 = .ok (.getfield 19, 3) := by decide +kernel
theorem dX4_when_37 : decode cX4_when 37 = .ok (.invokevirtual 103, 3) := by decide +kernel
theorem dX4_when_40 : decode cX4_when 40 = .ok (.iload_n 1, 1) := by decide +kernel
theorem dX4_when_41 : decode cX4_when 41 = .ok (.if_icmp .gt 5, 3) := by decide +kernel
theorem dX4_when_44 : decode cX4_when 44 = .ok (.iload_n 2, 1) := by decide +kernel
theorem dX4_when_45 : decode cX4_when 45 = .ok (.ireturn, 1) := by decide +kernel
theorem dX4_when_46 : decode cX4_when 46 = .ok (.aload_n 0, 1) := by decide +kernel
theorem dX4_when_47 : decode cX4_when 47 = .ok (.getfield 19, 3) := by decide +kernel
theorem dX4_when_50 : decode cX4_when 50 = .ok (.invokevirtual 141, 3) := by decide +kernel
theorem dX4_when_53 : decode cX4_when 53 = .ok (.iinc 2 1, 3) := by decide +kernel
theorem dX4_when_56 : decode cX4_when 56 = .ok (.goto (-30), 3) := by decide +kernel
theorem dX4_when_59 : decode cX4_when 59 = .ok (.aload_n 0, 1) := by decide +kernel
theorem dX4_when_60 : decode cX4_when 60 = .ok (.iconst 3, 1) := by decide +kernel
theorem dX4_when_61 : decode cX4_when 61 = .ok (.invokevirtual 54, 3) := by decide +kernel
theorem dX4_when_64 : decode cX4_when 64 = .ok (.ireturn, 1) := by decide +kernel
theorem dX4_comes_0 : decode cX4_comes 0 = .ok (.aload_n 0, 1) := by decide +kernel
theorem dX4_comes_1 : decode cX4_comes 1 = .ok (.getfield 10, 3) := by decide +kernel
theorem dX4_comes_4 : decode cX4_comes 4 = .ok (.iload_n 1, 1) := by decide +kernel
theorem dX4_comes_5 : decode cX4_comes 5 = .ok (.invokevirtual 75, 3) := by decide +kernel
theorem dX4_comes_8 : decode cX4_comes 8 = .ok (.ifCond .eq 10, 3) := by decide +kernel
theorem dX4_comes_11 : decode cX4_comes 11 = .ok (.iload_n 2, 1) := by decide +kernel
theorem dX4_comes_12 : decode cX4_comes 12 = .ok (.invokestatic 51, 3) := by decide +kernel
theorem dX4_comes_15 : decode cX4_comes 15 = .ok (.ifCond .ne 9, 3) := by decide +kernel
theorem dX4_comes_18 : decode cX4_comes 18 = .ok (.aload_n 0, 1) := by decide +kernel
theorem dX4_comes_19 : decode cX4_comes 19 = .ok (.iconst 0, 1) := by decide +kernel
theorem dX4_comes_20 : decode cX4_comes 20 = .ok (.invokevirtual 54, 3) := by decide +kernel
theorem dX4_comes_23 : decode cX4_comes 23 = .ok (.ireturn, 1) := by decide +kernel
theorem dX4_comes_24 : decode cX4_comes 24 = .ok (.aload_n 0, 1) := by decide +kernel
theorem dX4_comes_25 : decode cX4_comes 25 = .ok (.getfield 19, 3) := by decide +kernel
theorem dX4_comes_28 : decode cX4_comes 28 = .ok (.aload_n 0, 1) := by decide +kernel
theorem dX4_comes_29 : decode cX4_comes 29 = .ok (.getfield 10, 3) := by decide +kernel
theorem dX4_comes_32 : decode cX4_comes 32 = .ok (.invokevirtual 134, 3) := by decide +kernel
theorem dX4_comes_35 : decode cX4_comes 35 = .ok (.iconst 0, 1) := by decide +kernel
theorem dX4_comes_36 : decode cX4_comes 36 = .ok (.istore_n 3, 1) := by decide +kernel
theorem dX4_comes_37 : decode cX4_comes 37 = .ok (.iload_n 3, 1) := by decide +kernel
theorem dX4_comes_38 : decode cX4_comes 38 = .ok (.sipush 200, 3) := by decide +kernel
theorem dX4_comes_41 : decode cX4_comes 41 = .ok (.if_icmp .gt 30, 3) := by decide +kernel
theorem dX4_comes_44 : decode cX4_comes 44 = .ok (.aload_n 0, 1) := by decide +kernel
theorem dX4_comes_45 : decode cX4_comes 45 = .ok (.getfield 19, 3) := by decide +kernel
theorem dX4_comes_48 : decode cX4_comes 48 = .ok (.iload_n 1, 1) := by decide +kernel
theorem dX4_comes_49 : decode cX4_comes 49 = .ok (.invokevirtual 144, 3) := by decide +kernel
theorem dX4_comes_52 : decode cX4_comes 52 = .ok (.iload_n 2, 1) := by decide +kernel
theorem dX4_comes_53 : decode cX4_comes 53 = .ok (.if_icmp .ne 5, 3) := by decide +kernel
theorem dX4_comes_56 : decode cX4_comes 56 = .ok (.iload_n 3, 1) := by decide +kernel
theorem dX4_comes_57 : decode cX4_comes 57 = .ok (.ireturn, 1) := by decide +kernel
theorem dX4_comes_58 : decode cX4_comes 58 = .ok (.aload_n 0, 1) := by decide +kernel
theorem dX4_comes_59 : decode cX4_comes 59 = .ok (.getfield 19, 3) := by decide +kernel
theorem dX4_comes_62 : decode cX4_comes 62 = .ok (.invokevirtual 141, 3) := by decide +kernel
theorem dX4_comes_65 : decode cX4_comes 65 = .ok (.iinc 3 1, 3) := by decide +kernel
theorem dX4_comes_68 : decode cX4_comes 68 = .ok (.goto (-31), 3) := by decide +kernel
theorem dX4_comes_71 : decode cX4_comes 71 = .ok (.aload_n 0, 1) := by decide +kernel
theorem dX4_comes_72 : decode cX4_comes 72 = .ok (.iconst 3, 1) := by decide +kernel
theorem dX4_comes_73 : decode cX4_comes 73 = .ok (.invokevirtual 54, 3) := by decide +kernel
theorem dX4_comes_76 : decode cX4_comes 76 = .ok (.ireturn, 1) := by decide +kernel
theorem dX4_granted_0 : decode cX4_granted 0 = .ok (.aload_n 0, 1) := by decide +kernel
theorem dX4_granted_1 : decode cX4_granted 1 = .ok (.getfield 10, 3) := by decide +kernel
theorem dX4_granted_4 : decode cX4_granted 4 = .ok (.iload_n 1, 1) := by decide +kernel
theorem dX4_granted_5 : decode cX4_granted 5 = .ok (.invokevirtual 75, 3) := by decide +kernel
theorem dX4_granted_8 : decode cX4_granted 8 = .ok (.ifCond .ne 9, 3) := by decide +kernel
theorem dX4_granted_11 : decode cX4_granted 11 = .ok (.aload_n 0, 1) := by decide +kernel
theorem dX4_granted_12 : decode cX4_granted 12 = .ok (.iconst 0, 1) := by decide +kernel
theorem dX4_granted_13 : decode cX4_granted 13 = .ok (.invokevirtual 54, 3) := by decide +kernel
theorem dX4_granted_16 : decode cX4_granted 16 = .ok (.ireturn, 1) := by decide +kernel
theorem dX4_granted_17 : decode cX4_granted 17 = .ok (.aload_n 0, 1) := by decide +kernel
theorem dX4_granted_18 : decode cX4_granted 18 = .ok (.getfield 19, 3) := by decide +kernel
theorem dX4_granted_21 : decode cX4_granted 21 = .ok (.aload_n 0, 1) := by decide +kernel
theorem dX4_granted_22 : decode cX4_granted 22 = .ok (.getfield 10, 3) := by decide +kernel
theorem dX4_granted_25 : decode cX4_granted 25 = .ok (.invokevirtual 134, 3) := by decide +kernel
theorem dX4_granted_28 : decode cX4_granted 28 = .ok (.iconst 0, 1) := by decide +kernel
theorem dX4_granted_29 : decode cX4_granted 29 = .ok (.istore_n 2, 1) := by decide +kernel
theorem dX4_granted_30 : decode cX4_granted 30 = .ok (.iload_n 2, 1) := by decide +kernel
theorem dX4_granted_31 : decode cX4_granted 31 = .ok (.sipush 200, 3) := by decide +kernel
theorem dX4_granted_34 : decode cX4_granted 34 = .ok (.if_icmp .gt 29, 3) := by decide +kernel
theorem dX4_granted_37 : decode cX4_granted 37 = .ok (.aload_n 0, 1) := by decide +kernel
theorem dX4_granted_38 : decode cX4_granted 38 = .ok (.getfield 19, 3) := by decide +kernel
theorem dX4_granted_41 : decode cX4_granted 41 = .ok (.iload_n 1, 1) := by decide +kernel
theorem dX4_granted_42 : decode cX4_granted 42 = .ok (.invokevirtual 147, 3) := by decide +kernel
theorem dX4_granted_45 : decode cX4_granted 45 = .ok (.ifCond .eq 5, 3) := by decide +kernel
theorem dX4_granted_48 : decode cX4_granted 48 = .ok (.iload_n 2, 1) := by decide +kernel
theorem dX4_granted_49 : decode cX4_granted 49 = .ok (.ireturn, 1) := by decide +kernel
theorem dX4_granted_50 : decode cX4_granted 50 = .ok (.aload_n 0, 1) := by decide +kernel
theorem dX4_granted_51 : decode cX4_granted 51 = .ok (.getfield 19, 3) := by decide +kernel
theorem dX4_granted_54 : decode cX4_granted 54 = .ok (.invokevirtual 141, 3) := by decide +kernel
theorem dX4_granted_57 : decode cX4_granted 57 = .ok (.iinc 2 1, 3) := by decide +kernel
theorem dX4_granted_60 : decode cX4_granted 60 = .ok (.goto (-30), 3) := by decide +kernel
theorem dX4_granted_63 : decode cX4_granted 63 = .ok (.aload_n 0, 1) := by decide +kernel
theorem dX4_granted_64 : decode cX4_granted 64 = .ok (.iconst 3, 1) := by decide +kernel
theorem dX4_granted_65 : decode cX4_granted 65 = .ok (.invokevirtual 54, 3) := by decide +kernel
theorem dX4_granted_68 : decode cX4_granted 68 = .ok (.ireturn, 1) := by decide +kernel
theorem dX4_best_0 : decode cX4_best 0 = .ok (.aload_n 0, 1) := by decide +kernel
theorem dX4_best_1 : decode cX4_best 1 = .ok (.getfield 25, 3) := by decide +kernel
theorem dX4_best_4 : decode cX4_best 4 = .ok (.aload_n 0, 1) := by decide +kernel
theorem dX4_best_5 : decode cX4_best 5 = .ok (.getfield 10, 3) := by decide +kernel
theorem dX4_best_8 : decode cX4_best 8 = .ok (.invokevirtual 127, 3) := by decide +kernel
theorem dX4_best_11 : decode cX4_best 11 = .ok (.ireturn, 1) := by decide +kernel
theorem dX4_bestAt_0 : decode cX4_bestAt 0 = .ok (.aload_n 0, 1) := by decide +kernel
theorem dX4_bestAt_1 : decode cX4_bestAt 1 = .ok (.getfield 10, 3) := by decide +kernel
theorem dX4_bestAt_4 : decode cX4_bestAt 4 = .ok (.iload_n 1, 1) := by decide +kernel
theorem dX4_bestAt_5 : decode cX4_bestAt 5 = .ok (.invokevirtual 75, 3) := by decide +kernel
theorem dX4_bestAt_8 : decode cX4_bestAt 8 = .ok (.ifCond .eq 18, 3) := by decide +kernel
theorem dX4_bestAt_11 : decode cX4_bestAt 11 = .ok (.aload_n 0, 1) := by decide +kernel
theorem dX4_bestAt_12 : decode cX4_bestAt 12 = .ok (.getfield 25, 3) := by decide +kernel
theorem dX4_bestAt_15 : decode cX4_bestAt 15 = .ok (.aload_n 0, 1) := by decide +kernel
theorem dX4_bestAt_16 : decode cX4_bestAt 16 = .ok (.getfield 10, 3) := by decide +kernel
theorem dX4_bestAt_19 : decode cX4_bestAt 19 = .ok (.iload_n 1, 1) := by decide +kernel
theorem dX4_bestAt_20 : decode cX4_bestAt 20 = .ok (.invokevirtual 150, 3) := by decide +kernel
theorem dX4_bestAt_23 : decode cX4_bestAt 23 = .ok (.goto 8, 3) := by decide +kernel
theorem dX4_bestAt_26 : decode cX4_bestAt 26 = .ok (.aload_n 0, 1) := by decide +kernel
theorem dX4_bestAt_27 : decode cX4_bestAt 27 = .ok (.iconst 0, 1) := by decide +kernel
theorem dX4_bestAt_28 : decode cX4_bestAt 28 = .ok (.invokevirtual 54, 3) := by decide +kernel
theorem dX4_bestAt_31 : decode cX4_bestAt 31 = .ok (.ireturn, 1) := by decide +kernel
theorem dX4_settle_0 : decode cX4_settle 0 = .ok (.iconst 0, 1) := by decide +kernel
theorem dX4_settle_1 : decode cX4_settle 1 = .ok (.istore_n 1, 1) := by decide +kernel
theorem dX4_settle_2 : decode cX4_settle 2 = .ok (.iconst 0, 1) := by decide +kernel
theorem dX4_settle_3 : decode cX4_settle 3 = .ok (.istore_n 2, 1) := by decide +kernel
theorem dX4_settle_4 : decode cX4_settle 4 = .ok (.iload_n 2, 1) := by decide +kernel
theorem dX4_settle_5 : decode cX4_settle 5 = .ok (.ldc 154, 2) := by decide +kernel
theorem dX4_settle_7 : decode cX4_settle 7 = .ok (.if_icmp .ge 39, 3) := by decide +kernel
theorem dX4_settle_10 : decode cX4_settle 10 = .ok (.aload_n 0, 1) := by decide +kernel
theorem dX4_settle_11 : decode cX4_settle 11 = .ok (.invokevirtual 131, 3) := by decide +kernel
theorem dX4_settle_14 : decode cX4_settle 14 = .ok (.istore_n 3, 1) := by decide +kernel
theorem dX4_settle_15 : decode cX4_settle 15 = .ok (.iload_n 3, 1) := by decide +kernel
theorem dX4_settle_16 : decode cX4_settle 16 = .ok (.ifCond .ge 6, 3) := by decide +kernel
theorem dX4_settle_19 : decode cX4_settle 19 = .ok (.goto 27, 3) := by decide +kernel
theorem dX4_settle_22 : decode cX4_settle 22 = .ok (.aload_n 0, 1) := by decide +kernel
theorem dX4_settle_23 : decode cX4_settle 23 = .ok (.getfield 10, 3) := by decide +kernel
theorem dX4_settle_26 : decode cX4_settle 26 = .ok (.iload_n 3, 1) := by decide +kernel
theorem dX4_settle_27 : decode cX4_settle 27 = .ok (.bipush 10, 2) := by decide +kernel
theorem dX4_settle_29 : decode cX4_settle 29 = .ok (.idiv, 1) := by decide +kernel
theorem dX4_settle_30 : decode cX4_settle 30 = .ok (.iload_n 3, 1) := by decide +kernel
theorem dX4_settle_31 : decode cX4_settle 31 = .ok (.bipush 10, 2) := by decide +kernel
theorem dX4_settle_33 : decode cX4_settle 33 = .ok (.irem, 1) := by decide +kernel
theorem dX4_settle_34 : decode cX4_settle 34 = .ok (.invokevirtual 99, 3) := by decide +kernel
theorem dX4_settle_37 : decode cX4_settle 37 = .ok (.iinc 1 1, 3) := by decide +kernel
theorem dX4_settle_40 : decode cX4_settle 40 = .ok (.iinc 2 1, 3) := by decide +kernel
theorem dX4_settle_43 : decode cX4_settle 43 = .ok (.goto (-39), 3) := by decide +kernel
theorem dX4_settle_46 : decode cX4_settle 46 = .ok (.iload_n 1, 1) := by decide +kernel
theorem dX4_settle_47 : decode cX4_settle 47 = .ok (.ireturn, 1) := by decide +kernel
theorem dX4_edgeFor_0 : decode cX4_edgeFor 0 = .ok (.aload_n 0, 1) := by decide +kernel
theorem dX4_edgeFor_1 : decode cX4_edgeFor 1 = .ok (.getfield 10, 3) := by decide +kernel
theorem dX4_edgeFor_4 : decode cX4_edgeFor 4 = .ok (.iload_n 1, 1) := by decide +kernel
theorem dX4_edgeFor_5 : decode cX4_edgeFor 5 = .ok (.invokevirtual 75, 3) := by decide +kernel
theorem dX4_edgeFor_8 : decode cX4_edgeFor 8 = .ok (.ifCond .eq 14, 3) := by decide +kernel
theorem dX4_edgeFor_11 : decode cX4_edgeFor 11 = .ok (.aload_n 0, 1) := by decide +kernel
theorem dX4_edgeFor_12 : decode cX4_edgeFor 12 = .ok (.iload_n 1, 1) := by decide +kernel
theorem dX4_edgeFor_13 : decode cX4_edgeFor 13 = .ok (.iconst 1, 1) := by decide +kernel
theorem dX4_edgeFor_14 : decode cX4_edgeFor 14 = .ok (.bipush 9, 2) := by decide +kernel
theorem dX4_edgeFor_16 : decode cX4_edgeFor 16 = .ok (.invokevirtual 155, 3) := by decide +kernel
theorem dX4_edgeFor_19 : decode cX4_edgeFor 19 = .ok (.goto 8, 3) := by decide +kernel
theorem dX4_edgeFor_22 : decode cX4_edgeFor 22 = .ok (.aload_n 0, 1) := by decide +kernel
theorem dX4_edgeFor_23 : decode cX4_edgeFor 23 = .ok (.iconst 0, 1) := by decide +kernel
theorem dX4_edgeFor_24 : decode cX4_edgeFor 24 = .ok (.invokevirtual 54, 3) := by decide +kernel
theorem dX4_edgeFor_27 : decode cX4_edgeFor 27 = .ok (.ireturn, 1) := by decide +kernel
theorem dX4_kindFor_0 : decode cX4_kindFor 0 = .ok (.aload_n 0, 1) := by decide +kernel
theorem dX4_kindFor_1 : decode cX4_kindFor 1 = .ok (.getfield 10, 3) := by decide +kernel
theorem dX4_kindFor_4 : decode cX4_kindFor 4 = .ok (.iload_n 1, 1) := by decide +kernel
theorem dX4_kindFor_5 : decode cX4_kindFor 5 = .ok (.invokevirtual 75, 3) := by decide +kernel
theorem dX4_kindFor_8 : decode cX4_kindFor 8 = .ok (.ifCond .eq 14, 3) := by decide +kernel
theorem dX4_kindFor_11 : decode cX4_kindFor 11 = .ok (.aload_n 0, 1) := by decide +kernel
theorem dX4_kindFor_12 : decode cX4_kindFor 12 = .ok (.iload_n 1, 1) := by decide +kernel
theorem dX4_kindFor_13 : decode cX4_kindFor 13 = .ok (.iconst 0, 1) := by decide +kernel
theorem dX4_kindFor_14 : decode cX4_kindFor 14 = .ok (.bipush 6, 2) := by decide +kernel
theorem dX4_kindFor_16 : decode cX4_kindFor 16 = .ok (.invokevirtual 155, 3) := by decide +kernel
theorem dX4_kindFor_19 : decode cX4_kindFor 19 = .ok (.goto 8, 3) := by decide +kernel
theorem dX4_kindFor_22 : decode cX4_kindFor 22 = .ok (.aload_n 0, 1) := by decide +kernel
theorem dX4_kindFor_23 : decode cX4_kindFor 23 = .ok (.iconst 0, 1) := by decide +kernel
theorem dX4_kindFor_24 : decode cX4_kindFor 24 = .ok (.invokevirtual 54, 3) := by decide +kernel
theorem dX4_kindFor_27 : decode cX4_kindFor 27 = .ok (.ireturn, 1) := by decide +kernel
theorem dX4_turn_0 : decode cX4_turn 0 = .ok (.iload_n 1, 1) := by decide +kernel
theorem dX4_turn_1 : decode cX4_turn 1 = .ok (.invokestatic 138, 3) := by decide +kernel
theorem dX4_turn_4 : decode cX4_turn 4 = .ok (.ifCond .ne 9, 3) := by decide +kernel
theorem dX4_turn_7 : decode cX4_turn 7 = .ok (.aload_n 0, 1) := by decide +kernel
theorem dX4_turn_8 : decode cX4_turn 8 = .ok (.iconst 0, 1) := by decide +kernel
theorem dX4_turn_9 : decode cX4_turn 9 = .ok (.invokevirtual 54, 3) := by decide +kernel
theorem dX4_turn_12 : decode cX4_turn 12 = .ok (.ireturn, 1) := by decide +kernel
theorem dX4_turn_13 : decode cX4_turn 13 = .ok (.aload_n 0, 1) := by decide +kernel
theorem dX4_turn_14 : decode cX4_turn 14 = .ok (.getfield 19, 3) := by decide +kernel
theorem dX4_turn_17 : decode cX4_turn 17 = .ok (.aload_n 0, 1) := by decide +kernel
theorem dX4_turn_18 : decode cX4_turn 18 = .ok (.getfield 10, 3) := by decide +kernel
theorem dX4_turn_21 : decode cX4_turn 21 = .ok (.invokevirtual 134, 3) := by decide +kernel
theorem dX4_turn_24 : decode cX4_turn 24 = .ok (.bipush 9, 2) := by decide +kernel
theorem dX4_turn_26 : decode cX4_turn 26 = .ok (.istore_n 2, 1) := by decide +kernel
theorem dX4_turn_27 : decode cX4_turn 27 = .ok (.iconst 0, 1) := by decide +kernel
theorem dX4_turn_28 : decode cX4_turn 28 = .ok (.istore_n 3, 1) := by decide +kernel
theorem dX4_turn_29 : decode cX4_turn 29 = .ok (.iconst 0, 1) := by decide +kernel
theorem dX4_turn_30 : decode cX4_turn 30 = .ok (.istore 4, 2) := by decide +kernel
theorem dX4_turn_32 : decode cX4_turn 32 = .ok (.iload 4, 2) := by decide +kernel
theorem dX4_turn_34 : decode cX4_turn 34 = .ok (.iconst 1, 1) := by decide +kernel
theorem dX4_turn_35 : decode cX4_turn 35 = .ok (.aload_n 0, 1) := by decide +kernel
theorem dX4_turn_36 : decode cX4_turn 36 = .ok (.getfield 10, 3) := by decide +kernel
theorem dX4_turn_39 : decode cX4_turn 39 = .ok (.getfield 67, 3) := by decide +kernel
theorem dX4_turn_42 : decode cX4_turn 42 = .ok (.ishl, 1) := by decide +kernel
theorem dX4_turn_43 : decode cX4_turn 43 = .ok (.if_icmp .ge 56, 3) := by decide +kernel
theorem dX4_turn_46 : decode cX4_turn 46 = .ok (.iload 4, 2) := by decide +kernel
theorem dX4_turn_48 : decode cX4_turn 48 = .ok (.invokestatic 158, 3) := by decide +kernel
theorem dX4_turn_51 : decode cX4_turn 51 = .ok (.istore 5, 2) := by decide +kernel
theorem dX4_turn_53 : decode cX4_turn 53 = .ok (.iload 5, 2) := by decide +kernel
theorem dX4_turn_55 : decode cX4_turn 55 = .ok (.iload_n 2, 1) := by decide +kernel
theorem dX4_turn_56 : decode cX4_turn 56 = .ok (.if_icmp .ge 37, 3) := by decide +kernel
theorem dX4_turn_59 : decode cX4_turn 59 = .ok (.aload_n 0, 1) := by decide +kernel
theorem dX4_turn_60 : decode cX4_turn 60 = .ok (.getfield 19, 3) := by decide +kernel
theorem dX4_turn_63 : decode cX4_turn 63 = .ok (.aload_n 0, 1) := by decide +kernel
theorem dX4_turn_64 : decode cX4_turn 64 = .ok (.getfield 10, 3) := by decide +kernel
theorem dX4_turn_67 : decode cX4_turn 67 = .ok (.getfield 124, 3) := by decide +kernel
theorem dX4_turn_70 : decode cX4_turn 70 = .ok (.iload 4, 2) := by decide +kernel
theorem dX4_turn_72 : decode cX4_turn 72 = .ok (.ixor, 1) := by decide +kernel
theorem dX4_turn_73 : decode cX4_turn 73 = .ok (.putfield 124, 3) := by decide +kernel
theorem dX4_turn_76 : decode cX4_turn 76 = .ok (.aload_n 0, 1) := by decide +kernel
theorem dX4_turn_77 : decode cX4_turn 77 = .ok (.getfield 19, 3) := by decide +kernel
theorem dX4_turn_80 : decode cX4_turn 80 = .ok (.invokevirtual 103, 3) := by decide +kernel
theorem dX4_turn_83 : decode cX4_turn 83 = .ok (.iload_n 1, 1) := by decide +kernel
theorem dX4_turn_84 : decode cX4_turn 84 = .ok (.if_icmp .gt 9, 3) := by decide +kernel
theorem dX4_turn_87 : decode cX4_turn 87 = .ok (.iload 5, 2) := by decide +kernel
theorem dX4_turn_89 : decode cX4_turn 89 = .ok (.istore_n 2, 1) := by decide +kernel
theorem dX4_turn_90 : decode cX4_turn 90 = .ok (.iload 4, 2) := by decide +kernel
theorem dX4_turn_92 : decode cX4_turn 92 = .ok (.istore_n 3, 1) := by decide +kernel
theorem dX4_turn_93 : decode cX4_turn 93 = .ok (.iinc 4 1, 3) := by decide +kernel
theorem dX4_turn_96 : decode cX4_turn 96 = .ok (.goto (-64), 3) := by decide +kernel
theorem dX4_turn_99 : decode cX4_turn 99 = .ok (.iload_n 2, 1) := by decide +kernel
theorem dX4_turn_100 : decode cX4_turn 100 = .ok (.bipush 8, 2) := by decide +kernel
theorem dX4_turn_102 : decode cX4_turn 102 = .ok (.if_icmp .gt 7, 3) := by decide +kernel
theorem dX4_turn_105 : decode cX4_turn 105 = .ok (.iload_n 3, 1) := by decide +kernel
theorem dX4_turn_106 : decode cX4_turn 106 = .ok (.goto 8, 3) := by decide +kernel
theorem dX4_turn_109 : decode cX4_turn 109 = .ok (.aload_n 0, 1) := by decide +kernel
theorem dX4_turn_110 : decode cX4_turn 110 = .ok (.iconst 3, 1) := by decide +kernel
theorem dX4_turn_111 : decode cX4_turn 111 = .ok (.invokevirtual 54, 3) := by decide +kernel
theorem dX4_turn_114 : decode cX4_turn 114 = .ok (.ireturn, 1) := by decide +kernel
theorem dX4_fits_0 : decode cX4_fits 0 = .ok (.aload_n 0, 1) := by decide +kernel
theorem dX4_fits_1 : decode cX4_fits 1 = .ok (.iload_n 1, 1) := by decide +kernel
theorem dX4_fits_2 : decode cX4_fits 2 = .ok (.invokevirtual 163, 3) := by decide +kernel
theorem dX4_fits_5 : decode cX4_fits 5 = .ok (.istore_n 3, 1) := by decide +kernel
theorem dX4_fits_6 : decode cX4_fits 6 = .ok (.iload_n 3, 1) := by decide +kernel
theorem dX4_fits_7 : decode cX4_fits 7 = .ok (.ifCond .lt 9, 3) := by decide +kernel
theorem dX4_fits_10 : decode cX4_fits 10 = .ok (.aload_n 0, 1) := by decide +kernel
theorem dX4_fits_11 : decode cX4_fits 11 = .ok (.iload_n 3, 1) := by decide +kernel
theorem dX4_fits_12 : decode cX4_fits 12 = .ok (.invokevirtual 54, 3) := by decide +kernel
theorem dX4_fits_15 : decode cX4_fits 15 = .ok (.ireturn, 1) := by decide +kernel
theorem dX4_fits_16 : decode cX4_fits 16 = .ok (.aload_n 0, 1) := by decide +kernel
theorem dX4_fits_17 : decode cX4_fits 17 = .ok (.getfield 10, 3) := by decide +kernel
theorem dX4_fits_20 : decode cX4_fits 20 = .ok (.iload_n 2, 1) := by decide +kernel
theorem dX4_fits_21 : decode cX4_fits 21 = .ok (.invokevirtual 75, 3) := by decide +kernel
theorem dX4_fits_24 : decode cX4_fits 24 = .ok (.ifCond .ne 9, 3) := by decide +kernel
theorem dX4_fits_27 : decode cX4_fits 27 = .ok (.aload_n 0, 1) := by decide +kernel
theorem dX4_fits_28 : decode cX4_fits 28 = .ok (.iconst 0, 1) := by decide +kernel
theorem dX4_fits_29 : decode cX4_fits 29 = .ok (.invokevirtual 54, 3) := by decide +kernel
theorem dX4_fits_32 : decode cX4_fits 32 = .ok (.ireturn, 1) := by decide +kernel
theorem dX4_fits_33 : decode cX4_fits 33 = .ok (.iconst 0, 1) := by decide +kernel
theorem dX4_fits_34 : decode cX4_fits 34 = .ok (.istore 4, 2) := by decide +kernel
theorem dX4_fits_36 : decode cX4_fits 36 = .ok (.iconst 0, 1) := by decide +kernel
theorem dX4_fits_37 : decode cX4_fits 37 = .ok (.istore 5, 2) := by decide +kernel
theorem dX4_fits_39 : decode cX4_fits 39 = .ok (.iload 5, 2) := by decide +kernel
theorem dX4_fits_41 : decode cX4_fits 41 = .ok (.bipush 9, 2) := by decide +kernel
theorem dX4_fits_43 : decode cX4_fits 43 = .ok (.if_icmp .gt 74, 3) := by decide +kernel
theorem dX4_fits_46 : decode cX4_fits 46 = .ok (.iconst 0, 1) := by decide +kernel
theorem dX4_fits_47 : decode cX4_fits 47 = .ok (.istore 6, 2) := by decide +kernel
theorem dX4_fits_49 : decode cX4_fits 49 = .ok (.iload 6, 2) := by decide +kernel
theorem dX4_fits_51 : decode cX4_fits 51 = .ok (.bipush 9, 2) := by decide +kernel
theorem dX4_fits_53 : decode cX4_fits 53 = .ok (.if_icmp .gt 58, 3) := by decide +kernel
theorem dX4_fits_56 : decode cX4_fits 56 = .ok (.aload_n 0, 1) := by decide +kernel
theorem dX4_fits_57 : decode cX4_fits 57 = .ok (.getfield 19, 3) := by decide +kernel
theorem dX4_fits_60 : decode cX4_fits 60 = .ok (.aload_n 0, 1) := by decide +kernel
theorem dX4_fits_61 : decode cX4_fits 61 = .ok (.getfield 10, 3) := by decide +kernel
theorem dX4_fits_64 : decode cX4_fits 64 = .ok (.invokevirtual 134, 3) := by decide +kernel
theorem dX4_fits_67 : decode cX4_fits 67 = .ok (.aload_n 0, 1) := by decide +kernel
theorem dX4_fits_68 : decode cX4_fits 68 = .ok (.getfield 19, 3) := by decide +kernel
theorem dX4_fits_71 : decode cX4_fits 71 = .ok (.getfield 166, 3) := by decide +kernel
theorem dX4_fits_74 : decode cX4_fits 74 = .ok (.iload_n 2, 1) := by decide +kernel
theorem dX4_fits_75 : decode cX4_fits 75 = .ok (.iload 5, 2) := by decide +kernel
theorem dX4_fits_77 : decode cX4_fits 77 = .ok (.iastore, 1) := by decide +kernel
theorem dX4_fits_78 : decode cX4_fits 78 = .ok (.aload_n 0, 1) := by decide +kernel
theorem dX4_fits_79 : decode cX4_fits 79 = .ok (.getfield 19, 3) := by decide +kernel
theorem dX4_fits_82 : decode cX4_fits 82 = .ok (.getfield 169, 3) := by decide +kernel
theorem dX4_fits_85 : decode cX4_fits 85 = .ok (.iload_n 2, 1) := by decide +kernel
theorem dX4_fits_86 : decode cX4_fits 86 = .ok (.iload 6, 2) := by decide +kernel
theorem dX4_fits_88 : decode cX4_fits 88 = .ok (.iastore, 1) := by decide +kernel
theorem dX4_fits_89 : decode cX4_fits 89 = .ok (.aload_n 0, 1) := by decide +kernel
theorem dX4_fits_90 : decode cX4_fits 90 = .ok (.aload_n 0, 1) := by decide +kernel
theorem dX4_fits_91 : decode cX4_fits 91 = .ok (.getfield 38, 3) := by decide +kernel
theorem dX4_fits_94 : decode cX4_fits 94 = .ok (.iload_n 1, 1) := by decide +kernel
theorem dX4_fits_95 : decode cX4_fits 95 = .ok (.aaload, 1) := by decide +kernel
theorem dX4_fits_96 : decode cX4_fits 96 = .ok (.invokevirtual 172, 3) := by decide +kernel
theorem dX4_fits_99 : decode cX4_fits 99 = .ok (.ifCond .eq 6, 3) := by decide +kernel
theorem dX4_fits_102 : decode cX4_fits 102 = .ok (.iinc 4 1, 3) := by decide +kernel
theorem dX4_fits_105 : decode cX4_fits 105 = .ok (.iinc 6 1, 3) := by decide +kernel
theorem dX4_fits_108 : decode cX4_fits 108 = .ok (.goto (-59), 3) := by decide +kernel
theorem dX4_fits_111 : decode cX4_fits 111 = .ok (.iinc 5 1, 3) := by decide +kernel
theorem dX4_fits_114 : decode cX4_fits 114 = .ok (.goto (-75), 3) := by decide +kernel
theorem dX4_fits_117 : decode cX4_fits 117 = .ok (.iload 4, 2) := by decide +kernel
theorem dX4_fits_119 : decode cX4_fits 119 = .ok (.ireturn, 1) := by decide +kernel
theorem dX4_kinds_0 : decode cX4_kinds 0 = .ok (.aload_n 0, 1) := by decide +kernel
theorem dX4_kinds_1 : decode cX4_kinds 1 = .ok (.iload_n 1, 1) := by decide +kernel
theorem dX4_kinds_2 : decode cX4_kinds 2 = .ok (.invokevirtual 163, 3) := by decide +kernel
theorem dX4_kinds_5 : decode cX4_kinds 5 = .ok (.istore_n 3, 1) := by decide +kernel
theorem dX4_kinds_6 : decode cX4_kinds 6 = .ok (.iload_n 3, 1) := by decide +kernel
theorem dX4_kinds_7 : decode cX4_kinds 7 = .ok (.ifCond .lt 9, 3) := by decide +kernel
theorem dX4_kinds_10 : decode cX4_kinds 10 = .ok (.aload_n 0, 1) := by decide +kernel
theorem dX4_kinds_11 : decode cX4_kinds 11 = .ok (.iload_n 3, 1) := by decide +kernel
theorem dX4_kinds_12 : decode cX4_kinds 12 = .ok (.invokevirtual 54, 3) := by decide +kernel
theorem dX4_kinds_15 : decode cX4_kinds 15 = .ok (.ireturn, 1) := by decide +kernel
theorem dX4_kinds_16 : decode cX4_kinds 16 = .ok (.aload_n 0, 1) := by decide +kernel
theorem dX4_kinds_17 : decode cX4_kinds 17 = .ok (.getfield 10, 3) := by decide +kernel
theorem dX4_kinds_20 : decode cX4_kinds 20 = .ok (.iload_n 2, 1) := by decide +kernel
theorem dX4_kinds_21 : decode cX4_kinds 21 = .ok (.invokevirtual 75, 3) := by decide +kernel
theorem dX4_kinds_24 : decode cX4_kinds 24 = .ok (.ifCond .ne 9, 3) := by decide +kernel
theorem dX4_kinds_27 : decode cX4_kinds 27 = .ok (.aload_n 0, 1) := by decide +kernel
theorem dX4_kinds_28 : decode cX4_kinds 28 = .ok (.iconst 0, 1) := by decide +kernel
theorem dX4_kinds_29 : decode cX4_kinds 29 = .ok (.invokevirtual 54, 3) := by decide +kernel
theorem dX4_kinds_32 : decode cX4_kinds 32 = .ok (.ireturn, 1) := by decide +kernel
theorem dX4_kinds_33 : decode cX4_kinds 33 = .ok (.iconst 0, 1) := by decide +kernel
theorem dX4_kinds_34 : decode cX4_kinds 34 = .ok (.istore 4, 2) := by decide +kernel
theorem dX4_kinds_36 : decode cX4_kinds 36 = .ok (.iconst 0, 1) := by decide +kernel
theorem dX4_kinds_37 : decode cX4_kinds 37 = .ok (.istore 5, 2) := by decide +kernel
theorem dX4_kinds_39 : decode cX4_kinds 39 = .ok (.iload 5, 2) := by decide +kernel
theorem dX4_kinds_41 : decode cX4_kinds 41 = .ok (.bipush 7, 2) := by decide +kernel
theorem dX4_kinds_43 : decode cX4_kinds 43 = .ok (.if_icmp .ge 53, 3) := by decide +kernel
theorem dX4_kinds_46 : decode cX4_kinds 46 = .ok (.aload_n 0, 1) := by decide +kernel
theorem dX4_kinds_47 : decode cX4_kinds 47 = .ok (.getfield 19, 3) := by decide +kernel
theorem dX4_kinds_50 : decode cX4_kinds 50 = .ok (.aload_n 0, 1) := by decide +kernel
theorem dX4_kinds_51 : decode cX4_kinds 51 = .ok (.getfield 10, 3) := by decide +kernel
theorem dX4_kinds_54 : decode cX4_kinds 54 = .ok (.invokevirtual 134, 3) := by decide +kernel
theorem dX4_kinds_57 : decode cX4_kinds 57 = .ok (.aload_n 0, 1) := by decide +kernel
theorem dX4_kinds_58 : decode cX4_kinds 58 = .ok (.getfield 19, 3) := by decide +kernel
theorem dX4_kinds_61 : decode cX4_kinds 61 = .ok (.getfield 176, 3) := by decide +kernel
theorem dX4_kinds_64 : decode cX4_kinds 64 = .ok (.iload_n 2, 1) := by decide +kernel
theorem dX4_kinds_65 : decode cX4_kinds 65 = .ok (.iload 5, 2) := by decide +kernel
theorem dX4_kinds_67 : decode cX4_kinds 67 = .ok (.iastore, 1) := by decide +kernel
theorem dX4_kinds_68 : decode cX4_kinds 68 = .ok (.aload_n 0, 1) := by decide +kernel
theorem dX4_kinds_69 : decode cX4_kinds 69 = .ok (.aload_n 0, 1) := by decide +kernel
theorem dX4_kinds_70 : decode cX4_kinds 70 = .ok (.getfield 38, 3) := by decide +kernel
theorem dX4_kinds_73 : decode cX4_kinds 73 = .ok (.iload_n 1, 1) := by decide +kernel
theorem dX4_kinds_74 : decode cX4_kinds 74 = .ok (.aaload, 1) := by decide +kernel
theorem dX4_kinds_75 : decode cX4_kinds 75 = .ok (.invokevirtual 172, 3) := by decide +kernel
theorem dX4_kinds_78 : decode cX4_kinds 78 = .ok (.ifCond .eq 12, 3) := by decide +kernel
theorem dX4_kinds_81 : decode cX4_kinds 81 = .ok (.iload 4, 2) := by decide +kernel
theorem dX4_kinds_83 : decode cX4_kinds 83 = .ok (.iconst 1, 1) := by decide +kernel
theorem dX4_kinds_84 : decode cX4_kinds 84 = .ok (.iload 5, 2) := by decide +kernel
theorem dX4_kinds_86 : decode cX4_kinds 86 = .ok (.ishl, 1) := by decide +kernel
theorem dX4_kinds_87 : decode cX4_kinds 87 = .ok (.ior, 1) := by decide +kernel
theorem dX4_kinds_88 : decode cX4_kinds 88 = .ok (.istore 4, 2) := by decide +kernel
theorem dX4_kinds_90 : decode cX4_kinds 90 = .ok (.iinc 5 1, 3) := by decide +kernel
theorem dX4_kinds_93 : decode cX4_kinds 93 = .ok (.goto (-54), 3) := by decide +kernel
theorem dX4_kinds_96 : decode cX4_kinds 96 = .ok (.iload 4, 2) := by decide +kernel
theorem dX4_kinds_98 : decode cX4_kinds 98 = .ok (.ireturn, 1) := by decide +kernel
theorem dX4_tip_0 : decode cX4_tip 0 = .ok (.iload_n 1, 1) := by decide +kernel
theorem dX4_tip_1 : decode cX4_tip 1 = .ok (.iconst 1, 1) := by decide +kernel
theorem dX4_tip_2 : decode cX4_tip 2 = .ok (.if_icmp .lt 9, 3) := by decide +kernel
theorem dX4_tip_5 : decode cX4_tip 5 = .ok (.iload_n 1, 1) := by decide +kernel
theorem dX4_tip_6 : decode cX4_tip 6 = .ok (.bipush 20, 2) := by decide +kernel
theorem dX4_tip_8 : decode cX4_tip 8 = .ok (.if_icmp .le 9, 3) := by decide +kernel
theorem dX4_tip_11 : decode cX4_tip 11 = .ok (.aload_n 0, 1) := by decide +kernel
theorem dX4_tip_12 : decode cX4_tip 12 = .ok (.iconst 0, 1) := by decide +kernel
theorem dX4_tip_13 : decode cX4_tip 13 = .ok (.invokevirtual 54, 3) := by decide +kernel
theorem dX4_tip_16 : decode cX4_tip 16 = .ok (.ireturn, 1) := by decide +kernel
theorem dX4_tip_17 : decode cX4_tip 17 = .ok (.aload_n 0, 1) := by decide +kernel
theorem dX4_tip_18 : decode cX4_tip 18 = .ok (.getfield 10, 3) := by decide +kernel
theorem dX4_tip_21 : decode cX4_tip 21 = .ok (.getfield 107, 3) := by decide +kernel
theorem dX4_tip_24 : decode cX4_tip 24 = .ok (.iload_n 1, 1) := by decide +kernel
theorem dX4_tip_25 : decode cX4_tip 25 = .ok (.iadd, 1) := by decide +kernel
theorem dX4_tip_26 : decode cX4_tip 26 = .ok (.ldc 110, 2) := by decide +kernel
theorem dX4_tip_28 : decode cX4_tip 28 = .ok (.if_icmp .le 9, 3) := by decide +kernel
theorem dX4_tip_31 : decode cX4_tip 31 = .ok (.aload_n 0, 1) := by decide +kernel
theorem dX4_tip_32 : decode cX4_tip 32 = .ok (.iconst 4, 1) := by decide +kernel
theorem dX4_tip_33 : decode cX4_tip 33 = .ok (.invokevirtual 54, 3) := by decide +kernel
theorem dX4_tip_36 : decode cX4_tip 36 = .ok (.ireturn, 1) := by decide +kernel
theorem dX4_tip_37 : decode cX4_tip 37 = .ok (.iconst 0, 1) := by decide +kernel
theorem dX4_tip_38 : decode cX4_tip 38 = .ok (.istore_n 2, 1) := by decide +kernel
theorem dX4_tip_39 : decode cX4_tip 39 = .ok (.iload_n 2, 1) := by decide +kernel
theorem dX4_tip_40 : decode cX4_tip 40 = .ok (.iload_n 1, 1) := by decide +kernel
theorem dX4_tip_41 : decode cX4_tip 41 = .ok (.if_icmp .ge 64, 3) := by decide +kernel
theorem dX4_tip_44 : decode cX4_tip 44 = .ok (.aload_n 0, 1) := by decide +kernel
theorem dX4_tip_45 : decode cX4_tip 45 = .ok (.getfield 10, 3) := by decide +kernel
theorem dX4_tip_48 : decode cX4_tip 48 = .ok (.invokevirtual 179, 3) := by decide +kernel
theorem dX4_tip_51 : decode cX4_tip 51 = .ok (.bipush 8, 2) := by decide +kernel
theorem dX4_tip_53 : decode cX4_tip 53 = .ok (.irem, 1) := by decide +kernel
theorem dX4_tip_54 : decode cX4_tip 54 = .ok (.istore_n 3, 1) := by decide +kernel
theorem dX4_tip_55 : decode cX4_tip 55 = .ok (.aload_n 0, 1) := by decide +kernel
theorem dX4_tip_56 : decode cX4_tip 56 = .ok (.getfield 10, 3) := by decide +kernel
theorem dX4_tip_59 : decode cX4_tip 59 = .ok (.invokevirtual 179, 3) := by decide +kernel
theorem dX4_tip_62 : decode cX4_tip 62 = .ok (.bipush 8, 2) := by decide +kernel
theorem dX4_tip_64 : decode cX4_tip 64 = .ok (.irem, 1) := by decide +kernel
theorem dX4_tip_65 : decode cX4_tip 65 = .ok (.istore 4, 2) := by decide +kernel
theorem dX4_tip_67 : decode cX4_tip 67 = .ok (.aload_n 0, 1) := by decide +kernel
theorem dX4_tip_68 : decode cX4_tip 68 = .ok (.getfield 10, 3) := by decide +kernel
theorem dX4_tip_71 : decode cX4_tip 71 = .ok (.getfield 58, 3) := by decide +kernel
theorem dX4_tip_74 : decode cX4_tip 74 = .ok (.aload_n 0, 1) := by decide +kernel
theorem dX4_tip_75 : decode cX4_tip 75 = .ok (.getfield 10, 3) := by decide +kernel
theorem dX4_tip_78 : decode cX4_tip 78 = .ok (.getfield 107, 3) := by decide +kernel
theorem dX4_tip_81 : decode cX4_tip 81 = .ok (.bipush 6, 2) := by decide +kernel
theorem dX4_tip_83 : decode cX4_tip 83 = .ok (.irem, 1) := by decide +kernel
theorem dX4_tip_84 : decode cX4_tip 84 = .ok (.bipush 10, 2) := by decide +kernel
theorem dX4_tip_86 : decode cX4_tip 86 = .ok (.iload_n 3, 1) := by decide +kernel
theorem dX4_tip_87 : decode cX4_tip 87 = .ok (.imul, 1) := by decide +kernel
theorem dX4_tip_88 : decode cX4_tip 88 = .ok (.iload 4, 2) := by decide +kernel
theorem dX4_tip_90 : decode cX4_tip 90 = .ok (.iadd, 1) := by decide +kernel
theorem dX4_tip_91 : decode cX4_tip 91 = .ok (.iastore, 1) := by decide +kernel
theorem dX4_tip_92 : decode cX4_tip 92 = .ok (.aload_n 0, 1) := by decide +kernel
theorem dX4_tip_93 : decode cX4_tip 93 = .ok (.getfield 10, 3) := by decide +kernel
theorem dX4_tip_96 : decode cX4_tip 96 = .ok (.invokevirtual 141, 3) := by decide +kernel
theorem dX4_tip_99 : decode cX4_tip 99 = .ok (.iinc 2 1, 3) := by decide +kernel
theorem dX4_tip_102 : decode cX4_tip 102 = .ok (.goto (-63), 3) := by decide +kernel
theorem dX4_tip_105 : decode cX4_tip 105 = .ok (.aload_n 0, 1) := by decide +kernel
theorem dX4_tip_106 : decode cX4_tip 106 = .ok (.getfield 10, 3) := by decide +kernel
theorem dX4_tip_109 : decode cX4_tip 109 = .ok (.invokevirtual 103, 3) := by decide +kernel
theorem dX4_tip_112 : decode cX4_tip 112 = .ok (.ireturn, 1) := by decide +kernel
theorem dX4_odds_0 : decode cX4_odds 0 = .ok (.iload_n 1, 1) := by decide +kernel
theorem dX4_odds_1 : decode cX4_odds 1 = .ok (.ifCond .lt 18, 3) := by decide +kernel
theorem dX4_odds_4 : decode cX4_odds 4 = .ok (.iload_n 1, 1) := by decide +kernel
theorem dX4_odds_5 : decode cX4_odds 5 = .ok (.bipush 10, 2) := by decide +kernel
theorem dX4_odds_7 : decode cX4_odds 7 = .ok (.if_icmp .gt 12, 3) := by decide +kernel
theorem dX4_odds_10 : decode cX4_odds 10 = .ok (.iload_n 2, 1) := by decide +kernel
theorem dX4_odds_11 : decode cX4_odds 11 = .ok (.ifCond .lt 8, 3) := by decide +kernel
theorem dX4_odds_14 : decode cX4_odds 14 = .ok (.iload_n 2, 1) := by decide +kernel
theorem dX4_odds_15 : decode cX4_odds 15 = .ok (.iconst 1, 1) := by decide +kernel
theorem dX4_odds_16 : decode cX4_odds 16 = .ok (.if_icmp .le 10, 3) := by decide +kernel
theorem dX4_odds_19 : decode cX4_odds 19 = .ok (.aload_n 0, 1) := by decide +kernel
theorem dX4_odds_20 : decode cX4_odds 20 = .ok (.iconst 0, 1) := by decide +kernel
theorem dX4_odds_21 : decode cX4_odds 21 = .ok (.invokevirtual 54, 3) := by decide +kernel
theorem dX4_odds_24 : decode cX4_odds 24 = .ok (.i2l, 1) := by decide +kernel
theorem dX4_odds_25 : decode cX4_odds 25 = .ok (.lreturn, 1) := by decide +kernel
theorem dX4_odds_26 : decode cX4_odds 26 = .ok (.aload_n 0, 1) := by decide +kernel
theorem dX4_odds_27 : decode cX4_odds 27 = .ok (.invokevirtual 182, 3) := by decide +kernel
theorem dX4_odds_30 : decode cX4_odds 30 = .ok (.istore_n 3, 1) := by decide +kernel
theorem dX4_odds_31 : decode cX4_odds 31 = .ok (.bipush 64, 2) := by decide +kernel
theorem dX4_odds_33 : decode cX4_odds 33 = .ok (.istore 4, 2) := by decide +kernel
theorem dX4_odds_35 : decode cX4_odds 35 = .ok (.iload 4, 2) := by decide +kernel
theorem dX4_odds_37 : decode cX4_odds 37 = .ok (.iconst 1, 1) := by decide +kernel
theorem dX4_odds_38 : decode cX4_odds 38 = .ok (.if_icmp .le 22, 3) := by decide +kernel
theorem dX4_odds_41 : decode cX4_odds 41 = .ok (.iload_n 3, 1) := by decide +kernel
theorem dX4_odds_42 : decode cX4_odds 42 = .ok (.iconst 2, 1) := by decide +kernel
theorem dX4_odds_43 : decode cX4_odds 43 = .ok (.irem, 1) := by decide +kernel
theorem dX4_odds_44 : decode cX4_odds 44 = .ok (.ifCond .ne 16, 3) := by decide +kernel
theorem dX4_odds_47 : decode cX4_odds 47 = .ok (.iload_n 3, 1) := by decide +kernel
theorem dX4_odds_48 : decode cX4_odds 48 = .ok (.iconst 2, 1) := by decide +kernel
theorem dX4_odds_49 : decode cX4_odds 49 = .ok (.idiv, 1) := by decide +kernel
theorem dX4_odds_50 : decode cX4_odds 50 = .ok (.istore_n 3, 1) := by decide +kernel
theorem dX4_odds_51 : decode cX4_odds 51 = .ok (.iload 4, 2) := by decide +kernel
theorem dX4_odds_53 : decode cX4_odds 53 = .ok (.iconst 2, 1) := by decide +kernel
theorem dX4_odds_54 : decode cX4_odds 54 = .ok (.idiv, 1) := by decide +kernel
theorem dX4_odds_55 : decode cX4_odds 55 = .ok (.istore 4, 2) := by decide +kernel
theorem dX4_odds_57 : decode cX4_odds 57 = .ok (.goto (-22), 3) := by decide +kernel
theorem dX4_odds_60 : decode cX4_odds 60 = .ok (.iload_n 2, 1) := by decide +kernel
theorem dX4_odds_61 : decode cX4_odds 61 = .ok (.ifCond .ne 7, 3) := by decide +kernel
theorem dX4_odds_64 : decode cX4_odds 64 = .ok (.iload_n 3, 1) := by decide +kernel
theorem dX4_odds_65 : decode cX4_odds 65 = .ok (.goto 5, 3) := by decide +kernel
theorem dX4_odds_68 : decode cX4_odds 68 = .ok (.iload 4, 2) := by decide +kernel
theorem dX4_odds_70 : decode cX4_odds 70 = .ok (.iload_n 1, 1) := by decide +kernel
theorem dX4_odds_71 : decode cX4_odds 71 = .ok (.invokestatic 185, 3) := by decide +kernel
theorem dX4_odds_74 : decode cX4_odds 74 = .ok (.lreturn, 1) := by decide +kernel
theorem dX4_seed_0 : decode cX4_seed 0 = .ok (.aload_n 0, 1) := by decide +kernel
theorem dX4_seed_1 : decode cX4_seed 1 = .ok (.getfield 10, 3) := by decide +kernel
theorem dX4_seed_4 : decode cX4_seed 4 = .ok (.getfield 189, 3) := by decide +kernel
theorem dX4_seed_7 : decode cX4_seed 7 = .ok (.istore_n 2, 1) := by decide +kernel
theorem dX4_seed_8 : decode cX4_seed 8 = .ok (.aload_n 0, 1) := by decide +kernel
theorem dX4_seed_9 : decode cX4_seed 9 = .ok (.getfield 10, 3) := by decide +kernel
theorem dX4_seed_12 : decode cX4_seed 12 = .ok (.iload_n 1, 1) := by decide +kernel
theorem dX4_seed_13 : decode cX4_seed 13 = .ok (.putfield 189, 3) := by decide +kernel
theorem dX4_seed_16 : decode cX4_seed 16 = .ok (.iload_n 2, 1) := by decide +kernel
theorem dX4_seed_17 : decode cX4_seed 17 = .ok (.ireturn, 1) := by decide +kernel
theorem dX4_feed_0 : decode cX4_feed 0 = .ok (.iload_n 2, 1) := by decide +kernel
theorem dX4_feed_1 : decode cX4_feed 1 = .ok (.iconst 1, 1) := by decide +kernel
theorem dX4_feed_2 : decode cX4_feed 2 = .ok (.if_icmp .lt 8, 3) := by decide +kernel
theorem dX4_feed_5 : decode cX4_feed 5 = .ok (.iload_n 2, 1) := by decide +kernel
theorem dX4_feed_6 : decode cX4_feed 6 = .ok (.iconst 4, 1) := by decide +kernel
theorem dX4_feed_7 : decode cX4_feed 7 = .ok (.if_icmp .le 9, 3) := by decide +kernel
theorem dX4_feed_10 : decode cX4_feed 10 = .ok (.aload_n 0, 1) := by decide +kernel
theorem dX4_feed_11 : decode cX4_feed 11 = .ok (.iconst 0, 1) := by decide +kernel
theorem dX4_feed_12 : decode cX4_feed 12 = .ok (.invokevirtual 54, 3) := by decide +kernel
theorem dX4_feed_15 : decode cX4_feed 15 = .ok (.ireturn, 1) := by decide +kernel
theorem dX4_feed_16 : decode cX4_feed 16 = .ok (.aload_n 0, 1) := by decide +kernel
theorem dX4_feed_17 : decode cX4_feed 17 = .ok (.getfield 32, 3) := by decide +kernel
theorem dX4_feed_20 : decode cX4_feed 20 = .ok (.getfield 192, 3) := by decide +kernel
theorem dX4_feed_23 : decode cX4_feed 23 = .ok (.iload_n 2, 1) := by decide +kernel
theorem dX4_feed_24 : decode cX4_feed 24 = .ok (.iadd, 1) := by decide +kernel
theorem dX4_feed_25 : decode cX4_feed 25 = .ok (.bipush 120, 2) := by decide +kernel
theorem dX4_feed_27 : decode cX4_feed 27 = .ok (.if_icmp .le 9, 3) := by decide +kernel
theorem dX4_feed_30 : decode cX4_feed 30 = .ok (.aload_n 0, 1) := by decide +kernel
theorem dX4_feed_31 : decode cX4_feed 31 = .ok (.iconst 1, 1) := by decide +kernel
theorem dX4_feed_32 : decode cX4_feed 32 = .ok (.invokevirtual 54, 3) := by decide +kernel
theorem dX4_feed_35 : decode cX4_feed 35 = .ok (.ireturn, 1) := by decide +kernel
theorem dX4_feed_36 : decode cX4_feed 36 = .ok (.aload_n 0, 1) := by decide +kernel
theorem dX4_feed_37 : decode cX4_feed 37 = .ok (.getfield 32, 3) := by decide +kernel
theorem dX4_feed_40 : decode cX4_feed 40 = .ok (.iload_n 1, 1) := by decide +kernel
theorem dX4_feed_41 : decode cX4_feed 41 = .ok (.iload_n 2, 1) := by decide +kernel
theorem dX4_feed_42 : decode cX4_feed 42 = .ok (.invokevirtual 195, 3) := by decide +kernel
theorem dX4_feed_45 : decode cX4_feed 45 = .ok (.aload_n 0, 1) := by decide +kernel
theorem dX4_feed_46 : decode cX4_feed 46 = .ok (.getfield 32, 3) := by decide +kernel
theorem dX4_feed_49 : decode cX4_feed 49 = .ok (.getfield 192, 3) := by decide +kernel
theorem dX4_feed_52 : decode cX4_feed 52 = .ok (.ireturn, 1) := by decide +kernel
theorem dX4_wipe_0 : decode cX4_wipe 0 = .ok (.aload_n 0, 1) := by decide +kernel
theorem dX4_wipe_1 : decode cX4_wipe 1 = .ok (.getfield 32, 3) := by decide +kernel
theorem dX4_wipe_4 : decode cX4_wipe 4 = .ok (.getfield 192, 3) := by decide +kernel
theorem dX4_wipe_7 : decode cX4_wipe 7 = .ok (.istore_n 1, 1) := by decide +kernel
theorem dX4_wipe_8 : decode cX4_wipe 8 = .ok (.aload_n 0, 1) := by decide +kernel
theorem dX4_wipe_9 : decode cX4_wipe 9 = .ok (.getfield 32, 3) := by decide +kernel
theorem dX4_wipe_12 : decode cX4_wipe 12 = .ok (.iconst 0, 1) := by decide +kernel
theorem dX4_wipe_13 : decode cX4_wipe 13 = .ok (.putfield 192, 3) := by decide +kernel
theorem dX4_wipe_16 : decode cX4_wipe 16 = .ok (.iload_n 1, 1) := by decide +kernel
theorem dX4_wipe_17 : decode cX4_wipe 17 = .ok (.ireturn, 1) := by decide +kernel
theorem dX4_text_0 : decode cX4_text 0 = .ok (.aload_n 0, 1) := by decide +kernel
theorem dX4_text_1 : decode cX4_text 1 = .ok (.getfield 19, 3) := by decide +kernel
theorem dX4_text_4 : decode cX4_text 4 = .ok (.aload_n 0, 1) := by decide +kernel
theorem dX4_text_5 : decode cX4_text 5 = .ok (.getfield 10, 3) := by decide +kernel
theorem dX4_text_8 : decode cX4_text 8 = .ok (.invokevirtual 134, 3) := by decide +kernel
theorem dX4_text_11 : decode cX4_text 11 = .ok (.aload_n 0, 1) := by decide +kernel
theorem dX4_text_12 : decode cX4_text 12 = .ok (.getfield 32, 3) := by decide +kernel
theorem dX4_text_15 : decode cX4_text 15 = .ok (.aload_n 0, 1) := by decide +kernel
theorem dX4_text_16 : decode cX4_text 16 = .ok (.getfield 19, 3) := by decide +kernel
theorem dX4_text_19 : decode cX4_text 19 = .ok (.invokevirtual 198, 3) := by decide +kernel
theorem dX4_text_22 : decode cX4_text 22 = .ok (.istore_n 1, 1) := by decide +kernel
theorem dX4_text_23 : decode cX4_text 23 = .ok (.aload_n 0, 1) := by decide +kernel
theorem dX4_text_24 : decode cX4_text 24 = .ok (.getfield 32, 3) := by decide +kernel
theorem dX4_text_27 : decode cX4_text 27 = .ok (.iconst 0, 1) := by decide +kernel
theorem dX4_text_28 : decode cX4_text 28 = .ok (.putfield 192, 3) := by decide +kernel
theorem dX4_text_31 : decode cX4_text 31 = .ok (.iload_n 1, 1) := by decide +kernel
theorem dX4_text_32 : decode cX4_text 32 = .ok (.ifCond .lt 14, 3) := by decide +kernel
theorem dX4_text_35 : decode cX4_text 35 = .ok (.aload_n 0, 1) := by decide +kernel
theorem dX4_text_36 : decode cX4_text 36 = .ok (.getfield 10, 3) := by decide +kernel
theorem dX4_text_39 : decode cX4_text 39 = .ok (.aload_n 0, 1) := by decide +kernel
theorem dX4_text_40 : decode cX4_text 40 = .ok (.getfield 19, 3) := by decide +kernel
theorem dX4_text_43 : decode cX4_text 43 = .ok (.invokevirtual 134, 3) := by decide +kernel
theorem dX4_text_46 : decode cX4_text 46 = .ok (.iload_n 1, 1) := by decide +kernel
theorem dX4_text_47 : decode cX4_text 47 = .ok (.ireturn, 1) := by decide +kernel
theorem dX4_hold_0 : decode cX4_hold 0 = .ok (.iload_n 1, 1) := by decide +kernel
theorem dX4_hold_1 : decode cX4_hold 1 = .ok (.invokestatic 201, 3) := by decide +kernel
theorem dX4_hold_4 : decode cX4_hold 4 = .ok (.ifCond .eq 19, 3) := by decide +kernel
theorem dX4_hold_7 : decode cX4_hold 7 = .ok (.iload_n 2, 1) := by decide +kernel
theorem dX4_hold_8 : decode cX4_hold 8 = .ok (.iconst (-1), 1) := by decide +kernel
theorem dX4_hold_9 : decode cX4_hold 9 = .ok (.if_icmp .eq 20, 3) := by decide +kernel
theorem dX4_hold_12 : decode cX4_hold 12 = .ok (.aload_n 0, 1) := by decide +kernel
theorem dX4_hold_13 : decode cX4_hold 13 = .ok (.getfield 10, 3) := by decide +kernel
theorem dX4_hold_16 : decode cX4_hold 16 = .ok (.iload_n 2, 1) := by decide +kernel
theorem dX4_hold_17 : decode cX4_hold 17 = .ok (.invokevirtual 75, 3) := by decide +kernel
theorem dX4_hold_20 : decode cX4_hold 20 = .ok (.ifCond .ne 9, 3) := by decide +kernel
theorem dX4_hold_23 : decode cX4_hold 23 = .ok (.aload_n 0, 1) := by decide +kernel
theorem dX4_hold_24 : decode cX4_hold 24 = .ok (.iconst 0, 1) := by decide +kernel
theorem dX4_hold_25 : decode cX4_hold 25 = .ok (.invokevirtual 54, 3) := by decide +kernel
theorem dX4_hold_28 : decode cX4_hold 28 = .ok (.ireturn, 1) := by decide +kernel
theorem dX4_hold_29 : decode cX4_hold 29 = .ok (.aload_n 0, 1) := by decide +kernel
theorem dX4_hold_30 : decode cX4_hold 30 = .ok (.getfield 10, 3) := by decide +kernel
theorem dX4_hold_33 : decode cX4_hold 33 = .ok (.getfield 204, 3) := by decide +kernel
theorem dX4_hold_36 : decode cX4_hold 36 = .ok (.iload_n 1, 1) := by decide +kernel
theorem dX4_hold_37 : decode cX4_hold 37 = .ok (.iload_n 2, 1) := by decide +kernel
theorem dX4_hold_38 : decode cX4_hold 38 = .ok (.iastore, 1) := by decide +kernel
theorem dX4_hold_39 : decode cX4_hold 39 = .ok (.iconst 1, 1) := by decide +kernel
theorem dX4_hold_40 : decode cX4_hold 40 = .ok (.ireturn, 1) := by decide +kernel
theorem dX4_as_0 : decode cX4_as 0 = .ok (.iload_n 1, 1) := by decide +kernel
theorem dX4_as_1 : decode cX4_as 1 = .ok (.invokestatic 201, 3) := by decide +kernel
theorem dX4_as_4 : decode cX4_as 4 = .ok (.ifCond .eq 10, 3) := by decide +kernel
theorem dX4_as_7 : decode cX4_as 7 = .ok (.iload_n 2, 1) := by decide +kernel
theorem dX4_as_8 : decode cX4_as 8 = .ok (.invokestatic 61, 3) := by decide +kernel
theorem dX4_as_11 : decode cX4_as 11 = .ok (.ifCond .ne 9, 3) := by decide +kernel
theorem dX4_as_14 : decode cX4_as 14 = .ok (.aload_n 0, 1) := by decide +kernel
theorem dX4_as_15 : decode cX4_as 15 = .ok (.iconst 0, 1) := by decide +kernel
theorem dX4_as_16 : decode cX4_as 16 = .ok (.invokevirtual 54, 3) := by decide +kernel
theorem dX4_as_19 : decode cX4_as 19 = .ok (.ireturn, 1) := by decide +kernel
theorem dX4_as_20 : decode cX4_as 20 = .ok (.aload_n 0, 1) := by decide +kernel
theorem dX4_as_21 : decode cX4_as 21 = .ok (.getfield 10, 3) := by decide +kernel
theorem dX4_as_24 : decode cX4_as 24 = .ok (.getfield 204, 3) := by decide +kernel
theorem dX4_as_27 : decode cX4_as 27 = .ok (.iload_n 1, 1) := by decide +kernel
theorem dX4_as_28 : decode cX4_as 28 = .ok (.iaload, 1) := by decide +kernel
theorem dX4_as_29 : decode cX4_as 29 = .ok (.istore_n 3, 1) := by decide +kernel
theorem dX4_as_30 : decode cX4_as 30 = .ok (.iload_n 3, 1) := by decide +kernel
theorem dX4_as_31 : decode cX4_as 31 = .ok (.ifCond .ge 9, 3) := by decide +kernel
theorem dX4_as_34 : decode cX4_as 34 = .ok (.aload_n 0, 1) := by decide +kernel
theorem dX4_as_35 : decode cX4_as 35 = .ok (.iconst 5, 1) := by decide +kernel
theorem dX4_as_36 : decode cX4_as 36 = .ok (.invokevirtual 54, 3) := by decide +kernel
theorem dX4_as_39 : decode cX4_as 39 = .ok (.ireturn, 1) := by decide +kernel
theorem dX4_as_40 : decode cX4_as 40 = .ok (.aload_n 0, 1) := by decide +kernel
theorem dX4_as_41 : decode cX4_as 41 = .ok (.getfield 10, 3) := by decide +kernel
theorem dX4_as_44 : decode cX4_as 44 = .ok (.getfield 176, 3) := by decide +kernel
theorem dX4_as_47 : decode cX4_as 47 = .ok (.iload_n 3, 1) := by decide +kernel
theorem dX4_as_48 : decode cX4_as 48 = .ok (.iaload, 1) := by decide +kernel
theorem dX4_as_49 : decode cX4_as 49 = .ok (.iload_n 2, 1) := by decide +kernel
theorem dX4_as_50 : decode cX4_as 50 = .ok (.invokestatic 207, 3) := by decide +kernel
theorem dX4_as_53 : decode cX4_as 53 = .ok (.ifCond .eq 7, 3) := by decide +kernel
theorem dX4_as_56 : decode cX4_as 56 = .ok (.iload_n 3, 1) := by decide +kernel
theorem dX4_as_57 : decode cX4_as 57 = .ok (.goto 8, 3) := by decide +kernel
theorem dX4_as_60 : decode cX4_as 60 = .ok (.aload_n 0, 1) := by decide +kernel
theorem dX4_as_61 : decode cX4_as 61 = .ok (.iconst 2, 1) := by decide +kernel
theorem dX4_as_62 : decode cX4_as 62 = .ok (.invokevirtual 54, 3) := by decide +kernel
theorem dX4_as_65 : decode cX4_as 65 = .ok (.ireturn, 1) := by decide +kernel
theorem dX4_sheet_0 : decode cX4_sheet 0 = .ok (.iload_n 2, 1) := by decide +kernel
theorem dX4_sheet_1 : decode cX4_sheet 1 = .ok (.ifCond .eq 21, 3) := by decide +kernel
theorem dX4_sheet_4 : decode cX4_sheet 4 = .ok (.iload_n 2, 1) := by decide +kernel
theorem dX4_sheet_5 : decode cX4_sheet 5 = .ok (.bipush 8, 2) := by decide +kernel
theorem dX4_sheet_7 : decode cX4_sheet 7 = .ok (.if_icmp .eq 15, 3) := by decide +kernel
theorem dX4_sheet_10 : decode cX4_sheet 10 = .ok (.iload_n 2, 1) := by decide +kernel
theorem dX4_sheet_11 : decode cX4_sheet 11 = .ok (.bipush 16, 2) := by decide +kernel
theorem dX4_sheet_13 : decode cX4_sheet 13 = .ok (.if_icmp .eq 9, 3) := by decide +kernel
theorem dX4_sheet_16 : decode cX4_sheet 16 = .ok (.iload_n 2, 1) := by decide +kernel
theorem dX4_sheet_17 : decode cX4_sheet 17 = .ok (.bipush 32, 2) := by decide +kernel
theorem dX4_sheet_19 : decode cX4_sheet 19 = .ok (.if_icmp .ne 7, 3) := by decide +kernel
theorem dX4_sheet_22 : decode cX4_sheet 22 = .ok (.iconst 1, 1) := by decide +kernel
theorem dX4_sheet_23 : decode cX4_sheet 23 = .ok (.goto 4, 3) := by decide +kernel
theorem dX4_sheet_26 : decode cX4_sheet 26 = .ok (.iconst 0, 1) := by decide +kernel
theorem dX4_sheet_27 : decode cX4_sheet 27 = .ok (.istore 4, 2) := by decide +kernel
theorem dX4_sheet_29 : decode cX4_sheet 29 = .ok (.iload_n 1, 1) := by decide +kernel
theorem dX4_sheet_30 : decode cX4_sheet 30 = .ok (.invokestatic 210, 3) := by decide +kernel
theorem dX4_sheet_33 : decode cX4_sheet 33 = .ok (.ifCond .eq 8, 3) := by decide +kernel
theorem dX4_sheet_36 : decode cX4_sheet 36 = .ok (.iload 4, 2) := by decide +kernel
theorem dX4_sheet_38 : decode cX4_sheet 38 = .ok (.ifCond .ne 9, 3) := by decide +kernel
theorem dX4_sheet_41 : decode cX4_sheet 41 = .ok (.aload_n 0, 1) := by decide +kernel
theorem dX4_sheet_42 : decode cX4_sheet 42 = .ok (.iconst 0, 1) := by decide +kernel
theorem dX4_sheet_43 : decode cX4_sheet 43 = .ok (.invokevirtual 54, 3) := by decide +kernel
theorem dX4_sheet_46 : decode cX4_sheet 46 = .ok (.ireturn, 1) := by decide +kernel
theorem dX4_sheet_47 : decode cX4_sheet 47 = .ok (.iload_n 3, 1) := by decide +kernel
theorem dX4_sheet_48 : decode cX4_sheet 48 = .ok (.ifCond .ge 10, 3) := by decide +kernel
theorem dX4_sheet_51 : decode cX4_sheet 51 = .ok (.aload_n 0, 1) := by decide +kernel
theorem dX4_sheet_52 : decode cX4_sheet 52 = .ok (.bipush 6, 2) := by decide +kernel
theorem dX4_sheet_54 : decode cX4_sheet 54 = .ok (.invokevirtual 54, 3) := by decide +kernel
theorem dX4_sheet_57 : decode cX4_sheet 57 = .ok (.ireturn, 1) := by decide +kernel
theorem dX4_sheet_58 : decode cX4_sheet 58 = .ok (.iload_n 3, 1) := by decide +kernel
theorem dX4_sheet_59 : decode cX4_sheet 59 = .ok (.bipush 40, 2) := by decide +kernel
theorem dX4_sheet_61 : decode cX4_sheet 61 = .ok (.if_icmp .le 9, 3) := by decide +kernel
theorem dX4_sheet_64 : decode cX4_sheet 64 = .ok (.aload_n 0, 1) := by decide +kernel
theorem dX4_sheet_65 : decode cX4_sheet 65 = .ok (.iconst 0, 1) := by decide +kernel
theorem dX4_sheet_66 : decode cX4_sheet 66 = .ok (.invokevirtual 54, 3) := by decide +kernel
theorem dX4_sheet_69 : decode cX4_sheet 69 = .ok (.ireturn, 1) := by decide +kernel
theorem dX4_sheet_70 : decode cX4_sheet 70 = .ok (.aload_n 0, 1) := by decide +kernel
theorem dX4_sheet_71 : decode cX4_sheet 71 = .ok (.getfield 38, 3) := by decide +kernel
theorem dX4_sheet_74 : decode cX4_sheet 74 = .ok (.iload_n 1, 1) := by decide +kernel
theorem dX4_sheet_75 : decode cX4_sheet 75 = .ok (.aaload, 1) := by decide +kernel
theorem dX4_sheet_76 : decode cX4_sheet 76 = .ok (.iload_n 2, 1) := by decide +kernel
theorem dX4_sheet_77 : decode cX4_sheet 77 = .ok (.iload_n 3, 1) := by decide +kernel
theorem dX4_sheet_78 : decode cX4_sheet 78 = .ok (.invokevirtual 213, 3) := by decide +kernel
theorem dX4_sheet_81 : decode cX4_sheet 81 = .ok (.aload_n 0, 1) := by decide +kernel
theorem dX4_sheet_82 : decode cX4_sheet 82 = .ok (.getfield 38, 3) := by decide +kernel
theorem dX4_sheet_85 : decode cX4_sheet 85 = .ok (.iload_n 1, 1) := by decide +kernel
theorem dX4_sheet_86 : decode cX4_sheet 86 = .ok (.aaload, 1) := by decide +kernel
theorem dX4_sheet_87 : decode cX4_sheet 87 = .ok (.getfield 216, 3) := by decide +kernel
theorem dX4_sheet_90 : decode cX4_sheet 90 = .ok (.ireturn, 1) := by decide +kernel
theorem dX4_write_0 : decode cX4_write 0 = .ok (.aload_n 0, 1) := by decide +kernel
theorem dX4_write_1 : decode cX4_write 1 = .ok (.iload_n 1, 1) := by decide +kernel
theorem dX4_write_2 : decode cX4_write 2 = .ok (.invokevirtual 163, 3) := by decide +kernel
theorem dX4_write_5 : decode cX4_write 5 = .ok (.istore 4, 2) := by decide +kernel
theorem dX4_write_7 : decode cX4_write 7 = .ok (.iload 4, 2) := by decide +kernel
theorem dX4_write_9 : decode cX4_write 9 = .ok (.ifCond .lt 10, 3) := by decide +kernel
theorem dX4_write_12 : decode cX4_write 12 = .ok (.aload_n 0, 1) := by decide +kernel
theorem dX4_write_13 : decode cX4_write 13 = .ok (.iload 4, 2) := by decide +kernel
theorem dX4_write_15 : decode cX4_write 15 = .ok (.invokevirtual 54, 3) := by decide +kernel
theorem dX4_write_18 : decode cX4_write 18 = .ok (.ireturn, 1) := by decide +kernel
theorem dX4_write_19 : decode cX4_write 19 = .ok (.iload_n 2, 1) := by decide +kernel
theorem dX4_write_20 : decode cX4_write 20 = .ok (.ifCond .lt 16, 3) := by decide +kernel
theorem dX4_write_23 : decode cX4_write 23 = .ok (.iload_n 2, 1) := by decide +kernel
theorem dX4_write_24 : decode cX4_write 24 = .ok (.aload_n 0, 1) := by decide +kernel
theorem dX4_write_25 : decode cX4_write 25 = .ok (.getfield 38, 3) := by decide +kernel
theorem dX4_write_28 : decode cX4_write 28 = .ok (.iload_n 1, 1) := by decide +kernel
theorem dX4_write_29 : decode cX4_write 29 = .ok (.aaload, 1) := by decide +kernel
theorem dX4_write_30 : decode cX4_write 30 = .ok (.getfield 216, 3) := by decide +kernel
theorem dX4_write_33 : decode cX4_write 33 = .ok (.if_icmp .lt 9, 3) := by decide +kernel
theorem dX4_write_36 : decode cX4_write 36 = .ok (.aload_n 0, 1) := by decide +kernel
theorem dX4_write_37 : decode cX4_write 37 = .ok (.iconst 0, 1) := by decide +kernel
theorem dX4_write_38 : decode cX4_write 38 = .ok (.invokevirtual 54, 3) := by decide +kernel
theorem dX4_write_41 : decode cX4_write 41 = .ok (.ireturn, 1) := by decide +kernel
theorem dX4_write_42 : decode cX4_write 42 = .ok (.aload_n 0, 1) := by decide +kernel
theorem dX4_write_43 : decode cX4_write 43 = .ok (.getfield 38, 3) := by decide +kernel
theorem dX4_write_46 : decode cX4_write 46 = .ok (.iload_n 1, 1) := by decide +kernel
theorem dX4_write_47 : decode cX4_write 47 = .ok (.aaload, 1) := by decide +kernel
theorem dX4_write_48 : decode cX4_write 48 = .ok (.iload_n 2, 1) := by decide +kernel
theorem dX4_write_49 : decode cX4_write 49 = .ok (.iload_n 3, 1) := by decide +kernel
theorem dX4_write_50 : decode cX4_write 50 = .ok (.invokevirtual 219, 3) := by decide +kernel
theorem dX4_write_53 : decode cX4_write 53 = .ok (.iconst 1, 1) := by decide +kernel
theorem dX4_write_54 : decode cX4_write 54 = .ok (.ireturn, 1) := by decide +kernel
theorem dX4_copy_0 : decode cX4_copy 0 = .ok (.iload_n 1, 1) := by decide +kernel
theorem dX4_copy_1 : decode cX4_copy 1 = .ok (.invokestatic 210, 3) := by decide +kernel
theorem dX4_copy_4 : decode cX4_copy 4 = .ok (.ifCond .eq 10, 3) := by decide +kernel
theorem dX4_copy_7 : decode cX4_copy 7 = .ok (.iload_n 3, 1) := by decide +kernel
theorem dX4_copy_8 : decode cX4_copy 8 = .ok (.invokestatic 210, 3) := by decide +kernel
theorem dX4_copy_11 : decode cX4_copy 11 = .ok (.ifCond .ne 9, 3) := by decide +kernel
theorem dX4_copy_14 : decode cX4_copy 14 = .ok (.aload_n 0, 1) := by decide +kernel
theorem dX4_copy_15 : decode cX4_copy 15 = .ok (.iconst 0, 1) := by decide +kernel
theorem dX4_copy_16 : decode cX4_copy 16 = .ok (.invokevirtual 54, 3) := by decide +kernel
theorem dX4_copy_19 : decode cX4_copy 19 = .ok (.ireturn, 1) := by decide +kernel
theorem dX4_copy_20 : decode cX4_copy 20 = .ok (.aload_n 0, 1) := by decide +kernel
theorem dX4_copy_21 : decode cX4_copy 21 = .ok (.getfield 38, 3) := by decide +kernel
theorem dX4_copy_24 : decode cX4_copy 24 = .ok (.iload_n 1, 1) := by decide +kernel
theorem dX4_copy_25 : decode cX4_copy 25 = .ok (.aaload, 1) := by decide +kernel
theorem dX4_copy_26 : decode cX4_copy 26 = .ok (.getfield 222, 3) := by decide +kernel
theorem dX4_copy_29 : decode cX4_copy 29 = .ok (.ifCond .eq 15, 3) := by decide +kernel
theorem dX4_copy_32 : decode cX4_copy 32 = .ok (.aload_n 0, 1) := by decide +kernel
theorem dX4_copy_33 : decode cX4_copy 33 = .ok (.getfield 38, 3) := by decide +kernel
theorem dX4_copy_36 : decode cX4_copy 36 = .ok (.iload_n 3, 1) := by decide +kernel
theorem dX4_copy_37 : decode cX4_copy 37 = .ok (.aaload, 1) := by decide +kernel
theorem dX4_copy_38 : decode cX4_copy 38 = .ok (.getfield 222, 3) := by decide +kernel
theorem dX4_copy_41 : decode cX4_copy 41 = .ok (.ifCond .ne 9, 3) := by decide +kernel
theorem dX4_copy_44 : decode cX4_copy 44 = .ok (.aload_n 0, 1) := by decide +kernel
theorem dX4_copy_45 : decode cX4_copy 45 = .ok (.iconst 5, 1) := by decide +kernel
theorem dX4_copy_46 : decode cX4_copy 46 = .ok (.invokevirtual 54, 3) := by decide +kernel
theorem dX4_copy_49 : decode cX4_copy 49 = .ok (.ireturn, 1) := by decide +kernel
theorem dX4_copy_50 : decode cX4_copy 50 = .ok (.aload_n 0, 1) := by decide +kernel
theorem dX4_copy_51 : decode cX4_copy 51 = .ok (.getfield 38, 3) := by decide +kernel
theorem dX4_copy_54 : decode cX4_copy 54 = .ok (.iload_n 1, 1) := by decide +kernel
theorem dX4_copy_55 : decode cX4_copy 55 = .ok (.aaload, 1) := by decide +kernel
theorem dX4_copy_56 : decode cX4_copy 56 = .ok (.getfield 222, 3) := by decide +kernel
theorem dX4_copy_59 : decode cX4_copy 59 = .ok (.aload_n 0, 1) := by decide +kernel
theorem dX4_copy_60 : decode cX4_copy 60 = .ok (.getfield 38, 3) := by decide +kernel
theorem dX4_copy_63 : decode cX4_copy 63 = .ok (.iload_n 3, 1) := by decide +kernel
theorem dX4_copy_64 : decode cX4_copy 64 = .ok (.aaload, 1) := by decide +kernel
theorem dX4_copy_65 : decode cX4_copy 65 = .ok (.getfield 222, 3) := by decide +kernel
theorem dX4_copy_68 : decode cX4_copy 68 = .ok (.if_icmp .eq 9, 3) := by decide +kernel
theorem dX4_copy_71 : decode cX4_copy 71 = .ok (.aload_n 0, 1) := by decide +kernel
theorem dX4_copy_72 : decode cX4_copy 72 = .ok (.iconst 2, 1) := by decide +kernel
theorem dX4_copy_73 : decode cX4_copy 73 = .ok (.invokevirtual 54, 3) := by decide +kernel
theorem dX4_copy_76 : decode cX4_copy 76 = .ok (.ireturn, 1) := by decide +kernel
theorem dX4_copy_77 : decode cX4_copy 77 = .ok (.aload_n 0, 1) := by decide +kernel
theorem dX4_copy_78 : decode cX4_copy 78 = .ok (.getfield 38, 3) := by decide +kernel
theorem dX4_copy_81 : decode cX4_copy 81 = .ok (.iload_n 1, 1) := by decide +kernel
theorem dX4_copy_82 : decode cX4_copy 82 = .ok (.aaload, 1) := by decide +kernel
theorem dX4_copy_83 : decode cX4_copy 83 = .ok (.iload_n 2, 1) := by decide +kernel
theorem dX4_copy_84 : decode cX4_copy 84 = .ok (.iload 5, 2) := by decide +kernel
theorem dX4_copy_86 : decode cX4_copy 86 = .ok (.invokevirtual 225, 3) := by decide +kernel
theorem dX4_copy_89 : decode cX4_copy 89 = .ok (.ifCond .eq 19, 3) := by decide +kernel
theorem dX4_copy_92 : decode cX4_copy 92 = .ok (.aload_n 0, 1) := by decide +kernel
theorem dX4_copy_93 : decode cX4_copy 93 = .ok (.getfield 38, 3) := by decide +kernel
theorem dX4_copy_96 : decode cX4_copy 96 = .ok (.iload_n 3, 1) := by decide +kernel
theorem dX4_copy_97 : decode cX4_copy 97 = .ok (.aaload, 1) := by decide +kernel
theorem dX4_copy_98 : decode cX4_copy 98 = .ok (.iload 4, 2) := by decide +kernel
theorem dX4_copy_100 : decode cX4_copy 100 = .ok (.iload 5, 2) := by decide +kernel
theorem dX4_copy_102 : decode cX4_copy 102 = .ok (.invokevirtual 225, 3) := by decide +kernel
theorem dX4_copy_105 : decode cX4_copy 105 = .ok (.ifCond .ne 9, 3) := by decide +kernel
theorem dX4_copy_108 : decode cX4_copy 108 = .ok (.aload_n 0, 1) := by decide +kernel
theorem dX4_copy_109 : decode cX4_copy 109 = .ok (.iconst 0, 1) := by decide +kernel
theorem dX4_copy_110 : decode cX4_copy 110 = .ok (.invokevirtual 54, 3) := by decide +kernel
theorem dX4_copy_113 : decode cX4_copy 113 = .ok (.ireturn, 1) := by decide +kernel
theorem dX4_copy_114 : decode cX4_copy 114 = .ok (.aload_n 0, 1) := by decide +kernel
theorem dX4_copy_115 : decode cX4_copy 115 = .ok (.getfield 38, 3) := by decide +kernel
theorem dX4_copy_118 : decode cX4_copy 118 = .ok (.iload_n 1, 1) := by decide +kernel
theorem dX4_copy_119 : decode cX4_copy 119 = .ok (.aaload, 1) := by decide +kernel
theorem dX4_copy_120 : decode cX4_copy 120 = .ok (.getfield 228, 3) := by decide +kernel
theorem dX4_copy_123 : decode cX4_copy 123 = .ok (.iload_n 2, 1) := by decide +kernel
theorem dX4_copy_124 : decode cX4_copy 124 = .ok (.aload_n 0, 1) := by decide +kernel
theorem dX4_copy_125 : decode cX4_copy 125 = .ok (.getfield 38, 3) := by decide +kernel
theorem dX4_copy_128 : decode cX4_copy 128 = .ok (.iload_n 3, 1) := by decide +kernel
theorem dX4_copy_129 : decode cX4_copy 129 = .ok (.aaload, 1) := by decide +kernel
theorem dX4_copy_130 : decode cX4_copy 130 = .ok (.getfield 228, 3) := by decide +kernel
theorem dX4_copy_133 : decode cX4_copy 133 = .ok (.iload 4, 2) := by decide +kernel
theorem dX4_copy_135 : decode cX4_copy 135 = .ok (.iload 5, 2) := by decide +kernel
theorem dX4_copy_137 : decode cX4_copy 137 = .ok (.invokestatic 231, 3) := by decide +kernel
theorem dX4_copy_140 : decode cX4_copy 140 = .ok (.iload 5, 2) := by decide +kernel
theorem dX4_copy_142 : decode cX4_copy 142 = .ok (.ireturn, 1) := by decide +kernel
theorem dX4_load_0 : decode cX4_load 0 = .ok (.aload_n 0, 1) := by decide +kernel
theorem dX4_load_1 : decode cX4_load 1 = .ok (.iload_n 1, 1) := by decide +kernel
theorem dX4_load_2 : decode cX4_load 2 = .ok (.invokevirtual 163, 3) := by decide +kernel
theorem dX4_load_5 : decode cX4_load 5 = .ok (.istore_n 2, 1) := by decide +kernel
theorem dX4_load_6 : decode cX4_load 6 = .ok (.iload_n 2, 1) := by decide +kernel
theorem dX4_load_7 : decode cX4_load 7 = .ok (.ifCond .lt 9, 3) := by decide +kernel
theorem dX4_load_10 : decode cX4_load 10 = .ok (.aload_n 0, 1) := by decide +kernel
theorem dX4_load_11 : decode cX4_load 11 = .ok (.iload_n 2, 1) := by decide +kernel
theorem dX4_load_12 : decode cX4_load 12 = .ok (.invokevirtual 54, 3) := by decide +kernel
theorem dX4_load_15 : decode cX4_load 15 = .ok (.ireturn, 1) := by decide +kernel
theorem dX4_load_16 : decode cX4_load 16 = .ok (.iconst 0, 1) := by decide +kernel
theorem dX4_load_17 : decode cX4_load 17 = .ok (.istore_n 3, 1) := by decide +kernel
theorem dX4_load_18 : decode cX4_load 18 = .ok (.iload_n 3, 1) := by decide +kernel
theorem dX4_load_19 : decode cX4_load 19 = .ok (.aload_n 0, 1) := by decide +kernel
theorem dX4_load_20 : decode cX4_load 20 = .ok (.getfield 38, 3) := by decide +kernel
theorem dX4_load_23 : decode cX4_load 23 = .ok (.iload_n 1, 1) := by decide +kernel
theorem dX4_load_24 : decode cX4_load 24 = .ok (.aaload, 1) := by decide +kernel
theorem dX4_load_25 : decode cX4_load 25 = .ok (.getfield 216, 3) := by decide +kernel
theorem dX4_load_28 : decode cX4_load 28 = .ok (.if_icmp .ge 57, 3) := by decide +kernel
theorem dX4_load_31 : decode cX4_load 31 = .ok (.aload_n 0, 1) := by decide +kernel
theorem dX4_load_32 : decode cX4_load 32 = .ok (.getfield 10, 3) := by decide +kernel
theorem dX4_load_35 : decode cX4_load 35 = .ok (.iload_n 3, 1) := by decide +kernel
theorem dX4_load_36 : decode cX4_load 36 = .ok (.invokevirtual 75, 3) := by decide +kernel
theorem dX4_load_39 : decode cX4_load 39 = .ok (.ifCond .eq 46, 3) := by decide +kernel
theorem dX4_load_42 : decode cX4_load 42 = .ok (.aload_n 0, 1) := by decide +kernel
theorem dX4_load_43 : decode cX4_load 43 = .ok (.getfield 38, 3) := by decide +kernel
theorem dX4_load_46 : decode cX4_load 46 = .ok (.iload_n 1, 1) := by decide +kernel
theorem dX4_load_47 : decode cX4_load 47 = .ok (.aaload, 1) := by decide +kernel
theorem dX4_load_48 : decode cX4_load 48 = .ok (.getfield 228, 3) := by decide +kernel
theorem dX4_load_51 : decode cX4_load 51 = .ok (.iload_n 3, 1) := by decide +kernel
theorem dX4_load_52 : decode cX4_load 52 = .ok (.iaload, 1) := by decide +kernel
theorem dX4_load_53 : decode cX4_load 53 = .ok (.invokestatic 64, 3) := by decide +kernel
theorem dX4_load_56 : decode cX4_load 56 = .ok (.ifCond .eq 29, 3) := by decide +kernel
theorem dX4_load_59 : decode cX4_load 59 = .ok (.aload_n 0, 1) := by decide +kernel
theorem dX4_load_60 : decode cX4_load 60 = .ok (.getfield 10, 3) := by decide +kernel
theorem dX4_load_63 : decode cX4_load 63 = .ok (.getfield 166, 3) := by decide +kernel
theorem dX4_load_66 : decode cX4_load 66 = .ok (.iload_n 3, 1) := by decide +kernel
theorem dX4_load_67 : decode cX4_load 67 = .ok (.aload_n 0, 1) := by decide +kernel
theorem dX4_load_68 : decode cX4_load 68 = .ok (.getfield 38, 3) := by decide +kernel
theorem dX4_load_71 : decode cX4_load 71 = .ok (.iload_n 1, 1) := by decide +kernel
theorem dX4_load_72 : decode cX4_load 72 = .ok (.aaload, 1) := by decide +kernel
theorem dX4_load_73 : decode cX4_load 73 = .ok (.getfield 228, 3) := by decide +kernel
theorem dX4_load_76 : decode cX4_load 76 = .ok (.iload_n 3, 1) := by decide +kernel
theorem dX4_load_77 : decode cX4_load 77 = .ok (.iaload, 1) := by decide +kernel
theorem dX4_load_78 : decode cX4_load 78 = .ok (.iastore, 1) := by decide +kernel
theorem dX4_load_79 : decode cX4_load 79 = .ok (.iinc 3 1, 3) := by decide +kernel
theorem dX4_load_82 : decode cX4_load 82 = .ok (.goto (-64), 3) := by decide +kernel
theorem dX4_load_85 : decode cX4_load 85 = .ok (.iload_n 3, 1) := by decide +kernel
theorem dX4_load_86 : decode cX4_load 86 = .ok (.ireturn, 1) := by decide +kernel
theorem dX4_judge_0 : decode cX4_judge 0 = .ok (.aload_n 0, 1) := by decide +kernel
theorem dX4_judge_1 : decode cX4_judge 1 = .ok (.iload_n 1, 1) := by decide +kernel
theorem dX4_judge_2 : decode cX4_judge 2 = .ok (.invokevirtual 163, 3) := by decide +kernel
theorem dX4_judge_5 : decode cX4_judge 5 = .ok (.istore_n 2, 1) := by decide +kernel
theorem dX4_judge_6 : decode cX4_judge 6 = .ok (.iload_n 2, 1) := by decide +kernel
theorem dX4_judge_7 : decode cX4_judge 7 = .ok (.ifCond .lt 9, 3) := by decide +kernel
theorem dX4_judge_10 : decode cX4_judge 10 = .ok (.aload_n 0, 1) := by decide +kernel
theorem dX4_judge_11 : decode cX4_judge 11 = .ok (.iload_n 2, 1) := by decide +kernel
theorem dX4_judge_12 : decode cX4_judge 12 = .ok (.invokevirtual 54, 3) := by decide +kernel
theorem dX4_judge_15 : decode cX4_judge 15 = .ok (.ireturn, 1) := by decide +kernel
theorem dX4_judge_16 : decode cX4_judge 16 = .ok (.iconst 0, 1) := by decide +kernel
theorem dX4_judge_17 : decode cX4_judge 17 = .ok (.istore_n 3, 1) := by decide +kernel
theorem dX4_judge_18 : decode cX4_judge 18 = .ok (.iload_n 3, 1) := by decide +kernel
theorem dX4_judge_19 : decode cX4_judge 19 = .ok (.aload_n 0, 1) := by decide +kernel
theorem dX4_judge_20 : decode cX4_judge 20 = .ok (.getfield 38, 3) := by decide +kernel
theorem dX4_judge_23 : decode cX4_judge 23 = .ok (.iload_n 1, 1) := by decide +kernel
theorem dX4_judge_24 : decode cX4_judge 24 = .ok (.aaload, 1) := by decide +kernel
theorem dX4_judge_25 : decode cX4_judge 25 = .ok (.getfield 216, 3) := by decide +kernel
theorem dX4_judge_28 : decode cX4_judge 28 = .ok (.if_icmp .ge 47, 3) := by decide +kernel
theorem dX4_judge_31 : decode cX4_judge 31 = .ok (.aload_n 0, 1) := by decide +kernel
theorem dX4_judge_32 : decode cX4_judge 32 = .ok (.getfield 10, 3) := by decide +kernel
theorem dX4_judge_35 : decode cX4_judge 35 = .ok (.iload_n 3, 1) := by decide +kernel
theorem dX4_judge_36 : decode cX4_judge 36 = .ok (.invokevirtual 75, 3) := by decide +kernel
theorem dX4_judge_39 : decode cX4_judge 39 = .ok (.ifCond .eq 26, 3) := by decide +kernel
theorem dX4_judge_42 : decode cX4_judge 42 = .ok (.aload_n 0, 1) := by decide +kernel
theorem dX4_judge_43 : decode cX4_judge 43 = .ok (.getfield 10, 3) := by decide +kernel
theorem dX4_judge_46 : decode cX4_judge 46 = .ok (.getfield 90, 3) := by decide +kernel
theorem dX4_judge_49 : decode cX4_judge 49 = .ok (.iload_n 3, 1) := by decide +kernel
theorem dX4_judge_50 : decode cX4_judge 50 = .ok (.iaload, 1) := by decide +kernel
theorem dX4_judge_51 : decode cX4_judge 51 = .ok (.aload_n 0, 1) := by decide +kernel
theorem dX4_judge_52 : decode cX4_judge 52 = .ok (.getfield 38, 3) := by decide +kernel
theorem dX4_judge_55 : decode cX4_judge 55 = .ok (.iload_n 1, 1) := by decide +kernel
theorem dX4_judge_56 : decode cX4_judge 56 = .ok (.aaload, 1) := by decide +kernel
theorem dX4_judge_57 : decode cX4_judge 57 = .ok (.getfield 228, 3) := by decide +kernel
theorem dX4_judge_60 : decode cX4_judge 60 = .ok (.iload_n 3, 1) := by decide +kernel
theorem dX4_judge_61 : decode cX4_judge 61 = .ok (.iaload, 1) := by decide +kernel
theorem dX4_judge_62 : decode cX4_judge 62 = .ok (.if_icmp .eq 7, 3) := by decide +kernel
theorem dX4_judge_65 : decode cX4_judge 65 = .ok (.iconst 1, 1) := by decide +kernel
theorem dX4_judge_66 : decode cX4_judge 66 = .ok (.iload_n 3, 1) := by decide +kernel
theorem dX4_judge_67 : decode cX4_judge 67 = .ok (.iadd, 1) := by decide +kernel
theorem dX4_judge_68 : decode cX4_judge 68 = .ok (.ireturn, 1) := by decide +kernel
theorem dX4_judge_69 : decode cX4_judge 69 = .ok (.iinc 3 1, 3) := by decide +kernel
theorem dX4_judge_72 : decode cX4_judge 72 = .ok (.goto (-54), 3) := by decide +kernel
theorem dX4_judge_75 : decode cX4_judge 75 = .ok (.iconst 0, 1) := by decide +kernel
theorem dX4_judge_76 : decode cX4_judge 76 = .ok (.ireturn, 1) := by decide +kernel
theorem dX4_image_0 : decode cX4_image 0 = .ok (.aload_n 0, 1) := by decide +kernel
theorem dX4_image_1 : decode cX4_image 1 = .ok (.getfield 16, 3) := by decide +kernel
theorem dX4_image_4 : decode cX4_image 4 = .ok (.aload_n 0, 1) := by decide +kernel
theorem dX4_image_5 : decode cX4_image 5 = .ok (.getfield 10, 3) := by decide +kernel
theorem dX4_image_8 : decode cX4_image 8 = .ok (.invokevirtual 134, 3) := by decide +kernel
theorem dX4_image_11 : decode cX4_image 11 = .ok (.aload_n 0, 1) := by decide +kernel
theorem dX4_image_12 : decode cX4_image 12 = .ok (.iconst 1, 1) := by decide +kernel
theorem dX4_image_13 : decode cX4_image 13 = .ok (.putfield 237, 3) := by decide +kernel
theorem dX4_image_16 : decode cX4_image 16 = .ok (.iconst 1, 1) := by decide +kernel
theorem dX4_image_17 : decode cX4_image 17 = .ok (.ireturn, 1) := by decide +kernel
theorem dX4_undo_0 : decode cX4_undo 0 = .ok (.aload_n 0, 1) := by decide +kernel
theorem dX4_undo_1 : decode cX4_undo 1 = .ok (.getfield 237, 3) := by decide +kernel
theorem dX4_undo_4 : decode cX4_undo 4 = .ok (.ifCond .ne 9, 3) := by decide +kernel
theorem dX4_undo_7 : decode cX4_undo 7 = .ok (.aload_n 0, 1) := by decide +kernel
theorem dX4_undo_8 : decode cX4_undo 8 = .ok (.iconst 3, 1) := by decide +kernel
theorem dX4_undo_9 : decode cX4_undo 9 = .ok (.invokevirtual 54, 3) := by decide +kernel
theorem dX4_undo_12 : decode cX4_undo 12 = .ok (.ireturn, 1) := by decide +kernel
theorem dX4_undo_13 : decode cX4_undo 13 = .ok (.aload_n 0, 1) := by decide +kernel
theorem dX4_undo_14 : decode cX4_undo 14 = .ok (.getfield 10, 3) := by decide +kernel
theorem dX4_undo_17 : decode cX4_undo 17 = .ok (.aload_n 0, 1) := by decide +kernel
theorem dX4_undo_18 : decode cX4_undo 18 = .ok (.getfield 16, 3) := by decide +kernel
theorem dX4_undo_21 : decode cX4_undo 21 = .ok (.invokevirtual 134, 3) := by decide +kernel
theorem dX4_undo_24 : decode cX4_undo 24 = .ok (.aload_n 0, 1) := by decide +kernel
theorem dX4_undo_25 : decode cX4_undo 25 = .ok (.getfield 10, 3) := by decide +kernel
theorem dX4_undo_28 : decode cX4_undo 28 = .ok (.getfield 107, 3) := by decide +kernel
theorem dX4_undo_31 : decode cX4_undo 31 = .ok (.ireturn, 1) := by decide +kernel
theorem dX4_tear_0 : decode cX4_tear 0 = .ok (.aload_n 0, 1) := by decide +kernel
theorem dX4_tear_1 : decode cX4_tear 1 = .ok (.getfield 237, 3) := by decide +kernel
theorem dX4_tear_4 : decode cX4_tear 4 = .ok (.ifCond .eq 7, 3) := by decide +kernel
theorem dX4_tear_7 : decode cX4_tear 7 = .ok (.iconst 1, 1) := by decide +kernel
theorem dX4_tear_8 : decode cX4_tear 8 = .ok (.goto 4, 3) := by decide +kernel
theorem dX4_tear_11 : decode cX4_tear 11 = .ok (.iconst 0, 1) := by decide +kernel
theorem dX4_tear_12 : decode cX4_tear 12 = .ok (.istore_n 1, 1) := by decide +kernel
theorem dX4_tear_13 : decode cX4_tear 13 = .ok (.aload_n 0, 1) := by decide +kernel
theorem dX4_tear_14 : decode cX4_tear 14 = .ok (.iconst 0, 1) := by decide +kernel
theorem dX4_tear_15 : decode cX4_tear 15 = .ok (.putfield 237, 3) := by decide +kernel
theorem dX4_tear_18 : decode cX4_tear 18 = .ok (.iload_n 1, 1) := by decide +kernel
theorem dX4_tear_19 : decode cX4_tear 19 = .ok (.ireturn, 1) := by decide +kernel
theorem dX4_count_0 : decode cX4_count 0 = .ok (.iload_n 1, 1) := by decide +kernel
theorem dX4_count_1 : decode cX4_count 1 = .ok (.tableswitch 117 0 7 #[47, 55, 63, 71, 82, 93, 101, 109], 47) := by decide +kernel
theorem dX4_count_48 : decode cX4_count 48 = .ok (.aload_n 0, 1) := by decide +kernel
theorem dX4_count_49 : decode cX4_count 49 = .ok (.getfield 10, 3) := by decide +kernel
theorem dX4_count_52 : decode cX4_count 52 = .ok (.getfield 107, 3) := by decide +kernel
theorem dX4_count_55 : decode cX4_count 55 = .ok (.ireturn, 1) := by decide +kernel
theorem dX4_count_56 : decode cX4_count 56 = .ok (.aload_n 0, 1) := by decide +kernel
theorem dX4_count_57 : decode cX4_count 57 = .ok (.getfield 10, 3) := by decide +kernel
theorem dX4_count_60 : decode cX4_count 60 = .ok (.getfield 67, 3) := by decide +kernel
theorem dX4_count_63 : decode cX4_count 63 = .ok (.ireturn, 1) := by decide +kernel
theorem dX4_count_64 : decode cX4_count 64 = .ok (.aload_n 0, 1) := by decide +kernel
theorem dX4_count_65 : decode cX4_count 65 = .ok (.getfield 10, 3) := by decide +kernel
theorem dX4_count_68 : decode cX4_count 68 = .ok (.invokevirtual 103, 3) := by decide +kernel
theorem dX4_count_71 : decode cX4_count 71 = .ok (.ireturn, 1) := by decide +kernel
theorem dX4_count_72 : decode cX4_count 72 = .ok (.aload_n 0, 1) := by decide +kernel
theorem dX4_count_73 : decode cX4_count 73 = .ok (.getfield 10, 3) := by decide +kernel
theorem dX4_count_76 : decode cX4_count 76 = .ok (.getfield 124, 3) := by decide +kernel
theorem dX4_count_79 : decode cX4_count 79 = .ok (.invokestatic 158, 3) := by decide +kernel
theorem dX4_count_82 : decode cX4_count 82 = .ok (.ireturn, 1) := by decide +kernel
theorem dX4_count_83 : decode cX4_count 83 = .ok (.aload_n 0, 1) := by decide +kernel
theorem dX4_count_84 : decode cX4_count 84 = .ok (.getfield 10, 3) := by decide +kernel
theorem dX4_count_87 : decode cX4_count 87 = .ok (.invokevirtual 118, 3) := by decide +kernel
theorem dX4_count_90 : decode cX4_count 90 = .ok (.invokestatic 158, 3) := by decide +kernel
theorem dX4_count_93 : decode cX4_count 93 = .ok (.ireturn, 1) := by decide +kernel
theorem dX4_count_94 : decode cX4_count 94 = .ok (.aload_n 0, 1) := by decide +kernel
theorem dX4_count_95 : decode cX4_count 95 = .ok (.getfield 32, 3) := by decide +kernel
theorem dX4_count_98 : decode cX4_count 98 = .ok (.getfield 192, 3) := by decide +kernel
theorem dX4_count_101 : decode cX4_count 101 = .ok (.ireturn, 1) := by decide +kernel
theorem dX4_count_102 : decode cX4_count 102 = .ok (.aload_n 0, 1) := by decide +kernel
theorem dX4_count_103 : decode cX4_count 103 = .ok (.getfield 10, 3) := by decide +kernel
theorem dX4_count_106 : decode cX4_count 106 = .ok (.getfield 189, 3) := by decide +kernel
theorem dX4_count_109 : decode cX4_count 109 = .ok (.ireturn, 1) := by decide +kernel
theorem dX4_count_110 : decode cX4_count 110 = .ok (.aload_n 0, 1) := by decide +kernel
theorem dX4_count_111 : decode cX4_count 111 = .ok (.getfield 10, 3) := by decide +kernel
theorem dX4_count_114 : decode cX4_count 114 = .ok (.invokevirtual 241, 3) := by decide +kernel
theorem dX4_count_117 : decode cX4_count 117 = .ok (.ireturn, 1) := by decide +kernel
theorem dX4_count_118 : decode cX4_count 118 = .ok (.aload_n 0, 1) := by decide +kernel
theorem dX4_count_119 : decode cX4_count 119 = .ok (.iconst 0, 1) := by decide +kernel
theorem dX4_count_120 : decode cX4_count 120 = .ok (.invokevirtual 54, 3) := by decide +kernel
theorem dX4_count_123 : decode cX4_count 123 = .ok (.ireturn, 1) := by decide +kernel
theorem dX4_status_0 : decode cX4_status 0 = .ok (.iload_n 1, 1) := by decide +kernel
theorem dX4_status_1 : decode cX4_status 1 = .ok (.iconst (-1), 1) := by decide +kernel
theorem dX4_status_2 : decode cX4_status 2 = .ok (.if_icmp .ne 8, 3) := by decide +kernel
theorem dX4_status_5 : decode cX4_status 5 = .ok (.aload_n 0, 1) := by decide +kernel
theorem dX4_status_6 : decode cX4_status 6 = .ok (.invokevirtual 244, 3) := by decide +kernel
theorem dX4_status_9 : decode cX4_status 9 = .ok (.ireturn, 1) := by decide +kernel
theorem dX4_status_10 : decode cX4_status 10 = .ok (.iload_n 1, 1) := by decide +kernel
theorem dX4_status_11 : decode cX4_status 11 = .ok (.ifCond .lt 18, 3) := by decide +kernel
theorem dX4_status_14 : decode cX4_status 14 = .ok (.iload_n 1, 1) := by decide +kernel
theorem dX4_status_15 : decode cX4_status 15 = .ok (.bipush 7, 2) := by decide +kernel
theorem dX4_status_17 : decode cX4_status 17 = .ok (.if_icmp .ge 12, 3) := by decide +kernel
theorem dX4_status_20 : decode cX4_status 20 = .ok (.aload_n 0, 1) := by decide +kernel
theorem dX4_status_21 : decode cX4_status 21 = .ok (.getfield 42, 3) := by decide +kernel
theorem dX4_status_24 : decode cX4_status 24 = .ok (.iload_n 1, 1) := by decide +kernel
theorem dX4_status_25 : decode cX4_status 25 = .ok (.iaload, 1) := by decide +kernel
theorem dX4_status_26 : decode cX4_status 26 = .ok (.goto 8, 3) := by decide +kernel
theorem dX4_status_29 : decode cX4_status 29 = .ok (.aload_n 0, 1) := by decide +kernel
theorem dX4_status_30 : decode cX4_status 30 = .ok (.iconst 0, 1) := by decide +kernel
theorem dX4_status_31 : decode cX4_status 31 = .ok (.invokevirtual 54, 3) := by decide +kernel
theorem dX4_status_34 : decode cX4_status 34 = .ok (.ireturn, 1) := by decide +kernel
theorem dX4_found_0 : decode cX4_found 0 = .ok (.aload_n 0, 1) := by decide +kernel
theorem dX4_found_1 : decode cX4_found 1 = .ok (.getfield 42, 3) := by decide +kernel
theorem dX4_found_4 : decode cX4_found 4 = .ok (.iload_n 1, 1) := by decide +kernel
theorem dX4_found_5 : decode cX4_found 5 = .ok (.dup2, 1) := by decide +kernel
theorem dX4_found_6 : decode cX4_found 6 = .ok (.iaload, 1) := by decide +kernel
theorem dX4_found_7 : decode cX4_found 7 = .ok (.iconst 1, 1) := by decide +kernel
theorem dX4_found_8 : decode cX4_found 8 = .ok (.iadd, 1) := by decide +kernel
theorem dX4_found_9 : decode cX4_found 9 = .ok (.iastore, 1) := by decide +kernel
theorem dX4_found_10 : decode cX4_found 10 = .ok (.ldc 247, 2) := by decide +kernel
theorem dX4_found_12 : decode cX4_found 12 = .ok (.iload_n 1, 1) := by decide +kernel
theorem dX4_found_13 : decode cX4_found 13 = .ok (.isub, 1) := by decide +kernel
theorem dX4_found_14 : decode cX4_found 14 = .ok (.ireturn, 1) := by decide +kernel
theorem dX4_allFindings_0 : decode cX4_allFindings 0 = .ok (.iconst 0, 1) := by decide +kernel
theorem dX4_allFindings_1 : decode cX4_allFindings 1 = .ok (.istore_n 1, 1) := by decide +kernel
theorem dX4_allFindings_2 : decode cX4_allFindings 2 = .ok (.iconst 0, 1) := by decide +kernel
theorem dX4_allFindings_3 : decode cX4_allFindings 3 = .ok (.istore_n 2, 1) := by decide +kernel
theorem dX4_allFindings_4 : decode cX4_allFindings 4 = .ok (.iload_n 2, 1) := by decide +kernel
theorem dX4_allFindings_5 : decode cX4_allFindings 5 = .ok (.bipush 7, 2) := by decide +kernel
theorem dX4_allFindings_7 : decode cX4_allFindings 7 = .ok (.if_icmp .ge 18, 3) := by decide +kernel
theorem dX4_allFindings_10 : decode cX4_allFindings 10 = .ok (.iload_n 1, 1) := by decide +kernel
theorem dX4_allFindings_11 : decode cX4_allFindings 11 = .ok (.aload_n 0, 1) := by decide +kernel
theorem dX4_allFindings_12 : decode cX4_allFindings 12 = .ok (.getfield 42, 3) := by decide +kernel
theorem dX4_allFindings_15 : decode cX4_allFindings 15 = .ok (.iload_n 2, 1) := by decide +kernel
theorem dX4_allFindings_16 : decode cX4_allFindings 16 = .ok (.iaload, 1) := by decide +kernel
theorem dX4_allFindings_17 : decode cX4_allFindings 17 = .ok (.iadd, 1) := by decide +kernel
theorem dX4_allFindings_18 : decode cX4_allFindings 18 = .ok (.istore_n 1, 1) := by decide +kernel
theorem dX4_allFindings_19 : decode cX4_allFindings 19 = .ok (.iinc 2 1, 3) := by decide +kernel
theorem dX4_allFindings_22 : decode cX4_allFindings 22 = .ok (.goto (-18), 3) := by decide +kernel
theorem dX4_allFindings_25 : decode cX4_allFindings 25 = .ok (.iload_n 1, 1) := by decide +kernel
theorem dX4_allFindings_26 : decode cX4_allFindings 26 = .ok (.ireturn, 1) := by decide +kernel
theorem dX4_wrongSheet_0 : decode cX4_wrongSheet 0 = .ok (.iload_n 1, 1) := by decide +kernel
theorem dX4_wrongSheet_1 : decode cX4_wrongSheet 1 = .ok (.invokestatic 210, 3) := by decide +kernel
theorem dX4_wrongSheet_4 : decode cX4_wrongSheet 4 = .ok (.ifCond .ne 5, 3) := by decide +kernel
theorem dX4_wrongSheet_7 : decode cX4_wrongSheet 7 = .ok (.iconst 0, 1) := by decide +kernel
theorem dX4_wrongSheet_8 : decode cX4_wrongSheet 8 = .ok (.ireturn, 1) := by decide +kernel
theorem dX4_wrongSheet_9 : decode cX4_wrongSheet 9 = .ok (.aload_n 0, 1) := by decide +kernel
theorem dX4_wrongSheet_10 : decode cX4_wrongSheet 10 = .ok (.getfield 38, 3) := by decide +kernel
theorem dX4_wrongSheet_13 : decode cX4_wrongSheet 13 = .ok (.iload_n 1, 1) := by decide +kernel
theorem dX4_wrongSheet_14 : decode cX4_wrongSheet 14 = .ok (.aaload, 1) := by decide +kernel
theorem dX4_wrongSheet_15 : decode cX4_wrongSheet 15 = .ok (.getfield 222, 3) := by decide +kernel
theorem dX4_wrongSheet_18 : decode cX4_wrongSheet 18 = .ok (.ifCond .ne 7, 3) := by decide +kernel
theorem dX4_wrongSheet_21 : decode cX4_wrongSheet 21 = .ok (.iconst 5, 1) := by decide +kernel
theorem dX4_wrongSheet_22 : decode cX4_wrongSheet 22 = .ok (.goto 4, 3) := by decide +kernel
theorem dX4_wrongSheet_25 : decode cX4_wrongSheet 25 = .ok (.iconst (-1), 1) := by decide +kernel
theorem dX4_wrongSheet_26 : decode cX4_wrongSheet 26 = .ok (.ireturn, 1) := by decide +kernel
theorem dX4_leastExchange_0 : decode cX4_leastExchange 0 = .ok (.aload_n 0, 1) := by decide +kernel
theorem dX4_leastExchange_1 : decode cX4_leastExchange 1 = .ok (.getfield 10, 3) := by decide +kernel
theorem dX4_leastExchange_4 : decode cX4_leastExchange 4 = .ok (.invokevirtual 103, 3) := by decide +kernel
theorem dX4_leastExchange_7 : decode cX4_leastExchange 7 = .ok (.istore_n 1, 1) := by decide +kernel
theorem dX4_leastExchange_8 : decode cX4_leastExchange 8 = .ok (.iconst (-1), 1) := by decide +kernel
theorem dX4_leastExchange_9 : decode cX4_leastExchange 9 = .ok (.istore_n 2, 1) := by decide +kernel
theorem dX4_leastExchange_10 : decode cX4_leastExchange 10 = .ok (.iconst 0, 1) := by decide +kernel
theorem dX4_leastExchange_11 : decode cX4_leastExchange 11 = .ok (.istore_n 3, 1) := by decide +kernel
theorem dX4_leastExchange_12 : decode cX4_leastExchange 12 = .ok (.iload_n 3, 1) := by decide +kernel
theorem dX4_leastExchange_13 : decode cX4_leastExchange 13 = .ok (.aload_n 0, 1) := by decide +kernel
theorem dX4_leastExchange_14 : decode cX4_leastExchange 14 = .ok (.getfield 10, 3) := by decide +kernel
theorem dX4_leastExchange_17 : decode cX4_leastExchange 17 = .ok (.getfield 67, 3) := by decide +kernel
theorem dX4_leastExchange_20 : decode cX4_leastExchange 20 = .ok (.if_icmp .ge 58, 3) := by decide +kernel
theorem dX4_leastExchange_23 : decode cX4_leastExchange 23 = .ok (.iload_n 3, 1) := by decide +kernel
theorem dX4_leastExchange_24 : decode cX4_leastExchange 24 = .ok (.iconst 1, 1) := by decide +kernel
theorem dX4_leastExchange_25 : decode cX4_leastExchange 25 = .ok (.iadd, 1) := by decide +kernel
theorem dX4_leastExchange_26 : decode cX4_leastExchange 26 = .ok (.istore 4, 2) := by decide +kernel
theorem dX4_leastExchange_28 : decode cX4_leastExchange 28 = .ok (.iload 4, 2) := by decide +kernel
theorem dX4_leastExchange_30 : decode cX4_leastExchange 30 = .ok (.aload_n 0, 1) := by decide +kernel
theorem dX4_leastExchange_31 : decode cX4_leastExchange 31 = .ok (.getfield 10, 3) := by decide +kernel
theorem dX4_leastExchange_34 : decode cX4_leastExchange 34 = .ok (.getfield 67, 3) := by decide +kernel
theorem dX4_leastExchange_37 : decode cX4_leastExchange 37 = .ok (.if_icmp .ge 35, 3) := by decide +kernel
theorem dX4_leastExchange_40 : decode cX4_leastExchange 40 = .ok (.aload_n 0, 1) := by decide +kernel
theorem dX4_leastExchange_41 : decode cX4_leastExchange 41 = .ok (.iload_n 3, 1) := by decide +kernel
theorem dX4_leastExchange_42 : decode cX4_leastExchange 42 = .ok (.iload 4, 2) := by decide +kernel
theorem dX4_leastExchange_44 : decode cX4_leastExchange 44 = .ok (.invokevirtual 248, 3) := by decide +kernel
theorem dX4_leastExchange_47 : decode cX4_leastExchange 47 = .ok (.istore 5, 2) := by decide +kernel
theorem dX4_leastExchange_49 : decode cX4_leastExchange 49 = .ok (.iload 5, 2) := by decide +kernel
theorem dX4_leastExchange_51 : decode cX4_leastExchange 51 = .ok (.iload_n 1, 1) := by decide +kernel
theorem dX4_leastExchange_52 : decode cX4_leastExchange 52 = .ok (.if_icmp .ge 14, 3) := by decide +kernel
theorem dX4_leastExchange_55 : decode cX4_leastExchange 55 = .ok (.iload 5, 2) := by decide +kernel
theorem dX4_leastExchange_57 : decode cX4_leastExchange 57 = .ok (.istore_n 1, 1) := by decide +kernel
theorem dX4_leastExchange_58 : decode cX4_leastExchange 58 = .ok (.bipush 10, 2) := by decide +kernel
theorem dX4_leastExchange_60 : decode cX4_leastExchange 60 = .ok (.iload_n 3, 1) := by decide +kernel
theorem dX4_leastExchange_61 : decode cX4_leastExchange 61 = .ok (.imul, 1) := by decide +kernel
theorem dX4_leastExchange_62 : decode cX4_leastExchange 62 = .ok (.iload 4, 2) := by decide +kernel
theorem dX4_leastExchange_64 : decode cX4_leastExchange 64 = .ok (.iadd, 1) := by decide +kernel
theorem dX4_leastExchange_65 : decode cX4_leastExchange 65 = .ok (.istore_n 2, 1) := by decide +kernel
theorem dX4_leastExchange_66 : decode cX4_leastExchange 66 = .ok (.iinc 4 1, 3) := by decide +kernel
theorem dX4_leastExchange_69 : decode cX4_leastExchange 69 = .ok (.goto (-41), 3) := by decide +kernel
theorem dX4_leastExchange_72 : decode cX4_leastExchange 72 = .ok (.iinc 3 1, 3) := by decide +kernel
theorem dX4_leastExchange_75 : decode cX4_leastExchange 75 = .ok (.goto (-63), 3) := by decide +kernel
theorem dX4_leastExchange_78 : decode cX4_leastExchange 78 = .ok (.iload_n 2, 1) := by decide +kernel
theorem dX4_leastExchange_79 : decode cX4_leastExchange 79 = .ok (.ireturn, 1) := by decide +kernel
theorem dX4_sumExchanged_0 : decode cX4_sumExchanged 0 = .ok (.aload_n 0, 1) := by decide +kernel
theorem dX4_sumExchanged_1 : decode cX4_sumExchanged 1 = .ok (.getfield 10, 3) := by decide +kernel
theorem dX4_sumExchanged_4 : decode cX4_sumExchanged 4 = .ok (.iload_n 1, 1) := by decide +kernel
theorem dX4_sumExchanged_5 : decode cX4_sumExchanged 5 = .ok (.iload_n 2, 1) := by decide +kernel
theorem dX4_sumExchanged_6 : decode cX4_sumExchanged 6 = .ok (.invokevirtual 99, 3) := by decide +kernel
theorem dX4_sumExchanged_9 : decode cX4_sumExchanged 9 = .ok (.aload_n 0, 1) := by decide +kernel
theorem dX4_sumExchanged_10 : decode cX4_sumExchanged 10 = .ok (.getfield 10, 3) := by decide +kernel
theorem dX4_sumExchanged_13 : decode cX4_sumExchanged 13 = .ok (.invokevirtual 103, 3) := by decide +kernel
theorem dX4_sumExchanged_16 : decode cX4_sumExchanged 16 = .ok (.istore_n 3, 1) := by decide +kernel
theorem dX4_sumExchanged_17 : decode cX4_sumExchanged 17 = .ok (.aload_n 0, 1) := by decide +kernel
theorem dX4_sumExchanged_18 : decode cX4_sumExchanged 18 = .ok (.getfield 10, 3) := by decide +kernel
theorem dX4_sumExchanged_21 : decode cX4_sumExchanged 21 = .ok (.iload_n 1, 1) := by decide +kernel
theorem dX4_sumExchanged_22 : decode cX4_sumExchanged 22 = .ok (.iload_n 2, 1) := by decide +kernel
theorem dX4_sumExchanged_23 : decode cX4_sumExchanged 23 = .ok (.invokevirtual 99, 3) := by decide +kernel
theorem dX4_sumExchanged_26 : decode cX4_sumExchanged 26 = .ok (.iload_n 3, 1) := by decide +kernel
theorem dX4_sumExchanged_27 : decode cX4_sumExchanged 27 = .ok (.ireturn, 1) := by decide +kernel
theorem dX4_harmlessSwaps_0 : decode cX4_harmlessSwaps 0 = .ok (.aload_n 0, 1) := by decide +kernel
theorem dX4_harmlessSwaps_1 : decode cX4_harmlessSwaps 1 = .ok (.getfield 10, 3) := by decide +kernel
theorem dX4_harmlessSwaps_4 : decode cX4_harmlessSwaps 4 = .ok (.invokevirtual 103, 3) := by decide +kernel
theorem dX4_harmlessSwaps_7 : decode cX4_harmlessSwaps 7 = .ok (.istore_n 1, 1) := by decide +kernel
theorem dX4_harmlessSwaps_8 : decode cX4_harmlessSwaps 8 = .ok (.iconst 0, 1) := by decide +kernel
theorem dX4_harmlessSwaps_9 : decode cX4_harmlessSwaps 9 = .ok (.istore_n 2, 1) := by decide +kernel
theorem dX4_harmlessSwaps_10 : decode cX4_harmlessSwaps 10 = .ok (.iconst 0, 1) := by decide +kernel
theorem dX4_harmlessSwaps_11 : decode cX4_harmlessSwaps 11 = .ok (.istore_n 3, 1) := by decide +kernel
theorem dX4_harmlessSwaps_12 : decode cX4_harmlessSwaps 12 = .ok (.iload_n 3, 1) := by decide +kernel
theorem dX4_harmlessSwaps_13 : decode cX4_harmlessSwaps 13 = .ok (.bipush 8, 2) := by decide +kernel
theorem dX4_harmlessSwaps_15 : decode cX4_harmlessSwaps 15 = .ok (.if_icmp .ge 39, 3) := by decide +kernel
theorem dX4_harmlessSwaps_18 : decode cX4_harmlessSwaps 18 = .ok (.iconst 0, 1) := by decide +kernel
theorem dX4_harmlessSwaps_19 : decode cX4_harmlessSwaps 19 = .ok (.istore 4, 2) := by decide +kernel
theorem dX4_harmlessSwaps_21 : decode cX4_harmlessSwaps 21 = .ok (.iload 4, 2) := by decide +kernel
theorem dX4_harmlessSwaps_23 : decode cX4_harmlessSwaps 23 = .ok (.bipush 8, 2) := by decide +kernel
theorem dX4_harmlessSwaps_25 : decode cX4_harmlessSwaps 25 = .ok (.if_icmp .ge 23, 3) := by decide +kernel
theorem dX4_harmlessSwaps_28 : decode cX4_harmlessSwaps 28 = .ok (.aload_n 0, 1) := by decide +kernel
theorem dX4_harmlessSwaps_29 : decode cX4_harmlessSwaps 29 = .ok (.iload_n 3, 1) := by decide +kernel
theorem dX4_harmlessSwaps_30 : decode cX4_harmlessSwaps 30 = .ok (.iload 4, 2) := by decide +kernel
theorem dX4_harmlessSwaps_32 : decode cX4_harmlessSwaps 32 = .ok (.invokevirtual 248, 3) := by decide +kernel
theorem dX4_harmlessSwaps_35 : decode cX4_harmlessSwaps 35 = .ok (.iload_n 1, 1) := by decide +kernel
theorem dX4_harmlessSwaps_36 : decode cX4_harmlessSwaps 36 = .ok (.if_icmp .gt 6, 3) := by decide +kernel
theorem dX4_harmlessSwaps_39 : decode cX4_harmlessSwaps 39 = .ok (.iinc 2 1, 3) := by decide +kernel
theorem dX4_harmlessSwaps_42 : decode cX4_harmlessSwaps 42 = .ok (.iinc 4 1, 3) := by decide +kernel
theorem dX4_harmlessSwaps_45 : decode cX4_harmlessSwaps 45 = .ok (.goto (-24), 3) := by decide +kernel
theorem dX4_harmlessSwaps_48 : decode cX4_harmlessSwaps 48 = .ok (.iinc 3 1, 3) := by decide +kernel
theorem dX4_harmlessSwaps_51 : decode cX4_harmlessSwaps 51 = .ok (.goto (-39), 3) := by decide +kernel
theorem dX4_harmlessSwaps_54 : decode cX4_harmlessSwaps 54 = .ok (.iload_n 2, 1) := by decide +kernel
theorem dX4_harmlessSwaps_55 : decode cX4_harmlessSwaps 55 = .ok (.ireturn, 1) := by decide +kernel
theorem dX4_bestValueFor_0 : decode cX4_bestValueFor 0 = .ok (.aload_n 0, 1) := by decide +kernel
theorem dX4_bestValueFor_1 : decode cX4_bestValueFor 1 = .ok (.getfield 19, 3) := by decide +kernel
theorem dX4_bestValueFor_4 : decode cX4_bestValueFor 4 = .ok (.aload_n 0, 1) := by decide +kernel
theorem dX4_bestValueFor_5 : decode cX4_bestValueFor 5 = .ok (.getfield 10, 3) := by decide +kernel
theorem dX4_bestValueFor_8 : decode cX4_bestValueFor 8 = .ok (.invokevirtual 134, 3) := by decide +kernel
theorem dX4_bestValueFor_11 : decode cX4_bestValueFor 11 = .ok (.ldc 154, 2) := by decide +kernel
theorem dX4_bestValueFor_13 : decode cX4_bestValueFor 13 = .ok (.istore 4, 2) := by decide +kernel
theorem dX4_bestValueFor_15 : decode cX4_bestValueFor 15 = .ok (.iconst 0, 1) := by decide +kernel
theorem dX4_bestValueFor_16 : decode cX4_bestValueFor 16 = .ok (.istore 5, 2) := by decide +kernel
theorem dX4_bestValueFor_18 : decode cX4_bestValueFor 18 = .ok (.iconst 0, 1) := by decide +kernel
theorem dX4_bestValueFor_19 : decode cX4_bestValueFor 19 = .ok (.istore 6, 2) := by decide +kernel
theorem dX4_bestValueFor_21 : decode cX4_bestValueFor 21 = .ok (.iload 6, 2) := by decide +kernel
theorem dX4_bestValueFor_23 : decode cX4_bestValueFor 23 = .ok (.iload_n 3, 1) := by decide +kernel
theorem dX4_bestValueFor_24 : decode cX4_bestValueFor 24 = .ok (.if_icmp .gt 48, 3) := by decide +kernel
theorem dX4_bestValueFor_27 : decode cX4_bestValueFor 27 = .ok (.aload_n 0, 1) := by decide +kernel
theorem dX4_bestValueFor_28 : decode cX4_bestValueFor 28 = .ok (.getfield 19, 3) := by decide +kernel
theorem dX4_bestValueFor_31 : decode cX4_bestValueFor 31 = .ok (.iload_n 1, 1) := by decide +kernel
theorem dX4_bestValueFor_32 : decode cX4_bestValueFor 32 = .ok (.iload_n 2, 1) := by decide +kernel
theorem dX4_bestValueFor_33 : decode cX4_bestValueFor 33 = .ok (.iload 6, 2) := by decide +kernel
theorem dX4_bestValueFor_35 : decode cX4_bestValueFor 35 = .ok (.invokevirtual 86, 3) := by decide +kernel
theorem dX4_bestValueFor_38 : decode cX4_bestValueFor 38 = .ok (.aload_n 0, 1) := by decide +kernel
theorem dX4_bestValueFor_39 : decode cX4_bestValueFor 39 = .ok (.getfield 25, 3) := by decide +kernel
theorem dX4_bestValueFor_42 : decode cX4_bestValueFor 42 = .ok (.aload_n 0, 1) := by decide +kernel
theorem dX4_bestValueFor_43 : decode cX4_bestValueFor 43 = .ok (.getfield 19, 3) := by decide +kernel
theorem dX4_bestValueFor_46 : decode cX4_bestValueFor 46 = .ok (.invokevirtual 127, 3) := by decide +kernel
theorem dX4_bestValueFor_49 : decode cX4_bestValueFor 49 = .ok (.istore 7, 2) := by decide +kernel
theorem dX4_bestValueFor_51 : decode cX4_bestValueFor 51 = .ok (.iload 7, 2) := by decide +kernel
theorem dX4_bestValueFor_53 : decode cX4_bestValueFor 53 = .ok (.iload 4, 2) := by decide +kernel
theorem dX4_bestValueFor_55 : decode cX4_bestValueFor 55 = .ok (.if_icmp .ge 11, 3) := by decide +kernel
theorem dX4_bestValueFor_58 : decode cX4_bestValueFor 58 = .ok (.iload 7, 2) := by decide +kernel
theorem dX4_bestValueFor_60 : decode cX4_bestValueFor 60 = .ok (.istore 4, 2) := by decide +kernel
theorem dX4_bestValueFor_62 : decode cX4_bestValueFor 62 = .ok (.iload 6, 2) := by decide +kernel
theorem dX4_bestValueFor_64 : decode cX4_bestValueFor 64 = .ok (.istore 5, 2) := by decide +kernel
theorem dX4_bestValueFor_66 : decode cX4_bestValueFor 66 = .ok (.iinc 6 1, 3) := by decide +kernel
theorem dX4_bestValueFor_69 : decode cX4_bestValueFor 69 = .ok (.goto (-48), 3) := by decide +kernel
theorem dX4_bestValueFor_72 : decode cX4_bestValueFor 72 = .ok (.iload 5, 2) := by decide +kernel
theorem dX4_bestValueFor_74 : decode cX4_bestValueFor 74 = .ok (.ireturn, 1) := by decide +kernel
theorem dX4_trialGoesAs_0 : decode cX4_trialGoesAs 0 = .ok (.aload_n 1, 1) := by decide +kernel
theorem dX4_trialGoesAs_1 : decode cX4_trialGoesAs 1 = .ok (.getfield 216, 3) := by decide +kernel
theorem dX4_trialGoesAs_4 : decode cX4_trialGoesAs 4 = .ok (.bipush 12, 2) := by decide +kernel
theorem dX4_trialGoesAs_6 : decode cX4_trialGoesAs 6 = .ok (.invokestatic 251, 3) := by decide +kernel
theorem dX4_trialGoesAs_9 : decode cX4_trialGoesAs 9 = .ok (.istore_n 2, 1) := by decide +kernel
theorem dX4_trialGoesAs_10 : decode cX4_trialGoesAs 10 = .ok (.iconst 0, 1) := by decide +kernel
theorem dX4_trialGoesAs_11 : decode cX4_trialGoesAs 11 = .ok (.istore_n 3, 1) := by decide +kernel
theorem dX4_trialGoesAs_12 : decode cX4_trialGoesAs 12 = .ok (.iload_n 3, 1) := by decide +kernel
theorem dX4_trialGoesAs_13 : decode cX4_trialGoesAs 13 = .ok (.iload_n 2, 1) := by decide +kernel
theorem dX4_trialGoesAs_14 : decode cX4_trialGoesAs 14 = .ok (.if_icmp .ge 44, 3) := by decide +kernel
theorem dX4_trialGoesAs_17 : decode cX4_trialGoesAs 17 = .ok (.aload_n 1, 1) := by decide +kernel
theorem dX4_trialGoesAs_18 : decode cX4_trialGoesAs 18 = .ok (.getfield 228, 3) := by decide +kernel
theorem dX4_trialGoesAs_21 : decode cX4_trialGoesAs 21 = .ok (.iload_n 3, 1) := by decide +kernel
theorem dX4_trialGoesAs_22 : decode cX4_trialGoesAs 22 = .ok (.iaload, 1) := by decide +kernel
theorem dX4_trialGoesAs_23 : decode cX4_trialGoesAs 23 = .ok (.iconst (-1), 1) := by decide +kernel
theorem dX4_trialGoesAs_24 : decode cX4_trialGoesAs 24 = .ok (.if_icmp .eq 21, 3) := by decide +kernel
theorem dX4_trialGoesAs_27 : decode cX4_trialGoesAs 27 = .ok (.aload_n 1, 1) := by decide +kernel
theorem dX4_trialGoesAs_28 : decode cX4_trialGoesAs 28 = .ok (.getfield 228, 3) := by decide +kernel
theorem dX4_trialGoesAs_31 : decode cX4_trialGoesAs 31 = .ok (.iload_n 3, 1) := by decide +kernel
theorem dX4_trialGoesAs_32 : decode cX4_trialGoesAs 32 = .ok (.iaload, 1) := by decide +kernel
theorem dX4_trialGoesAs_33 : decode cX4_trialGoesAs 33 = .ok (.aload_n 0, 1) := by decide +kernel
theorem dX4_trialGoesAs_34 : decode cX4_trialGoesAs 34 = .ok (.getfield 19, 3) := by decide +kernel
theorem dX4_trialGoesAs_37 : decode cX4_trialGoesAs 37 = .ok (.invokevirtual 103, 3) := by decide +kernel
theorem dX4_trialGoesAs_40 : decode cX4_trialGoesAs 40 = .ok (.if_icmp .eq 5, 3) := by decide +kernel
theorem dX4_trialGoesAs_43 : decode cX4_trialGoesAs 43 = .ok (.iconst 0, 1) := by decide +kernel
theorem dX4_trialGoesAs_44 : decode cX4_trialGoesAs 44 = .ok (.ireturn, 1) := by decide +kernel
theorem dX4_trialGoesAs_45 : decode cX4_trialGoesAs 45 = .ok (.aload_n 0, 1) := by decide +kernel
theorem dX4_trialGoesAs_46 : decode cX4_trialGoesAs 46 = .ok (.getfield 19, 3) := by decide +kernel
theorem dX4_trialGoesAs_49 : decode cX4_trialGoesAs 49 = .ok (.invokevirtual 141, 3) := by decide +kernel
theorem dX4_trialGoesAs_52 : decode cX4_trialGoesAs 52 = .ok (.iinc 3 1, 3) := by decide +kernel
theorem dX4_trialGoesAs_55 : decode cX4_trialGoesAs 55 = .ok (.goto (-43), 3) := by decide +kernel
theorem dX4_trialGoesAs_58 : decode cX4_trialGoesAs 58 = .ok (.iconst 1, 1) := by decide +kernel
theorem dX4_trialGoesAs_59 : decode cX4_trialGoesAs 59 = .ok (.ireturn, 1) := by decide +kernel
theorem dX4_power_0 : decode cX4_power 0 = .ok (.lconst 1, 1) := by decide +kernel
theorem dX4_power_1 : decode cX4_power 1 = .ok (.lstore_n 2, 1) := by decide +kernel
theorem dX4_power_2 : decode cX4_power 2 = .ok (.iconst 0, 1) := by decide +kernel
theorem dX4_power_3 : decode cX4_power 3 = .ok (.istore 4, 2) := by decide +kernel
theorem dX4_power_5 : decode cX4_power 5 = .ok (.iload 4, 2) := by decide +kernel
theorem dX4_power_7 : decode cX4_power 7 = .ok (.iload_n 1, 1) := by decide +kernel
theorem dX4_power_8 : decode cX4_power 8 = .ok (.if_icmp .ge 14, 3) := by decide +kernel
theorem dX4_power_11 : decode cX4_power 11 = .ok (.lload_n 2, 1) := by decide +kernel
theorem dX4_power_12 : decode cX4_power 12 = .ok (.iload_n 0, 1) := by decide +kernel
theorem dX4_power_13 : decode cX4_power 13 = .ok (.i2l, 1) := by decide +kernel
theorem dX4_power_14 : decode cX4_power 14 = .ok (.lmul, 1) := by decide +kernel
theorem dX4_power_15 : decode cX4_power 15 = .ok (.lstore_n 2, 1) := by decide +kernel
theorem dX4_power_16 : decode cX4_power 16 = .ok (.iinc 4 1, 3) := by decide +kernel
theorem dX4_power_19 : decode cX4_power 19 = .ok (.goto (-14), 3) := by decide +kernel
theorem dX4_power_22 : decode cX4_power 22 = .ok (.lload_n 2, 1) := by decide +kernel
theorem dX4_power_23 : decode cX4_power 23 = .ok (.lreturn, 1) := by decide +kernel
theorem dX4_couldBe_0 : decode cX4_couldBe 0 = .ok (.iload_n 0, 1) := by decide +kernel
theorem dX4_couldBe_1 : decode cX4_couldBe 1 = .ok (.tableswitch 77 0 4 #[35, 40, 40, 45, 62], 35) := by decide +kernel
theorem dX4_couldBe_36 : decode cX4_couldBe 36 = .ok (.iload_n 1, 1) := by decide +kernel
theorem dX4_couldBe_37 : decode cX4_couldBe 37 = .ok (.invokestatic 61, 3) := by decide +kernel
theorem dX4_couldBe_40 : decode cX4_couldBe 40 = .ok (.ireturn, 1) := by decide +kernel
theorem dX4_couldBe_41 : decode cX4_couldBe 41 = .ok (.iload_n 1, 1) := by decide +kernel
theorem dX4_couldBe_42 : decode cX4_couldBe 42 = .ok (.invokestatic 64, 3) := by decide +kernel
theorem dX4_couldBe_45 : decode cX4_couldBe 45 = .ok (.ireturn, 1) := by decide +kernel
theorem dX4_couldBe_46 : decode cX4_couldBe 46 = .ok (.iload_n 1, 1) := by decide +kernel
theorem dX4_couldBe_47 : decode cX4_couldBe 47 = .ok (.iconst (-1), 1) := by decide +kernel
theorem dX4_couldBe_48 : decode cX4_couldBe 48 = .ok (.if_icmp .lt 13, 3) := by decide +kernel
theorem dX4_couldBe_51 : decode cX4_couldBe 51 = .ok (.iload_n 1, 1) := by decide +kernel
theorem dX4_couldBe_52 : decode cX4_couldBe 52 = .ok (.bipush 8, 2) := by decide +kernel
theorem dX4_couldBe_54 : decode cX4_couldBe 54 = .ok (.if_icmp .ge 7, 3) := by decide +kernel
theorem dX4_couldBe_57 : decode cX4_couldBe 57 = .ok (.iconst 1, 1) := by decide +kernel
theorem dX4_couldBe_58 : decode cX4_couldBe 58 = .ok (.goto 4, 3) := by decide +kernel
theorem dX4_couldBe_61 : decode cX4_couldBe 61 = .ok (.iconst 0, 1) := by decide +kernel
theorem dX4_couldBe_62 : decode cX4_couldBe 62 = .ok (.ireturn, 1) := by decide +kernel
theorem dX4_couldBe_63 : decode cX4_couldBe 63 = .ok (.iload_n 1, 1) := by decide +kernel
theorem dX4_couldBe_64 : decode cX4_couldBe 64 = .ok (.ifCond .eq 8, 3) := by decide +kernel
theorem dX4_couldBe_67 : decode cX4_couldBe 67 = .ok (.iload_n 1, 1) := by decide +kernel
theorem dX4_couldBe_68 : decode cX4_couldBe 68 = .ok (.iconst 1, 1) := by decide +kernel
theorem dX4_couldBe_69 : decode cX4_couldBe 69 = .ok (.if_icmp .ne 7, 3) := by decide +kernel
theorem dX4_couldBe_72 : decode cX4_couldBe 72 = .ok (.iconst 1, 1) := by decide +kernel
theorem dX4_couldBe_73 : decode cX4_couldBe 73 = .ok (.goto 4, 3) := by decide +kernel
theorem dX4_couldBe_76 : decode cX4_couldBe 76 = .ok (.iconst 0, 1) := by decide +kernel
theorem dX4_couldBe_77 : decode cX4_couldBe 77 = .ok (.ireturn, 1) := by decide +kernel
theorem dX4_couldBe_78 : decode cX4_couldBe 78 = .ok (.iconst 0, 1) := by decide +kernel
theorem dX4_couldBe_79 : decode cX4_couldBe 79 = .ok (.ireturn, 1) := by decide +kernel
theorem dX4_isKind_0 : decode cX4_isKind 0 = .ok (.iload_n 0, 1) := by decide +kernel
theorem dX4_isKind_1 : decode cX4_isKind 1 = .ok (.ifCond .lt 13, 3) := by decide +kernel
theorem dX4_isKind_4 : decode cX4_isKind 4 = .ok (.iload_n 0, 1) := by decide +kernel
theorem dX4_isKind_5 : decode cX4_isKind 5 = .ok (.bipush 7, 2) := by decide +kernel
theorem dX4_isKind_7 : decode cX4_isKind 7 = .ok (.if_icmp .ge 7, 3) := by decide +kernel
theorem dX4_isKind_10 : decode cX4_isKind 10 = .ok (.iconst 1, 1) := by decide +kernel
theorem dX4_isKind_11 : decode cX4_isKind 11 = .ok (.goto 4, 3) := by decide +kernel
theorem dX4_isKind_14 : decode cX4_isKind 14 = .ok (.iconst 0, 1) := by decide +kernel
theorem dX4_isKind_15 : decode cX4_isKind 15 = .ok (.ireturn, 1) := by decide +kernel
theorem dX4_isEdge_0 : decode cX4_isEdge 0 = .ok (.iload_n 0, 1) := by decide +kernel
theorem dX4_isEdge_1 : decode cX4_isEdge 1 = .ok (.ifCond .lt 13, 3) := by decide +kernel
theorem dX4_isEdge_4 : decode cX4_isEdge 4 = .ok (.iload_n 0, 1) := by decide +kernel
theorem dX4_isEdge_5 : decode cX4_isEdge 5 = .ok (.bipush 9, 2) := by decide +kernel
theorem dX4_isEdge_7 : decode cX4_isEdge 7 = .ok (.if_icmp .gt 7, 3) := by decide +kernel
theorem dX4_isEdge_10 : decode cX4_isEdge 10 = .ok (.iconst 1, 1) := by decide +kernel
theorem dX4_isEdge_11 : decode cX4_isEdge 11 = .ok (.goto 4, 3) := by decide +kernel
theorem dX4_isEdge_14 : decode cX4_isEdge 14 = .ok (.iconst 0, 1) := by decide +kernel
theorem dX4_isEdge_15 : decode cX4_isEdge 15 = .ok (.ireturn, 1) := by decide +kernel
theorem dX4_isPlace_0 : decode cX4_isPlace 0 = .ok (.iload_n 0, 1) := by decide +kernel
theorem dX4_isPlace_1 : decode cX4_isPlace 1 = .ok (.ifCond .lt 13, 3) := by decide +kernel
theorem dX4_isPlace_4 : decode cX4_isPlace 4 = .ok (.iload_n 0, 1) := by decide +kernel
theorem dX4_isPlace_5 : decode cX4_isPlace 5 = .ok (.bipush 8, 2) := by decide +kernel
theorem dX4_isPlace_7 : decode cX4_isPlace 7 = .ok (.if_icmp .ge 7, 3) := by decide +kernel
theorem dX4_isPlace_10 : decode cX4_isPlace 10 = .ok (.iconst 1, 1) := by decide +kernel
theorem dX4_isPlace_11 : decode cX4_isPlace 11 = .ok (.goto 4, 3) := by decide +kernel
theorem dX4_isPlace_14 : decode cX4_isPlace 14 = .ok (.iconst 0, 1) := by decide +kernel
theorem dX4_isPlace_15 : decode cX4_isPlace 15 = .ok (.ireturn, 1) := by decide +kernel
theorem dX4_isListPlace_0 : decode cX4_isListPlace 0 = .ok (.iload_n 0, 1) := by decide +kernel
theorem dX4_isListPlace_1 : decode cX4_isListPlace 1 = .ok (.ifCond .lt 13, 3) := by decide +kernel
theorem dX4_isListPlace_4 : decode cX4_isListPlace 4 = .ok (.iload_n 0, 1) := by decide +kernel
theorem dX4_isListPlace_5 : decode cX4_isListPlace 5 = .ok (.bipush 6, 2) := by decide +kernel
theorem dX4_isListPlace_7 : decode cX4_isListPlace 7 = .ok (.if_icmp .ge 7, 3) := by decide +kernel
theorem dX4_isListPlace_10 : decode cX4_isListPlace 10 = .ok (.iconst 1, 1) := by decide +kernel
theorem dX4_isListPlace_11 : decode cX4_isListPlace 11 = .ok (.goto 4, 3) := by decide +kernel
theorem dX4_isListPlace_14 : decode cX4_isListPlace 14 = .ok (.iconst 0, 1) := by decide +kernel
theorem dX4_isListPlace_15 : decode cX4_isListPlace 15 = .ok (.ireturn, 1) := by decide +kernel
theorem dX4_isSpot_0 : decode cX4_isSpot 0 = .ok (.iload_n 0, 1) := by decide +kernel
theorem dX4_isSpot_1 : decode cX4_isSpot 1 = .ok (.ifCond .lt 13, 3) := by decide +kernel
theorem dX4_isSpot_4 : decode cX4_isSpot 4 = .ok (.iload_n 0, 1) := by decide +kernel
theorem dX4_isSpot_5 : decode cX4_isSpot 5 = .ok (.bipush 10, 2) := by decide +kernel
theorem dX4_isSpot_7 : decode cX4_isSpot 7 = .ok (.if_icmp .ge 7, 3) := by decide +kernel
theorem dX4_isSpot_10 : decode cX4_isSpot 10 = .ok (.iconst 1, 1) := by decide +kernel
theorem dX4_isSpot_11 : decode cX4_isSpot 11 = .ok (.goto 4, 3) := by decide +kernel
theorem dX4_isSpot_14 : decode cX4_isSpot 14 = .ok (.iconst 0, 1) := by decide +kernel
theorem dX4_isSpot_15 : decode cX4_isSpot 15 = .ok (.ireturn, 1) := by decide +kernel
theorem dX4_isSheet_0 : decode cX4_isSheet 0 = .ok (.iload_n 0, 1) := by decide +kernel
theorem dX4_isSheet_1 : decode cX4_isSheet 1 = .ok (.ifCond .lt 12, 3) := by decide +kernel
theorem dX4_isSheet_4 : decode cX4_isSheet 4 = .ok (.iload_n 0, 1) := by decide +kernel
theorem dX4_isSheet_5 : decode cX4_isSheet 5 = .ok (.iconst 4, 1) := by decide +kernel
theorem dX4_isSheet_6 : decode cX4_isSheet 6 = .ok (.if_icmp .ge 7, 3) := by decide +kernel
theorem dX4_isSheet_9 : decode cX4_isSheet 9 = .ok (.iconst 1, 1) := by decide +kernel
theorem dX4_isSheet_10 : decode cX4_isSheet 10 = .ok (.goto 4, 3) := by decide +kernel
theorem dX4_isSheet_13 : decode cX4_isSheet 13 = .ok (.iconst 0, 1) := by decide +kernel
theorem dX4_isSheet_14 : decode cX4_isSheet 14 = .ok (.ireturn, 1) := by decide +kernel
theorem dX4_isToldSum_0 : decode cX4_isToldSum 0 = .ok (.iload_n 0, 1) := by decide +kernel
theorem dX4_isToldSum_1 : decode cX4_isToldSum 1 = .ok (.ifCond .lt 14, 3) := by decide +kernel
theorem dX4_isToldSum_4 : decode cX4_isToldSum 4 = .ok (.iload_n 0, 1) := by decide +kernel
theorem dX4_isToldSum_5 : decode cX4_isToldSum 5 = .ok (.sipush 999, 3) := by decide +kernel
theorem dX4_isToldSum_8 : decode cX4_isToldSum 8 = .ok (.if_icmp .gt 7, 3) := by decide +kernel
theorem dX4_isToldSum_11 : decode cX4_isToldSum 11 = .ok (.iconst 1, 1) := by decide +kernel
theorem dX4_isToldSum_12 : decode cX4_isToldSum 12 = .ok (.goto 4, 3) := by decide +kernel
theorem dX4_isToldSum_15 : decode cX4_isToldSum 15 = .ok (.iconst 0, 1) := by decide +kernel
theorem dX4_isToldSum_16 : decode cX4_isToldSum 16 = .ok (.ireturn, 1) := by decide +kernel
theorem dX4_isOrUnder_0 : decode cX4_isOrUnder 0 = .ok (.iload_n 1, 1) := by decide +kernel
theorem dX4_isOrUnder_1 : decode cX4_isOrUnder 1 = .ok (.tableswitch 87 0 3 #[31, 33, 50, 71], 31) := by decide +kernel
theorem dX4_isOrUnder_32 : decode cX4_isOrUnder 32 = .ok (.iconst 1, 1) := by decide +kernel
theorem dX4_isOrUnder_33 : decode cX4_isOrUnder 33 = .ok (.ireturn, 1) := by decide +kernel
theorem dX4_isOrUnder_34 : decode cX4_isOrUnder 34 = .ok (.iload_n 0, 1) := by decide +kernel
theorem dX4_isOrUnder_35 : decode cX4_isOrUnder 35 = .ok (.iconst 1, 1) := by decide +kernel
theorem dX4_isOrUnder_36 : decode cX4_isOrUnder 36 = .ok (.if_icmp .eq 9, 3) := by decide +kernel
theorem dX4_isOrUnder_39 : decode cX4_isOrUnder 39 = .ok (.iload_n 0, 1) := by decide +kernel
theorem dX4_isOrUnder_40 : decode cX4_isOrUnder 40 = .ok (.bipush 6, 2) := by decide +kernel
theorem dX4_isOrUnder_42 : decode cX4_isOrUnder 42 = .ok (.if_icmp .ne 7, 3) := by decide +kernel
theorem dX4_isOrUnder_45 : decode cX4_isOrUnder 45 = .ok (.iconst 1, 1) := by decide +kernel
theorem dX4_isOrUnder_46 : decode cX4_isOrUnder 46 = .ok (.goto 4, 3) := by decide +kernel
theorem dX4_isOrUnder_49 : decode cX4_isOrUnder 49 = .ok (.iconst 0, 1) := by decide +kernel
theorem dX4_isOrUnder_50 : decode cX4_isOrUnder 50 = .ok (.ireturn, 1) := by decide +kernel
theorem dX4_isOrUnder_51 : decode cX4_isOrUnder 51 = .ok (.iload_n 0, 1) := by decide +kernel
theorem dX4_isOrUnder_52 : decode cX4_isOrUnder 52 = .ok (.iconst 2, 1) := by decide +kernel
theorem dX4_isOrUnder_53 : decode cX4_isOrUnder 53 = .ok (.if_icmp .eq 13, 3) := by decide +kernel
theorem dX4_isOrUnder_56 : decode cX4_isOrUnder 56 = .ok (.iload_n 0, 1) := by decide +kernel
theorem dX4_isOrUnder_57 : decode cX4_isOrUnder 57 = .ok (.iconst 3, 1) := by decide +kernel
theorem dX4_isOrUnder_58 : decode cX4_isOrUnder 58 = .ok (.if_icmp .eq 8, 3) := by decide +kernel
theorem dX4_isOrUnder_61 : decode cX4_isOrUnder 61 = .ok (.iload_n 0, 1) := by decide +kernel
theorem dX4_isOrUnder_62 : decode cX4_isOrUnder 62 = .ok (.iconst 4, 1) := by decide +kernel
theorem dX4_isOrUnder_63 : decode cX4_isOrUnder 63 = .ok (.if_icmp .ne 7, 3) := by decide +kernel
theorem dX4_isOrUnder_66 : decode cX4_isOrUnder 66 = .ok (.iconst 1, 1) := by decide +kernel
theorem dX4_isOrUnder_67 : decode cX4_isOrUnder 67 = .ok (.goto 4, 3) := by decide +kernel
theorem dX4_isOrUnder_70 : decode cX4_isOrUnder 70 = .ok (.iconst 0, 1) := by decide +kernel
theorem dX4_isOrUnder_71 : decode cX4_isOrUnder 71 = .ok (.ireturn, 1) := by decide +kernel
theorem dX4_isOrUnder_72 : decode cX4_isOrUnder 72 = .ok (.iload_n 0, 1) := by decide +kernel
theorem dX4_isOrUnder_73 : decode cX4_isOrUnder 73 = .ok (.iconst 3, 1) := by decide +kernel
theorem dX4_isOrUnder_74 : decode cX4_isOrUnder 74 = .ok (.if_icmp .eq 8, 3) := by decide +kernel
theorem dX4_isOrUnder_77 : decode cX4_isOrUnder 77 = .ok (.iload_n 0, 1) := by decide +kernel
theorem dX4_isOrUnder_78 : decode cX4_isOrUnder 78 = .ok (.iconst 4, 1) := by decide +kernel
theorem dX4_isOrUnder_79 : decode cX4_isOrUnder 79 = .ok (.if_icmp .ne 7, 3) := by decide +kernel
theorem dX4_isOrUnder_82 : decode cX4_isOrUnder 82 = .ok (.iconst 1, 1) := by decide +kernel
theorem dX4_isOrUnder_83 : decode cX4_isOrUnder 83 = .ok (.goto 4, 3) := by decide +kernel
theorem dX4_isOrUnder_86 : decode cX4_isOrUnder 86 = .ok (.iconst 0, 1) := by decide +kernel
theorem dX4_isOrUnder_87 : decode cX4_isOrUnder 87 = .ok (.ireturn, 1) := by decide +kernel
theorem dX4_isOrUnder_88 : decode cX4_isOrUnder 88 = .ok (.iload_n 0, 1) := by decide +kernel
theorem dX4_isOrUnder_89 : decode cX4_isOrUnder 89 = .ok (.iload_n 1, 1) := by decide +kernel
theorem dX4_isOrUnder_90 : decode cX4_isOrUnder 90 = .ok (.if_icmp .ne 7, 3) := by decide +kernel
theorem dX4_isOrUnder_93 : decode cX4_isOrUnder 93 = .ok (.iconst 1, 1) := by decide +kernel
theorem dX4_isOrUnder_94 : decode cX4_isOrUnder 94 = .ok (.goto 4, 3) := by decide +kernel
theorem dX4_isOrUnder_97 : decode cX4_isOrUnder 97 = .ok (.iconst 0, 1) := by decide +kernel
theorem dX4_isOrUnder_98 : decode cX4_isOrUnder 98 = .ok (.ireturn, 1) := by decide +kernel
end
section
theorem dX5_init_0 : decode cX5_init 0 = .ok (.aload_n 0, 1) := by decide +kernel
theorem dX5_init_1 : decode cX5_init 1 = .ok (.invokespecial 1, 3) := by decide +kernel
theorem dX5_init_4 : decode cX5_init 4 = .ok (.aload_n 0, 1) := by decide +kernel
theorem dX5_init_5 : decode cX5_init 5 = .ok (.bipush 67, 2) := by decide +kernel
theorem dX5_init_7 : decode cX5_init 7 = .ok (.newarray .int, 2) := by decide +kernel
theorem dX5_init_9 : decode cX5_init 9 = .ok (.putfield 9, 3) := by decide +kernel
theorem dX5_init_12 : decode cX5_init 12 = .ok (.aload_n 0, 1) := by decide +kernel
theorem dX5_init_13 : decode cX5_init 13 = .ok (.bipush 67, 2) := by decide +kernel
theorem dX5_init_15 : decode cX5_init 15 = .ok (.newarray .int, 2) := by decide +kernel
theorem dX5_init_17 : decode cX5_init 17 = .ok (.putfield 13, 3) := by decide +kernel
theorem dX5_init_20 : decode cX5_init 20 = .ok (.aload_n 0, 1) := by decide +kernel
theorem dX5_init_21 : decode cX5_init 21 = .ok (.bipush 67, 2) := by decide +kernel
theorem dX5_init_23 : decode cX5_init 23 = .ok (.newarray .int, 2) := by decide +kernel
theorem dX5_init_25 : decode cX5_init 25 = .ok (.putfield 16, 3) := by decide +kernel
theorem dX5_init_28 : decode cX5_init 28 = .ok (.aload_n 0, 1) := by decide +kernel
theorem dX5_init_29 : decode cX5_init 29 = .ok (.bipush 8, 2) := by decide +kernel
theorem dX5_init_31 : decode cX5_init 31 = .ok (.newarray .int, 2) := by decide +kernel
theorem dX5_init_33 : decode cX5_init 33 = .ok (.putfield 19, 3) := by decide +kernel
theorem dX5_init_36 : decode cX5_init 36 = .ok (.aload_n 0, 1) := by decide +kernel
theorem dX5_init_37 : decode cX5_init 37 = .ok (.sipush 2048, 3) := by decide +kernel
theorem dX5_init_40 : decode cX5_init 40 = .ok (.newarray .int, 2) := by decide +kernel
theorem dX5_init_42 : decode cX5_init 42 = .ok (.putfield 22, 3) := by decide +kernel
theorem dX5_init_45 : decode cX5_init 45 = .ok (.aload_n 0, 1) := by decide +kernel
theorem dX5_init_46 : decode cX5_init 46 = .ok (.bipush 120, 2) := by decide +kernel
theorem dX5_init_48 : decode cX5_init 48 = .ok (.newarray .int, 2) := by decide +kernel
theorem dX5_init_50 : decode cX5_init 50 = .ok (.putfield 25, 3) := by decide +kernel
theorem dX5_init_53 : decode cX5_init 53 = .ok (.aload_n 0, 1) := by decide +kernel
theorem dX5_init_54 : decode cX5_init 54 = .ok (.bipush 7, 2) := by decide +kernel
theorem dX5_init_56 : decode cX5_init 56 = .ok (.anewarray 28, 3) := by decide +kernel
theorem dX5_init_59 : decode cX5_init 59 = .ok (.dup, 1) := by decide +kernel
theorem dX5_init_60 : decode cX5_init 60 = .ok (.iconst 0, 1) := by decide +kernel
theorem dX5_init_61 : decode cX5_init 61 = .ok (.ldc 30, 2) := by decide +kernel
theorem dX5_init_63 : decode cX5_init 63 = .ok (.aastore, 1) := by decide +kernel
theorem dX5_init_64 : decode cX5_init 64 = .ok (.dup, 1) := by decide +kernel
theorem dX5_init_65 : decode cX5_init 65 = .ok (.iconst 1, 1) := by decide +kernel
theorem dX5_init_66 : decode cX5_init 66 = .ok (.ldc 32, 2) := by decide +kernel
theorem dX5_init_68 : decode cX5_init 68 = .ok (.aastore, 1) := by decide +kernel
theorem dX5_init_69 : decode cX5_init 69 = .ok (.dup, 1) := by decide +kernel
theorem dX5_init_70 : decode cX5_init 70 = .ok (.iconst 2, 1) := by decide +kernel
theorem dX5_init_71 : decode cX5_init 71 = .ok (.ldc 34, 2) := by decide +kernel
theorem dX5_init_73 : decode cX5_init 73 = .ok (.aastore, 1) := by decide +kernel
theorem dX5_init_74 : decode cX5_init 74 = .ok (.dup, 1) := by decide +kernel
theorem dX5_init_75 : decode cX5_init 75 = .ok (.iconst 3, 1) := by decide +kernel
theorem dX5_init_76 : decode cX5_init 76 = .ok (.ldc 36, 2) := by decide +kernel
theorem dX5_init_78 : decode cX5_init 78 = .ok (.aastore, 1) := by decide +kernel
theorem dX5_init_79 : decode cX5_init 79 = .ok (.dup, 1) := by decide +kernel
theorem dX5_init_80 : decode cX5_init 80 = .ok (.iconst 4, 1) := by decide +kernel
theorem dX5_init_81 : decode cX5_init 81 = .ok (.ldc 38, 2) := by decide +kernel
theorem dX5_init_83 : decode cX5_init 83 = .ok (.aastore, 1) := by decide +kernel
theorem dX5_init_84 : decode cX5_init 84 = .ok (.dup, 1) := by decide +kernel
theorem dX5_init_85 : decode cX5_init 85 = .ok (.iconst 5, 1) := by decide +kernel
theorem dX5_init_86 : decode cX5_init 86 = .ok (.ldc 40, 2) := by decide +kernel
theorem dX5_init_88 : decode cX5_init 88 = .ok (.aastore, 1) := by decide +kernel
theorem dX5_init_89 : decode cX5_init 89 = .ok (.dup, 1) := by decide +kernel
theorem dX5_init_90 : decode cX5_init 90 = .ok (.bipush 6, 2) := by decide +kernel
theorem dX5_init_92 : decode cX5_init 92 = .ok (.ldc 42, 2) := by decide +kernel
theorem dX5_init_94 : decode cX5_init 94 = .ok (.aastore, 1) := by decide +kernel
theorem dX5_init_95 : decode cX5_init 95 = .ok (.putfield 44, 3) := by decide +kernel
theorem dX5_init_98 : decode cX5_init 98 = .ok (.aload_n 0, 1) := by decide +kernel
theorem dX5_init_99 : decode cX5_init 99 = .ok (.sipush 600, 3) := by decide +kernel
theorem dX5_init_102 : decode cX5_init 102 = .ok (.newarray .int, 2) := by decide +kernel
theorem dX5_init_104 : decode cX5_init 104 = .ok (.putfield 48, 3) := by decide +kernel
theorem dX5_init_107 : decode cX5_init 107 = .ok (.aload_n 0, 1) := by decide +kernel
theorem dX5_init_108 : decode cX5_init 108 = .ok (.iconst 4, 1) := by decide +kernel
theorem dX5_init_109 : decode cX5_init 109 = .ok (.newarray .int, 2) := by decide +kernel
theorem dX5_init_111 : decode cX5_init 111 = .ok (.putfield 51, 3) := by decide +kernel
theorem dX5_init_114 : decode cX5_init 114 = .ok (.aload_n 0, 1) := by decide +kernel
theorem dX5_init_115 : decode cX5_init 115 = .ok (.iconst 4, 1) := by decide +kernel
theorem dX5_init_116 : decode cX5_init 116 = .ok (.newarray .int, 2) := by decide +kernel
theorem dX5_init_118 : decode cX5_init 118 = .ok (.putfield 54, 3) := by decide +kernel
theorem dX5_init_121 : decode cX5_init 121 = .ok (.aload_n 0, 1) := by decide +kernel
theorem dX5_init_122 : decode cX5_init 122 = .ok (.sipush 160, 3) := by decide +kernel
theorem dX5_init_125 : decode cX5_init 125 = .ok (.newarray .int, 2) := by decide +kernel
theorem dX5_init_127 : decode cX5_init 127 = .ok (.putfield 57, 3) := by decide +kernel
theorem dX5_init_130 : decode cX5_init 130 = .ok (.aload_n 0, 1) := by decide +kernel
theorem dX5_init_131 : decode cX5_init 131 = .ok (.bipush 40, 2) := by decide +kernel
theorem dX5_init_133 : decode cX5_init 133 = .ok (.newarray .int, 2) := by decide +kernel
theorem dX5_init_135 : decode cX5_init 135 = .ok (.putfield 60, 3) := by decide +kernel
theorem dX5_init_138 : decode cX5_init 138 = .ok (.aload_n 0, 1) := by decide +kernel
theorem dX5_init_139 : decode cX5_init 139 = .ok (.getfield 9, 3) := by decide +kernel
theorem dX5_init_142 : decode cX5_init 142 = .ok (.iconst 2, 1) := by decide +kernel
theorem dX5_init_143 : decode cX5_init 143 = .ok (.iconst 1, 1) := by decide +kernel
theorem dX5_init_144 : decode cX5_init 144 = .ok (.iastore, 1) := by decide +kernel
theorem dX5_init_145 : decode cX5_init 145 = .ok (.iconst 0, 1) := by decide +kernel
theorem dX5_init_146 : decode cX5_init 146 = .ok (.istore_n 1, 1) := by decide +kernel
theorem dX5_init_147 : decode cX5_init 147 = .ok (.iload_n 1, 1) := by decide +kernel
theorem dX5_init_148 : decode cX5_init 148 = .ok (.bipush 10, 2) := by decide +kernel
theorem dX5_init_150 : decode cX5_init 150 = .ok (.if_icmp .ge 19, 3) := by decide +kernel
theorem dX5_init_153 : decode cX5_init 153 = .ok (.aload_n 0, 1) := by decide +kernel
theorem dX5_init_154 : decode cX5_init 154 = .ok (.getfield 9, 3) := by decide +kernel
theorem dX5_init_157 : decode cX5_init 157 = .ok (.bipush 9, 2) := by decide +kernel
theorem dX5_init_159 : decode cX5_init 159 = .ok (.iload_n 1, 1) := by decide +kernel
theorem dX5_init_160 : decode cX5_init 160 = .ok (.iadd, 1) := by decide +kernel
theorem dX5_init_161 : decode cX5_init 161 = .ok (.iconst (-1), 1) := by decide +kernel
theorem dX5_init_162 : decode cX5_init 162 = .ok (.iastore, 1) := by decide +kernel
theorem dX5_init_163 : decode cX5_init 163 = .ok (.iinc 1 1, 3) := by decide +kernel
theorem dX5_init_166 : decode cX5_init 166 = .ok (.goto (-19), 3) := by decide +kernel
theorem dX5_init_169 : decode cX5_init 169 = .ok (.return_, 1) := by decide +kernel
theorem dX5_finding_0 : decode cX5_finding 0 = .ok (.aload_n 0, 1) := by decide +kernel
theorem dX5_finding_1 : decode cX5_finding 1 = .ok (.getfield 19, 3) := by decide +kernel
theorem dX5_finding_4 : decode cX5_finding 4 = .ok (.ldc 63, 2) := by decide +kernel
theorem dX5_finding_6 : decode cX5_finding 6 = .ok (.iload_n 1, 1) := by decide +kernel
theorem dX5_finding_7 : decode cX5_finding 7 = .ok (.isub, 1) := by decide +kernel
theorem dX5_finding_8 : decode cX5_finding 8 = .ok (.iconst 1, 1) := by decide +kernel
theorem dX5_finding_9 : decode cX5_finding 9 = .ok (.iadd, 1) := by decide +kernel
theorem dX5_finding_10 : decode cX5_finding 10 = .ok (.dup2, 1) := by decide +kernel
theorem dX5_finding_11 : decode cX5_finding 11 = .ok (.iaload, 1) := by decide +kernel
theorem dX5_finding_12 : decode cX5_finding 12 = .ok (.iconst 1, 1) := by decide +kernel
theorem dX5_finding_13 : decode cX5_finding 13 = .ok (.iadd, 1) := by decide +kernel
theorem dX5_finding_14 : decode cX5_finding 14 = .ok (.iastore, 1) := by decide +kernel
theorem dX5_finding_15 : decode cX5_finding 15 = .ok (.aload_n 0, 1) := by decide +kernel
theorem dX5_finding_16 : decode cX5_finding 16 = .ok (.getfield 19, 3) := by decide +kernel
theorem dX5_finding_19 : decode cX5_finding 19 = .ok (.iconst 0, 1) := by decide +kernel
theorem dX5_finding_20 : decode cX5_finding 20 = .ok (.dup2, 1) := by decide +kernel
theorem dX5_finding_21 : decode cX5_finding 21 = .ok (.iaload, 1) := by decide +kernel
theorem dX5_finding_22 : decode cX5_finding 22 = .ok (.iconst 1, 1) := by decide +kernel
theorem dX5_finding_23 : decode cX5_finding 23 = .ok (.iadd, 1) := by decide +kernel
theorem dX5_finding_24 : decode cX5_finding 24 = .ok (.iastore, 1) := by decide +kernel
theorem dX5_finding_25 : decode cX5_finding 25 = .ok (.iload_n 1, 1) := by decide +kernel
theorem dX5_finding_26 : decode cX5_finding 26 = .ok (.ireturn, 1) := by decide +kernel
theorem dX5_within_0 : decode cX5_within 0 = .ok (.iload_n 0, 1) := by decide +kernel
theorem dX5_within_1 : decode cX5_within 1 = .ok (.iload_n 1, 1) := by decide +kernel
theorem dX5_within_2 : decode cX5_within 2 = .ok (.if_icmp .lt 12, 3) := by decide +kernel
theorem dX5_within_5 : decode cX5_within 5 = .ok (.iload_n 0, 1) := by decide +kernel
theorem dX5_within_6 : decode cX5_within 6 = .ok (.iload_n 2, 1) := by decide +kernel
theorem dX5_within_7 : decode cX5_within 7 = .ok (.if_icmp .gt 7, 3) := by decide +kernel
theorem dX5_within_10 : decode cX5_within 10 = .ok (.iconst 1, 1) := by decide +kernel
theorem dX5_within_11 : decode cX5_within 11 = .ok (.goto 4, 3) := by decide +kernel
theorem dX5_within_14 : decode cX5_within 14 = .ok (.iconst 0, 1) := by decide +kernel
theorem dX5_within_15 : decode cX5_within 15 = .ok (.ireturn, 1) := by decide +kernel
theorem dX5_become_0 : decode cX5_become 0 = .ok (.aload_n 0, 1) := by decide +kernel
theorem dX5_become_1 : decode cX5_become 1 = .ok (.getfield 9, 3) := by decide +kernel
theorem dX5_become_4 : decode cX5_become 4 = .ok (.iload_n 1, 1) := by decide +kernel
theorem dX5_become_5 : decode cX5_become 5 = .ok (.iaload, 1) := by decide +kernel
theorem dX5_become_6 : decode cX5_become 6 = .ok (.istore_n 3, 1) := by decide +kernel
theorem dX5_become_7 : decode cX5_become 7 = .ok (.aload_n 0, 1) := by decide +kernel
theorem dX5_become_8 : decode cX5_become 8 = .ok (.getfield 9, 3) := by decide +kernel
theorem dX5_become_11 : decode cX5_become 11 = .ok (.iload_n 1, 1) := by decide +kernel
theorem dX5_become_12 : decode cX5_become 12 = .ok (.iload_n 2, 1) := by decide +kernel
theorem dX5_become_13 : decode cX5_become 13 = .ok (.iastore, 1) := by decide +kernel
theorem dX5_become_14 : decode cX5_become 14 = .ok (.iload_n 3, 1) := by decide +kernel
theorem dX5_become_15 : decode cX5_become 15 = .ok (.ireturn, 1) := by decide +kernel
theorem dX5_copyRow_0 : decode cX5_copyRow 0 = .ok (.iconst 0, 1) := by decide +kernel
theorem dX5_copyRow_1 : decode cX5_copyRow 1 = .ok (.istore_n 2, 1) := by decide +kernel
theorem dX5_copyRow_2 : decode cX5_copyRow 2 = .ok (.iload_n 2, 1) := by decide +kernel
theorem dX5_copyRow_3 : decode cX5_copyRow 3 = .ok (.bipush 67, 2) := by decide +kernel
theorem dX5_copyRow_5 : decode cX5_copyRow 5 = .ok (.if_icmp .ge 15, 3) := by decide +kernel
theorem dX5_copyRow_8 : decode cX5_copyRow 8 = .ok (.aload_n 1, 1) := by decide +kernel
theorem dX5_copyRow_9 : decode cX5_copyRow 9 = .ok (.iload_n 2, 1) := by decide +kernel
theorem dX5_copyRow_10 : decode cX5_copyRow 10 = .ok (.aload_n 0, 1) := by decide +kernel
theorem dX5_copyRow_11 : decode cX5_copyRow 11 = .ok (.iload_n 2, 1) := by decide +kernel
theorem dX5_copyRow_12 : decode cX5_copyRow 12 = .ok (.iaload, 1) := by decide +kernel
theorem dX5_copyRow_13 : decode cX5_copyRow 13 = .ok (.iastore, 1) := by decide +kernel
theorem dX5_copyRow_14 : decode cX5_copyRow 14 = .ok (.iinc 2 1, 3) := by decide +kernel
theorem dX5_copyRow_17 : decode cX5_copyRow 17 = .ok (.goto (-15), 3) := by decide +kernel
theorem dX5_copyRow_20 : decode cX5_copyRow 20 = .ok (.return_, 1) := by decide +kernel
theorem dX5_putBack_0 : decode cX5_putBack 0 = .ok (.aload_n 0, 1) := by decide +kernel
theorem dX5_putBack_1 : decode cX5_putBack 1 = .ok (.getfield 16, 3) := by decide +kernel
theorem dX5_putBack_4 : decode cX5_putBack 4 = .ok (.aload_n 0, 1) := by decide +kernel
theorem dX5_putBack_5 : decode cX5_putBack 5 = .ok (.getfield 9, 3) := by decide +kernel
theorem dX5_putBack_8 : decode cX5_putBack 8 = .ok (.invokestatic 64, 3) := by decide +kernel
theorem dX5_putBack_11 : decode cX5_putBack 11 = .ok (.iload_n 1, 1) := by decide +kernel
theorem dX5_putBack_12 : decode cX5_putBack 12 = .ok (.ireturn, 1) := by decide +kernel
theorem dX5_orNone_0 : decode cX5_orNone 0 = .ok (.iload_n 1, 1) := by decide +kernel
theorem dX5_orNone_1 : decode cX5_orNone 1 = .ok (.ifCond .ge 12, 3) := by decide +kernel
theorem dX5_orNone_4 : decode cX5_orNone 4 = .ok (.aload_n 0, 1) := by decide +kernel
theorem dX5_orNone_5 : decode cX5_orNone 5 = .ok (.ldc 68, 2) := by decide +kernel
theorem dX5_orNone_7 : decode cX5_orNone 7 = .ok (.invokevirtual 69, 3) := by decide +kernel
theorem dX5_orNone_10 : decode cX5_orNone 10 = .ok (.goto 4, 3) := by decide +kernel
theorem dX5_orNone_13 : decode cX5_orNone 13 = .ok (.iload_n 1, 1) := by decide +kernel
theorem dX5_orNone_14 : decode cX5_orNone 14 = .ok (.ireturn, 1) := by decide +kernel
theorem dX5_bits_0 : decode cX5_bits 0 = .ok (.iconst 0, 1) := by decide +kernel
theorem dX5_bits_1 : decode cX5_bits 1 = .ok (.istore_n 1, 1) := by decide +kernel
theorem dX5_bits_2 : decode cX5_bits 2 = .ok (.iload_n 0, 1) := by decide +kernel
theorem dX5_bits_3 : decode cX5_bits 3 = .ok (.istore_n 2, 1) := by decide +kernel
theorem dX5_bits_4 : decode cX5_bits 4 = .ok (.iload_n 2, 1) := by decide +kernel
theorem dX5_bits_5 : decode cX5_bits 5 = .ok (.ifCond .eq 15, 3) := by decide +kernel
theorem dX5_bits_8 : decode cX5_bits 8 = .ok (.iinc 1 1, 3) := by decide +kernel
theorem dX5_bits_11 : decode cX5_bits 11 = .ok (.iload_n 2, 1) := by decide +kernel
theorem dX5_bits_12 : decode cX5_bits 12 = .ok (.iload_n 2, 1) := by decide +kernel
theorem dX5_bits_13 : decode cX5_bits 13 = .ok (.iconst 1, 1) := by decide +kernel
theorem dX5_bits_14 : decode cX5_bits 14 = .ok (.isub, 1) := by decide +kernel
theorem dX5_bits_15 : decode cX5_bits 15 = .ok (.iand, 1) := by decide +kernel
theorem dX5_bits_16 : decode cX5_bits 16 = .ok (.istore_n 2, 1) := by decide +kernel
theorem dX5_bits_17 : decode cX5_bits 17 = .ok (.goto (-13), 3) := by decide +kernel
theorem dX5_bits_20 : decode cX5_bits 20 = .ok (.iload_n 1, 1) := by decide +kernel
theorem dX5_bits_21 : decode cX5_bits 21 = .ok (.ireturn, 1) := by decide +kernel
theorem dX5_isOne_0 : decode cX5_isOne 0 = .ok (.iload_n 0, 1) := by decide +kernel
theorem dX5_isOne_1 : decode cX5_isOne 1 = .ok (.iconst 0, 1) := by decide +kernel
theorem dX5_isOne_2 : decode cX5_isOne 2 = .ok (.bipush 7, 2) := by decide +kernel
theorem dX5_isOne_4 : decode cX5_isOne 4 = .ok (.invokestatic 73, 3) := by decide +kernel
theorem dX5_isOne_7 : decode cX5_isOne 7 = .ok (.ireturn, 1) := by decide +kernel
theorem dX5_isEdge_0 : decode cX5_isEdge 0 = .ok (.iload_n 0, 1) := by decide +kernel
theorem dX5_isEdge_1 : decode cX5_isEdge 1 = .ok (.iconst 0, 1) := by decide +kernel
theorem dX5_isEdge_2 : decode cX5_isEdge 2 = .ok (.bipush 9, 2) := by decide +kernel
theorem dX5_isEdge_4 : decode cX5_isEdge 4 = .ok (.invokestatic 73, 3) := by decide +kernel
theorem dX5_isEdge_7 : decode cX5_isEdge 7 = .ok (.ireturn, 1) := by decide +kernel
theorem dX5_isPlace_0 : decode cX5_isPlace 0 = .ok (.iload_n 0, 1) := by decide +kernel
theorem dX5_isPlace_1 : decode cX5_isPlace 1 = .ok (.iconst 0, 1) := by decide +kernel
theorem dX5_isPlace_2 : decode cX5_isPlace 2 = .ok (.iconst 5, 1) := by decide +kernel
theorem dX5_isPlace_3 : decode cX5_isPlace 3 = .ok (.invokestatic 73, 3) := by decide +kernel
theorem dX5_isPlace_6 : decode cX5_isPlace 6 = .ok (.ireturn, 1) := by decide +kernel
theorem dX5_list_0 : decode cX5_list 0 = .ok (.iload_n 1, 1) := by decide +kernel
theorem dX5_list_1 : decode cX5_list 1 = .ok (.invokestatic 77, 3) := by decide +kernel
theorem dX5_list_4 : decode cX5_list 4 = .ok (.ifCond .eq 33, 3) := by decide +kernel
theorem dX5_list_7 : decode cX5_list 7 = .ok (.iload_n 2, 1) := by decide +kernel
theorem dX5_list_8 : decode cX5_list 8 = .ok (.invokestatic 81, 3) := by decide +kernel
theorem dX5_list_11 : decode cX5_list 11 = .ok (.ifCond .eq 26, 3) := by decide +kernel
theorem dX5_list_14 : decode cX5_list 14 = .ok (.iload_n 3, 1) := by decide +kernel
theorem dX5_list_15 : decode cX5_list 15 = .ok (.invokestatic 81, 3) := by decide +kernel
theorem dX5_list_18 : decode cX5_list 18 = .ok (.ifCond .eq 19, 3) := by decide +kernel
theorem dX5_list_21 : decode cX5_list 21 = .ok (.aload_n 0, 1) := by decide +kernel
theorem dX5_list_22 : decode cX5_list 22 = .ok (.iconst 3, 1) := by decide +kernel
theorem dX5_list_23 : decode cX5_list 23 = .ok (.iload_n 1, 1) := by decide +kernel
theorem dX5_list_24 : decode cX5_list 24 = .ok (.iadd, 1) := by decide +kernel
theorem dX5_list_25 : decode cX5_list 25 = .ok (.bipush 10, 2) := by decide +kernel
theorem dX5_list_27 : decode cX5_list 27 = .ok (.iload_n 2, 1) := by decide +kernel
theorem dX5_list_28 : decode cX5_list 28 = .ok (.imul, 1) := by decide +kernel
theorem dX5_list_29 : decode cX5_list 29 = .ok (.iload_n 3, 1) := by decide +kernel
theorem dX5_list_30 : decode cX5_list 30 = .ok (.iadd, 1) := by decide +kernel
theorem dX5_list_31 : decode cX5_list 31 = .ok (.invokevirtual 84, 3) := by decide +kernel
theorem dX5_list_34 : decode cX5_list 34 = .ok (.goto 9, 3) := by decide +kernel
theorem dX5_list_37 : decode cX5_list 37 = .ok (.aload_n 0, 1) := by decide +kernel
theorem dX5_list_38 : decode cX5_list 38 = .ok (.ldc 63, 2) := by decide +kernel
theorem dX5_list_40 : decode cX5_list 40 = .ok (.invokevirtual 69, 3) := by decide +kernel
theorem dX5_list_43 : decode cX5_list 43 = .ok (.ireturn, 1) := by decide +kernel
theorem dX5_listed_0 : decode cX5_listed 0 = .ok (.iload_n 1, 1) := by decide +kernel
theorem dX5_listed_1 : decode cX5_listed 1 = .ok (.invokestatic 77, 3) := by decide +kernel
theorem dX5_listed_4 : decode cX5_listed 4 = .ok (.ifCond .eq 14, 3) := by decide +kernel
theorem dX5_listed_7 : decode cX5_listed 7 = .ok (.aload_n 0, 1) := by decide +kernel
theorem dX5_listed_8 : decode cX5_listed 8 = .ok (.getfield 9, 3) := by decide +kernel
theorem dX5_listed_11 : decode cX5_listed 11 = .ok (.iconst 3, 1) := by decide +kernel
theorem dX5_listed_12 : decode cX5_listed 12 = .ok (.iload_n 1, 1) := by decide +kernel
theorem dX5_listed_13 : decode cX5_listed 13 = .ok (.iadd, 1) := by decide +kernel
theorem dX5_listed_14 : decode cX5_listed 14 = .ok (.iaload, 1) := by decide +kernel
theorem dX5_listed_15 : decode cX5_listed 15 = .ok (.goto 9, 3) := by decide +kernel
theorem dX5_listed_18 : decode cX5_listed 18 = .ok (.aload_n 0, 1) := by decide +kernel
theorem dX5_listed_19 : decode cX5_listed 19 = .ok (.ldc 63, 2) := by decide +kernel
theorem dX5_listed_21 : decode cX5_listed 21 = .ok (.invokevirtual 69, 3) := by decide +kernel
theorem dX5_listed_24 : decode cX5_listed 24 = .ok (.ireturn, 1) := by decide +kernel
theorem dX5_placeNow_0 : decode cX5_placeNow 0 = .ok (.iconst 3, 1) := by decide +kernel
theorem dX5_placeNow_1 : decode cX5_placeNow 1 = .ok (.aload_n 0, 1) := by decide +kernel
theorem dX5_placeNow_2 : decode cX5_placeNow 2 = .ok (.getfield 9, 3) := by decide +kernel
theorem dX5_placeNow_5 : decode cX5_placeNow 5 = .ok (.iconst 0, 1) := by decide +kernel
theorem dX5_placeNow_6 : decode cX5_placeNow 6 = .ok (.iaload, 1) := by decide +kernel
theorem dX5_placeNow_7 : decode cX5_placeNow 7 = .ok (.bipush 6, 2) := by decide +kernel
theorem dX5_placeNow_9 : decode cX5_placeNow 9 = .ok (.irem, 1) := by decide +kernel
theorem dX5_placeNow_10 : decode cX5_placeNow 10 = .ok (.iadd, 1) := by decide +kernel
theorem dX5_placeNow_11 : decode cX5_placeNow 11 = .ok (.ireturn, 1) := by decide +kernel
theorem dX5_pieceAt_0 : decode cX5_pieceAt 0 = .ok (.bipush 19, 2) := by decide +kernel
theorem dX5_pieceAt_2 : decode cX5_pieceAt 2 = .ok (.iconst 5, 1) := by decide +kernel
theorem dX5_pieceAt_3 : decode cX5_pieceAt 3 = .ok (.iload_n 0, 1) := by decide +kernel
theorem dX5_pieceAt_4 : decode cX5_pieceAt 4 = .ok (.imul, 1) := by decide +kernel
theorem dX5_pieceAt_5 : decode cX5_pieceAt 5 = .ok (.iadd, 1) := by decide +kernel
theorem dX5_pieceAt_6 : decode cX5_pieceAt 6 = .ok (.iload_n 1, 1) := by decide +kernel
theorem dX5_pieceAt_7 : decode cX5_pieceAt 7 = .ok (.iadd, 1) := by decide +kernel
theorem dX5_pieceAt_8 : decode cX5_pieceAt 8 = .ok (.ireturn, 1) := by decide +kernel
theorem dX5_pieceIs_0 : decode cX5_pieceIs 0 = .ok (.aload_n 0, 1) := by decide +kernel
theorem dX5_pieceIs_1 : decode cX5_pieceIs 1 = .ok (.getfield 9, 3) := by decide +kernel
theorem dX5_pieceIs_4 : decode cX5_pieceIs 4 = .ok (.iload_n 1, 1) := by decide +kernel
theorem dX5_pieceIs_5 : decode cX5_pieceIs 5 = .ok (.iload_n 2, 1) := by decide +kernel
theorem dX5_pieceIs_6 : decode cX5_pieceIs 6 = .ok (.invokestatic 88, 3) := by decide +kernel
theorem dX5_pieceIs_9 : decode cX5_pieceIs 9 = .ok (.iaload, 1) := by decide +kernel
theorem dX5_pieceIs_10 : decode cX5_pieceIs 10 = .ok (.ireturn, 1) := by decide +kernel
theorem dX5_isPiece_0 : decode cX5_isPiece 0 = .ok (.iload_n 1, 1) := by decide +kernel
theorem dX5_isPiece_1 : decode cX5_isPiece 1 = .ok (.iconst 0, 1) := by decide +kernel
theorem dX5_isPiece_2 : decode cX5_isPiece 2 = .ok (.aload_n 0, 1) := by decide +kernel
theorem dX5_isPiece_3 : decode cX5_isPiece 3 = .ok (.getfield 9, 3) := by decide +kernel
theorem dX5_isPiece_6 : decode cX5_isPiece 6 = .ok (.iconst 1, 1) := by decide +kernel
theorem dX5_isPiece_7 : decode cX5_isPiece 7 = .ok (.iaload, 1) := by decide +kernel
theorem dX5_isPiece_8 : decode cX5_isPiece 8 = .ok (.iconst 1, 1) := by decide +kernel
theorem dX5_isPiece_9 : decode cX5_isPiece 9 = .ok (.isub, 1) := by decide +kernel
theorem dX5_isPiece_10 : decode cX5_isPiece 10 = .ok (.invokestatic 73, 3) := by decide +kernel
theorem dX5_isPiece_13 : decode cX5_isPiece 13 = .ok (.ireturn, 1) := by decide +kernel
theorem dX5_isKind_0 : decode cX5_isKind 0 = .ok (.iload_n 0, 1) := by decide +kernel
theorem dX5_isKind_1 : decode cX5_isKind 1 = .ok (.iconst 0, 1) := by decide +kernel
theorem dX5_isKind_2 : decode cX5_isKind 2 = .ok (.bipush 6, 2) := by decide +kernel
theorem dX5_isKind_4 : decode cX5_isKind 4 = .ok (.invokestatic 73, 3) := by decide +kernel
theorem dX5_isKind_7 : decode cX5_isKind 7 = .ok (.ireturn, 1) := by decide +kernel
theorem dX5_isCut_0 : decode cX5_isCut 0 = .ok (.aload_n 0, 1) := by decide +kernel
theorem dX5_isCut_1 : decode cX5_isCut 1 = .ok (.getfield 9, 3) := by decide +kernel
theorem dX5_isCut_4 : decode cX5_isCut 4 = .ok (.iconst 1, 1) := by decide +kernel
theorem dX5_isCut_5 : decode cX5_isCut 5 = .ok (.iaload, 1) := by decide +kernel
theorem dX5_isCut_6 : decode cX5_isCut 6 = .ok (.istore 4, 2) := by decide +kernel
theorem dX5_isCut_8 : decode cX5_isCut 8 = .ok (.aload_n 0, 1) := by decide +kernel
theorem dX5_isCut_9 : decode cX5_isCut 9 = .ok (.getfield 9, 3) := by decide +kernel
theorem dX5_isCut_12 : decode cX5_isCut 12 = .ok (.iload 4, 2) := by decide +kernel
theorem dX5_isCut_14 : decode cX5_isCut 14 = .ok (.iconst 0, 1) := by decide +kernel
theorem dX5_isCut_15 : decode cX5_isCut 15 = .ok (.invokestatic 88, 3) := by decide +kernel
theorem dX5_isCut_18 : decode cX5_isCut 18 = .ok (.iload_n 1, 1) := by decide +kernel
theorem dX5_isCut_19 : decode cX5_isCut 19 = .ok (.iastore, 1) := by decide +kernel
theorem dX5_isCut_20 : decode cX5_isCut 20 = .ok (.aload_n 0, 1) := by decide +kernel
theorem dX5_isCut_21 : decode cX5_isCut 21 = .ok (.getfield 9, 3) := by decide +kernel
theorem dX5_isCut_24 : decode cX5_isCut 24 = .ok (.iload 4, 2) := by decide +kernel
theorem dX5_isCut_26 : decode cX5_isCut 26 = .ok (.iconst 1, 1) := by decide +kernel
theorem dX5_isCut_27 : decode cX5_isCut 27 = .ok (.invokestatic 88, 3) := by decide +kernel
theorem dX5_isCut_30 : decode cX5_isCut 30 = .ok (.iload_n 2, 1) := by decide +kernel
theorem dX5_isCut_31 : decode cX5_isCut 31 = .ok (.iastore, 1) := by decide +kernel
theorem dX5_isCut_32 : decode cX5_isCut 32 = .ok (.aload_n 0, 1) := by decide +kernel
theorem dX5_isCut_33 : decode cX5_isCut 33 = .ok (.getfield 9, 3) := by decide +kernel
theorem dX5_isCut_36 : decode cX5_isCut 36 = .ok (.iload 4, 2) := by decide +kernel
theorem dX5_isCut_38 : decode cX5_isCut 38 = .ok (.iconst 2, 1) := by decide +kernel
theorem dX5_isCut_39 : decode cX5_isCut 39 = .ok (.invokestatic 88, 3) := by decide +kernel
theorem dX5_isCut_42 : decode cX5_isCut 42 = .ok (.iload_n 3, 1) := by decide +kernel
theorem dX5_isCut_43 : decode cX5_isCut 43 = .ok (.iastore, 1) := by decide +kernel
theorem dX5_isCut_44 : decode cX5_isCut 44 = .ok (.aload_n 0, 1) := by decide +kernel
theorem dX5_isCut_45 : decode cX5_isCut 45 = .ok (.getfield 9, 3) := by decide +kernel
theorem dX5_isCut_48 : decode cX5_isCut 48 = .ok (.iload 4, 2) := by decide +kernel
theorem dX5_isCut_50 : decode cX5_isCut 50 = .ok (.iconst 3, 1) := by decide +kernel
theorem dX5_isCut_51 : decode cX5_isCut 51 = .ok (.invokestatic 88, 3) := by decide +kernel
theorem dX5_isCut_54 : decode cX5_isCut 54 = .ok (.iconst (-1), 1) := by decide +kernel
theorem dX5_isCut_55 : decode cX5_isCut 55 = .ok (.iastore, 1) := by decide +kernel
theorem dX5_isCut_56 : decode cX5_isCut 56 = .ok (.aload_n 0, 1) := by decide +kernel
theorem dX5_isCut_57 : decode cX5_isCut 57 = .ok (.getfield 9, 3) := by decide +kernel
theorem dX5_isCut_60 : decode cX5_isCut 60 = .ok (.iload 4, 2) := by decide +kernel
theorem dX5_isCut_62 : decode cX5_isCut 62 = .ok (.iconst 4, 1) := by decide +kernel
theorem dX5_isCut_63 : decode cX5_isCut 63 = .ok (.invokestatic 88, 3) := by decide +kernel
theorem dX5_isCut_66 : decode cX5_isCut 66 = .ok (.iconst 0, 1) := by decide +kernel
theorem dX5_isCut_67 : decode cX5_isCut 67 = .ok (.iastore, 1) := by decide +kernel
theorem dX5_isCut_68 : decode cX5_isCut 68 = .ok (.aload_n 0, 1) := by decide +kernel
theorem dX5_isCut_69 : decode cX5_isCut 69 = .ok (.getfield 9, 3) := by decide +kernel
theorem dX5_isCut_72 : decode cX5_isCut 72 = .ok (.bipush 59, 2) := by decide +kernel
theorem dX5_isCut_74 : decode cX5_isCut 74 = .ok (.iload 4, 2) := by decide +kernel
theorem dX5_isCut_76 : decode cX5_isCut 76 = .ok (.iadd, 1) := by decide +kernel
theorem dX5_isCut_77 : decode cX5_isCut 77 = .ok (.iload 4, 2) := by decide +kernel
theorem dX5_isCut_79 : decode cX5_isCut 79 = .ok (.iastore, 1) := by decide +kernel
theorem dX5_isCut_80 : decode cX5_isCut 80 = .ok (.aload_n 0, 1) := by decide +kernel
theorem dX5_isCut_81 : decode cX5_isCut 81 = .ok (.getfield 9, 3) := by decide +kernel
theorem dX5_isCut_84 : decode cX5_isCut 84 = .ok (.iconst 1, 1) := by decide +kernel
theorem dX5_isCut_85 : decode cX5_isCut 85 = .ok (.dup2, 1) := by decide +kernel
theorem dX5_isCut_86 : decode cX5_isCut 86 = .ok (.iaload, 1) := by decide +kernel
theorem dX5_isCut_87 : decode cX5_isCut 87 = .ok (.iconst 1, 1) := by decide +kernel
theorem dX5_isCut_88 : decode cX5_isCut 88 = .ok (.iadd, 1) := by decide +kernel
theorem dX5_isCut_89 : decode cX5_isCut 89 = .ok (.iastore, 1) := by decide +kernel
theorem dX5_isCut_90 : decode cX5_isCut 90 = .ok (.iload 4, 2) := by decide +kernel
theorem dX5_isCut_92 : decode cX5_isCut 92 = .ok (.ireturn, 1) := by decide +kernel
theorem dX5_piece_0 : decode cX5_piece 0 = .ok (.iload_n 1, 1) := by decide +kernel
theorem dX5_piece_1 : decode cX5_piece 1 = .ok (.invokestatic 91, 3) := by decide +kernel
theorem dX5_piece_4 : decode cX5_piece 4 = .ok (.ifCond .eq 17, 3) := by decide +kernel
theorem dX5_piece_7 : decode cX5_piece 7 = .ok (.iload_n 2, 1) := by decide +kernel
theorem dX5_piece_8 : decode cX5_piece 8 = .ok (.invokestatic 94, 3) := by decide +kernel
theorem dX5_piece_11 : decode cX5_piece 11 = .ok (.ifCond .eq 10, 3) := by decide +kernel
theorem dX5_piece_14 : decode cX5_piece 14 = .ok (.iload_n 3, 1) := by decide +kernel
theorem dX5_piece_15 : decode cX5_piece 15 = .ok (.invokestatic 94, 3) := by decide +kernel
theorem dX5_piece_18 : decode cX5_piece 18 = .ok (.ifCond .ne 10, 3) := by decide +kernel
theorem dX5_piece_21 : decode cX5_piece 21 = .ok (.aload_n 0, 1) := by decide +kernel
theorem dX5_piece_22 : decode cX5_piece 22 = .ok (.ldc 63, 2) := by decide +kernel
theorem dX5_piece_24 : decode cX5_piece 24 = .ok (.invokevirtual 69, 3) := by decide +kernel
theorem dX5_piece_27 : decode cX5_piece 27 = .ok (.ireturn, 1) := by decide +kernel
theorem dX5_piece_28 : decode cX5_piece 28 = .ok (.aload_n 0, 1) := by decide +kernel
theorem dX5_piece_29 : decode cX5_piece 29 = .ok (.getfield 9, 3) := by decide +kernel
theorem dX5_piece_32 : decode cX5_piece 32 = .ok (.iconst 1, 1) := by decide +kernel
theorem dX5_piece_33 : decode cX5_piece 33 = .ok (.iaload, 1) := by decide +kernel
theorem dX5_piece_34 : decode cX5_piece 34 = .ok (.bipush 8, 2) := by decide +kernel
theorem dX5_piece_36 : decode cX5_piece 36 = .ok (.if_icmp .ne 12, 3) := by decide +kernel
theorem dX5_piece_39 : decode cX5_piece 39 = .ok (.aload_n 0, 1) := by decide +kernel
theorem dX5_piece_40 : decode cX5_piece 40 = .ok (.ldc 97, 2) := by decide +kernel
theorem dX5_piece_42 : decode cX5_piece 42 = .ok (.invokevirtual 69, 3) := by decide +kernel
theorem dX5_piece_45 : decode cX5_piece 45 = .ok (.goto 10, 3) := by decide +kernel
theorem dX5_piece_48 : decode cX5_piece 48 = .ok (.aload_n 0, 1) := by decide +kernel
theorem dX5_piece_49 : decode cX5_piece 49 = .ok (.iload_n 1, 1) := by decide +kernel
theorem dX5_piece_50 : decode cX5_piece 50 = .ok (.iload_n 2, 1) := by decide +kernel
theorem dX5_piece_51 : decode cX5_piece 51 = .ok (.iload_n 3, 1) := by decide +kernel
theorem dX5_piece_52 : decode cX5_piece 52 = .ok (.invokevirtual 98, 3) := by decide +kernel
theorem dX5_piece_55 : decode cX5_piece 55 = .ok (.ireturn, 1) := by decide +kernel
theorem dX5_whereLies_0 : decode cX5_whereLies 0 = .ok (.iconst 0, 1) := by decide +kernel
theorem dX5_whereLies_1 : decode cX5_whereLies 1 = .ok (.istore_n 2, 1) := by decide +kernel
theorem dX5_whereLies_2 : decode cX5_whereLies 2 = .ok (.aload_n 0, 1) := by decide +kernel
theorem dX5_whereLies_3 : decode cX5_whereLies 3 = .ok (.getfield 9, 3) := by decide +kernel
theorem dX5_whereLies_6 : decode cX5_whereLies 6 = .ok (.bipush 59, 2) := by decide +kernel
theorem dX5_whereLies_8 : decode cX5_whereLies 8 = .ok (.iload_n 2, 1) := by decide +kernel
theorem dX5_whereLies_9 : decode cX5_whereLies 9 = .ok (.iadd, 1) := by decide +kernel
theorem dX5_whereLies_10 : decode cX5_whereLies 10 = .ok (.iaload, 1) := by decide +kernel
theorem dX5_whereLies_11 : decode cX5_whereLies 11 = .ok (.iload_n 1, 1) := by decide +kernel
theorem dX5_whereLies_12 : decode cX5_whereLies 12 = .ok (.if_icmp .eq 9, 3) := by decide +kernel
theorem dX5_whereLies_15 : decode cX5_whereLies 15 = .ok (.iinc 2 1, 3) := by decide +kernel
theorem dX5_whereLies_18 : decode cX5_whereLies 18 = .ok (.goto (-16), 3) := by decide +kernel
theorem dX5_whereLies_21 : decode cX5_whereLies 21 = .ok (.iload_n 2, 1) := by decide +kernel
theorem dX5_whereLies_22 : decode cX5_whereLies 22 = .ok (.ireturn, 1) := by decide +kernel
theorem dX5_grows_0 : decode cX5_grows 0 = .ok (.aload_n 0, 1) := by decide +kernel
theorem dX5_grows_1 : decode cX5_grows 1 = .ok (.iload_n 1, 1) := by decide +kernel
theorem dX5_grows_2 : decode cX5_grows 2 = .ok (.iconst 0, 1) := by decide +kernel
theorem dX5_grows_3 : decode cX5_grows 3 = .ok (.invokevirtual 102, 3) := by decide +kernel
theorem dX5_grows_6 : decode cX5_grows 6 = .ok (.tableswitch 47 1 6 #[38, 40, 42, 44, 38, 38], 38) := by decide +kernel
theorem dX5_grows_44 : decode cX5_grows 44 = .ok (.iconst 0, 1) := by decide +kernel
theorem dX5_grows_45 : decode cX5_grows 45 = .ok (.ireturn, 1) := by decide +kernel
theorem dX5_grows_46 : decode cX5_grows 46 = .ok (.iconst 3, 1) := by decide +kernel
theorem dX5_grows_47 : decode cX5_grows 47 = .ok (.ireturn, 1) := by decide +kernel
theorem dX5_grows_48 : decode cX5_grows 48 = .ok (.iconst 4, 1) := by decide +kernel
theorem dX5_grows_49 : decode cX5_grows 49 = .ok (.ireturn, 1) := by decide +kernel
theorem dX5_grows_50 : decode cX5_grows 50 = .ok (.bipush 8, 2) := by decide +kernel
theorem dX5_grows_52 : decode cX5_grows 52 = .ok (.ireturn, 1) := by decide +kernel
theorem dX5_grows_53 : decode cX5_grows 53 = .ok (.iconst 1, 1) := by decide +kernel
theorem dX5_grows_54 : decode cX5_grows 54 = .ok (.ireturn, 1) := by decide +kernel
theorem dX5_told_0 : decode cX5_told 0 = .ok (.iload_n 2, 1) := by decide +kernel
theorem dX5_told_1 : decode cX5_told 1 = .ok (.iconst 5, 1) := by decide +kernel
theorem dX5_told_2 : decode cX5_told 2 = .ok (.if_icmp .ne 11, 3) := by decide +kernel
theorem dX5_told_5 : decode cX5_told 5 = .ok (.aload_n 0, 1) := by decide +kernel
theorem dX5_told_6 : decode cX5_told 6 = .ok (.iload_n 1, 1) := by decide +kernel
theorem dX5_told_7 : decode cX5_told 7 = .ok (.invokevirtual 105, 3) := by decide +kernel
theorem dX5_told_10 : decode cX5_told 10 = .ok (.goto 23, 3) := by decide +kernel
theorem dX5_told_13 : decode cX5_told 13 = .ok (.iload_n 2, 1) := by decide +kernel
theorem dX5_told_14 : decode cX5_told 14 = .ok (.bipush 6, 2) := by decide +kernel
theorem dX5_told_16 : decode cX5_told 16 = .ok (.if_icmp .ne 11, 3) := by decide +kernel
theorem dX5_told_19 : decode cX5_told 19 = .ok (.aload_n 0, 1) := by decide +kernel
theorem dX5_told_20 : decode cX5_told 20 = .ok (.iload_n 1, 1) := by decide +kernel
theorem dX5_told_21 : decode cX5_told 21 = .ok (.invokevirtual 108, 3) := by decide +kernel
theorem dX5_told_24 : decode cX5_told 24 = .ok (.goto 9, 3) := by decide +kernel
theorem dX5_told_27 : decode cX5_told 27 = .ok (.aload_n 0, 1) := by decide +kernel
theorem dX5_told_28 : decode cX5_told 28 = .ok (.iload_n 1, 1) := by decide +kernel
theorem dX5_told_29 : decode cX5_told 29 = .ok (.iload_n 2, 1) := by decide +kernel
theorem dX5_told_30 : decode cX5_told 30 = .ok (.invokevirtual 102, 3) := by decide +kernel
theorem dX5_told_33 : decode cX5_told 33 = .ok (.ireturn, 1) := by decide +kernel
theorem dX5_of_0 : decode cX5_of 0 = .ok (.aload_n 0, 1) := by decide +kernel
theorem dX5_of_1 : decode cX5_of 1 = .ok (.iload_n 1, 1) := by decide +kernel
theorem dX5_of_2 : decode cX5_of 2 = .ok (.invokevirtual 111, 3) := by decide +kernel
theorem dX5_of_5 : decode cX5_of 5 = .ok (.ifCond .eq 22, 3) := by decide +kernel
theorem dX5_of_8 : decode cX5_of 8 = .ok (.iload_n 2, 1) := by decide +kernel
theorem dX5_of_9 : decode cX5_of 9 = .ok (.iconst 0, 1) := by decide +kernel
theorem dX5_of_10 : decode cX5_of 10 = .ok (.bipush 6, 2) := by decide +kernel
theorem dX5_of_12 : decode cX5_of 12 = .ok (.invokestatic 73, 3) := by decide +kernel
theorem dX5_of_15 : decode cX5_of 15 = .ok (.ifCond .eq 12, 3) := by decide +kernel
theorem dX5_of_18 : decode cX5_of 18 = .ok (.aload_n 0, 1) := by decide +kernel
theorem dX5_of_19 : decode cX5_of 19 = .ok (.iload_n 1, 1) := by decide +kernel
theorem dX5_of_20 : decode cX5_of 20 = .ok (.iload_n 2, 1) := by decide +kernel
theorem dX5_of_21 : decode cX5_of 21 = .ok (.invokevirtual 114, 3) := by decide +kernel
theorem dX5_of_24 : decode cX5_of 24 = .ok (.goto 9, 3) := by decide +kernel
theorem dX5_of_27 : decode cX5_of 27 = .ok (.aload_n 0, 1) := by decide +kernel
theorem dX5_of_28 : decode cX5_of 28 = .ok (.ldc 63, 2) := by decide +kernel
theorem dX5_of_30 : decode cX5_of 30 = .ok (.invokevirtual 69, 3) := by decide +kernel
theorem dX5_of_33 : decode cX5_of 33 = .ok (.ireturn, 1) := by decide +kernel
theorem dX5_isField_0 : decode cX5_isField 0 = .ok (.iload_n 0, 1) := by decide +kernel
theorem dX5_isField_1 : decode cX5_isField 1 = .ok (.tableswitch 70 0 4 #[35, 40, 40, 45, 63], 35) := by decide +kernel
theorem dX5_isField_36 : decode cX5_isField 36 = .ok (.iload_n 1, 1) := by decide +kernel
theorem dX5_isField_37 : decode cX5_isField 37 = .ok (.invokestatic 91, 3) := by decide +kernel
theorem dX5_isField_40 : decode cX5_isField 40 = .ok (.ireturn, 1) := by decide +kernel
theorem dX5_isField_41 : decode cX5_isField 41 = .ok (.iload_n 1, 1) := by decide +kernel
theorem dX5_isField_42 : decode cX5_isField 42 = .ok (.invokestatic 94, 3) := by decide +kernel
theorem dX5_isField_45 : decode cX5_isField 45 = .ok (.ireturn, 1) := by decide +kernel
theorem dX5_isField_46 : decode cX5_isField 46 = .ok (.iload_n 1, 1) := by decide +kernel
theorem dX5_isField_47 : decode cX5_isField 47 = .ok (.iconst (-1), 1) := by decide +kernel
theorem dX5_isField_48 : decode cX5_isField 48 = .ok (.if_icmp .eq 10, 3) := by decide +kernel
theorem dX5_isField_51 : decode cX5_isField 51 = .ok (.iload_n 1, 1) := by decide +kernel
theorem dX5_isField_52 : decode cX5_isField 52 = .ok (.invokestatic 81, 3) := by decide +kernel
theorem dX5_isField_55 : decode cX5_isField 55 = .ok (.ifCond .eq 7, 3) := by decide +kernel
theorem dX5_isField_58 : decode cX5_isField 58 = .ok (.iconst 1, 1) := by decide +kernel
theorem dX5_isField_59 : decode cX5_isField 59 = .ok (.goto 4, 3) := by decide +kernel
theorem dX5_isField_62 : decode cX5_isField 62 = .ok (.iconst 0, 1) := by decide +kernel
theorem dX5_isField_63 : decode cX5_isField 63 = .ok (.ireturn, 1) := by decide +kernel
theorem dX5_isField_64 : decode cX5_isField 64 = .ok (.iload_n 1, 1) := by decide +kernel
theorem dX5_isField_65 : decode cX5_isField 65 = .ok (.iconst 0, 1) := by decide +kernel
theorem dX5_isField_66 : decode cX5_isField 66 = .ok (.iconst 1, 1) := by decide +kernel
theorem dX5_isField_67 : decode cX5_isField 67 = .ok (.invokestatic 73, 3) := by decide +kernel
theorem dX5_isField_70 : decode cX5_isField 70 = .ok (.ireturn, 1) := by decide +kernel
theorem dX5_isField_71 : decode cX5_isField 71 = .ok (.iconst 0, 1) := by decide +kernel
theorem dX5_isField_72 : decode cX5_isField 72 = .ok (.ireturn, 1) := by decide +kernel
theorem dX5_change_0 : decode cX5_change 0 = .ok (.aload_n 0, 1) := by decide +kernel
theorem dX5_change_1 : decode cX5_change 1 = .ok (.iload_n 1, 1) := by decide +kernel
theorem dX5_change_2 : decode cX5_change 2 = .ok (.invokevirtual 111, 3) := by decide +kernel
theorem dX5_change_5 : decode cX5_change 5 = .ok (.ifCond .eq 24, 3) := by decide +kernel
theorem dX5_change_8 : decode cX5_change 8 = .ok (.iload_n 2, 1) := by decide +kernel
theorem dX5_change_9 : decode cX5_change 9 = .ok (.iload_n 3, 1) := by decide +kernel
theorem dX5_change_10 : decode cX5_change 10 = .ok (.invokestatic 117, 3) := by decide +kernel
theorem dX5_change_13 : decode cX5_change 13 = .ok (.ifCond .eq 16, 3) := by decide +kernel
theorem dX5_change_16 : decode cX5_change 16 = .ok (.aload_n 0, 1) := by decide +kernel
theorem dX5_change_17 : decode cX5_change 17 = .ok (.iload_n 1, 1) := by decide +kernel
theorem dX5_change_18 : decode cX5_change 18 = .ok (.iload_n 2, 1) := by decide +kernel
theorem dX5_change_19 : decode cX5_change 19 = .ok (.invokestatic 88, 3) := by decide +kernel
theorem dX5_change_22 : decode cX5_change 22 = .ok (.iload_n 3, 1) := by decide +kernel
theorem dX5_change_23 : decode cX5_change 23 = .ok (.invokevirtual 84, 3) := by decide +kernel
theorem dX5_change_26 : decode cX5_change 26 = .ok (.goto 9, 3) := by decide +kernel
theorem dX5_change_29 : decode cX5_change 29 = .ok (.aload_n 0, 1) := by decide +kernel
theorem dX5_change_30 : decode cX5_change 30 = .ok (.ldc 63, 2) := by decide +kernel
theorem dX5_change_32 : decode cX5_change 32 = .ok (.invokevirtual 69, 3) := by decide +kernel
theorem dX5_change_35 : decode cX5_change 35 = .ok (.ireturn, 1) := by decide +kernel
theorem dX5_lies_0 : decode cX5_lies 0 = .ok (.aload_n 0, 1) := by decide +kernel
theorem dX5_lies_1 : decode cX5_lies 1 = .ok (.iload_n 1, 1) := by decide +kernel
theorem dX5_lies_2 : decode cX5_lies 2 = .ok (.invokevirtual 111, 3) := by decide +kernel
theorem dX5_lies_5 : decode cX5_lies 5 = .ok (.ifCond .eq 15, 3) := by decide +kernel
theorem dX5_lies_8 : decode cX5_lies 8 = .ok (.aload_n 0, 1) := by decide +kernel
theorem dX5_lies_9 : decode cX5_lies 9 = .ok (.getfield 9, 3) := by decide +kernel
theorem dX5_lies_12 : decode cX5_lies 12 = .ok (.bipush 59, 2) := by decide +kernel
theorem dX5_lies_14 : decode cX5_lies 14 = .ok (.iload_n 1, 1) := by decide +kernel
theorem dX5_lies_15 : decode cX5_lies 15 = .ok (.iadd, 1) := by decide +kernel
theorem dX5_lies_16 : decode cX5_lies 16 = .ok (.iaload, 1) := by decide +kernel
theorem dX5_lies_17 : decode cX5_lies 17 = .ok (.goto 9, 3) := by decide +kernel
theorem dX5_lies_20 : decode cX5_lies 20 = .ok (.aload_n 0, 1) := by decide +kernel
theorem dX5_lies_21 : decode cX5_lies 21 = .ok (.ldc 63, 2) := by decide +kernel
theorem dX5_lies_23 : decode cX5_lies 23 = .ok (.invokevirtual 69, 3) := by decide +kernel
theorem dX5_lies_26 : decode cX5_lies 26 = .ok (.ireturn, 1) := by decide +kernel
theorem dX5_side_0 : decode cX5_side 0 = .ok (.aload_n 0, 1) := by decide +kernel
theorem dX5_side_1 : decode cX5_side 1 = .ok (.iload_n 1, 1) := by decide +kernel
theorem dX5_side_2 : decode cX5_side 2 = .ok (.aload_n 0, 1) := by decide +kernel
theorem dX5_side_3 : decode cX5_side 3 = .ok (.iload_n 1, 1) := by decide +kernel
theorem dX5_side_4 : decode cX5_side 4 = .ok (.iconst 4, 1) := by decide +kernel
theorem dX5_side_5 : decode cX5_side 5 = .ok (.invokevirtual 102, 3) := by decide +kernel
theorem dX5_side_8 : decode cX5_side 8 = .ok (.iload_n 2, 1) := by decide +kernel
theorem dX5_side_9 : decode cX5_side 9 = .ok (.if_icmp .ne 7, 3) := by decide +kernel
theorem dX5_side_12 : decode cX5_side 12 = .ok (.iconst 1, 1) := by decide +kernel
theorem dX5_side_13 : decode cX5_side 13 = .ok (.goto 4, 3) := by decide +kernel
theorem dX5_side_16 : decode cX5_side 16 = .ok (.iconst 2, 1) := by decide +kernel
theorem dX5_side_17 : decode cX5_side 17 = .ok (.invokevirtual 102, 3) := by decide +kernel
theorem dX5_side_20 : decode cX5_side 20 = .ok (.ireturn, 1) := by decide +kernel
theorem dX5_isSky_0 : decode cX5_isSky 0 = .ok (.aload_n 0, 1) := by decide +kernel
theorem dX5_isSky_1 : decode cX5_isSky 1 = .ok (.iload_n 1, 1) := by decide +kernel
theorem dX5_isSky_2 : decode cX5_isSky 2 = .ok (.iconst 0, 1) := by decide +kernel
theorem dX5_isSky_3 : decode cX5_isSky 3 = .ok (.invokevirtual 102, 3) := by decide +kernel
theorem dX5_isSky_6 : decode cX5_isSky 6 = .ok (.iconst 2, 1) := by decide +kernel
theorem dX5_isSky_7 : decode cX5_isSky 7 = .ok (.iconst 4, 1) := by decide +kernel
theorem dX5_isSky_8 : decode cX5_isSky 8 = .ok (.invokestatic 73, 3) := by decide +kernel
theorem dX5_isSky_11 : decode cX5_isSky 11 = .ok (.ireturn, 1) := by decide +kernel
theorem dX5_gapOf_0 : decode cX5_gapOf 0 = .ok (.aload_n 0, 1) := by decide +kernel
theorem dX5_gapOf_1 : decode cX5_gapOf 1 = .ok (.iload_n 1, 1) := by decide +kernel
theorem dX5_gapOf_2 : decode cX5_gapOf 2 = .ok (.iconst 1, 1) := by decide +kernel
theorem dX5_gapOf_3 : decode cX5_gapOf 3 = .ok (.invokevirtual 121, 3) := by decide +kernel
theorem dX5_gapOf_6 : decode cX5_gapOf 6 = .ok (.aload_n 0, 1) := by decide +kernel
theorem dX5_gapOf_7 : decode cX5_gapOf 7 = .ok (.iload_n 2, 1) := by decide +kernel
theorem dX5_gapOf_8 : decode cX5_gapOf 8 = .ok (.iconst 0, 1) := by decide +kernel
theorem dX5_gapOf_9 : decode cX5_gapOf 9 = .ok (.invokevirtual 121, 3) := by decide +kernel
theorem dX5_gapOf_12 : decode cX5_gapOf 12 = .ok (.isub, 1) := by decide +kernel
theorem dX5_gapOf_13 : decode cX5_gapOf 13 = .ok (.invokestatic 124, 3) := by decide +kernel
theorem dX5_gapOf_16 : decode cX5_gapOf 16 = .ok (.istore_n 3, 1) := by decide +kernel
theorem dX5_gapOf_17 : decode cX5_gapOf 17 = .ok (.aload_n 0, 1) := by decide +kernel
theorem dX5_gapOf_18 : decode cX5_gapOf 18 = .ok (.iload_n 1, 1) := by decide +kernel
theorem dX5_gapOf_19 : decode cX5_gapOf 19 = .ok (.iconst 3, 1) := by decide +kernel
theorem dX5_gapOf_20 : decode cX5_gapOf 20 = .ok (.invokevirtual 102, 3) := by decide +kernel
theorem dX5_gapOf_23 : decode cX5_gapOf 23 = .ok (.iload_n 2, 1) := by decide +kernel
theorem dX5_gapOf_24 : decode cX5_gapOf 24 = .ok (.if_icmp .ne 7, 3) := by decide +kernel
theorem dX5_gapOf_27 : decode cX5_gapOf 27 = .ok (.iconst 0, 1) := by decide +kernel
theorem dX5_gapOf_28 : decode cX5_gapOf 28 = .ok (.goto 4, 3) := by decide +kernel
theorem dX5_gapOf_31 : decode cX5_gapOf 31 = .ok (.iload_n 3, 1) := by decide +kernel
theorem dX5_gapOf_32 : decode cX5_gapOf 32 = .ok (.istore 4, 2) := by decide +kernel
theorem dX5_gapOf_34 : decode cX5_gapOf 34 = .ok (.aload_n 0, 1) := by decide +kernel
theorem dX5_gapOf_35 : decode cX5_gapOf 35 = .ok (.iload_n 2, 1) := by decide +kernel
theorem dX5_gapOf_36 : decode cX5_gapOf 36 = .ok (.invokevirtual 129, 3) := by decide +kernel
theorem dX5_gapOf_39 : decode cX5_gapOf 39 = .ok (.ifCond .eq 7, 3) := by decide +kernel
theorem dX5_gapOf_42 : decode cX5_gapOf 42 = .ok (.iconst 0, 1) := by decide +kernel
theorem dX5_gapOf_43 : decode cX5_gapOf 43 = .ok (.goto 6, 3) := by decide +kernel
theorem dX5_gapOf_46 : decode cX5_gapOf 46 = .ok (.iload_n 3, 1) := by decide +kernel
theorem dX5_gapOf_47 : decode cX5_gapOf 47 = .ok (.iconst 1, 1) := by decide +kernel
theorem dX5_gapOf_48 : decode cX5_gapOf 48 = .ok (.iadd, 1) := by decide +kernel
theorem dX5_gapOf_49 : decode cX5_gapOf 49 = .ok (.istore 5, 2) := by decide +kernel
theorem dX5_gapOf_51 : decode cX5_gapOf 51 = .ok (.aload_n 0, 1) := by decide +kernel
theorem dX5_gapOf_52 : decode cX5_gapOf 52 = .ok (.iload_n 1, 1) := by decide +kernel
theorem dX5_gapOf_53 : decode cX5_gapOf 53 = .ok (.iconst 0, 1) := by decide +kernel
theorem dX5_gapOf_54 : decode cX5_gapOf 54 = .ok (.invokevirtual 102, 3) := by decide +kernel
theorem dX5_gapOf_57 : decode cX5_gapOf 57 = .ok (.tableswitch 79 1 6 #[39, 47, 50, 55, 69, 42], 39) := by decide +kernel
theorem dX5_gapOf_96 : decode cX5_gapOf 96 = .ok (.iload 4, 2) := by decide +kernel
theorem dX5_gapOf_98 : decode cX5_gapOf 98 = .ok (.ireturn, 1) := by decide +kernel
theorem dX5_gapOf_99 : decode cX5_gapOf 99 = .ok (.iload 4, 2) := by decide +kernel
theorem dX5_gapOf_101 : decode cX5_gapOf 101 = .ok (.iconst 2, 1) := by decide +kernel
theorem dX5_gapOf_102 : decode cX5_gapOf 102 = .ok (.iadd, 1) := by decide +kernel
theorem dX5_gapOf_103 : decode cX5_gapOf 103 = .ok (.ireturn, 1) := by decide +kernel
theorem dX5_gapOf_104 : decode cX5_gapOf 104 = .ok (.iload 5, 2) := by decide +kernel
theorem dX5_gapOf_106 : decode cX5_gapOf 106 = .ok (.ireturn, 1) := by decide +kernel
theorem dX5_gapOf_107 : decode cX5_gapOf 107 = .ok (.iload 5, 2) := by decide +kernel
theorem dX5_gapOf_109 : decode cX5_gapOf 109 = .ok (.iconst 2, 1) := by decide +kernel
theorem dX5_gapOf_110 : decode cX5_gapOf 110 = .ok (.idiv, 1) := by decide +kernel
theorem dX5_gapOf_111 : decode cX5_gapOf 111 = .ok (.ireturn, 1) := by decide +kernel
theorem dX5_gapOf_112 : decode cX5_gapOf 112 = .ok (.iload 5, 2) := by decide +kernel
theorem dX5_gapOf_114 : decode cX5_gapOf 114 = .ok (.iconst 2, 1) := by decide +kernel
theorem dX5_gapOf_115 : decode cX5_gapOf 115 = .ok (.idiv, 1) := by decide +kernel
theorem dX5_gapOf_116 : decode cX5_gapOf 116 = .ok (.aload_n 0, 1) := by decide +kernel
theorem dX5_gapOf_117 : decode cX5_gapOf 117 = .ok (.getfield 9, 3) := by decide +kernel
theorem dX5_gapOf_120 : decode cX5_gapOf 120 = .ok (.iconst 0, 1) := by decide +kernel
theorem dX5_gapOf_121 : decode cX5_gapOf 121 = .ok (.iaload, 1) := by decide +kernel
theorem dX5_gapOf_122 : decode cX5_gapOf 122 = .ok (.iconst 3, 1) := by decide +kernel
theorem dX5_gapOf_123 : decode cX5_gapOf 123 = .ok (.irem, 1) := by decide +kernel
theorem dX5_gapOf_124 : decode cX5_gapOf 124 = .ok (.iadd, 1) := by decide +kernel
theorem dX5_gapOf_125 : decode cX5_gapOf 125 = .ok (.ireturn, 1) := by decide +kernel
theorem dX5_gapOf_126 : decode cX5_gapOf 126 = .ok (.iload_n 3, 1) := by decide +kernel
theorem dX5_gapOf_127 : decode cX5_gapOf 127 = .ok (.ifCond .le 7, 3) := by decide +kernel
theorem dX5_gapOf_130 : decode cX5_gapOf 130 = .ok (.iconst 1, 1) := by decide +kernel
theorem dX5_gapOf_131 : decode cX5_gapOf 131 = .ok (.goto 4, 3) := by decide +kernel
theorem dX5_gapOf_134 : decode cX5_gapOf 134 = .ok (.iconst 0, 1) := by decide +kernel
theorem dX5_gapOf_135 : decode cX5_gapOf 135 = .ok (.ireturn, 1) := by decide +kernel
theorem dX5_gapOf_136 : decode cX5_gapOf 136 = .ok (.iload_n 3, 1) := by decide +kernel
theorem dX5_gapOf_137 : decode cX5_gapOf 137 = .ok (.ireturn, 1) := by decide +kernel
theorem dX5_gap_0 : decode cX5_gap 0 = .ok (.aload_n 0, 1) := by decide +kernel
theorem dX5_gap_1 : decode cX5_gap 1 = .ok (.iload_n 1, 1) := by decide +kernel
theorem dX5_gap_2 : decode cX5_gap 2 = .ok (.invokevirtual 111, 3) := by decide +kernel
theorem dX5_gap_5 : decode cX5_gap 5 = .ok (.ifCond .eq 25, 3) := by decide +kernel
theorem dX5_gap_8 : decode cX5_gap 8 = .ok (.aload_n 0, 1) := by decide +kernel
theorem dX5_gap_9 : decode cX5_gap 9 = .ok (.iload_n 2, 1) := by decide +kernel
theorem dX5_gap_10 : decode cX5_gap 10 = .ok (.invokevirtual 111, 3) := by decide +kernel
theorem dX5_gap_13 : decode cX5_gap 13 = .ok (.ifCond .eq 17, 3) := by decide +kernel
theorem dX5_gap_16 : decode cX5_gap 16 = .ok (.iload_n 1, 1) := by decide +kernel
theorem dX5_gap_17 : decode cX5_gap 17 = .ok (.iload_n 2, 1) := by decide +kernel
theorem dX5_gap_18 : decode cX5_gap 18 = .ok (.if_icmp .eq 12, 3) := by decide +kernel
theorem dX5_gap_21 : decode cX5_gap 21 = .ok (.aload_n 0, 1) := by decide +kernel
theorem dX5_gap_22 : decode cX5_gap 22 = .ok (.iload_n 1, 1) := by decide +kernel
theorem dX5_gap_23 : decode cX5_gap 23 = .ok (.iload_n 2, 1) := by decide +kernel
theorem dX5_gap_24 : decode cX5_gap 24 = .ok (.invokevirtual 132, 3) := by decide +kernel
theorem dX5_gap_27 : decode cX5_gap 27 = .ok (.goto 9, 3) := by decide +kernel
theorem dX5_gap_30 : decode cX5_gap 30 = .ok (.aload_n 0, 1) := by decide +kernel
theorem dX5_gap_31 : decode cX5_gap 31 = .ok (.ldc 63, 2) := by decide +kernel
theorem dX5_gap_33 : decode cX5_gap 33 = .ok (.invokevirtual 69, 3) := by decide +kernel
theorem dX5_gap_36 : decode cX5_gap 36 = .ok (.ireturn, 1) := by decide +kernel
theorem dX5_edgeOf_0 : decode cX5_edgeOf 0 = .ok (.aload_n 0, 1) := by decide +kernel
theorem dX5_edgeOf_1 : decode cX5_edgeOf 1 = .ok (.iload_n 1, 1) := by decide +kernel
theorem dX5_edgeOf_2 : decode cX5_edgeOf 2 = .ok (.iload_n 2, 1) := by decide +kernel
theorem dX5_edgeOf_3 : decode cX5_edgeOf 3 = .ok (.invokevirtual 121, 3) := by decide +kernel
theorem dX5_edgeOf_6 : decode cX5_edgeOf 6 = .ok (.istore_n 3, 1) := by decide +kernel
theorem dX5_edgeOf_7 : decode cX5_edgeOf 7 = .ok (.aload_n 0, 1) := by decide +kernel
theorem dX5_edgeOf_8 : decode cX5_edgeOf 8 = .ok (.iload_n 1, 1) := by decide +kernel
theorem dX5_edgeOf_9 : decode cX5_edgeOf 9 = .ok (.iconst 0, 1) := by decide +kernel
theorem dX5_edgeOf_10 : decode cX5_edgeOf 10 = .ok (.invokevirtual 102, 3) := by decide +kernel
theorem dX5_edgeOf_13 : decode cX5_edgeOf 13 = .ok (.tableswitch 52 2 6 #[37, 37, 41, 47, 35], 35) := by decide +kernel
theorem dX5_edgeOf_48 : decode cX5_edgeOf 48 = .ok (.iconst 0, 1) := by decide +kernel
theorem dX5_edgeOf_49 : decode cX5_edgeOf 49 = .ok (.ireturn, 1) := by decide +kernel
theorem dX5_edgeOf_50 : decode cX5_edgeOf 50 = .ok (.iload_n 3, 1) := by decide +kernel
theorem dX5_edgeOf_51 : decode cX5_edgeOf 51 = .ok (.iconst 2, 1) := by decide +kernel
theorem dX5_edgeOf_52 : decode cX5_edgeOf 52 = .ok (.idiv, 1) := by decide +kernel
theorem dX5_edgeOf_53 : decode cX5_edgeOf 53 = .ok (.ireturn, 1) := by decide +kernel
theorem dX5_edgeOf_54 : decode cX5_edgeOf 54 = .ok (.iload_n 3, 1) := by decide +kernel
theorem dX5_edgeOf_55 : decode cX5_edgeOf 55 = .ok (.iconst 2, 1) := by decide +kernel
theorem dX5_edgeOf_56 : decode cX5_edgeOf 56 = .ok (.idiv, 1) := by decide +kernel
theorem dX5_edgeOf_57 : decode cX5_edgeOf 57 = .ok (.iconst 1, 1) := by decide +kernel
theorem dX5_edgeOf_58 : decode cX5_edgeOf 58 = .ok (.iadd, 1) := by decide +kernel
theorem dX5_edgeOf_59 : decode cX5_edgeOf 59 = .ok (.ireturn, 1) := by decide +kernel
theorem dX5_edgeOf_60 : decode cX5_edgeOf 60 = .ok (.bipush 9, 2) := by decide +kernel
theorem dX5_edgeOf_62 : decode cX5_edgeOf 62 = .ok (.iload_n 3, 1) := by decide +kernel
theorem dX5_edgeOf_63 : decode cX5_edgeOf 63 = .ok (.isub, 1) := by decide +kernel
theorem dX5_edgeOf_64 : decode cX5_edgeOf 64 = .ok (.ireturn, 1) := by decide +kernel
theorem dX5_edgeOf_65 : decode cX5_edgeOf 65 = .ok (.iload_n 3, 1) := by decide +kernel
theorem dX5_edgeOf_66 : decode cX5_edgeOf 66 = .ok (.ireturn, 1) := by decide +kernel
theorem dX5_edge_0 : decode cX5_edge 0 = .ok (.aload_n 0, 1) := by decide +kernel
theorem dX5_edge_1 : decode cX5_edge 1 = .ok (.iload_n 1, 1) := by decide +kernel
theorem dX5_edge_2 : decode cX5_edge 2 = .ok (.invokevirtual 111, 3) := by decide +kernel
theorem dX5_edge_5 : decode cX5_edge 5 = .ok (.ifCond .eq 21, 3) := by decide +kernel
theorem dX5_edge_8 : decode cX5_edge 8 = .ok (.iload_n 2, 1) := by decide +kernel
theorem dX5_edge_9 : decode cX5_edge 9 = .ok (.iconst 0, 1) := by decide +kernel
theorem dX5_edge_10 : decode cX5_edge 10 = .ok (.iconst 1, 1) := by decide +kernel
theorem dX5_edge_11 : decode cX5_edge 11 = .ok (.invokestatic 73, 3) := by decide +kernel
theorem dX5_edge_14 : decode cX5_edge 14 = .ok (.ifCond .eq 12, 3) := by decide +kernel
theorem dX5_edge_17 : decode cX5_edge 17 = .ok (.aload_n 0, 1) := by decide +kernel
theorem dX5_edge_18 : decode cX5_edge 18 = .ok (.iload_n 1, 1) := by decide +kernel
theorem dX5_edge_19 : decode cX5_edge 19 = .ok (.iload_n 2, 1) := by decide +kernel
theorem dX5_edge_20 : decode cX5_edge 20 = .ok (.invokevirtual 135, 3) := by decide +kernel
theorem dX5_edge_23 : decode cX5_edge 23 = .ok (.goto 9, 3) := by decide +kernel
theorem dX5_edge_26 : decode cX5_edge 26 = .ok (.aload_n 0, 1) := by decide +kernel
theorem dX5_edge_27 : decode cX5_edge 27 = .ok (.ldc 63, 2) := by decide +kernel
theorem dX5_edge_29 : decode cX5_edge 29 = .ok (.invokevirtual 69, 3) := by decide +kernel
theorem dX5_edge_32 : decode cX5_edge 32 = .ok (.ireturn, 1) := by decide +kernel
theorem dX5_sumNow_0 : decode cX5_sumNow 0 = .ok (.aload_n 0, 1) := by decide +kernel
theorem dX5_sumNow_1 : decode cX5_sumNow 1 = .ok (.getfield 9, 3) := by decide +kernel
theorem dX5_sumNow_4 : decode cX5_sumNow 4 = .ok (.iconst 1, 1) := by decide +kernel
theorem dX5_sumNow_5 : decode cX5_sumNow 5 = .ok (.iaload, 1) := by decide +kernel
theorem dX5_sumNow_6 : decode cX5_sumNow 6 = .ok (.istore_n 1, 1) := by decide +kernel
theorem dX5_sumNow_7 : decode cX5_sumNow 7 = .ok (.iload_n 1, 1) := by decide +kernel
theorem dX5_sumNow_8 : decode cX5_sumNow 8 = .ok (.ifCond .ne 7, 3) := by decide +kernel
theorem dX5_sumNow_11 : decode cX5_sumNow 11 = .ok (.iconst 0, 1) := by decide +kernel
theorem dX5_sumNow_12 : decode cX5_sumNow 12 = .ok (.goto 32, 3) := by decide +kernel
theorem dX5_sumNow_15 : decode cX5_sumNow 15 = .ok (.aload_n 0, 1) := by decide +kernel
theorem dX5_sumNow_16 : decode cX5_sumNow 16 = .ok (.aload_n 0, 1) := by decide +kernel
theorem dX5_sumNow_17 : decode cX5_sumNow 17 = .ok (.getfield 9, 3) := by decide +kernel
theorem dX5_sumNow_20 : decode cX5_sumNow 20 = .ok (.bipush 59, 2) := by decide +kernel
theorem dX5_sumNow_22 : decode cX5_sumNow 22 = .ok (.iaload, 1) := by decide +kernel
theorem dX5_sumNow_23 : decode cX5_sumNow 23 = .ok (.iconst 0, 1) := by decide +kernel
theorem dX5_sumNow_24 : decode cX5_sumNow 24 = .ok (.invokevirtual 135, 3) := by decide +kernel
theorem dX5_sumNow_27 : decode cX5_sumNow 27 = .ok (.aload_n 0, 1) := by decide +kernel
theorem dX5_sumNow_28 : decode cX5_sumNow 28 = .ok (.aload_n 0, 1) := by decide +kernel
theorem dX5_sumNow_29 : decode cX5_sumNow 29 = .ok (.getfield 9, 3) := by decide +kernel
theorem dX5_sumNow_32 : decode cX5_sumNow 32 = .ok (.bipush 59, 2) := by decide +kernel
theorem dX5_sumNow_34 : decode cX5_sumNow 34 = .ok (.iload_n 1, 1) := by decide +kernel
theorem dX5_sumNow_35 : decode cX5_sumNow 35 = .ok (.iadd, 1) := by decide +kernel
theorem dX5_sumNow_36 : decode cX5_sumNow 36 = .ok (.iconst 1, 1) := by decide +kernel
theorem dX5_sumNow_37 : decode cX5_sumNow 37 = .ok (.isub, 1) := by decide +kernel
theorem dX5_sumNow_38 : decode cX5_sumNow 38 = .ok (.iaload, 1) := by decide +kernel
theorem dX5_sumNow_39 : decode cX5_sumNow 39 = .ok (.iconst 1, 1) := by decide +kernel
theorem dX5_sumNow_40 : decode cX5_sumNow 40 = .ok (.invokevirtual 135, 3) := by decide +kernel
theorem dX5_sumNow_43 : decode cX5_sumNow 43 = .ok (.iadd, 1) := by decide +kernel
theorem dX5_sumNow_44 : decode cX5_sumNow 44 = .ok (.istore_n 2, 1) := by decide +kernel
theorem dX5_sumNow_45 : decode cX5_sumNow 45 = .ok (.iconst 1, 1) := by decide +kernel
theorem dX5_sumNow_46 : decode cX5_sumNow 46 = .ok (.istore_n 3, 1) := by decide +kernel
theorem dX5_sumNow_47 : decode cX5_sumNow 47 = .ok (.iload_n 3, 1) := by decide +kernel
theorem dX5_sumNow_48 : decode cX5_sumNow 48 = .ok (.iload_n 1, 1) := by decide +kernel
theorem dX5_sumNow_49 : decode cX5_sumNow 49 = .ok (.if_icmp .ge 36, 3) := by decide +kernel
theorem dX5_sumNow_52 : decode cX5_sumNow 52 = .ok (.iload_n 2, 1) := by decide +kernel
theorem dX5_sumNow_53 : decode cX5_sumNow 53 = .ok (.aload_n 0, 1) := by decide +kernel
theorem dX5_sumNow_54 : decode cX5_sumNow 54 = .ok (.aload_n 0, 1) := by decide +kernel
theorem dX5_sumNow_55 : decode cX5_sumNow 55 = .ok (.getfield 9, 3) := by decide +kernel
theorem dX5_sumNow_58 : decode cX5_sumNow 58 = .ok (.bipush 59, 2) := by decide +kernel
theorem dX5_sumNow_60 : decode cX5_sumNow 60 = .ok (.iload_n 3, 1) := by decide +kernel
theorem dX5_sumNow_61 : decode cX5_sumNow 61 = .ok (.iadd, 1) := by decide +kernel
theorem dX5_sumNow_62 : decode cX5_sumNow 62 = .ok (.iconst 1, 1) := by decide +kernel
theorem dX5_sumNow_63 : decode cX5_sumNow 63 = .ok (.isub, 1) := by decide +kernel
theorem dX5_sumNow_64 : decode cX5_sumNow 64 = .ok (.iaload, 1) := by decide +kernel
theorem dX5_sumNow_65 : decode cX5_sumNow 65 = .ok (.aload_n 0, 1) := by decide +kernel
theorem dX5_sumNow_66 : decode cX5_sumNow 66 = .ok (.getfield 9, 3) := by decide +kernel
theorem dX5_sumNow_69 : decode cX5_sumNow 69 = .ok (.bipush 59, 2) := by decide +kernel
theorem dX5_sumNow_71 : decode cX5_sumNow 71 = .ok (.iload_n 3, 1) := by decide +kernel
theorem dX5_sumNow_72 : decode cX5_sumNow 72 = .ok (.iadd, 1) := by decide +kernel
theorem dX5_sumNow_73 : decode cX5_sumNow 73 = .ok (.iaload, 1) := by decide +kernel
theorem dX5_sumNow_74 : decode cX5_sumNow 74 = .ok (.invokevirtual 132, 3) := by decide +kernel
theorem dX5_sumNow_77 : decode cX5_sumNow 77 = .ok (.iadd, 1) := by decide +kernel
theorem dX5_sumNow_78 : decode cX5_sumNow 78 = .ok (.istore_n 2, 1) := by decide +kernel
theorem dX5_sumNow_79 : decode cX5_sumNow 79 = .ok (.iinc 3 1, 3) := by decide +kernel
theorem dX5_sumNow_82 : decode cX5_sumNow 82 = .ok (.goto (-35), 3) := by decide +kernel
theorem dX5_sumNow_85 : decode cX5_sumNow 85 = .ok (.iload_n 2, 1) := by decide +kernel
theorem dX5_sumNow_86 : decode cX5_sumNow 86 = .ok (.ireturn, 1) := by decide +kernel
theorem dX5_exchange_0 : decode cX5_exchange 0 = .ok (.aload_n 0, 1) := by decide +kernel
theorem dX5_exchange_1 : decode cX5_exchange 1 = .ok (.getfield 9, 3) := by decide +kernel
theorem dX5_exchange_4 : decode cX5_exchange 4 = .ok (.bipush 59, 2) := by decide +kernel
theorem dX5_exchange_6 : decode cX5_exchange 6 = .ok (.iload_n 1, 1) := by decide +kernel
theorem dX5_exchange_7 : decode cX5_exchange 7 = .ok (.iadd, 1) := by decide +kernel
theorem dX5_exchange_8 : decode cX5_exchange 8 = .ok (.iaload, 1) := by decide +kernel
theorem dX5_exchange_9 : decode cX5_exchange 9 = .ok (.istore_n 3, 1) := by decide +kernel
theorem dX5_exchange_10 : decode cX5_exchange 10 = .ok (.aload_n 0, 1) := by decide +kernel
theorem dX5_exchange_11 : decode cX5_exchange 11 = .ok (.getfield 9, 3) := by decide +kernel
theorem dX5_exchange_14 : decode cX5_exchange 14 = .ok (.bipush 59, 2) := by decide +kernel
theorem dX5_exchange_16 : decode cX5_exchange 16 = .ok (.iload_n 1, 1) := by decide +kernel
theorem dX5_exchange_17 : decode cX5_exchange 17 = .ok (.iadd, 1) := by decide +kernel
theorem dX5_exchange_18 : decode cX5_exchange 18 = .ok (.aload_n 0, 1) := by decide +kernel
theorem dX5_exchange_19 : decode cX5_exchange 19 = .ok (.getfield 9, 3) := by decide +kernel
theorem dX5_exchange_22 : decode cX5_exchange 22 = .ok (.bipush 59, 2) := by decide +kernel
theorem dX5_exchange_24 : decode cX5_exchange 24 = .ok (.iload_n 2, 1) := by decide +kernel
theorem dX5_exchange_25 : decode cX5_exchange 25 = .ok (.iadd, 1) := by decide +kernel
theorem dX5_exchange_26 : decode cX5_exchange 26 = .ok (.iaload, 1) := by decide +kernel
theorem dX5_exchange_27 : decode cX5_exchange 27 = .ok (.iastore, 1) := by decide +kernel
theorem dX5_exchange_28 : decode cX5_exchange 28 = .ok (.aload_n 0, 1) := by decide +kernel
theorem dX5_exchange_29 : decode cX5_exchange 29 = .ok (.getfield 9, 3) := by decide +kernel
theorem dX5_exchange_32 : decode cX5_exchange 32 = .ok (.bipush 59, 2) := by decide +kernel
theorem dX5_exchange_34 : decode cX5_exchange 34 = .ok (.iload_n 2, 1) := by decide +kernel
theorem dX5_exchange_35 : decode cX5_exchange 35 = .ok (.iadd, 1) := by decide +kernel
theorem dX5_exchange_36 : decode cX5_exchange 36 = .ok (.iload_n 3, 1) := by decide +kernel
theorem dX5_exchange_37 : decode cX5_exchange 37 = .ok (.iastore, 1) := by decide +kernel
theorem dX5_exchange_38 : decode cX5_exchange 38 = .ok (.return_, 1) := by decide +kernel
theorem dX5_swap_0 : decode cX5_swap 0 = .ok (.aload_n 0, 1) := by decide +kernel
theorem dX5_swap_1 : decode cX5_swap 1 = .ok (.iload_n 1, 1) := by decide +kernel
theorem dX5_swap_2 : decode cX5_swap 2 = .ok (.invokevirtual 111, 3) := by decide +kernel
theorem dX5_swap_5 : decode cX5_swap 5 = .ok (.ifCond .eq 11, 3) := by decide +kernel
theorem dX5_swap_8 : decode cX5_swap 8 = .ok (.aload_n 0, 1) := by decide +kernel
theorem dX5_swap_9 : decode cX5_swap 9 = .ok (.iload_n 2, 1) := by decide +kernel
theorem dX5_swap_10 : decode cX5_swap 10 = .ok (.invokevirtual 111, 3) := by decide +kernel
theorem dX5_swap_13 : decode cX5_swap 13 = .ok (.ifCond .ne 10, 3) := by decide +kernel
theorem dX5_swap_16 : decode cX5_swap 16 = .ok (.aload_n 0, 1) := by decide +kernel
theorem dX5_swap_17 : decode cX5_swap 17 = .ok (.ldc 63, 2) := by decide +kernel
theorem dX5_swap_19 : decode cX5_swap 19 = .ok (.invokevirtual 69, 3) := by decide +kernel
theorem dX5_swap_22 : decode cX5_swap 22 = .ok (.ireturn, 1) := by decide +kernel
theorem dX5_swap_23 : decode cX5_swap 23 = .ok (.aload_n 0, 1) := by decide +kernel
theorem dX5_swap_24 : decode cX5_swap 24 = .ok (.iload_n 1, 1) := by decide +kernel
theorem dX5_swap_25 : decode cX5_swap 25 = .ok (.iload_n 2, 1) := by decide +kernel
theorem dX5_swap_26 : decode cX5_swap 26 = .ok (.invokevirtual 138, 3) := by decide +kernel
theorem dX5_swap_29 : decode cX5_swap 29 = .ok (.aload_n 0, 1) := by decide +kernel
theorem dX5_swap_30 : decode cX5_swap 30 = .ok (.invokevirtual 142, 3) := by decide +kernel
theorem dX5_swap_33 : decode cX5_swap 33 = .ok (.ireturn, 1) := by decide +kernel
theorem dX5_year_0 : decode cX5_year 0 = .ok (.aload_n 0, 1) := by decide +kernel
theorem dX5_year_1 : decode cX5_year 1 = .ok (.getfield 9, 3) := by decide +kernel
theorem dX5_year_4 : decode cX5_year 4 = .ok (.aload_n 0, 1) := by decide +kernel
theorem dX5_year_5 : decode cX5_year 5 = .ok (.invokevirtual 146, 3) := by decide +kernel
theorem dX5_year_8 : decode cX5_year 8 = .ok (.iaload, 1) := by decide +kernel
theorem dX5_year_9 : decode cX5_year 9 = .ok (.bipush 10, 2) := by decide +kernel
theorem dX5_year_11 : decode cX5_year 11 = .ok (.idiv, 1) := by decide +kernel
theorem dX5_year_12 : decode cX5_year 12 = .ok (.istore_n 1, 1) := by decide +kernel
theorem dX5_year_13 : decode cX5_year 13 = .ok (.aload_n 0, 1) := by decide +kernel
theorem dX5_year_14 : decode cX5_year 14 = .ok (.getfield 9, 3) := by decide +kernel
theorem dX5_year_17 : decode cX5_year 17 = .ok (.aload_n 0, 1) := by decide +kernel
theorem dX5_year_18 : decode cX5_year 18 = .ok (.invokevirtual 146, 3) := by decide +kernel
theorem dX5_year_21 : decode cX5_year 21 = .ok (.iaload, 1) := by decide +kernel
theorem dX5_year_22 : decode cX5_year 22 = .ok (.bipush 10, 2) := by decide +kernel
theorem dX5_year_24 : decode cX5_year 24 = .ok (.irem, 1) := by decide +kernel
theorem dX5_year_25 : decode cX5_year 25 = .ok (.istore_n 2, 1) := by decide +kernel
theorem dX5_year_26 : decode cX5_year 26 = .ok (.aload_n 0, 1) := by decide +kernel
theorem dX5_year_27 : decode cX5_year 27 = .ok (.iload_n 1, 1) := by decide +kernel
theorem dX5_year_28 : decode cX5_year 28 = .ok (.invokevirtual 111, 3) := by decide +kernel
theorem dX5_year_31 : decode cX5_year 31 = .ok (.ifCond .eq 17, 3) := by decide +kernel
theorem dX5_year_34 : decode cX5_year 34 = .ok (.aload_n 0, 1) := by decide +kernel
theorem dX5_year_35 : decode cX5_year 35 = .ok (.iload_n 2, 1) := by decide +kernel
theorem dX5_year_36 : decode cX5_year 36 = .ok (.invokevirtual 111, 3) := by decide +kernel
theorem dX5_year_39 : decode cX5_year 39 = .ok (.ifCond .eq 9, 3) := by decide +kernel
theorem dX5_year_42 : decode cX5_year 42 = .ok (.aload_n 0, 1) := by decide +kernel
theorem dX5_year_43 : decode cX5_year 43 = .ok (.iload_n 1, 1) := by decide +kernel
theorem dX5_year_44 : decode cX5_year 44 = .ok (.iload_n 2, 1) := by decide +kernel
theorem dX5_year_45 : decode cX5_year 45 = .ok (.invokevirtual 138, 3) := by decide +kernel
theorem dX5_year_48 : decode cX5_year 48 = .ok (.iconst 0, 1) := by decide +kernel
theorem dX5_year_49 : decode cX5_year 49 = .ok (.istore_n 3, 1) := by decide +kernel
theorem dX5_year_50 : decode cX5_year 50 = .ok (.iload_n 3, 1) := by decide +kernel
theorem dX5_year_51 : decode cX5_year 51 = .ok (.aload_n 0, 1) := by decide +kernel
theorem dX5_year_52 : decode cX5_year 52 = .ok (.getfield 9, 3) := by decide +kernel
theorem dX5_year_55 : decode cX5_year 55 = .ok (.iconst 1, 1) := by decide +kernel
theorem dX5_year_56 : decode cX5_year 56 = .ok (.iaload, 1) := by decide +kernel
theorem dX5_year_57 : decode cX5_year 57 = .ok (.if_icmp .ge 46, 3) := by decide +kernel
theorem dX5_year_60 : decode cX5_year 60 = .ok (.aload_n 0, 1) := by decide +kernel
theorem dX5_year_61 : decode cX5_year 61 = .ok (.getfield 9, 3) := by decide +kernel
theorem dX5_year_64 : decode cX5_year 64 = .ok (.iconst 0, 1) := by decide +kernel
theorem dX5_year_65 : decode cX5_year 65 = .ok (.iaload, 1) := by decide +kernel
theorem dX5_year_66 : decode cX5_year 66 = .ok (.iconst 3, 1) := by decide +kernel
theorem dX5_year_67 : decode cX5_year 67 = .ok (.irem, 1) := by decide +kernel
theorem dX5_year_68 : decode cX5_year 68 = .ok (.iconst 2, 1) := by decide +kernel
theorem dX5_year_69 : decode cX5_year 69 = .ok (.if_icmp .ne 34, 3) := by decide +kernel
theorem dX5_year_72 : decode cX5_year 72 = .ok (.aload_n 0, 1) := by decide +kernel
theorem dX5_year_73 : decode cX5_year 73 = .ok (.getfield 9, 3) := by decide +kernel
theorem dX5_year_76 : decode cX5_year 76 = .ok (.iload_n 3, 1) := by decide +kernel
theorem dX5_year_77 : decode cX5_year 77 = .ok (.iconst 1, 1) := by decide +kernel
theorem dX5_year_78 : decode cX5_year 78 = .ok (.invokestatic 88, 3) := by decide +kernel
theorem dX5_year_81 : decode cX5_year 81 = .ok (.aload_n 0, 1) := by decide +kernel
theorem dX5_year_82 : decode cX5_year 82 = .ok (.iload_n 3, 1) := by decide +kernel
theorem dX5_year_83 : decode cX5_year 83 = .ok (.iconst 1, 1) := by decide +kernel
theorem dX5_year_84 : decode cX5_year 84 = .ok (.invokevirtual 102, 3) := by decide +kernel
theorem dX5_year_87 : decode cX5_year 87 = .ok (.aload_n 0, 1) := by decide +kernel
theorem dX5_year_88 : decode cX5_year 88 = .ok (.iload_n 3, 1) := by decide +kernel
theorem dX5_year_89 : decode cX5_year 89 = .ok (.invokevirtual 108, 3) := by decide +kernel
theorem dX5_year_92 : decode cX5_year 92 = .ok (.iadd, 1) := by decide +kernel
theorem dX5_year_93 : decode cX5_year 93 = .ok (.bipush 10, 2) := by decide +kernel
theorem dX5_year_95 : decode cX5_year 95 = .ok (.irem, 1) := by decide +kernel
theorem dX5_year_96 : decode cX5_year 96 = .ok (.iastore, 1) := by decide +kernel
theorem dX5_year_97 : decode cX5_year 97 = .ok (.iinc 3 1, 3) := by decide +kernel
theorem dX5_year_100 : decode cX5_year 100 = .ok (.goto (-50), 3) := by decide +kernel
theorem dX5_year_103 : decode cX5_year 103 = .ok (.aload_n 0, 1) := by decide +kernel
theorem dX5_year_104 : decode cX5_year 104 = .ok (.getfield 9, 3) := by decide +kernel
theorem dX5_year_107 : decode cX5_year 107 = .ok (.iconst 0, 1) := by decide +kernel
theorem dX5_year_108 : decode cX5_year 108 = .ok (.ldc 149, 2) := by decide +kernel
theorem dX5_year_110 : decode cX5_year 110 = .ok (.aload_n 0, 1) := by decide +kernel
theorem dX5_year_111 : decode cX5_year 111 = .ok (.getfield 9, 3) := by decide +kernel
theorem dX5_year_114 : decode cX5_year 114 = .ok (.iconst 0, 1) := by decide +kernel
theorem dX5_year_115 : decode cX5_year 115 = .ok (.iaload, 1) := by decide +kernel
theorem dX5_year_116 : decode cX5_year 116 = .ok (.iconst 1, 1) := by decide +kernel
theorem dX5_year_117 : decode cX5_year 117 = .ok (.iadd, 1) := by decide +kernel
theorem dX5_year_118 : decode cX5_year 118 = .ok (.invokestatic 150, 3) := by decide +kernel
theorem dX5_year_121 : decode cX5_year 121 = .ok (.iastore, 1) := by decide +kernel
theorem dX5_year_122 : decode cX5_year 122 = .ok (.return_, 1) := by decide +kernel
theorem dX5_yearsGo_0 : decode cX5_yearsGo 0 = .ok (.iconst 0, 1) := by decide +kernel
theorem dX5_yearsGo_1 : decode cX5_yearsGo 1 = .ok (.istore_n 2, 1) := by decide +kernel
theorem dX5_yearsGo_2 : decode cX5_yearsGo 2 = .ok (.iload_n 2, 1) := by decide +kernel
theorem dX5_yearsGo_3 : decode cX5_yearsGo 3 = .ok (.iload_n 1, 1) := by decide +kernel
theorem dX5_yearsGo_4 : decode cX5_yearsGo 4 = .ok (.if_icmp .ge 13, 3) := by decide +kernel
theorem dX5_yearsGo_7 : decode cX5_yearsGo 7 = .ok (.aload_n 0, 1) := by decide +kernel
theorem dX5_yearsGo_8 : decode cX5_yearsGo 8 = .ok (.invokevirtual 153, 3) := by decide +kernel
theorem dX5_yearsGo_11 : decode cX5_yearsGo 11 = .ok (.iinc 2 1, 3) := by decide +kernel
theorem dX5_yearsGo_14 : decode cX5_yearsGo 14 = .ok (.goto (-12), 3) := by decide +kernel
theorem dX5_yearsGo_17 : decode cX5_yearsGo 17 = .ok (.return_, 1) := by decide +kernel
theorem dX5_go_0 : decode cX5_go 0 = .ok (.iload_n 1, 1) := by decide +kernel
theorem dX5_go_1 : decode cX5_go 1 = .ok (.iconst 1, 1) := by decide +kernel
theorem dX5_go_2 : decode cX5_go 2 = .ok (.bipush 60, 2) := by decide +kernel
theorem dX5_go_4 : decode cX5_go 4 = .ok (.invokestatic 73, 3) := by decide +kernel
theorem dX5_go_7 : decode cX5_go 7 = .ok (.ifCond .ne 10, 3) := by decide +kernel
theorem dX5_go_10 : decode cX5_go 10 = .ok (.aload_n 0, 1) := by decide +kernel
theorem dX5_go_11 : decode cX5_go 11 = .ok (.ldc 63, 2) := by decide +kernel
theorem dX5_go_13 : decode cX5_go 13 = .ok (.invokevirtual 69, 3) := by decide +kernel
theorem dX5_go_16 : decode cX5_go 16 = .ok (.ireturn, 1) := by decide +kernel
theorem dX5_go_17 : decode cX5_go 17 = .ok (.aload_n 0, 1) := by decide +kernel
theorem dX5_go_18 : decode cX5_go 18 = .ok (.getfield 9, 3) := by decide +kernel
theorem dX5_go_21 : decode cX5_go 21 = .ok (.iconst 0, 1) := by decide +kernel
theorem dX5_go_22 : decode cX5_go 22 = .ok (.iaload, 1) := by decide +kernel
theorem dX5_go_23 : decode cX5_go 23 = .ok (.iload_n 1, 1) := by decide +kernel
theorem dX5_go_24 : decode cX5_go 24 = .ok (.iadd, 1) := by decide +kernel
theorem dX5_go_25 : decode cX5_go 25 = .ok (.ldc 149, 2) := by decide +kernel
theorem dX5_go_27 : decode cX5_go 27 = .ok (.if_icmp .le 10, 3) := by decide +kernel
theorem dX5_go_30 : decode cX5_go 30 = .ok (.aload_n 0, 1) := by decide +kernel
theorem dX5_go_31 : decode cX5_go 31 = .ok (.ldc 156, 2) := by decide +kernel
theorem dX5_go_33 : decode cX5_go 33 = .ok (.invokevirtual 69, 3) := by decide +kernel
theorem dX5_go_36 : decode cX5_go 36 = .ok (.ireturn, 1) := by decide +kernel
theorem dX5_go_37 : decode cX5_go 37 = .ok (.aload_n 0, 1) := by decide +kernel
theorem dX5_go_38 : decode cX5_go 38 = .ok (.iload_n 1, 1) := by decide +kernel
theorem dX5_go_39 : decode cX5_go 39 = .ok (.invokevirtual 157, 3) := by decide +kernel
theorem dX5_go_42 : decode cX5_go 42 = .ok (.aload_n 0, 1) := by decide +kernel
theorem dX5_go_43 : decode cX5_go 43 = .ok (.invokevirtual 142, 3) := by decide +kernel
theorem dX5_go_46 : decode cX5_go 46 = .ok (.ireturn, 1) := by decide +kernel
theorem dX5_isGranted_0 : decode cX5_isGranted 0 = .ok (.aload_n 0, 1) := by decide +kernel
theorem dX5_isGranted_1 : decode cX5_isGranted 1 = .ok (.iload_n 1, 1) := by decide +kernel
theorem dX5_isGranted_2 : decode cX5_isGranted 2 = .ok (.invokevirtual 105, 3) := by decide +kernel
theorem dX5_isGranted_5 : decode cX5_isGranted 5 = .ok (.iconst 1, 1) := by decide +kernel
theorem dX5_isGranted_6 : decode cX5_isGranted 6 = .ok (.iadd, 1) := by decide +kernel
theorem dX5_isGranted_7 : decode cX5_isGranted 7 = .ok (.istore_n 2, 1) := by decide +kernel
theorem dX5_isGranted_8 : decode cX5_isGranted 8 = .ok (.iload_n 2, 1) := by decide +kernel
theorem dX5_isGranted_9 : decode cX5_isGranted 9 = .ok (.aload_n 0, 1) := by decide +kernel
theorem dX5_isGranted_10 : decode cX5_isGranted 10 = .ok (.getfield 9, 3) := by decide +kernel
theorem dX5_isGranted_13 : decode cX5_isGranted 13 = .ok (.iconst 1, 1) := by decide +kernel
theorem dX5_isGranted_14 : decode cX5_isGranted 14 = .ok (.iaload, 1) := by decide +kernel
theorem dX5_isGranted_15 : decode cX5_isGranted 15 = .ok (.if_icmp .ge 25, 3) := by decide +kernel
theorem dX5_isGranted_18 : decode cX5_isGranted 18 = .ok (.aload_n 0, 1) := by decide +kernel
theorem dX5_isGranted_19 : decode cX5_isGranted 19 = .ok (.getfield 9, 3) := by decide +kernel
theorem dX5_isGranted_22 : decode cX5_isGranted 22 = .ok (.bipush 59, 2) := by decide +kernel
theorem dX5_isGranted_24 : decode cX5_isGranted 24 = .ok (.iload_n 2, 1) := by decide +kernel
theorem dX5_isGranted_25 : decode cX5_isGranted 25 = .ok (.iadd, 1) := by decide +kernel
theorem dX5_isGranted_26 : decode cX5_isGranted 26 = .ok (.iaload, 1) := by decide +kernel
theorem dX5_isGranted_27 : decode cX5_isGranted 27 = .ok (.aload_n 0, 1) := by decide +kernel
theorem dX5_isGranted_28 : decode cX5_isGranted 28 = .ok (.iload_n 1, 1) := by decide +kernel
theorem dX5_isGranted_29 : decode cX5_isGranted 29 = .ok (.iconst 3, 1) := by decide +kernel
theorem dX5_isGranted_30 : decode cX5_isGranted 30 = .ok (.invokevirtual 102, 3) := by decide +kernel
theorem dX5_isGranted_33 : decode cX5_isGranted 33 = .ok (.if_icmp .ne 7, 3) := by decide +kernel
theorem dX5_isGranted_36 : decode cX5_isGranted 36 = .ok (.iconst 1, 1) := by decide +kernel
theorem dX5_isGranted_37 : decode cX5_isGranted 37 = .ok (.goto 4, 3) := by decide +kernel
theorem dX5_isGranted_40 : decode cX5_isGranted 40 = .ok (.iconst 0, 1) := by decide +kernel
theorem dX5_isGranted_41 : decode cX5_isGranted 41 = .ok (.ireturn, 1) := by decide +kernel
theorem dX5_closePlaces_0 : decode cX5_closePlaces 0 = .ok (.iconst 0, 1) := by decide +kernel
theorem dX5_closePlaces_1 : decode cX5_closePlaces 1 = .ok (.istore_n 1, 1) := by decide +kernel
theorem dX5_closePlaces_2 : decode cX5_closePlaces 2 = .ok (.iconst 1, 1) := by decide +kernel
theorem dX5_closePlaces_3 : decode cX5_closePlaces 3 = .ok (.istore_n 2, 1) := by decide +kernel
theorem dX5_closePlaces_4 : decode cX5_closePlaces 4 = .ok (.iload_n 2, 1) := by decide +kernel
theorem dX5_closePlaces_5 : decode cX5_closePlaces 5 = .ok (.aload_n 0, 1) := by decide +kernel
theorem dX5_closePlaces_6 : decode cX5_closePlaces 6 = .ok (.getfield 9, 3) := by decide +kernel
theorem dX5_closePlaces_9 : decode cX5_closePlaces 9 = .ok (.iconst 1, 1) := by decide +kernel
theorem dX5_closePlaces_10 : decode cX5_closePlaces 10 = .ok (.iaload, 1) := by decide +kernel
theorem dX5_closePlaces_11 : decode cX5_closePlaces 11 = .ok (.if_icmp .ge 48, 3) := by decide +kernel
theorem dX5_closePlaces_14 : decode cX5_closePlaces 14 = .ok (.iload_n 1, 1) := by decide +kernel
theorem dX5_closePlaces_15 : decode cX5_closePlaces 15 = .ok (.aload_n 0, 1) := by decide +kernel
theorem dX5_closePlaces_16 : decode cX5_closePlaces 16 = .ok (.aload_n 0, 1) := by decide +kernel
theorem dX5_closePlaces_17 : decode cX5_closePlaces 17 = .ok (.getfield 9, 3) := by decide +kernel
theorem dX5_closePlaces_20 : decode cX5_closePlaces 20 = .ok (.bipush 59, 2) := by decide +kernel
theorem dX5_closePlaces_22 : decode cX5_closePlaces 22 = .ok (.iload_n 2, 1) := by decide +kernel
theorem dX5_closePlaces_23 : decode cX5_closePlaces 23 = .ok (.iadd, 1) := by decide +kernel
theorem dX5_closePlaces_24 : decode cX5_closePlaces 24 = .ok (.iconst 1, 1) := by decide +kernel
theorem dX5_closePlaces_25 : decode cX5_closePlaces 25 = .ok (.isub, 1) := by decide +kernel
theorem dX5_closePlaces_26 : decode cX5_closePlaces 26 = .ok (.iaload, 1) := by decide +kernel
theorem dX5_closePlaces_27 : decode cX5_closePlaces 27 = .ok (.aload_n 0, 1) := by decide +kernel
theorem dX5_closePlaces_28 : decode cX5_closePlaces 28 = .ok (.getfield 9, 3) := by decide +kernel
theorem dX5_closePlaces_31 : decode cX5_closePlaces 31 = .ok (.bipush 59, 2) := by decide +kernel
theorem dX5_closePlaces_33 : decode cX5_closePlaces 33 = .ok (.iload_n 2, 1) := by decide +kernel
theorem dX5_closePlaces_34 : decode cX5_closePlaces 34 = .ok (.iadd, 1) := by decide +kernel
theorem dX5_closePlaces_35 : decode cX5_closePlaces 35 = .ok (.iaload, 1) := by decide +kernel
theorem dX5_closePlaces_36 : decode cX5_closePlaces 36 = .ok (.invokevirtual 132, 3) := by decide +kernel
theorem dX5_closePlaces_39 : decode cX5_closePlaces 39 = .ok (.ifCond .ne 11, 3) := by decide +kernel
theorem dX5_closePlaces_42 : decode cX5_closePlaces 42 = .ok (.iconst 1, 1) := by decide +kernel
theorem dX5_closePlaces_43 : decode cX5_closePlaces 43 = .ok (.iload_n 2, 1) := by decide +kernel
theorem dX5_closePlaces_44 : decode cX5_closePlaces 44 = .ok (.iconst 1, 1) := by decide +kernel
theorem dX5_closePlaces_45 : decode cX5_closePlaces 45 = .ok (.isub, 1) := by decide +kernel
theorem dX5_closePlaces_46 : decode cX5_closePlaces 46 = .ok (.ishl, 1) := by decide +kernel
theorem dX5_closePlaces_47 : decode cX5_closePlaces 47 = .ok (.goto 4, 3) := by decide +kernel
theorem dX5_closePlaces_50 : decode cX5_closePlaces 50 = .ok (.iconst 0, 1) := by decide +kernel
theorem dX5_closePlaces_51 : decode cX5_closePlaces 51 = .ok (.ior, 1) := by decide +kernel
theorem dX5_closePlaces_52 : decode cX5_closePlaces 52 = .ok (.istore_n 1, 1) := by decide +kernel
theorem dX5_closePlaces_53 : decode cX5_closePlaces 53 = .ok (.iinc 2 1, 3) := by decide +kernel
theorem dX5_closePlaces_56 : decode cX5_closePlaces 56 = .ok (.goto (-52), 3) := by decide +kernel
theorem dX5_closePlaces_59 : decode cX5_closePlaces 59 = .ok (.iload_n 1, 1) := by decide +kernel
theorem dX5_closePlaces_60 : decode cX5_closePlaces 60 = .ok (.ireturn, 1) := by decide +kernel
theorem dX5_grantedOnes_0 : decode cX5_grantedOnes 0 = .ok (.iconst 0, 1) := by decide +kernel
theorem dX5_grantedOnes_1 : decode cX5_grantedOnes 1 = .ok (.istore_n 1, 1) := by decide +kernel
theorem dX5_grantedOnes_2 : decode cX5_grantedOnes 2 = .ok (.iconst 0, 1) := by decide +kernel
theorem dX5_grantedOnes_3 : decode cX5_grantedOnes 3 = .ok (.istore_n 2, 1) := by decide +kernel
theorem dX5_grantedOnes_4 : decode cX5_grantedOnes 4 = .ok (.iload_n 2, 1) := by decide +kernel
theorem dX5_grantedOnes_5 : decode cX5_grantedOnes 5 = .ok (.aload_n 0, 1) := by decide +kernel
theorem dX5_grantedOnes_6 : decode cX5_grantedOnes 6 = .ok (.getfield 9, 3) := by decide +kernel
theorem dX5_grantedOnes_9 : decode cX5_grantedOnes 9 = .ok (.iconst 1, 1) := by decide +kernel
theorem dX5_grantedOnes_10 : decode cX5_grantedOnes 10 = .ok (.iaload, 1) := by decide +kernel
theorem dX5_grantedOnes_11 : decode cX5_grantedOnes 11 = .ok (.if_icmp .ge 27, 3) := by decide +kernel
theorem dX5_grantedOnes_14 : decode cX5_grantedOnes 14 = .ok (.iload_n 1, 1) := by decide +kernel
theorem dX5_grantedOnes_15 : decode cX5_grantedOnes 15 = .ok (.aload_n 0, 1) := by decide +kernel
theorem dX5_grantedOnes_16 : decode cX5_grantedOnes 16 = .ok (.iload_n 2, 1) := by decide +kernel
theorem dX5_grantedOnes_17 : decode cX5_grantedOnes 17 = .ok (.invokevirtual 161, 3) := by decide +kernel
theorem dX5_grantedOnes_20 : decode cX5_grantedOnes 20 = .ok (.ifCond .eq 9, 3) := by decide +kernel
theorem dX5_grantedOnes_23 : decode cX5_grantedOnes 23 = .ok (.iconst 1, 1) := by decide +kernel
theorem dX5_grantedOnes_24 : decode cX5_grantedOnes 24 = .ok (.iload_n 2, 1) := by decide +kernel
theorem dX5_grantedOnes_25 : decode cX5_grantedOnes 25 = .ok (.ishl, 1) := by decide +kernel
theorem dX5_grantedOnes_26 : decode cX5_grantedOnes 26 = .ok (.goto 4, 3) := by decide +kernel
theorem dX5_grantedOnes_29 : decode cX5_grantedOnes 29 = .ok (.iconst 0, 1) := by decide +kernel
theorem dX5_grantedOnes_30 : decode cX5_grantedOnes 30 = .ok (.ior, 1) := by decide +kernel
theorem dX5_grantedOnes_31 : decode cX5_grantedOnes 31 = .ok (.istore_n 1, 1) := by decide +kernel
theorem dX5_grantedOnes_32 : decode cX5_grantedOnes 32 = .ok (.iinc 2 1, 3) := by decide +kernel
theorem dX5_grantedOnes_35 : decode cX5_grantedOnes 35 = .ok (.goto (-31), 3) := by decide +kernel
theorem dX5_grantedOnes_38 : decode cX5_grantedOnes 38 = .ok (.iload_n 1, 1) := by decide +kernel
theorem dX5_grantedOnes_39 : decode cX5_grantedOnes 39 = .ok (.ireturn, 1) := by decide +kernel
theorem dX5_widestGap_0 : decode cX5_widestGap 0 = .ok (.iconst 0, 1) := by decide +kernel
theorem dX5_widestGap_1 : decode cX5_widestGap 1 = .ok (.istore_n 1, 1) := by decide +kernel
theorem dX5_widestGap_2 : decode cX5_widestGap 2 = .ok (.iconst 1, 1) := by decide +kernel
theorem dX5_widestGap_3 : decode cX5_widestGap 3 = .ok (.istore_n 2, 1) := by decide +kernel
theorem dX5_widestGap_4 : decode cX5_widestGap 4 = .ok (.iload_n 2, 1) := by decide +kernel
theorem dX5_widestGap_5 : decode cX5_widestGap 5 = .ok (.aload_n 0, 1) := by decide +kernel
theorem dX5_widestGap_6 : decode cX5_widestGap 6 = .ok (.getfield 9, 3) := by decide +kernel
theorem dX5_widestGap_9 : decode cX5_widestGap 9 = .ok (.iconst 1, 1) := by decide +kernel
theorem dX5_widestGap_10 : decode cX5_widestGap 10 = .ok (.iaload, 1) := by decide +kernel
theorem dX5_widestGap_11 : decode cX5_widestGap 11 = .ok (.if_icmp .ge 38, 3) := by decide +kernel
theorem dX5_widestGap_14 : decode cX5_widestGap 14 = .ok (.iload_n 1, 1) := by decide +kernel
theorem dX5_widestGap_15 : decode cX5_widestGap 15 = .ok (.aload_n 0, 1) := by decide +kernel
theorem dX5_widestGap_16 : decode cX5_widestGap 16 = .ok (.aload_n 0, 1) := by decide +kernel
theorem dX5_widestGap_17 : decode cX5_widestGap 17 = .ok (.getfield 9, 3) := by decide +kernel
theorem dX5_widestGap_20 : decode cX5_widestGap 20 = .ok (.bipush 59, 2) := by decide +kernel
theorem dX5_widestGap_22 : decode cX5_widestGap 22 = .ok (.iload_n 2, 1) := by decide +kernel
theorem dX5_widestGap_23 : decode cX5_widestGap 23 = .ok (.iadd, 1) := by decide +kernel
theorem dX5_widestGap_24 : decode cX5_widestGap 24 = .ok (.iconst 1, 1) := by decide +kernel
theorem dX5_widestGap_25 : decode cX5_widestGap 25 = .ok (.isub, 1) := by decide +kernel
theorem dX5_widestGap_26 : decode cX5_widestGap 26 = .ok (.iaload, 1) := by decide +kernel
theorem dX5_widestGap_27 : decode cX5_widestGap 27 = .ok (.aload_n 0, 1) := by decide +kernel
theorem dX5_widestGap_28 : decode cX5_widestGap 28 = .ok (.getfield 9, 3) := by decide +kernel
theorem dX5_widestGap_31 : decode cX5_widestGap 31 = .ok (.bipush 59, 2) := by decide +kernel
theorem dX5_widestGap_33 : decode cX5_widestGap 33 = .ok (.iload_n 2, 1) := by decide +kernel
theorem dX5_widestGap_34 : decode cX5_widestGap 34 = .ok (.iadd, 1) := by decide +kernel
theorem dX5_widestGap_35 : decode cX5_widestGap 35 = .ok (.iaload, 1) := by decide +kernel
theorem dX5_widestGap_36 : decode cX5_widestGap 36 = .ok (.invokevirtual 132, 3) := by decide +kernel
theorem dX5_widestGap_39 : decode cX5_widestGap 39 = .ok (.invokestatic 164, 3) := by decide +kernel
theorem dX5_widestGap_42 : decode cX5_widestGap 42 = .ok (.istore_n 1, 1) := by decide +kernel
theorem dX5_widestGap_43 : decode cX5_widestGap 43 = .ok (.iinc 2 1, 3) := by decide +kernel
theorem dX5_widestGap_46 : decode cX5_widestGap 46 = .ok (.goto (-42), 3) := by decide +kernel
theorem dX5_widestGap_49 : decode cX5_widestGap 49 = .ok (.iload_n 1, 1) := by decide +kernel
theorem dX5_widestGap_50 : decode cX5_widestGap 50 = .ok (.ireturn, 1) := by decide +kernel
theorem dX5_turnedOnes_0 : decode cX5_turnedOnes 0 = .ok (.iconst 0, 1) := by decide +kernel
theorem dX5_turnedOnes_1 : decode cX5_turnedOnes 1 = .ok (.istore_n 1, 1) := by decide +kernel
theorem dX5_turnedOnes_2 : decode cX5_turnedOnes 2 = .ok (.iconst 0, 1) := by decide +kernel
theorem dX5_turnedOnes_3 : decode cX5_turnedOnes 3 = .ok (.istore_n 2, 1) := by decide +kernel
theorem dX5_turnedOnes_4 : decode cX5_turnedOnes 4 = .ok (.iload_n 2, 1) := by decide +kernel
theorem dX5_turnedOnes_5 : decode cX5_turnedOnes 5 = .ok (.aload_n 0, 1) := by decide +kernel
theorem dX5_turnedOnes_6 : decode cX5_turnedOnes 6 = .ok (.getfield 9, 3) := by decide +kernel
theorem dX5_turnedOnes_9 : decode cX5_turnedOnes 9 = .ok (.iconst 1, 1) := by decide +kernel
theorem dX5_turnedOnes_10 : decode cX5_turnedOnes 10 = .ok (.iaload, 1) := by decide +kernel
theorem dX5_turnedOnes_11 : decode cX5_turnedOnes 11 = .ok (.if_icmp .ge 20, 3) := by decide +kernel
theorem dX5_turnedOnes_14 : decode cX5_turnedOnes 14 = .ok (.iload_n 1, 1) := by decide +kernel
theorem dX5_turnedOnes_15 : decode cX5_turnedOnes 15 = .ok (.aload_n 0, 1) := by decide +kernel
theorem dX5_turnedOnes_16 : decode cX5_turnedOnes 16 = .ok (.iload_n 2, 1) := by decide +kernel
theorem dX5_turnedOnes_17 : decode cX5_turnedOnes 17 = .ok (.iconst 4, 1) := by decide +kernel
theorem dX5_turnedOnes_18 : decode cX5_turnedOnes 18 = .ok (.invokevirtual 102, 3) := by decide +kernel
theorem dX5_turnedOnes_21 : decode cX5_turnedOnes 21 = .ok (.iload_n 2, 1) := by decide +kernel
theorem dX5_turnedOnes_22 : decode cX5_turnedOnes 22 = .ok (.ishl, 1) := by decide +kernel
theorem dX5_turnedOnes_23 : decode cX5_turnedOnes 23 = .ok (.ior, 1) := by decide +kernel
theorem dX5_turnedOnes_24 : decode cX5_turnedOnes 24 = .ok (.istore_n 1, 1) := by decide +kernel
theorem dX5_turnedOnes_25 : decode cX5_turnedOnes 25 = .ok (.iinc 2 1, 3) := by decide +kernel
theorem dX5_turnedOnes_28 : decode cX5_turnedOnes 28 = .ok (.goto (-24), 3) := by decide +kernel
theorem dX5_turnedOnes_31 : decode cX5_turnedOnes 31 = .ok (.iload_n 1, 1) := by decide +kernel
theorem dX5_turnedOnes_32 : decode cX5_turnedOnes 32 = .ok (.ireturn, 1) := by decide +kernel
theorem dX5_now_0 : decode cX5_now 0 = .ok (.iload_n 1, 1) := by decide +kernel
theorem dX5_now_1 : decode cX5_now 1 = .ok (.tableswitch 102 0 7 #[47, 54, 59, 64, 69, 74, 79, 89], 47) := by decide +kernel
theorem dX5_now_48 : decode cX5_now 48 = .ok (.aload_n 0, 1) := by decide +kernel
theorem dX5_now_49 : decode cX5_now 49 = .ok (.getfield 9, 3) := by decide +kernel
theorem dX5_now_52 : decode cX5_now 52 = .ok (.iconst 0, 1) := by decide +kernel
theorem dX5_now_53 : decode cX5_now 53 = .ok (.iaload, 1) := by decide +kernel
theorem dX5_now_54 : decode cX5_now 54 = .ok (.ireturn, 1) := by decide +kernel
theorem dX5_now_55 : decode cX5_now 55 = .ok (.aload_n 0, 1) := by decide +kernel
theorem dX5_now_56 : decode cX5_now 56 = .ok (.invokevirtual 142, 3) := by decide +kernel
theorem dX5_now_59 : decode cX5_now 59 = .ok (.ireturn, 1) := by decide +kernel
theorem dX5_now_60 : decode cX5_now 60 = .ok (.aload_n 0, 1) := by decide +kernel
theorem dX5_now_61 : decode cX5_now 61 = .ok (.invokevirtual 167, 3) := by decide +kernel
theorem dX5_now_64 : decode cX5_now 64 = .ok (.ireturn, 1) := by decide +kernel
theorem dX5_now_65 : decode cX5_now 65 = .ok (.aload_n 0, 1) := by decide +kernel
theorem dX5_now_66 : decode cX5_now 66 = .ok (.invokevirtual 170, 3) := by decide +kernel
theorem dX5_now_69 : decode cX5_now 69 = .ok (.ireturn, 1) := by decide +kernel
theorem dX5_now_70 : decode cX5_now 70 = .ok (.aload_n 0, 1) := by decide +kernel
theorem dX5_now_71 : decode cX5_now 71 = .ok (.invokevirtual 173, 3) := by decide +kernel
theorem dX5_now_74 : decode cX5_now 74 = .ok (.ireturn, 1) := by decide +kernel
theorem dX5_now_75 : decode cX5_now 75 = .ok (.aload_n 0, 1) := by decide +kernel
theorem dX5_now_76 : decode cX5_now 76 = .ok (.invokevirtual 176, 3) := by decide +kernel
theorem dX5_now_79 : decode cX5_now 79 = .ok (.ireturn, 1) := by decide +kernel
theorem dX5_now_80 : decode cX5_now 80 = .ok (.aload_n 0, 1) := by decide +kernel
theorem dX5_now_81 : decode cX5_now 81 = .ok (.invokevirtual 142, 3) := by decide +kernel
theorem dX5_now_84 : decode cX5_now 84 = .ok (.aload_n 0, 1) := by decide +kernel
theorem dX5_now_85 : decode cX5_now 85 = .ok (.invokevirtual 179, 3) := by decide +kernel
theorem dX5_now_88 : decode cX5_now 88 = .ok (.isub, 1) := by decide +kernel
theorem dX5_now_89 : decode cX5_now 89 = .ok (.ireturn, 1) := by decide +kernel
theorem dX5_now_90 : decode cX5_now 90 = .ok (.aload_n 0, 1) := by decide +kernel
theorem dX5_now_91 : decode cX5_now 91 = .ok (.invokevirtual 182, 3) := by decide +kernel
theorem dX5_now_94 : decode cX5_now 94 = .ok (.ifCond .ge 7, 3) := by decide +kernel
theorem dX5_now_97 : decode cX5_now 97 = .ok (.iconst 1, 1) := by decide +kernel
theorem dX5_now_98 : decode cX5_now 98 = .ok (.goto 4, 3) := by decide +kernel
theorem dX5_now_101 : decode cX5_now 101 = .ok (.iconst 0, 1) := by decide +kernel
theorem dX5_now_102 : decode cX5_now 102 = .ok (.ireturn, 1) := by decide +kernel
theorem dX5_now_103 : decode cX5_now 103 = .ok (.aload_n 0, 1) := by decide +kernel
theorem dX5_now_104 : decode cX5_now 104 = .ok (.ldc 63, 2) := by decide +kernel
theorem dX5_now_106 : decode cX5_now 106 = .ok (.invokevirtual 69, 3) := by decide +kernel
theorem dX5_now_109 : decode cX5_now 109 = .ok (.ireturn, 1) := by decide +kernel
theorem dX5_ahead_0 : decode cX5_ahead 0 = .ok (.aload_n 0, 1) := by decide +kernel
theorem dX5_ahead_1 : decode cX5_ahead 1 = .ok (.iload_n 1, 1) := by decide +kernel
theorem dX5_ahead_2 : decode cX5_ahead 2 = .ok (.invokevirtual 111, 3) := by decide +kernel
theorem dX5_ahead_5 : decode cX5_ahead 5 = .ok (.ifCond .eq 23, 3) := by decide +kernel
theorem dX5_ahead_8 : decode cX5_ahead 8 = .ok (.iload_n 2, 1) := by decide +kernel
theorem dX5_ahead_9 : decode cX5_ahead 9 = .ok (.iconst 1, 1) := by decide +kernel
theorem dX5_ahead_10 : decode cX5_ahead 10 = .ok (.if_icmp .eq 8, 3) := by decide +kernel
theorem dX5_ahead_13 : decode cX5_ahead 13 = .ok (.iload_n 2, 1) := by decide +kernel
theorem dX5_ahead_14 : decode cX5_ahead 14 = .ok (.iconst 5, 1) := by decide +kernel
theorem dX5_ahead_15 : decode cX5_ahead 15 = .ok (.if_icmp .ne 13, 3) := by decide +kernel
theorem dX5_ahead_18 : decode cX5_ahead 18 = .ok (.iload_n 3, 1) := by decide +kernel
theorem dX5_ahead_19 : decode cX5_ahead 19 = .ok (.iconst 0, 1) := by decide +kernel
theorem dX5_ahead_20 : decode cX5_ahead 20 = .ok (.bipush 100, 2) := by decide +kernel
theorem dX5_ahead_22 : decode cX5_ahead 22 = .ok (.invokestatic 73, 3) := by decide +kernel
theorem dX5_ahead_25 : decode cX5_ahead 25 = .ok (.ifCond .ne 10, 3) := by decide +kernel
theorem dX5_ahead_28 : decode cX5_ahead 28 = .ok (.aload_n 0, 1) := by decide +kernel
theorem dX5_ahead_29 : decode cX5_ahead 29 = .ok (.ldc 63, 2) := by decide +kernel
theorem dX5_ahead_31 : decode cX5_ahead 31 = .ok (.invokevirtual 69, 3) := by decide +kernel
theorem dX5_ahead_34 : decode cX5_ahead 34 = .ok (.ireturn, 1) := by decide +kernel
theorem dX5_ahead_35 : decode cX5_ahead 35 = .ok (.aload_n 0, 1) := by decide +kernel
theorem dX5_ahead_36 : decode cX5_ahead 36 = .ok (.getfield 9, 3) := by decide +kernel
theorem dX5_ahead_39 : decode cX5_ahead 39 = .ok (.aload_n 0, 1) := by decide +kernel
theorem dX5_ahead_40 : decode cX5_ahead 40 = .ok (.getfield 16, 3) := by decide +kernel
theorem dX5_ahead_43 : decode cX5_ahead 43 = .ok (.invokestatic 64, 3) := by decide +kernel
theorem dX5_ahead_46 : decode cX5_ahead 46 = .ok (.aload_n 0, 1) := by decide +kernel
theorem dX5_ahead_47 : decode cX5_ahead 47 = .ok (.iload_n 3, 1) := by decide +kernel
theorem dX5_ahead_48 : decode cX5_ahead 48 = .ok (.invokevirtual 157, 3) := by decide +kernel
theorem dX5_ahead_51 : decode cX5_ahead 51 = .ok (.aload_n 0, 1) := by decide +kernel
theorem dX5_ahead_52 : decode cX5_ahead 52 = .ok (.aload_n 0, 1) := by decide +kernel
theorem dX5_ahead_53 : decode cX5_ahead 53 = .ok (.iload_n 1, 1) := by decide +kernel
theorem dX5_ahead_54 : decode cX5_ahead 54 = .ok (.iload_n 2, 1) := by decide +kernel
theorem dX5_ahead_55 : decode cX5_ahead 55 = .ok (.invokevirtual 114, 3) := by decide +kernel
theorem dX5_ahead_58 : decode cX5_ahead 58 = .ok (.invokevirtual 185, 3) := by decide +kernel
theorem dX5_ahead_61 : decode cX5_ahead 61 = .ok (.ireturn, 1) := by decide +kernel
theorem dX5_sum_0 : decode cX5_sum 0 = .ok (.iload_n 1, 1) := by decide +kernel
theorem dX5_sum_1 : decode cX5_sum 1 = .ok (.iconst 0, 1) := by decide +kernel
theorem dX5_sum_2 : decode cX5_sum 2 = .ok (.bipush 100, 2) := by decide +kernel
theorem dX5_sum_4 : decode cX5_sum 4 = .ok (.invokestatic 73, 3) := by decide +kernel
theorem dX5_sum_7 : decode cX5_sum 7 = .ok (.ifCond .ne 10, 3) := by decide +kernel
theorem dX5_sum_10 : decode cX5_sum 10 = .ok (.aload_n 0, 1) := by decide +kernel
theorem dX5_sum_11 : decode cX5_sum 11 = .ok (.ldc 63, 2) := by decide +kernel
theorem dX5_sum_13 : decode cX5_sum 13 = .ok (.invokevirtual 69, 3) := by decide +kernel
theorem dX5_sum_16 : decode cX5_sum 16 = .ok (.ireturn, 1) := by decide +kernel
theorem dX5_sum_17 : decode cX5_sum 17 = .ok (.aload_n 0, 1) := by decide +kernel
theorem dX5_sum_18 : decode cX5_sum 18 = .ok (.getfield 9, 3) := by decide +kernel
theorem dX5_sum_21 : decode cX5_sum 21 = .ok (.aload_n 0, 1) := by decide +kernel
theorem dX5_sum_22 : decode cX5_sum 22 = .ok (.getfield 16, 3) := by decide +kernel
theorem dX5_sum_25 : decode cX5_sum 25 = .ok (.invokestatic 64, 3) := by decide +kernel
theorem dX5_sum_28 : decode cX5_sum 28 = .ok (.aload_n 0, 1) := by decide +kernel
theorem dX5_sum_29 : decode cX5_sum 29 = .ok (.iload_n 1, 1) := by decide +kernel
theorem dX5_sum_30 : decode cX5_sum 30 = .ok (.invokevirtual 157, 3) := by decide +kernel
theorem dX5_sum_33 : decode cX5_sum 33 = .ok (.aload_n 0, 1) := by decide +kernel
theorem dX5_sum_34 : decode cX5_sum 34 = .ok (.aload_n 0, 1) := by decide +kernel
theorem dX5_sum_35 : decode cX5_sum 35 = .ok (.invokevirtual 142, 3) := by decide +kernel
theorem dX5_sum_38 : decode cX5_sum 38 = .ok (.invokevirtual 185, 3) := by decide +kernel
theorem dX5_sum_41 : decode cX5_sum 41 = .ok (.ireturn, 1) := by decide +kernel
theorem dX5_when_0 : decode cX5_when 0 = .ok (.iload_n 1, 1) := by decide +kernel
theorem dX5_when_1 : decode cX5_when 1 = .ok (.iconst 0, 1) := by decide +kernel
theorem dX5_when_2 : decode cX5_when 2 = .ok (.sipush 999, 3) := by decide +kernel
theorem dX5_when_5 : decode cX5_when 5 = .ok (.invokestatic 73, 3) := by decide +kernel
theorem dX5_when_8 : decode cX5_when 8 = .ok (.ifCond .ne 10, 3) := by decide +kernel
theorem dX5_when_11 : decode cX5_when 11 = .ok (.aload_n 0, 1) := by decide +kernel
theorem dX5_when_12 : decode cX5_when 12 = .ok (.ldc 63, 2) := by decide +kernel
theorem dX5_when_14 : decode cX5_when 14 = .ok (.invokevirtual 69, 3) := by decide +kernel
theorem dX5_when_17 : decode cX5_when 17 = .ok (.ireturn, 1) := by decide +kernel
theorem dX5_when_18 : decode cX5_when 18 = .ok (.aload_n 0, 1) := by decide +kernel
theorem dX5_when_19 : decode cX5_when 19 = .ok (.getfield 9, 3) := by decide +kernel
theorem dX5_when_22 : decode cX5_when 22 = .ok (.aload_n 0, 1) := by decide +kernel
theorem dX5_when_23 : decode cX5_when 23 = .ok (.getfield 16, 3) := by decide +kernel
theorem dX5_when_26 : decode cX5_when 26 = .ok (.invokestatic 64, 3) := by decide +kernel
theorem dX5_when_29 : decode cX5_when 29 = .ok (.iconst 0, 1) := by decide +kernel
theorem dX5_when_30 : decode cX5_when 30 = .ok (.istore_n 2, 1) := by decide +kernel
theorem dX5_when_31 : decode cX5_when 31 = .ok (.iload_n 2, 1) := by decide +kernel
theorem dX5_when_32 : decode cX5_when 32 = .ok (.sipush 200, 3) := by decide +kernel
theorem dX5_when_35 : decode cX5_when 35 = .ok (.if_icmp .ge 21, 3) := by decide +kernel
theorem dX5_when_38 : decode cX5_when 38 = .ok (.aload_n 0, 1) := by decide +kernel
theorem dX5_when_39 : decode cX5_when 39 = .ok (.invokevirtual 142, 3) := by decide +kernel
theorem dX5_when_42 : decode cX5_when 42 = .ok (.iload_n 1, 1) := by decide +kernel
theorem dX5_when_43 : decode cX5_when 43 = .ok (.if_icmp .le 13, 3) := by decide +kernel
theorem dX5_when_46 : decode cX5_when 46 = .ok (.aload_n 0, 1) := by decide +kernel
theorem dX5_when_47 : decode cX5_when 47 = .ok (.invokevirtual 153, 3) := by decide +kernel
theorem dX5_when_50 : decode cX5_when 50 = .ok (.iinc 2 1, 3) := by decide +kernel
theorem dX5_when_53 : decode cX5_when 53 = .ok (.goto (-22), 3) := by decide +kernel
theorem dX5_when_56 : decode cX5_when 56 = .ok (.aload_n 0, 1) := by decide +kernel
theorem dX5_when_57 : decode cX5_when 57 = .ok (.aload_n 0, 1) := by decide +kernel
theorem dX5_when_58 : decode cX5_when 58 = .ok (.aload_n 0, 1) := by decide +kernel
theorem dX5_when_59 : decode cX5_when 59 = .ok (.invokevirtual 142, 3) := by decide +kernel
theorem dX5_when_62 : decode cX5_when 62 = .ok (.iload_n 1, 1) := by decide +kernel
theorem dX5_when_63 : decode cX5_when 63 = .ok (.if_icmp .le 7, 3) := by decide +kernel
theorem dX5_when_66 : decode cX5_when 66 = .ok (.iconst (-1), 1) := by decide +kernel
theorem dX5_when_67 : decode cX5_when 67 = .ok (.goto 4, 3) := by decide +kernel
theorem dX5_when_70 : decode cX5_when 70 = .ok (.iload_n 2, 1) := by decide +kernel
theorem dX5_when_71 : decode cX5_when 71 = .ok (.invokevirtual 185, 3) := by decide +kernel
theorem dX5_when_74 : decode cX5_when 74 = .ok (.invokevirtual 188, 3) := by decide +kernel
theorem dX5_when_77 : decode cX5_when 77 = .ok (.ireturn, 1) := by decide +kernel
theorem dX5_comes_0 : decode cX5_comes 0 = .ok (.aload_n 0, 1) := by decide +kernel
theorem dX5_comes_1 : decode cX5_comes 1 = .ok (.iload_n 1, 1) := by decide +kernel
theorem dX5_comes_2 : decode cX5_comes 2 = .ok (.invokevirtual 111, 3) := by decide +kernel
theorem dX5_comes_5 : decode cX5_comes 5 = .ok (.ifCond .eq 10, 3) := by decide +kernel
theorem dX5_comes_8 : decode cX5_comes 8 = .ok (.iload_n 2, 1) := by decide +kernel
theorem dX5_comes_9 : decode cX5_comes 9 = .ok (.invokestatic 81, 3) := by decide +kernel
theorem dX5_comes_12 : decode cX5_comes 12 = .ok (.ifCond .ne 10, 3) := by decide +kernel
theorem dX5_comes_15 : decode cX5_comes 15 = .ok (.aload_n 0, 1) := by decide +kernel
theorem dX5_comes_16 : decode cX5_comes 16 = .ok (.ldc 63, 2) := by decide +kernel
theorem dX5_comes_18 : decode cX5_comes 18 = .ok (.invokevirtual 69, 3) := by decide +kernel
theorem dX5_comes_21 : decode cX5_comes 21 = .ok (.ireturn, 1) := by decide +kernel
theorem dX5_comes_22 : decode cX5_comes 22 = .ok (.aload_n 0, 1) := by decide +kernel
theorem dX5_comes_23 : decode cX5_comes 23 = .ok (.getfield 9, 3) := by decide +kernel
theorem dX5_comes_26 : decode cX5_comes 26 = .ok (.aload_n 0, 1) := by decide +kernel
theorem dX5_comes_27 : decode cX5_comes 27 = .ok (.getfield 16, 3) := by decide +kernel
theorem dX5_comes_30 : decode cX5_comes 30 = .ok (.invokestatic 64, 3) := by decide +kernel
theorem dX5_comes_33 : decode cX5_comes 33 = .ok (.iconst 0, 1) := by decide +kernel
theorem dX5_comes_34 : decode cX5_comes 34 = .ok (.istore_n 3, 1) := by decide +kernel
theorem dX5_comes_35 : decode cX5_comes 35 = .ok (.iload_n 3, 1) := by decide +kernel
theorem dX5_comes_36 : decode cX5_comes 36 = .ok (.sipush 200, 3) := by decide +kernel
theorem dX5_comes_39 : decode cX5_comes 39 = .ok (.if_icmp .ge 22, 3) := by decide +kernel
theorem dX5_comes_42 : decode cX5_comes 42 = .ok (.aload_n 0, 1) := by decide +kernel
theorem dX5_comes_43 : decode cX5_comes 43 = .ok (.iload_n 1, 1) := by decide +kernel
theorem dX5_comes_44 : decode cX5_comes 44 = .ok (.invokevirtual 105, 3) := by decide +kernel
theorem dX5_comes_47 : decode cX5_comes 47 = .ok (.iload_n 2, 1) := by decide +kernel
theorem dX5_comes_48 : decode cX5_comes 48 = .ok (.if_icmp .eq 13, 3) := by decide +kernel
theorem dX5_comes_51 : decode cX5_comes 51 = .ok (.aload_n 0, 1) := by decide +kernel
theorem dX5_comes_52 : decode cX5_comes 52 = .ok (.invokevirtual 153, 3) := by decide +kernel
theorem dX5_comes_55 : decode cX5_comes 55 = .ok (.iinc 3 1, 3) := by decide +kernel
theorem dX5_comes_58 : decode cX5_comes 58 = .ok (.goto (-23), 3) := by decide +kernel
theorem dX5_comes_61 : decode cX5_comes 61 = .ok (.aload_n 0, 1) := by decide +kernel
theorem dX5_comes_62 : decode cX5_comes 62 = .ok (.aload_n 0, 1) := by decide +kernel
theorem dX5_comes_63 : decode cX5_comes 63 = .ok (.aload_n 0, 1) := by decide +kernel
theorem dX5_comes_64 : decode cX5_comes 64 = .ok (.iload_n 1, 1) := by decide +kernel
theorem dX5_comes_65 : decode cX5_comes 65 = .ok (.invokevirtual 105, 3) := by decide +kernel
theorem dX5_comes_68 : decode cX5_comes 68 = .ok (.iload_n 2, 1) := by decide +kernel
theorem dX5_comes_69 : decode cX5_comes 69 = .ok (.if_icmp .ne 7, 3) := by decide +kernel
theorem dX5_comes_72 : decode cX5_comes 72 = .ok (.iload_n 3, 1) := by decide +kernel
theorem dX5_comes_73 : decode cX5_comes 73 = .ok (.goto 4, 3) := by decide +kernel
theorem dX5_comes_76 : decode cX5_comes 76 = .ok (.iconst (-1), 1) := by decide +kernel
theorem dX5_comes_77 : decode cX5_comes 77 = .ok (.invokevirtual 185, 3) := by decide +kernel
theorem dX5_comes_80 : decode cX5_comes 80 = .ok (.invokevirtual 188, 3) := by decide +kernel
theorem dX5_comes_83 : decode cX5_comes 83 = .ok (.ireturn, 1) := by decide +kernel
theorem dX5_granted_0 : decode cX5_granted 0 = .ok (.aload_n 0, 1) := by decide +kernel
theorem dX5_granted_1 : decode cX5_granted 1 = .ok (.iload_n 1, 1) := by decide +kernel
theorem dX5_granted_2 : decode cX5_granted 2 = .ok (.invokevirtual 111, 3) := by decide +kernel
theorem dX5_granted_5 : decode cX5_granted 5 = .ok (.ifCond .ne 10, 3) := by decide +kernel
theorem dX5_granted_8 : decode cX5_granted 8 = .ok (.aload_n 0, 1) := by decide +kernel
theorem dX5_granted_9 : decode cX5_granted 9 = .ok (.ldc 63, 2) := by decide +kernel
theorem dX5_granted_11 : decode cX5_granted 11 = .ok (.invokevirtual 69, 3) := by decide +kernel
theorem dX5_granted_14 : decode cX5_granted 14 = .ok (.ireturn, 1) := by decide +kernel
theorem dX5_granted_15 : decode cX5_granted 15 = .ok (.aload_n 0, 1) := by decide +kernel
theorem dX5_granted_16 : decode cX5_granted 16 = .ok (.getfield 9, 3) := by decide +kernel
theorem dX5_granted_19 : decode cX5_granted 19 = .ok (.aload_n 0, 1) := by decide +kernel
theorem dX5_granted_20 : decode cX5_granted 20 = .ok (.getfield 16, 3) := by decide +kernel
theorem dX5_granted_23 : decode cX5_granted 23 = .ok (.invokestatic 64, 3) := by decide +kernel
theorem dX5_granted_26 : decode cX5_granted 26 = .ok (.iconst 0, 1) := by decide +kernel
theorem dX5_granted_27 : decode cX5_granted 27 = .ok (.istore_n 2, 1) := by decide +kernel
theorem dX5_granted_28 : decode cX5_granted 28 = .ok (.iload_n 2, 1) := by decide +kernel
theorem dX5_granted_29 : decode cX5_granted 29 = .ok (.sipush 200, 3) := by decide +kernel
theorem dX5_granted_32 : decode cX5_granted 32 = .ok (.if_icmp .ge 21, 3) := by decide +kernel
theorem dX5_granted_35 : decode cX5_granted 35 = .ok (.aload_n 0, 1) := by decide +kernel
theorem dX5_granted_36 : decode cX5_granted 36 = .ok (.iload_n 1, 1) := by decide +kernel
theorem dX5_granted_37 : decode cX5_granted 37 = .ok (.invokevirtual 161, 3) := by decide +kernel
theorem dX5_granted_40 : decode cX5_granted 40 = .ok (.ifCond .ne 13, 3) := by decide +kernel
theorem dX5_granted_43 : decode cX5_granted 43 = .ok (.aload_n 0, 1) := by decide +kernel
theorem dX5_granted_44 : decode cX5_granted 44 = .ok (.invokevirtual 153, 3) := by decide +kernel
theorem dX5_granted_47 : decode cX5_granted 47 = .ok (.iinc 2 1, 3) := by decide +kernel
theorem dX5_granted_50 : decode cX5_granted 50 = .ok (.goto (-22), 3) := by decide +kernel
theorem dX5_granted_53 : decode cX5_granted 53 = .ok (.aload_n 0, 1) := by decide +kernel
theorem dX5_granted_54 : decode cX5_granted 54 = .ok (.aload_n 0, 1) := by decide +kernel
theorem dX5_granted_55 : decode cX5_granted 55 = .ok (.aload_n 0, 1) := by decide +kernel
theorem dX5_granted_56 : decode cX5_granted 56 = .ok (.iload_n 1, 1) := by decide +kernel
theorem dX5_granted_57 : decode cX5_granted 57 = .ok (.invokevirtual 161, 3) := by decide +kernel
theorem dX5_granted_60 : decode cX5_granted 60 = .ok (.ifCond .eq 7, 3) := by decide +kernel
theorem dX5_granted_63 : decode cX5_granted 63 = .ok (.iload_n 2, 1) := by decide +kernel
theorem dX5_granted_64 : decode cX5_granted 64 = .ok (.goto 4, 3) := by decide +kernel
theorem dX5_granted_67 : decode cX5_granted 67 = .ok (.iconst (-1), 1) := by decide +kernel
theorem dX5_granted_68 : decode cX5_granted 68 = .ok (.invokevirtual 185, 3) := by decide +kernel
theorem dX5_granted_71 : decode cX5_granted 71 = .ok (.invokevirtual 188, 3) := by decide +kernel
theorem dX5_granted_74 : decode cX5_granted 74 = .ok (.ireturn, 1) := by decide +kernel
theorem dX5_leastRest_0 : decode cX5_leastRest 0 = .ok (.iload_n 1, 1) := by decide +kernel
theorem dX5_leastRest_1 : decode cX5_leastRest 1 = .ok (.iconst 1, 1) := by decide +kernel
theorem dX5_leastRest_2 : decode cX5_leastRest 2 = .ok (.iload_n 2, 1) := by decide +kernel
theorem dX5_leastRest_3 : decode cX5_leastRest 3 = .ok (.ishl, 1) := by decide +kernel
theorem dX5_leastRest_4 : decode cX5_leastRest 4 = .ok (.iconst (-1), 1) := by decide +kernel
theorem dX5_leastRest_5 : decode cX5_leastRest 5 = .ok (.ixor, 1) := by decide +kernel
theorem dX5_leastRest_6 : decode cX5_leastRest 6 = .ok (.iand, 1) := by decide +kernel
theorem dX5_leastRest_7 : decode cX5_leastRest 7 = .ok (.istore_n 3, 1) := by decide +kernel
theorem dX5_leastRest_8 : decode cX5_leastRest 8 = .ok (.iload_n 3, 1) := by decide +kernel
theorem dX5_leastRest_9 : decode cX5_leastRest 9 = .ok (.ifCond .ne 10, 3) := by decide +kernel
theorem dX5_leastRest_12 : decode cX5_leastRest 12 = .ok (.aload_n 0, 1) := by decide +kernel
theorem dX5_leastRest_13 : decode cX5_leastRest 13 = .ok (.iload_n 2, 1) := by decide +kernel
theorem dX5_leastRest_14 : decode cX5_leastRest 14 = .ok (.iconst 1, 1) := by decide +kernel
theorem dX5_leastRest_15 : decode cX5_leastRest 15 = .ok (.invokevirtual 135, 3) := by decide +kernel
theorem dX5_leastRest_18 : decode cX5_leastRest 18 = .ok (.ireturn, 1) := by decide +kernel
theorem dX5_leastRest_19 : decode cX5_leastRest 19 = .ok (.ldc 191, 2) := by decide +kernel
theorem dX5_leastRest_21 : decode cX5_leastRest 21 = .ok (.istore 4, 2) := by decide +kernel
theorem dX5_leastRest_23 : decode cX5_leastRest 23 = .ok (.iconst 0, 1) := by decide +kernel
theorem dX5_leastRest_24 : decode cX5_leastRest 24 = .ok (.istore 5, 2) := by decide +kernel
theorem dX5_leastRest_26 : decode cX5_leastRest 26 = .ok (.iload 5, 2) := by decide +kernel
theorem dX5_leastRest_28 : decode cX5_leastRest 28 = .ok (.aload_n 0, 1) := by decide +kernel
theorem dX5_leastRest_29 : decode cX5_leastRest 29 = .ok (.getfield 9, 3) := by decide +kernel
theorem dX5_leastRest_32 : decode cX5_leastRest 32 = .ok (.iconst 1, 1) := by decide +kernel
theorem dX5_leastRest_33 : decode cX5_leastRest 33 = .ok (.iaload, 1) := by decide +kernel
theorem dX5_leastRest_34 : decode cX5_leastRest 34 = .ok (.if_icmp .ge 46, 3) := by decide +kernel
theorem dX5_leastRest_37 : decode cX5_leastRest 37 = .ok (.iload_n 3, 1) := by decide +kernel
theorem dX5_leastRest_38 : decode cX5_leastRest 38 = .ok (.iload 5, 2) := by decide +kernel
theorem dX5_leastRest_40 : decode cX5_leastRest 40 = .ok (.ishr, 1) := by decide +kernel
theorem dX5_leastRest_41 : decode cX5_leastRest 41 = .ok (.iconst 1, 1) := by decide +kernel
theorem dX5_leastRest_42 : decode cX5_leastRest 42 = .ok (.iand, 1) := by decide +kernel
theorem dX5_leastRest_43 : decode cX5_leastRest 43 = .ok (.iconst 1, 1) := by decide +kernel
theorem dX5_leastRest_44 : decode cX5_leastRest 44 = .ok (.if_icmp .ne 30, 3) := by decide +kernel
theorem dX5_leastRest_47 : decode cX5_leastRest 47 = .ok (.iload 4, 2) := by decide +kernel
theorem dX5_leastRest_49 : decode cX5_leastRest 49 = .ok (.aload_n 0, 1) := by decide +kernel
theorem dX5_leastRest_50 : decode cX5_leastRest 50 = .ok (.iload_n 2, 1) := by decide +kernel
theorem dX5_leastRest_51 : decode cX5_leastRest 51 = .ok (.iload 5, 2) := by decide +kernel
theorem dX5_leastRest_53 : decode cX5_leastRest 53 = .ok (.invokevirtual 132, 3) := by decide +kernel
theorem dX5_leastRest_56 : decode cX5_leastRest 56 = .ok (.aload_n 0, 1) := by decide +kernel
theorem dX5_leastRest_57 : decode cX5_leastRest 57 = .ok (.getfield 22, 3) := by decide +kernel
theorem dX5_leastRest_60 : decode cX5_leastRest 60 = .ok (.bipush 8, 2) := by decide +kernel
theorem dX5_leastRest_62 : decode cX5_leastRest 62 = .ok (.iload_n 3, 1) := by decide +kernel
theorem dX5_leastRest_63 : decode cX5_leastRest 63 = .ok (.imul, 1) := by decide +kernel
theorem dX5_leastRest_64 : decode cX5_leastRest 64 = .ok (.iload 5, 2) := by decide +kernel
theorem dX5_leastRest_66 : decode cX5_leastRest 66 = .ok (.iadd, 1) := by decide +kernel
theorem dX5_leastRest_67 : decode cX5_leastRest 67 = .ok (.iaload, 1) := by decide +kernel
theorem dX5_leastRest_68 : decode cX5_leastRest 68 = .ok (.iadd, 1) := by decide +kernel
theorem dX5_leastRest_69 : decode cX5_leastRest 69 = .ok (.invokestatic 150, 3) := by decide +kernel
theorem dX5_leastRest_72 : decode cX5_leastRest 72 = .ok (.istore 4, 2) := by decide +kernel
theorem dX5_leastRest_74 : decode cX5_leastRest 74 = .ok (.iinc 5 1, 3) := by decide +kernel
theorem dX5_leastRest_77 : decode cX5_leastRest 77 = .ok (.goto (-51), 3) := by decide +kernel
theorem dX5_leastRest_80 : decode cX5_leastRest 80 = .ok (.iload 4, 2) := by decide +kernel
theorem dX5_leastRest_82 : decode cX5_leastRest 82 = .ok (.ireturn, 1) := by decide +kernel
theorem dX5_isTabled_0 : decode cX5_isTabled 0 = .ok (.iconst 1, 1) := by decide +kernel
theorem dX5_isTabled_1 : decode cX5_isTabled 1 = .ok (.istore_n 1, 1) := by decide +kernel
theorem dX5_isTabled_2 : decode cX5_isTabled 2 = .ok (.iload_n 1, 1) := by decide +kernel
theorem dX5_isTabled_3 : decode cX5_isTabled 3 = .ok (.iconst 1, 1) := by decide +kernel
theorem dX5_isTabled_4 : decode cX5_isTabled 4 = .ok (.aload_n 0, 1) := by decide +kernel
theorem dX5_isTabled_5 : decode cX5_isTabled 5 = .ok (.getfield 9, 3) := by decide +kernel
theorem dX5_isTabled_8 : decode cX5_isTabled 8 = .ok (.iconst 1, 1) := by decide +kernel
theorem dX5_isTabled_9 : decode cX5_isTabled 9 = .ok (.iaload, 1) := by decide +kernel
theorem dX5_isTabled_10 : decode cX5_isTabled 10 = .ok (.ishl, 1) := by decide +kernel
theorem dX5_isTabled_11 : decode cX5_isTabled 11 = .ok (.if_icmp .ge 53, 3) := by decide +kernel
theorem dX5_isTabled_14 : decode cX5_isTabled 14 = .ok (.iconst 0, 1) := by decide +kernel
theorem dX5_isTabled_15 : decode cX5_isTabled 15 = .ok (.istore_n 2, 1) := by decide +kernel
theorem dX5_isTabled_16 : decode cX5_isTabled 16 = .ok (.iload_n 2, 1) := by decide +kernel
theorem dX5_isTabled_17 : decode cX5_isTabled 17 = .ok (.aload_n 0, 1) := by decide +kernel
theorem dX5_isTabled_18 : decode cX5_isTabled 18 = .ok (.getfield 9, 3) := by decide +kernel
theorem dX5_isTabled_21 : decode cX5_isTabled 21 = .ok (.iconst 1, 1) := by decide +kernel
theorem dX5_isTabled_22 : decode cX5_isTabled 22 = .ok (.iaload, 1) := by decide +kernel
theorem dX5_isTabled_23 : decode cX5_isTabled 23 = .ok (.if_icmp .ge 35, 3) := by decide +kernel
theorem dX5_isTabled_26 : decode cX5_isTabled 26 = .ok (.iload_n 1, 1) := by decide +kernel
theorem dX5_isTabled_27 : decode cX5_isTabled 27 = .ok (.iload_n 2, 1) := by decide +kernel
theorem dX5_isTabled_28 : decode cX5_isTabled 28 = .ok (.ishr, 1) := by decide +kernel
theorem dX5_isTabled_29 : decode cX5_isTabled 29 = .ok (.iconst 1, 1) := by decide +kernel
theorem dX5_isTabled_30 : decode cX5_isTabled 30 = .ok (.iand, 1) := by decide +kernel
theorem dX5_isTabled_31 : decode cX5_isTabled 31 = .ok (.iconst 1, 1) := by decide +kernel
theorem dX5_isTabled_32 : decode cX5_isTabled 32 = .ok (.if_icmp .ne 20, 3) := by decide +kernel
theorem dX5_isTabled_35 : decode cX5_isTabled 35 = .ok (.aload_n 0, 1) := by decide +kernel
theorem dX5_isTabled_36 : decode cX5_isTabled 36 = .ok (.getfield 22, 3) := by decide +kernel
theorem dX5_isTabled_39 : decode cX5_isTabled 39 = .ok (.bipush 8, 2) := by decide +kernel
theorem dX5_isTabled_41 : decode cX5_isTabled 41 = .ok (.iload_n 1, 1) := by decide +kernel
theorem dX5_isTabled_42 : decode cX5_isTabled 42 = .ok (.imul, 1) := by decide +kernel
theorem dX5_isTabled_43 : decode cX5_isTabled 43 = .ok (.iload_n 2, 1) := by decide +kernel
theorem dX5_isTabled_44 : decode cX5_isTabled 44 = .ok (.iadd, 1) := by decide +kernel
theorem dX5_isTabled_45 : decode cX5_isTabled 45 = .ok (.aload_n 0, 1) := by decide +kernel
theorem dX5_isTabled_46 : decode cX5_isTabled 46 = .ok (.iload_n 1, 1) := by decide +kernel
theorem dX5_isTabled_47 : decode cX5_isTabled 47 = .ok (.iload_n 2, 1) := by decide +kernel
theorem dX5_isTabled_48 : decode cX5_isTabled 48 = .ok (.invokevirtual 192, 3) := by decide +kernel
theorem dX5_isTabled_51 : decode cX5_isTabled 51 = .ok (.iastore, 1) := by decide +kernel
theorem dX5_isTabled_52 : decode cX5_isTabled 52 = .ok (.iinc 2 1, 3) := by decide +kernel
theorem dX5_isTabled_55 : decode cX5_isTabled 55 = .ok (.goto (-39), 3) := by decide +kernel
theorem dX5_isTabled_58 : decode cX5_isTabled 58 = .ok (.iinc 1 1, 3) := by decide +kernel
theorem dX5_isTabled_61 : decode cX5_isTabled 61 = .ok (.goto (-59), 3) := by decide +kernel
theorem dX5_isTabled_64 : decode cX5_isTabled 64 = .ok (.return_, 1) := by decide +kernel
theorem dX5_bestNext_0 : decode cX5_bestNext 0 = .ok (.iconst (-1), 1) := by decide +kernel
theorem dX5_bestNext_1 : decode cX5_bestNext 1 = .ok (.istore_n 3, 1) := by decide +kernel
theorem dX5_bestNext_2 : decode cX5_bestNext 2 = .ok (.ldc 191, 2) := by decide +kernel
theorem dX5_bestNext_4 : decode cX5_bestNext 4 = .ok (.istore 4, 2) := by decide +kernel
theorem dX5_bestNext_6 : decode cX5_bestNext 6 = .ok (.iconst 0, 1) := by decide +kernel
theorem dX5_bestNext_7 : decode cX5_bestNext 7 = .ok (.istore 5, 2) := by decide +kernel
theorem dX5_bestNext_9 : decode cX5_bestNext 9 = .ok (.iload 5, 2) := by decide +kernel
theorem dX5_bestNext_11 : decode cX5_bestNext 11 = .ok (.aload_n 0, 1) := by decide +kernel
theorem dX5_bestNext_12 : decode cX5_bestNext 12 = .ok (.getfield 9, 3) := by decide +kernel
theorem dX5_bestNext_15 : decode cX5_bestNext 15 = .ok (.iconst 1, 1) := by decide +kernel
theorem dX5_bestNext_16 : decode cX5_bestNext 16 = .ok (.iaload, 1) := by decide +kernel
theorem dX5_bestNext_17 : decode cX5_bestNext 17 = .ok (.if_icmp .ge 69, 3) := by decide +kernel
theorem dX5_bestNext_20 : decode cX5_bestNext 20 = .ok (.iload_n 1, 1) := by decide +kernel
theorem dX5_bestNext_21 : decode cX5_bestNext 21 = .ok (.iload 5, 2) := by decide +kernel
theorem dX5_bestNext_23 : decode cX5_bestNext 23 = .ok (.ishr, 1) := by decide +kernel
theorem dX5_bestNext_24 : decode cX5_bestNext 24 = .ok (.iconst 1, 1) := by decide +kernel
theorem dX5_bestNext_25 : decode cX5_bestNext 25 = .ok (.iand, 1) := by decide +kernel
theorem dX5_bestNext_26 : decode cX5_bestNext 26 = .ok (.iconst 1, 1) := by decide +kernel
theorem dX5_bestNext_27 : decode cX5_bestNext 27 = .ok (.if_icmp .ne 53, 3) := by decide +kernel
theorem dX5_bestNext_30 : decode cX5_bestNext 30 = .ok (.aload_n 0, 1) := by decide +kernel
theorem dX5_bestNext_31 : decode cX5_bestNext 31 = .ok (.getfield 22, 3) := by decide +kernel
theorem dX5_bestNext_34 : decode cX5_bestNext 34 = .ok (.bipush 8, 2) := by decide +kernel
theorem dX5_bestNext_36 : decode cX5_bestNext 36 = .ok (.iload_n 1, 1) := by decide +kernel
theorem dX5_bestNext_37 : decode cX5_bestNext 37 = .ok (.imul, 1) := by decide +kernel
theorem dX5_bestNext_38 : decode cX5_bestNext 38 = .ok (.iload 5, 2) := by decide +kernel
theorem dX5_bestNext_40 : decode cX5_bestNext 40 = .ok (.iadd, 1) := by decide +kernel
theorem dX5_bestNext_41 : decode cX5_bestNext 41 = .ok (.iaload, 1) := by decide +kernel
theorem dX5_bestNext_42 : decode cX5_bestNext 42 = .ok (.iload_n 2, 1) := by decide +kernel
theorem dX5_bestNext_43 : decode cX5_bestNext 43 = .ok (.ifCond .ge 13, 3) := by decide +kernel
theorem dX5_bestNext_46 : decode cX5_bestNext 46 = .ok (.aload_n 0, 1) := by decide +kernel
theorem dX5_bestNext_47 : decode cX5_bestNext 47 = .ok (.iload 5, 2) := by decide +kernel
theorem dX5_bestNext_49 : decode cX5_bestNext 49 = .ok (.iconst 0, 1) := by decide +kernel
theorem dX5_bestNext_50 : decode cX5_bestNext 50 = .ok (.invokevirtual 135, 3) := by decide +kernel
theorem dX5_bestNext_53 : decode cX5_bestNext 53 = .ok (.goto 10, 3) := by decide +kernel
theorem dX5_bestNext_56 : decode cX5_bestNext 56 = .ok (.aload_n 0, 1) := by decide +kernel
theorem dX5_bestNext_57 : decode cX5_bestNext 57 = .ok (.iload_n 2, 1) := by decide +kernel
theorem dX5_bestNext_58 : decode cX5_bestNext 58 = .ok (.iload 5, 2) := by decide +kernel
theorem dX5_bestNext_60 : decode cX5_bestNext 60 = .ok (.invokevirtual 132, 3) := by decide +kernel
theorem dX5_bestNext_63 : decode cX5_bestNext 63 = .ok (.iadd, 1) := by decide +kernel
theorem dX5_bestNext_64 : decode cX5_bestNext 64 = .ok (.istore 6, 2) := by decide +kernel
theorem dX5_bestNext_66 : decode cX5_bestNext 66 = .ok (.iload 6, 2) := by decide +kernel
theorem dX5_bestNext_68 : decode cX5_bestNext 68 = .ok (.iload 4, 2) := by decide +kernel
theorem dX5_bestNext_70 : decode cX5_bestNext 70 = .ok (.if_icmp .ge 10, 3) := by decide +kernel
theorem dX5_bestNext_73 : decode cX5_bestNext 73 = .ok (.iload 5, 2) := by decide +kernel
theorem dX5_bestNext_75 : decode cX5_bestNext 75 = .ok (.istore_n 3, 1) := by decide +kernel
theorem dX5_bestNext_76 : decode cX5_bestNext 76 = .ok (.iload 6, 2) := by decide +kernel
theorem dX5_bestNext_78 : decode cX5_bestNext 78 = .ok (.istore 4, 2) := by decide +kernel
theorem dX5_bestNext_80 : decode cX5_bestNext 80 = .ok (.iinc 5 1, 3) := by decide +kernel
theorem dX5_bestNext_83 : decode cX5_bestNext 83 = .ok (.goto (-74), 3) := by decide +kernel
theorem dX5_bestNext_86 : decode cX5_bestNext 86 = .ok (.iload_n 3, 1) := by decide +kernel
theorem dX5_bestNext_87 : decode cX5_bestNext 87 = .ok (.ireturn, 1) := by decide +kernel
theorem dX5_everything_0 : decode cX5_everything 0 = .ok (.iconst 1, 1) := by decide +kernel
theorem dX5_everything_1 : decode cX5_everything 1 = .ok (.aload_n 0, 1) := by decide +kernel
theorem dX5_everything_2 : decode cX5_everything 2 = .ok (.getfield 9, 3) := by decide +kernel
theorem dX5_everything_5 : decode cX5_everything 5 = .ok (.iconst 1, 1) := by decide +kernel
theorem dX5_everything_6 : decode cX5_everything 6 = .ok (.iaload, 1) := by decide +kernel
theorem dX5_everything_7 : decode cX5_everything 7 = .ok (.ishl, 1) := by decide +kernel
theorem dX5_everything_8 : decode cX5_everything 8 = .ok (.iconst 1, 1) := by decide +kernel
theorem dX5_everything_9 : decode cX5_everything 9 = .ok (.isub, 1) := by decide +kernel
theorem dX5_everything_10 : decode cX5_everything 10 = .ok (.ireturn, 1) := by decide +kernel
theorem dX5_bestSum_0 : decode cX5_bestSum 0 = .ok (.aload_n 0, 1) := by decide +kernel
theorem dX5_bestSum_1 : decode cX5_bestSum 1 = .ok (.getfield 9, 3) := by decide +kernel
theorem dX5_bestSum_4 : decode cX5_bestSum 4 = .ok (.iconst 1, 1) := by decide +kernel
theorem dX5_bestSum_5 : decode cX5_bestSum 5 = .ok (.iaload, 1) := by decide +kernel
theorem dX5_bestSum_6 : decode cX5_bestSum 6 = .ok (.ifCond .ne 5, 3) := by decide +kernel
theorem dX5_bestSum_9 : decode cX5_bestSum 9 = .ok (.iconst 0, 1) := by decide +kernel
theorem dX5_bestSum_10 : decode cX5_bestSum 10 = .ok (.ireturn, 1) := by decide +kernel
theorem dX5_bestSum_11 : decode cX5_bestSum 11 = .ok (.aload_n 0, 1) := by decide +kernel
theorem dX5_bestSum_12 : decode cX5_bestSum 12 = .ok (.invokevirtual 195, 3) := by decide +kernel
theorem dX5_bestSum_15 : decode cX5_bestSum 15 = .ok (.aload_n 0, 1) := by decide +kernel
theorem dX5_bestSum_16 : decode cX5_bestSum 16 = .ok (.aload_n 0, 1) := by decide +kernel
theorem dX5_bestSum_17 : decode cX5_bestSum 17 = .ok (.invokevirtual 198, 3) := by decide +kernel
theorem dX5_bestSum_20 : decode cX5_bestSum 20 = .ok (.iconst (-1), 1) := by decide +kernel
theorem dX5_bestSum_21 : decode cX5_bestSum 21 = .ok (.invokevirtual 201, 3) := by decide +kernel
theorem dX5_bestSum_24 : decode cX5_bestSum 24 = .ok (.istore_n 1, 1) := by decide +kernel
theorem dX5_bestSum_25 : decode cX5_bestSum 25 = .ok (.aload_n 0, 1) := by decide +kernel
theorem dX5_bestSum_26 : decode cX5_bestSum 26 = .ok (.iload_n 1, 1) := by decide +kernel
theorem dX5_bestSum_27 : decode cX5_bestSum 27 = .ok (.iconst 0, 1) := by decide +kernel
theorem dX5_bestSum_28 : decode cX5_bestSum 28 = .ok (.invokevirtual 135, 3) := by decide +kernel
theorem dX5_bestSum_31 : decode cX5_bestSum 31 = .ok (.aload_n 0, 1) := by decide +kernel
theorem dX5_bestSum_32 : decode cX5_bestSum 32 = .ok (.getfield 22, 3) := by decide +kernel
theorem dX5_bestSum_35 : decode cX5_bestSum 35 = .ok (.bipush 8, 2) := by decide +kernel
theorem dX5_bestSum_37 : decode cX5_bestSum 37 = .ok (.aload_n 0, 1) := by decide +kernel
theorem dX5_bestSum_38 : decode cX5_bestSum 38 = .ok (.invokevirtual 198, 3) := by decide +kernel
theorem dX5_bestSum_41 : decode cX5_bestSum 41 = .ok (.imul, 1) := by decide +kernel
theorem dX5_bestSum_42 : decode cX5_bestSum 42 = .ok (.iload_n 1, 1) := by decide +kernel
theorem dX5_bestSum_43 : decode cX5_bestSum 43 = .ok (.iadd, 1) := by decide +kernel
theorem dX5_bestSum_44 : decode cX5_bestSum 44 = .ok (.iaload, 1) := by decide +kernel
theorem dX5_bestSum_45 : decode cX5_bestSum 45 = .ok (.iadd, 1) := by decide +kernel
theorem dX5_bestSum_46 : decode cX5_bestSum 46 = .ok (.ireturn, 1) := by decide +kernel
theorem dX5_best_0 : decode cX5_best 0 = .ok (.aload_n 0, 1) := by decide +kernel
theorem dX5_best_1 : decode cX5_best 1 = .ok (.invokevirtual 179, 3) := by decide +kernel
theorem dX5_best_4 : decode cX5_best 4 = .ok (.ireturn, 1) := by decide +kernel
theorem dX5_bestAt_0 : decode cX5_bestAt 0 = .ok (.aload_n 0, 1) := by decide +kernel
theorem dX5_bestAt_1 : decode cX5_bestAt 1 = .ok (.iload_n 1, 1) := by decide +kernel
theorem dX5_bestAt_2 : decode cX5_bestAt 2 = .ok (.invokevirtual 111, 3) := by decide +kernel
theorem dX5_bestAt_5 : decode cX5_bestAt 5 = .ok (.ifCond .ne 10, 3) := by decide +kernel
theorem dX5_bestAt_8 : decode cX5_bestAt 8 = .ok (.aload_n 0, 1) := by decide +kernel
theorem dX5_bestAt_9 : decode cX5_bestAt 9 = .ok (.ldc 63, 2) := by decide +kernel
theorem dX5_bestAt_11 : decode cX5_bestAt 11 = .ok (.invokevirtual 69, 3) := by decide +kernel
theorem dX5_bestAt_14 : decode cX5_bestAt 14 = .ok (.ireturn, 1) := by decide +kernel
theorem dX5_bestAt_15 : decode cX5_bestAt 15 = .ok (.aload_n 0, 1) := by decide +kernel
theorem dX5_bestAt_16 : decode cX5_bestAt 16 = .ok (.invokevirtual 195, 3) := by decide +kernel
theorem dX5_bestAt_19 : decode cX5_bestAt 19 = .ok (.aload_n 0, 1) := by decide +kernel
theorem dX5_bestAt_20 : decode cX5_bestAt 20 = .ok (.invokevirtual 198, 3) := by decide +kernel
theorem dX5_bestAt_23 : decode cX5_bestAt 23 = .ok (.istore_n 2, 1) := by decide +kernel
theorem dX5_bestAt_24 : decode cX5_bestAt 24 = .ok (.iconst (-1), 1) := by decide +kernel
theorem dX5_bestAt_25 : decode cX5_bestAt 25 = .ok (.istore_n 3, 1) := by decide +kernel
theorem dX5_bestAt_26 : decode cX5_bestAt 26 = .ok (.iconst 0, 1) := by decide +kernel
theorem dX5_bestAt_27 : decode cX5_bestAt 27 = .ok (.istore 4, 2) := by decide +kernel
theorem dX5_bestAt_29 : decode cX5_bestAt 29 = .ok (.iload 4, 2) := by decide +kernel
theorem dX5_bestAt_31 : decode cX5_bestAt 31 = .ok (.iload_n 1, 1) := by decide +kernel
theorem dX5_bestAt_32 : decode cX5_bestAt 32 = .ok (.if_icmp .gt 24, 3) := by decide +kernel
theorem dX5_bestAt_35 : decode cX5_bestAt 35 = .ok (.aload_n 0, 1) := by decide +kernel
theorem dX5_bestAt_36 : decode cX5_bestAt 36 = .ok (.iload_n 2, 1) := by decide +kernel
theorem dX5_bestAt_37 : decode cX5_bestAt 37 = .ok (.iload_n 3, 1) := by decide +kernel
theorem dX5_bestAt_38 : decode cX5_bestAt 38 = .ok (.invokevirtual 201, 3) := by decide +kernel
theorem dX5_bestAt_41 : decode cX5_bestAt 41 = .ok (.istore_n 3, 1) := by decide +kernel
theorem dX5_bestAt_42 : decode cX5_bestAt 42 = .ok (.iload_n 2, 1) := by decide +kernel
theorem dX5_bestAt_43 : decode cX5_bestAt 43 = .ok (.iconst 1, 1) := by decide +kernel
theorem dX5_bestAt_44 : decode cX5_bestAt 44 = .ok (.iload_n 3, 1) := by decide +kernel
theorem dX5_bestAt_45 : decode cX5_bestAt 45 = .ok (.ishl, 1) := by decide +kernel
theorem dX5_bestAt_46 : decode cX5_bestAt 46 = .ok (.iconst (-1), 1) := by decide +kernel
theorem dX5_bestAt_47 : decode cX5_bestAt 47 = .ok (.ixor, 1) := by decide +kernel
theorem dX5_bestAt_48 : decode cX5_bestAt 48 = .ok (.iand, 1) := by decide +kernel
theorem dX5_bestAt_49 : decode cX5_bestAt 49 = .ok (.istore_n 2, 1) := by decide +kernel
theorem dX5_bestAt_50 : decode cX5_bestAt 50 = .ok (.iinc 4 1, 3) := by decide +kernel
theorem dX5_bestAt_53 : decode cX5_bestAt 53 = .ok (.goto (-24), 3) := by decide +kernel
theorem dX5_bestAt_56 : decode cX5_bestAt 56 = .ok (.iload_n 3, 1) := by decide +kernel
theorem dX5_bestAt_57 : decode cX5_bestAt 57 = .ok (.ireturn, 1) := by decide +kernel
theorem dX5_betterSwap_0 : decode cX5_betterSwap 0 = .ok (.aload_n 0, 1) := by decide +kernel
theorem dX5_betterSwap_1 : decode cX5_betterSwap 1 = .ok (.invokevirtual 142, 3) := by decide +kernel
theorem dX5_betterSwap_4 : decode cX5_betterSwap 4 = .ok (.istore_n 1, 1) := by decide +kernel
theorem dX5_betterSwap_5 : decode cX5_betterSwap 5 = .ok (.iconst (-1), 1) := by decide +kernel
theorem dX5_betterSwap_6 : decode cX5_betterSwap 6 = .ok (.istore_n 2, 1) := by decide +kernel
theorem dX5_betterSwap_7 : decode cX5_betterSwap 7 = .ok (.iconst 0, 1) := by decide +kernel
theorem dX5_betterSwap_8 : decode cX5_betterSwap 8 = .ok (.istore_n 3, 1) := by decide +kernel
theorem dX5_betterSwap_9 : decode cX5_betterSwap 9 = .ok (.iload_n 3, 1) := by decide +kernel
theorem dX5_betterSwap_10 : decode cX5_betterSwap 10 = .ok (.aload_n 0, 1) := by decide +kernel
theorem dX5_betterSwap_11 : decode cX5_betterSwap 11 = .ok (.getfield 9, 3) := by decide +kernel
theorem dX5_betterSwap_14 : decode cX5_betterSwap 14 = .ok (.iconst 1, 1) := by decide +kernel
theorem dX5_betterSwap_15 : decode cX5_betterSwap 15 = .ok (.iaload, 1) := by decide +kernel
theorem dX5_betterSwap_16 : decode cX5_betterSwap 16 = .ok (.if_icmp .ge 68, 3) := by decide +kernel
theorem dX5_betterSwap_19 : decode cX5_betterSwap 19 = .ok (.iload_n 3, 1) := by decide +kernel
theorem dX5_betterSwap_20 : decode cX5_betterSwap 20 = .ok (.iconst 1, 1) := by decide +kernel
theorem dX5_betterSwap_21 : decode cX5_betterSwap 21 = .ok (.iadd, 1) := by decide +kernel
theorem dX5_betterSwap_22 : decode cX5_betterSwap 22 = .ok (.istore 4, 2) := by decide +kernel
theorem dX5_betterSwap_24 : decode cX5_betterSwap 24 = .ok (.iload 4, 2) := by decide +kernel
theorem dX5_betterSwap_26 : decode cX5_betterSwap 26 = .ok (.aload_n 0, 1) := by decide +kernel
theorem dX5_betterSwap_27 : decode cX5_betterSwap 27 = .ok (.getfield 9, 3) := by decide +kernel
theorem dX5_betterSwap_30 : decode cX5_betterSwap 30 = .ok (.iconst 1, 1) := by decide +kernel
theorem dX5_betterSwap_31 : decode cX5_betterSwap 31 = .ok (.iaload, 1) := by decide +kernel
theorem dX5_betterSwap_32 : decode cX5_betterSwap 32 = .ok (.if_icmp .ge 46, 3) := by decide +kernel
theorem dX5_betterSwap_35 : decode cX5_betterSwap 35 = .ok (.aload_n 0, 1) := by decide +kernel
theorem dX5_betterSwap_36 : decode cX5_betterSwap 36 = .ok (.iload_n 3, 1) := by decide +kernel
theorem dX5_betterSwap_37 : decode cX5_betterSwap 37 = .ok (.iload 4, 2) := by decide +kernel
theorem dX5_betterSwap_39 : decode cX5_betterSwap 39 = .ok (.invokevirtual 138, 3) := by decide +kernel
theorem dX5_betterSwap_42 : decode cX5_betterSwap 42 = .ok (.aload_n 0, 1) := by decide +kernel
theorem dX5_betterSwap_43 : decode cX5_betterSwap 43 = .ok (.invokevirtual 142, 3) := by decide +kernel
theorem dX5_betterSwap_46 : decode cX5_betterSwap 46 = .ok (.istore 5, 2) := by decide +kernel
theorem dX5_betterSwap_48 : decode cX5_betterSwap 48 = .ok (.aload_n 0, 1) := by decide +kernel
theorem dX5_betterSwap_49 : decode cX5_betterSwap 49 = .ok (.iload_n 3, 1) := by decide +kernel
theorem dX5_betterSwap_50 : decode cX5_betterSwap 50 = .ok (.iload 4, 2) := by decide +kernel
theorem dX5_betterSwap_52 : decode cX5_betterSwap 52 = .ok (.invokevirtual 138, 3) := by decide +kernel
theorem dX5_betterSwap_55 : decode cX5_betterSwap 55 = .ok (.iload 5, 2) := by decide +kernel
theorem dX5_betterSwap_57 : decode cX5_betterSwap 57 = .ok (.iload_n 1, 1) := by decide +kernel
theorem dX5_betterSwap_58 : decode cX5_betterSwap 58 = .ok (.if_icmp .ge 14, 3) := by decide +kernel
theorem dX5_betterSwap_61 : decode cX5_betterSwap 61 = .ok (.bipush 8, 2) := by decide +kernel
theorem dX5_betterSwap_63 : decode cX5_betterSwap 63 = .ok (.iload_n 3, 1) := by decide +kernel
theorem dX5_betterSwap_64 : decode cX5_betterSwap 64 = .ok (.imul, 1) := by decide +kernel
theorem dX5_betterSwap_65 : decode cX5_betterSwap 65 = .ok (.iload 4, 2) := by decide +kernel
theorem dX5_betterSwap_67 : decode cX5_betterSwap 67 = .ok (.iadd, 1) := by decide +kernel
theorem dX5_betterSwap_68 : decode cX5_betterSwap 68 = .ok (.istore_n 2, 1) := by decide +kernel
theorem dX5_betterSwap_69 : decode cX5_betterSwap 69 = .ok (.iload 5, 2) := by decide +kernel
theorem dX5_betterSwap_71 : decode cX5_betterSwap 71 = .ok (.istore_n 1, 1) := by decide +kernel
theorem dX5_betterSwap_72 : decode cX5_betterSwap 72 = .ok (.iinc 4 1, 3) := by decide +kernel
theorem dX5_betterSwap_75 : decode cX5_betterSwap 75 = .ok (.goto (-51), 3) := by decide +kernel
theorem dX5_betterSwap_78 : decode cX5_betterSwap 78 = .ok (.iinc 3 1, 3) := by decide +kernel
theorem dX5_betterSwap_81 : decode cX5_betterSwap 81 = .ok (.goto (-72), 3) := by decide +kernel
theorem dX5_betterSwap_84 : decode cX5_betterSwap 84 = .ok (.iload_n 2, 1) := by decide +kernel
theorem dX5_betterSwap_85 : decode cX5_betterSwap 85 = .ok (.ireturn, 1) := by decide +kernel
theorem dX5_settle_0 : decode cX5_settle 0 = .ok (.iconst 0, 1) := by decide +kernel
theorem dX5_settle_1 : decode cX5_settle 1 = .ok (.istore_n 1, 1) := by decide +kernel
theorem dX5_settle_2 : decode cX5_settle 2 = .ok (.aload_n 0, 1) := by decide +kernel
theorem dX5_settle_3 : decode cX5_settle 3 = .ok (.invokevirtual 182, 3) := by decide +kernel
theorem dX5_settle_6 : decode cX5_settle 6 = .ok (.istore_n 2, 1) := by decide +kernel
theorem dX5_settle_7 : decode cX5_settle 7 = .ok (.iload_n 2, 1) := by decide +kernel
theorem dX5_settle_8 : decode cX5_settle 8 = .ok (.ifCond .lt 26, 3) := by decide +kernel
theorem dX5_settle_11 : decode cX5_settle 11 = .ok (.aload_n 0, 1) := by decide +kernel
theorem dX5_settle_12 : decode cX5_settle 12 = .ok (.iload_n 2, 1) := by decide +kernel
theorem dX5_settle_13 : decode cX5_settle 13 = .ok (.bipush 8, 2) := by decide +kernel
theorem dX5_settle_15 : decode cX5_settle 15 = .ok (.idiv, 1) := by decide +kernel
theorem dX5_settle_16 : decode cX5_settle 16 = .ok (.iload_n 2, 1) := by decide +kernel
theorem dX5_settle_17 : decode cX5_settle 17 = .ok (.bipush 8, 2) := by decide +kernel
theorem dX5_settle_19 : decode cX5_settle 19 = .ok (.irem, 1) := by decide +kernel
theorem dX5_settle_20 : decode cX5_settle 20 = .ok (.invokevirtual 138, 3) := by decide +kernel
theorem dX5_settle_23 : decode cX5_settle 23 = .ok (.iinc 1 1, 3) := by decide +kernel
theorem dX5_settle_26 : decode cX5_settle 26 = .ok (.aload_n 0, 1) := by decide +kernel
theorem dX5_settle_27 : decode cX5_settle 27 = .ok (.invokevirtual 182, 3) := by decide +kernel
theorem dX5_settle_30 : decode cX5_settle 30 = .ok (.istore_n 2, 1) := by decide +kernel
theorem dX5_settle_31 : decode cX5_settle 31 = .ok (.goto (-24), 3) := by decide +kernel
theorem dX5_settle_34 : decode cX5_settle 34 = .ok (.iload_n 1, 1) := by decide +kernel
theorem dX5_settle_35 : decode cX5_settle 35 = .ok (.ireturn, 1) := by decide +kernel
theorem dX5_cheapest_0 : decode cX5_cheapest 0 = .ok (.aload_n 0, 1) := by decide +kernel
theorem dX5_cheapest_1 : decode cX5_cheapest 1 = .ok (.getfield 9, 3) := by decide +kernel
theorem dX5_cheapest_4 : decode cX5_cheapest 4 = .ok (.iload_n 1, 1) := by decide +kernel
theorem dX5_cheapest_5 : decode cX5_cheapest 5 = .ok (.iaload, 1) := by decide +kernel
theorem dX5_cheapest_6 : decode cX5_cheapest 6 = .ok (.istore_n 3, 1) := by decide +kernel
theorem dX5_cheapest_7 : decode cX5_cheapest 7 = .ok (.iconst 0, 1) := by decide +kernel
theorem dX5_cheapest_8 : decode cX5_cheapest 8 = .ok (.istore 4, 2) := by decide +kernel
theorem dX5_cheapest_10 : decode cX5_cheapest 10 = .ok (.ldc 191, 2) := by decide +kernel
theorem dX5_cheapest_12 : decode cX5_cheapest 12 = .ok (.istore 5, 2) := by decide +kernel
theorem dX5_cheapest_14 : decode cX5_cheapest 14 = .ok (.iconst 0, 1) := by decide +kernel
theorem dX5_cheapest_15 : decode cX5_cheapest 15 = .ok (.istore 6, 2) := by decide +kernel
theorem dX5_cheapest_17 : decode cX5_cheapest 17 = .ok (.iload 6, 2) := by decide +kernel
theorem dX5_cheapest_19 : decode cX5_cheapest 19 = .ok (.iload_n 2, 1) := by decide +kernel
theorem dX5_cheapest_20 : decode cX5_cheapest 20 = .ok (.if_icmp .ge 38, 3) := by decide +kernel
theorem dX5_cheapest_23 : decode cX5_cheapest 23 = .ok (.aload_n 0, 1) := by decide +kernel
theorem dX5_cheapest_24 : decode cX5_cheapest 24 = .ok (.getfield 9, 3) := by decide +kernel
theorem dX5_cheapest_27 : decode cX5_cheapest 27 = .ok (.iload_n 1, 1) := by decide +kernel
theorem dX5_cheapest_28 : decode cX5_cheapest 28 = .ok (.iload 6, 2) := by decide +kernel
theorem dX5_cheapest_30 : decode cX5_cheapest 30 = .ok (.iastore, 1) := by decide +kernel
theorem dX5_cheapest_31 : decode cX5_cheapest 31 = .ok (.aload_n 0, 1) := by decide +kernel
theorem dX5_cheapest_32 : decode cX5_cheapest 32 = .ok (.invokevirtual 179, 3) := by decide +kernel
theorem dX5_cheapest_35 : decode cX5_cheapest 35 = .ok (.istore 7, 2) := by decide +kernel
theorem dX5_cheapest_37 : decode cX5_cheapest 37 = .ok (.iload 7, 2) := by decide +kernel
theorem dX5_cheapest_39 : decode cX5_cheapest 39 = .ok (.iload 5, 2) := by decide +kernel
theorem dX5_cheapest_41 : decode cX5_cheapest 41 = .ok (.if_icmp .ge 11, 3) := by decide +kernel
theorem dX5_cheapest_44 : decode cX5_cheapest 44 = .ok (.iload 6, 2) := by decide +kernel
theorem dX5_cheapest_46 : decode cX5_cheapest 46 = .ok (.istore 4, 2) := by decide +kernel
theorem dX5_cheapest_48 : decode cX5_cheapest 48 = .ok (.iload 7, 2) := by decide +kernel
theorem dX5_cheapest_50 : decode cX5_cheapest 50 = .ok (.istore 5, 2) := by decide +kernel
theorem dX5_cheapest_52 : decode cX5_cheapest 52 = .ok (.iinc 6 1, 3) := by decide +kernel
theorem dX5_cheapest_55 : decode cX5_cheapest 55 = .ok (.goto (-38), 3) := by decide +kernel
theorem dX5_cheapest_58 : decode cX5_cheapest 58 = .ok (.aload_n 0, 1) := by decide +kernel
theorem dX5_cheapest_59 : decode cX5_cheapest 59 = .ok (.getfield 9, 3) := by decide +kernel
theorem dX5_cheapest_62 : decode cX5_cheapest 62 = .ok (.iload_n 1, 1) := by decide +kernel
theorem dX5_cheapest_63 : decode cX5_cheapest 63 = .ok (.iload_n 3, 1) := by decide +kernel
theorem dX5_cheapest_64 : decode cX5_cheapest 64 = .ok (.iastore, 1) := by decide +kernel
theorem dX5_cheapest_65 : decode cX5_cheapest 65 = .ok (.iload 4, 2) := by decide +kernel
theorem dX5_cheapest_67 : decode cX5_cheapest 67 = .ok (.ireturn, 1) := by decide +kernel
theorem dX5_edgeFor_0 : decode cX5_edgeFor 0 = .ok (.aload_n 0, 1) := by decide +kernel
theorem dX5_edgeFor_1 : decode cX5_edgeFor 1 = .ok (.iload_n 1, 1) := by decide +kernel
theorem dX5_edgeFor_2 : decode cX5_edgeFor 2 = .ok (.invokevirtual 111, 3) := by decide +kernel
theorem dX5_edgeFor_5 : decode cX5_edgeFor 5 = .ok (.ifCond .eq 17, 3) := by decide +kernel
theorem dX5_edgeFor_8 : decode cX5_edgeFor 8 = .ok (.aload_n 0, 1) := by decide +kernel
theorem dX5_edgeFor_9 : decode cX5_edgeFor 9 = .ok (.iload_n 1, 1) := by decide +kernel
theorem dX5_edgeFor_10 : decode cX5_edgeFor 10 = .ok (.iconst 1, 1) := by decide +kernel
theorem dX5_edgeFor_11 : decode cX5_edgeFor 11 = .ok (.invokestatic 88, 3) := by decide +kernel
theorem dX5_edgeFor_14 : decode cX5_edgeFor 14 = .ok (.bipush 10, 2) := by decide +kernel
theorem dX5_edgeFor_16 : decode cX5_edgeFor 16 = .ok (.invokevirtual 204, 3) := by decide +kernel
theorem dX5_edgeFor_19 : decode cX5_edgeFor 19 = .ok (.goto 9, 3) := by decide +kernel
theorem dX5_edgeFor_22 : decode cX5_edgeFor 22 = .ok (.aload_n 0, 1) := by decide +kernel
theorem dX5_edgeFor_23 : decode cX5_edgeFor 23 = .ok (.ldc 63, 2) := by decide +kernel
theorem dX5_edgeFor_25 : decode cX5_edgeFor 25 = .ok (.invokevirtual 69, 3) := by decide +kernel
theorem dX5_edgeFor_28 : decode cX5_edgeFor 28 = .ok (.ireturn, 1) := by decide +kernel
theorem dX5_kindFor_0 : decode cX5_kindFor 0 = .ok (.aload_n 0, 1) := by decide +kernel
theorem dX5_kindFor_1 : decode cX5_kindFor 1 = .ok (.iload_n 1, 1) := by decide +kernel
theorem dX5_kindFor_2 : decode cX5_kindFor 2 = .ok (.invokevirtual 111, 3) := by decide +kernel
theorem dX5_kindFor_5 : decode cX5_kindFor 5 = .ok (.ifCond .eq 17, 3) := by decide +kernel
theorem dX5_kindFor_8 : decode cX5_kindFor 8 = .ok (.aload_n 0, 1) := by decide +kernel
theorem dX5_kindFor_9 : decode cX5_kindFor 9 = .ok (.iload_n 1, 1) := by decide +kernel
theorem dX5_kindFor_10 : decode cX5_kindFor 10 = .ok (.iconst 0, 1) := by decide +kernel
theorem dX5_kindFor_11 : decode cX5_kindFor 11 = .ok (.invokestatic 88, 3) := by decide +kernel
theorem dX5_kindFor_14 : decode cX5_kindFor 14 = .ok (.bipush 7, 2) := by decide +kernel
theorem dX5_kindFor_16 : decode cX5_kindFor 16 = .ok (.invokevirtual 204, 3) := by decide +kernel
theorem dX5_kindFor_19 : decode cX5_kindFor 19 = .ok (.goto 9, 3) := by decide +kernel
theorem dX5_kindFor_22 : decode cX5_kindFor 22 = .ok (.aload_n 0, 1) := by decide +kernel
theorem dX5_kindFor_23 : decode cX5_kindFor 23 = .ok (.ldc 63, 2) := by decide +kernel
theorem dX5_kindFor_25 : decode cX5_kindFor 25 = .ok (.invokevirtual 69, 3) := by decide +kernel
theorem dX5_kindFor_28 : decode cX5_kindFor 28 = .ok (.ireturn, 1) := by decide +kernel
theorem dX5_sumTurned_0 : decode cX5_sumTurned 0 = .ok (.iconst 0, 1) := by decide +kernel
theorem dX5_sumTurned_1 : decode cX5_sumTurned 1 = .ok (.istore_n 2, 1) := by decide +kernel
theorem dX5_sumTurned_2 : decode cX5_sumTurned 2 = .ok (.iload_n 2, 1) := by decide +kernel
theorem dX5_sumTurned_3 : decode cX5_sumTurned 3 = .ok (.aload_n 0, 1) := by decide +kernel
theorem dX5_sumTurned_4 : decode cX5_sumTurned 4 = .ok (.getfield 9, 3) := by decide +kernel
theorem dX5_sumTurned_7 : decode cX5_sumTurned 7 = .ok (.iconst 1, 1) := by decide +kernel
theorem dX5_sumTurned_8 : decode cX5_sumTurned 8 = .ok (.iaload, 1) := by decide +kernel
theorem dX5_sumTurned_9 : decode cX5_sumTurned 9 = .ok (.if_icmp .ge 27, 3) := by decide +kernel
theorem dX5_sumTurned_12 : decode cX5_sumTurned 12 = .ok (.aload_n 0, 1) := by decide +kernel
theorem dX5_sumTurned_13 : decode cX5_sumTurned 13 = .ok (.getfield 9, 3) := by decide +kernel
theorem dX5_sumTurned_16 : decode cX5_sumTurned 16 = .ok (.iload_n 2, 1) := by decide +kernel
theorem dX5_sumTurned_17 : decode cX5_sumTurned 17 = .ok (.iconst 4, 1) := by decide +kernel
theorem dX5_sumTurned_18 : decode cX5_sumTurned 18 = .ok (.invokestatic 88, 3) := by decide +kernel
theorem dX5_sumTurned_21 : decode cX5_sumTurned 21 = .ok (.dup2, 1) := by decide +kernel
theorem dX5_sumTurned_22 : decode cX5_sumTurned 22 = .ok (.iaload, 1) := by decide +kernel
theorem dX5_sumTurned_23 : decode cX5_sumTurned 23 = .ok (.iload_n 1, 1) := by decide +kernel
theorem dX5_sumTurned_24 : decode cX5_sumTurned 24 = .ok (.iload_n 2, 1) := by decide +kernel
theorem dX5_sumTurned_25 : decode cX5_sumTurned 25 = .ok (.ishr, 1) := by decide +kernel
theorem dX5_sumTurned_26 : decode cX5_sumTurned 26 = .ok (.iconst 1, 1) := by decide +kernel
theorem dX5_sumTurned_27 : decode cX5_sumTurned 27 = .ok (.iand, 1) := by decide +kernel
theorem dX5_sumTurned_28 : decode cX5_sumTurned 28 = .ok (.ixor, 1) := by decide +kernel
theorem dX5_sumTurned_29 : decode cX5_sumTurned 29 = .ok (.iastore, 1) := by decide +kernel
theorem dX5_sumTurned_30 : decode cX5_sumTurned 30 = .ok (.iinc 2 1, 3) := by decide +kernel
theorem dX5_sumTurned_33 : decode cX5_sumTurned 33 = .ok (.goto (-31), 3) := by decide +kernel
theorem dX5_sumTurned_36 : decode cX5_sumTurned 36 = .ok (.aload_n 0, 1) := by decide +kernel
theorem dX5_sumTurned_37 : decode cX5_sumTurned 37 = .ok (.invokevirtual 142, 3) := by decide +kernel
theorem dX5_sumTurned_40 : decode cX5_sumTurned 40 = .ok (.istore_n 2, 1) := by decide +kernel
theorem dX5_sumTurned_41 : decode cX5_sumTurned 41 = .ok (.iconst 0, 1) := by decide +kernel
theorem dX5_sumTurned_42 : decode cX5_sumTurned 42 = .ok (.istore_n 3, 1) := by decide +kernel
theorem dX5_sumTurned_43 : decode cX5_sumTurned 43 = .ok (.iload_n 3, 1) := by decide +kernel
theorem dX5_sumTurned_44 : decode cX5_sumTurned 44 = .ok (.aload_n 0, 1) := by decide +kernel
theorem dX5_sumTurned_45 : decode cX5_sumTurned 45 = .ok (.getfield 9, 3) := by decide +kernel
theorem dX5_sumTurned_48 : decode cX5_sumTurned 48 = .ok (.iconst 1, 1) := by decide +kernel
theorem dX5_sumTurned_49 : decode cX5_sumTurned 49 = .ok (.iaload, 1) := by decide +kernel
theorem dX5_sumTurned_50 : decode cX5_sumTurned 50 = .ok (.if_icmp .ge 27, 3) := by decide +kernel
theorem dX5_sumTurned_53 : decode cX5_sumTurned 53 = .ok (.aload_n 0, 1) := by decide +kernel
theorem dX5_sumTurned_54 : decode cX5_sumTurned 54 = .ok (.getfield 9, 3) := by decide +kernel
theorem dX5_sumTurned_57 : decode cX5_sumTurned 57 = .ok (.iload_n 3, 1) := by decide +kernel
theorem dX5_sumTurned_58 : decode cX5_sumTurned 58 = .ok (.iconst 4, 1) := by decide +kernel
theorem dX5_sumTurned_59 : decode cX5_sumTurned 59 = .ok (.invokestatic 88, 3) := by decide +kernel
theorem dX5_sumTurned_62 : decode cX5_sumTurned 62 = .ok (.dup2, 1) := by decide +kernel
theorem dX5_sumTurned_63 : decode cX5_sumTurned 63 = .ok (.iaload, 1) := by decide +kernel
theorem dX5_sumTurned_64 : decode cX5_sumTurned 64 = .ok (.iload_n 1, 1) := by decide +kernel
theorem dX5_sumTurned_65 : decode cX5_sumTurned 65 = .ok (.iload_n 3, 1) := by decide +kernel
theorem dX5_sumTurned_66 : decode cX5_sumTurned 66 = .ok (.ishr, 1) := by decide +kernel
theorem dX5_sumTurned_67 : decode cX5_sumTurned 67 = .ok (.iconst 1, 1) := by decide +kernel
theorem dX5_sumTurned_68 : decode cX5_sumTurned 68 = .ok (.iand, 1) := by decide +kernel
theorem dX5_sumTurned_69 : decode cX5_sumTurned 69 = .ok (.ixor, 1) := by decide +kernel
theorem dX5_sumTurned_70 : decode cX5_sumTurned 70 = .ok (.iastore, 1) := by decide +kernel
theorem dX5_sumTurned_71 : decode cX5_sumTurned 71 = .ok (.iinc 3 1, 3) := by decide +kernel
theorem dX5_sumTurned_74 : decode cX5_sumTurned 74 = .ok (.goto (-31), 3) := by decide +kernel
theorem dX5_sumTurned_77 : decode cX5_sumTurned 77 = .ok (.iload_n 2, 1) := by decide +kernel
theorem dX5_sumTurned_78 : decode cX5_sumTurned 78 = .ok (.ireturn, 1) := by decide +kernel
theorem dX5_turn_0 : decode cX5_turn 0 = .ok (.iload_n 1, 1) := by decide +kernel
theorem dX5_turn_1 : decode cX5_turn 1 = .ok (.iconst 0, 1) := by decide +kernel
theorem dX5_turn_2 : decode cX5_turn 2 = .ok (.sipush 999, 3) := by decide +kernel
theorem dX5_turn_5 : decode cX5_turn 5 = .ok (.invokestatic 73, 3) := by decide +kernel
theorem dX5_turn_8 : decode cX5_turn 8 = .ok (.ifCond .ne 10, 3) := by decide +kernel
theorem dX5_turn_11 : decode cX5_turn 11 = .ok (.aload_n 0, 1) := by decide +kernel
theorem dX5_turn_12 : decode cX5_turn 12 = .ok (.ldc 63, 2) := by decide +kernel
theorem dX5_turn_14 : decode cX5_turn 14 = .ok (.invokevirtual 69, 3) := by decide +kernel
end
section
theorem dX5_turn_17 : decode cX5_turn 17 = .ok (.ireturn, 1) := by decide +kernel
theorem dX5_turn_18 : decode cX5_turn 18 = .ok (.iconst (-1), 1) := by decide +kernel
theorem dX5_turn_19 : decode cX5_turn 19 = .ok (.istore_n 2, 1) := by decide +kernel
theorem dX5_turn_20 : decode cX5_turn 20 = .ok (.aload_n 0, 1) := by decide +kernel
theorem dX5_turn_21 : decode cX5_turn 21 = .ok (.invokevirtual 198, 3) := by decide +kernel
theorem dX5_turn_24 : decode cX5_turn 24 = .ok (.istore_n 3, 1) := by decide +kernel
theorem dX5_turn_25 : decode cX5_turn 25 = .ok (.iload_n 3, 1) := by decide +kernel
theorem dX5_turn_26 : decode cX5_turn 26 = .ok (.ifCond .lt 39, 3) := by decide +kernel
theorem dX5_turn_29 : decode cX5_turn 29 = .ok (.iload_n 2, 1) := by decide +kernel
theorem dX5_turn_30 : decode cX5_turn 30 = .ok (.ifCond .lt 14, 3) := by decide +kernel
theorem dX5_turn_33 : decode cX5_turn 33 = .ok (.iload_n 3, 1) := by decide +kernel
theorem dX5_turn_34 : decode cX5_turn 34 = .ok (.invokestatic 207, 3) := by decide +kernel
theorem dX5_turn_37 : decode cX5_turn 37 = .ok (.iload_n 2, 1) := by decide +kernel
theorem dX5_turn_38 : decode cX5_turn 38 = .ok (.invokestatic 207, 3) := by decide +kernel
theorem dX5_turn_41 : decode cX5_turn 41 = .ok (.if_icmp .gt 16, 3) := by decide +kernel
theorem dX5_turn_44 : decode cX5_turn 44 = .ok (.aload_n 0, 1) := by decide +kernel
theorem dX5_turn_45 : decode cX5_turn 45 = .ok (.iload_n 3, 1) := by decide +kernel
theorem dX5_turn_46 : decode cX5_turn 46 = .ok (.invokevirtual 210, 3) := by decide +kernel
theorem dX5_turn_49 : decode cX5_turn 49 = .ok (.iload_n 1, 1) := by decide +kernel
theorem dX5_turn_50 : decode cX5_turn 50 = .ok (.if_icmp .gt 7, 3) := by decide +kernel
theorem dX5_turn_53 : decode cX5_turn 53 = .ok (.iload_n 3, 1) := by decide +kernel
theorem dX5_turn_54 : decode cX5_turn 54 = .ok (.goto 4, 3) := by decide +kernel
theorem dX5_turn_57 : decode cX5_turn 57 = .ok (.iload_n 2, 1) := by decide +kernel
theorem dX5_turn_58 : decode cX5_turn 58 = .ok (.istore_n 2, 1) := by decide +kernel
theorem dX5_turn_59 : decode cX5_turn 59 = .ok (.iinc 3 (-1), 3) := by decide +kernel
theorem dX5_turn_62 : decode cX5_turn 62 = .ok (.goto (-37), 3) := by decide +kernel
theorem dX5_turn_65 : decode cX5_turn 65 = .ok (.aload_n 0, 1) := by decide +kernel
theorem dX5_turn_66 : decode cX5_turn 66 = .ok (.iload_n 2, 1) := by decide +kernel
theorem dX5_turn_67 : decode cX5_turn 67 = .ok (.invokevirtual 188, 3) := by decide +kernel
theorem dX5_turn_70 : decode cX5_turn 70 = .ok (.ireturn, 1) := by decide +kernel
theorem dX5_lacks_0 : decode cX5_lacks 0 = .ok (.iload_n 1, 1) := by decide +kernel
theorem dX5_lacks_1 : decode cX5_lacks 1 = .ok (.invokestatic 213, 3) := by decide +kernel
theorem dX5_lacks_4 : decode cX5_lacks 4 = .ok (.ifCond .ne 8, 3) := by decide +kernel
theorem dX5_lacks_7 : decode cX5_lacks 7 = .ok (.ldc 63, 2) := by decide +kernel
theorem dX5_lacks_9 : decode cX5_lacks 9 = .ok (.goto 27, 3) := by decide +kernel
theorem dX5_lacks_12 : decode cX5_lacks 12 = .ok (.aload_n 0, 1) := by decide +kernel
theorem dX5_lacks_13 : decode cX5_lacks 13 = .ok (.getfield 51, 3) := by decide +kernel
theorem dX5_lacks_16 : decode cX5_lacks 16 = .ok (.iload_n 1, 1) := by decide +kernel
theorem dX5_lacks_17 : decode cX5_lacks 17 = .ok (.iaload, 1) := by decide +kernel
theorem dX5_lacks_18 : decode cX5_lacks 18 = .ok (.ifCond .ne 8, 3) := by decide +kernel
theorem dX5_lacks_21 : decode cX5_lacks 21 = .ok (.ldc 216, 2) := by decide +kernel
theorem dX5_lacks_23 : decode cX5_lacks 23 = .ok (.goto 13, 3) := by decide +kernel
theorem dX5_lacks_26 : decode cX5_lacks 26 = .ok (.iload_n 2, 1) := by decide +kernel
theorem dX5_lacks_27 : decode cX5_lacks 27 = .ok (.ifCond .eq 7, 3) := by decide +kernel
theorem dX5_lacks_30 : decode cX5_lacks 30 = .ok (.iconst 0, 1) := by decide +kernel
theorem dX5_lacks_31 : decode cX5_lacks 31 = .ok (.goto 5, 3) := by decide +kernel
theorem dX5_lacks_34 : decode cX5_lacks 34 = .ok (.ldc 63, 2) := by decide +kernel
theorem dX5_lacks_36 : decode cX5_lacks 36 = .ok (.ireturn, 1) := by decide +kernel
theorem dX5_isSo_0 : decode cX5_isSo 0 = .ok (.aload_n 0, 1) := by decide +kernel
theorem dX5_isSo_1 : decode cX5_isSo 1 = .ok (.getfield 9, 3) := by decide +kernel
theorem dX5_isSo_4 : decode cX5_isSo 4 = .ok (.aload_n 0, 1) := by decide +kernel
theorem dX5_isSo_5 : decode cX5_isSo 5 = .ok (.getfield 16, 3) := by decide +kernel
theorem dX5_isSo_8 : decode cX5_isSo 8 = .ok (.invokestatic 64, 3) := by decide +kernel
theorem dX5_isSo_11 : decode cX5_isSo 11 = .ok (.iconst 1, 1) := by decide +kernel
theorem dX5_isSo_12 : decode cX5_isSo 12 = .ok (.istore_n 2, 1) := by decide +kernel
theorem dX5_isSo_13 : decode cX5_isSo 13 = .ok (.iconst 0, 1) := by decide +kernel
theorem dX5_isSo_14 : decode cX5_isSo 14 = .ok (.istore_n 3, 1) := by decide +kernel
theorem dX5_isSo_15 : decode cX5_isSo 15 = .ok (.iload_n 3, 1) := by decide +kernel
theorem dX5_isSo_16 : decode cX5_isSo 16 = .ok (.aload_n 0, 1) := by decide +kernel
theorem dX5_isSo_17 : decode cX5_isSo 17 = .ok (.getfield 54, 3) := by decide +kernel
theorem dX5_isSo_20 : decode cX5_isSo 20 = .ok (.iload_n 1, 1) := by decide +kernel
theorem dX5_isSo_21 : decode cX5_isSo 21 = .ok (.iaload, 1) := by decide +kernel
theorem dX5_isSo_22 : decode cX5_isSo 22 = .ok (.if_icmp .ge 57, 3) := by decide +kernel
theorem dX5_isSo_25 : decode cX5_isSo 25 = .ok (.iload_n 3, 1) := by decide +kernel
theorem dX5_isSo_26 : decode cX5_isSo 26 = .ok (.bipush 12, 2) := by decide +kernel
theorem dX5_isSo_28 : decode cX5_isSo 28 = .ok (.if_icmp .ge 51, 3) := by decide +kernel
theorem dX5_isSo_31 : decode cX5_isSo 31 = .ok (.iload_n 2, 1) := by decide +kernel
theorem dX5_isSo_32 : decode cX5_isSo 32 = .ok (.ifCond .eq 47, 3) := by decide +kernel
theorem dX5_isSo_35 : decode cX5_isSo 35 = .ok (.aload_n 0, 1) := by decide +kernel
theorem dX5_isSo_36 : decode cX5_isSo 36 = .ok (.getfield 57, 3) := by decide +kernel
theorem dX5_isSo_39 : decode cX5_isSo 39 = .ok (.bipush 40, 2) := by decide +kernel
theorem dX5_isSo_41 : decode cX5_isSo 41 = .ok (.iload_n 1, 1) := by decide +kernel
theorem dX5_isSo_42 : decode cX5_isSo 42 = .ok (.imul, 1) := by decide +kernel
theorem dX5_isSo_43 : decode cX5_isSo 43 = .ok (.iload_n 3, 1) := by decide +kernel
theorem dX5_isSo_44 : decode cX5_isSo 44 = .ok (.iadd, 1) := by decide +kernel
theorem dX5_isSo_45 : decode cX5_isSo 45 = .ok (.iaload, 1) := by decide +kernel
theorem dX5_isSo_46 : decode cX5_isSo 46 = .ok (.istore 4, 2) := by decide +kernel
theorem dX5_isSo_48 : decode cX5_isSo 48 = .ok (.iload 4, 2) := by decide +kernel
theorem dX5_isSo_50 : decode cX5_isSo 50 = .ok (.iconst (-1), 1) := by decide +kernel
theorem dX5_isSo_51 : decode cX5_isSo 51 = .ok (.if_icmp .eq 12, 3) := by decide +kernel
theorem dX5_isSo_54 : decode cX5_isSo 54 = .ok (.iload 4, 2) := by decide +kernel
theorem dX5_isSo_56 : decode cX5_isSo 56 = .ok (.aload_n 0, 1) := by decide +kernel
theorem dX5_isSo_57 : decode cX5_isSo 57 = .ok (.invokevirtual 142, 3) := by decide +kernel
theorem dX5_isSo_60 : decode cX5_isSo 60 = .ok (.if_icmp .ne 7, 3) := by decide +kernel
theorem dX5_isSo_63 : decode cX5_isSo 63 = .ok (.iconst 1, 1) := by decide +kernel
theorem dX5_isSo_64 : decode cX5_isSo 64 = .ok (.goto 4, 3) := by decide +kernel
theorem dX5_isSo_67 : decode cX5_isSo 67 = .ok (.iconst 0, 1) := by decide +kernel
theorem dX5_isSo_68 : decode cX5_isSo 68 = .ok (.istore_n 2, 1) := by decide +kernel
theorem dX5_isSo_69 : decode cX5_isSo 69 = .ok (.aload_n 0, 1) := by decide +kernel
theorem dX5_isSo_70 : decode cX5_isSo 70 = .ok (.invokevirtual 153, 3) := by decide +kernel
theorem dX5_isSo_73 : decode cX5_isSo 73 = .ok (.iinc 3 1, 3) := by decide +kernel
theorem dX5_isSo_76 : decode cX5_isSo 76 = .ok (.goto (-61), 3) := by decide +kernel
theorem dX5_isSo_79 : decode cX5_isSo 79 = .ok (.aload_n 0, 1) := by decide +kernel
theorem dX5_isSo_80 : decode cX5_isSo 80 = .ok (.getfield 16, 3) := by decide +kernel
theorem dX5_isSo_83 : decode cX5_isSo 83 = .ok (.aload_n 0, 1) := by decide +kernel
theorem dX5_isSo_84 : decode cX5_isSo 84 = .ok (.getfield 9, 3) := by decide +kernel
theorem dX5_isSo_87 : decode cX5_isSo 87 = .ok (.invokestatic 64, 3) := by decide +kernel
theorem dX5_isSo_90 : decode cX5_isSo 90 = .ok (.iload_n 2, 1) := by decide +kernel
theorem dX5_isSo_91 : decode cX5_isSo 91 = .ok (.ireturn, 1) := by decide +kernel
theorem dX5_fits_0 : decode cX5_fits 0 = .ok (.aload_n 0, 1) := by decide +kernel
theorem dX5_fits_1 : decode cX5_fits 1 = .ok (.iload_n 1, 1) := by decide +kernel
theorem dX5_fits_2 : decode cX5_fits 2 = .ok (.aload_n 0, 1) := by decide +kernel
theorem dX5_fits_3 : decode cX5_fits 3 = .ok (.iload_n 2, 1) := by decide +kernel
theorem dX5_fits_4 : decode cX5_fits 4 = .ok (.invokevirtual 111, 3) := by decide +kernel
theorem dX5_fits_7 : decode cX5_fits 7 = .ok (.invokevirtual 217, 3) := by decide +kernel
theorem dX5_fits_10 : decode cX5_fits 10 = .ok (.istore_n 3, 1) := by decide +kernel
theorem dX5_fits_11 : decode cX5_fits 11 = .ok (.iload_n 3, 1) := by decide +kernel
theorem dX5_fits_12 : decode cX5_fits 12 = .ok (.ifCond .eq 9, 3) := by decide +kernel
theorem dX5_fits_15 : decode cX5_fits 15 = .ok (.aload_n 0, 1) := by decide +kernel
theorem dX5_fits_16 : decode cX5_fits 16 = .ok (.iload_n 3, 1) := by decide +kernel
theorem dX5_fits_17 : decode cX5_fits 17 = .ok (.invokevirtual 69, 3) := by decide +kernel
theorem dX5_fits_20 : decode cX5_fits 20 = .ok (.ireturn, 1) := by decide +kernel
theorem dX5_fits_21 : decode cX5_fits 21 = .ok (.aload_n 0, 1) := by decide +kernel
theorem dX5_fits_22 : decode cX5_fits 22 = .ok (.iload_n 2, 1) := by decide +kernel
theorem dX5_fits_23 : decode cX5_fits 23 = .ok (.iconst 1, 1) := by decide +kernel
theorem dX5_fits_24 : decode cX5_fits 24 = .ok (.invokevirtual 102, 3) := by decide +kernel
theorem dX5_fits_27 : decode cX5_fits 27 = .ok (.istore 4, 2) := by decide +kernel
theorem dX5_fits_29 : decode cX5_fits 29 = .ok (.aload_n 0, 1) := by decide +kernel
theorem dX5_fits_30 : decode cX5_fits 30 = .ok (.iload_n 2, 1) := by decide +kernel
theorem dX5_fits_31 : decode cX5_fits 31 = .ok (.iconst 2, 1) := by decide +kernel
theorem dX5_fits_32 : decode cX5_fits 32 = .ok (.invokevirtual 102, 3) := by decide +kernel
theorem dX5_fits_35 : decode cX5_fits 35 = .ok (.istore 5, 2) := by decide +kernel
theorem dX5_fits_37 : decode cX5_fits 37 = .ok (.iconst 0, 1) := by decide +kernel
theorem dX5_fits_38 : decode cX5_fits 38 = .ok (.istore 6, 2) := by decide +kernel
theorem dX5_fits_40 : decode cX5_fits 40 = .ok (.iconst 0, 1) := by decide +kernel
theorem dX5_fits_41 : decode cX5_fits 41 = .ok (.istore 7, 2) := by decide +kernel
theorem dX5_fits_43 : decode cX5_fits 43 = .ok (.iload 7, 2) := by decide +kernel
theorem dX5_fits_45 : decode cX5_fits 45 = .ok (.bipush 100, 2) := by decide +kernel
theorem dX5_fits_47 : decode cX5_fits 47 = .ok (.if_icmp .ge 57, 3) := by decide +kernel
theorem dX5_fits_50 : decode cX5_fits 50 = .ok (.aload_n 0, 1) := by decide +kernel
theorem dX5_fits_51 : decode cX5_fits 51 = .ok (.getfield 9, 3) := by decide +kernel
theorem dX5_fits_54 : decode cX5_fits 54 = .ok (.iload_n 2, 1) := by decide +kernel
theorem dX5_fits_55 : decode cX5_fits 55 = .ok (.iconst 1, 1) := by decide +kernel
theorem dX5_fits_56 : decode cX5_fits 56 = .ok (.invokestatic 88, 3) := by decide +kernel
theorem dX5_fits_59 : decode cX5_fits 59 = .ok (.iload 7, 2) := by decide +kernel
theorem dX5_fits_61 : decode cX5_fits 61 = .ok (.bipush 10, 2) := by decide +kernel
theorem dX5_fits_63 : decode cX5_fits 63 = .ok (.idiv, 1) := by decide +kernel
theorem dX5_fits_64 : decode cX5_fits 64 = .ok (.iastore, 1) := by decide +kernel
theorem dX5_fits_65 : decode cX5_fits 65 = .ok (.aload_n 0, 1) := by decide +kernel
theorem dX5_fits_66 : decode cX5_fits 66 = .ok (.getfield 9, 3) := by decide +kernel
theorem dX5_fits_69 : decode cX5_fits 69 = .ok (.iload_n 2, 1) := by decide +kernel
theorem dX5_fits_70 : decode cX5_fits 70 = .ok (.iconst 2, 1) := by decide +kernel
theorem dX5_fits_71 : decode cX5_fits 71 = .ok (.invokestatic 88, 3) := by decide +kernel
theorem dX5_fits_74 : decode cX5_fits 74 = .ok (.iload 7, 2) := by decide +kernel
theorem dX5_fits_76 : decode cX5_fits 76 = .ok (.bipush 10, 2) := by decide +kernel
theorem dX5_fits_78 : decode cX5_fits 78 = .ok (.irem, 1) := by decide +kernel
theorem dX5_fits_79 : decode cX5_fits 79 = .ok (.iastore, 1) := by decide +kernel
theorem dX5_fits_80 : decode cX5_fits 80 = .ok (.iload 6, 2) := by decide +kernel
theorem dX5_fits_82 : decode cX5_fits 82 = .ok (.aload_n 0, 1) := by decide +kernel
theorem dX5_fits_83 : decode cX5_fits 83 = .ok (.iload_n 1, 1) := by decide +kernel
theorem dX5_fits_84 : decode cX5_fits 84 = .ok (.invokevirtual 221, 3) := by decide +kernel
theorem dX5_fits_87 : decode cX5_fits 87 = .ok (.ifCond .eq 7, 3) := by decide +kernel
theorem dX5_fits_90 : decode cX5_fits 90 = .ok (.iconst 1, 1) := by decide +kernel
theorem dX5_fits_91 : decode cX5_fits 91 = .ok (.goto 4, 3) := by decide +kernel
theorem dX5_fits_94 : decode cX5_fits 94 = .ok (.iconst 0, 1) := by decide +kernel
theorem dX5_fits_95 : decode cX5_fits 95 = .ok (.iadd, 1) := by decide +kernel
theorem dX5_fits_96 : decode cX5_fits 96 = .ok (.istore 6, 2) := by decide +kernel
theorem dX5_fits_98 : decode cX5_fits 98 = .ok (.iinc 7 1, 3) := by decide +kernel
theorem dX5_fits_101 : decode cX5_fits 101 = .ok (.goto (-58), 3) := by decide +kernel
theorem dX5_fits_104 : decode cX5_fits 104 = .ok (.aload_n 0, 1) := by decide +kernel
theorem dX5_fits_105 : decode cX5_fits 105 = .ok (.getfield 9, 3) := by decide +kernel
theorem dX5_fits_108 : decode cX5_fits 108 = .ok (.iload_n 2, 1) := by decide +kernel
theorem dX5_fits_109 : decode cX5_fits 109 = .ok (.iconst 1, 1) := by decide +kernel
theorem dX5_fits_110 : decode cX5_fits 110 = .ok (.invokestatic 88, 3) := by decide +kernel
theorem dX5_fits_113 : decode cX5_fits 113 = .ok (.iload 4, 2) := by decide +kernel
theorem dX5_fits_115 : decode cX5_fits 115 = .ok (.iastore, 1) := by decide +kernel
theorem dX5_fits_116 : decode cX5_fits 116 = .ok (.aload_n 0, 1) := by decide +kernel
theorem dX5_fits_117 : decode cX5_fits 117 = .ok (.getfield 9, 3) := by decide +kernel
theorem dX5_fits_120 : decode cX5_fits 120 = .ok (.iload_n 2, 1) := by decide +kernel
theorem dX5_fits_121 : decode cX5_fits 121 = .ok (.iconst 2, 1) := by decide +kernel
theorem dX5_fits_122 : decode cX5_fits 122 = .ok (.invokestatic 88, 3) := by decide +kernel
theorem dX5_fits_125 : decode cX5_fits 125 = .ok (.iload 5, 2) := by decide +kernel
theorem dX5_fits_127 : decode cX5_fits 127 = .ok (.iastore, 1) := by decide +kernel
theorem dX5_fits_128 : decode cX5_fits 128 = .ok (.iload 6, 2) := by decide +kernel
theorem dX5_fits_130 : decode cX5_fits 130 = .ok (.ireturn, 1) := by decide +kernel
theorem dX5_kinds_0 : decode cX5_kinds 0 = .ok (.aload_n 0, 1) := by decide +kernel
theorem dX5_kinds_1 : decode cX5_kinds 1 = .ok (.iload_n 1, 1) := by decide +kernel
theorem dX5_kinds_2 : decode cX5_kinds 2 = .ok (.aload_n 0, 1) := by decide +kernel
theorem dX5_kinds_3 : decode cX5_kinds 3 = .ok (.iload_n 2, 1) := by decide +kernel
theorem dX5_kinds_4 : decode cX5_kinds 4 = .ok (.invokevirtual 111, 3) := by decide +kernel
theorem dX5_kinds_7 : decode cX5_kinds 7 = .ok (.invokevirtual 217, 3) := by decide +kernel
theorem dX5_kinds_10 : decode cX5_kinds 10 = .ok (.istore_n 3, 1) := by decide +kernel
theorem dX5_kinds_11 : decode cX5_kinds 11 = .ok (.iload_n 3, 1) := by decide +kernel
theorem dX5_kinds_12 : decode cX5_kinds 12 = .ok (.ifCond .eq 9, 3) := by decide +kernel
theorem dX5_kinds_15 : decode cX5_kinds 15 = .ok (.aload_n 0, 1) := by decide +kernel
theorem dX5_kinds_16 : decode cX5_kinds 16 = .ok (.iload_n 3, 1) := by decide +kernel
theorem dX5_kinds_17 : decode cX5_kinds 17 = .ok (.invokevirtual 69, 3) := by decide +kernel
theorem dX5_kinds_20 : decode cX5_kinds 20 = .ok (.ireturn, 1) := by decide +kernel
theorem dX5_kinds_21 : decode cX5_kinds 21 = .ok (.iload_n 2, 1) := by decide +kernel
theorem dX5_kinds_22 : decode cX5_kinds 22 = .ok (.iconst 0, 1) := by decide +kernel
theorem dX5_kinds_23 : decode cX5_kinds 23 = .ok (.invokestatic 88, 3) := by decide +kernel
theorem dX5_kinds_26 : decode cX5_kinds 26 = .ok (.istore 4, 2) := by decide +kernel
theorem dX5_kinds_28 : decode cX5_kinds 28 = .ok (.aload_n 0, 1) := by decide +kernel
theorem dX5_kinds_29 : decode cX5_kinds 29 = .ok (.getfield 9, 3) := by decide +kernel
theorem dX5_kinds_32 : decode cX5_kinds 32 = .ok (.iload 4, 2) := by decide +kernel
theorem dX5_kinds_34 : decode cX5_kinds 34 = .ok (.iaload, 1) := by decide +kernel
theorem dX5_kinds_35 : decode cX5_kinds 35 = .ok (.istore 5, 2) := by decide +kernel
theorem dX5_kinds_37 : decode cX5_kinds 37 = .ok (.iconst 0, 1) := by decide +kernel
theorem dX5_kinds_38 : decode cX5_kinds 38 = .ok (.istore 6, 2) := by decide +kernel
theorem dX5_kinds_40 : decode cX5_kinds 40 = .ok (.iconst 0, 1) := by decide +kernel
theorem dX5_kinds_41 : decode cX5_kinds 41 = .ok (.istore 7, 2) := by decide +kernel
theorem dX5_kinds_43 : decode cX5_kinds 43 = .ok (.iload 7, 2) := by decide +kernel
theorem dX5_kinds_45 : decode cX5_kinds 45 = .ok (.bipush 6, 2) := by decide +kernel
theorem dX5_kinds_47 : decode cX5_kinds 47 = .ok (.if_icmp .gt 39, 3) := by decide +kernel
theorem dX5_kinds_50 : decode cX5_kinds 50 = .ok (.aload_n 0, 1) := by decide +kernel
theorem dX5_kinds_51 : decode cX5_kinds 51 = .ok (.getfield 9, 3) := by decide +kernel
theorem dX5_kinds_54 : decode cX5_kinds 54 = .ok (.iload 4, 2) := by decide +kernel
theorem dX5_kinds_56 : decode cX5_kinds 56 = .ok (.iload 7, 2) := by decide +kernel
theorem dX5_kinds_58 : decode cX5_kinds 58 = .ok (.iastore, 1) := by decide +kernel
theorem dX5_kinds_59 : decode cX5_kinds 59 = .ok (.iload 6, 2) := by decide +kernel
theorem dX5_kinds_61 : decode cX5_kinds 61 = .ok (.aload_n 0, 1) := by decide +kernel
theorem dX5_kinds_62 : decode cX5_kinds 62 = .ok (.iload_n 1, 1) := by decide +kernel
theorem dX5_kinds_63 : decode cX5_kinds 63 = .ok (.invokevirtual 221, 3) := by decide +kernel
theorem dX5_kinds_66 : decode cX5_kinds 66 = .ok (.ifCond .eq 10, 3) := by decide +kernel
theorem dX5_kinds_69 : decode cX5_kinds 69 = .ok (.iconst 1, 1) := by decide +kernel
theorem dX5_kinds_70 : decode cX5_kinds 70 = .ok (.iload 7, 2) := by decide +kernel
theorem dX5_kinds_72 : decode cX5_kinds 72 = .ok (.ishl, 1) := by decide +kernel
theorem dX5_kinds_73 : decode cX5_kinds 73 = .ok (.goto 4, 3) := by decide +kernel
theorem dX5_kinds_76 : decode cX5_kinds 76 = .ok (.iconst 0, 1) := by decide +kernel
theorem dX5_kinds_77 : decode cX5_kinds 77 = .ok (.ior, 1) := by decide +kernel
theorem dX5_kinds_78 : decode cX5_kinds 78 = .ok (.istore 6, 2) := by decide +kernel
theorem dX5_kinds_80 : decode cX5_kinds 80 = .ok (.iinc 7 1, 3) := by decide +kernel
theorem dX5_kinds_83 : decode cX5_kinds 83 = .ok (.goto (-40), 3) := by decide +kernel
theorem dX5_kinds_86 : decode cX5_kinds 86 = .ok (.aload_n 0, 1) := by decide +kernel
theorem dX5_kinds_87 : decode cX5_kinds 87 = .ok (.getfield 9, 3) := by decide +kernel
theorem dX5_kinds_90 : decode cX5_kinds 90 = .ok (.iload 4, 2) := by decide +kernel
theorem dX5_kinds_92 : decode cX5_kinds 92 = .ok (.iload 5, 2) := by decide +kernel
theorem dX5_kinds_94 : decode cX5_kinds 94 = .ok (.iastore, 1) := by decide +kernel
theorem dX5_kinds_95 : decode cX5_kinds 95 = .ok (.iload 6, 2) := by decide +kernel
theorem dX5_kinds_97 : decode cX5_kinds 97 = .ok (.ireturn, 1) := by decide +kernel
theorem dX5_drawn_0 : decode cX5_drawn 0 = .ok (.aload_n 0, 1) := by decide +kernel
theorem dX5_drawn_1 : decode cX5_drawn 1 = .ok (.getfield 9, 3) := by decide +kernel
theorem dX5_drawn_4 : decode cX5_drawn 4 = .ok (.iconst 2, 1) := by decide +kernel
theorem dX5_drawn_5 : decode cX5_drawn 5 = .ok (.aload_n 0, 1) := by decide +kernel
theorem dX5_drawn_6 : decode cX5_drawn 6 = .ok (.getfield 9, 3) := by decide +kernel
theorem dX5_drawn_9 : decode cX5_drawn 9 = .ok (.iconst 2, 1) := by decide +kernel
theorem dX5_drawn_10 : decode cX5_drawn 10 = .ok (.iaload, 1) := by decide +kernel
theorem dX5_drawn_11 : decode cX5_drawn 11 = .ok (.ldc 224, 2) := by decide +kernel
theorem dX5_drawn_13 : decode cX5_drawn 13 = .ok (.imul, 1) := by decide +kernel
theorem dX5_drawn_14 : decode cX5_drawn 14 = .ok (.sipush 12345, 3) := by decide +kernel
theorem dX5_drawn_17 : decode cX5_drawn 17 = .ok (.iadd, 1) := by decide +kernel
theorem dX5_drawn_18 : decode cX5_drawn 18 = .ok (.iastore, 1) := by decide +kernel
theorem dX5_drawn_19 : decode cX5_drawn 19 = .ok (.aload_n 0, 1) := by decide +kernel
theorem dX5_drawn_20 : decode cX5_drawn 20 = .ok (.getfield 9, 3) := by decide +kernel
theorem dX5_drawn_23 : decode cX5_drawn 23 = .ok (.iconst 2, 1) := by decide +kernel
theorem dX5_drawn_24 : decode cX5_drawn 24 = .ok (.iaload, 1) := by decide +kernel
theorem dX5_drawn_25 : decode cX5_drawn 25 = .ok (.bipush 8, 2) := by decide +kernel
theorem dX5_drawn_27 : decode cX5_drawn 27 = .ok (.iushr, 1) := by decide +kernel
theorem dX5_drawn_28 : decode cX5_drawn 28 = .ok (.ireturn, 1) := by decide +kernel
theorem dX5_tip_0 : decode cX5_tip 0 = .ok (.iload_n 1, 1) := by decide +kernel
theorem dX5_tip_1 : decode cX5_tip 1 = .ok (.iconst 1, 1) := by decide +kernel
theorem dX5_tip_2 : decode cX5_tip 2 = .ok (.bipush 20, 2) := by decide +kernel
theorem dX5_tip_4 : decode cX5_tip 4 = .ok (.invokestatic 73, 3) := by decide +kernel
theorem dX5_tip_7 : decode cX5_tip 7 = .ok (.ifCond .ne 10, 3) := by decide +kernel
theorem dX5_tip_10 : decode cX5_tip 10 = .ok (.aload_n 0, 1) := by decide +kernel
theorem dX5_tip_11 : decode cX5_tip 11 = .ok (.ldc 63, 2) := by decide +kernel
theorem dX5_tip_13 : decode cX5_tip 13 = .ok (.invokevirtual 69, 3) := by decide +kernel
theorem dX5_tip_16 : decode cX5_tip 16 = .ok (.ireturn, 1) := by decide +kernel
theorem dX5_tip_17 : decode cX5_tip 17 = .ok (.aload_n 0, 1) := by decide +kernel
theorem dX5_tip_18 : decode cX5_tip 18 = .ok (.getfield 9, 3) := by decide +kernel
theorem dX5_tip_21 : decode cX5_tip 21 = .ok (.iconst 0, 1) := by decide +kernel
theorem dX5_tip_22 : decode cX5_tip 22 = .ok (.iaload, 1) := by decide +kernel
theorem dX5_tip_23 : decode cX5_tip 23 = .ok (.iload_n 1, 1) := by decide +kernel
theorem dX5_tip_24 : decode cX5_tip 24 = .ok (.iadd, 1) := by decide +kernel
theorem dX5_tip_25 : decode cX5_tip 25 = .ok (.ldc 149, 2) := by decide +kernel
theorem dX5_tip_27 : decode cX5_tip 27 = .ok (.if_icmp .le 10, 3) := by decide +kernel
theorem dX5_tip_30 : decode cX5_tip 30 = .ok (.aload_n 0, 1) := by decide +kernel
theorem dX5_tip_31 : decode cX5_tip 31 = .ok (.ldc 156, 2) := by decide +kernel
theorem dX5_tip_33 : decode cX5_tip 33 = .ok (.invokevirtual 69, 3) := by decide +kernel
theorem dX5_tip_36 : decode cX5_tip 36 = .ok (.ireturn, 1) := by decide +kernel
theorem dX5_tip_37 : decode cX5_tip 37 = .ok (.iconst 0, 1) := by decide +kernel
theorem dX5_tip_38 : decode cX5_tip 38 = .ok (.istore_n 2, 1) := by decide +kernel
theorem dX5_tip_39 : decode cX5_tip 39 = .ok (.iload_n 2, 1) := by decide +kernel
theorem dX5_tip_40 : decode cX5_tip 40 = .ok (.iload_n 1, 1) := by decide +kernel
theorem dX5_tip_41 : decode cX5_tip 41 = .ok (.if_icmp .ge 46, 3) := by decide +kernel
theorem dX5_tip_44 : decode cX5_tip 44 = .ok (.aload_n 0, 1) := by decide +kernel
theorem dX5_tip_45 : decode cX5_tip 45 = .ok (.invokevirtual 225, 3) := by decide +kernel
theorem dX5_tip_48 : decode cX5_tip 48 = .ok (.bipush 8, 2) := by decide +kernel
theorem dX5_tip_50 : decode cX5_tip 50 = .ok (.irem, 1) := by decide +kernel
theorem dX5_tip_51 : decode cX5_tip 51 = .ok (.istore_n 3, 1) := by decide +kernel
theorem dX5_tip_52 : decode cX5_tip 52 = .ok (.aload_n 0, 1) := by decide +kernel
theorem dX5_tip_53 : decode cX5_tip 53 = .ok (.invokevirtual 225, 3) := by decide +kernel
theorem dX5_tip_56 : decode cX5_tip 56 = .ok (.bipush 8, 2) := by decide +kernel
theorem dX5_tip_58 : decode cX5_tip 58 = .ok (.irem, 1) := by decide +kernel
theorem dX5_tip_59 : decode cX5_tip 59 = .ok (.istore 4, 2) := by decide +kernel
theorem dX5_tip_61 : decode cX5_tip 61 = .ok (.aload_n 0, 1) := by decide +kernel
theorem dX5_tip_62 : decode cX5_tip 62 = .ok (.getfield 9, 3) := by decide +kernel
theorem dX5_tip_65 : decode cX5_tip 65 = .ok (.aload_n 0, 1) := by decide +kernel
theorem dX5_tip_66 : decode cX5_tip 66 = .ok (.invokevirtual 146, 3) := by decide +kernel
theorem dX5_tip_69 : decode cX5_tip 69 = .ok (.bipush 10, 2) := by decide +kernel
theorem dX5_tip_71 : decode cX5_tip 71 = .ok (.iload_n 3, 1) := by decide +kernel
theorem dX5_tip_72 : decode cX5_tip 72 = .ok (.imul, 1) := by decide +kernel
theorem dX5_tip_73 : decode cX5_tip 73 = .ok (.iload 4, 2) := by decide +kernel
theorem dX5_tip_75 : decode cX5_tip 75 = .ok (.iadd, 1) := by decide +kernel
theorem dX5_tip_76 : decode cX5_tip 76 = .ok (.iastore, 1) := by decide +kernel
theorem dX5_tip_77 : decode cX5_tip 77 = .ok (.aload_n 0, 1) := by decide +kernel
theorem dX5_tip_78 : decode cX5_tip 78 = .ok (.invokevirtual 153, 3) := by decide +kernel
theorem dX5_tip_81 : decode cX5_tip 81 = .ok (.iinc 2 1, 3) := by decide +kernel
theorem dX5_tip_84 : decode cX5_tip 84 = .ok (.goto (-45), 3) := by decide +kernel
theorem dX5_tip_87 : decode cX5_tip 87 = .ok (.aload_n 0, 1) := by decide +kernel
theorem dX5_tip_88 : decode cX5_tip 88 = .ok (.invokevirtual 142, 3) := by decide +kernel
theorem dX5_tip_91 : decode cX5_tip 91 = .ok (.ireturn, 1) := by decide +kernel
theorem dX5_isNoWorse_0 : decode cX5_isNoWorse 0 = .ok (.aload_n 0, 1) := by decide +kernel
theorem dX5_isNoWorse_1 : decode cX5_isNoWorse 1 = .ok (.iload_n 1, 1) := by decide +kernel
theorem dX5_isNoWorse_2 : decode cX5_isNoWorse 2 = .ok (.invokevirtual 111, 3) := by decide +kernel
theorem dX5_isNoWorse_5 : decode cX5_isNoWorse 5 = .ok (.ifCond .eq 11, 3) := by decide +kernel
theorem dX5_isNoWorse_8 : decode cX5_isNoWorse 8 = .ok (.aload_n 0, 1) := by decide +kernel
theorem dX5_isNoWorse_9 : decode cX5_isNoWorse 9 = .ok (.iload_n 2, 1) := by decide +kernel
theorem dX5_isNoWorse_10 : decode cX5_isNoWorse 10 = .ok (.invokevirtual 111, 3) := by decide +kernel
theorem dX5_isNoWorse_13 : decode cX5_isNoWorse 13 = .ok (.ifCond .ne 5, 3) := by decide +kernel
theorem dX5_isNoWorse_16 : decode cX5_isNoWorse 16 = .ok (.iconst 1, 1) := by decide +kernel
theorem dX5_isNoWorse_17 : decode cX5_isNoWorse 17 = .ok (.ireturn, 1) := by decide +kernel
theorem dX5_isNoWorse_18 : decode cX5_isNoWorse 18 = .ok (.aload_n 0, 1) := by decide +kernel
theorem dX5_isNoWorse_19 : decode cX5_isNoWorse 19 = .ok (.invokevirtual 142, 3) := by decide +kernel
theorem dX5_isNoWorse_22 : decode cX5_isNoWorse 22 = .ok (.istore_n 3, 1) := by decide +kernel
theorem dX5_isNoWorse_23 : decode cX5_isNoWorse 23 = .ok (.aload_n 0, 1) := by decide +kernel
theorem dX5_isNoWorse_24 : decode cX5_isNoWorse 24 = .ok (.iload_n 1, 1) := by decide +kernel
theorem dX5_isNoWorse_25 : decode cX5_isNoWorse 25 = .ok (.iload_n 2, 1) := by decide +kernel
theorem dX5_isNoWorse_26 : decode cX5_isNoWorse 26 = .ok (.invokevirtual 138, 3) := by decide +kernel
theorem dX5_isNoWorse_29 : decode cX5_isNoWorse 29 = .ok (.aload_n 0, 1) := by decide +kernel
theorem dX5_isNoWorse_30 : decode cX5_isNoWorse 30 = .ok (.invokevirtual 142, 3) := by decide +kernel
theorem dX5_isNoWorse_33 : decode cX5_isNoWorse 33 = .ok (.iload_n 3, 1) := by decide +kernel
theorem dX5_isNoWorse_34 : decode cX5_isNoWorse 34 = .ok (.if_icmp .gt 7, 3) := by decide +kernel
theorem dX5_isNoWorse_37 : decode cX5_isNoWorse 37 = .ok (.iconst 1, 1) := by decide +kernel
theorem dX5_isNoWorse_38 : decode cX5_isNoWorse 38 = .ok (.goto 4, 3) := by decide +kernel
theorem dX5_isNoWorse_41 : decode cX5_isNoWorse 41 = .ok (.iconst 0, 1) := by decide +kernel
theorem dX5_isNoWorse_42 : decode cX5_isNoWorse 42 = .ok (.istore 4, 2) := by decide +kernel
theorem dX5_isNoWorse_44 : decode cX5_isNoWorse 44 = .ok (.aload_n 0, 1) := by decide +kernel
theorem dX5_isNoWorse_45 : decode cX5_isNoWorse 45 = .ok (.iload_n 1, 1) := by decide +kernel
theorem dX5_isNoWorse_46 : decode cX5_isNoWorse 46 = .ok (.iload_n 2, 1) := by decide +kernel
theorem dX5_isNoWorse_47 : decode cX5_isNoWorse 47 = .ok (.invokevirtual 138, 3) := by decide +kernel
theorem dX5_isNoWorse_50 : decode cX5_isNoWorse 50 = .ok (.iload 4, 2) := by decide +kernel
theorem dX5_isNoWorse_52 : decode cX5_isNoWorse 52 = .ok (.ireturn, 1) := by decide +kernel
theorem dX5_odds_0 : decode cX5_odds 0 = .ok (.iload_n 1, 1) := by decide +kernel
theorem dX5_odds_1 : decode cX5_odds 1 = .ok (.iconst 0, 1) := by decide +kernel
theorem dX5_odds_2 : decode cX5_odds 2 = .ok (.bipush 10, 2) := by decide +kernel
theorem dX5_odds_4 : decode cX5_odds 4 = .ok (.invokestatic 73, 3) := by decide +kernel
theorem dX5_odds_7 : decode cX5_odds 7 = .ok (.ifCond .eq 12, 3) := by decide +kernel
theorem dX5_odds_10 : decode cX5_odds 10 = .ok (.iload_n 2, 1) := by decide +kernel
theorem dX5_odds_11 : decode cX5_odds 11 = .ok (.iconst 0, 1) := by decide +kernel
theorem dX5_odds_12 : decode cX5_odds 12 = .ok (.iconst 1, 1) := by decide +kernel
theorem dX5_odds_13 : decode cX5_odds 13 = .ok (.invokestatic 73, 3) := by decide +kernel
theorem dX5_odds_16 : decode cX5_odds 16 = .ok (.ifCond .ne 11, 3) := by decide +kernel
theorem dX5_odds_19 : decode cX5_odds 19 = .ok (.aload_n 0, 1) := by decide +kernel
theorem dX5_odds_20 : decode cX5_odds 20 = .ok (.ldc 63, 2) := by decide +kernel
theorem dX5_odds_22 : decode cX5_odds 22 = .ok (.invokevirtual 69, 3) := by decide +kernel
theorem dX5_odds_25 : decode cX5_odds 25 = .ok (.i2l, 1) := by decide +kernel
theorem dX5_odds_26 : decode cX5_odds 26 = .ok (.lreturn, 1) := by decide +kernel
theorem dX5_odds_27 : decode cX5_odds 27 = .ok (.bipush 64, 2) := by decide +kernel
theorem dX5_odds_29 : decode cX5_odds 29 = .ok (.istore_n 3, 1) := by decide +kernel
theorem dX5_odds_30 : decode cX5_odds 30 = .ok (.iconst 0, 1) := by decide +kernel
theorem dX5_odds_31 : decode cX5_odds 31 = .ok (.istore 4, 2) := by decide +kernel
theorem dX5_odds_33 : decode cX5_odds 33 = .ok (.iconst 0, 1) := by decide +kernel
theorem dX5_odds_34 : decode cX5_odds 34 = .ok (.istore 5, 2) := by decide +kernel
theorem dX5_odds_36 : decode cX5_odds 36 = .ok (.iload 5, 2) := by decide +kernel
theorem dX5_odds_38 : decode cX5_odds 38 = .ok (.iload_n 3, 1) := by decide +kernel
theorem dX5_odds_39 : decode cX5_odds 39 = .ok (.if_icmp .ge 36, 3) := by decide +kernel
theorem dX5_odds_42 : decode cX5_odds 42 = .ok (.iload 4, 2) := by decide +kernel
theorem dX5_odds_44 : decode cX5_odds 44 = .ok (.aload_n 0, 1) := by decide +kernel
theorem dX5_odds_45 : decode cX5_odds 45 = .ok (.iload 5, 2) := by decide +kernel
theorem dX5_odds_47 : decode cX5_odds 47 = .ok (.bipush 8, 2) := by decide +kernel
theorem dX5_odds_49 : decode cX5_odds 49 = .ok (.idiv, 1) := by decide +kernel
theorem dX5_odds_50 : decode cX5_odds 50 = .ok (.iload 5, 2) := by decide +kernel
theorem dX5_odds_52 : decode cX5_odds 52 = .ok (.bipush 8, 2) := by decide +kernel
theorem dX5_odds_54 : decode cX5_odds 54 = .ok (.irem, 1) := by decide +kernel
theorem dX5_odds_55 : decode cX5_odds 55 = .ok (.invokevirtual 228, 3) := by decide +kernel
theorem dX5_odds_58 : decode cX5_odds 58 = .ok (.ifCond .eq 7, 3) := by decide +kernel
theorem dX5_odds_61 : decode cX5_odds 61 = .ok (.iconst 1, 1) := by decide +kernel
theorem dX5_odds_62 : decode cX5_odds 62 = .ok (.goto 4, 3) := by decide +kernel
theorem dX5_odds_65 : decode cX5_odds 65 = .ok (.iconst 0, 1) := by decide +kernel
theorem dX5_odds_66 : decode cX5_odds 66 = .ok (.iadd, 1) := by decide +kernel
theorem dX5_odds_67 : decode cX5_odds 67 = .ok (.istore 4, 2) := by decide +kernel
theorem dX5_odds_69 : decode cX5_odds 69 = .ok (.iinc 5 1, 3) := by decide +kernel
theorem dX5_odds_72 : decode cX5_odds 72 = .ok (.goto (-36), 3) := by decide +kernel
theorem dX5_odds_75 : decode cX5_odds 75 = .ok (.iload_n 3, 1) := by decide +kernel
theorem dX5_odds_76 : decode cX5_odds 76 = .ok (.istore 5, 2) := by decide +kernel
theorem dX5_odds_78 : decode cX5_odds 78 = .ok (.iload 4, 2) := by decide +kernel
theorem dX5_odds_80 : decode cX5_odds 80 = .ok (.istore 6, 2) := by decide +kernel
theorem dX5_odds_82 : decode cX5_odds 82 = .ok (.iload 6, 2) := by decide +kernel
theorem dX5_odds_84 : decode cX5_odds 84 = .ok (.ifCond .eq 21, 3) := by decide +kernel
theorem dX5_odds_87 : decode cX5_odds 87 = .ok (.iload 5, 2) := by decide +kernel
theorem dX5_odds_89 : decode cX5_odds 89 = .ok (.iload 6, 2) := by decide +kernel
theorem dX5_odds_91 : decode cX5_odds 91 = .ok (.irem, 1) := by decide +kernel
theorem dX5_odds_92 : decode cX5_odds 92 = .ok (.istore 7, 2) := by decide +kernel
theorem dX5_odds_94 : decode cX5_odds 94 = .ok (.iload 6, 2) := by decide +kernel
theorem dX5_odds_96 : decode cX5_odds 96 = .ok (.istore 5, 2) := by decide +kernel
theorem dX5_odds_98 : decode cX5_odds 98 = .ok (.iload 7, 2) := by decide +kernel
theorem dX5_odds_100 : decode cX5_odds 100 = .ok (.istore 6, 2) := by decide +kernel
theorem dX5_odds_102 : decode cX5_odds 102 = .ok (.goto (-20), 3) := by decide +kernel
theorem dX5_odds_105 : decode cX5_odds 105 = .ok (.lconst 1, 1) := by decide +kernel
theorem dX5_odds_106 : decode cX5_odds 106 = .ok (.lstore 7, 2) := by decide +kernel
theorem dX5_odds_108 : decode cX5_odds 108 = .ok (.iconst 0, 1) := by decide +kernel
theorem dX5_odds_109 : decode cX5_odds 109 = .ok (.istore 9, 2) := by decide +kernel
theorem dX5_odds_111 : decode cX5_odds 111 = .ok (.iload 9, 2) := by decide +kernel
theorem dX5_odds_113 : decode cX5_odds 113 = .ok (.iload_n 1, 1) := by decide +kernel
theorem dX5_odds_114 : decode cX5_odds 114 = .ok (.if_icmp .ge 28, 3) := by decide +kernel
theorem dX5_odds_117 : decode cX5_odds 117 = .ok (.lload 7, 2) := by decide +kernel
theorem dX5_odds_119 : decode cX5_odds 119 = .ok (.iload_n 2, 1) := by decide +kernel
theorem dX5_odds_120 : decode cX5_odds 120 = .ok (.ifCond .ne 8, 3) := by decide +kernel
theorem dX5_odds_123 : decode cX5_odds 123 = .ok (.iload 4, 2) := by decide +kernel
theorem dX5_odds_125 : decode cX5_odds 125 = .ok (.goto 4, 3) := by decide +kernel
theorem dX5_odds_128 : decode cX5_odds 128 = .ok (.iload_n 3, 1) := by decide +kernel
theorem dX5_odds_129 : decode cX5_odds 129 = .ok (.iload 5, 2) := by decide +kernel
theorem dX5_odds_131 : decode cX5_odds 131 = .ok (.idiv, 1) := by decide +kernel
theorem dX5_odds_132 : decode cX5_odds 132 = .ok (.i2l, 1) := by decide +kernel
theorem dX5_odds_133 : decode cX5_odds 133 = .ok (.lmul, 1) := by decide +kernel
theorem dX5_odds_134 : decode cX5_odds 134 = .ok (.lstore 7, 2) := by decide +kernel
theorem dX5_odds_136 : decode cX5_odds 136 = .ok (.iinc 9 1, 3) := by decide +kernel
theorem dX5_odds_139 : decode cX5_odds 139 = .ok (.goto (-28), 3) := by decide +kernel
theorem dX5_odds_142 : decode cX5_odds 142 = .ok (.lload 7, 2) := by decide +kernel
theorem dX5_odds_144 : decode cX5_odds 144 = .ok (.lreturn, 1) := by decide +kernel
theorem dX5_seed_0 : decode cX5_seed 0 = .ok (.aload_n 0, 1) := by decide +kernel
theorem dX5_seed_1 : decode cX5_seed 1 = .ok (.iconst 2, 1) := by decide +kernel
theorem dX5_seed_2 : decode cX5_seed 2 = .ok (.iload_n 1, 1) := by decide +kernel
theorem dX5_seed_3 : decode cX5_seed 3 = .ok (.invokevirtual 84, 3) := by decide +kernel
theorem dX5_seed_6 : decode cX5_seed 6 = .ok (.ireturn, 1) := by decide +kernel
theorem dX5_feed_0 : decode cX5_feed 0 = .ok (.iload_n 2, 1) := by decide +kernel
theorem dX5_feed_1 : decode cX5_feed 1 = .ok (.iconst 1, 1) := by decide +kernel
theorem dX5_feed_2 : decode cX5_feed 2 = .ok (.iconst 4, 1) := by decide +kernel
theorem dX5_feed_3 : decode cX5_feed 3 = .ok (.invokestatic 73, 3) := by decide +kernel
theorem dX5_feed_6 : decode cX5_feed 6 = .ok (.ifCond .ne 10, 3) := by decide +kernel
theorem dX5_feed_9 : decode cX5_feed 9 = .ok (.aload_n 0, 1) := by decide +kernel
theorem dX5_feed_10 : decode cX5_feed 10 = .ok (.ldc 63, 2) := by decide +kernel
theorem dX5_feed_12 : decode cX5_feed 12 = .ok (.invokevirtual 69, 3) := by decide +kernel
theorem dX5_feed_15 : decode cX5_feed 15 = .ok (.ireturn, 1) := by decide +kernel
theorem dX5_feed_16 : decode cX5_feed 16 = .ok (.aload_n 0, 1) := by decide +kernel
theorem dX5_feed_17 : decode cX5_feed 17 = .ok (.getfield 231, 3) := by decide +kernel
theorem dX5_feed_20 : decode cX5_feed 20 = .ok (.iload_n 2, 1) := by decide +kernel
theorem dX5_feed_21 : decode cX5_feed 21 = .ok (.iadd, 1) := by decide +kernel
theorem dX5_feed_22 : decode cX5_feed 22 = .ok (.bipush 120, 2) := by decide +kernel
theorem dX5_feed_24 : decode cX5_feed 24 = .ok (.if_icmp .le 10, 3) := by decide +kernel
theorem dX5_feed_27 : decode cX5_feed 27 = .ok (.aload_n 0, 1) := by decide +kernel
theorem dX5_feed_28 : decode cX5_feed 28 = .ok (.ldc 97, 2) := by decide +kernel
theorem dX5_feed_30 : decode cX5_feed 30 = .ok (.invokevirtual 69, 3) := by decide +kernel
theorem dX5_feed_33 : decode cX5_feed 33 = .ok (.ireturn, 1) := by decide +kernel
theorem dX5_feed_34 : decode cX5_feed 34 = .ok (.iload_n 2, 1) := by decide +kernel
theorem dX5_feed_35 : decode cX5_feed 35 = .ok (.iconst 1, 1) := by decide +kernel
theorem dX5_feed_36 : decode cX5_feed 36 = .ok (.isub, 1) := by decide +kernel
theorem dX5_feed_37 : decode cX5_feed 37 = .ok (.istore_n 3, 1) := by decide +kernel
theorem dX5_feed_38 : decode cX5_feed 38 = .ok (.iload_n 3, 1) := by decide +kernel
theorem dX5_feed_39 : decode cX5_feed 39 = .ok (.ifCond .lt 38, 3) := by decide +kernel
theorem dX5_feed_42 : decode cX5_feed 42 = .ok (.aload_n 0, 1) := by decide +kernel
theorem dX5_feed_43 : decode cX5_feed 43 = .ok (.getfield 25, 3) := by decide +kernel
theorem dX5_feed_46 : decode cX5_feed 46 = .ok (.aload_n 0, 1) := by decide +kernel
theorem dX5_feed_47 : decode cX5_feed 47 = .ok (.getfield 231, 3) := by decide +kernel
theorem dX5_feed_50 : decode cX5_feed 50 = .ok (.iload_n 1, 1) := by decide +kernel
theorem dX5_feed_51 : decode cX5_feed 51 = .ok (.bipush 8, 2) := by decide +kernel
theorem dX5_feed_53 : decode cX5_feed 53 = .ok (.iload_n 3, 1) := by decide +kernel
theorem dX5_feed_54 : decode cX5_feed 54 = .ok (.imul, 1) := by decide +kernel
theorem dX5_feed_55 : decode cX5_feed 55 = .ok (.ishr, 1) := by decide +kernel
theorem dX5_feed_56 : decode cX5_feed 56 = .ok (.sipush 255, 3) := by decide +kernel
theorem dX5_feed_59 : decode cX5_feed 59 = .ok (.iand, 1) := by decide +kernel
theorem dX5_feed_60 : decode cX5_feed 60 = .ok (.iastore, 1) := by decide +kernel
theorem dX5_feed_61 : decode cX5_feed 61 = .ok (.aload_n 0, 1) := by decide +kernel
theorem dX5_feed_62 : decode cX5_feed 62 = .ok (.dup, 1) := by decide +kernel
theorem dX5_feed_63 : decode cX5_feed 63 = .ok (.getfield 231, 3) := by decide +kernel
theorem dX5_feed_66 : decode cX5_feed 66 = .ok (.iconst 1, 1) := by decide +kernel
theorem dX5_feed_67 : decode cX5_feed 67 = .ok (.iadd, 1) := by decide +kernel
theorem dX5_feed_68 : decode cX5_feed 68 = .ok (.putfield 231, 3) := by decide +kernel
theorem dX5_feed_71 : decode cX5_feed 71 = .ok (.iinc 3 (-1), 3) := by decide +kernel
theorem dX5_feed_74 : decode cX5_feed 74 = .ok (.goto (-36), 3) := by decide +kernel
theorem dX5_feed_77 : decode cX5_feed 77 = .ok (.aload_n 0, 1) := by decide +kernel
theorem dX5_feed_78 : decode cX5_feed 78 = .ok (.getfield 231, 3) := by decide +kernel
theorem dX5_feed_81 : decode cX5_feed 81 = .ok (.ireturn, 1) := by decide +kernel
theorem dX5_wipe_0 : decode cX5_wipe 0 = .ok (.aload_n 0, 1) := by decide +kernel
theorem dX5_wipe_1 : decode cX5_wipe 1 = .ok (.getfield 231, 3) := by decide +kernel
theorem dX5_wipe_4 : decode cX5_wipe 4 = .ok (.istore_n 1, 1) := by decide +kernel
theorem dX5_wipe_5 : decode cX5_wipe 5 = .ok (.aload_n 0, 1) := by decide +kernel
theorem dX5_wipe_6 : decode cX5_wipe 6 = .ok (.iconst 0, 1) := by decide +kernel
theorem dX5_wipe_7 : decode cX5_wipe 7 = .ok (.putfield 231, 3) := by decide +kernel
theorem dX5_wipe_10 : decode cX5_wipe 10 = .ok (.iload_n 1, 1) := by decide +kernel
theorem dX5_wipe_11 : decode cX5_wipe 11 = .ok (.ireturn, 1) := by decide +kernel
theorem dX5_byteAt_0 : decode cX5_byteAt 0 = .ok (.iload_n 1, 1) := by decide +kernel
theorem dX5_byteAt_1 : decode cX5_byteAt 1 = .ok (.aload_n 0, 1) := by decide +kernel
theorem dX5_byteAt_2 : decode cX5_byteAt 2 = .ok (.getfield 231, 3) := by decide +kernel
theorem dX5_byteAt_5 : decode cX5_byteAt 5 = .ok (.if_icmp .ge 12, 3) := by decide +kernel
theorem dX5_byteAt_8 : decode cX5_byteAt 8 = .ok (.aload_n 0, 1) := by decide +kernel
theorem dX5_byteAt_9 : decode cX5_byteAt 9 = .ok (.getfield 25, 3) := by decide +kernel
theorem dX5_byteAt_12 : decode cX5_byteAt 12 = .ok (.iload_n 1, 1) := by decide +kernel
theorem dX5_byteAt_13 : decode cX5_byteAt 13 = .ok (.iaload, 1) := by decide +kernel
theorem dX5_byteAt_14 : decode cX5_byteAt 14 = .ok (.goto 4, 3) := by decide +kernel
theorem dX5_byteAt_17 : decode cX5_byteAt 17 = .ok (.iconst (-1), 1) := by decide +kernel
theorem dX5_byteAt_18 : decode cX5_byteAt 18 = .ok (.ireturn, 1) := by decide +kernel
theorem dX5_token_0 : decode cX5_token 0 = .ok (.aload_n 0, 1) := by decide +kernel
theorem dX5_token_1 : decode cX5_token 1 = .ok (.aload_n 0, 1) := by decide +kernel
theorem dX5_token_2 : decode cX5_token 2 = .ok (.getfield 235, 3) := by decide +kernel
theorem dX5_token_5 : decode cX5_token 5 = .ok (.putfield 238, 3) := by decide +kernel
theorem dX5_token_8 : decode cX5_token 8 = .ok (.aload_n 0, 1) := by decide +kernel
theorem dX5_token_9 : decode cX5_token 9 = .ok (.aload_n 0, 1) := by decide +kernel
theorem dX5_token_10 : decode cX5_token 10 = .ok (.getfield 238, 3) := by decide +kernel
theorem dX5_token_13 : decode cX5_token 13 = .ok (.invokevirtual 241, 3) := by decide +kernel
theorem dX5_token_16 : decode cX5_token 16 = .ok (.bipush 32, 2) := by decide +kernel
theorem dX5_token_18 : decode cX5_token 18 = .ok (.if_icmp .ne 16, 3) := by decide +kernel
theorem dX5_token_21 : decode cX5_token 21 = .ok (.aload_n 0, 1) := by decide +kernel
theorem dX5_token_22 : decode cX5_token 22 = .ok (.dup, 1) := by decide +kernel
theorem dX5_token_23 : decode cX5_token 23 = .ok (.getfield 238, 3) := by decide +kernel
theorem dX5_token_26 : decode cX5_token 26 = .ok (.iconst 1, 1) := by decide +kernel
theorem dX5_token_27 : decode cX5_token 27 = .ok (.iadd, 1) := by decide +kernel
theorem dX5_token_28 : decode cX5_token 28 = .ok (.putfield 238, 3) := by decide +kernel
theorem dX5_token_31 : decode cX5_token 31 = .ok (.goto (-23), 3) := by decide +kernel
theorem dX5_token_34 : decode cX5_token 34 = .ok (.aload_n 0, 1) := by decide +kernel
theorem dX5_token_35 : decode cX5_token 35 = .ok (.aload_n 0, 1) := by decide +kernel
theorem dX5_token_36 : decode cX5_token 36 = .ok (.getfield 238, 3) := by decide +kernel
theorem dX5_token_39 : decode cX5_token 39 = .ok (.invokevirtual 241, 3) := by decide +kernel
theorem dX5_token_42 : decode cX5_token 42 = .ok (.istore_n 1, 1) := by decide +kernel
theorem dX5_token_43 : decode cX5_token 43 = .ok (.aload_n 0, 1) := by decide +kernel
theorem dX5_token_44 : decode cX5_token 44 = .ok (.aload_n 0, 1) := by decide +kernel
theorem dX5_token_45 : decode cX5_token 45 = .ok (.getfield 238, 3) := by decide +kernel
theorem dX5_token_48 : decode cX5_token 48 = .ok (.putfield 235, 3) := by decide +kernel
theorem dX5_token_51 : decode cX5_token 51 = .ok (.aload_n 0, 1) := by decide +kernel
theorem dX5_token_52 : decode cX5_token 52 = .ok (.iconst 0, 1) := by decide +kernel
theorem dX5_token_53 : decode cX5_token 53 = .ok (.putfield 244, 3) := by decide +kernel
theorem dX5_token_56 : decode cX5_token 56 = .ok (.iload_n 1, 1) := by decide +kernel
theorem dX5_token_57 : decode cX5_token 57 = .ok (.ifCond .ge 11, 3) := by decide +kernel
theorem dX5_token_60 : decode cX5_token 60 = .ok (.aload_n 0, 1) := by decide +kernel
theorem dX5_token_61 : decode cX5_token 61 = .ok (.iconst 0, 1) := by decide +kernel
theorem dX5_token_62 : decode cX5_token 62 = .ok (.putfield 247, 3) := by decide +kernel
theorem dX5_token_65 : decode cX5_token 65 = .ok (.goto 141, 3) := by decide +kernel
theorem dX5_token_68 : decode cX5_token 68 = .ok (.iload_n 1, 1) := by decide +kernel
theorem dX5_token_69 : decode cX5_token 69 = .ok (.bipush 97, 2) := by decide +kernel
theorem dX5_token_71 : decode cX5_token 71 = .ok (.bipush 122, 2) := by decide +kernel
theorem dX5_token_73 : decode cX5_token 73 = .ok (.invokestatic 73, 3) := by decide +kernel
theorem dX5_token_76 : decode cX5_token 76 = .ok (.ifCond .eq 39, 3) := by decide +kernel
theorem dX5_token_79 : decode cX5_token 79 = .ok (.aload_n 0, 1) := by decide +kernel
theorem dX5_token_80 : decode cX5_token 80 = .ok (.iconst 1, 1) := by decide +kernel
theorem dX5_token_81 : decode cX5_token 81 = .ok (.putfield 247, 3) := by decide +kernel
theorem dX5_token_84 : decode cX5_token 84 = .ok (.aload_n 0, 1) := by decide +kernel
theorem dX5_token_85 : decode cX5_token 85 = .ok (.aload_n 0, 1) := by decide +kernel
theorem dX5_token_86 : decode cX5_token 86 = .ok (.getfield 235, 3) := by decide +kernel
theorem dX5_token_89 : decode cX5_token 89 = .ok (.invokevirtual 241, 3) := by decide +kernel
theorem dX5_token_92 : decode cX5_token 92 = .ok (.bipush 97, 2) := by decide +kernel
theorem dX5_token_94 : decode cX5_token 94 = .ok (.bipush 122, 2) := by decide +kernel
theorem dX5_token_96 : decode cX5_token 96 = .ok (.invokestatic 73, 3) := by decide +kernel
theorem dX5_token_99 : decode cX5_token 99 = .ok (.ifCond .eq 107, 3) := by decide +kernel
theorem dX5_token_102 : decode cX5_token 102 = .ok (.aload_n 0, 1) := by decide +kernel
theorem dX5_token_103 : decode cX5_token 103 = .ok (.dup, 1) := by decide +kernel
theorem dX5_token_104 : decode cX5_token 104 = .ok (.getfield 235, 3) := by decide +kernel
theorem dX5_token_107 : decode cX5_token 107 = .ok (.iconst 1, 1) := by decide +kernel
theorem dX5_token_108 : decode cX5_token 108 = .ok (.iadd, 1) := by decide +kernel
theorem dX5_token_109 : decode cX5_token 109 = .ok (.putfield 235, 3) := by decide +kernel
theorem dX5_token_112 : decode cX5_token 112 = .ok (.goto (-28), 3) := by decide +kernel
theorem dX5_token_115 : decode cX5_token 115 = .ok (.iload_n 1, 1) := by decide +kernel
theorem dX5_token_116 : decode cX5_token 116 = .ok (.bipush 48, 2) := by decide +kernel
theorem dX5_token_118 : decode cX5_token 118 = .ok (.bipush 57, 2) := by decide +kernel
theorem dX5_token_120 : decode cX5_token 120 = .ok (.invokestatic 73, 3) := by decide +kernel
theorem dX5_token_123 : decode cX5_token 123 = .ok (.ifCond .eq 68, 3) := by decide +kernel
theorem dX5_token_126 : decode cX5_token 126 = .ok (.aload_n 0, 1) := by decide +kernel
theorem dX5_token_127 : decode cX5_token 127 = .ok (.iconst 2, 1) := by decide +kernel
theorem dX5_token_128 : decode cX5_token 128 = .ok (.putfield 247, 3) := by decide +kernel
theorem dX5_token_131 : decode cX5_token 131 = .ok (.aload_n 0, 1) := by decide +kernel
theorem dX5_token_132 : decode cX5_token 132 = .ok (.aload_n 0, 1) := by decide +kernel
theorem dX5_token_133 : decode cX5_token 133 = .ok (.getfield 235, 3) := by decide +kernel
theorem dX5_token_136 : decode cX5_token 136 = .ok (.invokevirtual 241, 3) := by decide +kernel
theorem dX5_token_139 : decode cX5_token 139 = .ok (.bipush 48, 2) := by decide +kernel
theorem dX5_token_141 : decode cX5_token 141 = .ok (.bipush 57, 2) := by decide +kernel
theorem dX5_token_143 : decode cX5_token 143 = .ok (.invokestatic 73, 3) := by decide +kernel
theorem dX5_token_146 : decode cX5_token 146 = .ok (.ifCond .eq 60, 3) := by decide +kernel
theorem dX5_token_149 : decode cX5_token 149 = .ok (.aload_n 0, 1) := by decide +kernel
theorem dX5_token_150 : decode cX5_token 150 = .ok (.sipush 10000, 3) := by decide +kernel
theorem dX5_token_153 : decode cX5_token 153 = .ok (.bipush 10, 2) := by decide +kernel
theorem dX5_token_155 : decode cX5_token 155 = .ok (.aload_n 0, 1) := by decide +kernel
theorem dX5_token_156 : decode cX5_token 156 = .ok (.getfield 244, 3) := by decide +kernel
theorem dX5_token_159 : decode cX5_token 159 = .ok (.imul, 1) := by decide +kernel
theorem dX5_token_160 : decode cX5_token 160 = .ok (.aload_n 0, 1) := by decide +kernel
theorem dX5_token_161 : decode cX5_token 161 = .ok (.aload_n 0, 1) := by decide +kernel
theorem dX5_token_162 : decode cX5_token 162 = .ok (.getfield 235, 3) := by decide +kernel
theorem dX5_token_165 : decode cX5_token 165 = .ok (.invokevirtual 241, 3) := by decide +kernel
theorem dX5_token_168 : decode cX5_token 168 = .ok (.iadd, 1) := by decide +kernel
theorem dX5_token_169 : decode cX5_token 169 = .ok (.bipush 48, 2) := by decide +kernel
theorem dX5_token_171 : decode cX5_token 171 = .ok (.isub, 1) := by decide +kernel
theorem dX5_token_172 : decode cX5_token 172 = .ok (.invokestatic 150, 3) := by decide +kernel
theorem dX5_token_175 : decode cX5_token 175 = .ok (.putfield 244, 3) := by decide +kernel
theorem dX5_token_178 : decode cX5_token 178 = .ok (.aload_n 0, 1) := by decide +kernel
theorem dX5_token_179 : decode cX5_token 179 = .ok (.dup, 1) := by decide +kernel
theorem dX5_token_180 : decode cX5_token 180 = .ok (.getfield 235, 3) := by decide +kernel
theorem dX5_token_183 : decode cX5_token 183 = .ok (.iconst 1, 1) := by decide +kernel
theorem dX5_token_184 : decode cX5_token 184 = .ok (.iadd, 1) := by decide +kernel
theorem dX5_token_185 : decode cX5_token 185 = .ok (.putfield 235, 3) := by decide +kernel
theorem dX5_token_188 : decode cX5_token 188 = .ok (.goto (-57), 3) := by decide +kernel
theorem dX5_token_191 : decode cX5_token 191 = .ok (.aload_n 0, 1) := by decide +kernel
theorem dX5_token_192 : decode cX5_token 192 = .ok (.iconst 3, 1) := by decide +kernel
theorem dX5_token_193 : decode cX5_token 193 = .ok (.putfield 247, 3) := by decide +kernel
theorem dX5_token_196 : decode cX5_token 196 = .ok (.aload_n 0, 1) := by decide +kernel
theorem dX5_token_197 : decode cX5_token 197 = .ok (.dup, 1) := by decide +kernel
theorem dX5_token_198 : decode cX5_token 198 = .ok (.getfield 235, 3) := by decide +kernel
theorem dX5_token_201 : decode cX5_token 201 = .ok (.iconst 1, 1) := by decide +kernel
theorem dX5_token_202 : decode cX5_token 202 = .ok (.iadd, 1) := by decide +kernel
theorem dX5_token_203 : decode cX5_token 203 = .ok (.putfield 235, 3) := by decide +kernel
theorem dX5_token_206 : decode cX5_token 206 = .ok (.return_, 1) := by decide +kernel
theorem dX5_isWord_0 : decode cX5_isWord 0 = .ok (.aload_n 0, 1) := by decide +kernel
theorem dX5_isWord_1 : decode cX5_isWord 1 = .ok (.getfield 247, 3) := by decide +kernel
theorem dX5_isWord_4 : decode cX5_isWord 4 = .ok (.iconst 1, 1) := by decide +kernel
theorem dX5_isWord_5 : decode cX5_isWord 5 = .ok (.if_icmp .ne 23, 3) := by decide +kernel
theorem dX5_isWord_8 : decode cX5_isWord 8 = .ok (.aload_n 0, 1) := by decide +kernel
theorem dX5_isWord_9 : decode cX5_isWord 9 = .ok (.getfield 235, 3) := by decide +kernel
theorem dX5_isWord_12 : decode cX5_isWord 12 = .ok (.aload_n 0, 1) := by decide +kernel
theorem dX5_isWord_13 : decode cX5_isWord 13 = .ok (.getfield 238, 3) := by decide +kernel
theorem dX5_isWord_16 : decode cX5_isWord 16 = .ok (.isub, 1) := by decide +kernel
theorem dX5_isWord_17 : decode cX5_isWord 17 = .ok (.aload_n 1, 1) := by decide +kernel
theorem dX5_isWord_18 : decode cX5_isWord 18 = .ok (.invokevirtual 250, 3) := by decide +kernel
theorem dX5_isWord_21 : decode cX5_isWord 21 = .ok (.if_icmp .ne 7, 3) := by decide +kernel
theorem dX5_isWord_24 : decode cX5_isWord 24 = .ok (.iconst 1, 1) := by decide +kernel
theorem dX5_isWord_25 : decode cX5_isWord 25 = .ok (.goto 4, 3) := by decide +kernel
theorem dX5_isWord_28 : decode cX5_isWord 28 = .ok (.iconst 0, 1) := by decide +kernel
theorem dX5_isWord_29 : decode cX5_isWord 29 = .ok (.istore_n 2, 1) := by decide +kernel
theorem dX5_isWord_30 : decode cX5_isWord 30 = .ok (.iconst 0, 1) := by decide +kernel
theorem dX5_isWord_31 : decode cX5_isWord 31 = .ok (.istore_n 3, 1) := by decide +kernel
theorem dX5_isWord_32 : decode cX5_isWord 32 = .ok (.iload_n 3, 1) := by decide +kernel
theorem dX5_isWord_33 : decode cX5_isWord 33 = .ok (.aload_n 1, 1) := by decide +kernel
theorem dX5_isWord_34 : decode cX5_isWord 34 = .ok (.invokevirtual 250, 3) := by decide +kernel
theorem dX5_isWord_37 : decode cX5_isWord 37 = .ok (.if_icmp .ge 38, 3) := by decide +kernel
theorem dX5_isWord_40 : decode cX5_isWord 40 = .ok (.iload_n 2, 1) := by decide +kernel
theorem dX5_isWord_41 : decode cX5_isWord 41 = .ok (.ifCond .eq 34, 3) := by decide +kernel
theorem dX5_isWord_44 : decode cX5_isWord 44 = .ok (.aload_n 0, 1) := by decide +kernel
theorem dX5_isWord_45 : decode cX5_isWord 45 = .ok (.getfield 25, 3) := by decide +kernel
theorem dX5_isWord_48 : decode cX5_isWord 48 = .ok (.aload_n 0, 1) := by decide +kernel
theorem dX5_isWord_49 : decode cX5_isWord 49 = .ok (.getfield 238, 3) := by decide +kernel
theorem dX5_isWord_52 : decode cX5_isWord 52 = .ok (.iload_n 3, 1) := by decide +kernel
theorem dX5_isWord_53 : decode cX5_isWord 53 = .ok (.iadd, 1) := by decide +kernel
theorem dX5_isWord_54 : decode cX5_isWord 54 = .ok (.iaload, 1) := by decide +kernel
theorem dX5_isWord_55 : decode cX5_isWord 55 = .ok (.aload_n 1, 1) := by decide +kernel
theorem dX5_isWord_56 : decode cX5_isWord 56 = .ok (.iload_n 3, 1) := by decide +kernel
theorem dX5_isWord_57 : decode cX5_isWord 57 = .ok (.invokevirtual 253, 3) := by decide +kernel
theorem dX5_isWord_60 : decode cX5_isWord 60 = .ok (.if_icmp .ne 7, 3) := by decide +kernel
theorem dX5_isWord_63 : decode cX5_isWord 63 = .ok (.iconst 1, 1) := by decide +kernel
theorem dX5_isWord_64 : decode cX5_isWord 64 = .ok (.goto 4, 3) := by decide +kernel
theorem dX5_isWord_67 : decode cX5_isWord 67 = .ok (.iconst 0, 1) := by decide +kernel
theorem dX5_isWord_68 : decode cX5_isWord 68 = .ok (.istore_n 2, 1) := by decide +kernel
theorem dX5_isWord_69 : decode cX5_isWord 69 = .ok (.iinc 3 1, 3) := by decide +kernel
theorem dX5_isWord_72 : decode cX5_isWord 72 = .ok (.goto (-40), 3) := by decide +kernel
theorem dX5_isWord_75 : decode cX5_isWord 75 = .ok (.iload_n 2, 1) := by decide +kernel
theorem dX5_isWord_76 : decode cX5_isWord 76 = .ok (.ireturn, 1) := by decide +kernel
theorem dX5_must_0 : decode cX5_must 0 = .ok (.aload_n 0, 1) := by decide +kernel
theorem dX5_must_1 : decode cX5_must 1 = .ok (.aload_n 0, 1) := by decide +kernel
theorem dX5_must_2 : decode cX5_must 2 = .ok (.getfield 257, 3) := by decide +kernel
theorem dX5_must_5 : decode cX5_must 5 = .ok (.ifCond .ne 7, 3) := by decide +kernel
theorem dX5_must_8 : decode cX5_must 8 = .ok (.iload_n 1, 1) := by decide +kernel
theorem dX5_must_9 : decode cX5_must 9 = .ok (.ifCond .ne 7, 3) := by decide +kernel
theorem dX5_must_12 : decode cX5_must 12 = .ok (.iconst 1, 1) := by decide +kernel
theorem dX5_must_13 : decode cX5_must 13 = .ok (.goto 4, 3) := by decide +kernel
theorem dX5_must_16 : decode cX5_must 16 = .ok (.iconst 0, 1) := by decide +kernel
theorem dX5_must_17 : decode cX5_must 17 = .ok (.putfield 257, 3) := by decide +kernel
theorem dX5_must_20 : decode cX5_must 20 = .ok (.aload_n 0, 1) := by decide +kernel
theorem dX5_must_21 : decode cX5_must 21 = .ok (.getfield 257, 3) := by decide +kernel
theorem dX5_must_24 : decode cX5_must 24 = .ok (.ifCond .ne 7, 3) := by decide +kernel
theorem dX5_must_27 : decode cX5_must 27 = .ok (.aload_n 0, 1) := by decide +kernel
theorem dX5_must_28 : decode cX5_must 28 = .ok (.invokevirtual 261, 3) := by decide +kernel
theorem dX5_must_31 : decode cX5_must 31 = .ok (.return_, 1) := by decide +kernel
theorem dX5_number_0 : decode cX5_number 0 = .ok (.aload_n 0, 1) := by decide +kernel
theorem dX5_number_1 : decode cX5_number 1 = .ok (.getfield 244, 3) := by decide +kernel
theorem dX5_number_4 : decode cX5_number 4 = .ok (.istore_n 3, 1) := by decide +kernel
theorem dX5_number_5 : decode cX5_number 5 = .ok (.aload_n 0, 1) := by decide +kernel
theorem dX5_number_6 : decode cX5_number 6 = .ok (.aload_n 0, 1) := by decide +kernel
theorem dX5_number_7 : decode cX5_number 7 = .ok (.getfield 247, 3) := by decide +kernel
theorem dX5_number_10 : decode cX5_number 10 = .ok (.iconst 2, 1) := by decide +kernel
theorem dX5_number_11 : decode cX5_number 11 = .ok (.if_icmp .ne 16, 3) := by decide +kernel
theorem dX5_number_14 : decode cX5_number 14 = .ok (.iload_n 3, 1) := by decide +kernel
theorem dX5_number_15 : decode cX5_number 15 = .ok (.iload_n 1, 1) := by decide +kernel
theorem dX5_number_16 : decode cX5_number 16 = .ok (.iload_n 2, 1) := by decide +kernel
theorem dX5_number_17 : decode cX5_number 17 = .ok (.invokestatic 73, 3) := by decide +kernel
theorem dX5_number_20 : decode cX5_number 20 = .ok (.ifCond .eq 7, 3) := by decide +kernel
theorem dX5_number_23 : decode cX5_number 23 = .ok (.iconst 1, 1) := by decide +kernel
theorem dX5_number_24 : decode cX5_number 24 = .ok (.goto 4, 3) := by decide +kernel
theorem dX5_number_27 : decode cX5_number 27 = .ok (.iconst 0, 1) := by decide +kernel
theorem dX5_number_28 : decode cX5_number 28 = .ok (.invokevirtual 264, 3) := by decide +kernel
theorem dX5_number_31 : decode cX5_number 31 = .ok (.iload_n 3, 1) := by decide +kernel
theorem dX5_number_32 : decode cX5_number 32 = .ok (.ireturn, 1) := by decide +kernel
theorem dX5_addItem_0 : decode cX5_addItem 0 = .ok (.iconst 5, 1) := by decide +kernel
theorem dX5_addItem_1 : decode cX5_addItem 1 = .ok (.aload_n 0, 1) := by decide +kernel
theorem dX5_addItem_2 : decode cX5_addItem 2 = .ok (.getfield 268, 3) := by decide +kernel
theorem dX5_addItem_5 : decode cX5_addItem 5 = .ok (.imul, 1) := by decide +kernel
theorem dX5_addItem_6 : decode cX5_addItem 6 = .ok (.istore 6, 2) := by decide +kernel
theorem dX5_addItem_8 : decode cX5_addItem 8 = .ok (.aload_n 0, 1) := by decide +kernel
theorem dX5_addItem_9 : decode cX5_addItem 9 = .ok (.getfield 48, 3) := by decide +kernel
theorem dX5_addItem_12 : decode cX5_addItem 12 = .ok (.iload 6, 2) := by decide +kernel
theorem dX5_addItem_14 : decode cX5_addItem 14 = .ok (.iload_n 1, 1) := by decide +kernel
theorem dX5_addItem_15 : decode cX5_addItem 15 = .ok (.iastore, 1) := by decide +kernel
theorem dX5_addItem_16 : decode cX5_addItem 16 = .ok (.aload_n 0, 1) := by decide +kernel
theorem dX5_addItem_17 : decode cX5_addItem 17 = .ok (.getfield 48, 3) := by decide +kernel
theorem dX5_addItem_20 : decode cX5_addItem 20 = .ok (.iload 6, 2) := by decide +kernel
theorem dX5_addItem_22 : decode cX5_addItem 22 = .ok (.iconst 1, 1) := by decide +kernel
theorem dX5_addItem_23 : decode cX5_addItem 23 = .ok (.iadd, 1) := by decide +kernel
theorem dX5_addItem_24 : decode cX5_addItem 24 = .ok (.iload_n 2, 1) := by decide +kernel
theorem dX5_addItem_25 : decode cX5_addItem 25 = .ok (.iastore, 1) := by decide +kernel
theorem dX5_addItem_26 : decode cX5_addItem 26 = .ok (.aload_n 0, 1) := by decide +kernel
theorem dX5_addItem_27 : decode cX5_addItem 27 = .ok (.getfield 48, 3) := by decide +kernel
theorem dX5_addItem_30 : decode cX5_addItem 30 = .ok (.iload 6, 2) := by decide +kernel
theorem dX5_addItem_32 : decode cX5_addItem 32 = .ok (.iconst 2, 1) := by decide +kernel
theorem dX5_addItem_33 : decode cX5_addItem 33 = .ok (.iadd, 1) := by decide +kernel
theorem dX5_addItem_34 : decode cX5_addItem 34 = .ok (.iload_n 3, 1) := by decide +kernel
theorem dX5_addItem_35 : decode cX5_addItem 35 = .ok (.iastore, 1) := by decide +kernel
theorem dX5_addItem_36 : decode cX5_addItem 36 = .ok (.aload_n 0, 1) := by decide +kernel
theorem dX5_addItem_37 : decode cX5_addItem 37 = .ok (.getfield 48, 3) := by decide +kernel
theorem dX5_addItem_40 : decode cX5_addItem 40 = .ok (.iload 6, 2) := by decide +kernel
theorem dX5_addItem_42 : decode cX5_addItem 42 = .ok (.iconst 3, 1) := by decide +kernel
theorem dX5_addItem_43 : decode cX5_addItem 43 = .ok (.iadd, 1) := by decide +kernel
theorem dX5_addItem_44 : decode cX5_addItem 44 = .ok (.iload 4, 2) := by decide +kernel
theorem dX5_addItem_46 : decode cX5_addItem 46 = .ok (.iastore, 1) := by decide +kernel
theorem dX5_addItem_47 : decode cX5_addItem 47 = .ok (.aload_n 0, 1) := by decide +kernel
theorem dX5_addItem_48 : decode cX5_addItem 48 = .ok (.getfield 48, 3) := by decide +kernel
theorem dX5_addItem_51 : decode cX5_addItem 51 = .ok (.iload 6, 2) := by decide +kernel
theorem dX5_addItem_53 : decode cX5_addItem 53 = .ok (.iconst 4, 1) := by decide +kernel
theorem dX5_addItem_54 : decode cX5_addItem 54 = .ok (.iadd, 1) := by decide +kernel
theorem dX5_addItem_55 : decode cX5_addItem 55 = .ok (.iload 5, 2) := by decide +kernel
theorem dX5_addItem_57 : decode cX5_addItem 57 = .ok (.iastore, 1) := by decide +kernel
theorem dX5_addItem_58 : decode cX5_addItem 58 = .ok (.aload_n 0, 1) := by decide +kernel
theorem dX5_addItem_59 : decode cX5_addItem 59 = .ok (.dup, 1) := by decide +kernel
theorem dX5_addItem_60 : decode cX5_addItem 60 = .ok (.getfield 268, 3) := by decide +kernel
theorem dX5_addItem_63 : decode cX5_addItem 63 = .ok (.iconst 1, 1) := by decide +kernel
theorem dX5_addItem_64 : decode cX5_addItem 64 = .ok (.iadd, 1) := by decide +kernel
theorem dX5_addItem_65 : decode cX5_addItem 65 = .ok (.putfield 268, 3) := by decide +kernel
theorem dX5_addItem_68 : decode cX5_addItem 68 = .ok (.return_, 1) := by decide +kernel
theorem dX5_takesWord_0 : decode cX5_takesWord 0 = .ok (.aload_n 0, 1) := by decide +kernel
theorem dX5_takesWord_1 : decode cX5_takesWord 1 = .ok (.getfield 257, 3) := by decide +kernel
theorem dX5_takesWord_4 : decode cX5_takesWord 4 = .ok (.ifCond .ne 15, 3) := by decide +kernel
theorem dX5_takesWord_7 : decode cX5_takesWord 7 = .ok (.aload_n 0, 1) := by decide +kernel
theorem dX5_takesWord_8 : decode cX5_takesWord 8 = .ok (.aload_n 1, 1) := by decide +kernel
theorem dX5_takesWord_9 : decode cX5_takesWord 9 = .ok (.invokevirtual 271, 3) := by decide +kernel
theorem dX5_takesWord_12 : decode cX5_takesWord 12 = .ok (.ifCond .eq 7, 3) := by decide +kernel
theorem dX5_takesWord_15 : decode cX5_takesWord 15 = .ok (.iconst 1, 1) := by decide +kernel
theorem dX5_takesWord_16 : decode cX5_takesWord 16 = .ok (.goto 4, 3) := by decide +kernel
theorem dX5_takesWord_19 : decode cX5_takesWord 19 = .ok (.iconst 0, 1) := by decide +kernel
theorem dX5_takesWord_20 : decode cX5_takesWord 20 = .ok (.istore_n 2, 1) := by decide +kernel
theorem dX5_takesWord_21 : decode cX5_takesWord 21 = .ok (.iload_n 2, 1) := by decide +kernel
theorem dX5_takesWord_22 : decode cX5_takesWord 22 = .ok (.ifCond .eq 8, 3) := by decide +kernel
theorem dX5_takesWord_25 : decode cX5_takesWord 25 = .ok (.aload_n 0, 1) := by decide +kernel
theorem dX5_takesWord_26 : decode cX5_takesWord 26 = .ok (.iconst 1, 1) := by decide +kernel
theorem dX5_takesWord_27 : decode cX5_takesWord 27 = .ok (.invokevirtual 264, 3) := by decide +kernel
theorem dX5_takesWord_30 : decode cX5_takesWord 30 = .ok (.iload_n 2, 1) := by decide +kernel
theorem dX5_takesWord_31 : decode cX5_takesWord 31 = .ok (.ireturn, 1) := by decide +kernel
theorem dX5_readPiece_0 : decode cX5_readPiece 0 = .ok (.aload_n 0, 1) := by decide +kernel
theorem dX5_readPiece_1 : decode cX5_readPiece 1 = .ok (.aload_n 0, 1) := by decide +kernel
theorem dX5_readPiece_2 : decode cX5_readPiece 2 = .ok (.getfield 275, 3) := by decide +kernel
theorem dX5_readPiece_5 : decode cX5_readPiece 5 = .ok (.bipush 8, 2) := by decide +kernel
theorem dX5_readPiece_7 : decode cX5_readPiece 7 = .ok (.if_icmp .ge 7, 3) := by decide +kernel
theorem dX5_readPiece_10 : decode cX5_readPiece 10 = .ok (.iconst 1, 1) := by decide +kernel
theorem dX5_readPiece_11 : decode cX5_readPiece 11 = .ok (.goto 4, 3) := by decide +kernel
theorem dX5_readPiece_14 : decode cX5_readPiece 14 = .ok (.iconst 0, 1) := by decide +kernel
theorem dX5_readPiece_15 : decode cX5_readPiece 15 = .ok (.invokevirtual 264, 3) := by decide +kernel
theorem dX5_readPiece_18 : decode cX5_readPiece 18 = .ok (.aload_n 0, 1) := by decide +kernel
theorem dX5_readPiece_19 : decode cX5_readPiece 19 = .ok (.iconst 0, 1) := by decide +kernel
theorem dX5_readPiece_20 : decode cX5_readPiece 20 = .ok (.bipush 9, 2) := by decide +kernel
theorem dX5_readPiece_22 : decode cX5_readPiece 22 = .ok (.invokevirtual 278, 3) := by decide +kernel
theorem dX5_readPiece_25 : decode cX5_readPiece 25 = .ok (.istore_n 2, 1) := by decide +kernel
theorem dX5_readPiece_26 : decode cX5_readPiece 26 = .ok (.aload_n 0, 1) := by decide +kernel
theorem dX5_readPiece_27 : decode cX5_readPiece 27 = .ok (.iconst 0, 1) := by decide +kernel
theorem dX5_readPiece_28 : decode cX5_readPiece 28 = .ok (.bipush 9, 2) := by decide +kernel
theorem dX5_readPiece_30 : decode cX5_readPiece 30 = .ok (.invokevirtual 278, 3) := by decide +kernel
theorem dX5_readPiece_33 : decode cX5_readPiece 33 = .ok (.istore_n 3, 1) := by decide +kernel
theorem dX5_readPiece_34 : decode cX5_readPiece 34 = .ok (.aload_n 0, 1) := by decide +kernel
theorem dX5_readPiece_35 : decode cX5_readPiece 35 = .ok (.ldc_w 281, 3) := by decide +kernel
theorem dX5_readPiece_38 : decode cX5_readPiece 38 = .ok (.invokevirtual 283, 3) := by decide +kernel
theorem dX5_readPiece_41 : decode cX5_readPiece 41 = .ok (.ifCond .eq 13, 3) := by decide +kernel
theorem dX5_readPiece_44 : decode cX5_readPiece 44 = .ok (.aload_n 0, 1) := by decide +kernel
theorem dX5_readPiece_45 : decode cX5_readPiece 45 = .ok (.iconst 0, 1) := by decide +kernel
theorem dX5_readPiece_46 : decode cX5_readPiece 46 = .ok (.bipush 7, 2) := by decide +kernel
theorem dX5_readPiece_48 : decode cX5_readPiece 48 = .ok (.invokevirtual 278, 3) := by decide +kernel
theorem dX5_readPiece_51 : decode cX5_readPiece 51 = .ok (.goto 4, 3) := by decide +kernel
theorem dX5_readPiece_54 : decode cX5_readPiece 54 = .ok (.iconst (-1), 1) := by decide +kernel
theorem dX5_readPiece_55 : decode cX5_readPiece 55 = .ok (.istore 4, 2) := by decide +kernel
theorem dX5_readPiece_57 : decode cX5_readPiece 57 = .ok (.aload_n 0, 1) := by decide +kernel
theorem dX5_readPiece_58 : decode cX5_readPiece 58 = .ok (.iload_n 1, 1) := by decide +kernel
theorem dX5_readPiece_59 : decode cX5_readPiece 59 = .ok (.iload_n 2, 1) := by decide +kernel
theorem dX5_readPiece_60 : decode cX5_readPiece 60 = .ok (.iload_n 3, 1) := by decide +kernel
theorem dX5_readPiece_61 : decode cX5_readPiece 61 = .ok (.iload 4, 2) := by decide +kernel
theorem dX5_readPiece_63 : decode cX5_readPiece 63 = .ok (.aload_n 0, 1) := by decide +kernel
theorem dX5_readPiece_64 : decode cX5_readPiece 64 = .ok (.ldc_w 286, 3) := by decide +kernel
theorem dX5_readPiece_67 : decode cX5_readPiece 67 = .ok (.invokevirtual 283, 3) := by decide +kernel
theorem dX5_readPiece_70 : decode cX5_readPiece 70 = .ok (.ifCond .eq 7, 3) := by decide +kernel
theorem dX5_readPiece_73 : decode cX5_readPiece 73 = .ok (.iconst 1, 1) := by decide +kernel
theorem dX5_readPiece_74 : decode cX5_readPiece 74 = .ok (.goto 4, 3) := by decide +kernel
theorem dX5_readPiece_77 : decode cX5_readPiece 77 = .ok (.iconst 0, 1) := by decide +kernel
theorem dX5_readPiece_78 : decode cX5_readPiece 78 = .ok (.invokevirtual 288, 3) := by decide +kernel
theorem dX5_readPiece_81 : decode cX5_readPiece 81 = .ok (.aload_n 0, 1) := by decide +kernel
theorem dX5_readPiece_82 : decode cX5_readPiece 82 = .ok (.dup, 1) := by decide +kernel
theorem dX5_readPiece_83 : decode cX5_readPiece 83 = .ok (.getfield 275, 3) := by decide +kernel
theorem dX5_readPiece_86 : decode cX5_readPiece 86 = .ok (.iconst 1, 1) := by decide +kernel
theorem dX5_readPiece_87 : decode cX5_readPiece 87 = .ok (.iadd, 1) := by decide +kernel
theorem dX5_readPiece_88 : decode cX5_readPiece 88 = .ok (.putfield 275, 3) := by decide +kernel
theorem dX5_readPiece_91 : decode cX5_readPiece 91 = .ok (.return_, 1) := by decide +kernel
theorem dX5_readItem_0 : decode cX5_readItem 0 = .ok (.iconst (-1), 1) := by decide +kernel
theorem dX5_readItem_1 : decode cX5_readItem 1 = .ok (.istore_n 1, 1) := by decide +kernel
theorem dX5_readItem_2 : decode cX5_readItem 2 = .ok (.iconst 0, 1) := by decide +kernel
theorem dX5_readItem_3 : decode cX5_readItem 3 = .ok (.istore_n 2, 1) := by decide +kernel
theorem dX5_readItem_4 : decode cX5_readItem 4 = .ok (.iload_n 2, 1) := by decide +kernel
theorem dX5_readItem_5 : decode cX5_readItem 5 = .ok (.aload_n 0, 1) := by decide +kernel
theorem dX5_readItem_6 : decode cX5_readItem 6 = .ok (.getfield 44, 3) := by decide +kernel
theorem dX5_readItem_9 : decode cX5_readItem 9 = .ok (.arraylength, 1) := by decide +kernel
theorem dX5_readItem_10 : decode cX5_readItem 10 = .ok (.if_icmp .ge 28, 3) := by decide +kernel
theorem dX5_readItem_13 : decode cX5_readItem 13 = .ok (.aload_n 0, 1) := by decide +kernel
theorem dX5_readItem_14 : decode cX5_readItem 14 = .ok (.aload_n 0, 1) := by decide +kernel
theorem dX5_readItem_15 : decode cX5_readItem 15 = .ok (.getfield 44, 3) := by decide +kernel
theorem dX5_readItem_18 : decode cX5_readItem 18 = .ok (.iload_n 2, 1) := by decide +kernel
theorem dX5_readItem_19 : decode cX5_readItem 19 = .ok (.aaload, 1) := by decide +kernel
theorem dX5_readItem_20 : decode cX5_readItem 20 = .ok (.invokevirtual 271, 3) := by decide +kernel
theorem dX5_readItem_23 : decode cX5_readItem 23 = .ok (.ifCond .eq 7, 3) := by decide +kernel
theorem dX5_readItem_26 : decode cX5_readItem 26 = .ok (.iload_n 2, 1) := by decide +kernel
theorem dX5_readItem_27 : decode cX5_readItem 27 = .ok (.goto 4, 3) := by decide +kernel
theorem dX5_readItem_30 : decode cX5_readItem 30 = .ok (.iload_n 1, 1) := by decide +kernel
theorem dX5_readItem_31 : decode cX5_readItem 31 = .ok (.istore_n 1, 1) := by decide +kernel
theorem dX5_readItem_32 : decode cX5_readItem 32 = .ok (.iinc 2 1, 3) := by decide +kernel
theorem dX5_readItem_35 : decode cX5_readItem 35 = .ok (.goto (-31), 3) := by decide +kernel
theorem dX5_readItem_38 : decode cX5_readItem 38 = .ok (.iload_n 1, 1) := by decide +kernel
theorem dX5_readItem_39 : decode cX5_readItem 39 = .ok (.ifCond .lt 11, 3) := by decide +kernel
theorem dX5_readItem_42 : decode cX5_readItem 42 = .ok (.aload_n 0, 1) := by decide +kernel
theorem dX5_readItem_43 : decode cX5_readItem 43 = .ok (.iload_n 1, 1) := by decide +kernel
theorem dX5_readItem_44 : decode cX5_readItem 44 = .ok (.invokevirtual 292, 3) := by decide +kernel
theorem dX5_readItem_47 : decode cX5_readItem 47 = .ok (.goto 97, 3) := by decide +kernel
theorem dX5_readItem_50 : decode cX5_readItem 50 = .ok (.aload_n 0, 1) := by decide +kernel
theorem dX5_readItem_51 : decode cX5_readItem 51 = .ok (.ldc_w 295, 3) := by decide +kernel
theorem dX5_readItem_54 : decode cX5_readItem 54 = .ok (.invokevirtual 283, 3) := by decide +kernel
theorem dX5_readItem_57 : decode cX5_readItem 57 = .ok (.ifCond .eq 37, 3) := by decide +kernel
theorem dX5_readItem_60 : decode cX5_readItem 60 = .ok (.aload_n 0, 1) := by decide +kernel
theorem dX5_readItem_61 : decode cX5_readItem 61 = .ok (.iconst 0, 1) := by decide +kernel
theorem dX5_readItem_62 : decode cX5_readItem 62 = .ok (.iconst 5, 1) := by decide +kernel
theorem dX5_readItem_63 : decode cX5_readItem 63 = .ok (.invokevirtual 278, 3) := by decide +kernel
theorem dX5_readItem_66 : decode cX5_readItem 66 = .ok (.istore_n 2, 1) := by decide +kernel
theorem dX5_readItem_67 : decode cX5_readItem 67 = .ok (.aload_n 0, 1) := by decide +kernel
theorem dX5_readItem_68 : decode cX5_readItem 68 = .ok (.iconst 0, 1) := by decide +kernel
theorem dX5_readItem_69 : decode cX5_readItem 69 = .ok (.bipush 7, 2) := by decide +kernel
theorem dX5_readItem_71 : decode cX5_readItem 71 = .ok (.invokevirtual 278, 3) := by decide +kernel
theorem dX5_readItem_74 : decode cX5_readItem 74 = .ok (.istore_n 3, 1) := by decide +kernel
theorem dX5_readItem_75 : decode cX5_readItem 75 = .ok (.aload_n 0, 1) := by decide +kernel
theorem dX5_readItem_76 : decode cX5_readItem 76 = .ok (.bipush 10, 2) := by decide +kernel
theorem dX5_readItem_78 : decode cX5_readItem 78 = .ok (.iload_n 2, 1) := by decide +kernel
theorem dX5_readItem_79 : decode cX5_readItem 79 = .ok (.iload_n 3, 1) := by decide +kernel
theorem dX5_readItem_80 : decode cX5_readItem 80 = .ok (.aload_n 0, 1) := by decide +kernel
theorem dX5_readItem_81 : decode cX5_readItem 81 = .ok (.iconst 0, 1) := by decide +kernel
theorem dX5_readItem_82 : decode cX5_readItem 82 = .ok (.bipush 7, 2) := by decide +kernel
theorem dX5_readItem_84 : decode cX5_readItem 84 = .ok (.invokevirtual 278, 3) := by decide +kernel
theorem dX5_readItem_87 : decode cX5_readItem 87 = .ok (.iconst 0, 1) := by decide +kernel
theorem dX5_readItem_88 : decode cX5_readItem 88 = .ok (.invokevirtual 288, 3) := by decide +kernel
theorem dX5_readItem_91 : decode cX5_readItem 91 = .ok (.goto 53, 3) := by decide +kernel
theorem dX5_readItem_94 : decode cX5_readItem 94 = .ok (.aload_n 0, 1) := by decide +kernel
theorem dX5_readItem_95 : decode cX5_readItem 95 = .ok (.ldc_w 297, 3) := by decide +kernel
theorem dX5_readItem_98 : decode cX5_readItem 98 = .ok (.invokevirtual 283, 3) := by decide +kernel
theorem dX5_readItem_101 : decode cX5_readItem 101 = .ok (.ifCond .eq 38, 3) := by decide +kernel
theorem dX5_readItem_104 : decode cX5_readItem 104 = .ok (.aload_n 0, 1) := by decide +kernel
theorem dX5_readItem_105 : decode cX5_readItem 105 = .ok (.iconst 0, 1) := by decide +kernel
theorem dX5_readItem_106 : decode cX5_readItem 106 = .ok (.aload_n 0, 1) := by decide +kernel
theorem dX5_readItem_107 : decode cX5_readItem 107 = .ok (.getfield 275, 3) := by decide +kernel
theorem dX5_readItem_110 : decode cX5_readItem 110 = .ok (.iconst 1, 1) := by decide +kernel
theorem dX5_readItem_111 : decode cX5_readItem 111 = .ok (.isub, 1) := by decide +kernel
theorem dX5_readItem_112 : decode cX5_readItem 112 = .ok (.invokevirtual 278, 3) := by decide +kernel
theorem dX5_readItem_115 : decode cX5_readItem 115 = .ok (.istore_n 2, 1) := by decide +kernel
theorem dX5_readItem_116 : decode cX5_readItem 116 = .ok (.aload_n 0, 1) := by decide +kernel
theorem dX5_readItem_117 : decode cX5_readItem 117 = .ok (.bipush 11, 2) := by decide +kernel
theorem dX5_readItem_119 : decode cX5_readItem 119 = .ok (.iload_n 2, 1) := by decide +kernel
theorem dX5_readItem_120 : decode cX5_readItem 120 = .ok (.aload_n 0, 1) := by decide +kernel
theorem dX5_readItem_121 : decode cX5_readItem 121 = .ok (.iconst 0, 1) := by decide +kernel
theorem dX5_readItem_122 : decode cX5_readItem 122 = .ok (.aload_n 0, 1) := by decide +kernel
theorem dX5_readItem_123 : decode cX5_readItem 123 = .ok (.getfield 275, 3) := by decide +kernel
theorem dX5_readItem_126 : decode cX5_readItem 126 = .ok (.iconst 1, 1) := by decide +kernel
theorem dX5_readItem_127 : decode cX5_readItem 127 = .ok (.isub, 1) := by decide +kernel
theorem dX5_readItem_128 : decode cX5_readItem 128 = .ok (.invokevirtual 278, 3) := by decide +kernel
theorem dX5_readItem_131 : decode cX5_readItem 131 = .ok (.iconst 0, 1) := by decide +kernel
theorem dX5_readItem_132 : decode cX5_readItem 132 = .ok (.iconst 0, 1) := by decide +kernel
theorem dX5_readItem_133 : decode cX5_readItem 133 = .ok (.invokevirtual 288, 3) := by decide +kernel
theorem dX5_readItem_136 : decode cX5_readItem 136 = .ok (.goto 8, 3) := by decide +kernel
theorem dX5_readItem_139 : decode cX5_readItem 139 = .ok (.aload_n 0, 1) := by decide +kernel
theorem dX5_readItem_140 : decode cX5_readItem 140 = .ok (.iconst 0, 1) := by decide +kernel
theorem dX5_readItem_141 : decode cX5_readItem 141 = .ok (.invokevirtual 264, 3) := by decide +kernel
theorem dX5_readItem_144 : decode cX5_readItem 144 = .ok (.return_, 1) := by decide +kernel
theorem dX5_isToldSo_0 : decode cX5_isToldSo 0 = .ok (.aload_n 0, 1) := by decide +kernel
theorem dX5_isToldSo_1 : decode cX5_isToldSo 1 = .ok (.getfield 48, 3) := by decide +kernel
theorem dX5_isToldSo_4 : decode cX5_isToldSo 4 = .ok (.iload_n 1, 1) := by decide +kernel
theorem dX5_isToldSo_5 : decode cX5_isToldSo 5 = .ok (.iconst 1, 1) := by decide +kernel
theorem dX5_isToldSo_6 : decode cX5_isToldSo 6 = .ok (.iadd, 1) := by decide +kernel
theorem dX5_isToldSo_7 : decode cX5_isToldSo 7 = .ok (.iaload, 1) := by decide +kernel
theorem dX5_isToldSo_8 : decode cX5_isToldSo 8 = .ok (.istore_n 2, 1) := by decide +kernel
theorem dX5_isToldSo_9 : decode cX5_isToldSo 9 = .ok (.aload_n 0, 1) := by decide +kernel
theorem dX5_isToldSo_10 : decode cX5_isToldSo 10 = .ok (.getfield 48, 3) := by decide +kernel
theorem dX5_isToldSo_13 : decode cX5_isToldSo 13 = .ok (.iload_n 1, 1) := by decide +kernel
theorem dX5_isToldSo_14 : decode cX5_isToldSo 14 = .ok (.iconst 2, 1) := by decide +kernel
theorem dX5_isToldSo_15 : decode cX5_isToldSo 15 = .ok (.iadd, 1) := by decide +kernel
theorem dX5_isToldSo_16 : decode cX5_isToldSo 16 = .ok (.iaload, 1) := by decide +kernel
theorem dX5_isToldSo_17 : decode cX5_isToldSo 17 = .ok (.istore_n 3, 1) := by decide +kernel
theorem dX5_isToldSo_18 : decode cX5_isToldSo 18 = .ok (.aload_n 0, 1) := by decide +kernel
theorem dX5_isToldSo_19 : decode cX5_isToldSo 19 = .ok (.getfield 48, 3) := by decide +kernel
theorem dX5_isToldSo_22 : decode cX5_isToldSo 22 = .ok (.iload_n 1, 1) := by decide +kernel
theorem dX5_isToldSo_23 : decode cX5_isToldSo 23 = .ok (.iconst 3, 1) := by decide +kernel
theorem dX5_isToldSo_24 : decode cX5_isToldSo 24 = .ok (.iadd, 1) := by decide +kernel
theorem dX5_isToldSo_25 : decode cX5_isToldSo 25 = .ok (.iaload, 1) := by decide +kernel
theorem dX5_isToldSo_26 : decode cX5_isToldSo 26 = .ok (.istore 4, 2) := by decide +kernel
theorem dX5_isToldSo_28 : decode cX5_isToldSo 28 = .ok (.aload_n 0, 1) := by decide +kernel
theorem dX5_isToldSo_29 : decode cX5_isToldSo 29 = .ok (.getfield 48, 3) := by decide +kernel
theorem dX5_isToldSo_32 : decode cX5_isToldSo 32 = .ok (.iload_n 1, 1) := by decide +kernel
theorem dX5_isToldSo_33 : decode cX5_isToldSo 33 = .ok (.iaload, 1) := by decide +kernel
theorem dX5_isToldSo_34 : decode cX5_isToldSo 34 = .ok (.lookupswitch 53 #[(10, 26), (11, 44)], 26) := by decide +kernel
theorem dX5_isToldSo_60 : decode cX5_isToldSo 60 = .ok (.aload_n 0, 1) := by decide +kernel
theorem dX5_isToldSo_61 : decode cX5_isToldSo 61 = .ok (.getfield 9, 3) := by decide +kernel
theorem dX5_isToldSo_64 : decode cX5_isToldSo 64 = .ok (.iconst 3, 1) := by decide +kernel
theorem dX5_isToldSo_65 : decode cX5_isToldSo 65 = .ok (.iload_n 2, 1) := by decide +kernel
theorem dX5_isToldSo_66 : decode cX5_isToldSo 66 = .ok (.iadd, 1) := by decide +kernel
theorem dX5_isToldSo_67 : decode cX5_isToldSo 67 = .ok (.bipush 10, 2) := by decide +kernel
theorem dX5_isToldSo_69 : decode cX5_isToldSo 69 = .ok (.iload_n 3, 1) := by decide +kernel
theorem dX5_isToldSo_70 : decode cX5_isToldSo 70 = .ok (.imul, 1) := by decide +kernel
theorem dX5_isToldSo_71 : decode cX5_isToldSo 71 = .ok (.iload 4, 2) := by decide +kernel
theorem dX5_isToldSo_73 : decode cX5_isToldSo 73 = .ok (.iadd, 1) := by decide +kernel
theorem dX5_isToldSo_74 : decode cX5_isToldSo 74 = .ok (.iastore, 1) := by decide +kernel
theorem dX5_isToldSo_75 : decode cX5_isToldSo 75 = .ok (.goto 58, 3) := by decide +kernel
theorem dX5_isToldSo_78 : decode cX5_isToldSo 78 = .ok (.aload_n 0, 1) := by decide +kernel
theorem dX5_isToldSo_79 : decode cX5_isToldSo 79 = .ok (.iload_n 2, 1) := by decide +kernel
theorem dX5_isToldSo_80 : decode cX5_isToldSo 80 = .ok (.iload_n 3, 1) := by decide +kernel
theorem dX5_isToldSo_81 : decode cX5_isToldSo 81 = .ok (.invokevirtual 138, 3) := by decide +kernel
theorem dX5_isToldSo_84 : decode cX5_isToldSo 84 = .ok (.goto 49, 3) := by decide +kernel
theorem dX5_isToldSo_87 : decode cX5_isToldSo 87 = .ok (.aload_n 0, 1) := by decide +kernel
theorem dX5_isToldSo_88 : decode cX5_isToldSo 88 = .ok (.aload_n 0, 1) := by decide +kernel
theorem dX5_isToldSo_89 : decode cX5_isToldSo 89 = .ok (.getfield 48, 3) := by decide +kernel
theorem dX5_isToldSo_92 : decode cX5_isToldSo 92 = .ok (.iload_n 1, 1) := by decide +kernel
theorem dX5_isToldSo_93 : decode cX5_isToldSo 93 = .ok (.iaload, 1) := by decide +kernel
theorem dX5_isToldSo_94 : decode cX5_isToldSo 94 = .ok (.iload_n 2, 1) := by decide +kernel
theorem dX5_isToldSo_95 : decode cX5_isToldSo 95 = .ok (.iload_n 3, 1) := by decide +kernel
theorem dX5_isToldSo_96 : decode cX5_isToldSo 96 = .ok (.invokevirtual 98, 3) := by decide +kernel
theorem dX5_isToldSo_99 : decode cX5_isToldSo 99 = .ok (.istore 5, 2) := by decide +kernel
theorem dX5_isToldSo_101 : decode cX5_isToldSo 101 = .ok (.aload_n 0, 1) := by decide +kernel
theorem dX5_isToldSo_102 : decode cX5_isToldSo 102 = .ok (.getfield 9, 3) := by decide +kernel
theorem dX5_isToldSo_105 : decode cX5_isToldSo 105 = .ok (.iload 5, 2) := by decide +kernel
theorem dX5_isToldSo_107 : decode cX5_isToldSo 107 = .ok (.iconst 3, 1) := by decide +kernel
theorem dX5_isToldSo_108 : decode cX5_isToldSo 108 = .ok (.invokestatic 88, 3) := by decide +kernel
theorem dX5_isToldSo_111 : decode cX5_isToldSo 111 = .ok (.iload 4, 2) := by decide +kernel
theorem dX5_isToldSo_113 : decode cX5_isToldSo 113 = .ok (.iastore, 1) := by decide +kernel
theorem dX5_isToldSo_114 : decode cX5_isToldSo 114 = .ok (.aload_n 0, 1) := by decide +kernel
theorem dX5_isToldSo_115 : decode cX5_isToldSo 115 = .ok (.getfield 9, 3) := by decide +kernel
theorem dX5_isToldSo_118 : decode cX5_isToldSo 118 = .ok (.iload 5, 2) := by decide +kernel
theorem dX5_isToldSo_120 : decode cX5_isToldSo 120 = .ok (.iconst 4, 1) := by decide +kernel
theorem dX5_isToldSo_121 : decode cX5_isToldSo 121 = .ok (.invokestatic 88, 3) := by decide +kernel
theorem dX5_isToldSo_124 : decode cX5_isToldSo 124 = .ok (.aload_n 0, 1) := by decide +kernel
theorem dX5_isToldSo_125 : decode cX5_isToldSo 125 = .ok (.getfield 48, 3) := by decide +kernel
theorem dX5_isToldSo_128 : decode cX5_isToldSo 128 = .ok (.iload_n 1, 1) := by decide +kernel
theorem dX5_isToldSo_129 : decode cX5_isToldSo 129 = .ok (.iconst 4, 1) := by decide +kernel
theorem dX5_isToldSo_130 : decode cX5_isToldSo 130 = .ok (.iadd, 1) := by decide +kernel
theorem dX5_isToldSo_131 : decode cX5_isToldSo 131 = .ok (.iaload, 1) := by decide +kernel
theorem dX5_isToldSo_132 : decode cX5_isToldSo 132 = .ok (.iastore, 1) := by decide +kernel
theorem dX5_isToldSo_133 : decode cX5_isToldSo 133 = .ok (.return_, 1) := by decide +kernel
theorem dX5_text_0 : decode cX5_text 0 = .ok (.aload_n 0, 1) := by decide +kernel
theorem dX5_text_1 : decode cX5_text 1 = .ok (.iconst 0, 1) := by decide +kernel
theorem dX5_text_2 : decode cX5_text 2 = .ok (.putfield 235, 3) := by decide +kernel
theorem dX5_text_5 : decode cX5_text 5 = .ok (.aload_n 0, 1) := by decide +kernel
theorem dX5_text_6 : decode cX5_text 6 = .ok (.iconst 0, 1) := by decide +kernel
theorem dX5_text_7 : decode cX5_text 7 = .ok (.putfield 257, 3) := by decide +kernel
theorem dX5_text_10 : decode cX5_text 10 = .ok (.aload_n 0, 1) := by decide +kernel
theorem dX5_text_11 : decode cX5_text 11 = .ok (.iconst 0, 1) := by decide +kernel
theorem dX5_text_12 : decode cX5_text 12 = .ok (.putfield 268, 3) := by decide +kernel
theorem dX5_text_15 : decode cX5_text 15 = .ok (.aload_n 0, 1) := by decide +kernel
theorem dX5_text_16 : decode cX5_text 16 = .ok (.aload_n 0, 1) := by decide +kernel
theorem dX5_text_17 : decode cX5_text 17 = .ok (.getfield 9, 3) := by decide +kernel
theorem dX5_text_20 : decode cX5_text 20 = .ok (.iconst 1, 1) := by decide +kernel
theorem dX5_text_21 : decode cX5_text 21 = .ok (.iaload, 1) := by decide +kernel
theorem dX5_text_22 : decode cX5_text 22 = .ok (.putfield 275, 3) := by decide +kernel
theorem dX5_text_25 : decode cX5_text 25 = .ok (.aload_n 0, 1) := by decide +kernel
theorem dX5_text_26 : decode cX5_text 26 = .ok (.invokevirtual 261, 3) := by decide +kernel
theorem dX5_text_29 : decode cX5_text 29 = .ok (.aload_n 0, 1) := by decide +kernel
theorem dX5_text_30 : decode cX5_text 30 = .ok (.invokevirtual 299, 3) := by decide +kernel
theorem dX5_text_33 : decode cX5_text 33 = .ok (.aload_n 0, 1) := by decide +kernel
theorem dX5_text_34 : decode cX5_text 34 = .ok (.getfield 257, 3) := by decide +kernel
theorem dX5_text_37 : decode cX5_text 37 = .ok (.ifCond .ne 37, 3) := by decide +kernel
theorem dX5_text_40 : decode cX5_text 40 = .ok (.aload_n 0, 1) := by decide +kernel
theorem dX5_text_41 : decode cX5_text 41 = .ok (.getfield 247, 3) := by decide +kernel
theorem dX5_text_44 : decode cX5_text 44 = .ok (.iconst 3, 1) := by decide +kernel
theorem dX5_text_45 : decode cX5_text 45 = .ok (.if_icmp .ne 29, 3) := by decide +kernel
theorem dX5_text_48 : decode cX5_text 48 = .ok (.aload_n 0, 1) := by decide +kernel
theorem dX5_text_49 : decode cX5_text 49 = .ok (.getfield 25, 3) := by decide +kernel
theorem dX5_text_52 : decode cX5_text 52 = .ok (.aload_n 0, 1) := by decide +kernel
theorem dX5_text_53 : decode cX5_text 53 = .ok (.getfield 238, 3) := by decide +kernel
theorem dX5_text_56 : decode cX5_text 56 = .ok (.iaload, 1) := by decide +kernel
theorem dX5_text_57 : decode cX5_text 57 = .ok (.bipush 59, 2) := by decide +kernel
theorem dX5_text_59 : decode cX5_text 59 = .ok (.if_icmp .ne 15, 3) := by decide +kernel
theorem dX5_text_62 : decode cX5_text 62 = .ok (.aload_n 0, 1) := by decide +kernel
theorem dX5_text_63 : decode cX5_text 63 = .ok (.iconst 1, 1) := by decide +kernel
theorem dX5_text_64 : decode cX5_text 64 = .ok (.invokevirtual 264, 3) := by decide +kernel
theorem dX5_text_67 : decode cX5_text 67 = .ok (.aload_n 0, 1) := by decide +kernel
theorem dX5_text_68 : decode cX5_text 68 = .ok (.invokevirtual 299, 3) := by decide +kernel
theorem dX5_text_71 : decode cX5_text 71 = .ok (.goto (-38), 3) := by decide +kernel
theorem dX5_text_74 : decode cX5_text 74 = .ok (.aload_n 0, 1) := by decide +kernel
theorem dX5_text_75 : decode cX5_text 75 = .ok (.aload_n 0, 1) := by decide +kernel
theorem dX5_text_76 : decode cX5_text 76 = .ok (.getfield 247, 3) := by decide +kernel
theorem dX5_text_79 : decode cX5_text 79 = .ok (.ifCond .ne 7, 3) := by decide +kernel
theorem dX5_text_82 : decode cX5_text 82 = .ok (.iconst 1, 1) := by decide +kernel
theorem dX5_text_83 : decode cX5_text 83 = .ok (.goto 4, 3) := by decide +kernel
theorem dX5_text_86 : decode cX5_text 86 = .ok (.iconst 0, 1) := by decide +kernel
theorem dX5_text_87 : decode cX5_text 87 = .ok (.invokevirtual 264, 3) := by decide +kernel
theorem dX5_text_90 : decode cX5_text 90 = .ok (.aload_n 0, 1) := by decide +kernel
theorem dX5_text_91 : decode cX5_text 91 = .ok (.iconst 0, 1) := by decide +kernel
theorem dX5_text_92 : decode cX5_text 92 = .ok (.putfield 231, 3) := by decide +kernel
theorem dX5_text_95 : decode cX5_text 95 = .ok (.aload_n 0, 1) := by decide +kernel
theorem dX5_text_96 : decode cX5_text 96 = .ok (.getfield 257, 3) := by decide +kernel
theorem dX5_text_99 : decode cX5_text 99 = .ok (.ifCond .eq 10, 3) := by decide +kernel
theorem dX5_text_102 : decode cX5_text 102 = .ok (.iconst (-1), 1) := by decide +kernel
theorem dX5_text_103 : decode cX5_text 103 = .ok (.aload_n 0, 1) := by decide +kernel
theorem dX5_text_104 : decode cX5_text 104 = .ok (.getfield 238, 3) := by decide +kernel
theorem dX5_text_107 : decode cX5_text 107 = .ok (.isub, 1) := by decide +kernel
theorem dX5_text_108 : decode cX5_text 108 = .ok (.ireturn, 1) := by decide +kernel
theorem dX5_text_109 : decode cX5_text 109 = .ok (.iconst 0, 1) := by decide +kernel
theorem dX5_text_110 : decode cX5_text 110 = .ok (.istore_n 1, 1) := by decide +kernel
theorem dX5_text_111 : decode cX5_text 111 = .ok (.iload_n 1, 1) := by decide +kernel
theorem dX5_text_112 : decode cX5_text 112 = .ok (.aload_n 0, 1) := by decide +kernel
theorem dX5_text_113 : decode cX5_text 113 = .ok (.getfield 268, 3) := by decide +kernel
theorem dX5_text_116 : decode cX5_text 116 = .ok (.if_icmp .ge 16, 3) := by decide +kernel
theorem dX5_text_119 : decode cX5_text 119 = .ok (.aload_n 0, 1) := by decide +kernel
theorem dX5_text_120 : decode cX5_text 120 = .ok (.iconst 5, 1) := by decide +kernel
theorem dX5_text_121 : decode cX5_text 121 = .ok (.iload_n 1, 1) := by decide +kernel
theorem dX5_text_122 : decode cX5_text 122 = .ok (.imul, 1) := by decide +kernel
theorem dX5_text_123 : decode cX5_text 123 = .ok (.invokevirtual 302, 3) := by decide +kernel
theorem dX5_text_126 : decode cX5_text 126 = .ok (.iinc 1 1, 3) := by decide +kernel
theorem dX5_text_129 : decode cX5_text 129 = .ok (.goto (-18), 3) := by decide +kernel
theorem dX5_text_132 : decode cX5_text 132 = .ok (.aload_n 0, 1) := by decide +kernel
theorem dX5_text_133 : decode cX5_text 133 = .ok (.getfield 268, 3) := by decide +kernel
theorem dX5_text_136 : decode cX5_text 136 = .ok (.ireturn, 1) := by decide +kernel
theorem dX5_isSpot_0 : decode cX5_isSpot 0 = .ok (.iload_n 0, 1) := by decide +kernel
theorem dX5_isSpot_1 : decode cX5_isSpot 1 = .ok (.iconst 0, 1) := by decide +kernel
theorem dX5_isSpot_2 : decode cX5_isSpot 2 = .ok (.bipush 9, 2) := by decide +kernel
theorem dX5_isSpot_4 : decode cX5_isSpot 4 = .ok (.invokestatic 73, 3) := by decide +kernel
theorem dX5_isSpot_7 : decode cX5_isSpot 7 = .ok (.ireturn, 1) := by decide +kernel
theorem dX5_hold_0 : decode cX5_hold 0 = .ok (.iload_n 1, 1) := by decide +kernel
theorem dX5_hold_1 : decode cX5_hold 1 = .ok (.invokestatic 305, 3) := by decide +kernel
theorem dX5_hold_4 : decode cX5_hold 4 = .ok (.ifCond .eq 16, 3) := by decide +kernel
theorem dX5_hold_7 : decode cX5_hold 7 = .ok (.iload_n 2, 1) := by decide +kernel
theorem dX5_hold_8 : decode cX5_hold 8 = .ok (.iconst (-1), 1) := by decide +kernel
theorem dX5_hold_9 : decode cX5_hold 9 = .ok (.if_icmp .eq 18, 3) := by decide +kernel
theorem dX5_hold_12 : decode cX5_hold 12 = .ok (.aload_n 0, 1) := by decide +kernel
theorem dX5_hold_13 : decode cX5_hold 13 = .ok (.iload_n 2, 1) := by decide +kernel
theorem dX5_hold_14 : decode cX5_hold 14 = .ok (.invokevirtual 111, 3) := by decide +kernel
theorem dX5_hold_17 : decode cX5_hold 17 = .ok (.ifCond .ne 10, 3) := by decide +kernel
theorem dX5_hold_20 : decode cX5_hold 20 = .ok (.aload_n 0, 1) := by decide +kernel
theorem dX5_hold_21 : decode cX5_hold 21 = .ok (.ldc 63, 2) := by decide +kernel
theorem dX5_hold_23 : decode cX5_hold 23 = .ok (.invokevirtual 69, 3) := by decide +kernel
theorem dX5_hold_26 : decode cX5_hold 26 = .ok (.ireturn, 1) := by decide +kernel
theorem dX5_hold_27 : decode cX5_hold 27 = .ok (.aload_n 0, 1) := by decide +kernel
theorem dX5_hold_28 : decode cX5_hold 28 = .ok (.getfield 9, 3) := by decide +kernel
theorem dX5_hold_31 : decode cX5_hold 31 = .ok (.bipush 9, 2) := by decide +kernel
theorem dX5_hold_33 : decode cX5_hold 33 = .ok (.iload_n 1, 1) := by decide +kernel
theorem dX5_hold_34 : decode cX5_hold 34 = .ok (.iadd, 1) := by decide +kernel
theorem dX5_hold_35 : decode cX5_hold 35 = .ok (.iload_n 2, 1) := by decide +kernel
theorem dX5_hold_36 : decode cX5_hold 36 = .ok (.iastore, 1) := by decide +kernel
theorem dX5_hold_37 : decode cX5_hold 37 = .ok (.iconst 1, 1) := by decide +kernel
theorem dX5_hold_38 : decode cX5_hold 38 = .ok (.ireturn, 1) := by decide +kernel
theorem dX5_as_0 : decode cX5_as 0 = .ok (.iload_n 1, 1) := by decide +kernel
theorem dX5_as_1 : decode cX5_as 1 = .ok (.invokestatic 305, 3) := by decide +kernel
theorem dX5_as_4 : decode cX5_as 4 = .ok (.ifCond .eq 10, 3) := by decide +kernel
theorem dX5_as_7 : decode cX5_as 7 = .ok (.iload_n 2, 1) := by decide +kernel
theorem dX5_as_8 : decode cX5_as 8 = .ok (.invokestatic 91, 3) := by decide +kernel
theorem dX5_as_11 : decode cX5_as 11 = .ok (.ifCond .ne 10, 3) := by decide +kernel
theorem dX5_as_14 : decode cX5_as 14 = .ok (.aload_n 0, 1) := by decide +kernel
theorem dX5_as_15 : decode cX5_as 15 = .ok (.ldc 63, 2) := by decide +kernel
theorem dX5_as_17 : decode cX5_as 17 = .ok (.invokevirtual 69, 3) := by decide +kernel
theorem dX5_as_20 : decode cX5_as 20 = .ok (.ireturn, 1) := by decide +kernel
theorem dX5_as_21 : decode cX5_as 21 = .ok (.aload_n 0, 1) := by decide +kernel
theorem dX5_as_22 : decode cX5_as 22 = .ok (.getfield 9, 3) := by decide +kernel
theorem dX5_as_25 : decode cX5_as 25 = .ok (.bipush 9, 2) := by decide +kernel
theorem dX5_as_27 : decode cX5_as 27 = .ok (.iload_n 1, 1) := by decide +kernel
theorem dX5_as_28 : decode cX5_as 28 = .ok (.iadd, 1) := by decide +kernel
theorem dX5_as_29 : decode cX5_as 29 = .ok (.iaload, 1) := by decide +kernel
theorem dX5_as_30 : decode cX5_as 30 = .ok (.istore_n 3, 1) := by decide +kernel
theorem dX5_as_31 : decode cX5_as 31 = .ok (.iload_n 3, 1) := by decide +kernel
theorem dX5_as_32 : decode cX5_as 32 = .ok (.ifCond .ge 10, 3) := by decide +kernel
theorem dX5_as_35 : decode cX5_as 35 = .ok (.aload_n 0, 1) := by decide +kernel
theorem dX5_as_36 : decode cX5_as 36 = .ok (.ldc 216, 2) := by decide +kernel
theorem dX5_as_38 : decode cX5_as 38 = .ok (.invokevirtual 69, 3) := by decide +kernel
theorem dX5_as_41 : decode cX5_as 41 = .ok (.ireturn, 1) := by decide +kernel
theorem dX5_as_42 : decode cX5_as 42 = .ok (.aload_n 0, 1) := by decide +kernel
theorem dX5_as_43 : decode cX5_as 43 = .ok (.iload_n 3, 1) := by decide +kernel
theorem dX5_as_44 : decode cX5_as 44 = .ok (.iconst 0, 1) := by decide +kernel
theorem dX5_as_45 : decode cX5_as 45 = .ok (.invokevirtual 102, 3) := by decide +kernel
theorem dX5_as_48 : decode cX5_as 48 = .ok (.iload_n 2, 1) := by decide +kernel
theorem dX5_as_49 : decode cX5_as 49 = .ok (.invokestatic 308, 3) := by decide +kernel
theorem dX5_as_52 : decode cX5_as 52 = .ok (.ifCond .eq 7, 3) := by decide +kernel
theorem dX5_as_55 : decode cX5_as 55 = .ok (.iload_n 3, 1) := by decide +kernel
theorem dX5_as_56 : decode cX5_as 56 = .ok (.goto 10, 3) := by decide +kernel
theorem dX5_as_59 : decode cX5_as 59 = .ok (.aload_n 0, 1) := by decide +kernel
theorem dX5_as_60 : decode cX5_as 60 = .ok (.ldc_w 311, 3) := by decide +kernel
theorem dX5_as_63 : decode cX5_as 63 = .ok (.invokevirtual 69, 3) := by decide +kernel
theorem dX5_as_66 : decode cX5_as 66 = .ok (.ireturn, 1) := by decide +kernel
theorem dX5_isSheet_0 : decode cX5_isSheet 0 = .ok (.iload_n 0, 1) := by decide +kernel
theorem dX5_isSheet_1 : decode cX5_isSheet 1 = .ok (.iconst 0, 1) := by decide +kernel
theorem dX5_isSheet_2 : decode cX5_isSheet 2 = .ok (.iconst 3, 1) := by decide +kernel
theorem dX5_isSheet_3 : decode cX5_isSheet 3 = .ok (.invokestatic 73, 3) := by decide +kernel
theorem dX5_isSheet_6 : decode cX5_isSheet 6 = .ok (.ireturn, 1) := by decide +kernel
theorem dX5_cutTo_0 : decode cX5_cutTo 0 = .ok (.iload_n 1, 1) := by decide +kernel
theorem dX5_cutTo_1 : decode cX5_cutTo 1 = .ok (.bipush 8, 2) := by decide +kernel
theorem dX5_cutTo_3 : decode cX5_cutTo 3 = .ok (.if_icmp .ne 8, 3) := by decide +kernel
theorem dX5_cutTo_6 : decode cX5_cutTo 6 = .ok (.iload_n 0, 1) := by decide +kernel
theorem dX5_cutTo_7 : decode cX5_cutTo 7 = .ok (.i2b, 1) := by decide +kernel
theorem dX5_cutTo_8 : decode cX5_cutTo 8 = .ok (.goto 15, 3) := by decide +kernel
theorem dX5_cutTo_11 : decode cX5_cutTo 11 = .ok (.iload_n 1, 1) := by decide +kernel
theorem dX5_cutTo_12 : decode cX5_cutTo 12 = .ok (.bipush 16, 2) := by decide +kernel
theorem dX5_cutTo_14 : decode cX5_cutTo 14 = .ok (.if_icmp .ne 8, 3) := by decide +kernel
theorem dX5_cutTo_17 : decode cX5_cutTo 17 = .ok (.iload_n 0, 1) := by decide +kernel
theorem dX5_cutTo_18 : decode cX5_cutTo 18 = .ok (.i2s, 1) := by decide +kernel
theorem dX5_cutTo_19 : decode cX5_cutTo 19 = .ok (.goto 4, 3) := by decide +kernel
theorem dX5_cutTo_22 : decode cX5_cutTo 22 = .ok (.iload_n 0, 1) := by decide +kernel
theorem dX5_cutTo_23 : decode cX5_cutTo 23 = .ok (.ireturn, 1) := by decide +kernel
theorem dX5_sheet_0 : decode cX5_sheet 0 = .ok (.iload_n 1, 1) := by decide +kernel
theorem dX5_sheet_1 : decode cX5_sheet 1 = .ok (.invokestatic 213, 3) := by decide +kernel
theorem dX5_sheet_4 : decode cX5_sheet 4 = .ok (.ifCond .eq 25, 3) := by decide +kernel
theorem dX5_sheet_7 : decode cX5_sheet 7 = .ok (.iload_n 2, 1) := by decide +kernel
theorem dX5_sheet_8 : decode cX5_sheet 8 = .ok (.ifCond .eq 28, 3) := by decide +kernel
theorem dX5_sheet_11 : decode cX5_sheet 11 = .ok (.iload_n 2, 1) := by decide +kernel
theorem dX5_sheet_12 : decode cX5_sheet 12 = .ok (.bipush 8, 2) := by decide +kernel
theorem dX5_sheet_14 : decode cX5_sheet 14 = .ok (.if_icmp .eq 22, 3) := by decide +kernel
theorem dX5_sheet_17 : decode cX5_sheet 17 = .ok (.iload_n 2, 1) := by decide +kernel
theorem dX5_sheet_18 : decode cX5_sheet 18 = .ok (.bipush 16, 2) := by decide +kernel
theorem dX5_sheet_20 : decode cX5_sheet 20 = .ok (.if_icmp .eq 16, 3) := by decide +kernel
theorem dX5_sheet_23 : decode cX5_sheet 23 = .ok (.iload_n 2, 1) := by decide +kernel
theorem dX5_sheet_24 : decode cX5_sheet 24 = .ok (.bipush 32, 2) := by decide +kernel
theorem dX5_sheet_26 : decode cX5_sheet 26 = .ok (.if_icmp .eq 10, 3) := by decide +kernel
theorem dX5_sheet_29 : decode cX5_sheet 29 = .ok (.aload_n 0, 1) := by decide +kernel
theorem dX5_sheet_30 : decode cX5_sheet 30 = .ok (.ldc 63, 2) := by decide +kernel
theorem dX5_sheet_32 : decode cX5_sheet 32 = .ok (.invokevirtual 69, 3) := by decide +kernel
theorem dX5_sheet_35 : decode cX5_sheet 35 = .ok (.ireturn, 1) := by decide +kernel
theorem dX5_sheet_36 : decode cX5_sheet 36 = .ok (.iload_n 3, 1) := by decide +kernel
theorem dX5_sheet_37 : decode cX5_sheet 37 = .ok (.ifCond .ge 11, 3) := by decide +kernel
theorem dX5_sheet_40 : decode cX5_sheet 40 = .ok (.aload_n 0, 1) := by decide +kernel
theorem dX5_sheet_41 : decode cX5_sheet 41 = .ok (.ldc_w 312, 3) := by decide +kernel
theorem dX5_sheet_44 : decode cX5_sheet 44 = .ok (.invokevirtual 69, 3) := by decide +kernel
theorem dX5_sheet_47 : decode cX5_sheet 47 = .ok (.ireturn, 1) := by decide +kernel
theorem dX5_sheet_48 : decode cX5_sheet 48 = .ok (.iload_n 3, 1) := by decide +kernel
theorem dX5_sheet_49 : decode cX5_sheet 49 = .ok (.bipush 40, 2) := by decide +kernel
theorem dX5_sheet_51 : decode cX5_sheet 51 = .ok (.if_icmp .le 10, 3) := by decide +kernel
theorem dX5_sheet_54 : decode cX5_sheet 54 = .ok (.aload_n 0, 1) := by decide +kernel
theorem dX5_sheet_55 : decode cX5_sheet 55 = .ok (.ldc 63, 2) := by decide +kernel
theorem dX5_sheet_57 : decode cX5_sheet 57 = .ok (.invokevirtual 69, 3) := by decide +kernel
theorem dX5_sheet_60 : decode cX5_sheet 60 = .ok (.ireturn, 1) := by decide +kernel
theorem dX5_sheet_61 : decode cX5_sheet 61 = .ok (.aload_n 0, 1) := by decide +kernel
theorem dX5_sheet_62 : decode cX5_sheet 62 = .ok (.getfield 51, 3) := by decide +kernel
theorem dX5_sheet_65 : decode cX5_sheet 65 = .ok (.iload_n 1, 1) := by decide +kernel
theorem dX5_sheet_66 : decode cX5_sheet 66 = .ok (.iload_n 2, 1) := by decide +kernel
theorem dX5_sheet_67 : decode cX5_sheet 67 = .ok (.iastore, 1) := by decide +kernel
theorem dX5_sheet_68 : decode cX5_sheet 68 = .ok (.aload_n 0, 1) := by decide +kernel
theorem dX5_sheet_69 : decode cX5_sheet 69 = .ok (.getfield 54, 3) := by decide +kernel
theorem dX5_sheet_72 : decode cX5_sheet 72 = .ok (.iload_n 1, 1) := by decide +kernel
theorem dX5_sheet_73 : decode cX5_sheet 73 = .ok (.iload_n 2, 1) := by decide +kernel
theorem dX5_sheet_74 : decode cX5_sheet 74 = .ok (.ifCond .ne 7, 3) := by decide +kernel
theorem dX5_sheet_77 : decode cX5_sheet 77 = .ok (.iconst 0, 1) := by decide +kernel
theorem dX5_sheet_78 : decode cX5_sheet 78 = .ok (.goto 4, 3) := by decide +kernel
theorem dX5_sheet_81 : decode cX5_sheet 81 = .ok (.iload_n 3, 1) := by decide +kernel
theorem dX5_sheet_82 : decode cX5_sheet 82 = .ok (.iastore, 1) := by decide +kernel
theorem dX5_sheet_83 : decode cX5_sheet 83 = .ok (.iconst 0, 1) := by decide +kernel
theorem dX5_sheet_84 : decode cX5_sheet 84 = .ok (.istore 4, 2) := by decide +kernel
theorem dX5_sheet_86 : decode cX5_sheet 86 = .ok (.iload 4, 2) := by decide +kernel
theorem dX5_sheet_88 : decode cX5_sheet 88 = .ok (.bipush 40, 2) := by decide +kernel
theorem dX5_sheet_90 : decode cX5_sheet 90 = .ok (.if_icmp .ge 22, 3) := by decide +kernel
theorem dX5_sheet_93 : decode cX5_sheet 93 = .ok (.aload_n 0, 1) := by decide +kernel
theorem dX5_sheet_94 : decode cX5_sheet 94 = .ok (.getfield 57, 3) := by decide +kernel
theorem dX5_sheet_97 : decode cX5_sheet 97 = .ok (.bipush 40, 2) := by decide +kernel
theorem dX5_sheet_99 : decode cX5_sheet 99 = .ok (.iload_n 1, 1) := by decide +kernel
theorem dX5_sheet_100 : decode cX5_sheet 100 = .ok (.imul, 1) := by decide +kernel
theorem dX5_sheet_101 : decode cX5_sheet 101 = .ok (.iload 4, 2) := by decide +kernel
theorem dX5_sheet_103 : decode cX5_sheet 103 = .ok (.iadd, 1) := by decide +kernel
theorem dX5_sheet_104 : decode cX5_sheet 104 = .ok (.iconst 0, 1) := by decide +kernel
theorem dX5_sheet_105 : decode cX5_sheet 105 = .ok (.iastore, 1) := by decide +kernel
theorem dX5_sheet_106 : decode cX5_sheet 106 = .ok (.iinc 4 1, 3) := by decide +kernel
theorem dX5_sheet_109 : decode cX5_sheet 109 = .ok (.goto (-23), 3) := by decide +kernel
theorem dX5_sheet_112 : decode cX5_sheet 112 = .ok (.aload_n 0, 1) := by decide +kernel
theorem dX5_sheet_113 : decode cX5_sheet 113 = .ok (.getfield 54, 3) := by decide +kernel
theorem dX5_sheet_116 : decode cX5_sheet 116 = .ok (.iload_n 1, 1) := by decide +kernel
theorem dX5_sheet_117 : decode cX5_sheet 117 = .ok (.iaload, 1) := by decide +kernel
theorem dX5_sheet_118 : decode cX5_sheet 118 = .ok (.ireturn, 1) := by decide +kernel
theorem dX5_write_0 : decode cX5_write 0 = .ok (.iload_n 1, 1) := by decide +kernel
theorem dX5_write_1 : decode cX5_write 1 = .ok (.invokestatic 213, 3) := by decide +kernel
theorem dX5_write_4 : decode cX5_write 4 = .ok (.ifCond .ne 10, 3) := by decide +kernel
theorem dX5_write_7 : decode cX5_write 7 = .ok (.aload_n 0, 1) := by decide +kernel
theorem dX5_write_8 : decode cX5_write 8 = .ok (.ldc 63, 2) := by decide +kernel
theorem dX5_write_10 : decode cX5_write 10 = .ok (.invokevirtual 69, 3) := by decide +kernel
theorem dX5_write_13 : decode cX5_write 13 = .ok (.ireturn, 1) := by decide +kernel
theorem dX5_write_14 : decode cX5_write 14 = .ok (.aload_n 0, 1) := by decide +kernel
theorem dX5_write_15 : decode cX5_write 15 = .ok (.getfield 51, 3) := by decide +kernel
theorem dX5_write_18 : decode cX5_write 18 = .ok (.iload_n 1, 1) := by decide +kernel
theorem dX5_write_19 : decode cX5_write 19 = .ok (.iaload, 1) := by decide +kernel
theorem dX5_write_20 : decode cX5_write 20 = .ok (.ifCond .ne 10, 3) := by decide +kernel
theorem dX5_write_23 : decode cX5_write 23 = .ok (.aload_n 0, 1) := by decide +kernel
theorem dX5_write_24 : decode cX5_write 24 = .ok (.ldc 216, 2) := by decide +kernel
theorem dX5_write_26 : decode cX5_write 26 = .ok (.invokevirtual 69, 3) := by decide +kernel
theorem dX5_write_29 : decode cX5_write 29 = .ok (.ireturn, 1) := by decide +kernel
theorem dX5_write_30 : decode cX5_write 30 = .ok (.iload_n 2, 1) := by decide +kernel
theorem dX5_write_31 : decode cX5_write 31 = .ok (.iconst 0, 1) := by decide +kernel
theorem dX5_write_32 : decode cX5_write 32 = .ok (.aload_n 0, 1) := by decide +kernel
theorem dX5_write_33 : decode cX5_write 33 = .ok (.getfield 54, 3) := by decide +kernel
theorem dX5_write_36 : decode cX5_write 36 = .ok (.iload_n 1, 1) := by decide +kernel
theorem dX5_write_37 : decode cX5_write 37 = .ok (.iaload, 1) := by decide +kernel
theorem dX5_write_38 : decode cX5_write 38 = .ok (.iconst 1, 1) := by decide +kernel
theorem dX5_write_39 : decode cX5_write 39 = .ok (.isub, 1) := by decide +kernel
theorem dX5_write_40 : decode cX5_write 40 = .ok (.invokestatic 73, 3) := by decide +kernel
theorem dX5_write_43 : decode cX5_write 43 = .ok (.ifCond .ne 10, 3) := by decide +kernel
theorem dX5_write_46 : decode cX5_write 46 = .ok (.aload_n 0, 1) := by decide +kernel
theorem dX5_write_47 : decode cX5_write 47 = .ok (.ldc 63, 2) := by decide +kernel
theorem dX5_write_49 : decode cX5_write 49 = .ok (.invokevirtual 69, 3) := by decide +kernel
theorem dX5_write_52 : decode cX5_write 52 = .ok (.ireturn, 1) := by decide +kernel
theorem dX5_write_53 : decode cX5_write 53 = .ok (.aload_n 0, 1) := by decide +kernel
theorem dX5_write_54 : decode cX5_write 54 = .ok (.getfield 57, 3) := by decide +kernel
theorem dX5_write_57 : decode cX5_write 57 = .ok (.bipush 40, 2) := by decide +kernel
theorem dX5_write_59 : decode cX5_write 59 = .ok (.iload_n 1, 1) := by decide +kernel
theorem dX5_write_60 : decode cX5_write 60 = .ok (.imul, 1) := by decide +kernel
theorem dX5_write_61 : decode cX5_write 61 = .ok (.iload_n 2, 1) := by decide +kernel
theorem dX5_write_62 : decode cX5_write 62 = .ok (.iadd, 1) := by decide +kernel
theorem dX5_write_63 : decode cX5_write 63 = .ok (.iload_n 3, 1) := by decide +kernel
theorem dX5_write_64 : decode cX5_write 64 = .ok (.aload_n 0, 1) := by decide +kernel
theorem dX5_write_65 : decode cX5_write 65 = .ok (.getfield 51, 3) := by decide +kernel
theorem dX5_write_68 : decode cX5_write 68 = .ok (.iload_n 1, 1) := by decide +kernel
theorem dX5_write_69 : decode cX5_write 69 = .ok (.iaload, 1) := by decide +kernel
theorem dX5_write_70 : decode cX5_write 70 = .ok (.invokestatic 313, 3) := by decide +kernel
theorem dX5_write_73 : decode cX5_write 73 = .ok (.iastore, 1) := by decide +kernel
theorem dX5_write_74 : decode cX5_write 74 = .ok (.iconst 1, 1) := by decide +kernel
theorem dX5_write_75 : decode cX5_write 75 = .ok (.ireturn, 1) := by decide +kernel
theorem dX5_copy_0 : decode cX5_copy 0 = .ok (.iload_n 1, 1) := by decide +kernel
theorem dX5_copy_1 : decode cX5_copy 1 = .ok (.invokestatic 213, 3) := by decide +kernel
theorem dX5_copy_4 : decode cX5_copy 4 = .ok (.ifCond .eq 10, 3) := by decide +kernel
theorem dX5_copy_7 : decode cX5_copy 7 = .ok (.iload_n 3, 1) := by decide +kernel
theorem dX5_copy_8 : decode cX5_copy 8 = .ok (.invokestatic 213, 3) := by decide +kernel
theorem dX5_copy_11 : decode cX5_copy 11 = .ok (.ifCond .ne 10, 3) := by decide +kernel
theorem dX5_copy_14 : decode cX5_copy 14 = .ok (.aload_n 0, 1) := by decide +kernel
theorem dX5_copy_15 : decode cX5_copy 15 = .ok (.ldc 63, 2) := by decide +kernel
theorem dX5_copy_17 : decode cX5_copy 17 = .ok (.invokevirtual 69, 3) := by decide +kernel
theorem dX5_copy_20 : decode cX5_copy 20 = .ok (.ireturn, 1) := by decide +kernel
theorem dX5_copy_21 : decode cX5_copy 21 = .ok (.aload_n 0, 1) := by decide +kernel
theorem dX5_copy_22 : decode cX5_copy 22 = .ok (.getfield 51, 3) := by decide +kernel
theorem dX5_copy_25 : decode cX5_copy 25 = .ok (.iload_n 1, 1) := by decide +kernel
theorem dX5_copy_26 : decode cX5_copy 26 = .ok (.iaload, 1) := by decide +kernel
theorem dX5_copy_27 : decode cX5_copy 27 = .ok (.ifCond .eq 12, 3) := by decide +kernel
theorem dX5_copy_30 : decode cX5_copy 30 = .ok (.aload_n 0, 1) := by decide +kernel
theorem dX5_copy_31 : decode cX5_copy 31 = .ok (.getfield 51, 3) := by decide +kernel
theorem dX5_copy_34 : decode cX5_copy 34 = .ok (.iload_n 3, 1) := by decide +kernel
theorem dX5_copy_35 : decode cX5_copy 35 = .ok (.iaload, 1) := by decide +kernel
theorem dX5_copy_36 : decode cX5_copy 36 = .ok (.ifCond .ne 10, 3) := by decide +kernel
theorem dX5_copy_39 : decode cX5_copy 39 = .ok (.aload_n 0, 1) := by decide +kernel
theorem dX5_copy_40 : decode cX5_copy 40 = .ok (.ldc 216, 2) := by decide +kernel
theorem dX5_copy_42 : decode cX5_copy 42 = .ok (.invokevirtual 69, 3) := by decide +kernel
theorem dX5_copy_45 : decode cX5_copy 45 = .ok (.ireturn, 1) := by decide +kernel
theorem dX5_copy_46 : decode cX5_copy 46 = .ok (.aload_n 0, 1) := by decide +kernel
theorem dX5_copy_47 : decode cX5_copy 47 = .ok (.getfield 51, 3) := by decide +kernel
theorem dX5_copy_50 : decode cX5_copy 50 = .ok (.iload_n 1, 1) := by decide +kernel
theorem dX5_copy_51 : decode cX5_copy 51 = .ok (.iaload, 1) := by decide +kernel
theorem dX5_copy_52 : decode cX5_copy 52 = .ok (.aload_n 0, 1) := by decide +kernel
theorem dX5_copy_53 : decode cX5_copy 53 = .ok (.getfield 51, 3) := by decide +kernel
theorem dX5_copy_56 : decode cX5_copy 56 = .ok (.iload_n 3, 1) := by decide +kernel
theorem dX5_copy_57 : decode cX5_copy 57 = .ok (.iaload, 1) := by decide +kernel
theorem dX5_copy_58 : decode cX5_copy 58 = .ok (.if_icmp .eq 11, 3) := by decide +kernel
theorem dX5_copy_61 : decode cX5_copy 61 = .ok (.aload_n 0, 1) := by decide +kernel
theorem dX5_copy_62 : decode cX5_copy 62 = .ok (.ldc_w 311, 3) := by decide +kernel
theorem dX5_copy_65 : decode cX5_copy 65 = .ok (.invokevirtual 69, 3) := by decide +kernel
theorem dX5_copy_68 : decode cX5_copy 68 = .ok (.ireturn, 1) := by decide +kernel
theorem dX5_copy_69 : decode cX5_copy 69 = .ok (.iload_n 2, 1) := by decide +kernel
theorem dX5_copy_70 : decode cX5_copy 70 = .ok (.ifCond .lt 48, 3) := by decide +kernel
theorem dX5_copy_73 : decode cX5_copy 73 = .ok (.iload 4, 2) := by decide +kernel
theorem dX5_copy_75 : decode cX5_copy 75 = .ok (.ifCond .lt 43, 3) := by decide +kernel
theorem dX5_copy_78 : decode cX5_copy 78 = .ok (.iload 5, 2) := by decide +kernel
theorem dX5_copy_80 : decode cX5_copy 80 = .ok (.ifCond .lt 38, 3) := by decide +kernel
theorem dX5_copy_83 : decode cX5_copy 83 = .ok (.iload_n 2, 1) := by decide +kernel
theorem dX5_copy_84 : decode cX5_copy 84 = .ok (.i2l, 1) := by decide +kernel
theorem dX5_copy_85 : decode cX5_copy 85 = .ok (.iload 5, 2) := by decide +kernel
theorem dX5_copy_87 : decode cX5_copy 87 = .ok (.i2l, 1) := by decide +kernel
theorem dX5_copy_88 : decode cX5_copy 88 = .ok (.ladd, 1) := by decide +kernel
theorem dX5_copy_89 : decode cX5_copy 89 = .ok (.aload_n 0, 1) := by decide +kernel
theorem dX5_copy_90 : decode cX5_copy 90 = .ok (.getfield 54, 3) := by decide +kernel
theorem dX5_copy_93 : decode cX5_copy 93 = .ok (.iload_n 1, 1) := by decide +kernel
theorem dX5_copy_94 : decode cX5_copy 94 = .ok (.iaload, 1) := by decide +kernel
theorem dX5_copy_95 : decode cX5_copy 95 = .ok (.i2l, 1) := by decide +kernel
theorem dX5_copy_96 : decode cX5_copy 96 = .ok (.lcmp, 1) := by decide +kernel
theorem dX5_copy_97 : decode cX5_copy 97 = .ok (.ifCond .gt 21, 3) := by decide +kernel
theorem dX5_copy_100 : decode cX5_copy 100 = .ok (.iload 4, 2) := by decide +kernel
theorem dX5_copy_102 : decode cX5_copy 102 = .ok (.i2l, 1) := by decide +kernel
theorem dX5_copy_103 : decode cX5_copy 103 = .ok (.iload 5, 2) := by decide +kernel
theorem dX5_copy_105 : decode cX5_copy 105 = .ok (.i2l, 1) := by decide +kernel
theorem dX5_copy_106 : decode cX5_copy 106 = .ok (.ladd, 1) := by decide +kernel
theorem dX5_copy_107 : decode cX5_copy 107 = .ok (.aload_n 0, 1) := by decide +kernel
theorem dX5_copy_108 : decode cX5_copy 108 = .ok (.getfield 54, 3) := by decide +kernel
theorem dX5_copy_111 : decode cX5_copy 111 = .ok (.iload_n 3, 1) := by decide +kernel
theorem dX5_copy_112 : decode cX5_copy 112 = .ok (.iaload, 1) := by decide +kernel
theorem dX5_copy_113 : decode cX5_copy 113 = .ok (.i2l, 1) := by decide +kernel
theorem dX5_copy_114 : decode cX5_copy 114 = .ok (.lcmp, 1) := by decide +kernel
theorem dX5_copy_115 : decode cX5_copy 115 = .ok (.ifCond .le 10, 3) := by decide +kernel
theorem dX5_copy_118 : decode cX5_copy 118 = .ok (.aload_n 0, 1) := by decide +kernel
theorem dX5_copy_119 : decode cX5_copy 119 = .ok (.ldc 63, 2) := by decide +kernel
theorem dX5_copy_121 : decode cX5_copy 121 = .ok (.invokevirtual 69, 3) := by decide +kernel
theorem dX5_copy_124 : decode cX5_copy 124 = .ok (.ireturn, 1) := by decide +kernel
theorem dX5_copy_125 : decode cX5_copy 125 = .ok (.iconst 0, 1) := by decide +kernel
theorem dX5_copy_126 : decode cX5_copy 126 = .ok (.istore 6, 2) := by decide +kernel
theorem dX5_copy_128 : decode cX5_copy 128 = .ok (.iload 6, 2) := by decide +kernel
theorem dX5_copy_130 : decode cX5_copy 130 = .ok (.iload 5, 2) := by decide +kernel
theorem dX5_copy_132 : decode cX5_copy 132 = .ok (.if_icmp .ge 30, 3) := by decide +kernel
theorem dX5_copy_135 : decode cX5_copy 135 = .ok (.aload_n 0, 1) := by decide +kernel
theorem dX5_copy_136 : decode cX5_copy 136 = .ok (.getfield 60, 3) := by decide +kernel
theorem dX5_copy_139 : decode cX5_copy 139 = .ok (.iload 6, 2) := by decide +kernel
theorem dX5_copy_141 : decode cX5_copy 141 = .ok (.aload_n 0, 1) := by decide +kernel
theorem dX5_copy_142 : decode cX5_copy 142 = .ok (.getfield 57, 3) := by decide +kernel
theorem dX5_copy_145 : decode cX5_copy 145 = .ok (.bipush 40, 2) := by decide +kernel
theorem dX5_copy_147 : decode cX5_copy 147 = .ok (.iload_n 1, 1) := by decide +kernel
theorem dX5_copy_148 : decode cX5_copy 148 = .ok (.imul, 1) := by decide +kernel
theorem dX5_copy_149 : decode cX5_copy 149 = .ok (.iload_n 2, 1) := by decide +kernel
theorem dX5_copy_150 : decode cX5_copy 150 = .ok (.iadd, 1) := by decide +kernel
theorem dX5_copy_151 : decode cX5_copy 151 = .ok (.iload 6, 2) := by decide +kernel
theorem dX5_copy_153 : decode cX5_copy 153 = .ok (.iadd, 1) := by decide +kernel
theorem dX5_copy_154 : decode cX5_copy 154 = .ok (.iaload, 1) := by decide +kernel
theorem dX5_copy_155 : decode cX5_copy 155 = .ok (.iastore, 1) := by decide +kernel
theorem dX5_copy_156 : decode cX5_copy 156 = .ok (.iinc 6 1, 3) := by decide +kernel
theorem dX5_copy_159 : decode cX5_copy 159 = .ok (.goto (-31), 3) := by decide +kernel
theorem dX5_copy_162 : decode cX5_copy 162 = .ok (.iconst 0, 1) := by decide +kernel
theorem dX5_copy_163 : decode cX5_copy 163 = .ok (.istore 6, 2) := by decide +kernel
theorem dX5_copy_165 : decode cX5_copy 165 = .ok (.iload 6, 2) := by decide +kernel
theorem dX5_copy_167 : decode cX5_copy 167 = .ok (.iload 5, 2) := by decide +kernel
theorem dX5_copy_169 : decode cX5_copy 169 = .ok (.if_icmp .ge 31, 3) := by decide +kernel
theorem dX5_copy_172 : decode cX5_copy 172 = .ok (.aload_n 0, 1) := by decide +kernel
theorem dX5_copy_173 : decode cX5_copy 173 = .ok (.getfield 57, 3) := by decide +kernel
theorem dX5_copy_176 : decode cX5_copy 176 = .ok (.bipush 40, 2) := by decide +kernel
theorem dX5_copy_178 : decode cX5_copy 178 = .ok (.iload_n 3, 1) := by decide +kernel
theorem dX5_copy_179 : decode cX5_copy 179 = .ok (.imul, 1) := by decide +kernel
theorem dX5_copy_180 : decode cX5_copy 180 = .ok (.iload 4, 2) := by decide +kernel
theorem dX5_copy_182 : decode cX5_copy 182 = .ok (.iadd, 1) := by decide +kernel
theorem dX5_copy_183 : decode cX5_copy 183 = .ok (.iload 6, 2) := by decide +kernel
theorem dX5_copy_185 : decode cX5_copy 185 = .ok (.iadd, 1) := by decide +kernel
theorem dX5_copy_186 : decode cX5_copy 186 = .ok (.aload_n 0, 1) := by decide +kernel
theorem dX5_copy_187 : decode cX5_copy 187 = .ok (.getfield 60, 3) := by decide +kernel
theorem dX5_copy_190 : decode cX5_copy 190 = .ok (.iload 6, 2) := by decide +kernel
theorem dX5_copy_192 : decode cX5_copy 192 = .ok (.iaload, 1) := by decide +kernel
theorem dX5_copy_193 : decode cX5_copy 193 = .ok (.iastore, 1) := by decide +kernel
theorem dX5_copy_194 : decode cX5_copy 194 = .ok (.iinc 6 1, 3) := by decide +kernel
theorem dX5_copy_197 : decode cX5_copy 197 = .ok (.goto (-32), 3) := by decide +kernel
theorem dX5_copy_200 : decode cX5_copy 200 = .ok (.iload 5, 2) := by decide +kernel
theorem dX5_copy_202 : decode cX5_copy 202 = .ok (.ireturn, 1) := by decide +kernel
theorem dX5_above_0 : decode cX5_above 0 = .ok (.iload_n 0, 1) := by decide +kernel
theorem dX5_above_1 : decode cX5_above 1 = .ok (.ifCond .ne 7, 3) := by decide +kernel
theorem dX5_above_4 : decode cX5_above 4 = .ok (.iconst (-1), 1) := by decide +kernel
theorem dX5_above_5 : decode cX5_above 5 = .ok (.goto 32, 3) := by decide +kernel
theorem dX5_above_8 : decode cX5_above 8 = .ok (.iload_n 0, 1) := by decide +kernel
theorem dX5_above_9 : decode cX5_above 9 = .ok (.iconst 3, 1) := by decide +kernel
theorem dX5_above_10 : decode cX5_above 10 = .ok (.if_icmp .ne 7, 3) := by decide +kernel
theorem dX5_above_13 : decode cX5_above 13 = .ok (.iconst 2, 1) := by decide +kernel
theorem dX5_above_14 : decode cX5_above 14 = .ok (.goto 23, 3) := by decide +kernel
theorem dX5_above_17 : decode cX5_above 17 = .ok (.iload_n 0, 1) := by decide +kernel
theorem dX5_above_18 : decode cX5_above 18 = .ok (.iconst 4, 1) := by decide +kernel
theorem dX5_above_19 : decode cX5_above 19 = .ok (.if_icmp .ne 7, 3) := by decide +kernel
theorem dX5_above_22 : decode cX5_above 22 = .ok (.iconst 3, 1) := by decide +kernel
theorem dX5_above_23 : decode cX5_above 23 = .ok (.goto 14, 3) := by decide +kernel
theorem dX5_above_26 : decode cX5_above 26 = .ok (.iload_n 0, 1) := by decide +kernel
theorem dX5_above_27 : decode cX5_above 27 = .ok (.bipush 6, 2) := by decide +kernel
theorem dX5_above_29 : decode cX5_above 29 = .ok (.if_icmp .ne 7, 3) := by decide +kernel
theorem dX5_above_32 : decode cX5_above 32 = .ok (.iconst 1, 1) := by decide +kernel
theorem dX5_above_33 : decode cX5_above 33 = .ok (.goto 4, 3) := by decide +kernel
theorem dX5_above_36 : decode cX5_above 36 = .ok (.iconst 0, 1) := by decide +kernel
theorem dX5_above_37 : decode cX5_above 37 = .ok (.ireturn, 1) := by decide +kernel
theorem dX5_isUnder_0 : decode cX5_isUnder 0 = .ok (.iload_n 0, 1) := by decide +kernel
theorem dX5_isUnder_1 : decode cX5_isUnder 1 = .ok (.istore_n 2, 1) := by decide +kernel
theorem dX5_isUnder_2 : decode cX5_isUnder 2 = .ok (.iload_n 2, 1) := by decide +kernel
theorem dX5_isUnder_3 : decode cX5_isUnder 3 = .ok (.ifCond .lt 16, 3) := by decide +kernel
theorem dX5_isUnder_6 : decode cX5_isUnder 6 = .ok (.iload_n 2, 1) := by decide +kernel
theorem dX5_isUnder_7 : decode cX5_isUnder 7 = .ok (.iload_n 1, 1) := by decide +kernel
theorem dX5_isUnder_8 : decode cX5_isUnder 8 = .ok (.if_icmp .eq 11, 3) := by decide +kernel
theorem dX5_isUnder_11 : decode cX5_isUnder 11 = .ok (.iload_n 2, 1) := by decide +kernel
theorem dX5_isUnder_12 : decode cX5_isUnder 12 = .ok (.invokestatic 316, 3) := by decide +kernel
theorem dX5_isUnder_15 : decode cX5_isUnder 15 = .ok (.istore_n 2, 1) := by decide +kernel
theorem dX5_isUnder_16 : decode cX5_isUnder 16 = .ok (.goto (-14), 3) := by decide +kernel
theorem dX5_isUnder_19 : decode cX5_isUnder 19 = .ok (.iload_n 2, 1) := by decide +kernel
theorem dX5_isUnder_20 : decode cX5_isUnder 20 = .ok (.ifCond .lt 7, 3) := by decide +kernel
theorem dX5_isUnder_23 : decode cX5_isUnder 23 = .ok (.iconst 1, 1) := by decide +kernel
theorem dX5_isUnder_24 : decode cX5_isUnder 24 = .ok (.goto 4, 3) := by decide +kernel
theorem dX5_isUnder_27 : decode cX5_isUnder 27 = .ok (.iconst 0, 1) := by decide +kernel
theorem dX5_isUnder_28 : decode cX5_isUnder 28 = .ok (.ireturn, 1) := by decide +kernel
theorem dX5_load_0 : decode cX5_load 0 = .ok (.aload_n 0, 1) := by decide +kernel
theorem dX5_load_1 : decode cX5_load 1 = .ok (.iload_n 1, 1) := by decide +kernel
theorem dX5_load_2 : decode cX5_load 2 = .ok (.iconst 1, 1) := by decide +kernel
theorem dX5_load_3 : decode cX5_load 3 = .ok (.invokevirtual 217, 3) := by decide +kernel
theorem dX5_load_6 : decode cX5_load 6 = .ok (.ifCond .eq 14, 3) := by decide +kernel
theorem dX5_load_9 : decode cX5_load 9 = .ok (.aload_n 0, 1) := by decide +kernel
theorem dX5_load_10 : decode cX5_load 10 = .ok (.aload_n 0, 1) := by decide +kernel
theorem dX5_load_11 : decode cX5_load 11 = .ok (.iload_n 1, 1) := by decide +kernel
theorem dX5_load_12 : decode cX5_load 12 = .ok (.iconst 1, 1) := by decide +kernel
theorem dX5_load_13 : decode cX5_load 13 = .ok (.invokevirtual 217, 3) := by decide +kernel
theorem dX5_load_16 : decode cX5_load 16 = .ok (.invokevirtual 69, 3) := by decide +kernel
theorem dX5_load_19 : decode cX5_load 19 = .ok (.ireturn, 1) := by decide +kernel
theorem dX5_load_20 : decode cX5_load 20 = .ok (.iconst 0, 1) := by decide +kernel
theorem dX5_load_21 : decode cX5_load 21 = .ok (.istore_n 2, 1) := by decide +kernel
theorem dX5_load_22 : decode cX5_load 22 = .ok (.iload_n 2, 1) := by decide +kernel
theorem dX5_load_23 : decode cX5_load 23 = .ok (.aload_n 0, 1) := by decide +kernel
theorem dX5_load_24 : decode cX5_load 24 = .ok (.getfield 54, 3) := by decide +kernel
theorem dX5_load_27 : decode cX5_load 27 = .ok (.iload_n 1, 1) := by decide +kernel
theorem dX5_load_28 : decode cX5_load 28 = .ok (.iaload, 1) := by decide +kernel
theorem dX5_load_29 : decode cX5_load 29 = .ok (.if_icmp .ge 55, 3) := by decide +kernel
theorem dX5_load_32 : decode cX5_load 32 = .ok (.aload_n 0, 1) := by decide +kernel
theorem dX5_load_33 : decode cX5_load 33 = .ok (.iload_n 2, 1) := by decide +kernel
theorem dX5_load_34 : decode cX5_load 34 = .ok (.invokevirtual 111, 3) := by decide +kernel
theorem dX5_load_37 : decode cX5_load 37 = .ok (.ifCond .eq 47, 3) := by decide +kernel
theorem dX5_load_40 : decode cX5_load 40 = .ok (.aload_n 0, 1) := by decide +kernel
theorem dX5_load_41 : decode cX5_load 41 = .ok (.getfield 57, 3) := by decide +kernel
theorem dX5_load_44 : decode cX5_load 44 = .ok (.bipush 40, 2) := by decide +kernel
theorem dX5_load_46 : decode cX5_load 46 = .ok (.iload_n 1, 1) := by decide +kernel
theorem dX5_load_47 : decode cX5_load 47 = .ok (.imul, 1) := by decide +kernel
theorem dX5_load_48 : decode cX5_load 48 = .ok (.iload_n 2, 1) := by decide +kernel
theorem dX5_load_49 : decode cX5_load 49 = .ok (.iadd, 1) := by decide +kernel
theorem dX5_load_50 : decode cX5_load 50 = .ok (.iaload, 1) := by decide +kernel
theorem dX5_load_51 : decode cX5_load 51 = .ok (.invokestatic 94, 3) := by decide +kernel
theorem dX5_load_54 : decode cX5_load 54 = .ok (.ifCond .eq 30, 3) := by decide +kernel
theorem dX5_load_57 : decode cX5_load 57 = .ok (.aload_n 0, 1) := by decide +kernel
theorem dX5_load_58 : decode cX5_load 58 = .ok (.getfield 9, 3) := by decide +kernel
theorem dX5_load_61 : decode cX5_load 61 = .ok (.iload_n 2, 1) := by decide +kernel
theorem dX5_load_62 : decode cX5_load 62 = .ok (.iconst 1, 1) := by decide +kernel
theorem dX5_load_63 : decode cX5_load 63 = .ok (.invokestatic 88, 3) := by decide +kernel
theorem dX5_load_66 : decode cX5_load 66 = .ok (.aload_n 0, 1) := by decide +kernel
theorem dX5_load_67 : decode cX5_load 67 = .ok (.getfield 57, 3) := by decide +kernel
theorem dX5_load_70 : decode cX5_load 70 = .ok (.bipush 40, 2) := by decide +kernel
theorem dX5_load_72 : decode cX5_load 72 = .ok (.iload_n 1, 1) := by decide +kernel
theorem dX5_load_73 : decode cX5_load 73 = .ok (.imul, 1) := by decide +kernel
theorem dX5_load_74 : decode cX5_load 74 = .ok (.iload_n 2, 1) := by decide +kernel
theorem dX5_load_75 : decode cX5_load 75 = .ok (.iadd, 1) := by decide +kernel
theorem dX5_load_76 : decode cX5_load 76 = .ok (.iaload, 1) := by decide +kernel
theorem dX5_load_77 : decode cX5_load 77 = .ok (.iastore, 1) := by decide +kernel
theorem dX5_load_78 : decode cX5_load 78 = .ok (.iinc 2 1, 3) := by decide +kernel
theorem dX5_load_81 : decode cX5_load 81 = .ok (.goto (-59), 3) := by decide +kernel
theorem dX5_load_84 : decode cX5_load 84 = .ok (.iload_n 2, 1) := by decide +kernel
theorem dX5_load_85 : decode cX5_load 85 = .ok (.ireturn, 1) := by decide +kernel
theorem dX5_judge_0 : decode cX5_judge 0 = .ok (.aload_n 0, 1) := by decide +kernel
theorem dX5_judge_1 : decode cX5_judge 1 = .ok (.iload_n 1, 1) := by decide +kernel
theorem dX5_judge_2 : decode cX5_judge 2 = .ok (.iconst 1, 1) := by decide +kernel
theorem dX5_judge_3 : decode cX5_judge 3 = .ok (.invokevirtual 217, 3) := by decide +kernel
theorem dX5_judge_6 : decode cX5_judge 6 = .ok (.ifCond .eq 14, 3) := by decide +kernel
theorem dX5_judge_9 : decode cX5_judge 9 = .ok (.aload_n 0, 1) := by decide +kernel
theorem dX5_judge_10 : decode cX5_judge 10 = .ok (.aload_n 0, 1) := by decide +kernel
theorem dX5_judge_11 : decode cX5_judge 11 = .ok (.iload_n 1, 1) := by decide +kernel
theorem dX5_judge_12 : decode cX5_judge 12 = .ok (.iconst 1, 1) := by decide +kernel
theorem dX5_judge_13 : decode cX5_judge 13 = .ok (.invokevirtual 217, 3) := by decide +kernel
theorem dX5_judge_16 : decode cX5_judge 16 = .ok (.invokevirtual 69, 3) := by decide +kernel
theorem dX5_judge_19 : decode cX5_judge 19 = .ok (.ireturn, 1) := by decide +kernel
theorem dX5_judge_20 : decode cX5_judge 20 = .ok (.iconst 0, 1) := by decide +kernel
theorem dX5_judge_21 : decode cX5_judge 21 = .ok (.istore_n 2, 1) := by decide +kernel
theorem dX5_judge_22 : decode cX5_judge 22 = .ok (.iload_n 2, 1) := by decide +kernel
theorem dX5_judge_23 : decode cX5_judge 23 = .ok (.aload_n 0, 1) := by decide +kernel
theorem dX5_judge_24 : decode cX5_judge 24 = .ok (.getfield 54, 3) := by decide +kernel
theorem dX5_judge_27 : decode cX5_judge 27 = .ok (.iload_n 1, 1) := by decide +kernel
theorem dX5_judge_28 : decode cX5_judge 28 = .ok (.iaload, 1) := by decide +kernel
theorem dX5_judge_29 : decode cX5_judge 29 = .ok (.if_icmp .ge 40, 3) := by decide +kernel
theorem dX5_judge_32 : decode cX5_judge 32 = .ok (.aload_n 0, 1) := by decide +kernel
theorem dX5_judge_33 : decode cX5_judge 33 = .ok (.iload_n 2, 1) := by decide +kernel
theorem dX5_judge_34 : decode cX5_judge 34 = .ok (.invokevirtual 111, 3) := by decide +kernel
theorem dX5_judge_37 : decode cX5_judge 37 = .ok (.ifCond .eq 32, 3) := by decide +kernel
theorem dX5_judge_40 : decode cX5_judge 40 = .ok (.aload_n 0, 1) := by decide +kernel
theorem dX5_judge_41 : decode cX5_judge 41 = .ok (.getfield 57, 3) := by decide +kernel
theorem dX5_judge_44 : decode cX5_judge 44 = .ok (.bipush 40, 2) := by decide +kernel
theorem dX5_judge_46 : decode cX5_judge 46 = .ok (.iload_n 1, 1) := by decide +kernel
theorem dX5_judge_47 : decode cX5_judge 47 = .ok (.imul, 1) := by decide +kernel
theorem dX5_judge_48 : decode cX5_judge 48 = .ok (.iload_n 2, 1) := by decide +kernel
theorem dX5_judge_49 : decode cX5_judge 49 = .ok (.iadd, 1) := by decide +kernel
theorem dX5_judge_50 : decode cX5_judge 50 = .ok (.iaload, 1) := by decide +kernel
theorem dX5_judge_51 : decode cX5_judge 51 = .ok (.aload_n 0, 1) := by decide +kernel
theorem dX5_judge_52 : decode cX5_judge 52 = .ok (.getfield 9, 3) := by decide +kernel
theorem dX5_judge_55 : decode cX5_judge 55 = .ok (.bipush 59, 2) := by decide +kernel
theorem dX5_judge_57 : decode cX5_judge 57 = .ok (.iload_n 2, 1) := by decide +kernel
theorem dX5_judge_58 : decode cX5_judge 58 = .ok (.iadd, 1) := by decide +kernel
theorem dX5_judge_59 : decode cX5_judge 59 = .ok (.iaload, 1) := by decide +kernel
theorem dX5_judge_60 : decode cX5_judge 60 = .ok (.if_icmp .ne 9, 3) := by decide +kernel
theorem dX5_judge_63 : decode cX5_judge 63 = .ok (.iinc 2 1, 3) := by decide +kernel
theorem dX5_judge_66 : decode cX5_judge 66 = .ok (.goto (-44), 3) := by decide +kernel
theorem dX5_judge_69 : decode cX5_judge 69 = .ok (.iload_n 2, 1) := by decide +kernel
theorem dX5_judge_70 : decode cX5_judge 70 = .ok (.aload_n 0, 1) := by decide +kernel
theorem dX5_judge_71 : decode cX5_judge 71 = .ok (.getfield 54, 3) := by decide +kernel
theorem dX5_judge_74 : decode cX5_judge 74 = .ok (.iload_n 1, 1) := by decide +kernel
theorem dX5_judge_75 : decode cX5_judge 75 = .ok (.iaload, 1) := by decide +kernel
theorem dX5_judge_76 : decode cX5_judge 76 = .ok (.if_icmp .ne 7, 3) := by decide +kernel
theorem dX5_judge_79 : decode cX5_judge 79 = .ok (.iconst 0, 1) := by decide +kernel
theorem dX5_judge_80 : decode cX5_judge 80 = .ok (.goto 6, 3) := by decide +kernel
theorem dX5_judge_83 : decode cX5_judge 83 = .ok (.iconst 1, 1) := by decide +kernel
theorem dX5_judge_84 : decode cX5_judge 84 = .ok (.iload_n 2, 1) := by decide +kernel
theorem dX5_judge_85 : decode cX5_judge 85 = .ok (.iadd, 1) := by decide +kernel
theorem dX5_judge_86 : decode cX5_judge 86 = .ok (.ireturn, 1) := by decide +kernel
theorem dX5_image_0 : decode cX5_image 0 = .ok (.aload_n 0, 1) := by decide +kernel
theorem dX5_image_1 : decode cX5_image 1 = .ok (.getfield 9, 3) := by decide +kernel
theorem dX5_image_4 : decode cX5_image 4 = .ok (.aload_n 0, 1) := by decide +kernel
theorem dX5_image_5 : decode cX5_image 5 = .ok (.getfield 13, 3) := by decide +kernel
theorem dX5_image_8 : decode cX5_image 8 = .ok (.invokestatic 64, 3) := by decide +kernel
theorem dX5_image_11 : decode cX5_image 11 = .ok (.aload_n 0, 1) := by decide +kernel
theorem dX5_image_12 : decode cX5_image 12 = .ok (.iconst 1, 1) := by decide +kernel
theorem dX5_image_13 : decode cX5_image 13 = .ok (.putfield 319, 3) := by decide +kernel
theorem dX5_image_16 : decode cX5_image 16 = .ok (.iconst 1, 1) := by decide +kernel
theorem dX5_image_17 : decode cX5_image 17 = .ok (.ireturn, 1) := by decide +kernel
theorem dX5_undo_0 : decode cX5_undo 0 = .ok (.aload_n 0, 1) := by decide +kernel
theorem dX5_undo_1 : decode cX5_undo 1 = .ok (.getfield 319, 3) := by decide +kernel
theorem dX5_undo_4 : decode cX5_undo 4 = .ok (.ifCond .ne 10, 3) := by decide +kernel
theorem dX5_undo_7 : decode cX5_undo 7 = .ok (.aload_n 0, 1) := by decide +kernel
theorem dX5_undo_8 : decode cX5_undo 8 = .ok (.ldc 68, 2) := by decide +kernel
theorem dX5_undo_10 : decode cX5_undo 10 = .ok (.invokevirtual 69, 3) := by decide +kernel
theorem dX5_undo_13 : decode cX5_undo 13 = .ok (.ireturn, 1) := by decide +kernel
theorem dX5_undo_14 : decode cX5_undo 14 = .ok (.aload_n 0, 1) := by decide +kernel
theorem dX5_undo_15 : decode cX5_undo 15 = .ok (.getfield 13, 3) := by decide +kernel
theorem dX5_undo_18 : decode cX5_undo 18 = .ok (.aload_n 0, 1) := by decide +kernel
theorem dX5_undo_19 : decode cX5_undo 19 = .ok (.getfield 9, 3) := by decide +kernel
theorem dX5_undo_22 : decode cX5_undo 22 = .ok (.invokestatic 64, 3) := by decide +kernel
theorem dX5_undo_25 : decode cX5_undo 25 = .ok (.aload_n 0, 1) := by decide +kernel
theorem dX5_undo_26 : decode cX5_undo 26 = .ok (.getfield 9, 3) := by decide +kernel
theorem dX5_undo_29 : decode cX5_undo 29 = .ok (.iconst 0, 1) := by decide +kernel
theorem dX5_undo_30 : decode cX5_undo 30 = .ok (.iaload, 1) := by decide +kernel
theorem dX5_undo_31 : decode cX5_undo 31 = .ok (.ireturn, 1) := by decide +kernel
theorem dX5_tear_0 : decode cX5_tear 0 = .ok (.aload_n 0, 1) := by decide +kernel
theorem dX5_tear_1 : decode cX5_tear 1 = .ok (.getfield 319, 3) := by decide +kernel
theorem dX5_tear_4 : decode cX5_tear 4 = .ok (.ifCond .eq 7, 3) := by decide +kernel
theorem dX5_tear_7 : decode cX5_tear 7 = .ok (.iconst 1, 1) := by decide +kernel
theorem dX5_tear_8 : decode cX5_tear 8 = .ok (.goto 4, 3) := by decide +kernel
theorem dX5_tear_11 : decode cX5_tear 11 = .ok (.iconst 0, 1) := by decide +kernel
theorem dX5_tear_12 : decode cX5_tear 12 = .ok (.istore_n 1, 1) := by decide +kernel
theorem dX5_tear_13 : decode cX5_tear 13 = .ok (.aload_n 0, 1) := by decide +kernel
theorem dX5_tear_14 : decode cX5_tear 14 = .ok (.iconst 0, 1) := by decide +kernel
theorem dX5_tear_15 : decode cX5_tear 15 = .ok (.putfield 319, 3) := by decide +kernel
theorem dX5_tear_18 : decode cX5_tear 18 = .ok (.iload_n 1, 1) := by decide +kernel
theorem dX5_tear_19 : decode cX5_tear 19 = .ok (.ireturn, 1) := by decide +kernel
theorem dX5_count_0 : decode cX5_count 0 = .ok (.iconst 0, 1) := by decide +kernel
theorem dX5_count_1 : decode cX5_count 1 = .ok (.istore_n 2, 1) := by decide +kernel
theorem dX5_count_2 : decode cX5_count 2 = .ok (.iload_n 1, 1) := by decide +kernel
theorem dX5_count_3 : decode cX5_count 3 = .ok (.tableswitch 128 0 7 #[45, 52, 59, 64, 72, 80, 85, 92], 45) := by decide +kernel
theorem dX5_count_48 : decode cX5_count 48 = .ok (.aload_n 0, 1) := by decide +kernel
theorem dX5_count_49 : decode cX5_count 49 = .ok (.getfield 9, 3) := by decide +kernel
theorem dX5_count_52 : decode cX5_count 52 = .ok (.iconst 0, 1) := by decide +kernel
theorem dX5_count_53 : decode cX5_count 53 = .ok (.iaload, 1) := by decide +kernel
theorem dX5_count_54 : decode cX5_count 54 = .ok (.ireturn, 1) := by decide +kernel
theorem dX5_count_55 : decode cX5_count 55 = .ok (.aload_n 0, 1) := by decide +kernel
theorem dX5_count_56 : decode cX5_count 56 = .ok (.getfield 9, 3) := by decide +kernel
theorem dX5_count_59 : decode cX5_count 59 = .ok (.iconst 1, 1) := by decide +kernel
theorem dX5_count_60 : decode cX5_count 60 = .ok (.iaload, 1) := by decide +kernel
theorem dX5_count_61 : decode cX5_count 61 = .ok (.ireturn, 1) := by decide +kernel
theorem dX5_count_62 : decode cX5_count 62 = .ok (.aload_n 0, 1) := by decide +kernel
theorem dX5_count_63 : decode cX5_count 63 = .ok (.invokevirtual 142, 3) := by decide +kernel
theorem dX5_count_66 : decode cX5_count 66 = .ok (.ireturn, 1) := by decide +kernel
theorem dX5_count_67 : decode cX5_count 67 = .ok (.aload_n 0, 1) := by decide +kernel
theorem dX5_count_68 : decode cX5_count 68 = .ok (.invokevirtual 176, 3) := by decide +kernel
theorem dX5_count_71 : decode cX5_count 71 = .ok (.invokestatic 207, 3) := by decide +kernel
theorem dX5_count_74 : decode cX5_count 74 = .ok (.ireturn, 1) := by decide +kernel
theorem dX5_count_75 : decode cX5_count 75 = .ok (.aload_n 0, 1) := by decide +kernel
theorem dX5_count_76 : decode cX5_count 76 = .ok (.invokevirtual 170, 3) := by decide +kernel
theorem dX5_count_79 : decode cX5_count 79 = .ok (.invokestatic 207, 3) := by decide +kernel
theorem dX5_count_82 : decode cX5_count 82 = .ok (.ireturn, 1) := by decide +kernel
theorem dX5_count_83 : decode cX5_count 83 = .ok (.aload_n 0, 1) := by decide +kernel
theorem dX5_count_84 : decode cX5_count 84 = .ok (.getfield 231, 3) := by decide +kernel
theorem dX5_count_87 : decode cX5_count 87 = .ok (.ireturn, 1) := by decide +kernel
theorem dX5_count_88 : decode cX5_count 88 = .ok (.aload_n 0, 1) := by decide +kernel
theorem dX5_count_89 : decode cX5_count 89 = .ok (.getfield 9, 3) := by decide +kernel
theorem dX5_count_92 : decode cX5_count 92 = .ok (.iconst 2, 1) := by decide +kernel
theorem dX5_count_93 : decode cX5_count 93 = .ok (.iaload, 1) := by decide +kernel
theorem dX5_count_94 : decode cX5_count 94 = .ok (.ireturn, 1) := by decide +kernel
theorem dX5_count_95 : decode cX5_count 95 = .ok (.iconst 0, 1) := by decide +kernel
theorem dX5_count_96 : decode cX5_count 96 = .ok (.istore_n 3, 1) := by decide +kernel
theorem dX5_count_97 : decode cX5_count 97 = .ok (.iload_n 3, 1) := by decide +kernel
theorem dX5_count_98 : decode cX5_count 98 = .ok (.bipush 10, 2) := by decide +kernel
theorem dX5_count_100 : decode cX5_count 100 = .ok (.if_icmp .ge 29, 3) := by decide +kernel
theorem dX5_count_103 : decode cX5_count 103 = .ok (.iload_n 2, 1) := by decide +kernel
theorem dX5_count_104 : decode cX5_count 104 = .ok (.aload_n 0, 1) := by decide +kernel
theorem dX5_count_105 : decode cX5_count 105 = .ok (.getfield 9, 3) := by decide +kernel
theorem dX5_count_108 : decode cX5_count 108 = .ok (.bipush 9, 2) := by decide +kernel
theorem dX5_count_110 : decode cX5_count 110 = .ok (.iload_n 3, 1) := by decide +kernel
theorem dX5_count_111 : decode cX5_count 111 = .ok (.iadd, 1) := by decide +kernel
theorem dX5_count_112 : decode cX5_count 112 = .ok (.iaload, 1) := by decide +kernel
theorem dX5_count_113 : decode cX5_count 113 = .ok (.ifCond .ge 7, 3) := by decide +kernel
theorem dX5_count_116 : decode cX5_count 116 = .ok (.iconst 0, 1) := by decide +kernel
theorem dX5_count_117 : decode cX5_count 117 = .ok (.goto 4, 3) := by decide +kernel
theorem dX5_count_120 : decode cX5_count 120 = .ok (.iconst 1, 1) := by decide +kernel
theorem dX5_count_121 : decode cX5_count 121 = .ok (.iadd, 1) := by decide +kernel
theorem dX5_count_122 : decode cX5_count 122 = .ok (.istore_n 2, 1) := by decide +kernel
theorem dX5_count_123 : decode cX5_count 123 = .ok (.iinc 3 1, 3) := by decide +kernel
theorem dX5_count_126 : decode cX5_count 126 = .ok (.goto (-29), 3) := by decide +kernel
theorem dX5_count_129 : decode cX5_count 129 = .ok (.iload_n 2, 1) := by decide +kernel
theorem dX5_count_130 : decode cX5_count 130 = .ok (.ireturn, 1) := by decide +kernel
theorem dX5_count_131 : decode cX5_count 131 = .ok (.aload_n 0, 1) := by decide +kernel
theorem dX5_count_132 : decode cX5_count 132 = .ok (.ldc 63, 2) := by decide +kernel
theorem dX5_count_134 : decode cX5_count 134 = .ok (.invokevirtual 69, 3) := by decide +kernel
theorem dX5_count_137 : decode cX5_count 137 = .ok (.ireturn, 1) := by decide +kernel
theorem dX5_status_0 : decode cX5_status 0 = .ok (.iload_n 1, 1) := by decide +kernel
theorem dX5_status_1 : decode cX5_status 1 = .ok (.iconst (-1), 1) := by decide +kernel
theorem dX5_status_2 : decode cX5_status 2 = .ok (.bipush 6, 2) := by decide +kernel
theorem dX5_status_4 : decode cX5_status 4 = .ok (.invokestatic 73, 3) := by decide +kernel
theorem dX5_status_7 : decode cX5_status 7 = .ok (.ifCond .eq 14, 3) := by decide +kernel
theorem dX5_status_10 : decode cX5_status 10 = .ok (.aload_n 0, 1) := by decide +kernel
theorem dX5_status_11 : decode cX5_status 11 = .ok (.getfield 19, 3) := by decide +kernel
theorem dX5_status_14 : decode cX5_status 14 = .ok (.iload_n 1, 1) := by decide +kernel
theorem dX5_status_15 : decode cX5_status 15 = .ok (.iconst 1, 1) := by decide +kernel
theorem dX5_status_16 : decode cX5_status 16 = .ok (.iadd, 1) := by decide +kernel
theorem dX5_status_17 : decode cX5_status 17 = .ok (.iaload, 1) := by decide +kernel
theorem dX5_status_18 : decode cX5_status 18 = .ok (.goto 9, 3) := by decide +kernel
theorem dX5_status_21 : decode cX5_status 21 = .ok (.aload_n 0, 1) := by decide +kernel
theorem dX5_status_22 : decode cX5_status 22 = .ok (.ldc 63, 2) := by decide +kernel
theorem dX5_status_24 : decode cX5_status 24 = .ok (.invokevirtual 69, 3) := by decide +kernel
theorem dX5_status_27 : decode cX5_status 27 = .ok (.ireturn, 1) := by decide +kernel
end
section
theorem dL_law_0 : decode cL_law 0 = .ok (.new 7, 3) := by decide +kernel
theorem dL_law_3 : decode cL_law 3 = .ok (.dup, 1) := by decide +kernel
theorem dL_law_4 : decode cL_law 4 = .ok (.invokespecial 9, 3) := by decide +kernel
theorem dL_law_7 : decode cL_law 7 = .ok (.astore_n 1, 1) := by decide +kernel
theorem dL_law_8 : decode cL_law 8 = .ok (.new 10, 3) := by decide +kernel
theorem dL_law_11 : decode cL_law 11 = .ok (.dup, 1) := by decide +kernel
theorem dL_law_12 : decode cL_law 12 = .ok (.invokespecial 12, 3) := by decide +kernel
theorem dL_law_15 : decode cL_law 15 = .ok (.astore_n 2, 1) := by decide +kernel
theorem dL_law_16 : decode cL_law 16 = .ok (.iconst 0, 1) := by decide +kernel
theorem dL_law_17 : decode cL_law 17 = .ok (.istore_n 3, 1) := by decide +kernel
theorem dL_law_18 : decode cL_law 18 = .ok (.iload_n 3, 1) := by decide +kernel
theorem dL_law_19 : decode cL_law 19 = .ok (.aload_n 0, 1) := by decide +kernel
theorem dL_law_20 : decode cL_law 20 = .ok (.arraylength, 1) := by decide +kernel
theorem dL_law_21 : decode cL_law 21 = .ok (.bipush 6, 2) := by decide +kernel
theorem dL_law_23 : decode cL_law 23 = .ok (.isub, 1) := by decide +kernel
theorem dL_law_24 : decode cL_law 24 = .ok (.if_icmp .gt 1365, 3) := by decide +kernel
theorem dL_law_27 : decode cL_law 27 = .ok (.aload_n 0, 1) := by decide +kernel
theorem dL_law_28 : decode cL_law 28 = .ok (.iload_n 3, 1) := by decide +kernel
theorem dL_law_29 : decode cL_law 29 = .ok (.iaload, 1) := by decide +kernel
theorem dL_law_30 : decode cL_law 30 = .ok (.bipush 63, 2) := by decide +kernel
theorem dL_law_32 : decode cL_law 32 = .ok (.iand, 1) := by decide +kernel
theorem dL_law_33 : decode cL_law 33 = .ok (.tableswitch 1350 0 41 #[183, 226, 249, 292, 325, 368, 391, 424, 457, 490, 513, 536, 579, 602, 625, 658, 681, 694, 717, 730, 753, 776, 799, 832, 865, 888, 922, 945, 978, 991, 1004, 1037, 1070, 1113, 1156, 1219, 1242, 1265, 1278, 1291, 1304, 1327], 183) := by decide +kernel
theorem dL_law_216 : decode cL_law 216 = .ok (.aload_n 1, 1) := by decide +kernel
theorem dL_law_217 : decode cL_law 217 = .ok (.aload_n 0, 1) := by decide +kernel
theorem dL_law_218 : decode cL_law 218 = .ok (.iload_n 3, 1) := by decide +kernel
theorem dL_law_219 : decode cL_law 219 = .ok (.iconst 1, 1) := by decide +kernel
theorem dL_law_220 : decode cL_law 220 = .ok (.iadd, 1) := by decide +kernel
theorem dL_law_221 : decode cL_law 221 = .ok (.iaload, 1) := by decide +kernel
theorem dL_law_222 : decode cL_law 222 = .ok (.aload_n 0, 1) := by decide +kernel
theorem dL_law_223 : decode cL_law 223 = .ok (.iload_n 3, 1) := by decide +kernel
theorem dL_law_224 : decode cL_law 224 = .ok (.iconst 2, 1) := by decide +kernel
theorem dL_law_225 : decode cL_law 225 = .ok (.iadd, 1) := by decide +kernel
theorem dL_law_226 : decode cL_law 226 = .ok (.iaload, 1) := by decide +kernel
theorem dL_law_227 : decode cL_law 227 = .ok (.aload_n 0, 1) := by decide +kernel
theorem dL_law_228 : decode cL_law 228 = .ok (.iload_n 3, 1) := by decide +kernel
theorem dL_law_229 : decode cL_law 229 = .ok (.iconst 3, 1) := by decide +kernel
theorem dL_law_230 : decode cL_law 230 = .ok (.iadd, 1) := by decide +kernel
theorem dL_law_231 : decode cL_law 231 = .ok (.iaload, 1) := by decide +kernel
theorem dL_law_232 : decode cL_law 232 = .ok (.invokevirtual 13, 3) := by decide +kernel
theorem dL_law_235 : decode cL_law 235 = .ok (.aload_n 2, 1) := by decide +kernel
theorem dL_law_236 : decode cL_law 236 = .ok (.aload_n 0, 1) := by decide +kernel
theorem dL_law_237 : decode cL_law 237 = .ok (.iload_n 3, 1) := by decide +kernel
theorem dL_law_238 : decode cL_law 238 = .ok (.iconst 1, 1) := by decide +kernel
theorem dL_law_239 : decode cL_law 239 = .ok (.iadd, 1) := by decide +kernel
theorem dL_law_240 : decode cL_law 240 = .ok (.iaload, 1) := by decide +kernel
theorem dL_law_241 : decode cL_law 241 = .ok (.aload_n 0, 1) := by decide +kernel
theorem dL_law_242 : decode cL_law 242 = .ok (.iload_n 3, 1) := by decide +kernel
theorem dL_law_243 : decode cL_law 243 = .ok (.iconst 2, 1) := by decide +kernel
theorem dL_law_244 : decode cL_law 244 = .ok (.iadd, 1) := by decide +kernel
theorem dL_law_245 : decode cL_law 245 = .ok (.iaload, 1) := by decide +kernel
theorem dL_law_246 : decode cL_law 246 = .ok (.aload_n 0, 1) := by decide +kernel
theorem dL_law_247 : decode cL_law 247 = .ok (.iload_n 3, 1) := by decide +kernel
theorem dL_law_248 : decode cL_law 248 = .ok (.iconst 3, 1) := by decide +kernel
theorem dL_law_249 : decode cL_law 249 = .ok (.iadd, 1) := by decide +kernel
theorem dL_law_250 : decode cL_law 250 = .ok (.iaload, 1) := by decide +kernel
theorem dL_law_251 : decode cL_law 251 = .ok (.invokevirtual 17, 3) := by decide +kernel
theorem dL_law_254 : decode cL_law 254 = .ok (.if_icmp .eq 1129, 3) := by decide +kernel
theorem dL_law_257 : decode cL_law 257 = .ok (.iconst 0, 1) := by decide +kernel
theorem dL_law_258 : decode cL_law 258 = .ok (.ireturn, 1) := by decide +kernel
theorem dL_law_259 : decode cL_law 259 = .ok (.aload_n 1, 1) := by decide +kernel
theorem dL_law_260 : decode cL_law 260 = .ok (.aload_n 0, 1) := by decide +kernel
theorem dL_law_261 : decode cL_law 261 = .ok (.iload_n 3, 1) := by decide +kernel
theorem dL_law_262 : decode cL_law 262 = .ok (.iconst 1, 1) := by decide +kernel
theorem dL_law_263 : decode cL_law 263 = .ok (.iadd, 1) := by decide +kernel
theorem dL_law_264 : decode cL_law 264 = .ok (.iaload, 1) := by decide +kernel
theorem dL_law_265 : decode cL_law 265 = .ok (.invokevirtual 18, 3) := by decide +kernel
theorem dL_law_268 : decode cL_law 268 = .ok (.aload_n 2, 1) := by decide +kernel
theorem dL_law_269 : decode cL_law 269 = .ok (.aload_n 0, 1) := by decide +kernel
theorem dL_law_270 : decode cL_law 270 = .ok (.iload_n 3, 1) := by decide +kernel
theorem dL_law_271 : decode cL_law 271 = .ok (.iconst 1, 1) := by decide +kernel
theorem dL_law_272 : decode cL_law 272 = .ok (.iadd, 1) := by decide +kernel
theorem dL_law_273 : decode cL_law 273 = .ok (.iaload, 1) := by decide +kernel
theorem dL_law_274 : decode cL_law 274 = .ok (.invokevirtual 22, 3) := by decide +kernel
theorem dL_law_277 : decode cL_law 277 = .ok (.if_icmp .eq 1106, 3) := by decide +kernel
theorem dL_law_280 : decode cL_law 280 = .ok (.iconst 0, 1) := by decide +kernel
theorem dL_law_281 : decode cL_law 281 = .ok (.ireturn, 1) := by decide +kernel
theorem dL_law_282 : decode cL_law 282 = .ok (.aload_n 1, 1) := by decide +kernel
theorem dL_law_283 : decode cL_law 283 = .ok (.aload_n 0, 1) := by decide +kernel
theorem dL_law_284 : decode cL_law 284 = .ok (.iload_n 3, 1) := by decide +kernel
theorem dL_law_285 : decode cL_law 285 = .ok (.iconst 1, 1) := by decide +kernel
theorem dL_law_286 : decode cL_law 286 = .ok (.iadd, 1) := by decide +kernel
theorem dL_law_287 : decode cL_law 287 = .ok (.iaload, 1) := by decide +kernel
theorem dL_law_288 : decode cL_law 288 = .ok (.aload_n 0, 1) := by decide +kernel
theorem dL_law_289 : decode cL_law 289 = .ok (.iload_n 3, 1) := by decide +kernel
theorem dL_law_290 : decode cL_law 290 = .ok (.iconst 2, 1) := by decide +kernel
theorem dL_law_291 : decode cL_law 291 = .ok (.iadd, 1) := by decide +kernel
theorem dL_law_292 : decode cL_law 292 = .ok (.iaload, 1) := by decide +kernel
theorem dL_law_293 : decode cL_law 293 = .ok (.aload_n 0, 1) := by decide +kernel
theorem dL_law_294 : decode cL_law 294 = .ok (.iload_n 3, 1) := by decide +kernel
theorem dL_law_295 : decode cL_law 295 = .ok (.iconst 3, 1) := by decide +kernel
theorem dL_law_296 : decode cL_law 296 = .ok (.iadd, 1) := by decide +kernel
theorem dL_law_297 : decode cL_law 297 = .ok (.iaload, 1) := by decide +kernel
theorem dL_law_298 : decode cL_law 298 = .ok (.invokevirtual 23, 3) := by decide +kernel
theorem dL_law_301 : decode cL_law 301 = .ok (.aload_n 2, 1) := by decide +kernel
theorem dL_law_302 : decode cL_law 302 = .ok (.aload_n 0, 1) := by decide +kernel
theorem dL_law_303 : decode cL_law 303 = .ok (.iload_n 3, 1) := by decide +kernel
theorem dL_law_304 : decode cL_law 304 = .ok (.iconst 1, 1) := by decide +kernel
theorem dL_law_305 : decode cL_law 305 = .ok (.iadd, 1) := by decide +kernel
theorem dL_law_306 : decode cL_law 306 = .ok (.iaload, 1) := by decide +kernel
theorem dL_law_307 : decode cL_law 307 = .ok (.aload_n 0, 1) := by decide +kernel
theorem dL_law_308 : decode cL_law 308 = .ok (.iload_n 3, 1) := by decide +kernel
theorem dL_law_309 : decode cL_law 309 = .ok (.iconst 2, 1) := by decide +kernel
theorem dL_law_310 : decode cL_law 310 = .ok (.iadd, 1) := by decide +kernel
theorem dL_law_311 : decode cL_law 311 = .ok (.iaload, 1) := by decide +kernel
theorem dL_law_312 : decode cL_law 312 = .ok (.aload_n 0, 1) := by decide +kernel
theorem dL_law_313 : decode cL_law 313 = .ok (.iload_n 3, 1) := by decide +kernel
theorem dL_law_314 : decode cL_law 314 = .ok (.iconst 3, 1) := by decide +kernel
theorem dL_law_315 : decode cL_law 315 = .ok (.iadd, 1) := by decide +kernel
theorem dL_law_316 : decode cL_law 316 = .ok (.iaload, 1) := by decide +kernel
theorem dL_law_317 : decode cL_law 317 = .ok (.invokevirtual 26, 3) := by decide +kernel
theorem dL_law_320 : decode cL_law 320 = .ok (.if_icmp .eq 1063, 3) := by decide +kernel
theorem dL_law_323 : decode cL_law 323 = .ok (.iconst 0, 1) := by decide +kernel
theorem dL_law_324 : decode cL_law 324 = .ok (.ireturn, 1) := by decide +kernel
theorem dL_law_325 : decode cL_law 325 = .ok (.aload_n 1, 1) := by decide +kernel
theorem dL_law_326 : decode cL_law 326 = .ok (.aload_n 0, 1) := by decide +kernel
theorem dL_law_327 : decode cL_law 327 = .ok (.iload_n 3, 1) := by decide +kernel
theorem dL_law_328 : decode cL_law 328 = .ok (.iconst 1, 1) := by decide +kernel
theorem dL_law_329 : decode cL_law 329 = .ok (.iadd, 1) := by decide +kernel
theorem dL_law_330 : decode cL_law 330 = .ok (.iaload, 1) := by decide +kernel
theorem dL_law_331 : decode cL_law 331 = .ok (.aload_n 0, 1) := by decide +kernel
theorem dL_law_332 : decode cL_law 332 = .ok (.iload_n 3, 1) := by decide +kernel
theorem dL_law_333 : decode cL_law 333 = .ok (.iconst 2, 1) := by decide +kernel
theorem dL_law_334 : decode cL_law 334 = .ok (.iadd, 1) := by decide +kernel
theorem dL_law_335 : decode cL_law 335 = .ok (.iaload, 1) := by decide +kernel
theorem dL_law_336 : decode cL_law 336 = .ok (.invokevirtual 27, 3) := by decide +kernel
theorem dL_law_339 : decode cL_law 339 = .ok (.aload_n 2, 1) := by decide +kernel
theorem dL_law_340 : decode cL_law 340 = .ok (.aload_n 0, 1) := by decide +kernel
theorem dL_law_341 : decode cL_law 341 = .ok (.iload_n 3, 1) := by decide +kernel
theorem dL_law_342 : decode cL_law 342 = .ok (.iconst 1, 1) := by decide +kernel
theorem dL_law_343 : decode cL_law 343 = .ok (.iadd, 1) := by decide +kernel
theorem dL_law_344 : decode cL_law 344 = .ok (.iaload, 1) := by decide +kernel
theorem dL_law_345 : decode cL_law 345 = .ok (.aload_n 0, 1) := by decide +kernel
theorem dL_law_346 : decode cL_law 346 = .ok (.iload_n 3, 1) := by decide +kernel
theorem dL_law_347 : decode cL_law 347 = .ok (.iconst 2, 1) := by decide +kernel
theorem dL_law_348 : decode cL_law 348 = .ok (.iadd, 1) := by decide +kernel
theorem dL_law_349 : decode cL_law 349 = .ok (.iaload, 1) := by decide +kernel
theorem dL_law_350 : decode cL_law 350 = .ok (.invokevirtual 31, 3) := by decide +kernel
theorem dL_law_353 : decode cL_law 353 = .ok (.if_icmp .eq 1030, 3) := by decide +kernel
theorem dL_law_356 : decode cL_law 356 = .ok (.iconst 0, 1) := by decide +kernel
theorem dL_law_357 : decode cL_law 357 = .ok (.ireturn, 1) := by decide +kernel
theorem dL_law_358 : decode cL_law 358 = .ok (.aload_n 1, 1) := by decide +kernel
theorem dL_law_359 : decode cL_law 359 = .ok (.aload_n 0, 1) := by decide +kernel
theorem dL_law_360 : decode cL_law 360 = .ok (.iload_n 3, 1) := by decide +kernel
theorem dL_law_361 : decode cL_law 361 = .ok (.iconst 1, 1) := by decide +kernel
theorem dL_law_362 : decode cL_law 362 = .ok (.iadd, 1) := by decide +kernel
theorem dL_law_363 : decode cL_law 363 = .ok (.iaload, 1) := by decide +kernel
theorem dL_law_364 : decode cL_law 364 = .ok (.aload_n 0, 1) := by decide +kernel
theorem dL_law_365 : decode cL_law 365 = .ok (.iload_n 3, 1) := by decide +kernel
theorem dL_law_366 : decode cL_law 366 = .ok (.iconst 2, 1) := by decide +kernel
theorem dL_law_367 : decode cL_law 367 = .ok (.iadd, 1) := by decide +kernel
theorem dL_law_368 : decode cL_law 368 = .ok (.iaload, 1) := by decide +kernel
theorem dL_law_369 : decode cL_law 369 = .ok (.aload_n 0, 1) := by decide +kernel
theorem dL_law_370 : decode cL_law 370 = .ok (.iload_n 3, 1) := by decide +kernel
theorem dL_law_371 : decode cL_law 371 = .ok (.iconst 3, 1) := by decide +kernel
theorem dL_law_372 : decode cL_law 372 = .ok (.iadd, 1) := by decide +kernel
theorem dL_law_373 : decode cL_law 373 = .ok (.iaload, 1) := by decide +kernel
theorem dL_law_374 : decode cL_law 374 = .ok (.invokevirtual 32, 3) := by decide +kernel
theorem dL_law_377 : decode cL_law 377 = .ok (.aload_n 2, 1) := by decide +kernel
theorem dL_law_378 : decode cL_law 378 = .ok (.aload_n 0, 1) := by decide +kernel
theorem dL_law_379 : decode cL_law 379 = .ok (.iload_n 3, 1) := by decide +kernel
theorem dL_law_380 : decode cL_law 380 = .ok (.iconst 1, 1) := by decide +kernel
theorem dL_law_381 : decode cL_law 381 = .ok (.iadd, 1) := by decide +kernel
theorem dL_law_382 : decode cL_law 382 = .ok (.iaload, 1) := by decide +kernel
theorem dL_law_383 : decode cL_law 383 = .ok (.aload_n 0, 1) := by decide +kernel
theorem dL_law_384 : decode cL_law 384 = .ok (.iload_n 3, 1) := by decide +kernel
theorem dL_law_385 : decode cL_law 385 = .ok (.iconst 2, 1) := by decide +kernel
theorem dL_law_386 : decode cL_law 386 = .ok (.iadd, 1) := by decide +kernel
theorem dL_law_387 : decode cL_law 387 = .ok (.iaload, 1) := by decide +kernel
theorem dL_law_388 : decode cL_law 388 = .ok (.aload_n 0, 1) := by decide +kernel
theorem dL_law_389 : decode cL_law 389 = .ok (.iload_n 3, 1) := by decide +kernel
theorem dL_law_390 : decode cL_law 390 = .ok (.iconst 3, 1) := by decide +kernel
theorem dL_law_391 : decode cL_law 391 = .ok (.iadd, 1) := by decide +kernel
theorem dL_law_392 : decode cL_law 392 = .ok (.iaload, 1) := by decide +kernel
theorem dL_law_393 : decode cL_law 393 = .ok (.invokevirtual 35, 3) := by decide +kernel
theorem dL_law_396 : decode cL_law 396 = .ok (.if_icmp .eq 987, 3) := by decide +kernel
theorem dL_law_399 : decode cL_law 399 = .ok (.iconst 0, 1) := by decide +kernel
theorem dL_law_400 : decode cL_law 400 = .ok (.ireturn, 1) := by decide +kernel
theorem dL_law_401 : decode cL_law 401 = .ok (.aload_n 1, 1) := by decide +kernel
theorem dL_law_402 : decode cL_law 402 = .ok (.aload_n 0, 1) := by decide +kernel
theorem dL_law_403 : decode cL_law 403 = .ok (.iload_n 3, 1) := by decide +kernel
theorem dL_law_404 : decode cL_law 404 = .ok (.iconst 1, 1) := by decide +kernel
theorem dL_law_405 : decode cL_law 405 = .ok (.iadd, 1) := by decide +kernel
theorem dL_law_406 : decode cL_law 406 = .ok (.iaload, 1) := by decide +kernel
theorem dL_law_407 : decode cL_law 407 = .ok (.invokevirtual 36, 3) := by decide +kernel
theorem dL_law_410 : decode cL_law 410 = .ok (.aload_n 2, 1) := by decide +kernel
theorem dL_law_411 : decode cL_law 411 = .ok (.aload_n 0, 1) := by decide +kernel
theorem dL_law_412 : decode cL_law 412 = .ok (.iload_n 3, 1) := by decide +kernel
theorem dL_law_413 : decode cL_law 413 = .ok (.iconst 1, 1) := by decide +kernel
theorem dL_law_414 : decode cL_law 414 = .ok (.iadd, 1) := by decide +kernel
theorem dL_law_415 : decode cL_law 415 = .ok (.iaload, 1) := by decide +kernel
theorem dL_law_416 : decode cL_law 416 = .ok (.invokevirtual 39, 3) := by decide +kernel
theorem dL_law_419 : decode cL_law 419 = .ok (.if_icmp .eq 964, 3) := by decide +kernel
theorem dL_law_422 : decode cL_law 422 = .ok (.iconst 0, 1) := by decide +kernel
theorem dL_law_423 : decode cL_law 423 = .ok (.ireturn, 1) := by decide +kernel
theorem dL_law_424 : decode cL_law 424 = .ok (.aload_n 1, 1) := by decide +kernel
theorem dL_law_425 : decode cL_law 425 = .ok (.aload_n 0, 1) := by decide +kernel
theorem dL_law_426 : decode cL_law 426 = .ok (.iload_n 3, 1) := by decide +kernel
theorem dL_law_427 : decode cL_law 427 = .ok (.iconst 1, 1) := by decide +kernel
theorem dL_law_428 : decode cL_law 428 = .ok (.iadd, 1) := by decide +kernel
theorem dL_law_429 : decode cL_law 429 = .ok (.iaload, 1) := by decide +kernel
theorem dL_law_430 : decode cL_law 430 = .ok (.aload_n 0, 1) := by decide +kernel
theorem dL_law_431 : decode cL_law 431 = .ok (.iload_n 3, 1) := by decide +kernel
theorem dL_law_432 : decode cL_law 432 = .ok (.iconst 2, 1) := by decide +kernel
theorem dL_law_433 : decode cL_law 433 = .ok (.iadd, 1) := by decide +kernel
theorem dL_law_434 : decode cL_law 434 = .ok (.iaload, 1) := by decide +kernel
theorem dL_law_435 : decode cL_law 435 = .ok (.invokevirtual 40, 3) := by decide +kernel
theorem dL_law_438 : decode cL_law 438 = .ok (.aload_n 2, 1) := by decide +kernel
theorem dL_law_439 : decode cL_law 439 = .ok (.aload_n 0, 1) := by decide +kernel
theorem dL_law_440 : decode cL_law 440 = .ok (.iload_n 3, 1) := by decide +kernel
theorem dL_law_441 : decode cL_law 441 = .ok (.iconst 1, 1) := by decide +kernel
theorem dL_law_442 : decode cL_law 442 = .ok (.iadd, 1) := by decide +kernel
theorem dL_law_443 : decode cL_law 443 = .ok (.iaload, 1) := by decide +kernel
theorem dL_law_444 : decode cL_law 444 = .ok (.aload_n 0, 1) := by decide +kernel
theorem dL_law_445 : decode cL_law 445 = .ok (.iload_n 3, 1) := by decide +kernel
theorem dL_law_446 : decode cL_law 446 = .ok (.iconst 2, 1) := by decide +kernel
theorem dL_law_447 : decode cL_law 447 = .ok (.iadd, 1) := by decide +kernel
theorem dL_law_448 : decode cL_law 448 = .ok (.iaload, 1) := by decide +kernel
theorem dL_law_449 : decode cL_law 449 = .ok (.invokevirtual 43, 3) := by decide +kernel
theorem dL_law_452 : decode cL_law 452 = .ok (.if_icmp .eq 931, 3) := by decide +kernel
theorem dL_law_455 : decode cL_law 455 = .ok (.iconst 0, 1) := by decide +kernel
theorem dL_law_456 : decode cL_law 456 = .ok (.ireturn, 1) := by decide +kernel
theorem dL_law_457 : decode cL_law 457 = .ok (.aload_n 1, 1) := by decide +kernel
theorem dL_law_458 : decode cL_law 458 = .ok (.aload_n 0, 1) := by decide +kernel
theorem dL_law_459 : decode cL_law 459 = .ok (.iload_n 3, 1) := by decide +kernel
theorem dL_law_460 : decode cL_law 460 = .ok (.iconst 1, 1) := by decide +kernel
theorem dL_law_461 : decode cL_law 461 = .ok (.iadd, 1) := by decide +kernel
theorem dL_law_462 : decode cL_law 462 = .ok (.iaload, 1) := by decide +kernel
theorem dL_law_463 : decode cL_law 463 = .ok (.aload_n 0, 1) := by decide +kernel
theorem dL_law_464 : decode cL_law 464 = .ok (.iload_n 3, 1) := by decide +kernel
theorem dL_law_465 : decode cL_law 465 = .ok (.iconst 2, 1) := by decide +kernel
theorem dL_law_466 : decode cL_law 466 = .ok (.iadd, 1) := by decide +kernel
theorem dL_law_467 : decode cL_law 467 = .ok (.iaload, 1) := by decide +kernel
theorem dL_law_468 : decode cL_law 468 = .ok (.invokevirtual 44, 3) := by decide +kernel
theorem dL_law_471 : decode cL_law 471 = .ok (.aload_n 2, 1) := by decide +kernel
theorem dL_law_472 : decode cL_law 472 = .ok (.aload_n 0, 1) := by decide +kernel
theorem dL_law_473 : decode cL_law 473 = .ok (.iload_n 3, 1) := by decide +kernel
theorem dL_law_474 : decode cL_law 474 = .ok (.iconst 1, 1) := by decide +kernel
theorem dL_law_475 : decode cL_law 475 = .ok (.iadd, 1) := by decide +kernel
theorem dL_law_476 : decode cL_law 476 = .ok (.iaload, 1) := by decide +kernel
theorem dL_law_477 : decode cL_law 477 = .ok (.aload_n 0, 1) := by decide +kernel
theorem dL_law_478 : decode cL_law 478 = .ok (.iload_n 3, 1) := by decide +kernel
theorem dL_law_479 : decode cL_law 479 = .ok (.iconst 2, 1) := by decide +kernel
theorem dL_law_480 : decode cL_law 480 = .ok (.iadd, 1) := by decide +kernel
theorem dL_law_481 : decode cL_law 481 = .ok (.iaload, 1) := by decide +kernel
theorem dL_law_482 : decode cL_law 482 = .ok (.invokevirtual 47, 3) := by decide +kernel
theorem dL_law_485 : decode cL_law 485 = .ok (.if_icmp .eq 898, 3) := by decide +kernel
theorem dL_law_488 : decode cL_law 488 = .ok (.iconst 0, 1) := by decide +kernel
theorem dL_law_489 : decode cL_law 489 = .ok (.ireturn, 1) := by decide +kernel
theorem dL_law_490 : decode cL_law 490 = .ok (.aload_n 1, 1) := by decide +kernel
theorem dL_law_491 : decode cL_law 491 = .ok (.aload_n 0, 1) := by decide +kernel
theorem dL_law_492 : decode cL_law 492 = .ok (.iload_n 3, 1) := by decide +kernel
theorem dL_law_493 : decode cL_law 493 = .ok (.iconst 1, 1) := by decide +kernel
theorem dL_law_494 : decode cL_law 494 = .ok (.iadd, 1) := by decide +kernel
theorem dL_law_495 : decode cL_law 495 = .ok (.iaload, 1) := by decide +kernel
theorem dL_law_496 : decode cL_law 496 = .ok (.aload_n 0, 1) := by decide +kernel
theorem dL_law_497 : decode cL_law 497 = .ok (.iload_n 3, 1) := by decide +kernel
theorem dL_law_498 : decode cL_law 498 = .ok (.iconst 2, 1) := by decide +kernel
theorem dL_law_499 : decode cL_law 499 = .ok (.iadd, 1) := by decide +kernel
theorem dL_law_500 : decode cL_law 500 = .ok (.iaload, 1) := by decide +kernel
theorem dL_law_501 : decode cL_law 501 = .ok (.invokevirtual 48, 3) := by decide +kernel
theorem dL_law_504 : decode cL_law 504 = .ok (.aload_n 2, 1) := by decide +kernel
theorem dL_law_505 : decode cL_law 505 = .ok (.aload_n 0, 1) := by decide +kernel
theorem dL_law_506 : decode cL_law 506 = .ok (.iload_n 3, 1) := by decide +kernel
theorem dL_law_507 : decode cL_law 507 = .ok (.iconst 1, 1) := by decide +kernel
theorem dL_law_508 : decode cL_law 508 = .ok (.iadd, 1) := by decide +kernel
theorem dL_law_509 : decode cL_law 509 = .ok (.iaload, 1) := by decide +kernel
theorem dL_law_510 : decode cL_law 510 = .ok (.aload_n 0, 1) := by decide +kernel
theorem dL_law_511 : decode cL_law 511 = .ok (.iload_n 3, 1) := by decide +kernel
theorem dL_law_512 : decode cL_law 512 = .ok (.iconst 2, 1) := by decide +kernel
theorem dL_law_513 : decode cL_law 513 = .ok (.iadd, 1) := by decide +kernel
theorem dL_law_514 : decode cL_law 514 = .ok (.iaload, 1) := by decide +kernel
theorem dL_law_515 : decode cL_law 515 = .ok (.invokevirtual 51, 3) := by decide +kernel
theorem dL_law_518 : decode cL_law 518 = .ok (.if_icmp .eq 865, 3) := by decide +kernel
theorem dL_law_521 : decode cL_law 521 = .ok (.iconst 0, 1) := by decide +kernel
theorem dL_law_522 : decode cL_law 522 = .ok (.ireturn, 1) := by decide +kernel
theorem dL_law_523 : decode cL_law 523 = .ok (.aload_n 1, 1) := by decide +kernel
theorem dL_law_524 : decode cL_law 524 = .ok (.aload_n 0, 1) := by decide +kernel
theorem dL_law_525 : decode cL_law 525 = .ok (.iload_n 3, 1) := by decide +kernel
theorem dL_law_526 : decode cL_law 526 = .ok (.iconst 1, 1) := by decide +kernel
theorem dL_law_527 : decode cL_law 527 = .ok (.iadd, 1) := by decide +kernel
theorem dL_law_528 : decode cL_law 528 = .ok (.iaload, 1) := by decide +kernel
theorem dL_law_529 : decode cL_law 529 = .ok (.invokevirtual 52, 3) := by decide +kernel
theorem dL_law_532 : decode cL_law 532 = .ok (.aload_n 2, 1) := by decide +kernel
theorem dL_law_533 : decode cL_law 533 = .ok (.aload_n 0, 1) := by decide +kernel
theorem dL_law_534 : decode cL_law 534 = .ok (.iload_n 3, 1) := by decide +kernel
theorem dL_law_535 : decode cL_law 535 = .ok (.iconst 1, 1) := by decide +kernel
theorem dL_law_536 : decode cL_law 536 = .ok (.iadd, 1) := by decide +kernel
theorem dL_law_537 : decode cL_law 537 = .ok (.iaload, 1) := by decide +kernel
theorem dL_law_538 : decode cL_law 538 = .ok (.invokevirtual 55, 3) := by decide +kernel
theorem dL_law_541 : decode cL_law 541 = .ok (.if_icmp .eq 842, 3) := by decide +kernel
theorem dL_law_544 : decode cL_law 544 = .ok (.iconst 0, 1) := by decide +kernel
theorem dL_law_545 : decode cL_law 545 = .ok (.ireturn, 1) := by decide +kernel
theorem dL_law_546 : decode cL_law 546 = .ok (.aload_n 1, 1) := by decide +kernel
theorem dL_law_547 : decode cL_law 547 = .ok (.aload_n 0, 1) := by decide +kernel
theorem dL_law_548 : decode cL_law 548 = .ok (.iload_n 3, 1) := by decide +kernel
theorem dL_law_549 : decode cL_law 549 = .ok (.iconst 1, 1) := by decide +kernel
theorem dL_law_550 : decode cL_law 550 = .ok (.iadd, 1) := by decide +kernel
theorem dL_law_551 : decode cL_law 551 = .ok (.iaload, 1) := by decide +kernel
theorem dL_law_552 : decode cL_law 552 = .ok (.invokevirtual 56, 3) := by decide +kernel
theorem dL_law_555 : decode cL_law 555 = .ok (.aload_n 2, 1) := by decide +kernel
theorem dL_law_556 : decode cL_law 556 = .ok (.aload_n 0, 1) := by decide +kernel
theorem dL_law_557 : decode cL_law 557 = .ok (.iload_n 3, 1) := by decide +kernel
theorem dL_law_558 : decode cL_law 558 = .ok (.iconst 1, 1) := by decide +kernel
theorem dL_law_559 : decode cL_law 559 = .ok (.iadd, 1) := by decide +kernel
theorem dL_law_560 : decode cL_law 560 = .ok (.iaload, 1) := by decide +kernel
theorem dL_law_561 : decode cL_law 561 = .ok (.invokevirtual 59, 3) := by decide +kernel
theorem dL_law_564 : decode cL_law 564 = .ok (.if_icmp .eq 819, 3) := by decide +kernel
theorem dL_law_567 : decode cL_law 567 = .ok (.iconst 0, 1) := by decide +kernel
theorem dL_law_568 : decode cL_law 568 = .ok (.ireturn, 1) := by decide +kernel
theorem dL_law_569 : decode cL_law 569 = .ok (.aload_n 1, 1) := by decide +kernel
theorem dL_law_570 : decode cL_law 570 = .ok (.aload_n 0, 1) := by decide +kernel
theorem dL_law_571 : decode cL_law 571 = .ok (.iload_n 3, 1) := by decide +kernel
theorem dL_law_572 : decode cL_law 572 = .ok (.iconst 1, 1) := by decide +kernel
theorem dL_law_573 : decode cL_law 573 = .ok (.iadd, 1) := by decide +kernel
theorem dL_law_574 : decode cL_law 574 = .ok (.iaload, 1) := by decide +kernel
theorem dL_law_575 : decode cL_law 575 = .ok (.aload_n 0, 1) := by decide +kernel
theorem dL_law_576 : decode cL_law 576 = .ok (.iload_n 3, 1) := by decide +kernel
theorem dL_law_577 : decode cL_law 577 = .ok (.iconst 2, 1) := by decide +kernel
theorem dL_law_578 : decode cL_law 578 = .ok (.iadd, 1) := by decide +kernel
theorem dL_law_579 : decode cL_law 579 = .ok (.iaload, 1) := by decide +kernel
theorem dL_law_580 : decode cL_law 580 = .ok (.aload_n 0, 1) := by decide +kernel
theorem dL_law_581 : decode cL_law 581 = .ok (.iload_n 3, 1) := by decide +kernel
theorem dL_law_582 : decode cL_law 582 = .ok (.iconst 3, 1) := by decide +kernel
theorem dL_law_583 : decode cL_law 583 = .ok (.iadd, 1) := by decide +kernel
theorem dL_law_584 : decode cL_law 584 = .ok (.iaload, 1) := by decide +kernel
theorem dL_law_585 : decode cL_law 585 = .ok (.invokevirtual 60, 3) := by decide +kernel
theorem dL_law_588 : decode cL_law 588 = .ok (.aload_n 2, 1) := by decide +kernel
theorem dL_law_589 : decode cL_law 589 = .ok (.aload_n 0, 1) := by decide +kernel
theorem dL_law_590 : decode cL_law 590 = .ok (.iload_n 3, 1) := by decide +kernel
theorem dL_law_591 : decode cL_law 591 = .ok (.iconst 1, 1) := by decide +kernel
theorem dL_law_592 : decode cL_law 592 = .ok (.iadd, 1) := by decide +kernel
theorem dL_law_593 : decode cL_law 593 = .ok (.iaload, 1) := by decide +kernel
theorem dL_law_594 : decode cL_law 594 = .ok (.aload_n 0, 1) := by decide +kernel
theorem dL_law_595 : decode cL_law 595 = .ok (.iload_n 3, 1) := by decide +kernel
theorem dL_law_596 : decode cL_law 596 = .ok (.iconst 2, 1) := by decide +kernel
theorem dL_law_597 : decode cL_law 597 = .ok (.iadd, 1) := by decide +kernel
theorem dL_law_598 : decode cL_law 598 = .ok (.iaload, 1) := by decide +kernel
theorem dL_law_599 : decode cL_law 599 = .ok (.aload_n 0, 1) := by decide +kernel
theorem dL_law_600 : decode cL_law 600 = .ok (.iload_n 3, 1) := by decide +kernel
theorem dL_law_601 : decode cL_law 601 = .ok (.iconst 3, 1) := by decide +kernel
theorem dL_law_602 : decode cL_law 602 = .ok (.iadd, 1) := by decide +kernel
theorem dL_law_603 : decode cL_law 603 = .ok (.iaload, 1) := by decide +kernel
theorem dL_law_604 : decode cL_law 604 = .ok (.invokevirtual 63, 3) := by decide +kernel
theorem dL_law_607 : decode cL_law 607 = .ok (.if_icmp .eq 776, 3) := by decide +kernel
theorem dL_law_610 : decode cL_law 610 = .ok (.iconst 0, 1) := by decide +kernel
theorem dL_law_611 : decode cL_law 611 = .ok (.ireturn, 1) := by decide +kernel
theorem dL_law_612 : decode cL_law 612 = .ok (.aload_n 1, 1) := by decide +kernel
theorem dL_law_613 : decode cL_law 613 = .ok (.aload_n 0, 1) := by decide +kernel
theorem dL_law_614 : decode cL_law 614 = .ok (.iload_n 3, 1) := by decide +kernel
theorem dL_law_615 : decode cL_law 615 = .ok (.iconst 1, 1) := by decide +kernel
theorem dL_law_616 : decode cL_law 616 = .ok (.iadd, 1) := by decide +kernel
theorem dL_law_617 : decode cL_law 617 = .ok (.iaload, 1) := by decide +kernel
theorem dL_law_618 : decode cL_law 618 = .ok (.invokevirtual 64, 3) := by decide +kernel
theorem dL_law_621 : decode cL_law 621 = .ok (.aload_n 2, 1) := by decide +kernel
theorem dL_law_622 : decode cL_law 622 = .ok (.aload_n 0, 1) := by decide +kernel
theorem dL_law_623 : decode cL_law 623 = .ok (.iload_n 3, 1) := by decide +kernel
theorem dL_law_624 : decode cL_law 624 = .ok (.iconst 1, 1) := by decide +kernel
theorem dL_law_625 : decode cL_law 625 = .ok (.iadd, 1) := by decide +kernel
theorem dL_law_626 : decode cL_law 626 = .ok (.iaload, 1) := by decide +kernel
theorem dL_law_627 : decode cL_law 627 = .ok (.invokevirtual 67, 3) := by decide +kernel
theorem dL_law_630 : decode cL_law 630 = .ok (.if_icmp .eq 753, 3) := by decide +kernel
theorem dL_law_633 : decode cL_law 633 = .ok (.iconst 0, 1) := by decide +kernel
theorem dL_law_634 : decode cL_law 634 = .ok (.ireturn, 1) := by decide +kernel
theorem dL_law_635 : decode cL_law 635 = .ok (.aload_n 1, 1) := by decide +kernel
theorem dL_law_636 : decode cL_law 636 = .ok (.aload_n 0, 1) := by decide +kernel
theorem dL_law_637 : decode cL_law 637 = .ok (.iload_n 3, 1) := by decide +kernel
theorem dL_law_638 : decode cL_law 638 = .ok (.iconst 1, 1) := by decide +kernel
theorem dL_law_639 : decode cL_law 639 = .ok (.iadd, 1) := by decide +kernel
theorem dL_law_640 : decode cL_law 640 = .ok (.iaload, 1) := by decide +kernel
theorem dL_law_641 : decode cL_law 641 = .ok (.invokevirtual 68, 3) := by decide +kernel
theorem dL_law_644 : decode cL_law 644 = .ok (.aload_n 2, 1) := by decide +kernel
theorem dL_law_645 : decode cL_law 645 = .ok (.aload_n 0, 1) := by decide +kernel
theorem dL_law_646 : decode cL_law 646 = .ok (.iload_n 3, 1) := by decide +kernel
theorem dL_law_647 : decode cL_law 647 = .ok (.iconst 1, 1) := by decide +kernel
theorem dL_law_648 : decode cL_law 648 = .ok (.iadd, 1) := by decide +kernel
theorem dL_law_649 : decode cL_law 649 = .ok (.iaload, 1) := by decide +kernel
theorem dL_law_650 : decode cL_law 650 = .ok (.invokevirtual 71, 3) := by decide +kernel
theorem dL_law_653 : decode cL_law 653 = .ok (.if_icmp .eq 730, 3) := by decide +kernel
theorem dL_law_656 : decode cL_law 656 = .ok (.iconst 0, 1) := by decide +kernel
theorem dL_law_657 : decode cL_law 657 = .ok (.ireturn, 1) := by decide +kernel
theorem dL_law_658 : decode cL_law 658 = .ok (.aload_n 1, 1) := by decide +kernel
theorem dL_law_659 : decode cL_law 659 = .ok (.aload_n 0, 1) := by decide +kernel
theorem dL_law_660 : decode cL_law 660 = .ok (.iload_n 3, 1) := by decide +kernel
theorem dL_law_661 : decode cL_law 661 = .ok (.iconst 1, 1) := by decide +kernel
theorem dL_law_662 : decode cL_law 662 = .ok (.iadd, 1) := by decide +kernel
theorem dL_law_663 : decode cL_law 663 = .ok (.iaload, 1) := by decide +kernel
theorem dL_law_664 : decode cL_law 664 = .ok (.aload_n 0, 1) := by decide +kernel
theorem dL_law_665 : decode cL_law 665 = .ok (.iload_n 3, 1) := by decide +kernel
theorem dL_law_666 : decode cL_law 666 = .ok (.iconst 2, 1) := by decide +kernel
theorem dL_law_667 : decode cL_law 667 = .ok (.iadd, 1) := by decide +kernel
theorem dL_law_668 : decode cL_law 668 = .ok (.iaload, 1) := by decide +kernel
theorem dL_law_669 : decode cL_law 669 = .ok (.invokevirtual 72, 3) := by decide +kernel
theorem dL_law_672 : decode cL_law 672 = .ok (.aload_n 2, 1) := by decide +kernel
theorem dL_law_673 : decode cL_law 673 = .ok (.aload_n 0, 1) := by decide +kernel
theorem dL_law_674 : decode cL_law 674 = .ok (.iload_n 3, 1) := by decide +kernel
theorem dL_law_675 : decode cL_law 675 = .ok (.iconst 1, 1) := by decide +kernel
theorem dL_law_676 : decode cL_law 676 = .ok (.iadd, 1) := by decide +kernel
theorem dL_law_677 : decode cL_law 677 = .ok (.iaload, 1) := by decide +kernel
theorem dL_law_678 : decode cL_law 678 = .ok (.aload_n 0, 1) := by decide +kernel
theorem dL_law_679 : decode cL_law 679 = .ok (.iload_n 3, 1) := by decide +kernel
theorem dL_law_680 : decode cL_law 680 = .ok (.iconst 2, 1) := by decide +kernel
theorem dL_law_681 : decode cL_law 681 = .ok (.iadd, 1) := by decide +kernel
theorem dL_law_682 : decode cL_law 682 = .ok (.iaload, 1) := by decide +kernel
theorem dL_law_683 : decode cL_law 683 = .ok (.invokevirtual 75, 3) := by decide +kernel
theorem dL_law_686 : decode cL_law 686 = .ok (.if_icmp .eq 697, 3) := by decide +kernel
theorem dL_law_689 : decode cL_law 689 = .ok (.iconst 0, 1) := by decide +kernel
theorem dL_law_690 : decode cL_law 690 = .ok (.ireturn, 1) := by decide +kernel
theorem dL_law_691 : decode cL_law 691 = .ok (.aload_n 1, 1) := by decide +kernel
theorem dL_law_692 : decode cL_law 692 = .ok (.aload_n 0, 1) := by decide +kernel
theorem dL_law_693 : decode cL_law 693 = .ok (.iload_n 3, 1) := by decide +kernel
theorem dL_law_694 : decode cL_law 694 = .ok (.iconst 1, 1) := by decide +kernel
theorem dL_law_695 : decode cL_law 695 = .ok (.iadd, 1) := by decide +kernel
theorem dL_law_696 : decode cL_law 696 = .ok (.iaload, 1) := by decide +kernel
theorem dL_law_697 : decode cL_law 697 = .ok (.invokevirtual 76, 3) := by decide +kernel
theorem dL_law_700 : decode cL_law 700 = .ok (.aload_n 2, 1) := by decide +kernel
theorem dL_law_701 : decode cL_law 701 = .ok (.aload_n 0, 1) := by decide +kernel
theorem dL_law_702 : decode cL_law 702 = .ok (.iload_n 3, 1) := by decide +kernel
theorem dL_law_703 : decode cL_law 703 = .ok (.iconst 1, 1) := by decide +kernel
theorem dL_law_704 : decode cL_law 704 = .ok (.iadd, 1) := by decide +kernel
theorem dL_law_705 : decode cL_law 705 = .ok (.iaload, 1) := by decide +kernel
theorem dL_law_706 : decode cL_law 706 = .ok (.invokevirtual 79, 3) := by decide +kernel
theorem dL_law_709 : decode cL_law 709 = .ok (.if_icmp .eq 674, 3) := by decide +kernel
theorem dL_law_712 : decode cL_law 712 = .ok (.iconst 0, 1) := by decide +kernel
theorem dL_law_713 : decode cL_law 713 = .ok (.ireturn, 1) := by decide +kernel
theorem dL_law_714 : decode cL_law 714 = .ok (.aload_n 1, 1) := by decide +kernel
theorem dL_law_715 : decode cL_law 715 = .ok (.invokevirtual 80, 3) := by decide +kernel
theorem dL_law_718 : decode cL_law 718 = .ok (.aload_n 2, 1) := by decide +kernel
theorem dL_law_719 : decode cL_law 719 = .ok (.invokevirtual 84, 3) := by decide +kernel
theorem dL_law_722 : decode cL_law 722 = .ok (.if_icmp .eq 661, 3) := by decide +kernel
theorem dL_law_725 : decode cL_law 725 = .ok (.iconst 0, 1) := by decide +kernel
theorem dL_law_726 : decode cL_law 726 = .ok (.ireturn, 1) := by decide +kernel
theorem dL_law_727 : decode cL_law 727 = .ok (.aload_n 1, 1) := by decide +kernel
theorem dL_law_728 : decode cL_law 728 = .ok (.aload_n 0, 1) := by decide +kernel
theorem dL_law_729 : decode cL_law 729 = .ok (.iload_n 3, 1) := by decide +kernel
theorem dL_law_730 : decode cL_law 730 = .ok (.iconst 1, 1) := by decide +kernel
theorem dL_law_731 : decode cL_law 731 = .ok (.iadd, 1) := by decide +kernel
theorem dL_law_732 : decode cL_law 732 = .ok (.iaload, 1) := by decide +kernel
theorem dL_law_733 : decode cL_law 733 = .ok (.invokevirtual 85, 3) := by decide +kernel
theorem dL_law_736 : decode cL_law 736 = .ok (.aload_n 2, 1) := by decide +kernel
theorem dL_law_737 : decode cL_law 737 = .ok (.aload_n 0, 1) := by decide +kernel
theorem dL_law_738 : decode cL_law 738 = .ok (.iload_n 3, 1) := by decide +kernel
theorem dL_law_739 : decode cL_law 739 = .ok (.iconst 1, 1) := by decide +kernel
theorem dL_law_740 : decode cL_law 740 = .ok (.iadd, 1) := by decide +kernel
theorem dL_law_741 : decode cL_law 741 = .ok (.iaload, 1) := by decide +kernel
theorem dL_law_742 : decode cL_law 742 = .ok (.invokevirtual 88, 3) := by decide +kernel
theorem dL_law_745 : decode cL_law 745 = .ok (.if_icmp .eq 638, 3) := by decide +kernel
theorem dL_law_748 : decode cL_law 748 = .ok (.iconst 0, 1) := by decide +kernel
theorem dL_law_749 : decode cL_law 749 = .ok (.ireturn, 1) := by decide +kernel
theorem dL_law_750 : decode cL_law 750 = .ok (.aload_n 1, 1) := by decide +kernel
theorem dL_law_751 : decode cL_law 751 = .ok (.invokevirtual 89, 3) := by decide +kernel
theorem dL_law_754 : decode cL_law 754 = .ok (.aload_n 2, 1) := by decide +kernel
theorem dL_law_755 : decode cL_law 755 = .ok (.invokevirtual 92, 3) := by decide +kernel
theorem dL_law_758 : decode cL_law 758 = .ok (.if_icmp .eq 625, 3) := by decide +kernel
theorem dL_law_761 : decode cL_law 761 = .ok (.iconst 0, 1) := by decide +kernel
theorem dL_law_762 : decode cL_law 762 = .ok (.ireturn, 1) := by decide +kernel
theorem dL_law_763 : decode cL_law 763 = .ok (.aload_n 1, 1) := by decide +kernel
theorem dL_law_764 : decode cL_law 764 = .ok (.aload_n 0, 1) := by decide +kernel
theorem dL_law_765 : decode cL_law 765 = .ok (.iload_n 3, 1) := by decide +kernel
theorem dL_law_766 : decode cL_law 766 = .ok (.iconst 1, 1) := by decide +kernel
theorem dL_law_767 : decode cL_law 767 = .ok (.iadd, 1) := by decide +kernel
theorem dL_law_768 : decode cL_law 768 = .ok (.iaload, 1) := by decide +kernel
theorem dL_law_769 : decode cL_law 769 = .ok (.invokevirtual 93, 3) := by decide +kernel
theorem dL_law_772 : decode cL_law 772 = .ok (.aload_n 2, 1) := by decide +kernel
theorem dL_law_773 : decode cL_law 773 = .ok (.aload_n 0, 1) := by decide +kernel
theorem dL_law_774 : decode cL_law 774 = .ok (.iload_n 3, 1) := by decide +kernel
theorem dL_law_775 : decode cL_law 775 = .ok (.iconst 1, 1) := by decide +kernel
theorem dL_law_776 : decode cL_law 776 = .ok (.iadd, 1) := by decide +kernel
theorem dL_law_777 : decode cL_law 777 = .ok (.iaload, 1) := by decide +kernel
theorem dL_law_778 : decode cL_law 778 = .ok (.invokevirtual 96, 3) := by decide +kernel
theorem dL_law_781 : decode cL_law 781 = .ok (.if_icmp .eq 602, 3) := by decide +kernel
theorem dL_law_784 : decode cL_law 784 = .ok (.iconst 0, 1) := by decide +kernel
theorem dL_law_785 : decode cL_law 785 = .ok (.ireturn, 1) := by decide +kernel
theorem dL_law_786 : decode cL_law 786 = .ok (.aload_n 1, 1) := by decide +kernel
theorem dL_law_787 : decode cL_law 787 = .ok (.aload_n 0, 1) := by decide +kernel
theorem dL_law_788 : decode cL_law 788 = .ok (.iload_n 3, 1) := by decide +kernel
theorem dL_law_789 : decode cL_law 789 = .ok (.iconst 1, 1) := by decide +kernel
theorem dL_law_790 : decode cL_law 790 = .ok (.iadd, 1) := by decide +kernel
theorem dL_law_791 : decode cL_law 791 = .ok (.iaload, 1) := by decide +kernel
theorem dL_law_792 : decode cL_law 792 = .ok (.invokevirtual 97, 3) := by decide +kernel
theorem dL_law_795 : decode cL_law 795 = .ok (.aload_n 2, 1) := by decide +kernel
theorem dL_law_796 : decode cL_law 796 = .ok (.aload_n 0, 1) := by decide +kernel
theorem dL_law_797 : decode cL_law 797 = .ok (.iload_n 3, 1) := by decide +kernel
theorem dL_law_798 : decode cL_law 798 = .ok (.iconst 1, 1) := by decide +kernel
theorem dL_law_799 : decode cL_law 799 = .ok (.iadd, 1) := by decide +kernel
theorem dL_law_800 : decode cL_law 800 = .ok (.iaload, 1) := by decide +kernel
theorem dL_law_801 : decode cL_law 801 = .ok (.invokevirtual 100, 3) := by decide +kernel
theorem dL_law_804 : decode cL_law 804 = .ok (.if_icmp .eq 579, 3) := by decide +kernel
theorem dL_law_807 : decode cL_law 807 = .ok (.iconst 0, 1) := by decide +kernel
theorem dL_law_808 : decode cL_law 808 = .ok (.ireturn, 1) := by decide +kernel
theorem dL_law_809 : decode cL_law 809 = .ok (.aload_n 1, 1) := by decide +kernel
theorem dL_law_810 : decode cL_law 810 = .ok (.aload_n 0, 1) := by decide +kernel
theorem dL_law_811 : decode cL_law 811 = .ok (.iload_n 3, 1) := by decide +kernel
theorem dL_law_812 : decode cL_law 812 = .ok (.iconst 1, 1) := by decide +kernel
theorem dL_law_813 : decode cL_law 813 = .ok (.iadd, 1) := by decide +kernel
theorem dL_law_814 : decode cL_law 814 = .ok (.iaload, 1) := by decide +kernel
theorem dL_law_815 : decode cL_law 815 = .ok (.invokevirtual 101, 3) := by decide +kernel
theorem dL_law_818 : decode cL_law 818 = .ok (.aload_n 2, 1) := by decide +kernel
theorem dL_law_819 : decode cL_law 819 = .ok (.aload_n 0, 1) := by decide +kernel
theorem dL_law_820 : decode cL_law 820 = .ok (.iload_n 3, 1) := by decide +kernel
theorem dL_law_821 : decode cL_law 821 = .ok (.iconst 1, 1) := by decide +kernel
theorem dL_law_822 : decode cL_law 822 = .ok (.iadd, 1) := by decide +kernel
theorem dL_law_823 : decode cL_law 823 = .ok (.iaload, 1) := by decide +kernel
theorem dL_law_824 : decode cL_law 824 = .ok (.invokevirtual 104, 3) := by decide +kernel
theorem dL_law_827 : decode cL_law 827 = .ok (.if_icmp .eq 556, 3) := by decide +kernel
theorem dL_law_830 : decode cL_law 830 = .ok (.iconst 0, 1) := by decide +kernel
theorem dL_law_831 : decode cL_law 831 = .ok (.ireturn, 1) := by decide +kernel
theorem dL_law_832 : decode cL_law 832 = .ok (.aload_n 1, 1) := by decide +kernel
theorem dL_law_833 : decode cL_law 833 = .ok (.aload_n 0, 1) := by decide +kernel
theorem dL_law_834 : decode cL_law 834 = .ok (.iload_n 3, 1) := by decide +kernel
theorem dL_law_835 : decode cL_law 835 = .ok (.iconst 1, 1) := by decide +kernel
theorem dL_law_836 : decode cL_law 836 = .ok (.iadd, 1) := by decide +kernel
theorem dL_law_837 : decode cL_law 837 = .ok (.iaload, 1) := by decide +kernel
theorem dL_law_838 : decode cL_law 838 = .ok (.aload_n 0, 1) := by decide +kernel
theorem dL_law_839 : decode cL_law 839 = .ok (.iload_n 3, 1) := by decide +kernel
theorem dL_law_840 : decode cL_law 840 = .ok (.iconst 2, 1) := by decide +kernel
theorem dL_law_841 : decode cL_law 841 = .ok (.iadd, 1) := by decide +kernel
theorem dL_law_842 : decode cL_law 842 = .ok (.iaload, 1) := by decide +kernel
theorem dL_law_843 : decode cL_law 843 = .ok (.invokevirtual 105, 3) := by decide +kernel
theorem dL_law_846 : decode cL_law 846 = .ok (.aload_n 2, 1) := by decide +kernel
theorem dL_law_847 : decode cL_law 847 = .ok (.aload_n 0, 1) := by decide +kernel
theorem dL_law_848 : decode cL_law 848 = .ok (.iload_n 3, 1) := by decide +kernel
theorem dL_law_849 : decode cL_law 849 = .ok (.iconst 1, 1) := by decide +kernel
theorem dL_law_850 : decode cL_law 850 = .ok (.iadd, 1) := by decide +kernel
theorem dL_law_851 : decode cL_law 851 = .ok (.iaload, 1) := by decide +kernel
theorem dL_law_852 : decode cL_law 852 = .ok (.aload_n 0, 1) := by decide +kernel
theorem dL_law_853 : decode cL_law 853 = .ok (.iload_n 3, 1) := by decide +kernel
theorem dL_law_854 : decode cL_law 854 = .ok (.iconst 2, 1) := by decide +kernel
theorem dL_law_855 : decode cL_law 855 = .ok (.iadd, 1) := by decide +kernel
theorem dL_law_856 : decode cL_law 856 = .ok (.iaload, 1) := by decide +kernel
theorem dL_law_857 : decode cL_law 857 = .ok (.invokevirtual 108, 3) := by decide +kernel
theorem dL_law_860 : decode cL_law 860 = .ok (.if_icmp .eq 523, 3) := by decide +kernel
theorem dL_law_863 : decode cL_law 863 = .ok (.iconst 0, 1) := by decide +kernel
theorem dL_law_864 : decode cL_law 864 = .ok (.ireturn, 1) := by decide +kernel
theorem dL_law_865 : decode cL_law 865 = .ok (.aload_n 1, 1) := by decide +kernel
theorem dL_law_866 : decode cL_law 866 = .ok (.aload_n 0, 1) := by decide +kernel
theorem dL_law_867 : decode cL_law 867 = .ok (.iload_n 3, 1) := by decide +kernel
theorem dL_law_868 : decode cL_law 868 = .ok (.iconst 1, 1) := by decide +kernel
theorem dL_law_869 : decode cL_law 869 = .ok (.iadd, 1) := by decide +kernel
theorem dL_law_870 : decode cL_law 870 = .ok (.iaload, 1) := by decide +kernel
theorem dL_law_871 : decode cL_law 871 = .ok (.aload_n 0, 1) := by decide +kernel
theorem dL_law_872 : decode cL_law 872 = .ok (.iload_n 3, 1) := by decide +kernel
theorem dL_law_873 : decode cL_law 873 = .ok (.iconst 2, 1) := by decide +kernel
theorem dL_law_874 : decode cL_law 874 = .ok (.iadd, 1) := by decide +kernel
theorem dL_law_875 : decode cL_law 875 = .ok (.iaload, 1) := by decide +kernel
theorem dL_law_876 : decode cL_law 876 = .ok (.invokevirtual 109, 3) := by decide +kernel
theorem dL_law_879 : decode cL_law 879 = .ok (.aload_n 2, 1) := by decide +kernel
theorem dL_law_880 : decode cL_law 880 = .ok (.aload_n 0, 1) := by decide +kernel
theorem dL_law_881 : decode cL_law 881 = .ok (.iload_n 3, 1) := by decide +kernel
theorem dL_law_882 : decode cL_law 882 = .ok (.iconst 1, 1) := by decide +kernel
theorem dL_law_883 : decode cL_law 883 = .ok (.iadd, 1) := by decide +kernel
theorem dL_law_884 : decode cL_law 884 = .ok (.iaload, 1) := by decide +kernel
theorem dL_law_885 : decode cL_law 885 = .ok (.aload_n 0, 1) := by decide +kernel
theorem dL_law_886 : decode cL_law 886 = .ok (.iload_n 3, 1) := by decide +kernel
theorem dL_law_887 : decode cL_law 887 = .ok (.iconst 2, 1) := by decide +kernel
theorem dL_law_888 : decode cL_law 888 = .ok (.iadd, 1) := by decide +kernel
theorem dL_law_889 : decode cL_law 889 = .ok (.iaload, 1) := by decide +kernel
theorem dL_law_890 : decode cL_law 890 = .ok (.invokevirtual 112, 3) := by decide +kernel
theorem dL_law_893 : decode cL_law 893 = .ok (.if_icmp .eq 490, 3) := by decide +kernel
theorem dL_law_896 : decode cL_law 896 = .ok (.iconst 0, 1) := by decide +kernel
theorem dL_law_897 : decode cL_law 897 = .ok (.ireturn, 1) := by decide +kernel
theorem dL_law_898 : decode cL_law 898 = .ok (.aload_n 1, 1) := by decide +kernel
theorem dL_law_899 : decode cL_law 899 = .ok (.aload_n 0, 1) := by decide +kernel
theorem dL_law_900 : decode cL_law 900 = .ok (.iload_n 3, 1) := by decide +kernel
theorem dL_law_901 : decode cL_law 901 = .ok (.iconst 1, 1) := by decide +kernel
theorem dL_law_902 : decode cL_law 902 = .ok (.iadd, 1) := by decide +kernel
theorem dL_law_903 : decode cL_law 903 = .ok (.iaload, 1) := by decide +kernel
theorem dL_law_904 : decode cL_law 904 = .ok (.invokevirtual 113, 3) := by decide +kernel
theorem dL_law_907 : decode cL_law 907 = .ok (.aload_n 2, 1) := by decide +kernel
theorem dL_law_908 : decode cL_law 908 = .ok (.aload_n 0, 1) := by decide +kernel
theorem dL_law_909 : decode cL_law 909 = .ok (.iload_n 3, 1) := by decide +kernel
theorem dL_law_910 : decode cL_law 910 = .ok (.iconst 1, 1) := by decide +kernel
theorem dL_law_911 : decode cL_law 911 = .ok (.iadd, 1) := by decide +kernel
theorem dL_law_912 : decode cL_law 912 = .ok (.iaload, 1) := by decide +kernel
theorem dL_law_913 : decode cL_law 913 = .ok (.invokevirtual 116, 3) := by decide +kernel
theorem dL_law_916 : decode cL_law 916 = .ok (.if_icmp .eq 467, 3) := by decide +kernel
theorem dL_law_919 : decode cL_law 919 = .ok (.iconst 0, 1) := by decide +kernel
theorem dL_law_920 : decode cL_law 920 = .ok (.ireturn, 1) := by decide +kernel
theorem dL_law_921 : decode cL_law 921 = .ok (.aload_n 1, 1) := by decide +kernel
theorem dL_law_922 : decode cL_law 922 = .ok (.aload_n 0, 1) := by decide +kernel
theorem dL_law_923 : decode cL_law 923 = .ok (.iload_n 3, 1) := by decide +kernel
theorem dL_law_924 : decode cL_law 924 = .ok (.iconst 1, 1) := by decide +kernel
theorem dL_law_925 : decode cL_law 925 = .ok (.iadd, 1) := by decide +kernel
theorem dL_law_926 : decode cL_law 926 = .ok (.iaload, 1) := by decide +kernel
theorem dL_law_927 : decode cL_law 927 = .ok (.aload_n 0, 1) := by decide +kernel
theorem dL_law_928 : decode cL_law 928 = .ok (.iload_n 3, 1) := by decide +kernel
theorem dL_law_929 : decode cL_law 929 = .ok (.iconst 2, 1) := by decide +kernel
theorem dL_law_930 : decode cL_law 930 = .ok (.iadd, 1) := by decide +kernel
theorem dL_law_931 : decode cL_law 931 = .ok (.iaload, 1) := by decide +kernel
theorem dL_law_932 : decode cL_law 932 = .ok (.invokevirtual 117, 3) := by decide +kernel
theorem dL_law_935 : decode cL_law 935 = .ok (.aload_n 2, 1) := by decide +kernel
theorem dL_law_936 : decode cL_law 936 = .ok (.aload_n 0, 1) := by decide +kernel
theorem dL_law_937 : decode cL_law 937 = .ok (.iload_n 3, 1) := by decide +kernel
theorem dL_law_938 : decode cL_law 938 = .ok (.iconst 1, 1) := by decide +kernel
theorem dL_law_939 : decode cL_law 939 = .ok (.iadd, 1) := by decide +kernel
theorem dL_law_940 : decode cL_law 940 = .ok (.iaload, 1) := by decide +kernel
theorem dL_law_941 : decode cL_law 941 = .ok (.aload_n 0, 1) := by decide +kernel
theorem dL_law_942 : decode cL_law 942 = .ok (.iload_n 3, 1) := by decide +kernel
theorem dL_law_943 : decode cL_law 943 = .ok (.iconst 2, 1) := by decide +kernel
theorem dL_law_944 : decode cL_law 944 = .ok (.iadd, 1) := by decide +kernel
theorem dL_law_945 : decode cL_law 945 = .ok (.iaload, 1) := by decide +kernel
theorem dL_law_946 : decode cL_law 946 = .ok (.invokevirtual 121, 3) := by decide +kernel
theorem dL_law_949 : decode cL_law 949 = .ok (.lcmp, 1) := by decide +kernel
theorem dL_law_950 : decode cL_law 950 = .ok (.ifCond .eq 433, 3) := by decide +kernel
theorem dL_law_953 : decode cL_law 953 = .ok (.iconst 0, 1) := by decide +kernel
theorem dL_law_954 : decode cL_law 954 = .ok (.ireturn, 1) := by decide +kernel
theorem dL_law_955 : decode cL_law 955 = .ok (.aload_n 1, 1) := by decide +kernel
theorem dL_law_956 : decode cL_law 956 = .ok (.aload_n 0, 1) := by decide +kernel
theorem dL_law_957 : decode cL_law 957 = .ok (.iload_n 3, 1) := by decide +kernel
theorem dL_law_958 : decode cL_law 958 = .ok (.iconst 1, 1) := by decide +kernel
theorem dL_law_959 : decode cL_law 959 = .ok (.iadd, 1) := by decide +kernel
theorem dL_law_960 : decode cL_law 960 = .ok (.iaload, 1) := by decide +kernel
theorem dL_law_961 : decode cL_law 961 = .ok (.invokevirtual 122, 3) := by decide +kernel
theorem dL_law_964 : decode cL_law 964 = .ok (.aload_n 2, 1) := by decide +kernel
theorem dL_law_965 : decode cL_law 965 = .ok (.aload_n 0, 1) := by decide +kernel
theorem dL_law_966 : decode cL_law 966 = .ok (.iload_n 3, 1) := by decide +kernel
theorem dL_law_967 : decode cL_law 967 = .ok (.iconst 1, 1) := by decide +kernel
theorem dL_law_968 : decode cL_law 968 = .ok (.iadd, 1) := by decide +kernel
theorem dL_law_969 : decode cL_law 969 = .ok (.iaload, 1) := by decide +kernel
theorem dL_law_970 : decode cL_law 970 = .ok (.invokevirtual 125, 3) := by decide +kernel
theorem dL_law_973 : decode cL_law 973 = .ok (.if_icmp .eq 410, 3) := by decide +kernel
theorem dL_law_976 : decode cL_law 976 = .ok (.iconst 0, 1) := by decide +kernel
theorem dL_law_977 : decode cL_law 977 = .ok (.ireturn, 1) := by decide +kernel
theorem dL_law_978 : decode cL_law 978 = .ok (.aload_n 1, 1) := by decide +kernel
theorem dL_law_979 : decode cL_law 979 = .ok (.aload_n 0, 1) := by decide +kernel
theorem dL_law_980 : decode cL_law 980 = .ok (.iload_n 3, 1) := by decide +kernel
theorem dL_law_981 : decode cL_law 981 = .ok (.iconst 1, 1) := by decide +kernel
theorem dL_law_982 : decode cL_law 982 = .ok (.iadd, 1) := by decide +kernel
theorem dL_law_983 : decode cL_law 983 = .ok (.iaload, 1) := by decide +kernel
theorem dL_law_984 : decode cL_law 984 = .ok (.aload_n 0, 1) := by decide +kernel
theorem dL_law_985 : decode cL_law 985 = .ok (.iload_n 3, 1) := by decide +kernel
theorem dL_law_986 : decode cL_law 986 = .ok (.iconst 2, 1) := by decide +kernel
theorem dL_law_987 : decode cL_law 987 = .ok (.iadd, 1) := by decide +kernel
theorem dL_law_988 : decode cL_law 988 = .ok (.iaload, 1) := by decide +kernel
theorem dL_law_989 : decode cL_law 989 = .ok (.invokevirtual 126, 3) := by decide +kernel
theorem dL_law_992 : decode cL_law 992 = .ok (.aload_n 2, 1) := by decide +kernel
theorem dL_law_993 : decode cL_law 993 = .ok (.aload_n 0, 1) := by decide +kernel
theorem dL_law_994 : decode cL_law 994 = .ok (.iload_n 3, 1) := by decide +kernel
theorem dL_law_995 : decode cL_law 995 = .ok (.iconst 1, 1) := by decide +kernel
theorem dL_law_996 : decode cL_law 996 = .ok (.iadd, 1) := by decide +kernel
theorem dL_law_997 : decode cL_law 997 = .ok (.iaload, 1) := by decide +kernel
theorem dL_law_998 : decode cL_law 998 = .ok (.aload_n 0, 1) := by decide +kernel
theorem dL_law_999 : decode cL_law 999 = .ok (.iload_n 3, 1) := by decide +kernel
theorem dL_law_1000 : decode cL_law 1000 = .ok (.iconst 2, 1) := by decide +kernel
theorem dL_law_1001 : decode cL_law 1001 = .ok (.iadd, 1) := by decide +kernel
theorem dL_law_1002 : decode cL_law 1002 = .ok (.iaload, 1) := by decide +kernel
theorem dL_law_1003 : decode cL_law 1003 = .ok (.invokevirtual 129, 3) := by decide +kernel
theorem dL_law_1006 : decode cL_law 1006 = .ok (.if_icmp .eq 377, 3) := by decide +kernel
theorem dL_law_1009 : decode cL_law 1009 = .ok (.iconst 0, 1) := by decide +kernel
theorem dL_law_1010 : decode cL_law 1010 = .ok (.ireturn, 1) := by decide +kernel
theorem dL_law_1011 : decode cL_law 1011 = .ok (.aload_n 1, 1) := by decide +kernel
theorem dL_law_1012 : decode cL_law 1012 = .ok (.invokevirtual 130, 3) := by decide +kernel
theorem dL_law_1015 : decode cL_law 1015 = .ok (.aload_n 2, 1) := by decide +kernel
theorem dL_law_1016 : decode cL_law 1016 = .ok (.invokevirtual 133, 3) := by decide +kernel
theorem dL_law_1019 : decode cL_law 1019 = .ok (.if_icmp .eq 364, 3) := by decide +kernel
theorem dL_law_1022 : decode cL_law 1022 = .ok (.iconst 0, 1) := by decide +kernel
theorem dL_law_1023 : decode cL_law 1023 = .ok (.ireturn, 1) := by decide +kernel
theorem dL_law_1024 : decode cL_law 1024 = .ok (.aload_n 1, 1) := by decide +kernel
theorem dL_law_1025 : decode cL_law 1025 = .ok (.invokevirtual 134, 3) := by decide +kernel
theorem dL_law_1028 : decode cL_law 1028 = .ok (.aload_n 2, 1) := by decide +kernel
theorem dL_law_1029 : decode cL_law 1029 = .ok (.invokevirtual 137, 3) := by decide +kernel
theorem dL_law_1032 : decode cL_law 1032 = .ok (.if_icmp .eq 351, 3) := by decide +kernel
theorem dL_law_1035 : decode cL_law 1035 = .ok (.iconst 0, 1) := by decide +kernel
theorem dL_law_1036 : decode cL_law 1036 = .ok (.ireturn, 1) := by decide +kernel
theorem dL_law_1037 : decode cL_law 1037 = .ok (.aload_n 1, 1) := by decide +kernel
theorem dL_law_1038 : decode cL_law 1038 = .ok (.aload_n 0, 1) := by decide +kernel
theorem dL_law_1039 : decode cL_law 1039 = .ok (.iload_n 3, 1) := by decide +kernel
theorem dL_law_1040 : decode cL_law 1040 = .ok (.iconst 1, 1) := by decide +kernel
theorem dL_law_1041 : decode cL_law 1041 = .ok (.iadd, 1) := by decide +kernel
theorem dL_law_1042 : decode cL_law 1042 = .ok (.iaload, 1) := by decide +kernel
theorem dL_law_1043 : decode cL_law 1043 = .ok (.aload_n 0, 1) := by decide +kernel
theorem dL_law_1044 : decode cL_law 1044 = .ok (.iload_n 3, 1) := by decide +kernel
theorem dL_law_1045 : decode cL_law 1045 = .ok (.iconst 2, 1) := by decide +kernel
theorem dL_law_1046 : decode cL_law 1046 = .ok (.iadd, 1) := by decide +kernel
theorem dL_law_1047 : decode cL_law 1047 = .ok (.iaload, 1) := by decide +kernel
theorem dL_law_1048 : decode cL_law 1048 = .ok (.invokevirtual 138, 3) := by decide +kernel
theorem dL_law_1051 : decode cL_law 1051 = .ok (.aload_n 2, 1) := by decide +kernel
theorem dL_law_1052 : decode cL_law 1052 = .ok (.aload_n 0, 1) := by decide +kernel
theorem dL_law_1053 : decode cL_law 1053 = .ok (.iload_n 3, 1) := by decide +kernel
theorem dL_law_1054 : decode cL_law 1054 = .ok (.iconst 1, 1) := by decide +kernel
theorem dL_law_1055 : decode cL_law 1055 = .ok (.iadd, 1) := by decide +kernel
theorem dL_law_1056 : decode cL_law 1056 = .ok (.iaload, 1) := by decide +kernel
theorem dL_law_1057 : decode cL_law 1057 = .ok (.aload_n 0, 1) := by decide +kernel
theorem dL_law_1058 : decode cL_law 1058 = .ok (.iload_n 3, 1) := by decide +kernel
theorem dL_law_1059 : decode cL_law 1059 = .ok (.iconst 2, 1) := by decide +kernel
theorem dL_law_1060 : decode cL_law 1060 = .ok (.iadd, 1) := by decide +kernel
theorem dL_law_1061 : decode cL_law 1061 = .ok (.iaload, 1) := by decide +kernel
theorem dL_law_1062 : decode cL_law 1062 = .ok (.invokevirtual 141, 3) := by decide +kernel
theorem dL_law_1065 : decode cL_law 1065 = .ok (.if_icmp .eq 318, 3) := by decide +kernel
theorem dL_law_1068 : decode cL_law 1068 = .ok (.iconst 0, 1) := by decide +kernel
theorem dL_law_1069 : decode cL_law 1069 = .ok (.ireturn, 1) := by decide +kernel
theorem dL_law_1070 : decode cL_law 1070 = .ok (.aload_n 1, 1) := by decide +kernel
theorem dL_law_1071 : decode cL_law 1071 = .ok (.aload_n 0, 1) := by decide +kernel
theorem dL_law_1072 : decode cL_law 1072 = .ok (.iload_n 3, 1) := by decide +kernel
theorem dL_law_1073 : decode cL_law 1073 = .ok (.iconst 1, 1) := by decide +kernel
theorem dL_law_1074 : decode cL_law 1074 = .ok (.iadd, 1) := by decide +kernel
theorem dL_law_1075 : decode cL_law 1075 = .ok (.iaload, 1) := by decide +kernel
theorem dL_law_1076 : decode cL_law 1076 = .ok (.aload_n 0, 1) := by decide +kernel
theorem dL_law_1077 : decode cL_law 1077 = .ok (.iload_n 3, 1) := by decide +kernel
theorem dL_law_1078 : decode cL_law 1078 = .ok (.iconst 2, 1) := by decide +kernel
theorem dL_law_1079 : decode cL_law 1079 = .ok (.iadd, 1) := by decide +kernel
theorem dL_law_1080 : decode cL_law 1080 = .ok (.iaload, 1) := by decide +kernel
theorem dL_law_1081 : decode cL_law 1081 = .ok (.invokevirtual 142, 3) := by decide +kernel
theorem dL_law_1084 : decode cL_law 1084 = .ok (.aload_n 2, 1) := by decide +kernel
theorem dL_law_1085 : decode cL_law 1085 = .ok (.aload_n 0, 1) := by decide +kernel
theorem dL_law_1086 : decode cL_law 1086 = .ok (.iload_n 3, 1) := by decide +kernel
theorem dL_law_1087 : decode cL_law 1087 = .ok (.iconst 1, 1) := by decide +kernel
theorem dL_law_1088 : decode cL_law 1088 = .ok (.iadd, 1) := by decide +kernel
theorem dL_law_1089 : decode cL_law 1089 = .ok (.iaload, 1) := by decide +kernel
theorem dL_law_1090 : decode cL_law 1090 = .ok (.aload_n 0, 1) := by decide +kernel
theorem dL_law_1091 : decode cL_law 1091 = .ok (.iload_n 3, 1) := by decide +kernel
theorem dL_law_1092 : decode cL_law 1092 = .ok (.iconst 2, 1) := by decide +kernel
theorem dL_law_1093 : decode cL_law 1093 = .ok (.iadd, 1) := by decide +kernel
theorem dL_law_1094 : decode cL_law 1094 = .ok (.iaload, 1) := by decide +kernel
theorem dL_law_1095 : decode cL_law 1095 = .ok (.invokevirtual 145, 3) := by decide +kernel
theorem dL_law_1098 : decode cL_law 1098 = .ok (.if_icmp .eq 285, 3) := by decide +kernel
theorem dL_law_1101 : decode cL_law 1101 = .ok (.iconst 0, 1) := by decide +kernel
theorem dL_law_1102 : decode cL_law 1102 = .ok (.ireturn, 1) := by decide +kernel
theorem dL_law_1103 : decode cL_law 1103 = .ok (.aload_n 1, 1) := by decide +kernel
theorem dL_law_1104 : decode cL_law 1104 = .ok (.aload_n 0, 1) := by decide +kernel
theorem dL_law_1105 : decode cL_law 1105 = .ok (.iload_n 3, 1) := by decide +kernel
theorem dL_law_1106 : decode cL_law 1106 = .ok (.iconst 1, 1) := by decide +kernel
theorem dL_law_1107 : decode cL_law 1107 = .ok (.iadd, 1) := by decide +kernel
theorem dL_law_1108 : decode cL_law 1108 = .ok (.iaload, 1) := by decide +kernel
theorem dL_law_1109 : decode cL_law 1109 = .ok (.aload_n 0, 1) := by decide +kernel
theorem dL_law_1110 : decode cL_law 1110 = .ok (.iload_n 3, 1) := by decide +kernel
theorem dL_law_1111 : decode cL_law 1111 = .ok (.iconst 2, 1) := by decide +kernel
theorem dL_law_1112 : decode cL_law 1112 = .ok (.iadd, 1) := by decide +kernel
theorem dL_law_1113 : decode cL_law 1113 = .ok (.iaload, 1) := by decide +kernel
theorem dL_law_1114 : decode cL_law 1114 = .ok (.aload_n 0, 1) := by decide +kernel
theorem dL_law_1115 : decode cL_law 1115 = .ok (.iload_n 3, 1) := by decide +kernel
theorem dL_law_1116 : decode cL_law 1116 = .ok (.iconst 3, 1) := by decide +kernel
theorem dL_law_1117 : decode cL_law 1117 = .ok (.iadd, 1) := by decide +kernel
theorem dL_law_1118 : decode cL_law 1118 = .ok (.iaload, 1) := by decide +kernel
theorem dL_law_1119 : decode cL_law 1119 = .ok (.invokevirtual 146, 3) := by decide +kernel
theorem dL_law_1122 : decode cL_law 1122 = .ok (.aload_n 2, 1) := by decide +kernel
theorem dL_law_1123 : decode cL_law 1123 = .ok (.aload_n 0, 1) := by decide +kernel
theorem dL_law_1124 : decode cL_law 1124 = .ok (.iload_n 3, 1) := by decide +kernel
theorem dL_law_1125 : decode cL_law 1125 = .ok (.iconst 1, 1) := by decide +kernel
theorem dL_law_1126 : decode cL_law 1126 = .ok (.iadd, 1) := by decide +kernel
theorem dL_law_1127 : decode cL_law 1127 = .ok (.iaload, 1) := by decide +kernel
theorem dL_law_1128 : decode cL_law 1128 = .ok (.aload_n 0, 1) := by decide +kernel
theorem dL_law_1129 : decode cL_law 1129 = .ok (.iload_n 3, 1) := by decide +kernel
theorem dL_law_1130 : decode cL_law 1130 = .ok (.iconst 2, 1) := by decide +kernel
theorem dL_law_1131 : decode cL_law 1131 = .ok (.iadd, 1) := by decide +kernel
theorem dL_law_1132 : decode cL_law 1132 = .ok (.iaload, 1) := by decide +kernel
theorem dL_law_1133 : decode cL_law 1133 = .ok (.aload_n 0, 1) := by decide +kernel
theorem dL_law_1134 : decode cL_law 1134 = .ok (.iload_n 3, 1) := by decide +kernel
theorem dL_law_1135 : decode cL_law 1135 = .ok (.iconst 3, 1) := by decide +kernel
theorem dL_law_1136 : decode cL_law 1136 = .ok (.iadd, 1) := by decide +kernel
theorem dL_law_1137 : decode cL_law 1137 = .ok (.iaload, 1) := by decide +kernel
theorem dL_law_1138 : decode cL_law 1138 = .ok (.invokevirtual 149, 3) := by decide +kernel
theorem dL_law_1141 : decode cL_law 1141 = .ok (.if_icmp .eq 242, 3) := by decide +kernel
theorem dL_law_1144 : decode cL_law 1144 = .ok (.iconst 0, 1) := by decide +kernel
theorem dL_law_1145 : decode cL_law 1145 = .ok (.ireturn, 1) := by decide +kernel
theorem dL_law_1146 : decode cL_law 1146 = .ok (.aload_n 1, 1) := by decide +kernel
theorem dL_law_1147 : decode cL_law 1147 = .ok (.aload_n 0, 1) := by decide +kernel
theorem dL_law_1148 : decode cL_law 1148 = .ok (.iload_n 3, 1) := by decide +kernel
theorem dL_law_1149 : decode cL_law 1149 = .ok (.iconst 1, 1) := by decide +kernel
theorem dL_law_1150 : decode cL_law 1150 = .ok (.iadd, 1) := by decide +kernel
theorem dL_law_1151 : decode cL_law 1151 = .ok (.iaload, 1) := by decide +kernel
theorem dL_law_1152 : decode cL_law 1152 = .ok (.aload_n 0, 1) := by decide +kernel
theorem dL_law_1153 : decode cL_law 1153 = .ok (.iload_n 3, 1) := by decide +kernel
theorem dL_law_1154 : decode cL_law 1154 = .ok (.iconst 2, 1) := by decide +kernel
theorem dL_law_1155 : decode cL_law 1155 = .ok (.iadd, 1) := by decide +kernel
theorem dL_law_1156 : decode cL_law 1156 = .ok (.iaload, 1) := by decide +kernel
theorem dL_law_1157 : decode cL_law 1157 = .ok (.aload_n 0, 1) := by decide +kernel
theorem dL_law_1158 : decode cL_law 1158 = .ok (.iload_n 3, 1) := by decide +kernel
theorem dL_law_1159 : decode cL_law 1159 = .ok (.iconst 3, 1) := by decide +kernel
theorem dL_law_1160 : decode cL_law 1160 = .ok (.iadd, 1) := by decide +kernel
theorem dL_law_1161 : decode cL_law 1161 = .ok (.iaload, 1) := by decide +kernel
theorem dL_law_1162 : decode cL_law 1162 = .ok (.invokevirtual 150, 3) := by decide +kernel
theorem dL_law_1165 : decode cL_law 1165 = .ok (.aload_n 2, 1) := by decide +kernel
theorem dL_law_1166 : decode cL_law 1166 = .ok (.aload_n 0, 1) := by decide +kernel
theorem dL_law_1167 : decode cL_law 1167 = .ok (.iload_n 3, 1) := by decide +kernel
theorem dL_law_1168 : decode cL_law 1168 = .ok (.iconst 1, 1) := by decide +kernel
theorem dL_law_1169 : decode cL_law 1169 = .ok (.iadd, 1) := by decide +kernel
theorem dL_law_1170 : decode cL_law 1170 = .ok (.iaload, 1) := by decide +kernel
theorem dL_law_1171 : decode cL_law 1171 = .ok (.aload_n 0, 1) := by decide +kernel
theorem dL_law_1172 : decode cL_law 1172 = .ok (.iload_n 3, 1) := by decide +kernel
theorem dL_law_1173 : decode cL_law 1173 = .ok (.iconst 2, 1) := by decide +kernel
theorem dL_law_1174 : decode cL_law 1174 = .ok (.iadd, 1) := by decide +kernel
theorem dL_law_1175 : decode cL_law 1175 = .ok (.iaload, 1) := by decide +kernel
theorem dL_law_1176 : decode cL_law 1176 = .ok (.aload_n 0, 1) := by decide +kernel
theorem dL_law_1177 : decode cL_law 1177 = .ok (.iload_n 3, 1) := by decide +kernel
theorem dL_law_1178 : decode cL_law 1178 = .ok (.iconst 3, 1) := by decide +kernel
theorem dL_law_1179 : decode cL_law 1179 = .ok (.iadd, 1) := by decide +kernel
theorem dL_law_1180 : decode cL_law 1180 = .ok (.iaload, 1) := by decide +kernel
theorem dL_law_1181 : decode cL_law 1181 = .ok (.invokevirtual 153, 3) := by decide +kernel
theorem dL_law_1184 : decode cL_law 1184 = .ok (.if_icmp .eq 199, 3) := by decide +kernel
theorem dL_law_1187 : decode cL_law 1187 = .ok (.iconst 0, 1) := by decide +kernel
theorem dL_law_1188 : decode cL_law 1188 = .ok (.ireturn, 1) := by decide +kernel
theorem dL_law_1189 : decode cL_law 1189 = .ok (.aload_n 1, 1) := by decide +kernel
theorem dL_law_1190 : decode cL_law 1190 = .ok (.aload_n 0, 1) := by decide +kernel
theorem dL_law_1191 : decode cL_law 1191 = .ok (.iload_n 3, 1) := by decide +kernel
theorem dL_law_1192 : decode cL_law 1192 = .ok (.iconst 1, 1) := by decide +kernel
theorem dL_law_1193 : decode cL_law 1193 = .ok (.iadd, 1) := by decide +kernel
theorem dL_law_1194 : decode cL_law 1194 = .ok (.iaload, 1) := by decide +kernel
theorem dL_law_1195 : decode cL_law 1195 = .ok (.aload_n 0, 1) := by decide +kernel
theorem dL_law_1196 : decode cL_law 1196 = .ok (.iload_n 3, 1) := by decide +kernel
theorem dL_law_1197 : decode cL_law 1197 = .ok (.iconst 2, 1) := by decide +kernel
theorem dL_law_1198 : decode cL_law 1198 = .ok (.iadd, 1) := by decide +kernel
theorem dL_law_1199 : decode cL_law 1199 = .ok (.iaload, 1) := by decide +kernel
theorem dL_law_1200 : decode cL_law 1200 = .ok (.aload_n 0, 1) := by decide +kernel
theorem dL_law_1201 : decode cL_law 1201 = .ok (.iload_n 3, 1) := by decide +kernel
theorem dL_law_1202 : decode cL_law 1202 = .ok (.iconst 3, 1) := by decide +kernel
theorem dL_law_1203 : decode cL_law 1203 = .ok (.iadd, 1) := by decide +kernel
theorem dL_law_1204 : decode cL_law 1204 = .ok (.iaload, 1) := by decide +kernel
theorem dL_law_1205 : decode cL_law 1205 = .ok (.aload_n 0, 1) := by decide +kernel
theorem dL_law_1206 : decode cL_law 1206 = .ok (.iload_n 3, 1) := by decide +kernel
theorem dL_law_1207 : decode cL_law 1207 = .ok (.iconst 4, 1) := by decide +kernel
theorem dL_law_1208 : decode cL_law 1208 = .ok (.iadd, 1) := by decide +kernel
theorem dL_law_1209 : decode cL_law 1209 = .ok (.iaload, 1) := by decide +kernel
theorem dL_law_1210 : decode cL_law 1210 = .ok (.aload_n 0, 1) := by decide +kernel
theorem dL_law_1211 : decode cL_law 1211 = .ok (.iload_n 3, 1) := by decide +kernel
theorem dL_law_1212 : decode cL_law 1212 = .ok (.iconst 5, 1) := by decide +kernel
theorem dL_law_1213 : decode cL_law 1213 = .ok (.iadd, 1) := by decide +kernel
theorem dL_law_1214 : decode cL_law 1214 = .ok (.iaload, 1) := by decide +kernel
theorem dL_law_1215 : decode cL_law 1215 = .ok (.invokevirtual 154, 3) := by decide +kernel
theorem dL_law_1218 : decode cL_law 1218 = .ok (.aload_n 2, 1) := by decide +kernel
theorem dL_law_1219 : decode cL_law 1219 = .ok (.aload_n 0, 1) := by decide +kernel
theorem dL_law_1220 : decode cL_law 1220 = .ok (.iload_n 3, 1) := by decide +kernel
theorem dL_law_1221 : decode cL_law 1221 = .ok (.iconst 1, 1) := by decide +kernel
theorem dL_law_1222 : decode cL_law 1222 = .ok (.iadd, 1) := by decide +kernel
theorem dL_law_1223 : decode cL_law 1223 = .ok (.iaload, 1) := by decide +kernel
theorem dL_law_1224 : decode cL_law 1224 = .ok (.aload_n 0, 1) := by decide +kernel
theorem dL_law_1225 : decode cL_law 1225 = .ok (.iload_n 3, 1) := by decide +kernel
theorem dL_law_1226 : decode cL_law 1226 = .ok (.iconst 2, 1) := by decide +kernel
theorem dL_law_1227 : decode cL_law 1227 = .ok (.iadd, 1) := by decide +kernel
theorem dL_law_1228 : decode cL_law 1228 = .ok (.iaload, 1) := by decide +kernel
theorem dL_law_1229 : decode cL_law 1229 = .ok (.aload_n 0, 1) := by decide +kernel
theorem dL_law_1230 : decode cL_law 1230 = .ok (.iload_n 3, 1) := by decide +kernel
theorem dL_law_1231 : decode cL_law 1231 = .ok (.iconst 3, 1) := by decide +kernel
theorem dL_law_1232 : decode cL_law 1232 = .ok (.iadd, 1) := by decide +kernel
theorem dL_law_1233 : decode cL_law 1233 = .ok (.iaload, 1) := by decide +kernel
theorem dL_law_1234 : decode cL_law 1234 = .ok (.aload_n 0, 1) := by decide +kernel
theorem dL_law_1235 : decode cL_law 1235 = .ok (.iload_n 3, 1) := by decide +kernel
theorem dL_law_1236 : decode cL_law 1236 = .ok (.iconst 4, 1) := by decide +kernel
theorem dL_law_1237 : decode cL_law 1237 = .ok (.iadd, 1) := by decide +kernel
theorem dL_law_1238 : decode cL_law 1238 = .ok (.iaload, 1) := by decide +kernel
theorem dL_law_1239 : decode cL_law 1239 = .ok (.aload_n 0, 1) := by decide +kernel
theorem dL_law_1240 : decode cL_law 1240 = .ok (.iload_n 3, 1) := by decide +kernel
theorem dL_law_1241 : decode cL_law 1241 = .ok (.iconst 5, 1) := by decide +kernel
theorem dL_law_1242 : decode cL_law 1242 = .ok (.iadd, 1) := by decide +kernel
theorem dL_law_1243 : decode cL_law 1243 = .ok (.iaload, 1) := by decide +kernel
theorem dL_law_1244 : decode cL_law 1244 = .ok (.invokevirtual 158, 3) := by decide +kernel
theorem dL_law_1247 : decode cL_law 1247 = .ok (.if_icmp .eq 136, 3) := by decide +kernel
theorem dL_law_1250 : decode cL_law 1250 = .ok (.iconst 0, 1) := by decide +kernel
theorem dL_law_1251 : decode cL_law 1251 = .ok (.ireturn, 1) := by decide +kernel
theorem dL_law_1252 : decode cL_law 1252 = .ok (.aload_n 1, 1) := by decide +kernel
theorem dL_law_1253 : decode cL_law 1253 = .ok (.aload_n 0, 1) := by decide +kernel
theorem dL_law_1254 : decode cL_law 1254 = .ok (.iload_n 3, 1) := by decide +kernel
theorem dL_law_1255 : decode cL_law 1255 = .ok (.iconst 1, 1) := by decide +kernel
theorem dL_law_1256 : decode cL_law 1256 = .ok (.iadd, 1) := by decide +kernel
theorem dL_law_1257 : decode cL_law 1257 = .ok (.iaload, 1) := by decide +kernel
theorem dL_law_1258 : decode cL_law 1258 = .ok (.invokevirtual 159, 3) := by decide +kernel
theorem dL_law_1261 : decode cL_law 1261 = .ok (.aload_n 2, 1) := by decide +kernel
theorem dL_law_1262 : decode cL_law 1262 = .ok (.aload_n 0, 1) := by decide +kernel
theorem dL_law_1263 : decode cL_law 1263 = .ok (.iload_n 3, 1) := by decide +kernel
theorem dL_law_1264 : decode cL_law 1264 = .ok (.iconst 1, 1) := by decide +kernel
theorem dL_law_1265 : decode cL_law 1265 = .ok (.iadd, 1) := by decide +kernel
theorem dL_law_1266 : decode cL_law 1266 = .ok (.iaload, 1) := by decide +kernel
theorem dL_law_1267 : decode cL_law 1267 = .ok (.invokevirtual 162, 3) := by decide +kernel
theorem dL_law_1270 : decode cL_law 1270 = .ok (.if_icmp .eq 113, 3) := by decide +kernel
theorem dL_law_1273 : decode cL_law 1273 = .ok (.iconst 0, 1) := by decide +kernel
theorem dL_law_1274 : decode cL_law 1274 = .ok (.ireturn, 1) := by decide +kernel
theorem dL_law_1275 : decode cL_law 1275 = .ok (.aload_n 1, 1) := by decide +kernel
theorem dL_law_1276 : decode cL_law 1276 = .ok (.aload_n 0, 1) := by decide +kernel
theorem dL_law_1277 : decode cL_law 1277 = .ok (.iload_n 3, 1) := by decide +kernel
theorem dL_law_1278 : decode cL_law 1278 = .ok (.iconst 1, 1) := by decide +kernel
theorem dL_law_1279 : decode cL_law 1279 = .ok (.iadd, 1) := by decide +kernel
theorem dL_law_1280 : decode cL_law 1280 = .ok (.iaload, 1) := by decide +kernel
theorem dL_law_1281 : decode cL_law 1281 = .ok (.invokevirtual 163, 3) := by decide +kernel
theorem dL_law_1284 : decode cL_law 1284 = .ok (.aload_n 2, 1) := by decide +kernel
theorem dL_law_1285 : decode cL_law 1285 = .ok (.aload_n 0, 1) := by decide +kernel
theorem dL_law_1286 : decode cL_law 1286 = .ok (.iload_n 3, 1) := by decide +kernel
theorem dL_law_1287 : decode cL_law 1287 = .ok (.iconst 1, 1) := by decide +kernel
theorem dL_law_1288 : decode cL_law 1288 = .ok (.iadd, 1) := by decide +kernel
theorem dL_law_1289 : decode cL_law 1289 = .ok (.iaload, 1) := by decide +kernel
theorem dL_law_1290 : decode cL_law 1290 = .ok (.invokevirtual 166, 3) := by decide +kernel
theorem dL_law_1293 : decode cL_law 1293 = .ok (.if_icmp .eq 90, 3) := by decide +kernel
theorem dL_law_1296 : decode cL_law 1296 = .ok (.iconst 0, 1) := by decide +kernel
theorem dL_law_1297 : decode cL_law 1297 = .ok (.ireturn, 1) := by decide +kernel
theorem dL_law_1298 : decode cL_law 1298 = .ok (.aload_n 1, 1) := by decide +kernel
theorem dL_law_1299 : decode cL_law 1299 = .ok (.invokevirtual 167, 3) := by decide +kernel
theorem dL_law_1302 : decode cL_law 1302 = .ok (.aload_n 2, 1) := by decide +kernel
theorem dL_law_1303 : decode cL_law 1303 = .ok (.invokevirtual 170, 3) := by decide +kernel
theorem dL_law_1306 : decode cL_law 1306 = .ok (.if_icmp .eq 77, 3) := by decide +kernel
theorem dL_law_1309 : decode cL_law 1309 = .ok (.iconst 0, 1) := by decide +kernel
theorem dL_law_1310 : decode cL_law 1310 = .ok (.ireturn, 1) := by decide +kernel
theorem dL_law_1311 : decode cL_law 1311 = .ok (.aload_n 1, 1) := by decide +kernel
theorem dL_law_1312 : decode cL_law 1312 = .ok (.invokevirtual 171, 3) := by decide +kernel
theorem dL_law_1315 : decode cL_law 1315 = .ok (.aload_n 2, 1) := by decide +kernel
theorem dL_law_1316 : decode cL_law 1316 = .ok (.invokevirtual 174, 3) := by decide +kernel
theorem dL_law_1319 : decode cL_law 1319 = .ok (.if_icmp .eq 64, 3) := by decide +kernel
theorem dL_law_1322 : decode cL_law 1322 = .ok (.iconst 0, 1) := by decide +kernel
theorem dL_law_1323 : decode cL_law 1323 = .ok (.ireturn, 1) := by decide +kernel
theorem dL_law_1324 : decode cL_law 1324 = .ok (.aload_n 1, 1) := by decide +kernel
theorem dL_law_1325 : decode cL_law 1325 = .ok (.invokevirtual 175, 3) := by decide +kernel
theorem dL_law_1328 : decode cL_law 1328 = .ok (.aload_n 2, 1) := by decide +kernel
theorem dL_law_1329 : decode cL_law 1329 = .ok (.invokevirtual 178, 3) := by decide +kernel
theorem dL_law_1332 : decode cL_law 1332 = .ok (.if_icmp .eq 51, 3) := by decide +kernel
theorem dL_law_1335 : decode cL_law 1335 = .ok (.iconst 0, 1) := by decide +kernel
theorem dL_law_1336 : decode cL_law 1336 = .ok (.ireturn, 1) := by decide +kernel
theorem dL_law_1337 : decode cL_law 1337 = .ok (.aload_n 1, 1) := by decide +kernel
theorem dL_law_1338 : decode cL_law 1338 = .ok (.aload_n 0, 1) := by decide +kernel
theorem dL_law_1339 : decode cL_law 1339 = .ok (.iload_n 3, 1) := by decide +kernel
theorem dL_law_1340 : decode cL_law 1340 = .ok (.iconst 1, 1) := by decide +kernel
theorem dL_law_1341 : decode cL_law 1341 = .ok (.iadd, 1) := by decide +kernel
theorem dL_law_1342 : decode cL_law 1342 = .ok (.iaload, 1) := by decide +kernel
theorem dL_law_1343 : decode cL_law 1343 = .ok (.invokevirtual 179, 3) := by decide +kernel
theorem dL_law_1346 : decode cL_law 1346 = .ok (.aload_n 2, 1) := by decide +kernel
theorem dL_law_1347 : decode cL_law 1347 = .ok (.aload_n 0, 1) := by decide +kernel
theorem dL_law_1348 : decode cL_law 1348 = .ok (.iload_n 3, 1) := by decide +kernel
theorem dL_law_1349 : decode cL_law 1349 = .ok (.iconst 1, 1) := by decide +kernel
theorem dL_law_1350 : decode cL_law 1350 = .ok (.iadd, 1) := by decide +kernel
theorem dL_law_1351 : decode cL_law 1351 = .ok (.iaload, 1) := by decide +kernel
theorem dL_law_1352 : decode cL_law 1352 = .ok (.invokevirtual 182, 3) := by decide +kernel
theorem dL_law_1355 : decode cL_law 1355 = .ok (.if_icmp .eq 28, 3) := by decide +kernel
theorem dL_law_1358 : decode cL_law 1358 = .ok (.iconst 0, 1) := by decide +kernel
theorem dL_law_1359 : decode cL_law 1359 = .ok (.ireturn, 1) := by decide +kernel
theorem dL_law_1360 : decode cL_law 1360 = .ok (.aload_n 1, 1) := by decide +kernel
theorem dL_law_1361 : decode cL_law 1361 = .ok (.aload_n 0, 1) := by decide +kernel
theorem dL_law_1362 : decode cL_law 1362 = .ok (.iload_n 3, 1) := by decide +kernel
theorem dL_law_1363 : decode cL_law 1363 = .ok (.iconst 1, 1) := by decide +kernel
theorem dL_law_1364 : decode cL_law 1364 = .ok (.iadd, 1) := by decide +kernel
theorem dL_law_1365 : decode cL_law 1365 = .ok (.iaload, 1) := by decide +kernel
theorem dL_law_1366 : decode cL_law 1366 = .ok (.invokevirtual 183, 3) := by decide +kernel
theorem dL_law_1369 : decode cL_law 1369 = .ok (.aload_n 2, 1) := by decide +kernel
theorem dL_law_1370 : decode cL_law 1370 = .ok (.aload_n 0, 1) := by decide +kernel
theorem dL_law_1371 : decode cL_law 1371 = .ok (.iload_n 3, 1) := by decide +kernel
theorem dL_law_1372 : decode cL_law 1372 = .ok (.iconst 1, 1) := by decide +kernel
theorem dL_law_1373 : decode cL_law 1373 = .ok (.iadd, 1) := by decide +kernel
theorem dL_law_1374 : decode cL_law 1374 = .ok (.iaload, 1) := by decide +kernel
theorem dL_law_1375 : decode cL_law 1375 = .ok (.invokevirtual 186, 3) := by decide +kernel
theorem dL_law_1378 : decode cL_law 1378 = .ok (.if_icmp .eq 5, 3) := by decide +kernel
theorem dL_law_1381 : decode cL_law 1381 = .ok (.iconst 0, 1) := by decide +kernel
theorem dL_law_1382 : decode cL_law 1382 = .ok (.ireturn, 1) := by decide +kernel
theorem dL_law_1383 : decode cL_law 1383 = .ok (.iinc 3 6, 3) := by decide +kernel
theorem dL_law_1386 : decode cL_law 1386 = .ok (.goto (-1368), 3) := by decide +kernel
theorem dL_law_1389 : decode cL_law 1389 = .ok (.iconst 1, 1) := by decide +kernel
theorem dL_law_1390 : decode cL_law 1390 = .ok (.ireturn, 1) := by decide +kernel
end
