section
-- ===== PART A: goes FIRST, ahead of the names: the tables' words, and 'selects' of the private methods out of them =====
/-- a private method of a class that the tables say can be made, by its rows of tables_1 -/
def lw_okq (q : MethodName × Nat) : Prop := (q.1.cls ≠ "java/lang/invoke/MethodHandle" ∧ q.1.cls ≠ "java/lang/invoke/VarHandle") ∧ Cond.instantiable q.1.cls q.2 ∈ tables_1 ∧ Cond.privateMethod q.1 ∈ tables_1 ∧ Cond.instanceMethod q.1 ∈ tables_1
theorem lw_p0 : lw_okq (⟨"CountyJigsaw", "found", "(I)I"⟩, 8) := ⟨⟨by decide +kernel, by decide +kernel⟩, List.mem_of_getElem? (i := 15) (by decide +kernel), List.mem_of_getElem? (i := 176) (by decide +kernel), List.mem_of_getElem? (i := 177) (by decide +kernel)⟩
theorem lw_p1 : lw_okq (⟨"CountyJigsaw$BestLaying", "weigh", "(LCountyJigsaw$County;)V"⟩, 4) := ⟨⟨by decide +kernel, by decide +kernel⟩, List.mem_of_getElem? (i := 79) (by decide +kernel), List.mem_of_getElem? (i := 329) (by decide +kernel), List.mem_of_getElem? (i := 330) (by decide +kernel)⟩
theorem lw_p2 : lw_okq (⟨"CountyJigsaw$BestLaying", "fillRests", "(I)V"⟩, 4) := ⟨⟨by decide +kernel, by decide +kernel⟩, List.mem_of_getElem? (i := 79) (by decide +kernel), List.mem_of_getElem? (i := 335) (by decide +kernel), List.mem_of_getElem? (i := 336) (by decide +kernel)⟩
theorem lw_p3 : lw_okq (⟨"CountyJigsaw$BestLaying", "leastRest", "(III)I"⟩, 4) := ⟨⟨by decide +kernel, by decide +kernel⟩, List.mem_of_getElem? (i := 79) (by decide +kernel), List.mem_of_getElem? (i := 339) (by decide +kernel), List.mem_of_getElem? (i := 340) (by decide +kernel)⟩
theorem lw_p4 : lw_okq (⟨"CountyJigsaw$BestLaying", "costOfNext", "(III)I"⟩, 4) := ⟨⟨by decide +kernel, by decide +kernel⟩, List.mem_of_getElem? (i := 79) (by decide +kernel), List.mem_of_getElem? (i := 344) (by decide +kernel), List.mem_of_getElem? (i := 345) (by decide +kernel)⟩
theorem lw_p5 : lw_okq (⟨"CountyJigsaw$BestLaying", "bestNext", "(III)I"⟩, 4) := ⟨⟨by decide +kernel, by decide +kernel⟩, List.mem_of_getElem? (i := 79) (by decide +kernel), List.mem_of_getElem? (i := 351) (by decide +kernel), List.mem_of_getElem? (i := 352) (by decide +kernel)⟩
theorem lw_p6 : lw_okq (⟨"CountyJigsaw", "leastExchange", "()I"⟩, 8) := ⟨⟨by decide +kernel, by decide +kernel⟩, List.mem_of_getElem? (i := 15) (by decide +kernel), List.mem_of_getElem? (i := 355) (by decide +kernel), List.mem_of_getElem? (i := 356) (by decide +kernel)⟩
theorem lw_p7 : lw_okq (⟨"CountyJigsaw", "sumExchanged", "(II)I"⟩, 8) := ⟨⟨by decide +kernel, by decide +kernel⟩, List.mem_of_getElem? (i := 15) (by decide +kernel), List.mem_of_getElem? (i := 359) (by decide +kernel), List.mem_of_getElem? (i := 360) (by decide +kernel)⟩
theorem lw_p8 : lw_okq (⟨"CountyJigsaw", "bestValueFor", "(III)I"⟩, 8) := ⟨⟨by decide +kernel, by decide +kernel⟩, List.mem_of_getElem? (i := 15) (by decide +kernel), List.mem_of_getElem? (i := 417) (by decide +kernel), List.mem_of_getElem? (i := 418) (by decide +kernel)⟩
theorem lw_p9 : lw_okq (⟨"CountyJigsaw", "wrongSheet", "(I)I"⟩, 8) := ⟨⟨by decide +kernel, by decide +kernel⟩, List.mem_of_getElem? (i := 15) (by decide +kernel), List.mem_of_getElem? (i := 439) (by decide +kernel), List.mem_of_getElem? (i := 440) (by decide +kernel)⟩
theorem lw_p10 : lw_okq (⟨"CountyJigsaw", "trialGoesAs", "(LCountyJigsaw$Sheet;)Z"⟩, 8) := ⟨⟨by decide +kernel, by decide +kernel⟩, List.mem_of_getElem? (i := 15) (by decide +kernel), List.mem_of_getElem? (i := 446) (by decide +kernel), List.mem_of_getElem? (i := 447) (by decide +kernel)⟩
theorem lw_p11 : lw_okq (⟨"CountyJigsaw", "harmlessSwaps", "()I"⟩, 8) := ⟨⟨by decide +kernel, by decide +kernel⟩, List.mem_of_getElem? (i := 15) (by decide +kernel), List.mem_of_getElem? (i := 468) (by decide +kernel), List.mem_of_getElem? (i := 469) (by decide +kernel)⟩
theorem lw_p12 : lw_okq (⟨"CountyJigsaw$Tape", "step", "()V"⟩, 5) := ⟨⟨by decide +kernel, by decide +kernel⟩, List.mem_of_getElem? (i := 98) (by decide +kernel), List.mem_of_getElem? (i := 499) (by decide +kernel), List.mem_of_getElem? (i := 500) (by decide +kernel)⟩
theorem lw_p13 : lw_okq (⟨"CountyJigsaw$Tape", "sortAt", "(I)I"⟩, 5) := ⟨⟨by decide +kernel, by decide +kernel⟩, List.mem_of_getElem? (i := 98) (by decide +kernel), List.mem_of_getElem? (i := 503) (by decide +kernel), List.mem_of_getElem? (i := 504) (by decide +kernel)⟩
theorem lw_p14 : lw_okq (⟨"CountyJigsaw$Tape", "readItem", "(LCountyJigsaw$County;)Z"⟩, 5) := ⟨⟨by decide +kernel, by decide +kernel⟩, List.mem_of_getElem? (i := 98) (by decide +kernel), List.mem_of_getElem? (i := 507) (by decide +kernel), List.mem_of_getElem? (i := 508) (by decide +kernel)⟩
theorem lw_p15 : lw_okq (⟨"CountyJigsaw$Tape", "kindNamed", "()I"⟩, 5) := ⟨⟨by decide +kernel, by decide +kernel⟩, List.mem_of_getElem? (i := 98) (by decide +kernel), List.mem_of_getElem? (i := 511) (by decide +kernel), List.mem_of_getElem? (i := 512) (by decide +kernel)⟩
def lw_privs_1 : List (MethodName × Nat) := [(⟨"CountyJigsaw", "found", "(I)I"⟩, 8), (⟨"CountyJigsaw$BestLaying", "weigh", "(LCountyJigsaw$County;)V"⟩, 4), (⟨"CountyJigsaw$BestLaying", "fillRests", "(I)V"⟩, 4), (⟨"CountyJigsaw$BestLaying", "leastRest", "(III)I"⟩, 4), (⟨"CountyJigsaw$BestLaying", "costOfNext", "(III)I"⟩, 4), (⟨"CountyJigsaw$BestLaying", "bestNext", "(III)I"⟩, 4), (⟨"CountyJigsaw", "leastExchange", "()I"⟩, 8), (⟨"CountyJigsaw", "sumExchanged", "(II)I"⟩, 8), (⟨"CountyJigsaw", "bestValueFor", "(III)I"⟩, 8), (⟨"CountyJigsaw", "wrongSheet", "(I)I"⟩, 8), (⟨"CountyJigsaw", "trialGoesAs", "(LCountyJigsaw$Sheet;)Z"⟩, 8), (⟨"CountyJigsaw", "harmlessSwaps", "()I"⟩, 8), (⟨"CountyJigsaw$Tape", "step", "()V"⟩, 5), (⟨"CountyJigsaw$Tape", "sortAt", "(I)I"⟩, 5), (⟨"CountyJigsaw$Tape", "readItem", "(LCountyJigsaw$County;)Z"⟩, 5), (⟨"CountyJigsaw$Tape", "kindNamed", "()I"⟩, 5)]
theorem lw_r1 : ∀ q ∈ lw_privs_1, lw_okq q := List.forall_mem_cons.mpr ⟨lw_p0, List.forall_mem_cons.mpr ⟨lw_p1, List.forall_mem_cons.mpr ⟨lw_p2, List.forall_mem_cons.mpr ⟨lw_p3, List.forall_mem_cons.mpr ⟨lw_p4, List.forall_mem_cons.mpr ⟨lw_p5, List.forall_mem_cons.mpr ⟨lw_p6, List.forall_mem_cons.mpr ⟨lw_p7, List.forall_mem_cons.mpr ⟨lw_p8, List.forall_mem_cons.mpr ⟨lw_p9, List.forall_mem_cons.mpr ⟨lw_p10, List.forall_mem_cons.mpr ⟨lw_p11, List.forall_mem_cons.mpr ⟨lw_p12, List.forall_mem_cons.mpr ⟨lw_p13, List.forall_mem_cons.mpr ⟨lw_p14, List.forall_mem_cons.mpr ⟨lw_p15, fun _ h => absurd h List.not_mem_nil⟩⟩⟩⟩⟩⟩⟩⟩⟩⟩⟩⟩⟩⟩⟩⟩
theorem lw_p16 : lw_okq (⟨"CountyJigsaw$Tape", "isWord", "(Ljava/lang/String;)Z"⟩, 5) := ⟨⟨by decide +kernel, by decide +kernel⟩, List.mem_of_getElem? (i := 98) (by decide +kernel), List.mem_of_getElem? (i := 525) (by decide +kernel), List.mem_of_getElem? (i := 526) (by decide +kernel)⟩
theorem lw_p17 : lw_okq (⟨"CountyJigsaw$Tape", "readPiece", "(LCountyJigsaw$County;I)Z"⟩, 5) := ⟨⟨by decide +kernel, by decide +kernel⟩, List.mem_of_getElem? (i := 98) (by decide +kernel), List.mem_of_getElem? (i := 577) (by decide +kernel), List.mem_of_getElem? (i := 578) (by decide +kernel)⟩
theorem lw_p18 : lw_okq (⟨"CountyJigsaw$Tape", "readNumber", "(I)I"⟩, 5) := ⟨⟨by decide +kernel, by decide +kernel⟩, List.mem_of_getElem? (i := 98) (by decide +kernel), List.mem_of_getElem? (i := 581) (by decide +kernel), List.mem_of_getElem? (i := 582) (by decide +kernel)⟩
theorem lw_p19 : lw_okq (⟨"CountyJigsaw$Tape", "valueOfDigits", "()I"⟩, 5) := ⟨⟨by decide +kernel, by decide +kernel⟩, List.mem_of_getElem? (i := 98) (by decide +kernel), List.mem_of_getElem? (i := 585) (by decide +kernel), List.mem_of_getElem? (i := 586) (by decide +kernel)⟩
theorem lw_p20 : lw_okq (⟨"CountyJigsaw$Tape", "readSwap", "(LCountyJigsaw$County;)Z"⟩, 5) := ⟨⟨by decide +kernel, by decide +kernel⟩, List.mem_of_getElem? (i := 98) (by decide +kernel), List.mem_of_getElem? (i := 594) (by decide +kernel), List.mem_of_getElem? (i := 595) (by decide +kernel)⟩
theorem lw_p21 : lw_okq (⟨"CountyJigsaw$Tape", "readLay", "(LCountyJigsaw$County;)Z"⟩, 5) := ⟨⟨by decide +kernel, by decide +kernel⟩, List.mem_of_getElem? (i := 98) (by decide +kernel), List.mem_of_getElem? (i := 599) (by decide +kernel), List.mem_of_getElem? (i := 600) (by decide +kernel)⟩
theorem lw_p22 : lw_okq (⟨"CountyJigsaw", "allFindings", "()I"⟩, 8) := ⟨⟨by decide +kernel, by decide +kernel⟩, List.mem_of_getElem? (i := 15) (by decide +kernel), List.mem_of_getElem? (i := 674) (by decide +kernel), List.mem_of_getElem? (i := 675) (by decide +kernel)⟩
theorem lw_p23 : lw_okq (⟨"CountyJigsawModel", "become", "(II)I"⟩, 21) := ⟨⟨by decide +kernel, by decide +kernel⟩, List.mem_of_getElem? (i := 678) (by decide +kernel), List.mem_of_getElem? (i := 770) (by decide +kernel), List.mem_of_getElem? (i := 771) (by decide +kernel)⟩
theorem lw_p24 : lw_okq (⟨"CountyJigsawModel", "finding", "(I)I"⟩, 21) := ⟨⟨by decide +kernel, by decide +kernel⟩, List.mem_of_getElem? (i := 678) (by decide +kernel), List.mem_of_getElem? (i := 775) (by decide +kernel), List.mem_of_getElem? (i := 776) (by decide +kernel)⟩
theorem lw_p25 : lw_okq (⟨"CountyJigsawModel", "isCut", "(III)I"⟩, 21) := ⟨⟨by decide +kernel, by decide +kernel⟩, List.mem_of_getElem? (i := 678) (by decide +kernel), List.mem_of_getElem? (i := 794) (by decide +kernel), List.mem_of_getElem? (i := 795) (by decide +kernel)⟩
theorem lw_p26 : lw_okq (⟨"CountyJigsawModel", "isPiece", "(I)Z"⟩, 21) := ⟨⟨by decide +kernel, by decide +kernel⟩, List.mem_of_getElem? (i := 678) (by decide +kernel), List.mem_of_getElem? (i := 805) (by decide +kernel), List.mem_of_getElem? (i := 806) (by decide +kernel)⟩
theorem lw_p27 : lw_okq (⟨"CountyJigsawModel", "told", "(II)I"⟩, 21) := ⟨⟨by decide +kernel, by decide +kernel⟩, List.mem_of_getElem? (i := 678) (by decide +kernel), List.mem_of_getElem? (i := 809) (by decide +kernel), List.mem_of_getElem? (i := 810) (by decide +kernel)⟩
theorem lw_p28 : lw_okq (⟨"CountyJigsawModel", "whereLies", "(I)I"⟩, 21) := ⟨⟨by decide +kernel, by decide +kernel⟩, List.mem_of_getElem? (i := 678) (by decide +kernel), List.mem_of_getElem? (i := 813) (by decide +kernel), List.mem_of_getElem? (i := 814) (by decide +kernel)⟩
theorem lw_p29 : lw_okq (⟨"CountyJigsawModel", "grows", "(I)I"⟩, 21) := ⟨⟨by decide +kernel, by decide +kernel⟩, List.mem_of_getElem? (i := 678) (by decide +kernel), List.mem_of_getElem? (i := 817) (by decide +kernel), List.mem_of_getElem? (i := 818) (by decide +kernel)⟩
theorem lw_p30 : lw_okq (⟨"CountyJigsawModel", "pieceIs", "(II)I"⟩, 21) := ⟨⟨by decide +kernel, by decide +kernel⟩, List.mem_of_getElem? (i := 678) (by decide +kernel), List.mem_of_getElem? (i := 821) (by decide +kernel), List.mem_of_getElem? (i := 822) (by decide +kernel)⟩
theorem lw_p31 : lw_okq (⟨"CountyJigsawModel", "gapOf", "(II)I"⟩, 21) := ⟨⟨by decide +kernel, by decide +kernel⟩, List.mem_of_getElem? (i := 678) (by decide +kernel), List.mem_of_getElem? (i := 840) (by decide +kernel), List.mem_of_getElem? (i := 841) (by decide +kernel)⟩
def lw_privs_2 : List (MethodName × Nat) := [(⟨"CountyJigsaw$Tape", "isWord", "(Ljava/lang/String;)Z"⟩, 5), (⟨"CountyJigsaw$Tape", "readPiece", "(LCountyJigsaw$County;I)Z"⟩, 5), (⟨"CountyJigsaw$Tape", "readNumber", "(I)I"⟩, 5), (⟨"CountyJigsaw$Tape", "valueOfDigits", "()I"⟩, 5), (⟨"CountyJigsaw$Tape", "readSwap", "(LCountyJigsaw$County;)Z"⟩, 5), (⟨"CountyJigsaw$Tape", "readLay", "(LCountyJigsaw$County;)Z"⟩, 5), (⟨"CountyJigsaw", "allFindings", "()I"⟩, 8), (⟨"CountyJigsawModel", "become", "(II)I"⟩, 21), (⟨"CountyJigsawModel", "finding", "(I)I"⟩, 21), (⟨"CountyJigsawModel", "isCut", "(III)I"⟩, 21), (⟨"CountyJigsawModel", "isPiece", "(I)Z"⟩, 21), (⟨"CountyJigsawModel", "told", "(II)I"⟩, 21), (⟨"CountyJigsawModel", "whereLies", "(I)I"⟩, 21), (⟨"CountyJigsawModel", "grows", "(I)I"⟩, 21), (⟨"CountyJigsawModel", "pieceIs", "(II)I"⟩, 21), (⟨"CountyJigsawModel", "gapOf", "(II)I"⟩, 21)]
theorem lw_r2 : ∀ q ∈ lw_privs_2, lw_okq q := List.forall_mem_cons.mpr ⟨lw_p16, List.forall_mem_cons.mpr ⟨lw_p17, List.forall_mem_cons.mpr ⟨lw_p18, List.forall_mem_cons.mpr ⟨lw_p19, List.forall_mem_cons.mpr ⟨lw_p20, List.forall_mem_cons.mpr ⟨lw_p21, List.forall_mem_cons.mpr ⟨lw_p22, List.forall_mem_cons.mpr ⟨lw_p23, List.forall_mem_cons.mpr ⟨lw_p24, List.forall_mem_cons.mpr ⟨lw_p25, List.forall_mem_cons.mpr ⟨lw_p26, List.forall_mem_cons.mpr ⟨lw_p27, List.forall_mem_cons.mpr ⟨lw_p28, List.forall_mem_cons.mpr ⟨lw_p29, List.forall_mem_cons.mpr ⟨lw_p30, List.forall_mem_cons.mpr ⟨lw_p31, fun _ h => absurd h List.not_mem_nil⟩⟩⟩⟩⟩⟩⟩⟩⟩⟩⟩⟩⟩⟩⟩⟩
theorem lw_p32 : lw_okq (⟨"CountyJigsawModel", "side", "(II)I"⟩, 21) := ⟨⟨by decide +kernel, by decide +kernel⟩, List.mem_of_getElem? (i := 678) (by decide +kernel), List.mem_of_getElem? (i := 844) (by decide +kernel), List.mem_of_getElem? (i := 845) (by decide +kernel)⟩
theorem lw_p33 : lw_okq (⟨"CountyJigsawModel", "isSky", "(I)Z"⟩, 21) := ⟨⟨by decide +kernel, by decide +kernel⟩, List.mem_of_getElem? (i := 678) (by decide +kernel), List.mem_of_getElem? (i := 849) (by decide +kernel), List.mem_of_getElem? (i := 850) (by decide +kernel)⟩
theorem lw_p34 : lw_okq (⟨"CountyJigsawModel", "edgeOf", "(II)I"⟩, 21) := ⟨⟨by decide +kernel, by decide +kernel⟩, List.mem_of_getElem? (i := 678) (by decide +kernel), List.mem_of_getElem? (i := 857) (by decide +kernel), List.mem_of_getElem? (i := 858) (by decide +kernel)⟩
theorem lw_p35 : lw_okq (⟨"CountyJigsawModel", "exchange", "(II)V"⟩, 21) := ⟨⟨by decide +kernel, by decide +kernel⟩, List.mem_of_getElem? (i := 678) (by decide +kernel), List.mem_of_getElem? (i := 865) (by decide +kernel), List.mem_of_getElem? (i := 866) (by decide +kernel)⟩
theorem lw_p36 : lw_okq (⟨"CountyJigsawModel", "sumNow", "()I"⟩, 21) := ⟨⟨by decide +kernel, by decide +kernel⟩, List.mem_of_getElem? (i := 678) (by decide +kernel), List.mem_of_getElem? (i := 869) (by decide +kernel), List.mem_of_getElem? (i := 870) (by decide +kernel)⟩
theorem lw_p37 : lw_okq (⟨"CountyJigsawModel", "yearsGo", "(I)V"⟩, 21) := ⟨⟨by decide +kernel, by decide +kernel⟩, List.mem_of_getElem? (i := 678) (by decide +kernel), List.mem_of_getElem? (i := 879) (by decide +kernel), List.mem_of_getElem? (i := 880) (by decide +kernel)⟩
theorem lw_p38 : lw_okq (⟨"CountyJigsawModel", "year", "()V"⟩, 21) := ⟨⟨by decide +kernel, by decide +kernel⟩, List.mem_of_getElem? (i := 678) (by decide +kernel), List.mem_of_getElem? (i := 883) (by decide +kernel), List.mem_of_getElem? (i := 884) (by decide +kernel)⟩
theorem lw_p39 : lw_okq (⟨"CountyJigsawModel", "placeNow", "()I"⟩, 21) := ⟨⟨by decide +kernel, by decide +kernel⟩, List.mem_of_getElem? (i := 678) (by decide +kernel), List.mem_of_getElem? (i := 887) (by decide +kernel), List.mem_of_getElem? (i := 888) (by decide +kernel)⟩
theorem lw_p40 : lw_okq (⟨"CountyJigsawModel", "closePlaces", "()I"⟩, 21) := ⟨⟨by decide +kernel, by decide +kernel⟩, List.mem_of_getElem? (i := 678) (by decide +kernel), List.mem_of_getElem? (i := 896) (by decide +kernel), List.mem_of_getElem? (i := 897) (by decide +kernel)⟩
theorem lw_p41 : lw_okq (⟨"CountyJigsawModel", "grantedOnes", "()I"⟩, 21) := ⟨⟨by decide +kernel, by decide +kernel⟩, List.mem_of_getElem? (i := 678) (by decide +kernel), List.mem_of_getElem? (i := 900) (by decide +kernel), List.mem_of_getElem? (i := 901) (by decide +kernel)⟩
theorem lw_p42 : lw_okq (⟨"CountyJigsawModel", "isGranted", "(I)Z"⟩, 21) := ⟨⟨by decide +kernel, by decide +kernel⟩, List.mem_of_getElem? (i := 678) (by decide +kernel), List.mem_of_getElem? (i := 904) (by decide +kernel), List.mem_of_getElem? (i := 905) (by decide +kernel)⟩
theorem lw_p43 : lw_okq (⟨"CountyJigsawModel", "widestGap", "()I"⟩, 21) := ⟨⟨by decide +kernel, by decide +kernel⟩, List.mem_of_getElem? (i := 678) (by decide +kernel), List.mem_of_getElem? (i := 908) (by decide +kernel), List.mem_of_getElem? (i := 909) (by decide +kernel)⟩
theorem lw_p44 : lw_okq (⟨"CountyJigsawModel", "turnedOnes", "()I"⟩, 21) := ⟨⟨by decide +kernel, by decide +kernel⟩, List.mem_of_getElem? (i := 678) (by decide +kernel), List.mem_of_getElem? (i := 913) (by decide +kernel), List.mem_of_getElem? (i := 914) (by decide +kernel)⟩
theorem lw_p45 : lw_okq (⟨"CountyJigsawModel", "bestSum", "()I"⟩, 21) := ⟨⟨by decide +kernel, by decide +kernel⟩, List.mem_of_getElem? (i := 678) (by decide +kernel), List.mem_of_getElem? (i := 917) (by decide +kernel), List.mem_of_getElem? (i := 918) (by decide +kernel)⟩
theorem lw_p46 : lw_okq (⟨"CountyJigsawModel", "isTabled", "()V"⟩, 21) := ⟨⟨by decide +kernel, by decide +kernel⟩, List.mem_of_getElem? (i := 678) (by decide +kernel), List.mem_of_getElem? (i := 921) (by decide +kernel), List.mem_of_getElem? (i := 922) (by decide +kernel)⟩
theorem lw_p47 : lw_okq (⟨"CountyJigsawModel", "leastRest", "(II)I"⟩, 21) := ⟨⟨by decide +kernel, by decide +kernel⟩, List.mem_of_getElem? (i := 678) (by decide +kernel), List.mem_of_getElem? (i := 925) (by decide +kernel), List.mem_of_getElem? (i := 926) (by decide +kernel)⟩
def lw_privs_3 : List (MethodName × Nat) := [(⟨"CountyJigsawModel", "side", "(II)I"⟩, 21), (⟨"CountyJigsawModel", "isSky", "(I)Z"⟩, 21), (⟨"CountyJigsawModel", "edgeOf", "(II)I"⟩, 21), (⟨"CountyJigsawModel", "exchange", "(II)V"⟩, 21), (⟨"CountyJigsawModel", "sumNow", "()I"⟩, 21), (⟨"CountyJigsawModel", "yearsGo", "(I)V"⟩, 21), (⟨"CountyJigsawModel", "year", "()V"⟩, 21), (⟨"CountyJigsawModel", "placeNow", "()I"⟩, 21), (⟨"CountyJigsawModel", "closePlaces", "()I"⟩, 21), (⟨"CountyJigsawModel", "grantedOnes", "()I"⟩, 21), (⟨"CountyJigsawModel", "isGranted", "(I)Z"⟩, 21), (⟨"CountyJigsawModel", "widestGap", "()I"⟩, 21), (⟨"CountyJigsawModel", "turnedOnes", "()I"⟩, 21), (⟨"CountyJigsawModel", "bestSum", "()I"⟩, 21), (⟨"CountyJigsawModel", "isTabled", "()V"⟩, 21), (⟨"CountyJigsawModel", "leastRest", "(II)I"⟩, 21)]
theorem lw_r3 : ∀ q ∈ lw_privs_3, lw_okq q := List.forall_mem_cons.mpr ⟨lw_p32, List.forall_mem_cons.mpr ⟨lw_p33, List.forall_mem_cons.mpr ⟨lw_p34, List.forall_mem_cons.mpr ⟨lw_p35, List.forall_mem_cons.mpr ⟨lw_p36, List.forall_mem_cons.mpr ⟨lw_p37, List.forall_mem_cons.mpr ⟨lw_p38, List.forall_mem_cons.mpr ⟨lw_p39, List.forall_mem_cons.mpr ⟨lw_p40, List.forall_mem_cons.mpr ⟨lw_p41, List.forall_mem_cons.mpr ⟨lw_p42, List.forall_mem_cons.mpr ⟨lw_p43, List.forall_mem_cons.mpr ⟨lw_p44, List.forall_mem_cons.mpr ⟨lw_p45, List.forall_mem_cons.mpr ⟨lw_p46, List.forall_mem_cons.mpr ⟨lw_p47, fun _ h => absurd h List.not_mem_nil⟩⟩⟩⟩⟩⟩⟩⟩⟩⟩⟩⟩⟩⟩⟩⟩
theorem lw_p48 : lw_okq (⟨"CountyJigsawModel", "everything", "()I"⟩, 21) := ⟨⟨by decide +kernel, by decide +kernel⟩, List.mem_of_getElem? (i := 678) (by decide +kernel), List.mem_of_getElem? (i := 930) (by decide +kernel), List.mem_of_getElem? (i := 931) (by decide +kernel)⟩
theorem lw_p49 : lw_okq (⟨"CountyJigsawModel", "bestNext", "(II)I"⟩, 21) := ⟨⟨by decide +kernel, by decide +kernel⟩, List.mem_of_getElem? (i := 678) (by decide +kernel), List.mem_of_getElem? (i := 934) (by decide +kernel), List.mem_of_getElem? (i := 935) (by decide +kernel)⟩
theorem lw_p50 : lw_okq (⟨"CountyJigsawModel", "betterSwap", "()I"⟩, 21) := ⟨⟨by decide +kernel, by decide +kernel⟩, List.mem_of_getElem? (i := 678) (by decide +kernel), List.mem_of_getElem? (i := 938) (by decide +kernel), List.mem_of_getElem? (i := 939) (by decide +kernel)⟩
theorem lw_p51 : lw_okq (⟨"CountyJigsawModel", "putBack", "(I)I"⟩, 21) := ⟨⟨by decide +kernel, by decide +kernel⟩, List.mem_of_getElem? (i := 678) (by decide +kernel), List.mem_of_getElem? (i := 949) (by decide +kernel), List.mem_of_getElem? (i := 950) (by decide +kernel)⟩
theorem lw_p52 : lw_okq (⟨"CountyJigsawModel", "orNone", "(I)I"⟩, 21) := ⟨⟨by decide +kernel, by decide +kernel⟩, List.mem_of_getElem? (i := 678) (by decide +kernel), List.mem_of_getElem? (i := 961) (by decide +kernel), List.mem_of_getElem? (i := 962) (by decide +kernel)⟩
theorem lw_p53 : lw_okq (⟨"CountyJigsawModel", "cheapest", "(II)I"⟩, 21) := ⟨⟨by decide +kernel, by decide +kernel⟩, List.mem_of_getElem? (i := 678) (by decide +kernel), List.mem_of_getElem? (i := 990) (by decide +kernel), List.mem_of_getElem? (i := 991) (by decide +kernel)⟩
theorem lw_p54 : lw_okq (⟨"CountyJigsawModel", "sumTurned", "(I)I"⟩, 21) := ⟨⟨by decide +kernel, by decide +kernel⟩, List.mem_of_getElem? (i := 678) (by decide +kernel), List.mem_of_getElem? (i := 1005) (by decide +kernel), List.mem_of_getElem? (i := 1006) (by decide +kernel)⟩
theorem lw_p55 : lw_okq (⟨"CountyJigsawModel", "lacks", "(IZ)I"⟩, 21) := ⟨⟨by decide +kernel, by decide +kernel⟩, List.mem_of_getElem? (i := 678) (by decide +kernel), List.mem_of_getElem? (i := 1013) (by decide +kernel), List.mem_of_getElem? (i := 1014) (by decide +kernel)⟩
theorem lw_p56 : lw_okq (⟨"CountyJigsawModel", "isSo", "(I)Z"⟩, 21) := ⟨⟨by decide +kernel, by decide +kernel⟩, List.mem_of_getElem? (i := 678) (by decide +kernel), List.mem_of_getElem? (i := 1021) (by decide +kernel), List.mem_of_getElem? (i := 1022) (by decide +kernel)⟩
theorem lw_p57 : lw_okq (⟨"CountyJigsawModel", "drawn", "()I"⟩, 21) := ⟨⟨by decide +kernel, by decide +kernel⟩, List.mem_of_getElem? (i := 678) (by decide +kernel), List.mem_of_getElem? (i := 1033) (by decide +kernel), List.mem_of_getElem? (i := 1034) (by decide +kernel)⟩
theorem lw_p58 : lw_okq (⟨"CountyJigsawModel", "isNoWorse", "(II)Z"⟩, 21) := ⟨⟨by decide +kernel, by decide +kernel⟩, List.mem_of_getElem? (i := 678) (by decide +kernel), List.mem_of_getElem? (i := 1042) (by decide +kernel), List.mem_of_getElem? (i := 1043) (by decide +kernel)⟩
theorem lw_p59 : lw_okq (⟨"CountyJigsawModel", "token", "()V"⟩, 21) := ⟨⟨by decide +kernel, by decide +kernel⟩, List.mem_of_getElem? (i := 678) (by decide +kernel), List.mem_of_getElem? (i := 1062) (by decide +kernel), List.mem_of_getElem? (i := 1063) (by decide +kernel)⟩
theorem lw_p60 : lw_okq (⟨"CountyJigsawModel", "byteAt", "(I)I"⟩, 21) := ⟨⟨by decide +kernel, by decide +kernel⟩, List.mem_of_getElem? (i := 678) (by decide +kernel), List.mem_of_getElem? (i := 1066) (by decide +kernel), List.mem_of_getElem? (i := 1067) (by decide +kernel)⟩
theorem lw_p61 : lw_okq (⟨"CountyJigsawModel", "readItem", "()V"⟩, 21) := ⟨⟨by decide +kernel, by decide +kernel⟩, List.mem_of_getElem? (i := 678) (by decide +kernel), List.mem_of_getElem? (i := 1070) (by decide +kernel), List.mem_of_getElem? (i := 1071) (by decide +kernel)⟩
theorem lw_p62 : lw_okq (⟨"CountyJigsawModel", "isWord", "(Ljava/lang/String;)Z"⟩, 21) := ⟨⟨by decide +kernel, by decide +kernel⟩, List.mem_of_getElem? (i := 678) (by decide +kernel), List.mem_of_getElem? (i := 1074) (by decide +kernel), List.mem_of_getElem? (i := 1075) (by decide +kernel)⟩
theorem lw_p63 : lw_okq (⟨"CountyJigsawModel", "readPiece", "(I)V"⟩, 21) := ⟨⟨by decide +kernel, by decide +kernel⟩, List.mem_of_getElem? (i := 678) (by decide +kernel), List.mem_of_getElem? (i := 1080) (by decide +kernel), List.mem_of_getElem? (i := 1081) (by decide +kernel)⟩
def lw_privs_4 : List (MethodName × Nat) := [(⟨"CountyJigsawModel", "everything", "()I"⟩, 21), (⟨"CountyJigsawModel", "bestNext", "(II)I"⟩, 21), (⟨"CountyJigsawModel", "betterSwap", "()I"⟩, 21), (⟨"CountyJigsawModel", "putBack", "(I)I"⟩, 21), (⟨"CountyJigsawModel", "orNone", "(I)I"⟩, 21), (⟨"CountyJigsawModel", "cheapest", "(II)I"⟩, 21), (⟨"CountyJigsawModel", "sumTurned", "(I)I"⟩, 21), (⟨"CountyJigsawModel", "lacks", "(IZ)I"⟩, 21), (⟨"CountyJigsawModel", "isSo", "(I)Z"⟩, 21), (⟨"CountyJigsawModel", "drawn", "()I"⟩, 21), (⟨"CountyJigsawModel", "isNoWorse", "(II)Z"⟩, 21), (⟨"CountyJigsawModel", "token", "()V"⟩, 21), (⟨"CountyJigsawModel", "byteAt", "(I)I"⟩, 21), (⟨"CountyJigsawModel", "readItem", "()V"⟩, 21), (⟨"CountyJigsawModel", "isWord", "(Ljava/lang/String;)Z"⟩, 21), (⟨"CountyJigsawModel", "readPiece", "(I)V"⟩, 21)]
theorem lw_r4 : ∀ q ∈ lw_privs_4, lw_okq q := List.forall_mem_cons.mpr ⟨lw_p48, List.forall_mem_cons.mpr ⟨lw_p49, List.forall_mem_cons.mpr ⟨lw_p50, List.forall_mem_cons.mpr ⟨lw_p51, List.forall_mem_cons.mpr ⟨lw_p52, List.forall_mem_cons.mpr ⟨lw_p53, List.forall_mem_cons.mpr ⟨lw_p54, List.forall_mem_cons.mpr ⟨lw_p55, List.forall_mem_cons.mpr ⟨lw_p56, List.forall_mem_cons.mpr ⟨lw_p57, List.forall_mem_cons.mpr ⟨lw_p58, List.forall_mem_cons.mpr ⟨lw_p59, List.forall_mem_cons.mpr ⟨lw_p60, List.forall_mem_cons.mpr ⟨lw_p61, List.forall_mem_cons.mpr ⟨lw_p62, List.forall_mem_cons.mpr ⟨lw_p63, fun _ h => absurd h List.not_mem_nil⟩⟩⟩⟩⟩⟩⟩⟩⟩⟩⟩⟩⟩⟩⟩⟩
theorem lw_p64 : lw_okq (⟨"CountyJigsawModel", "must", "(Z)V"⟩, 21) := ⟨⟨by decide +kernel, by decide +kernel⟩, List.mem_of_getElem? (i := 678) (by decide +kernel), List.mem_of_getElem? (i := 1084) (by decide +kernel), List.mem_of_getElem? (i := 1085) (by decide +kernel)⟩
theorem lw_p65 : lw_okq (⟨"CountyJigsawModel", "number", "(II)I"⟩, 21) := ⟨⟨by decide +kernel, by decide +kernel⟩, List.mem_of_getElem? (i := 678) (by decide +kernel), List.mem_of_getElem? (i := 1088) (by decide +kernel), List.mem_of_getElem? (i := 1089) (by decide +kernel)⟩
theorem lw_p66 : lw_okq (⟨"CountyJigsawModel", "takesWord", "(Ljava/lang/String;)Z"⟩, 21) := ⟨⟨by decide +kernel, by decide +kernel⟩, List.mem_of_getElem? (i := 678) (by decide +kernel), List.mem_of_getElem? (i := 1093) (by decide +kernel), List.mem_of_getElem? (i := 1094) (by decide +kernel)⟩
theorem lw_p67 : lw_okq (⟨"CountyJigsawModel", "addItem", "(IIIII)V"⟩, 21) := ⟨⟨by decide +kernel, by decide +kernel⟩, List.mem_of_getElem? (i := 678) (by decide +kernel), List.mem_of_getElem? (i := 1098) (by decide +kernel), List.mem_of_getElem? (i := 1099) (by decide +kernel)⟩
theorem lw_p68 : lw_okq (⟨"CountyJigsawModel", "isToldSo", "(I)V"⟩, 21) := ⟨⟨by decide +kernel, by decide +kernel⟩, List.mem_of_getElem? (i := 678) (by decide +kernel), List.mem_of_getElem? (i := 1104) (by decide +kernel), List.mem_of_getElem? (i := 1105) (by decide +kernel)⟩
def lw_privs_5 : List (MethodName × Nat) := [(⟨"CountyJigsawModel", "must", "(Z)V"⟩, 21), (⟨"CountyJigsawModel", "number", "(II)I"⟩, 21), (⟨"CountyJigsawModel", "takesWord", "(Ljava/lang/String;)Z"⟩, 21), (⟨"CountyJigsawModel", "addItem", "(IIIII)V"⟩, 21), (⟨"CountyJigsawModel", "isToldSo", "(I)V"⟩, 21)]
theorem lw_r5 : ∀ q ∈ lw_privs_5, lw_okq q := List.forall_mem_cons.mpr ⟨lw_p64, List.forall_mem_cons.mpr ⟨lw_p65, List.forall_mem_cons.mpr ⟨lw_p66, List.forall_mem_cons.mpr ⟨lw_p67, List.forall_mem_cons.mpr ⟨lw_p68, fun _ h => absurd h List.not_mem_nil⟩⟩⟩⟩⟩
def lw_privs : List (MethodName × Nat) := lw_privs_1 ++ (lw_privs_2 ++ (lw_privs_3 ++ (lw_privs_4 ++ (lw_privs_5))))
def lw_tbl : List Cond := k2_sels lw_privs ++ tables_1
theorem lw_privs_ok : ∀ q ∈ lw_privs, lw_okq q := by
  show ∀ q ∈ lw_privs_1 ++ (lw_privs_2 ++ (lw_privs_3 ++ (lw_privs_4 ++ (lw_privs_5)))), lw_okq q
  exact List.forall_mem_append.mpr ⟨lw_r1, List.forall_mem_append.mpr ⟨lw_r2, List.forall_mem_append.mpr ⟨lw_r3, List.forall_mem_append.mpr ⟨lw_r4, lw_r5⟩⟩⟩⟩
end
section
/-! ===== BEGIN printed: names, fields, word lists, decode rows ===== -/
def RX0 : String := "CountyJigsaw$BestLaying"
def TX0 : u_T := fun k => match k with
  | 0 => ("CountyJigsaw$BestLaying", "gaps", "[I", true)
  | 1 => ("CountyJigsaw$BestLaying", "firstEdges", "[I", true)
  | 2 => ("CountyJigsaw$BestLaying", "lastEdges", "[I", true)
  | _ => ("CountyJigsaw$BestLaying", "rests", "[I", true)
def tyX0 : Nat → FieldType := fun k => match k with
  | 0 => .array .int
  | 1 => .array .int
  | 2 => .array .int
  | _ => .array .int
abbrev wsX00 : List Cond := u_ws RX0 TX0 4
theorem nmX0 : ∀ a, a < 4 → ∀ b, b < 4 → a ≠ b → (TX0 a).2.1 ≠ (TX0 b).2.1 := by decide +kernel
theorem tyX0_ok : ∀ k, k < 4 → parseFieldDescriptor (TX0 k).2.2.1 = some (tyX0 k) := by decide +kernel
abbrev cX0_init : ByteArray := prog_2_method_1_code
def yX0_init : MethodName := ⟨RX0, "<init>", "()V"⟩
abbrev cX0_leastSum : ByteArray := prog_2_method_2_code
def yX0_leastSum : MethodName := ⟨RX0, "leastSum", "(LCountyJigsaw$County;)I"⟩
abbrev cX0_pieceAt : ByteArray := prog_2_method_3_code
def yX0_pieceAt : MethodName := ⟨RX0, "pieceAt", "(LCountyJigsaw$County;I)I"⟩
abbrev cX0_weigh : ByteArray := prog_2_method_4_code
def yX0_weigh : MethodName := ⟨RX0, "weigh", "(LCountyJigsaw$County;)V"⟩
abbrev cX0_fillRests : ByteArray := prog_2_method_5_code
def yX0_fillRests : MethodName := ⟨RX0, "fillRests", "(I)V"⟩
abbrev cX0_leastRest : ByteArray := prog_2_method_6_code
def yX0_leastRest : MethodName := ⟨RX0, "leastRest", "(III)I"⟩
abbrev cX0_bestNext : ByteArray := prog_2_method_7_code
def yX0_bestNext : MethodName := ⟨RX0, "bestNext", "(III)I"⟩
abbrev cX0_costOfNext : ByteArray := prog_2_method_8_code
def yX0_costOfNext : MethodName := ⟨RX0, "costOfNext", "(III)I"⟩
def RX1 : String := "CountyJigsaw$County"
def TX1 : u_T := fun k => match k with
  | 0 => ("CountyJigsaw$County", "kind", "[I", true)
  | 1 => ("CountyJigsaw$County", "left", "[I", true)
  | 2 => ("CountyJigsaw$County", "right", "[I", true)
  | 3 => ("CountyJigsaw$County", "want", "[I", true)
  | 4 => ("CountyJigsaw$County", "row", "[I", true)
  | 5 => ("CountyJigsaw$County", "swaps", "[I", true)
  | 6 => ("CountyJigsaw$County", "spots", "[I", true)
  | 7 => ("CountyJigsaw$County", "turned", "I", false)
  | 8 => ("CountyJigsaw$County", "pieces", "I", false)
  | 9 => ("CountyJigsaw$County", "year", "I", false)
  | _ => ("CountyJigsaw$County", "z", "I", false)
def tyX1 : Nat → FieldType := fun k => match k with
  | 0 => .array .int
  | 1 => .array .int
  | 2 => .array .int
  | 3 => .array .int
  | 4 => .array .int
  | 5 => .array .int
  | 6 => .array .int
  | 7 => .int
  | 8 => .int
  | 9 => .int
  | _ => .int
abbrev wsX10 : List Cond := u_ws RX1 TX1 11
theorem nmX1 : ∀ a, a < 11 → ∀ b, b < 11 → a ≠ b → (TX1 a).2.1 ≠ (TX1 b).2.1 := by decide +kernel
theorem tyX1_ok : ∀ k, k < 11 → parseFieldDescriptor (TX1 k).2.2.1 = some (tyX1 k) := by decide +kernel
abbrev cX1_init : ByteArray := prog_3_method_1_code
def yX1_init : MethodName := ⟨RX1, "<init>", "()V"⟩
abbrev cX1_takeFrom : ByteArray := prog_3_method_2_code
def yX1_takeFrom : MethodName := ⟨RX1, "takeFrom", "(LCountyJigsaw$County;)V"⟩
abbrev cX1_has : ByteArray := prog_3_method_3_code
def yX1_has : MethodName := ⟨RX1, "has", "(I)Z"⟩
abbrev cX1_addPiece : ByteArray := prog_3_method_4_code
def yX1_addPiece : MethodName := ⟨RX1, "addPiece", "(III)I"⟩
abbrev cX1_told : ByteArray := prog_3_method_5_code
def yX1_told : MethodName := ⟨RX1, "told", "(II)I"⟩
abbrev cX1_become : ByteArray := prog_3_method_6_code
def yX1_become : MethodName := ⟨RX1, "become", "(III)V"⟩
abbrev cX1_placeOf : ByteArray := prog_3_method_7_code
def yX1_placeOf : MethodName := ⟨RX1, "placeOf", "(I)I"⟩
abbrev cX1_shownLeft : ByteArray := prog_3_method_8_code
def yX1_shownLeft : MethodName := ⟨RX1, "shownLeft", "(I)I"⟩
abbrev cX1_shownRight : ByteArray := prog_3_method_9_code
def yX1_shownRight : MethodName := ⟨RX1, "shownRight", "(I)I"⟩
abbrev cX1_gapOf : ByteArray := prog_3_method_10_code
def yX1_gapOf : MethodName := ⟨RX1, "gapOf", "(II)I"⟩
abbrev cX1_edgeOf : ByteArray := prog_3_method_11_code
def yX1_edgeOf : MethodName := ⟨RX1, "edgeOf", "(II)I"⟩
abbrev cX1_growsOf : ByteArray := prog_3_method_12_code
def yX1_growsOf : MethodName := ⟨RX1, "growsOf", "(I)I"⟩
abbrev cX1_gapBehind : ByteArray := prog_3_method_13_code
def yX1_gapBehind : MethodName := ⟨RX1, "gapBehind", "(I)I"⟩
abbrev cX1_sumOfRow : ByteArray := prog_3_method_14_code
def yX1_sumOfRow : MethodName := ⟨RX1, "sumOfRow", "()I"⟩
abbrev cX1_exchange : ByteArray := prog_3_method_15_code
def yX1_exchange : MethodName := ⟨RX1, "exchange", "(II)V"⟩
abbrev cX1_passYears : ByteArray := prog_3_method_16_code
def yX1_passYears : MethodName := ⟨RX1, "passYears", "(I)V"⟩
abbrev cX1_passYear : ByteArray := prog_3_method_17_code
def yX1_passYear : MethodName := ⟨RX1, "passYear", "()V"⟩
abbrev cX1_cut : ByteArray := prog_3_method_18_code
def yX1_cut : MethodName := ⟨RX1, "cut", "()V"⟩
abbrev cX1_draw : ByteArray := prog_3_method_19_code
def yX1_draw : MethodName := ⟨RX1, "draw", "()I"⟩
abbrev cX1_isGranted : ByteArray := prog_3_method_20_code
def yX1_isGranted : MethodName := ⟨RX1, "isGranted", "(I)Z"⟩
abbrev cX1_grantedPieces : ByteArray := prog_3_method_21_code
def yX1_grantedPieces : MethodName := ⟨RX1, "grantedPieces", "()I"⟩
abbrev cX1_closedPlaces : ByteArray := prog_3_method_22_code
def yX1_closedPlaces : MethodName := ⟨RX1, "closedPlaces", "()I"⟩
abbrev cX1_greatestGap : ByteArray := prog_3_method_23_code
def yX1_greatestGap : MethodName := ⟨RX1, "greatestGap", "()I"⟩
abbrev cX1_filledSpots : ByteArray := prog_3_method_24_code
def yX1_filledSpots : MethodName := ⟨RX1, "filledSpots", "()I"⟩
def RX2 : String := "CountyJigsaw$Sheet"
def TX2 : u_T := fun k => match k with
  | 0 => ("CountyJigsaw$Sheet", "numbers", "[I", true)
  | 1 => ("CountyJigsaw$Sheet", "bits", "I", false)
  | _ => ("CountyJigsaw$Sheet", "size", "I", false)
def tyX2 : Nat → FieldType := fun k => match k with
  | 0 => .array .int
  | 1 => .int
  | _ => .int
abbrev wsX20 : List Cond := u_ws RX2 TX2 3
theorem nmX2 : ∀ a, a < 3 → ∀ b, b < 3 → a ≠ b → (TX2 a).2.1 ≠ (TX2 b).2.1 := by decide +kernel
theorem tyX2_ok : ∀ k, k < 3 → parseFieldDescriptor (TX2 k).2.2.1 = some (tyX2 k) := by decide +kernel
abbrev cX2_init : ByteArray := prog_4_method_1_code
def yX2_init : MethodName := ⟨RX2, "<init>", "()V"⟩
abbrev cX2_begin : ByteArray := prog_4_method_2_code
def yX2_begin : MethodName := ⟨RX2, "begin", "(II)V"⟩
abbrev cX2_put : ByteArray := prog_4_method_3_code
def yX2_put : MethodName := ⟨RX2, "put", "(II)V"⟩
abbrev cX2_hasRun : ByteArray := prog_4_method_4_code
def yX2_hasRun : MethodName := ⟨RX2, "hasRun", "(II)Z"⟩
def RX3 : String := "CountyJigsaw$Tape"
def TX3 : u_T := fun k => match k with
  | 0 => ("CountyJigsaw$Tape", "bytes", "[I", true)
  | 1 => ("CountyJigsaw$Tape", "length", "I", false)
  | 2 => ("CountyJigsaw$Tape", "sort", "I", false)
  | 3 => ("CountyJigsaw$Tape", "begin", "I", false)
  | _ => ("CountyJigsaw$Tape", "end", "I", false)
def tyX3 : Nat → FieldType := fun k => match k with
  | 0 => .array .int
  | 1 => .int
  | 2 => .int
  | 3 => .int
  | _ => .int
abbrev wsX30 : List Cond := u_ws RX3 TX3 5
theorem nmX3 : ∀ a, a < 5 → ∀ b, b < 5 → a ≠ b → (TX3 a).2.1 ≠ (TX3 b).2.1 := by decide +kernel
theorem tyX3_ok : ∀ k, k < 5 → parseFieldDescriptor (TX3 k).2.2.1 = some (tyX3 k) := by decide +kernel
abbrev cX3_init : ByteArray := prog_5_method_1_code
def yX3_init : MethodName := ⟨RX3, "<init>", "()V"⟩
abbrev cX3_append : ByteArray := prog_5_method_2_code
def yX3_append : MethodName := ⟨RX3, "append", "(II)V"⟩
abbrev cX3_readInto : ByteArray := prog_5_method_3_code
def yX3_readInto : MethodName := ⟨RX3, "readInto", "(LCountyJigsaw$County;)I"⟩
abbrev cX3_readItem : ByteArray := prog_5_method_4_code
def yX3_readItem : MethodName := ⟨RX3, "readItem", "(LCountyJigsaw$County;)Z"⟩
abbrev cX3_readPiece : ByteArray := prog_5_method_5_code
def yX3_readPiece : MethodName := ⟨RX3, "readPiece", "(LCountyJigsaw$County;I)Z"⟩
abbrev cX3_readSwap : ByteArray := prog_5_method_6_code
def yX3_readSwap : MethodName := ⟨RX3, "readSwap", "(LCountyJigsaw$County;)Z"⟩
abbrev cX3_readLay : ByteArray := prog_5_method_7_code
def yX3_readLay : MethodName := ⟨RX3, "readLay", "(LCountyJigsaw$County;)Z"⟩
abbrev cX3_readNumber : ByteArray := prog_5_method_8_code
def yX3_readNumber : MethodName := ⟨RX3, "readNumber", "(I)I"⟩
abbrev cX3_kindNamed : ByteArray := prog_5_method_9_code
def yX3_kindNamed : MethodName := ⟨RX3, "kindNamed", "()I"⟩
abbrev cX3_nameOf : ByteArray := prog_5_method_10_code
def yX3_nameOf : MethodName := ⟨RX3, "nameOf", "(I)Ljava/lang/String;"⟩
abbrev cX3_isWord : ByteArray := prog_5_method_11_code
def yX3_isWord : MethodName := ⟨RX3, "isWord", "(Ljava/lang/String;)Z"⟩
abbrev cX3_step : ByteArray := prog_5_method_12_code
def yX3_step : MethodName := ⟨RX3, "step", "()V"⟩
abbrev cX3_sortAt : ByteArray := prog_5_method_13_code
def yX3_sortAt : MethodName := ⟨RX3, "sortAt", "(I)I"⟩
abbrev cX3_valueOfDigits : ByteArray := prog_5_method_14_code
def yX3_valueOfDigits : MethodName := ⟨RX3, "valueOfDigits", "()I"⟩
def RX4 : String := "CountyJigsaw"
def TX4 : u_T := fun k => match k with
  | 0 => ("CountyJigsaw", "county", "LCountyJigsaw$County;", true)
  | 1 => ("CountyJigsaw", "kept", "LCountyJigsaw$County;", true)
  | 2 => ("CountyJigsaw", "trial", "LCountyJigsaw$County;", true)
  | 3 => ("CountyJigsaw", "laying", "LCountyJigsaw$BestLaying;", true)
  | 4 => ("CountyJigsaw", "tape", "LCountyJigsaw$Tape;", true)
  | 5 => ("CountyJigsaw", "sheets", "[LCountyJigsaw$Sheet;", true)
  | 6 => ("CountyJigsaw", "findings", "[I", true)
  | _ => ("CountyJigsaw", "isKept", "Z", false)
def tyX4 : Nat → FieldType := fun k => match k with
  | 0 => .object "CountyJigsaw$County"
  | 1 => .object "CountyJigsaw$County"
  | 2 => .object "CountyJigsaw$County"
  | 3 => .object "CountyJigsaw$BestLaying"
  | 4 => .object "CountyJigsaw$Tape"
  | 5 => .array (.object "CountyJigsaw$Sheet")
  | 6 => .array .int
  | _ => .boolean
abbrev wsX40 : List Cond := u_ws RX4 TX4 8
theorem nmX4 : ∀ a, a < 8 → ∀ b, b < 8 → a ≠ b → (TX4 a).2.1 ≠ (TX4 b).2.1 := by decide +kernel
theorem tyX4_ok : ∀ k, k < 8 → parseFieldDescriptor (TX4 k).2.2.1 = some (tyX4 k) := by decide +kernel
abbrev cX4_init : ByteArray := prog_1_method_1_code
def yX4_init : MethodName := ⟨RX4, "<init>", "()V"⟩
abbrev cX4_list : ByteArray := prog_1_method_2_code
def yX4_list : MethodName := ⟨RX4, "list", "(III)I"⟩
abbrev cX4_listed : ByteArray := prog_1_method_3_code
def yX4_listed : MethodName := ⟨RX4, "listed", "(I)I"⟩
abbrev cX4_piece : ByteArray := prog_1_method_4_code
def yX4_piece : MethodName := ⟨RX4, "piece", "(III)I"⟩
abbrev cX4_of : ByteArray := prog_1_method_5_code
def yX4_of : MethodName := ⟨RX4, "of", "(II)I"⟩
abbrev cX4_change : ByteArray := prog_1_method_6_code
def yX4_change : MethodName := ⟨RX4, "change", "(III)I"⟩
abbrev cX4_lies : ByteArray := prog_1_method_7_code
def yX4_lies : MethodName := ⟨RX4, "lies", "(I)I"⟩
abbrev cX4_gap : ByteArray := prog_1_method_8_code
def yX4_gap : MethodName := ⟨RX4, "gap", "(II)I"⟩
abbrev cX4_edge : ByteArray := prog_1_method_9_code
def yX4_edge : MethodName := ⟨RX4, "edge", "(II)I"⟩
abbrev cX4_swap : ByteArray := prog_1_method_10_code
def yX4_swap : MethodName := ⟨RX4, "swap", "(II)I"⟩
abbrev cX4_go : ByteArray := prog_1_method_11_code
def yX4_go : MethodName := ⟨RX4, "go", "(I)I"⟩
abbrev cX4_now : ByteArray := prog_1_method_12_code
def yX4_now : MethodName := ⟨RX4, "now", "(I)I"⟩
abbrev cX4_ahead : ByteArray := prog_1_method_13_code
def yX4_ahead : MethodName := ⟨RX4, "ahead", "(III)I"⟩
abbrev cX4_sum : ByteArray := prog_1_method_14_code
def yX4_sum : MethodName := ⟨RX4, "sum", "(I)I"⟩
abbrev cX4_when : ByteArray := prog_1_method_15_code
def yX4_when : MethodName := ⟨RX4, "when", "(I)I"⟩
abbrev cX4_comes : ByteArray := prog_1_method_16_code
def yX4_comes : MethodName := ⟨RX4, "comes", "(II)I"⟩
abbrev cX4_granted : ByteArray := prog_1_method_17_code
def yX4_granted : MethodName := ⟨RX4, "granted", "(I)I"⟩
abbrev cX4_best : ByteArray := prog_1_method_18_code
def yX4_best : MethodName := ⟨RX4, "best", "()I"⟩
abbrev cX4_bestAt : ByteArray := prog_1_method_19_code
def yX4_bestAt : MethodName := ⟨RX4, "bestAt", "(I)I"⟩
abbrev cX4_settle : ByteArray := prog_1_method_20_code
def yX4_settle : MethodName := ⟨RX4, "settle", "()I"⟩
abbrev cX4_edgeFor : ByteArray := prog_1_method_21_code
def yX4_edgeFor : MethodName := ⟨RX4, "edgeFor", "(I)I"⟩
abbrev cX4_kindFor : ByteArray := prog_1_method_22_code
def yX4_kindFor : MethodName := ⟨RX4, "kindFor", "(I)I"⟩
abbrev cX4_turn : ByteArray := prog_1_method_23_code
def yX4_turn : MethodName := ⟨RX4, "turn", "(I)I"⟩
abbrev cX4_fits : ByteArray := prog_1_method_24_code
def yX4_fits : MethodName := ⟨RX4, "fits", "(II)I"⟩
abbrev cX4_kinds : ByteArray := prog_1_method_25_code
def yX4_kinds : MethodName := ⟨RX4, "kinds", "(II)I"⟩
abbrev cX4_tip : ByteArray := prog_1_method_26_code
def yX4_tip : MethodName := ⟨RX4, "tip", "(I)I"⟩
abbrev cX4_odds : ByteArray := prog_1_method_27_code
def yX4_odds : MethodName := ⟨RX4, "odds", "(II)J"⟩
abbrev cX4_seed : ByteArray := prog_1_method_28_code
def yX4_seed : MethodName := ⟨RX4, "seed", "(I)I"⟩
abbrev cX4_feed : ByteArray := prog_1_method_29_code
def yX4_feed : MethodName := ⟨RX4, "feed", "(II)I"⟩
abbrev cX4_wipe : ByteArray := prog_1_method_30_code
def yX4_wipe : MethodName := ⟨RX4, "wipe", "()I"⟩
abbrev cX4_text : ByteArray := prog_1_method_31_code
def yX4_text : MethodName := ⟨RX4, "text", "()I"⟩
abbrev cX4_hold : ByteArray := prog_1_method_32_code
def yX4_hold : MethodName := ⟨RX4, "hold", "(II)I"⟩
abbrev cX4_as : ByteArray := prog_1_method_33_code
def yX4_as : MethodName := ⟨RX4, "as", "(II)I"⟩
abbrev cX4_sheet : ByteArray := prog_1_method_34_code
def yX4_sheet : MethodName := ⟨RX4, "sheet", "(III)I"⟩
abbrev cX4_write : ByteArray := prog_1_method_35_code
def yX4_write : MethodName := ⟨RX4, "write", "(III)I"⟩
abbrev cX4_copy : ByteArray := prog_1_method_36_code
def yX4_copy : MethodName := ⟨RX4, "copy", "(IIIII)I"⟩
abbrev cX4_load : ByteArray := prog_1_method_37_code
def yX4_load : MethodName := ⟨RX4, "load", "(I)I"⟩
abbrev cX4_judge : ByteArray := prog_1_method_38_code
def yX4_judge : MethodName := ⟨RX4, "judge", "(I)I"⟩
abbrev cX4_image : ByteArray := prog_1_method_39_code
def yX4_image : MethodName := ⟨RX4, "image", "()I"⟩
abbrev cX4_undo : ByteArray := prog_1_method_40_code
def yX4_undo : MethodName := ⟨RX4, "undo", "()I"⟩
abbrev cX4_tear : ByteArray := prog_1_method_41_code
def yX4_tear : MethodName := ⟨RX4, "tear", "()I"⟩
abbrev cX4_count : ByteArray := prog_1_method_42_code
def yX4_count : MethodName := ⟨RX4, "count", "(I)I"⟩
abbrev cX4_status : ByteArray := prog_1_method_43_code
def yX4_status : MethodName := ⟨RX4, "status", "(I)I"⟩
abbrev cX4_found : ByteArray := prog_1_method_44_code
def yX4_found : MethodName := ⟨RX4, "found", "(I)I"⟩
abbrev cX4_allFindings : ByteArray := prog_1_method_45_code
def yX4_allFindings : MethodName := ⟨RX4, "allFindings", "()I"⟩
abbrev cX4_wrongSheet : ByteArray := prog_1_method_46_code
def yX4_wrongSheet : MethodName := ⟨RX4, "wrongSheet", "(I)I"⟩
abbrev cX4_leastExchange : ByteArray := prog_1_method_47_code
def yX4_leastExchange : MethodName := ⟨RX4, "leastExchange", "()I"⟩
abbrev cX4_sumExchanged : ByteArray := prog_1_method_48_code
def yX4_sumExchanged : MethodName := ⟨RX4, "sumExchanged", "(II)I"⟩
abbrev cX4_harmlessSwaps : ByteArray := prog_1_method_49_code
def yX4_harmlessSwaps : MethodName := ⟨RX4, "harmlessSwaps", "()I"⟩
abbrev cX4_bestValueFor : ByteArray := prog_1_method_50_code
def yX4_bestValueFor : MethodName := ⟨RX4, "bestValueFor", "(III)I"⟩
abbrev cX4_trialGoesAs : ByteArray := prog_1_method_51_code
def yX4_trialGoesAs : MethodName := ⟨RX4, "trialGoesAs", "(LCountyJigsaw$Sheet;)Z"⟩
abbrev cX4_power : ByteArray := prog_1_method_52_code
def yX4_power : MethodName := ⟨RX4, "power", "(II)J"⟩
abbrev cX4_couldBe : ByteArray := prog_1_method_53_code
def yX4_couldBe : MethodName := ⟨RX4, "couldBe", "(II)Z"⟩
abbrev cX4_isKind : ByteArray := prog_1_method_54_code
def yX4_isKind : MethodName := ⟨RX4, "isKind", "(I)Z"⟩
abbrev cX4_isEdge : ByteArray := prog_1_method_55_code
def yX4_isEdge : MethodName := ⟨RX4, "isEdge", "(I)Z"⟩
abbrev cX4_isPlace : ByteArray := prog_1_method_56_code
def yX4_isPlace : MethodName := ⟨RX4, "isPlace", "(I)Z"⟩
abbrev cX4_isListPlace : ByteArray := prog_1_method_57_code
def yX4_isListPlace : MethodName := ⟨RX4, "isListPlace", "(I)Z"⟩
abbrev cX4_isSpot : ByteArray := prog_1_method_58_code
def yX4_isSpot : MethodName := ⟨RX4, "isSpot", "(I)Z"⟩
abbrev cX4_isSheet : ByteArray := prog_1_method_59_code
def yX4_isSheet : MethodName := ⟨RX4, "isSheet", "(I)Z"⟩
abbrev cX4_isToldSum : ByteArray := prog_1_method_60_code
def yX4_isToldSum : MethodName := ⟨RX4, "isToldSum", "(I)Z"⟩
abbrev cX4_isOrUnder : ByteArray := prog_1_method_61_code
def yX4_isOrUnder : MethodName := ⟨RX4, "isOrUnder", "(II)Z"⟩
def RX5 : String := "CountyJigsawModel"
def TX5 : u_T := fun k => match k with
  | 0 => ("CountyJigsawModel", "now", "[I", true)
  | 1 => ("CountyJigsawModel", "kept", "[I", true)
  | 2 => ("CountyJigsawModel", "aside", "[I", true)
  | 3 => ("CountyJigsawModel", "isKept", "Z", false)
  | 4 => ("CountyJigsawModel", "found", "[I", true)
  | 5 => ("CountyJigsawModel", "rest", "[I", true)
  | 6 => ("CountyJigsawModel", "tape", "[I", true)
  | 7 => ("CountyJigsawModel", "taped", "I", false)
  | 8 => ("CountyJigsawModel", "begins", "I", false)
  | 9 => ("CountyJigsawModel", "ends", "I", false)
  | 10 => ("CountyJigsawModel", "sort", "I", false)
  | 11 => ("CountyJigsawModel", "value", "I", false)
  | 12 => ("CountyJigsawModel", "isWrong", "Z", false)
  | 13 => ("CountyJigsawModel", "kindNames", "[Ljava/lang/String;", true)
  | 14 => ("CountyJigsawModel", "items", "[I", true)
  | 15 => ("CountyJigsawModel", "itemMany", "I", false)
  | 16 => ("CountyJigsawModel", "piecesThen", "I", false)
  | 17 => ("CountyJigsawModel", "widths", "[I", true)
  | 18 => ("CountyJigsawModel", "sizes", "[I", true)
  | 19 => ("CountyJigsawModel", "numbers", "[I", true)
  | _ => ("CountyJigsawModel", "moved", "[I", true)
def tyX5 : Nat → FieldType := fun k => match k with
  | 0 => .array .int
  | 1 => .array .int
  | 2 => .array .int
  | 3 => .boolean
  | 4 => .array .int
  | 5 => .array .int
  | 6 => .array .int
  | 7 => .int
  | 8 => .int
  | 9 => .int
  | 10 => .int
  | 11 => .int
  | 12 => .boolean
  | 13 => .array (.object "java/lang/String")
  | 14 => .array .int
  | 15 => .int
  | 16 => .int
  | 17 => .array .int
  | 18 => .array .int
  | 19 => .array .int
  | _ => .array .int
abbrev wsX50 : List Cond := u_ws RX5 TX5 21
theorem nmX5 : ∀ a, a < 21 → ∀ b, b < 21 → a ≠ b → (TX5 a).2.1 ≠ (TX5 b).2.1 := by decide +kernel
theorem tyX5_ok : ∀ k, k < 21 → parseFieldDescriptor (TX5 k).2.2.1 = some (tyX5 k) := by decide +kernel
abbrev cX5_init : ByteArray := prog_7_method_1_code
def yX5_init : MethodName := ⟨RX5, "<init>", "()V"⟩
abbrev cX5_finding : ByteArray := prog_7_method_2_code
def yX5_finding : MethodName := ⟨RX5, "finding", "(I)I"⟩
abbrev cX5_within : ByteArray := prog_7_method_3_code
def yX5_within : MethodName := ⟨RX5, "within", "(III)Z"⟩
abbrev cX5_become : ByteArray := prog_7_method_4_code
def yX5_become : MethodName := ⟨RX5, "become", "(II)I"⟩
abbrev cX5_copyRow : ByteArray := prog_7_method_5_code
def yX5_copyRow : MethodName := ⟨RX5, "copyRow", "([I[I)V"⟩
abbrev cX5_putBack : ByteArray := prog_7_method_6_code
def yX5_putBack : MethodName := ⟨RX5, "putBack", "(I)I"⟩
abbrev cX5_orNone : ByteArray := prog_7_method_7_code
def yX5_orNone : MethodName := ⟨RX5, "orNone", "(I)I"⟩
abbrev cX5_bits : ByteArray := prog_7_method_8_code
def yX5_bits : MethodName := ⟨RX5, "bits", "(I)I"⟩
abbrev cX5_isOne : ByteArray := prog_7_method_9_code
def yX5_isOne : MethodName := ⟨RX5, "isOne", "(I)Z"⟩
abbrev cX5_isEdge : ByteArray := prog_7_method_10_code
def yX5_isEdge : MethodName := ⟨RX5, "isEdge", "(I)Z"⟩
abbrev cX5_isPlace : ByteArray := prog_7_method_11_code
def yX5_isPlace : MethodName := ⟨RX5, "isPlace", "(I)Z"⟩
abbrev cX5_list : ByteArray := prog_7_method_12_code
def yX5_list : MethodName := ⟨RX5, "list", "(III)I"⟩
abbrev cX5_listed : ByteArray := prog_7_method_13_code
def yX5_listed : MethodName := ⟨RX5, "listed", "(I)I"⟩
abbrev cX5_placeNow : ByteArray := prog_7_method_14_code
def yX5_placeNow : MethodName := ⟨RX5, "placeNow", "()I"⟩
abbrev cX5_pieceAt : ByteArray := prog_7_method_15_code
def yX5_pieceAt : MethodName := ⟨RX5, "pieceAt", "(II)I"⟩
abbrev cX5_pieceIs : ByteArray := prog_7_method_16_code
def yX5_pieceIs : MethodName := ⟨RX5, "pieceIs", "(II)I"⟩
abbrev cX5_isPiece : ByteArray := prog_7_method_17_code
def yX5_isPiece : MethodName := ⟨RX5, "isPiece", "(I)Z"⟩
abbrev cX5_isKind : ByteArray := prog_7_method_18_code
def yX5_isKind : MethodName := ⟨RX5, "isKind", "(I)Z"⟩
abbrev cX5_isCut : ByteArray := prog_7_method_19_code
def yX5_isCut : MethodName := ⟨RX5, "isCut", "(III)I"⟩
abbrev cX5_piece : ByteArray := prog_7_method_20_code
def yX5_piece : MethodName := ⟨RX5, "piece", "(III)I"⟩
abbrev cX5_whereLies : ByteArray := prog_7_method_21_code
def yX5_whereLies : MethodName := ⟨RX5, "whereLies", "(I)I"⟩
abbrev cX5_grows : ByteArray := prog_7_method_22_code
def yX5_grows : MethodName := ⟨RX5, "grows", "(I)I"⟩
abbrev cX5_told : ByteArray := prog_7_method_23_code
def yX5_told : MethodName := ⟨RX5, "told", "(II)I"⟩
abbrev cX5_of : ByteArray := prog_7_method_24_code
def yX5_of : MethodName := ⟨RX5, "of", "(II)I"⟩
abbrev cX5_isField : ByteArray := prog_7_method_25_code
def yX5_isField : MethodName := ⟨RX5, "isField", "(II)Z"⟩
abbrev cX5_change : ByteArray := prog_7_method_26_code
def yX5_change : MethodName := ⟨RX5, "change", "(III)I"⟩
abbrev cX5_lies : ByteArray := prog_7_method_27_code
def yX5_lies : MethodName := ⟨RX5, "lies", "(I)I"⟩
abbrev cX5_side : ByteArray := prog_7_method_28_code
def yX5_side : MethodName := ⟨RX5, "side", "(II)I"⟩
abbrev cX5_isSky : ByteArray := prog_7_method_29_code
def yX5_isSky : MethodName := ⟨RX5, "isSky", "(I)Z"⟩
abbrev cX5_gapOf : ByteArray := prog_7_method_30_code
def yX5_gapOf : MethodName := ⟨RX5, "gapOf", "(II)I"⟩
abbrev cX5_gap : ByteArray := prog_7_method_31_code
def yX5_gap : MethodName := ⟨RX5, "gap", "(II)I"⟩
abbrev cX5_edgeOf : ByteArray := prog_7_method_32_code
def yX5_edgeOf : MethodName := ⟨RX5, "edgeOf", "(II)I"⟩
abbrev cX5_edge : ByteArray := prog_7_method_33_code
def yX5_edge : MethodName := ⟨RX5, "edge", "(II)I"⟩
abbrev cX5_sumNow : ByteArray := prog_7_method_34_code
def yX5_sumNow : MethodName := ⟨RX5, "sumNow", "()I"⟩
abbrev cX5_exchange : ByteArray := prog_7_method_35_code
def yX5_exchange : MethodName := ⟨RX5, "exchange", "(II)V"⟩
abbrev cX5_swap : ByteArray := prog_7_method_36_code
def yX5_swap : MethodName := ⟨RX5, "swap", "(II)I"⟩
abbrev cX5_year : ByteArray := prog_7_method_37_code
def yX5_year : MethodName := ⟨RX5, "year", "()V"⟩
abbrev cX5_yearsGo : ByteArray := prog_7_method_38_code
def yX5_yearsGo : MethodName := ⟨RX5, "yearsGo", "(I)V"⟩
abbrev cX5_go : ByteArray := prog_7_method_39_code
def yX5_go : MethodName := ⟨RX5, "go", "(I)I"⟩
abbrev cX5_isGranted : ByteArray := prog_7_method_40_code
def yX5_isGranted : MethodName := ⟨RX5, "isGranted", "(I)Z"⟩
abbrev cX5_closePlaces : ByteArray := prog_7_method_41_code
def yX5_closePlaces : MethodName := ⟨RX5, "closePlaces", "()I"⟩
abbrev cX5_grantedOnes : ByteArray := prog_7_method_42_code
def yX5_grantedOnes : MethodName := ⟨RX5, "grantedOnes", "()I"⟩
abbrev cX5_widestGap : ByteArray := prog_7_method_43_code
def yX5_widestGap : MethodName := ⟨RX5, "widestGap", "()I"⟩
abbrev cX5_turnedOnes : ByteArray := prog_7_method_44_code
def yX5_turnedOnes : MethodName := ⟨RX5, "turnedOnes", "()I"⟩
abbrev cX5_now : ByteArray := prog_7_method_45_code
def yX5_now : MethodName := ⟨RX5, "now", "(I)I"⟩
abbrev cX5_ahead : ByteArray := prog_7_method_46_code
def yX5_ahead : MethodName := ⟨RX5, "ahead", "(III)I"⟩
abbrev cX5_sum : ByteArray := prog_7_method_47_code
def yX5_sum : MethodName := ⟨RX5, "sum", "(I)I"⟩
abbrev cX5_when : ByteArray := prog_7_method_48_code
def yX5_when : MethodName := ⟨RX5, "when", "(I)I"⟩
abbrev cX5_comes : ByteArray := prog_7_method_49_code
def yX5_comes : MethodName := ⟨RX5, "comes", "(II)I"⟩
abbrev cX5_granted : ByteArray := prog_7_method_50_code
def yX5_granted : MethodName := ⟨RX5, "granted", "(I)I"⟩
abbrev cX5_leastRest : ByteArray := prog_7_method_51_code
def yX5_leastRest : MethodName := ⟨RX5, "leastRest", "(II)I"⟩
abbrev cX5_isTabled : ByteArray := prog_7_method_52_code
def yX5_isTabled : MethodName := ⟨RX5, "isTabled", "()V"⟩
abbrev cX5_bestNext : ByteArray := prog_7_method_53_code
def yX5_bestNext : MethodName := ⟨RX5, "bestNext", "(II)I"⟩
abbrev cX5_everything : ByteArray := prog_7_method_54_code
def yX5_everything : MethodName := ⟨RX5, "everything", "()I"⟩
abbrev cX5_bestSum : ByteArray := prog_7_method_55_code
def yX5_bestSum : MethodName := ⟨RX5, "bestSum", "()I"⟩
abbrev cX5_best : ByteArray := prog_7_method_56_code
def yX5_best : MethodName := ⟨RX5, "best", "()I"⟩
abbrev cX5_bestAt : ByteArray := prog_7_method_57_code
def yX5_bestAt : MethodName := ⟨RX5, "bestAt", "(I)I"⟩
abbrev cX5_betterSwap : ByteArray := prog_7_method_58_code
def yX5_betterSwap : MethodName := ⟨RX5, "betterSwap", "()I"⟩
abbrev cX5_settle : ByteArray := prog_7_method_59_code
def yX5_settle : MethodName := ⟨RX5, "settle", "()I"⟩
abbrev cX5_cheapest : ByteArray := prog_7_method_60_code
def yX5_cheapest : MethodName := ⟨RX5, "cheapest", "(II)I"⟩
abbrev cX5_edgeFor : ByteArray := prog_7_method_61_code
def yX5_edgeFor : MethodName := ⟨RX5, "edgeFor", "(I)I"⟩
abbrev cX5_kindFor : ByteArray := prog_7_method_62_code
def yX5_kindFor : MethodName := ⟨RX5, "kindFor", "(I)I"⟩
abbrev cX5_sumTurned : ByteArray := prog_7_method_63_code
def yX5_sumTurned : MethodName := ⟨RX5, "sumTurned", "(I)I"⟩
abbrev cX5_turn : ByteArray := prog_7_method_64_code
def yX5_turn : MethodName := ⟨RX5, "turn", "(I)I"⟩
abbrev cX5_lacks : ByteArray := prog_7_method_65_code
def yX5_lacks : MethodName := ⟨RX5, "lacks", "(IZ)I"⟩
abbrev cX5_isSo : ByteArray := prog_7_method_66_code
def yX5_isSo : MethodName := ⟨RX5, "isSo", "(I)Z"⟩
abbrev cX5_fits : ByteArray := prog_7_method_67_code
def yX5_fits : MethodName := ⟨RX5, "fits", "(II)I"⟩
abbrev cX5_kinds : ByteArray := prog_7_method_68_code
def yX5_kinds : MethodName := ⟨RX5, "kinds", "(II)I"⟩
abbrev cX5_drawn : ByteArray := prog_7_method_69_code
def yX5_drawn : MethodName := ⟨RX5, "drawn", "()I"⟩
abbrev cX5_tip : ByteArray := prog_7_method_70_code
def yX5_tip : MethodName := ⟨RX5, "tip", "(I)I"⟩
abbrev cX5_isNoWorse : ByteArray := prog_7_method_71_code
def yX5_isNoWorse : MethodName := ⟨RX5, "isNoWorse", "(II)Z"⟩
abbrev cX5_odds : ByteArray := prog_7_method_72_code
def yX5_odds : MethodName := ⟨RX5, "odds", "(II)J"⟩
abbrev cX5_seed : ByteArray := prog_7_method_73_code
def yX5_seed : MethodName := ⟨RX5, "seed", "(I)I"⟩
abbrev cX5_feed : ByteArray := prog_7_method_74_code
def yX5_feed : MethodName := ⟨RX5, "feed", "(II)I"⟩
abbrev cX5_wipe : ByteArray := prog_7_method_75_code
def yX5_wipe : MethodName := ⟨RX5, "wipe", "()I"⟩
abbrev cX5_byteAt : ByteArray := prog_7_method_76_code
def yX5_byteAt : MethodName := ⟨RX5, "byteAt", "(I)I"⟩
abbrev cX5_token : ByteArray := prog_7_method_77_code
def yX5_token : MethodName := ⟨RX5, "token", "()V"⟩
abbrev cX5_isWord : ByteArray := prog_7_method_78_code
def yX5_isWord : MethodName := ⟨RX5, "isWord", "(Ljava/lang/String;)Z"⟩
abbrev cX5_must : ByteArray := prog_7_method_79_code
def yX5_must : MethodName := ⟨RX5, "must", "(Z)V"⟩
abbrev cX5_number : ByteArray := prog_7_method_80_code
def yX5_number : MethodName := ⟨RX5, "number", "(II)I"⟩
abbrev cX5_addItem : ByteArray := prog_7_method_81_code
def yX5_addItem : MethodName := ⟨RX5, "addItem", "(IIIII)V"⟩
abbrev cX5_takesWord : ByteArray := prog_7_method_82_code
def yX5_takesWord : MethodName := ⟨RX5, "takesWord", "(Ljava/lang/String;)Z"⟩
abbrev cX5_readPiece : ByteArray := prog_7_method_83_code
def yX5_readPiece : MethodName := ⟨RX5, "readPiece", "(I)V"⟩
abbrev cX5_readItem : ByteArray := prog_7_method_84_code
def yX5_readItem : MethodName := ⟨RX5, "readItem", "()V"⟩
abbrev cX5_isToldSo : ByteArray := prog_7_method_85_code
def yX5_isToldSo : MethodName := ⟨RX5, "isToldSo", "(I)V"⟩
abbrev cX5_text : ByteArray := prog_7_method_86_code
def yX5_text : MethodName := ⟨RX5, "text", "()I"⟩
abbrev cX5_isSpot : ByteArray := prog_7_method_87_code
def yX5_isSpot : MethodName := ⟨RX5, "isSpot", "(I)Z"⟩
abbrev cX5_hold : ByteArray := prog_7_method_88_code
def yX5_hold : MethodName := ⟨RX5, "hold", "(II)I"⟩
abbrev cX5_as : ByteArray := prog_7_method_89_code
def yX5_as : MethodName := ⟨RX5, "as", "(II)I"⟩
abbrev cX5_isSheet : ByteArray := prog_7_method_90_code
def yX5_isSheet : MethodName := ⟨RX5, "isSheet", "(I)Z"⟩
abbrev cX5_cutTo : ByteArray := prog_7_method_91_code
def yX5_cutTo : MethodName := ⟨RX5, "cutTo", "(II)I"⟩
abbrev cX5_sheet : ByteArray := prog_7_method_92_code
def yX5_sheet : MethodName := ⟨RX5, "sheet", "(III)I"⟩
abbrev cX5_write : ByteArray := prog_7_method_93_code
def yX5_write : MethodName := ⟨RX5, "write", "(III)I"⟩
abbrev cX5_copy : ByteArray := prog_7_method_94_code
def yX5_copy : MethodName := ⟨RX5, "copy", "(IIIII)I"⟩
abbrev cX5_above : ByteArray := prog_7_method_95_code
def yX5_above : MethodName := ⟨RX5, "above", "(I)I"⟩
abbrev cX5_isUnder : ByteArray := prog_7_method_96_code
def yX5_isUnder : MethodName := ⟨RX5, "isUnder", "(II)Z"⟩
abbrev cX5_load : ByteArray := prog_7_method_97_code
def yX5_load : MethodName := ⟨RX5, "load", "(I)I"⟩
abbrev cX5_judge : ByteArray := prog_7_method_98_code
def yX5_judge : MethodName := ⟨RX5, "judge", "(I)I"⟩
abbrev cX5_image : ByteArray := prog_7_method_99_code
def yX5_image : MethodName := ⟨RX5, "image", "()I"⟩
abbrev cX5_undo : ByteArray := prog_7_method_100_code
def yX5_undo : MethodName := ⟨RX5, "undo", "()I"⟩
abbrev cX5_tear : ByteArray := prog_7_method_101_code
def yX5_tear : MethodName := ⟨RX5, "tear", "()I"⟩
abbrev cX5_count : ByteArray := prog_7_method_102_code
def yX5_count : MethodName := ⟨RX5, "count", "(I)I"⟩
abbrev cX5_status : ByteArray := prog_7_method_103_code
def yX5_status : MethodName := ⟨RX5, "status", "(I)I"⟩
def RJ6 : String := "java/lang/Integer"
def TJ6 : u_T := fun k => match k with
  | _ => ("", "", "", false)
def tyJ6 : Nat → FieldType := fun k => match k with
  | _ => .int
abbrev wsJ60 : List Cond := u_ws RJ6 TJ6 0
theorem nmJ6 : ∀ a, a < 0 → ∀ b, b < 0 → a ≠ b → (TJ6 a).2.1 ≠ (TJ6 b).2.1 := by decide +kernel
theorem tyJ6_ok : ∀ k, k < 0 → parseFieldDescriptor (TJ6 k).2.2.1 = some (tyJ6 k) := by decide +kernel
abbrev cJ6_bitCount_0f7a4 : ByteArray := prog_8_method_49_code
def yJ6_bitCount_0f7a4 : MethodName := ⟨RJ6, "bitCount", "(I)I"⟩
def RJ9 : String := "java/lang/Math"
def TJ9 : u_T := fun k => match k with
  | _ => ("", "", "", false)
def tyJ9 : Nat → FieldType := fun k => match k with
  | _ => .int
abbrev wsJ90 : List Cond := u_ws RJ9 TJ9 0
theorem nmJ9 : ∀ a, a < 0 → ∀ b, b < 0 → a ≠ b → (TJ9 a).2.1 ≠ (TJ9 b).2.1 := by decide +kernel
theorem tyJ9_ok : ∀ k, k < 0 → parseFieldDescriptor (TJ9 k).2.2.1 = some (tyJ9 k) := by decide +kernel
abbrev cJ9_abs_0f7a4 : ByteArray := prog_9_method_59_code
def yJ9_abs_0f7a4 : MethodName := ⟨RJ9, "abs", "(I)I"⟩
abbrev cJ9_max_7cf53 : ByteArray := prog_9_method_65_code
def yJ9_max_7cf53 : MethodName := ⟨RJ9, "max", "(II)I"⟩
abbrev cJ9_min_7cf53 : ByteArray := prog_9_method_69_code
def yJ9_min_7cf53 : MethodName := ⟨RJ9, "min", "(II)I"⟩
def RJ0 : String := "java/lang/String"
def TJ0 : u_T := fun k => match k with
  | _ => ("", "", "", false)
def tyJ0 : Nat → FieldType := fun k => match k with
  | _ => .int
abbrev wsJ00 : List Cond := u_ws RJ0 TJ0 0
theorem nmJ0 : ∀ a, a < 0 → ∀ b, b < 0 → a ≠ b → (TJ0 a).2.1 ≠ (TJ0 b).2.1 := by decide +kernel
theorem tyJ0_ok : ∀ k, k < 0 → parseFieldDescriptor (TJ0 k).2.2.1 = some (tyJ0 k) := by decide +kernel
abbrev cJ0_length_8abf5 : ByteArray := prog_10_method_54_code
def yJ0_length_8abf5 : MethodName := ⟨RJ0, "length", "()I"⟩
abbrev cJ0_charAt_5068e : ByteArray := prog_10_method_56_code
def yJ0_charAt_5068e : MethodName := ⟨RJ0, "charAt", "(I)C"⟩
abbrev cJ0_coder_7d493 : ByteArray := prog_10_method_152_code
def yJ0_coder_7d493 : MethodName := ⟨RJ0, "coder", "()B"⟩
abbrev cJ0_isLatin1_aae02 : ByteArray := prog_10_method_154_code
def yJ0_isLatin1_aae02 : MethodName := ⟨RJ0, "isLatin1", "()Z"⟩
abbrev cJ0_checkIndex_df160 : ByteArray := prog_10_method_155_code
def yJ0_checkIndex_df160 : MethodName := ⟨RJ0, "checkIndex", "(II)V"⟩
def RJ1 : String := "java/lang/StringLatin1"
def TJ1 : u_T := fun k => match k with
  | _ => ("", "", "", false)
def tyJ1 : Nat → FieldType := fun k => match k with
  | _ => .int
abbrev wsJ10 : List Cond := u_ws RJ1 TJ1 0
theorem nmJ1 : ∀ a, a < 0 → ∀ b, b < 0 → a ≠ b → (TJ1 a).2.1 ≠ (TJ1 b).2.1 := by decide +kernel
theorem tyJ1_ok : ∀ k, k < 0 → parseFieldDescriptor (TJ1 k).2.2.1 = some (tyJ1 k) := by decide +kernel
abbrev cJ1_charAt_3b067 : ByteArray := prog_11_method_2_code
def yJ1_charAt_3b067 : MethodName := ⟨RJ1, "charAt", "([BI)C"⟩
def RJ2 : String := "java/lang/StringUTF16"
def TJ2 : u_T := fun k => match k with
  | _ => ("", "", "", false)
def tyJ2 : Nat → FieldType := fun k => match k with
  | _ => .int
abbrev wsJ20 : List Cond := u_ws RJ2 TJ2 0
theorem nmJ2 : ∀ a, a < 0 → ∀ b, b < 0 → a ≠ b → (TJ2 a).2.1 ≠ (TJ2 b).2.1 := by decide +kernel
theorem tyJ2_ok : ∀ k, k < 0 → parseFieldDescriptor (TJ2 k).2.2.1 = some (tyJ2 k) := by decide +kernel
abbrev cJ2_getChar_3b067 : ByteArray := prog_12_method_5_code
def yJ2_getChar_3b067 : MethodName := ⟨RJ2, "getChar", "([BI)C"⟩
abbrev cJ2_length_9d52b : ByteArray := prog_12_method_6_code
def yJ2_length_9d52b : MethodName := ⟨RJ2, "length", "([B)I"⟩
abbrev cJ2_charAt_3b067 : ByteArray := prog_12_method_83_code
def yJ2_charAt_3b067 : MethodName := ⟨RJ2, "charAt", "([BI)C"⟩
abbrev cJ2_checkIndex_2214a : ByteArray := prog_12_method_91_code
def yJ2_checkIndex_2214a : MethodName := ⟨RJ2, "checkIndex", "(I[B)V"⟩
def RJ10 : String := "java/lang/System"
def TJ10 : u_T := fun k => match k with
  | _ => ("", "", "", false)
def tyJ10 : Nat → FieldType := fun k => match k with
  | _ => .int
abbrev wsJ100 : List Cond := u_ws RJ10 TJ10 0
theorem nmJ10 : ∀ a, a < 0 → ∀ b, b < 0 → a ≠ b → (TJ10 a).2.1 ≠ (TJ10 b).2.1 := by decide +kernel
theorem tyJ10_ok : ∀ k, k < 0 → parseFieldDescriptor (TJ10 k).2.2.1 = some (tyJ10 k) := by decide +kernel
def RJ3 : String := "jdk/internal/util/Preconditions"
def TJ3 : u_T := fun k => match k with
  | _ => ("", "", "", false)
def tyJ3 : Nat → FieldType := fun k => match k with
  | _ => .int
abbrev wsJ30 : List Cond := u_ws RJ3 TJ3 0
theorem nmJ3 : ∀ a, a < 0 → ∀ b, b < 0 → a ≠ b → (TJ3 a).2.1 ≠ (TJ3 b).2.1 := by decide +kernel
theorem tyJ3_ok : ∀ k, k < 0 → parseFieldDescriptor (TJ3 k).2.2.1 = some (tyJ3 k) := by decide +kernel
abbrev cJ3_checkIndex_8e157 : ByteArray := prog_14_method_11_code
def yJ3_checkIndex_8e157 : MethodName := ⟨RJ3, "checkIndex", "(IILjava/util/function/BiFunction;)I"⟩
def RL : String := "CountyJigsawLaw"
abbrev cL_law : ByteArray := code
def yL_law : MethodName := ⟨RL, "law", "([I)Z"⟩
/-! ===== END printed: names ===== -/
abbrev classes : List vw_C := [(RX0, TX0, 4), (RX1, TX1, 11), (RX2, TX2, 3), (RX3, TX3, 5), (RX4, TX4, 8), (RX5, TX5, 21)]
end
section
/-- the tables' words that every method may rest on -/
def gG : List Cond := lw_tbl.filter goodWord
theorem mG {i : Nat} {w : Cond} (h : lw_tbl[i]? = some w) (hg : goodWord w = true) : w ∈ gG := List.mem_filter.mpr ⟨List.mem_of_getElem? h, hg⟩
theorem gG_good : ∀ w ∈ gG, goodWord w = true := fun _ h => (List.mem_filter.mp h).2
def wz (y : MethodName) (b : ByteArray) (n : Nat) (r : Option FieldType) : List Cond := .code y b n r :: gG
theorem good_wz {y : MethodName} {b : ByteArray} {n : Nat} {r : Option FieldType} (h : Cond.code y b n r ∈ gG) : GoodIn gG (wz y b n r) := by
  intro w hw
  rcases List.mem_cons.mp hw with rfl | hw
  · exact ⟨h, good_of_word (gG_good _ h)⟩
  · exact ⟨hw, good_of_word (gG_good _ hw)⟩
theorem gG_sub {args : Array Value} {s : State} (h : ∀ w ∈ lw_tbl, w.before args s = true) : ∀ w ∈ gG, w.before args s = true := fun w hw => h w (List.mem_filter.mp hw).1
theorem inG {ws : List Cond} (h : ws.all (fun w => decide (w ∈ lw_tbl) && goodWord w) = true) : ∀ w ∈ ws, w ∈ gG := fun w hw => by
  have h1 := List.all_eq_true.mp h w hw
  simp only [Bool.and_eq_true, decide_eq_true_eq] at h1
  exact List.mem_filter.mpr h1
theorem iX0 : ∀ w ∈ wsX00, w ∈ gG := inG (by decide +kernel)
theorem iX1 : ∀ w ∈ wsX10, w ∈ gG := inG (by decide +kernel)
theorem iX2 : ∀ w ∈ wsX20, w ∈ gG := inG (by decide +kernel)
theorem iX3 : ∀ w ∈ wsX30, w ∈ gG := inG (by decide +kernel)
theorem iX4 : ∀ w ∈ wsX40, w ∈ gG := inG (by decide +kernel)
theorem iX5 : ∀ w ∈ wsX50, w ∈ gG := inG (by decide +kernel)
theorem tw_0 {args : Array Value} {s : State} (h : ∀ w ∈ gG, w.before args s = true) : (Cond.selects RX4 yX4_found yX4_found).before args s = true := h _ (mG (i := 0) (by decide +kernel) rfl)
theorem tw_1 {args : Array Value} {s : State} (h : ∀ w ∈ gG, w.before args s = true) : (Cond.selects RX0 yX0_weigh yX0_weigh).before args s = true := h _ (mG (i := 1) (by decide +kernel) rfl)
theorem tw_2 {args : Array Value} {s : State} (h : ∀ w ∈ gG, w.before args s = true) : (Cond.selects RX0 yX0_fillRests yX0_fillRests).before args s = true := h _ (mG (i := 2) (by decide +kernel) rfl)
theorem tw_3 {args : Array Value} {s : State} (h : ∀ w ∈ gG, w.before args s = true) : (Cond.selects RX0 yX0_leastRest yX0_leastRest).before args s = true := h _ (mG (i := 3) (by decide +kernel) rfl)
theorem tw_4 {args : Array Value} {s : State} (h : ∀ w ∈ gG, w.before args s = true) : (Cond.selects RX0 yX0_costOfNext yX0_costOfNext).before args s = true := h _ (mG (i := 4) (by decide +kernel) rfl)
theorem tw_5 {args : Array Value} {s : State} (h : ∀ w ∈ gG, w.before args s = true) : (Cond.selects RX0 yX0_bestNext yX0_bestNext).before args s = true := h _ (mG (i := 5) (by decide +kernel) rfl)
theorem tw_6 {args : Array Value} {s : State} (h : ∀ w ∈ gG, w.before args s = true) : (Cond.selects RX4 yX4_leastExchange yX4_leastExchange).before args s = true := h _ (mG (i := 6) (by decide +kernel) rfl)
theorem tw_7 {args : Array Value} {s : State} (h : ∀ w ∈ gG, w.before args s = true) : (Cond.selects RX4 yX4_sumExchanged yX4_sumExchanged).before args s = true := h _ (mG (i := 7) (by decide +kernel) rfl)
theorem tw_8 {args : Array Value} {s : State} (h : ∀ w ∈ gG, w.before args s = true) : (Cond.selects RX4 yX4_bestValueFor yX4_bestValueFor).before args s = true := h _ (mG (i := 8) (by decide +kernel) rfl)
theorem tw_9 {args : Array Value} {s : State} (h : ∀ w ∈ gG, w.before args s = true) : (Cond.selects RX4 yX4_wrongSheet yX4_wrongSheet).before args s = true := h _ (mG (i := 9) (by decide +kernel) rfl)
theorem tw_10 {args : Array Value} {s : State} (h : ∀ w ∈ gG, w.before args s = true) : (Cond.selects RX4 yX4_trialGoesAs yX4_trialGoesAs).before args s = true := h _ (mG (i := 10) (by decide +kernel) rfl)
theorem tw_11 {args : Array Value} {s : State} (h : ∀ w ∈ gG, w.before args s = true) : (Cond.selects RX4 yX4_harmlessSwaps yX4_harmlessSwaps).before args s = true := h _ (mG (i := 11) (by decide +kernel) rfl)
theorem tw_12 {args : Array Value} {s : State} (h : ∀ w ∈ gG, w.before args s = true) : (Cond.selects RX3 yX3_step yX3_step).before args s = true := h _ (mG (i := 12) (by decide +kernel) rfl)
theorem tw_13 {args : Array Value} {s : State} (h : ∀ w ∈ gG, w.before args s = true) : (Cond.selects RX3 yX3_sortAt yX3_sortAt).before args s = true := h _ (mG (i := 13) (by decide +kernel) rfl)
theorem tw_14 {args : Array Value} {s : State} (h : ∀ w ∈ gG, w.before args s = true) : (Cond.selects RX3 yX3_readItem yX3_readItem).before args s = true := h _ (mG (i := 14) (by decide +kernel) rfl)
theorem tw_15 {args : Array Value} {s : State} (h : ∀ w ∈ gG, w.before args s = true) : (Cond.selects RX3 yX3_kindNamed yX3_kindNamed).before args s = true := h _ (mG (i := 15) (by decide +kernel) rfl)
theorem tw_16 {args : Array Value} {s : State} (h : ∀ w ∈ gG, w.before args s = true) : (Cond.selects RX3 yX3_isWord yX3_isWord).before args s = true := h _ (mG (i := 16) (by decide +kernel) rfl)
theorem tw_17 {args : Array Value} {s : State} (h : ∀ w ∈ gG, w.before args s = true) : (Cond.selects RX3 yX3_readPiece yX3_readPiece).before args s = true := h _ (mG (i := 17) (by decide +kernel) rfl)
theorem tw_18 {args : Array Value} {s : State} (h : ∀ w ∈ gG, w.before args s = true) : (Cond.selects RX3 yX3_readNumber yX3_readNumber).before args s = true := h _ (mG (i := 18) (by decide +kernel) rfl)
theorem tw_19 {args : Array Value} {s : State} (h : ∀ w ∈ gG, w.before args s = true) : (Cond.selects RX3 yX3_valueOfDigits yX3_valueOfDigits).before args s = true := h _ (mG (i := 19) (by decide +kernel) rfl)
theorem tw_20 {args : Array Value} {s : State} (h : ∀ w ∈ gG, w.before args s = true) : (Cond.selects RX3 yX3_readSwap yX3_readSwap).before args s = true := h _ (mG (i := 20) (by decide +kernel) rfl)
theorem tw_21 {args : Array Value} {s : State} (h : ∀ w ∈ gG, w.before args s = true) : (Cond.selects RX3 yX3_readLay yX3_readLay).before args s = true := h _ (mG (i := 21) (by decide +kernel) rfl)
theorem tw_22 {args : Array Value} {s : State} (h : ∀ w ∈ gG, w.before args s = true) : (Cond.selects RX4 yX4_allFindings yX4_allFindings).before args s = true := h _ (mG (i := 22) (by decide +kernel) rfl)
theorem tw_23 {args : Array Value} {s : State} (h : ∀ w ∈ gG, w.before args s = true) : (Cond.selects RX5 yX5_become yX5_become).before args s = true := h _ (mG (i := 23) (by decide +kernel) rfl)
theorem tw_24 {args : Array Value} {s : State} (h : ∀ w ∈ gG, w.before args s = true) : (Cond.selects RX5 yX5_finding yX5_finding).before args s = true := h _ (mG (i := 24) (by decide +kernel) rfl)
theorem tw_25 {args : Array Value} {s : State} (h : ∀ w ∈ gG, w.before args s = true) : (Cond.selects RX5 yX5_isCut yX5_isCut).before args s = true := h _ (mG (i := 25) (by decide +kernel) rfl)
theorem tw_26 {args : Array Value} {s : State} (h : ∀ w ∈ gG, w.before args s = true) : (Cond.selects RX5 yX5_isPiece yX5_isPiece).before args s = true := h _ (mG (i := 26) (by decide +kernel) rfl)
theorem tw_27 {args : Array Value} {s : State} (h : ∀ w ∈ gG, w.before args s = true) : (Cond.selects RX5 yX5_told yX5_told).before args s = true := h _ (mG (i := 27) (by decide +kernel) rfl)
theorem tw_28 {args : Array Value} {s : State} (h : ∀ w ∈ gG, w.before args s = true) : (Cond.selects RX5 yX5_whereLies yX5_whereLies).before args s = true := h _ (mG (i := 28) (by decide +kernel) rfl)
theorem tw_29 {args : Array Value} {s : State} (h : ∀ w ∈ gG, w.before args s = true) : (Cond.selects RX5 yX5_grows yX5_grows).before args s = true := h _ (mG (i := 29) (by decide +kernel) rfl)
theorem tw_30 {args : Array Value} {s : State} (h : ∀ w ∈ gG, w.before args s = true) : (Cond.selects RX5 yX5_pieceIs yX5_pieceIs).before args s = true := h _ (mG (i := 30) (by decide +kernel) rfl)
theorem tw_31 {args : Array Value} {s : State} (h : ∀ w ∈ gG, w.before args s = true) : (Cond.selects RX5 yX5_gapOf yX5_gapOf).before args s = true := h _ (mG (i := 31) (by decide +kernel) rfl)
theorem tw_32 {args : Array Value} {s : State} (h : ∀ w ∈ gG, w.before args s = true) : (Cond.selects RX5 yX5_side yX5_side).before args s = true := h _ (mG (i := 32) (by decide +kernel) rfl)
theorem tw_33 {args : Array Value} {s : State} (h : ∀ w ∈ gG, w.before args s = true) : (Cond.selects RX5 yX5_isSky yX5_isSky).before args s = true := h _ (mG (i := 33) (by decide +kernel) rfl)
theorem tw_34 {args : Array Value} {s : State} (h : ∀ w ∈ gG, w.before args s = true) : (Cond.selects RX5 yX5_edgeOf yX5_edgeOf).before args s = true := h _ (mG (i := 34) (by decide +kernel) rfl)
theorem tw_35 {args : Array Value} {s : State} (h : ∀ w ∈ gG, w.before args s = true) : (Cond.selects RX5 yX5_exchange yX5_exchange).before args s = true := h _ (mG (i := 35) (by decide +kernel) rfl)
theorem tw_36 {args : Array Value} {s : State} (h : ∀ w ∈ gG, w.before args s = true) : (Cond.selects RX5 yX5_sumNow yX5_sumNow).before args s = true := h _ (mG (i := 36) (by decide +kernel) rfl)
theorem tw_37 {args : Array Value} {s : State} (h : ∀ w ∈ gG, w.before args s = true) : (Cond.selects RX5 yX5_yearsGo yX5_yearsGo).before args s = true := h _ (mG (i := 37) (by decide +kernel) rfl)
theorem tw_38 {args : Array Value} {s : State} (h : ∀ w ∈ gG, w.before args s = true) : (Cond.selects RX5 yX5_year yX5_year).before args s = true := h _ (mG (i := 38) (by decide +kernel) rfl)
theorem tw_39 {args : Array Value} {s : State} (h : ∀ w ∈ gG, w.before args s = true) : (Cond.selects RX5 yX5_placeNow yX5_placeNow).before args s = true := h _ (mG (i := 39) (by decide +kernel) rfl)
theorem tw_40 {args : Array Value} {s : State} (h : ∀ w ∈ gG, w.before args s = true) : (Cond.selects RX5 yX5_closePlaces yX5_closePlaces).before args s = true := h _ (mG (i := 40) (by decide +kernel) rfl)
theorem tw_41 {args : Array Value} {s : State} (h : ∀ w ∈ gG, w.before args s = true) : (Cond.selects RX5 yX5_grantedOnes yX5_grantedOnes).before args s = true := h _ (mG (i := 41) (by decide +kernel) rfl)
theorem tw_42 {args : Array Value} {s : State} (h : ∀ w ∈ gG, w.before args s = true) : (Cond.selects RX5 yX5_isGranted yX5_isGranted).before args s = true := h _ (mG (i := 42) (by decide +kernel) rfl)
theorem tw_43 {args : Array Value} {s : State} (h : ∀ w ∈ gG, w.before args s = true) : (Cond.selects RX5 yX5_widestGap yX5_widestGap).before args s = true := h _ (mG (i := 43) (by decide +kernel) rfl)
theorem tw_44 {args : Array Value} {s : State} (h : ∀ w ∈ gG, w.before args s = true) : (Cond.selects RX5 yX5_turnedOnes yX5_turnedOnes).before args s = true := h _ (mG (i := 44) (by decide +kernel) rfl)
theorem tw_45 {args : Array Value} {s : State} (h : ∀ w ∈ gG, w.before args s = true) : (Cond.selects RX5 yX5_bestSum yX5_bestSum).before args s = true := h _ (mG (i := 45) (by decide +kernel) rfl)
theorem tw_46 {args : Array Value} {s : State} (h : ∀ w ∈ gG, w.before args s = true) : (Cond.selects RX5 yX5_isTabled yX5_isTabled).before args s = true := h _ (mG (i := 46) (by decide +kernel) rfl)
theorem tw_47 {args : Array Value} {s : State} (h : ∀ w ∈ gG, w.before args s = true) : (Cond.selects RX5 yX5_leastRest yX5_leastRest).before args s = true := h _ (mG (i := 47) (by decide +kernel) rfl)
theorem tw_48 {args : Array Value} {s : State} (h : ∀ w ∈ gG, w.before args s = true) : (Cond.selects RX5 yX5_everything yX5_everything).before args s = true := h _ (mG (i := 48) (by decide +kernel) rfl)
theorem tw_49 {args : Array Value} {s : State} (h : ∀ w ∈ gG, w.before args s = true) : (Cond.selects RX5 yX5_bestNext yX5_bestNext).before args s = true := h _ (mG (i := 49) (by decide +kernel) rfl)
theorem tw_50 {args : Array Value} {s : State} (h : ∀ w ∈ gG, w.before args s = true) : (Cond.selects RX5 yX5_betterSwap yX5_betterSwap).before args s = true := h _ (mG (i := 50) (by decide +kernel) rfl)
theorem tw_51 {args : Array Value} {s : State} (h : ∀ w ∈ gG, w.before args s = true) : (Cond.selects RX5 yX5_putBack yX5_putBack).before args s = true := h _ (mG (i := 51) (by decide +kernel) rfl)
theorem tw_52 {args : Array Value} {s : State} (h : ∀ w ∈ gG, w.before args s = true) : (Cond.selects RX5 yX5_orNone yX5_orNone).before args s = true := h _ (mG (i := 52) (by decide +kernel) rfl)
theorem tw_53 {args : Array Value} {s : State} (h : ∀ w ∈ gG, w.before args s = true) : (Cond.selects RX5 yX5_cheapest yX5_cheapest).before args s = true := h _ (mG (i := 53) (by decide +kernel) rfl)
theorem tw_54 {args : Array Value} {s : State} (h : ∀ w ∈ gG, w.before args s = true) : (Cond.selects RX5 yX5_sumTurned yX5_sumTurned).before args s = true := h _ (mG (i := 54) (by decide +kernel) rfl)
theorem tw_55 {args : Array Value} {s : State} (h : ∀ w ∈ gG, w.before args s = true) : (Cond.selects RX5 yX5_lacks yX5_lacks).before args s = true := h _ (mG (i := 55) (by decide +kernel) rfl)
theorem tw_56 {args : Array Value} {s : State} (h : ∀ w ∈ gG, w.before args s = true) : (Cond.selects RX5 yX5_isSo yX5_isSo).before args s = true := h _ (mG (i := 56) (by decide +kernel) rfl)
theorem tw_57 {args : Array Value} {s : State} (h : ∀ w ∈ gG, w.before args s = true) : (Cond.selects RX5 yX5_drawn yX5_drawn).before args s = true := h _ (mG (i := 57) (by decide +kernel) rfl)
theorem tw_58 {args : Array Value} {s : State} (h : ∀ w ∈ gG, w.before args s = true) : (Cond.selects RX5 yX5_isNoWorse yX5_isNoWorse).before args s = true := h _ (mG (i := 58) (by decide +kernel) rfl)
theorem tw_59 {args : Array Value} {s : State} (h : ∀ w ∈ gG, w.before args s = true) : (Cond.selects RX5 yX5_token yX5_token).before args s = true := h _ (mG (i := 59) (by decide +kernel) rfl)
theorem tw_60 {args : Array Value} {s : State} (h : ∀ w ∈ gG, w.before args s = true) : (Cond.selects RX5 yX5_byteAt yX5_byteAt).before args s = true := h _ (mG (i := 60) (by decide +kernel) rfl)
theorem tw_61 {args : Array Value} {s : State} (h : ∀ w ∈ gG, w.before args s = true) : (Cond.selects RX5 yX5_readItem yX5_readItem).before args s = true := h _ (mG (i := 61) (by decide +kernel) rfl)
theorem tw_62 {args : Array Value} {s : State} (h : ∀ w ∈ gG, w.before args s = true) : (Cond.selects RX5 yX5_isWord yX5_isWord).before args s = true := h _ (mG (i := 62) (by decide +kernel) rfl)
theorem tw_63 {args : Array Value} {s : State} (h : ∀ w ∈ gG, w.before args s = true) : (Cond.selects RX5 yX5_readPiece yX5_readPiece).before args s = true := h _ (mG (i := 63) (by decide +kernel) rfl)
theorem tw_64 {args : Array Value} {s : State} (h : ∀ w ∈ gG, w.before args s = true) : (Cond.selects RX5 yX5_must yX5_must).before args s = true := h _ (mG (i := 64) (by decide +kernel) rfl)
theorem tw_65 {args : Array Value} {s : State} (h : ∀ w ∈ gG, w.before args s = true) : (Cond.selects RX5 yX5_number yX5_number).before args s = true := h _ (mG (i := 65) (by decide +kernel) rfl)
theorem tw_66 {args : Array Value} {s : State} (h : ∀ w ∈ gG, w.before args s = true) : (Cond.selects RX5 yX5_takesWord yX5_takesWord).before args s = true := h _ (mG (i := 66) (by decide +kernel) rfl)
theorem tw_67 {args : Array Value} {s : State} (h : ∀ w ∈ gG, w.before args s = true) : (Cond.selects RX5 yX5_addItem yX5_addItem).before args s = true := h _ (mG (i := 67) (by decide +kernel) rfl)
theorem tw_68 {args : Array Value} {s : State} (h : ∀ w ∈ gG, w.before args s = true) : (Cond.selects RX5 yX5_isToldSo yX5_isToldSo).before args s = true := h _ (mG (i := 68) (by decide +kernel) rfl)
theorem tw_69 {args : Array Value} {s : State} (h : ∀ w ∈ gG, w.before args s = true) : (Cond.initialized RL).before args s = true := h _ (mG (i := 69) (by decide +kernel) rfl)
theorem tw_70 {args : Array Value} {s : State} (h : ∀ w ∈ gG, w.before args s = true) : (Cond.initialized RX4).before args s = true := h _ (mG (i := 70) (by decide +kernel) rfl)
theorem tw_71 {args : Array Value} {s : State} (h : ∀ w ∈ gG, w.before args s = true) : (Cond.initialized RX1).before args s = true := h _ (mG (i := 71) (by decide +kernel) rfl)
theorem tw_72 {args : Array Value} {s : State} (h : ∀ w ∈ gG, w.before args s = true) : (Cond.initialized RX0).before args s = true := h _ (mG (i := 72) (by decide +kernel) rfl)
theorem tw_73 {args : Array Value} {s : State} (h : ∀ w ∈ gG, w.before args s = true) : (Cond.initialized RX3).before args s = true := h _ (mG (i := 73) (by decide +kernel) rfl)
theorem tw_74 {args : Array Value} {s : State} (h : ∀ w ∈ gG, w.before args s = true) : (Cond.initialized RX2).before args s = true := h _ (mG (i := 74) (by decide +kernel) rfl)
theorem tw_75 {args : Array Value} {s : State} (h : ∀ w ∈ gG, w.before args s = true) : (Cond.initialized RX5).before args s = true := h _ (mG (i := 75) (by decide +kernel) rfl)
theorem tw_76 {args : Array Value} {s : State} (h : ∀ w ∈ gG, w.before args s = true) : (Cond.initialized RJ9).before args s = true := h _ (mG (i := 76) (by decide +kernel) rfl)
theorem tw_77 {args : Array Value} {s : State} (h : ∀ w ∈ gG, w.before args s = true) : (Cond.initialized RJ10).before args s = true := h _ (mG (i := 77) (by decide +kernel) rfl)
theorem tw_78 {args : Array Value} {s : State} (h : ∀ w ∈ gG, w.before args s = true) : (Cond.initialized RJ6).before args s = true := h _ (mG (i := 78) (by decide +kernel) rfl)
theorem tw_79 {args : Array Value} {s : State} (h : ∀ w ∈ gG, w.before args s = true) : (Cond.initialized RJ0).before args s = true := h _ (mG (i := 79) (by decide +kernel) rfl)
theorem tw_80 {args : Array Value} {s : State} (h : ∀ w ∈ gG, w.before args s = true) : (Cond.initialized RJ1).before args s = true := h _ (mG (i := 80) (by decide +kernel) rfl)
theorem tw_81 {args : Array Value} {s : State} (h : ∀ w ∈ gG, w.before args s = true) : (Cond.initialized RJ3).before args s = true := h _ (mG (i := 81) (by decide +kernel) rfl)
theorem tw_82 {args : Array Value} {s : State} (h : ∀ w ∈ gG, w.before args s = true) : (Cond.initialized RJ2).before args s = true := h _ (mG (i := 82) (by decide +kernel) rfl)
theorem tw_83 {args : Array Value} {s : State} (h : ∀ w ∈ gG, w.before args s = true) : (Cond.classLink RL 7 RX4).before args s = true := h _ (mG (i := 83) (by decide +kernel) rfl)
theorem tw_84 {args : Array Value} {s : State} (h : ∀ w ∈ gG, w.before args s = true) : (Cond.instantiable RX4 8).before args s = true := h _ (mG (i := 84) (by decide +kernel) rfl)
theorem tw_85 {args : Array Value} {s : State} (h : ∀ w ∈ gG, w.before args s = true) : (Cond.methodLink RL 9 yX4_init).before args s = true := h _ (mG (i := 85) (by decide +kernel) rfl)
theorem tw_86 {args : Array Value} {s : State} (h : ∀ w ∈ gG, w.before args s = true) : (Cond.instanceMethod yX4_init).before args s = true := h _ (mG (i := 86) (by decide +kernel) rfl)
theorem mw_87 : Cond.code yX4_init cX4_init 2 none ∈ gG := mG (i := 87) (by decide +kernel) rfl
theorem tw_87 {args : Array Value} {s : State} (h : ∀ w ∈ gG, w.before args s = true) : (Cond.code yX4_init cX4_init 2 none).before args s = true := h _ mw_87
theorem tw_88 {args : Array Value} {s : State} (h : ∀ w ∈ gG, w.before args s = true) : (Cond.methodLink RX4 1 objectInit).before args s = true := h _ (mG (i := 88) (by decide +kernel) rfl)
theorem tw_89 {args : Array Value} {s : State} (h : ∀ w ∈ gG, w.before args s = true) : (Cond.instanceMethod objectInit).before args s = true := h _ (mG (i := 89) (by decide +kernel) rfl)
theorem mw_90 : Cond.code objectInit ⟨#[0xb1]⟩ 1 none ∈ gG := mG (i := 90) (by decide +kernel) rfl
theorem tw_90 {args : Array Value} {s : State} (h : ∀ w ∈ gG, w.before args s = true) : (Cond.code objectInit ⟨#[0xb1]⟩ 1 none).before args s = true := h _ mw_90
theorem tw_91 {args : Array Value} {s : State} (h : ∀ w ∈ gG, w.before args s = true) : (Cond.classLink RX4 7 RX1).before args s = true := h _ (mG (i := 91) (by decide +kernel) rfl)
theorem tw_92 {args : Array Value} {s : State} (h : ∀ w ∈ gG, w.before args s = true) : (Cond.instantiable RX1 11).before args s = true := h _ (mG (i := 92) (by decide +kernel) rfl)
theorem tw_93 {args : Array Value} {s : State} (h : ∀ w ∈ gG, w.before args s = true) : (Cond.methodLink RX4 9 yX1_init).before args s = true := h _ (mG (i := 93) (by decide +kernel) rfl)
theorem tw_94 {args : Array Value} {s : State} (h : ∀ w ∈ gG, w.before args s = true) : (Cond.instanceMethod yX1_init).before args s = true := h _ (mG (i := 94) (by decide +kernel) rfl)
theorem mw_95 : Cond.code yX1_init cX1_init 2 none ∈ gG := mG (i := 95) (by decide +kernel) rfl
theorem tw_95 {args : Array Value} {s : State} (h : ∀ w ∈ gG, w.before args s = true) : (Cond.code yX1_init cX1_init 2 none).before args s = true := h _ mw_95
theorem tw_96 {args : Array Value} {s : State} (h : ∀ w ∈ gG, w.before args s = true) : (Cond.methodLink RX1 3 objectInit).before args s = true := h _ (mG (i := 96) (by decide +kernel) rfl)
theorem tw_97 {args : Array Value} {s : State} (h : ∀ w ∈ gG, w.before args s = true) : (Cond.fieldLink RX1 9 "CountyJigsaw$County" "kind" "[I").before args s = true := h _ (mG (i := 97) (by decide +kernel) rfl)
theorem tw_98 {args : Array Value} {s : State} (h : ∀ w ∈ gG, w.before args s = true) : (Cond.fieldLink RX4 176 "CountyJigsaw$County" "kind" "[I").before args s = true := h _ (mG (i := 98) (by decide +kernel) rfl)
theorem tw_99 {args : Array Value} {s : State} (h : ∀ w ∈ gG, w.before args s = true) : (Cond.fieldLink RX1 15 "CountyJigsaw$County" "left" "[I").before args s = true := h _ (mG (i := 99) (by decide +kernel) rfl)
theorem tw_100 {args : Array Value} {s : State} (h : ∀ w ∈ gG, w.before args s = true) : (Cond.fieldLink RX4 166 "CountyJigsaw$County" "left" "[I").before args s = true := h _ (mG (i := 100) (by decide +kernel) rfl)
theorem tw_101 {args : Array Value} {s : State} (h : ∀ w ∈ gG, w.before args s = true) : (Cond.fieldLink RX1 18 "CountyJigsaw$County" "right" "[I").before args s = true := h _ (mG (i := 101) (by decide +kernel) rfl)
theorem tw_102 {args : Array Value} {s : State} (h : ∀ w ∈ gG, w.before args s = true) : (Cond.fieldLink RX4 169 "CountyJigsaw$County" "right" "[I").before args s = true := h _ (mG (i := 102) (by decide +kernel) rfl)
theorem tw_103 {args : Array Value} {s : State} (h : ∀ w ∈ gG, w.before args s = true) : (Cond.fieldLink RX1 21 "CountyJigsaw$County" "want" "[I").before args s = true := h _ (mG (i := 103) (by decide +kernel) rfl)
theorem tw_104 {args : Array Value} {s : State} (h : ∀ w ∈ gG, w.before args s = true) : (Cond.fieldLink RX3 72 "CountyJigsaw$County" "want" "[I").before args s = true := h _ (mG (i := 104) (by decide +kernel) rfl)
theorem tw_105 {args : Array Value} {s : State} (h : ∀ w ∈ gG, w.before args s = true) : (Cond.fieldLink RX1 24 "CountyJigsaw$County" "row" "[I").before args s = true := h _ (mG (i := 105) (by decide +kernel) rfl)
theorem tw_106 {args : Array Value} {s : State} (h : ∀ w ∈ gG, w.before args s = true) : (Cond.fieldLink RX4 90 "CountyJigsaw$County" "row" "[I").before args s = true := h _ (mG (i := 106) (by decide +kernel) rfl)
theorem tw_107 {args : Array Value} {s : State} (h : ∀ w ∈ gG, w.before args s = true) : (Cond.fieldLink RX1 27 "CountyJigsaw$County" "swaps" "[I").before args s = true := h _ (mG (i := 107) (by decide +kernel) rfl)
theorem tw_108 {args : Array Value} {s : State} (h : ∀ w ∈ gG, w.before args s = true) : (Cond.fieldLink RX4 58 "CountyJigsaw$County" "swaps" "[I").before args s = true := h _ (mG (i := 108) (by decide +kernel) rfl)
theorem tw_109 {args : Array Value} {s : State} (h : ∀ w ∈ gG, w.before args s = true) : (Cond.fieldLink RX3 79 "CountyJigsaw$County" "swaps" "[I").before args s = true := h _ (mG (i := 109) (by decide +kernel) rfl)
theorem tw_110 {args : Array Value} {s : State} (h : ∀ w ∈ gG, w.before args s = true) : (Cond.fieldLink RX1 30 "CountyJigsaw$County" "spots" "[I").before args s = true := h _ (mG (i := 110) (by decide +kernel) rfl)
theorem tw_111 {args : Array Value} {s : State} (h : ∀ w ∈ gG, w.before args s = true) : (Cond.fieldLink RX4 204 "CountyJigsaw$County" "spots" "[I").before args s = true := h _ (mG (i := 111) (by decide +kernel) rfl)
theorem tw_112 {args : Array Value} {s : State} (h : ∀ w ∈ gG, w.before args s = true) : (Cond.fieldLink RX1 43 "CountyJigsaw$County" "turned" "I").before args s = true := h _ (mG (i := 112) (by decide +kernel) rfl)
theorem tw_113 {args : Array Value} {s : State} (h : ∀ w ∈ gG, w.before args s = true) : (Cond.fieldLink RX3 77 "CountyJigsaw$County" "turned" "I").before args s = true := h _ (mG (i := 113) (by decide +kernel) rfl)
theorem tw_114 {args : Array Value} {s : State} (h : ∀ w ∈ gG, w.before args s = true) : (Cond.fieldLink RX4 124 "CountyJigsaw$County" "turned" "I").before args s = true := h _ (mG (i := 114) (by decide +kernel) rfl)
theorem tw_115 {args : Array Value} {s : State} (h : ∀ w ∈ gG, w.before args s = true) : (Cond.fieldLink RX0 24 "CountyJigsaw$County" "pieces" "I").before args s = true := h _ (mG (i := 115) (by decide +kernel) rfl)
theorem tw_116 {args : Array Value} {s : State} (h : ∀ w ∈ gG, w.before args s = true) : (Cond.fieldLink RX1 46 "CountyJigsaw$County" "pieces" "I").before args s = true := h _ (mG (i := 116) (by decide +kernel) rfl)
theorem tw_117 {args : Array Value} {s : State} (h : ∀ w ∈ gG, w.before args s = true) : (Cond.fieldLink RX4 67 "CountyJigsaw$County" "pieces" "I").before args s = true := h _ (mG (i := 117) (by decide +kernel) rfl)
theorem tw_118 {args : Array Value} {s : State} (h : ∀ w ∈ gG, w.before args s = true) : (Cond.fieldLink RX3 57 "CountyJigsaw$County" "pieces" "I").before args s = true := h _ (mG (i := 118) (by decide +kernel) rfl)
theorem tw_119 {args : Array Value} {s : State} (h : ∀ w ∈ gG, w.before args s = true) : (Cond.fieldLink RX1 49 "CountyJigsaw$County" "year" "I").before args s = true := h _ (mG (i := 119) (by decide +kernel) rfl)
theorem tw_120 {args : Array Value} {s : State} (h : ∀ w ∈ gG, w.before args s = true) : (Cond.fieldLink RX4 107 "CountyJigsaw$County" "year" "I").before args s = true := h _ (mG (i := 120) (by decide +kernel) rfl)
theorem tw_121 {args : Array Value} {s : State} (h : ∀ w ∈ gG, w.before args s = true) : (Cond.fieldLink RX1 33 "CountyJigsaw$County" "z" "I").before args s = true := h _ (mG (i := 121) (by decide +kernel) rfl)
theorem tw_122 {args : Array Value} {s : State} (h : ∀ w ∈ gG, w.before args s = true) : (Cond.fieldLink RX4 189 "CountyJigsaw$County" "z" "I").before args s = true := h _ (mG (i := 122) (by decide +kernel) rfl)
theorem tw_146 {args : Array Value} {s : State} (h : ∀ w ∈ gG, w.before args s = true) : (Cond.arrayClass .int).before args s = true := h _ (mG (i := 146) (by decide +kernel) rfl)
theorem tw_147 {args : Array Value} {s : State} (h : ∀ w ∈ gG, w.before args s = true) : (Cond.classLink RX4 22 RX0).before args s = true := h _ (mG (i := 147) (by decide +kernel) rfl)
theorem tw_148 {args : Array Value} {s : State} (h : ∀ w ∈ gG, w.before args s = true) : (Cond.instantiable RX0 4).before args s = true := h _ (mG (i := 148) (by decide +kernel) rfl)
theorem tw_150 {args : Array Value} {s : State} (h : ∀ w ∈ gG, w.before args s = true) : (Cond.instanceMethod yX0_init).before args s = true := h _ (mG (i := 150) (by decide +kernel) rfl)
theorem mw_151 : Cond.code yX0_init cX0_init 1 none ∈ gG := mG (i := 151) (by decide +kernel) rfl
theorem tw_151 {args : Array Value} {s : State} (h : ∀ w ∈ gG, w.before args s = true) : (Cond.code yX0_init cX0_init 1 none).before args s = true := h _ mw_151
theorem tw_152 {args : Array Value} {s : State} (h : ∀ w ∈ gG, w.before args s = true) : (Cond.methodLink RX0 3 objectInit).before args s = true := h _ (mG (i := 152) (by decide +kernel) rfl)
theorem tw_153 {args : Array Value} {s : State} (h : ∀ w ∈ gG, w.before args s = true) : (Cond.fieldLink RX0 9 "CountyJigsaw$BestLaying" "gaps" "[I").before args s = true := h _ (mG (i := 153) (by decide +kernel) rfl)
theorem tw_154 {args : Array Value} {s : State} (h : ∀ w ∈ gG, w.before args s = true) : (Cond.fieldLink RX0 15 "CountyJigsaw$BestLaying" "firstEdges" "[I").before args s = true := h _ (mG (i := 154) (by decide +kernel) rfl)
theorem tw_155 {args : Array Value} {s : State} (h : ∀ w ∈ gG, w.before args s = true) : (Cond.fieldLink RX0 18 "CountyJigsaw$BestLaying" "lastEdges" "[I").before args s = true := h _ (mG (i := 155) (by decide +kernel) rfl)
theorem tw_156 {args : Array Value} {s : State} (h : ∀ w ∈ gG, w.before args s = true) : (Cond.fieldLink RX0 21 "CountyJigsaw$BestLaying" "rests" "[I").before args s = true := h _ (mG (i := 156) (by decide +kernel) rfl)
theorem tw_166 {args : Array Value} {s : State} (h : ∀ w ∈ gG, w.before args s = true) : (Cond.classLink RX4 29 RX3).before args s = true := h _ (mG (i := 166) (by decide +kernel) rfl)
theorem tw_167 {args : Array Value} {s : State} (h : ∀ w ∈ gG, w.before args s = true) : (Cond.instantiable RX3 5).before args s = true := h _ (mG (i := 167) (by decide +kernel) rfl)
theorem tw_169 {args : Array Value} {s : State} (h : ∀ w ∈ gG, w.before args s = true) : (Cond.instanceMethod yX3_init).before args s = true := h _ (mG (i := 169) (by decide +kernel) rfl)
theorem mw_170 : Cond.code yX3_init cX3_init 1 none ∈ gG := mG (i := 170) (by decide +kernel) rfl
theorem tw_170 {args : Array Value} {s : State} (h : ∀ w ∈ gG, w.before args s = true) : (Cond.code yX3_init cX3_init 1 none).before args s = true := h _ mw_170
theorem tw_171 {args : Array Value} {s : State} (h : ∀ w ∈ gG, w.before args s = true) : (Cond.methodLink RX3 3 objectInit).before args s = true := h _ (mG (i := 171) (by decide +kernel) rfl)
theorem tw_172 {args : Array Value} {s : State} (h : ∀ w ∈ gG, w.before args s = true) : (Cond.fieldLink RX3 9 "CountyJigsaw$Tape" "bytes" "[I").before args s = true := h _ (mG (i := 172) (by decide +kernel) rfl)
theorem tw_173 {args : Array Value} {s : State} (h : ∀ w ∈ gG, w.before args s = true) : (Cond.fieldLink RX3 15 "CountyJigsaw$Tape" "length" "I").before args s = true := h _ (mG (i := 173) (by decide +kernel) rfl)
theorem tw_174 {args : Array Value} {s : State} (h : ∀ w ∈ gG, w.before args s = true) : (Cond.fieldLink RX4 192 "CountyJigsaw$Tape" "length" "I").before args s = true := h _ (mG (i := 174) (by decide +kernel) rfl)
theorem tw_175 {args : Array Value} {s : State} (h : ∀ w ∈ gG, w.before args s = true) : (Cond.fieldLink RX3 32 "CountyJigsaw$Tape" "sort" "I").before args s = true := h _ (mG (i := 175) (by decide +kernel) rfl)
theorem tw_176 {args : Array Value} {s : State} (h : ∀ w ∈ gG, w.before args s = true) : (Cond.fieldLink RX3 29 "CountyJigsaw$Tape" "begin" "I").before args s = true := h _ (mG (i := 176) (by decide +kernel) rfl)
theorem tw_177 {args : Array Value} {s : State} (h : ∀ w ∈ gG, w.before args s = true) : (Cond.fieldLink RX3 19 "CountyJigsaw$Tape" "end" "I").before args s = true := h _ (mG (i := 177) (by decide +kernel) rfl)
theorem tw_189 {args : Array Value} {s : State} (h : ∀ w ∈ gG, w.before args s = true) : (Cond.classLink RX4 36 RX2).before args s = true := h _ (mG (i := 189) (by decide +kernel) rfl)
theorem tw_191 {args : Array Value} {s : State} (h : ∀ w ∈ gG, w.before args s = true) : (Cond.instantiable RX2 3).before args s = true := h _ (mG (i := 191) (by decide +kernel) rfl)
theorem tw_193 {args : Array Value} {s : State} (h : ∀ w ∈ gG, w.before args s = true) : (Cond.instanceMethod yX2_init).before args s = true := h _ (mG (i := 193) (by decide +kernel) rfl)
theorem mw_194 : Cond.code yX2_init cX2_init 1 none ∈ gG := mG (i := 194) (by decide +kernel) rfl
theorem tw_194 {args : Array Value} {s : State} (h : ∀ w ∈ gG, w.before args s = true) : (Cond.code yX2_init cX2_init 1 none).before args s = true := h _ mw_194
theorem tw_195 {args : Array Value} {s : State} (h : ∀ w ∈ gG, w.before args s = true) : (Cond.methodLink RX2 3 objectInit).before args s = true := h _ (mG (i := 195) (by decide +kernel) rfl)
theorem tw_196 {args : Array Value} {s : State} (h : ∀ w ∈ gG, w.before args s = true) : (Cond.fieldLink RX2 9 "CountyJigsaw$Sheet" "numbers" "[I").before args s = true := h _ (mG (i := 196) (by decide +kernel) rfl)
theorem tw_197 {args : Array Value} {s : State} (h : ∀ w ∈ gG, w.before args s = true) : (Cond.fieldLink RX4 228 "CountyJigsaw$Sheet" "numbers" "[I").before args s = true := h _ (mG (i := 197) (by decide +kernel) rfl)
theorem tw_198 {args : Array Value} {s : State} (h : ∀ w ∈ gG, w.before args s = true) : (Cond.fieldLink RX2 15 "CountyJigsaw$Sheet" "bits" "I").before args s = true := h _ (mG (i := 198) (by decide +kernel) rfl)
theorem tw_199 {args : Array Value} {s : State} (h : ∀ w ∈ gG, w.before args s = true) : (Cond.fieldLink RX4 222 "CountyJigsaw$Sheet" "bits" "I").before args s = true := h _ (mG (i := 199) (by decide +kernel) rfl)
theorem tw_200 {args : Array Value} {s : State} (h : ∀ w ∈ gG, w.before args s = true) : (Cond.fieldLink RX2 19 "CountyJigsaw$Sheet" "size" "I").before args s = true := h _ (mG (i := 200) (by decide +kernel) rfl)
theorem tw_201 {args : Array Value} {s : State} (h : ∀ w ∈ gG, w.before args s = true) : (Cond.fieldLink RX4 216 "CountyJigsaw$Sheet" "size" "I").before args s = true := h _ (mG (i := 201) (by decide +kernel) rfl)
theorem tw_209 {args : Array Value} {s : State} (h : ∀ w ∈ gG, w.before args s = true) : (Cond.fieldLink RX4 10 "CountyJigsaw" "county" "LCountyJigsaw$County;").before args s = true := h _ (mG (i := 209) (by decide +kernel) rfl)
theorem tw_210 {args : Array Value} {s : State} (h : ∀ w ∈ gG, w.before args s = true) : (Cond.fieldLink RX4 16 "CountyJigsaw" "kept" "LCountyJigsaw$County;").before args s = true := h _ (mG (i := 210) (by decide +kernel) rfl)
theorem tw_211 {args : Array Value} {s : State} (h : ∀ w ∈ gG, w.before args s = true) : (Cond.fieldLink RX4 19 "CountyJigsaw" "trial" "LCountyJigsaw$County;").before args s = true := h _ (mG (i := 211) (by decide +kernel) rfl)
theorem tw_212 {args : Array Value} {s : State} (h : ∀ w ∈ gG, w.before args s = true) : (Cond.fieldLink RX4 25 "CountyJigsaw" "laying" "LCountyJigsaw$BestLaying;").before args s = true := h _ (mG (i := 212) (by decide +kernel) rfl)
theorem tw_213 {args : Array Value} {s : State} (h : ∀ w ∈ gG, w.before args s = true) : (Cond.fieldLink RX4 32 "CountyJigsaw" "tape" "LCountyJigsaw$Tape;").before args s = true := h _ (mG (i := 213) (by decide +kernel) rfl)
theorem tw_214 {args : Array Value} {s : State} (h : ∀ w ∈ gG, w.before args s = true) : (Cond.fieldLink RX4 38 "CountyJigsaw" "sheets" "[LCountyJigsaw$Sheet;").before args s = true := h _ (mG (i := 214) (by decide +kernel) rfl)
theorem tw_215 {args : Array Value} {s : State} (h : ∀ w ∈ gG, w.before args s = true) : (Cond.fieldLink RX4 42 "CountyJigsaw" "findings" "[I").before args s = true := h _ (mG (i := 215) (by decide +kernel) rfl)
theorem tw_216 {args : Array Value} {s : State} (h : ∀ w ∈ gG, w.before args s = true) : (Cond.fieldLink RX4 237 "CountyJigsaw" "isKept" "Z").before args s = true := h _ (mG (i := 216) (by decide +kernel) rfl)
theorem tw_234 {args : Array Value} {s : State} (h : ∀ w ∈ gG, w.before args s = true) : (Cond.methodLink RL 13 yX4_list).before args s = true := h _ (mG (i := 234) (by decide +kernel) rfl)
theorem tw_235 {args : Array Value} {s : State} (h : ∀ w ∈ gG, w.before args s = true) : (Cond.instanceMethod yX4_list).before args s = true := h _ (mG (i := 235) (by decide +kernel) rfl)
theorem tw_236 {args : Array Value} {s : State} (h : ∀ w ∈ gG, w.before args s = true) : (Cond.selects RX4 yX4_list yX4_list).before args s = true := h _ (mG (i := 236) (by decide +kernel) rfl)
theorem mw_237 : Cond.code yX4_list cX4_list 5 (some .int) ∈ gG := mG (i := 237) (by decide +kernel) rfl
theorem tw_237 {args : Array Value} {s : State} (h : ∀ w ∈ gG, w.before args s = true) : (Cond.code yX4_list cX4_list 5 (some .int)).before args s = true := h _ mw_237
theorem tw_238 {args : Array Value} {s : State} (h : ∀ w ∈ gG, w.before args s = true) : (Cond.methodLink RX4 47 yX4_isListPlace).before args s = true := h _ (mG (i := 238) (by decide +kernel) rfl)
theorem tw_239 {args : Array Value} {s : State} (h : ∀ w ∈ gG, w.before args s = true) : (Cond.static yX4_isListPlace).before args s = true := h _ (mG (i := 239) (by decide +kernel) rfl)
theorem mw_240 : Cond.code yX4_isListPlace cX4_isListPlace 1 (some .boolean) ∈ gG := mG (i := 240) (by decide +kernel) rfl
theorem tw_240 {args : Array Value} {s : State} (h : ∀ w ∈ gG, w.before args s = true) : (Cond.code yX4_isListPlace cX4_isListPlace 1 (some .boolean)).before args s = true := h _ mw_240
theorem tw_241 {args : Array Value} {s : State} (h : ∀ w ∈ gG, w.before args s = true) : (Cond.methodLink RX4 51 yX4_isPlace).before args s = true := h _ (mG (i := 241) (by decide +kernel) rfl)
theorem tw_242 {args : Array Value} {s : State} (h : ∀ w ∈ gG, w.before args s = true) : (Cond.static yX4_isPlace).before args s = true := h _ (mG (i := 242) (by decide +kernel) rfl)
theorem mw_243 : Cond.code yX4_isPlace cX4_isPlace 1 (some .boolean) ∈ gG := mG (i := 243) (by decide +kernel) rfl
theorem tw_243 {args : Array Value} {s : State} (h : ∀ w ∈ gG, w.before args s = true) : (Cond.code yX4_isPlace cX4_isPlace 1 (some .boolean)).before args s = true := h _ mw_243
theorem tw_244 {args : Array Value} {s : State} (h : ∀ w ∈ gG, w.before args s = true) : (Cond.methodLink RX4 54 yX4_found).before args s = true := h _ (mG (i := 244) (by decide +kernel) rfl)
theorem tw_246 {args : Array Value} {s : State} (h : ∀ w ∈ gG, w.before args s = true) : (Cond.instanceMethod yX4_found).before args s = true := h _ (mG (i := 246) (by decide +kernel) rfl)
theorem mw_247 : Cond.code yX4_found cX4_found 2 (some .int) ∈ gG := mG (i := 247) (by decide +kernel) rfl
theorem tw_247 {args : Array Value} {s : State} (h : ∀ w ∈ gG, w.before args s = true) : (Cond.code yX4_found cX4_found 2 (some .int)).before args s = true := h _ mw_247
theorem tw_248 {args : Array Value} {s : State} (h : ∀ w ∈ gG, w.before args s = true) : (Cond.constant RX4 247 (-1000001)).before args s = true := h _ (mG (i := 248) (by decide +kernel) rfl)
theorem tw_249 {args : Array Value} {s : State} (h : ∀ w ∈ gG, w.before args s = true) : (Cond.methodLink RL 18 yX4_listed).before args s = true := h _ (mG (i := 249) (by decide +kernel) rfl)
theorem tw_250 {args : Array Value} {s : State} (h : ∀ w ∈ gG, w.before args s = true) : (Cond.instanceMethod yX4_listed).before args s = true := h _ (mG (i := 250) (by decide +kernel) rfl)
theorem tw_251 {args : Array Value} {s : State} (h : ∀ w ∈ gG, w.before args s = true) : (Cond.selects RX4 yX4_listed yX4_listed).before args s = true := h _ (mG (i := 251) (by decide +kernel) rfl)
theorem mw_252 : Cond.code yX4_listed cX4_listed 2 (some .int) ∈ gG := mG (i := 252) (by decide +kernel) rfl
theorem tw_252 {args : Array Value} {s : State} (h : ∀ w ∈ gG, w.before args s = true) : (Cond.code yX4_listed cX4_listed 2 (some .int)).before args s = true := h _ mw_252
theorem tw_253 {args : Array Value} {s : State} (h : ∀ w ∈ gG, w.before args s = true) : (Cond.methodLink RL 23 yX4_piece).before args s = true := h _ (mG (i := 253) (by decide +kernel) rfl)
theorem tw_254 {args : Array Value} {s : State} (h : ∀ w ∈ gG, w.before args s = true) : (Cond.instanceMethod yX4_piece).before args s = true := h _ (mG (i := 254) (by decide +kernel) rfl)
theorem tw_255 {args : Array Value} {s : State} (h : ∀ w ∈ gG, w.before args s = true) : (Cond.selects RX4 yX4_piece yX4_piece).before args s = true := h _ (mG (i := 255) (by decide +kernel) rfl)
theorem mw_256 : Cond.code yX4_piece cX4_piece 4 (some .int) ∈ gG := mG (i := 256) (by decide +kernel) rfl
theorem tw_256 {args : Array Value} {s : State} (h : ∀ w ∈ gG, w.before args s = true) : (Cond.code yX4_piece cX4_piece 4 (some .int)).before args s = true := h _ mw_256
theorem tw_257 {args : Array Value} {s : State} (h : ∀ w ∈ gG, w.before args s = true) : (Cond.methodLink RX4 61 yX4_isKind).before args s = true := h _ (mG (i := 257) (by decide +kernel) rfl)
theorem tw_258 {args : Array Value} {s : State} (h : ∀ w ∈ gG, w.before args s = true) : (Cond.static yX4_isKind).before args s = true := h _ (mG (i := 258) (by decide +kernel) rfl)
theorem mw_259 : Cond.code yX4_isKind cX4_isKind 1 (some .boolean) ∈ gG := mG (i := 259) (by decide +kernel) rfl
theorem tw_259 {args : Array Value} {s : State} (h : ∀ w ∈ gG, w.before args s = true) : (Cond.code yX4_isKind cX4_isKind 1 (some .boolean)).before args s = true := h _ mw_259
theorem tw_260 {args : Array Value} {s : State} (h : ∀ w ∈ gG, w.before args s = true) : (Cond.methodLink RX4 64 yX4_isEdge).before args s = true := h _ (mG (i := 260) (by decide +kernel) rfl)
theorem tw_261 {args : Array Value} {s : State} (h : ∀ w ∈ gG, w.before args s = true) : (Cond.static yX4_isEdge).before args s = true := h _ (mG (i := 261) (by decide +kernel) rfl)
theorem mw_262 : Cond.code yX4_isEdge cX4_isEdge 1 (some .boolean) ∈ gG := mG (i := 262) (by decide +kernel) rfl
theorem tw_262 {args : Array Value} {s : State} (h : ∀ w ∈ gG, w.before args s = true) : (Cond.code yX4_isEdge cX4_isEdge 1 (some .boolean)).before args s = true := h _ mw_262
theorem tw_263 {args : Array Value} {s : State} (h : ∀ w ∈ gG, w.before args s = true) : (Cond.methodLink RX4 71 yX1_addPiece).before args s = true := h _ (mG (i := 263) (by decide +kernel) rfl)
theorem tw_264 {args : Array Value} {s : State} (h : ∀ w ∈ gG, w.before args s = true) : (Cond.instanceMethod yX1_addPiece).before args s = true := h _ (mG (i := 264) (by decide +kernel) rfl)
theorem tw_265 {args : Array Value} {s : State} (h : ∀ w ∈ gG, w.before args s = true) : (Cond.selects RX1 yX1_addPiece yX1_addPiece).before args s = true := h _ (mG (i := 265) (by decide +kernel) rfl)
theorem mw_266 : Cond.code yX1_addPiece cX1_addPiece 5 (some .int) ∈ gG := mG (i := 266) (by decide +kernel) rfl
theorem tw_266 {args : Array Value} {s : State} (h : ∀ w ∈ gG, w.before args s = true) : (Cond.code yX1_addPiece cX1_addPiece 5 (some .int)).before args s = true := h _ mw_266
theorem tw_267 {args : Array Value} {s : State} (h : ∀ w ∈ gG, w.before args s = true) : (Cond.methodLink RL 27 yX4_of).before args s = true := h _ (mG (i := 267) (by decide +kernel) rfl)
theorem tw_268 {args : Array Value} {s : State} (h : ∀ w ∈ gG, w.before args s = true) : (Cond.instanceMethod yX4_of).before args s = true := h _ (mG (i := 268) (by decide +kernel) rfl)
theorem tw_269 {args : Array Value} {s : State} (h : ∀ w ∈ gG, w.before args s = true) : (Cond.selects RX4 yX4_of yX4_of).before args s = true := h _ (mG (i := 269) (by decide +kernel) rfl)
theorem mw_270 : Cond.code yX4_of cX4_of 3 (some .int) ∈ gG := mG (i := 270) (by decide +kernel) rfl
theorem tw_270 {args : Array Value} {s : State} (h : ∀ w ∈ gG, w.before args s = true) : (Cond.code yX4_of cX4_of 3 (some .int)).before args s = true := h _ mw_270
theorem tw_271 {args : Array Value} {s : State} (h : ∀ w ∈ gG, w.before args s = true) : (Cond.methodLink RX4 75 yX1_has).before args s = true := h _ (mG (i := 271) (by decide +kernel) rfl)
theorem tw_272 {args : Array Value} {s : State} (h : ∀ w ∈ gG, w.before args s = true) : (Cond.instanceMethod yX1_has).before args s = true := h _ (mG (i := 272) (by decide +kernel) rfl)
theorem tw_273 {args : Array Value} {s : State} (h : ∀ w ∈ gG, w.before args s = true) : (Cond.selects RX1 yX1_has yX1_has).before args s = true := h _ (mG (i := 273) (by decide +kernel) rfl)
theorem mw_274 : Cond.code yX1_has cX1_has 2 (some .boolean) ∈ gG := mG (i := 274) (by decide +kernel) rfl
theorem tw_274 {args : Array Value} {s : State} (h : ∀ w ∈ gG, w.before args s = true) : (Cond.code yX1_has cX1_has 2 (some .boolean)).before args s = true := h _ mw_274
theorem tw_275 {args : Array Value} {s : State} (h : ∀ w ∈ gG, w.before args s = true) : (Cond.methodLink RX4 78 yX1_told).before args s = true := h _ (mG (i := 275) (by decide +kernel) rfl)
theorem tw_276 {args : Array Value} {s : State} (h : ∀ w ∈ gG, w.before args s = true) : (Cond.instanceMethod yX1_told).before args s = true := h _ (mG (i := 276) (by decide +kernel) rfl)
theorem tw_277 {args : Array Value} {s : State} (h : ∀ w ∈ gG, w.before args s = true) : (Cond.selects RX1 yX1_told yX1_told).before args s = true := h _ (mG (i := 277) (by decide +kernel) rfl)
theorem mw_278 : Cond.code yX1_told cX1_told 3 (some .int) ∈ gG := mG (i := 278) (by decide +kernel) rfl
theorem tw_278 {args : Array Value} {s : State} (h : ∀ w ∈ gG, w.before args s = true) : (Cond.code yX1_told cX1_told 3 (some .int)).before args s = true := h _ mw_278
theorem tw_279 {args : Array Value} {s : State} (h : ∀ w ∈ gG, w.before args s = true) : (Cond.methodLink RX1 52 yX1_placeOf).before args s = true := h _ (mG (i := 279) (by decide +kernel) rfl)
theorem tw_280 {args : Array Value} {s : State} (h : ∀ w ∈ gG, w.before args s = true) : (Cond.instanceMethod yX1_placeOf).before args s = true := h _ (mG (i := 280) (by decide +kernel) rfl)
theorem tw_281 {args : Array Value} {s : State} (h : ∀ w ∈ gG, w.before args s = true) : (Cond.selects RX1 yX1_placeOf yX1_placeOf).before args s = true := h _ (mG (i := 281) (by decide +kernel) rfl)
theorem mw_282 : Cond.code yX1_placeOf cX1_placeOf 3 (some .int) ∈ gG := mG (i := 282) (by decide +kernel) rfl
theorem tw_282 {args : Array Value} {s : State} (h : ∀ w ∈ gG, w.before args s = true) : (Cond.code yX1_placeOf cX1_placeOf 3 (some .int)).before args s = true := h _ mw_282
theorem tw_283 {args : Array Value} {s : State} (h : ∀ w ∈ gG, w.before args s = true) : (Cond.methodLink RX1 56 yX1_growsOf).before args s = true := h _ (mG (i := 283) (by decide +kernel) rfl)
theorem tw_284 {args : Array Value} {s : State} (h : ∀ w ∈ gG, w.before args s = true) : (Cond.instanceMethod yX1_growsOf).before args s = true := h _ (mG (i := 284) (by decide +kernel) rfl)
theorem tw_285 {args : Array Value} {s : State} (h : ∀ w ∈ gG, w.before args s = true) : (Cond.selects RX1 yX1_growsOf yX1_growsOf).before args s = true := h _ (mG (i := 285) (by decide +kernel) rfl)
theorem mw_286 : Cond.code yX1_growsOf cX1_growsOf 5 (some .int) ∈ gG := mG (i := 286) (by decide +kernel) rfl
theorem tw_286 {args : Array Value} {s : State} (h : ∀ w ∈ gG, w.before args s = true) : (Cond.code yX1_growsOf cX1_growsOf 5 (some .int)).before args s = true := h _ mw_286
theorem tw_287 {args : Array Value} {s : State} (h : ∀ w ∈ gG, w.before args s = true) : (Cond.methodLink RL 32 yX4_change).before args s = true := h _ (mG (i := 287) (by decide +kernel) rfl)
theorem tw_288 {args : Array Value} {s : State} (h : ∀ w ∈ gG, w.before args s = true) : (Cond.instanceMethod yX4_change).before args s = true := h _ (mG (i := 288) (by decide +kernel) rfl)
theorem tw_289 {args : Array Value} {s : State} (h : ∀ w ∈ gG, w.before args s = true) : (Cond.selects RX4 yX4_change yX4_change).before args s = true := h _ (mG (i := 289) (by decide +kernel) rfl)
theorem mw_290 : Cond.code yX4_change cX4_change 5 (some .int) ∈ gG := mG (i := 290) (by decide +kernel) rfl
theorem tw_290 {args : Array Value} {s : State} (h : ∀ w ∈ gG, w.before args s = true) : (Cond.code yX4_change cX4_change 5 (some .int)).before args s = true := h _ mw_290
theorem tw_291 {args : Array Value} {s : State} (h : ∀ w ∈ gG, w.before args s = true) : (Cond.methodLink RX4 82 yX4_couldBe).before args s = true := h _ (mG (i := 291) (by decide +kernel) rfl)
theorem tw_292 {args : Array Value} {s : State} (h : ∀ w ∈ gG, w.before args s = true) : (Cond.static yX4_couldBe).before args s = true := h _ (mG (i := 292) (by decide +kernel) rfl)
theorem mw_293 : Cond.code yX4_couldBe cX4_couldBe 2 (some .boolean) ∈ gG := mG (i := 293) (by decide +kernel) rfl
theorem tw_293 {args : Array Value} {s : State} (h : ∀ w ∈ gG, w.before args s = true) : (Cond.code yX4_couldBe cX4_couldBe 2 (some .boolean)).before args s = true := h _ mw_293
theorem tw_294 {args : Array Value} {s : State} (h : ∀ w ∈ gG, w.before args s = true) : (Cond.methodLink RX4 86 yX1_become).before args s = true := h _ (mG (i := 294) (by decide +kernel) rfl)
theorem tw_295 {args : Array Value} {s : State} (h : ∀ w ∈ gG, w.before args s = true) : (Cond.instanceMethod yX1_become).before args s = true := h _ (mG (i := 295) (by decide +kernel) rfl)
theorem tw_296 {args : Array Value} {s : State} (h : ∀ w ∈ gG, w.before args s = true) : (Cond.selects RX1 yX1_become yX1_become).before args s = true := h _ (mG (i := 296) (by decide +kernel) rfl)
theorem mw_297 : Cond.code yX1_become cX1_become 4 none ∈ gG := mG (i := 297) (by decide +kernel) rfl
theorem tw_297 {args : Array Value} {s : State} (h : ∀ w ∈ gG, w.before args s = true) : (Cond.code yX1_become cX1_become 4 none).before args s = true := h _ mw_297
theorem tw_298 {args : Array Value} {s : State} (h : ∀ w ∈ gG, w.before args s = true) : (Cond.methodLink RL 36 yX4_lies).before args s = true := h _ (mG (i := 298) (by decide +kernel) rfl)
theorem tw_299 {args : Array Value} {s : State} (h : ∀ w ∈ gG, w.before args s = true) : (Cond.instanceMethod yX4_lies).before args s = true := h _ (mG (i := 299) (by decide +kernel) rfl)
theorem tw_300 {args : Array Value} {s : State} (h : ∀ w ∈ gG, w.before args s = true) : (Cond.selects RX4 yX4_lies yX4_lies).before args s = true := h _ (mG (i := 300) (by decide +kernel) rfl)
theorem mw_301 : Cond.code yX4_lies cX4_lies 2 (some .int) ∈ gG := mG (i := 301) (by decide +kernel) rfl
theorem tw_301 {args : Array Value} {s : State} (h : ∀ w ∈ gG, w.before args s = true) : (Cond.code yX4_lies cX4_lies 2 (some .int)).before args s = true := h _ mw_301
theorem tw_302 {args : Array Value} {s : State} (h : ∀ w ∈ gG, w.before args s = true) : (Cond.methodLink RL 40 yX4_gap).before args s = true := h _ (mG (i := 302) (by decide +kernel) rfl)
theorem tw_303 {args : Array Value} {s : State} (h : ∀ w ∈ gG, w.before args s = true) : (Cond.instanceMethod yX4_gap).before args s = true := h _ (mG (i := 303) (by decide +kernel) rfl)
theorem tw_304 {args : Array Value} {s : State} (h : ∀ w ∈ gG, w.before args s = true) : (Cond.selects RX4 yX4_gap yX4_gap).before args s = true := h _ (mG (i := 304) (by decide +kernel) rfl)
theorem mw_305 : Cond.code yX4_gap cX4_gap 3 (some .int) ∈ gG := mG (i := 305) (by decide +kernel) rfl
theorem tw_305 {args : Array Value} {s : State} (h : ∀ w ∈ gG, w.before args s = true) : (Cond.code yX4_gap cX4_gap 3 (some .int)).before args s = true := h _ mw_305
theorem tw_306 {args : Array Value} {s : State} (h : ∀ w ∈ gG, w.before args s = true) : (Cond.methodLink RX4 93 yX1_gapOf).before args s = true := h _ (mG (i := 306) (by decide +kernel) rfl)
theorem tw_307 {args : Array Value} {s : State} (h : ∀ w ∈ gG, w.before args s = true) : (Cond.instanceMethod yX1_gapOf).before args s = true := h _ (mG (i := 307) (by decide +kernel) rfl)
theorem tw_308 {args : Array Value} {s : State} (h : ∀ w ∈ gG, w.before args s = true) : (Cond.selects RX1 yX1_gapOf yX1_gapOf).before args s = true := h _ (mG (i := 308) (by decide +kernel) rfl)
theorem mw_309 : Cond.code yX1_gapOf cX1_gapOf 7 (some .int) ∈ gG := mG (i := 309) (by decide +kernel) rfl
theorem tw_309 {args : Array Value} {s : State} (h : ∀ w ∈ gG, w.before args s = true) : (Cond.code yX1_gapOf cX1_gapOf 7 (some .int)).before args s = true := h _ mw_309
theorem tw_310 {args : Array Value} {s : State} (h : ∀ w ∈ gG, w.before args s = true) : (Cond.methodLink RX1 59 yX1_shownRight).before args s = true := h _ (mG (i := 310) (by decide +kernel) rfl)
theorem tw_311 {args : Array Value} {s : State} (h : ∀ w ∈ gG, w.before args s = true) : (Cond.instanceMethod yX1_shownRight).before args s = true := h _ (mG (i := 311) (by decide +kernel) rfl)
theorem tw_312 {args : Array Value} {s : State} (h : ∀ w ∈ gG, w.before args s = true) : (Cond.selects RX1 yX1_shownRight yX1_shownRight).before args s = true := h _ (mG (i := 312) (by decide +kernel) rfl)
theorem mw_313 : Cond.code yX1_shownRight cX1_shownRight 2 (some .int) ∈ gG := mG (i := 313) (by decide +kernel) rfl
theorem tw_313 {args : Array Value} {s : State} (h : ∀ w ∈ gG, w.before args s = true) : (Cond.code yX1_shownRight cX1_shownRight 2 (some .int)).before args s = true := h _ mw_313
theorem tw_314 {args : Array Value} {s : State} (h : ∀ w ∈ gG, w.before args s = true) : (Cond.methodLink RX1 62 yX1_shownLeft).before args s = true := h _ (mG (i := 314) (by decide +kernel) rfl)
theorem tw_315 {args : Array Value} {s : State} (h : ∀ w ∈ gG, w.before args s = true) : (Cond.instanceMethod yX1_shownLeft).before args s = true := h _ (mG (i := 315) (by decide +kernel) rfl)
theorem tw_316 {args : Array Value} {s : State} (h : ∀ w ∈ gG, w.before args s = true) : (Cond.selects RX1 yX1_shownLeft yX1_shownLeft).before args s = true := h _ (mG (i := 316) (by decide +kernel) rfl)
theorem mw_317 : Cond.code yX1_shownLeft cX1_shownLeft 2 (some .int) ∈ gG := mG (i := 317) (by decide +kernel) rfl
theorem tw_317 {args : Array Value} {s : State} (h : ∀ w ∈ gG, w.before args s = true) : (Cond.code yX1_shownLeft cX1_shownLeft 2 (some .int)).before args s = true := h _ mw_317
theorem tw_318 {args : Array Value} {s : State} (h : ∀ w ∈ gG, w.before args s = true) : (Cond.methodLink RX1 65 yJ9_abs_0f7a4).before args s = true := h _ (mG (i := 318) (by decide +kernel) rfl)
theorem tw_319 {args : Array Value} {s : State} (h : ∀ w ∈ gG, w.before args s = true) : (Cond.static yJ9_abs_0f7a4).before args s = true := h _ (mG (i := 319) (by decide +kernel) rfl)
theorem mw_320 : Cond.code yJ9_abs_0f7a4 cJ9_abs_0f7a4 1 (some .int) ∈ gG := mG (i := 320) (by decide +kernel) rfl
theorem tw_320 {args : Array Value} {s : State} (h : ∀ w ∈ gG, w.before args s = true) : (Cond.code yJ9_abs_0f7a4 cJ9_abs_0f7a4 1 (some .int)).before args s = true := h _ mw_320
theorem tw_322 {args : Array Value} {s : State} (h : ∀ w ∈ gG, w.before args s = true) : (Cond.static yX4_isOrUnder).before args s = true := h _ (mG (i := 322) (by decide +kernel) rfl)
theorem mw_323 : Cond.code yX4_isOrUnder cX4_isOrUnder 2 (some .boolean) ∈ gG := mG (i := 323) (by decide +kernel) rfl
theorem tw_323 {args : Array Value} {s : State} (h : ∀ w ∈ gG, w.before args s = true) : (Cond.code yX4_isOrUnder cX4_isOrUnder 2 (some .boolean)).before args s = true := h _ mw_323
theorem tw_324 {args : Array Value} {s : State} (h : ∀ w ∈ gG, w.before args s = true) : (Cond.methodLink RL 44 yX4_edge).before args s = true := h _ (mG (i := 324) (by decide +kernel) rfl)
theorem tw_325 {args : Array Value} {s : State} (h : ∀ w ∈ gG, w.before args s = true) : (Cond.instanceMethod yX4_edge).before args s = true := h _ (mG (i := 325) (by decide +kernel) rfl)
theorem tw_326 {args : Array Value} {s : State} (h : ∀ w ∈ gG, w.before args s = true) : (Cond.selects RX4 yX4_edge yX4_edge).before args s = true := h _ (mG (i := 326) (by decide +kernel) rfl)
theorem mw_327 : Cond.code yX4_edge cX4_edge 3 (some .int) ∈ gG := mG (i := 327) (by decide +kernel) rfl
theorem tw_327 {args : Array Value} {s : State} (h : ∀ w ∈ gG, w.before args s = true) : (Cond.code yX4_edge cX4_edge 3 (some .int)).before args s = true := h _ mw_327
theorem tw_328 {args : Array Value} {s : State} (h : ∀ w ∈ gG, w.before args s = true) : (Cond.methodLink RX4 96 yX1_edgeOf).before args s = true := h _ (mG (i := 328) (by decide +kernel) rfl)
theorem tw_329 {args : Array Value} {s : State} (h : ∀ w ∈ gG, w.before args s = true) : (Cond.instanceMethod yX1_edgeOf).before args s = true := h _ (mG (i := 329) (by decide +kernel) rfl)
theorem tw_330 {args : Array Value} {s : State} (h : ∀ w ∈ gG, w.before args s = true) : (Cond.selects RX1 yX1_edgeOf yX1_edgeOf).before args s = true := h _ (mG (i := 330) (by decide +kernel) rfl)
theorem mw_331 : Cond.code yX1_edgeOf cX1_edgeOf 4 (some .int) ∈ gG := mG (i := 331) (by decide +kernel) rfl
theorem tw_331 {args : Array Value} {s : State} (h : ∀ w ∈ gG, w.before args s = true) : (Cond.code yX1_edgeOf cX1_edgeOf 4 (some .int)).before args s = true := h _ mw_331
theorem tw_332 {args : Array Value} {s : State} (h : ∀ w ∈ gG, w.before args s = true) : (Cond.methodLink RL 48 yX4_swap).before args s = true := h _ (mG (i := 332) (by decide +kernel) rfl)
theorem tw_333 {args : Array Value} {s : State} (h : ∀ w ∈ gG, w.before args s = true) : (Cond.instanceMethod yX4_swap).before args s = true := h _ (mG (i := 333) (by decide +kernel) rfl)
theorem tw_334 {args : Array Value} {s : State} (h : ∀ w ∈ gG, w.before args s = true) : (Cond.selects RX4 yX4_swap yX4_swap).before args s = true := h _ (mG (i := 334) (by decide +kernel) rfl)
theorem mw_335 : Cond.code yX4_swap cX4_swap 3 (some .int) ∈ gG := mG (i := 335) (by decide +kernel) rfl
theorem tw_335 {args : Array Value} {s : State} (h : ∀ w ∈ gG, w.before args s = true) : (Cond.code yX4_swap cX4_swap 3 (some .int)).before args s = true := h _ mw_335
theorem tw_336 {args : Array Value} {s : State} (h : ∀ w ∈ gG, w.before args s = true) : (Cond.methodLink RX4 99 yX1_exchange).before args s = true := h _ (mG (i := 336) (by decide +kernel) rfl)
theorem tw_337 {args : Array Value} {s : State} (h : ∀ w ∈ gG, w.before args s = true) : (Cond.instanceMethod yX1_exchange).before args s = true := h _ (mG (i := 337) (by decide +kernel) rfl)
theorem tw_338 {args : Array Value} {s : State} (h : ∀ w ∈ gG, w.before args s = true) : (Cond.selects RX1 yX1_exchange yX1_exchange).before args s = true := h _ (mG (i := 338) (by decide +kernel) rfl)
theorem mw_339 : Cond.code yX1_exchange cX1_exchange 4 none ∈ gG := mG (i := 339) (by decide +kernel) rfl
theorem tw_339 {args : Array Value} {s : State} (h : ∀ w ∈ gG, w.before args s = true) : (Cond.code yX1_exchange cX1_exchange 4 none).before args s = true := h _ mw_339
theorem tw_340 {args : Array Value} {s : State} (h : ∀ w ∈ gG, w.before args s = true) : (Cond.methodLink RX1 84 yX1_has).before args s = true := h _ (mG (i := 340) (by decide +kernel) rfl)
theorem tw_341 {args : Array Value} {s : State} (h : ∀ w ∈ gG, w.before args s = true) : (Cond.methodLink RX4 103 yX1_sumOfRow).before args s = true := h _ (mG (i := 341) (by decide +kernel) rfl)
theorem tw_342 {args : Array Value} {s : State} (h : ∀ w ∈ gG, w.before args s = true) : (Cond.instanceMethod yX1_sumOfRow).before args s = true := h _ (mG (i := 342) (by decide +kernel) rfl)
theorem tw_343 {args : Array Value} {s : State} (h : ∀ w ∈ gG, w.before args s = true) : (Cond.selects RX1 yX1_sumOfRow yX1_sumOfRow).before args s = true := h _ (mG (i := 343) (by decide +kernel) rfl)
theorem mw_344 : Cond.code yX1_sumOfRow cX1_sumOfRow 3 (some .int) ∈ gG := mG (i := 344) (by decide +kernel) rfl
theorem tw_344 {args : Array Value} {s : State} (h : ∀ w ∈ gG, w.before args s = true) : (Cond.code yX1_sumOfRow cX1_sumOfRow 3 (some .int)).before args s = true := h _ mw_344
theorem tw_345 {args : Array Value} {s : State} (h : ∀ w ∈ gG, w.before args s = true) : (Cond.methodLink RX1 78 yX1_edgeOf).before args s = true := h _ (mG (i := 345) (by decide +kernel) rfl)
theorem tw_346 {args : Array Value} {s : State} (h : ∀ w ∈ gG, w.before args s = true) : (Cond.methodLink RX1 81 yX1_gapBehind).before args s = true := h _ (mG (i := 346) (by decide +kernel) rfl)
theorem tw_347 {args : Array Value} {s : State} (h : ∀ w ∈ gG, w.before args s = true) : (Cond.instanceMethod yX1_gapBehind).before args s = true := h _ (mG (i := 347) (by decide +kernel) rfl)
theorem tw_348 {args : Array Value} {s : State} (h : ∀ w ∈ gG, w.before args s = true) : (Cond.selects RX1 yX1_gapBehind yX1_gapBehind).before args s = true := h _ (mG (i := 348) (by decide +kernel) rfl)
theorem mw_349 : Cond.code yX1_gapBehind cX1_gapBehind 2 (some .int) ∈ gG := mG (i := 349) (by decide +kernel) rfl
theorem tw_349 {args : Array Value} {s : State} (h : ∀ w ∈ gG, w.before args s = true) : (Cond.code yX1_gapBehind cX1_gapBehind 2 (some .int)).before args s = true := h _ mw_349
theorem tw_350 {args : Array Value} {s : State} (h : ∀ w ∈ gG, w.before args s = true) : (Cond.methodLink RX1 74 yX1_gapOf).before args s = true := h _ (mG (i := 350) (by decide +kernel) rfl)
theorem tw_351 {args : Array Value} {s : State} (h : ∀ w ∈ gG, w.before args s = true) : (Cond.methodLink RL 52 yX4_go).before args s = true := h _ (mG (i := 351) (by decide +kernel) rfl)
theorem tw_352 {args : Array Value} {s : State} (h : ∀ w ∈ gG, w.before args s = true) : (Cond.instanceMethod yX4_go).before args s = true := h _ (mG (i := 352) (by decide +kernel) rfl)
theorem tw_353 {args : Array Value} {s : State} (h : ∀ w ∈ gG, w.before args s = true) : (Cond.selects RX4 yX4_go yX4_go).before args s = true := h _ (mG (i := 353) (by decide +kernel) rfl)
theorem mw_354 : Cond.code yX4_go cX4_go 2 (some .int) ∈ gG := mG (i := 354) (by decide +kernel) rfl
theorem tw_354 {args : Array Value} {s : State} (h : ∀ w ∈ gG, w.before args s = true) : (Cond.code yX4_go cX4_go 2 (some .int)).before args s = true := h _ mw_354
theorem tw_355 {args : Array Value} {s : State} (h : ∀ w ∈ gG, w.before args s = true) : (Cond.constant RX4 110 (99999)).before args s = true := h _ (mG (i := 355) (by decide +kernel) rfl)
theorem tw_356 {args : Array Value} {s : State} (h : ∀ w ∈ gG, w.before args s = true) : (Cond.methodLink RX4 111 yX1_passYears).before args s = true := h _ (mG (i := 356) (by decide +kernel) rfl)
theorem tw_357 {args : Array Value} {s : State} (h : ∀ w ∈ gG, w.before args s = true) : (Cond.instanceMethod yX1_passYears).before args s = true := h _ (mG (i := 357) (by decide +kernel) rfl)
theorem tw_358 {args : Array Value} {s : State} (h : ∀ w ∈ gG, w.before args s = true) : (Cond.selects RX1 yX1_passYears yX1_passYears).before args s = true := h _ (mG (i := 358) (by decide +kernel) rfl)
theorem mw_359 : Cond.code yX1_passYears cX1_passYears 3 none ∈ gG := mG (i := 359) (by decide +kernel) rfl
theorem tw_359 {args : Array Value} {s : State} (h : ∀ w ∈ gG, w.before args s = true) : (Cond.code yX1_passYears cX1_passYears 3 none).before args s = true := h _ mw_359
theorem tw_360 {args : Array Value} {s : State} (h : ∀ w ∈ gG, w.before args s = true) : (Cond.methodLink RX1 88 yX1_passYear).before args s = true := h _ (mG (i := 360) (by decide +kernel) rfl)
theorem tw_361 {args : Array Value} {s : State} (h : ∀ w ∈ gG, w.before args s = true) : (Cond.instanceMethod yX1_passYear).before args s = true := h _ (mG (i := 361) (by decide +kernel) rfl)
theorem tw_362 {args : Array Value} {s : State} (h : ∀ w ∈ gG, w.before args s = true) : (Cond.selects RX1 yX1_passYear yX1_passYear).before args s = true := h _ (mG (i := 362) (by decide +kernel) rfl)
theorem mw_363 : Cond.code yX1_passYear cX1_passYear 2 none ∈ gG := mG (i := 363) (by decide +kernel) rfl
theorem tw_363 {args : Array Value} {s : State} (h : ∀ w ∈ gG, w.before args s = true) : (Cond.code yX1_passYear cX1_passYear 2 none).before args s = true := h _ mw_363
theorem tw_364 {args : Array Value} {s : State} (h : ∀ w ∈ gG, w.before args s = true) : (Cond.methodLink RX1 91 yX1_exchange).before args s = true := h _ (mG (i := 364) (by decide +kernel) rfl)
theorem tw_365 {args : Array Value} {s : State} (h : ∀ w ∈ gG, w.before args s = true) : (Cond.methodLink RX1 95 yX1_cut).before args s = true := h _ (mG (i := 365) (by decide +kernel) rfl)
theorem tw_366 {args : Array Value} {s : State} (h : ∀ w ∈ gG, w.before args s = true) : (Cond.instanceMethod yX1_cut).before args s = true := h _ (mG (i := 366) (by decide +kernel) rfl)
theorem tw_367 {args : Array Value} {s : State} (h : ∀ w ∈ gG, w.before args s = true) : (Cond.selects RX1 yX1_cut yX1_cut).before args s = true := h _ (mG (i := 367) (by decide +kernel) rfl)
theorem mw_368 : Cond.code yX1_cut cX1_cut 2 none ∈ gG := mG (i := 368) (by decide +kernel) rfl
theorem tw_368 {args : Array Value} {s : State} (h : ∀ w ∈ gG, w.before args s = true) : (Cond.code yX1_cut cX1_cut 2 none).before args s = true := h _ mw_368
theorem tw_369 {args : Array Value} {s : State} (h : ∀ w ∈ gG, w.before args s = true) : (Cond.constant RX1 98 (99999)).before args s = true := h _ (mG (i := 369) (by decide +kernel) rfl)
theorem tw_370 {args : Array Value} {s : State} (h : ∀ w ∈ gG, w.before args s = true) : (Cond.methodLink RL 56 yX4_now).before args s = true := h _ (mG (i := 370) (by decide +kernel) rfl)
theorem tw_371 {args : Array Value} {s : State} (h : ∀ w ∈ gG, w.before args s = true) : (Cond.instanceMethod yX4_now).before args s = true := h _ (mG (i := 371) (by decide +kernel) rfl)
theorem tw_372 {args : Array Value} {s : State} (h : ∀ w ∈ gG, w.before args s = true) : (Cond.selects RX4 yX4_now yX4_now).before args s = true := h _ (mG (i := 372) (by decide +kernel) rfl)
theorem mw_373 : Cond.code yX4_now cX4_now 2 (some .int) ∈ gG := mG (i := 373) (by decide +kernel) rfl
theorem tw_373 {args : Array Value} {s : State} (h : ∀ w ∈ gG, w.before args s = true) : (Cond.code yX4_now cX4_now 2 (some .int)).before args s = true := h _ mw_373
theorem tw_374 {args : Array Value} {s : State} (h : ∀ w ∈ gG, w.before args s = true) : (Cond.methodLink RX4 115 yX1_closedPlaces).before args s = true := h _ (mG (i := 374) (by decide +kernel) rfl)
theorem tw_375 {args : Array Value} {s : State} (h : ∀ w ∈ gG, w.before args s = true) : (Cond.instanceMethod yX1_closedPlaces).before args s = true := h _ (mG (i := 375) (by decide +kernel) rfl)
theorem tw_376 {args : Array Value} {s : State} (h : ∀ w ∈ gG, w.before args s = true) : (Cond.selects RX1 yX1_closedPlaces yX1_closedPlaces).before args s = true := h _ (mG (i := 376) (by decide +kernel) rfl)
theorem mw_377 : Cond.code yX1_closedPlaces cX1_closedPlaces 3 (some .int) ∈ gG := mG (i := 377) (by decide +kernel) rfl
theorem tw_377 {args : Array Value} {s : State} (h : ∀ w ∈ gG, w.before args s = true) : (Cond.code yX1_closedPlaces cX1_closedPlaces 3 (some .int)).before args s = true := h _ mw_377
theorem tw_378 {args : Array Value} {s : State} (h : ∀ w ∈ gG, w.before args s = true) : (Cond.methodLink RX4 118 yX1_grantedPieces).before args s = true := h _ (mG (i := 378) (by decide +kernel) rfl)
theorem tw_379 {args : Array Value} {s : State} (h : ∀ w ∈ gG, w.before args s = true) : (Cond.instanceMethod yX1_grantedPieces).before args s = true := h _ (mG (i := 379) (by decide +kernel) rfl)
theorem tw_380 {args : Array Value} {s : State} (h : ∀ w ∈ gG, w.before args s = true) : (Cond.selects RX1 yX1_grantedPieces yX1_grantedPieces).before args s = true := h _ (mG (i := 380) (by decide +kernel) rfl)
theorem mw_381 : Cond.code yX1_grantedPieces cX1_grantedPieces 3 (some .int) ∈ gG := mG (i := 381) (by decide +kernel) rfl
theorem tw_381 {args : Array Value} {s : State} (h : ∀ w ∈ gG, w.before args s = true) : (Cond.code yX1_grantedPieces cX1_grantedPieces 3 (some .int)).before args s = true := h _ mw_381
theorem tw_382 {args : Array Value} {s : State} (h : ∀ w ∈ gG, w.before args s = true) : (Cond.methodLink RX1 100 yX1_isGranted).before args s = true := h _ (mG (i := 382) (by decide +kernel) rfl)
theorem tw_383 {args : Array Value} {s : State} (h : ∀ w ∈ gG, w.before args s = true) : (Cond.instanceMethod yX1_isGranted).before args s = true := h _ (mG (i := 383) (by decide +kernel) rfl)
theorem tw_384 {args : Array Value} {s : State} (h : ∀ w ∈ gG, w.before args s = true) : (Cond.selects RX1 yX1_isGranted yX1_isGranted).before args s = true := h _ (mG (i := 384) (by decide +kernel) rfl)
theorem mw_385 : Cond.code yX1_isGranted cX1_isGranted 3 (some .boolean) ∈ gG := mG (i := 385) (by decide +kernel) rfl
theorem tw_385 {args : Array Value} {s : State} (h : ∀ w ∈ gG, w.before args s = true) : (Cond.code yX1_isGranted cX1_isGranted 3 (some .boolean)).before args s = true := h _ mw_385
theorem tw_386 {args : Array Value} {s : State} (h : ∀ w ∈ gG, w.before args s = true) : (Cond.methodLink RX4 121 yX1_greatestGap).before args s = true := h _ (mG (i := 386) (by decide +kernel) rfl)
theorem tw_387 {args : Array Value} {s : State} (h : ∀ w ∈ gG, w.before args s = true) : (Cond.instanceMethod yX1_greatestGap).before args s = true := h _ (mG (i := 387) (by decide +kernel) rfl)
theorem tw_388 {args : Array Value} {s : State} (h : ∀ w ∈ gG, w.before args s = true) : (Cond.selects RX1 yX1_greatestGap yX1_greatestGap).before args s = true := h _ (mG (i := 388) (by decide +kernel) rfl)
theorem mw_389 : Cond.code yX1_greatestGap cX1_greatestGap 3 (some .int) ∈ gG := mG (i := 389) (by decide +kernel) rfl
theorem tw_389 {args : Array Value} {s : State} (h : ∀ w ∈ gG, w.before args s = true) : (Cond.code yX1_greatestGap cX1_greatestGap 3 (some .int)).before args s = true := h _ mw_389
theorem tw_390 {args : Array Value} {s : State} (h : ∀ w ∈ gG, w.before args s = true) : (Cond.methodLink RX1 103 yJ9_max_7cf53).before args s = true := h _ (mG (i := 390) (by decide +kernel) rfl)
theorem tw_391 {args : Array Value} {s : State} (h : ∀ w ∈ gG, w.before args s = true) : (Cond.static yJ9_max_7cf53).before args s = true := h _ (mG (i := 391) (by decide +kernel) rfl)
theorem mw_392 : Cond.code yJ9_max_7cf53 cJ9_max_7cf53 2 (some .int) ∈ gG := mG (i := 392) (by decide +kernel) rfl
theorem tw_392 {args : Array Value} {s : State} (h : ∀ w ∈ gG, w.before args s = true) : (Cond.code yJ9_max_7cf53 cJ9_max_7cf53 2 (some .int)).before args s = true := h _ mw_392
theorem tw_393 {args : Array Value} {s : State} (h : ∀ w ∈ gG, w.before args s = true) : (Cond.methodLink RX4 127 yX0_leastSum).before args s = true := h _ (mG (i := 393) (by decide +kernel) rfl)
theorem tw_394 {args : Array Value} {s : State} (h : ∀ w ∈ gG, w.before args s = true) : (Cond.instanceMethod yX0_leastSum).before args s = true := h _ (mG (i := 394) (by decide +kernel) rfl)
theorem tw_395 {args : Array Value} {s : State} (h : ∀ w ∈ gG, w.before args s = true) : (Cond.selects RX0 yX0_leastSum yX0_leastSum).before args s = true := h _ (mG (i := 395) (by decide +kernel) rfl)
theorem mw_396 : Cond.code yX0_leastSum cX0_leastSum 3 (some .int) ∈ gG := mG (i := 396) (by decide +kernel) rfl
theorem tw_396 {args : Array Value} {s : State} (h : ∀ w ∈ gG, w.before args s = true) : (Cond.code yX0_leastSum cX0_leastSum 3 (some .int)).before args s = true := h _ mw_396
theorem tw_397 {args : Array Value} {s : State} (h : ∀ w ∈ gG, w.before args s = true) : (Cond.methodLink RX0 30 yX0_weigh).before args s = true := h _ (mG (i := 397) (by decide +kernel) rfl)
theorem tw_399 {args : Array Value} {s : State} (h : ∀ w ∈ gG, w.before args s = true) : (Cond.instanceMethod yX0_weigh).before args s = true := h _ (mG (i := 399) (by decide +kernel) rfl)
theorem mw_400 : Cond.code yX0_weigh cX0_weigh 4 none ∈ gG := mG (i := 400) (by decide +kernel) rfl
theorem tw_400 {args : Array Value} {s : State} (h : ∀ w ∈ gG, w.before args s = true) : (Cond.code yX0_weigh cX0_weigh 4 none).before args s = true := h _ mw_400
theorem tw_401 {args : Array Value} {s : State} (h : ∀ w ∈ gG, w.before args s = true) : (Cond.methodLink RX0 45 yX1_edgeOf).before args s = true := h _ (mG (i := 401) (by decide +kernel) rfl)
theorem tw_402 {args : Array Value} {s : State} (h : ∀ w ∈ gG, w.before args s = true) : (Cond.methodLink RX0 49 yX1_gapOf).before args s = true := h _ (mG (i := 402) (by decide +kernel) rfl)
theorem tw_403 {args : Array Value} {s : State} (h : ∀ w ∈ gG, w.before args s = true) : (Cond.methodLink RX0 34 yX0_fillRests).before args s = true := h _ (mG (i := 403) (by decide +kernel) rfl)
theorem tw_405 {args : Array Value} {s : State} (h : ∀ w ∈ gG, w.before args s = true) : (Cond.instanceMethod yX0_fillRests).before args s = true := h _ (mG (i := 405) (by decide +kernel) rfl)
theorem mw_406 : Cond.code yX0_fillRests cX0_fillRests 5 none ∈ gG := mG (i := 406) (by decide +kernel) rfl
theorem tw_406 {args : Array Value} {s : State} (h : ∀ w ∈ gG, w.before args s = true) : (Cond.code yX0_fillRests cX0_fillRests 5 none).before args s = true := h _ mw_406
theorem tw_407 {args : Array Value} {s : State} (h : ∀ w ∈ gG, w.before args s = true) : (Cond.methodLink RX0 52 yX0_leastRest).before args s = true := h _ (mG (i := 407) (by decide +kernel) rfl)
theorem tw_409 {args : Array Value} {s : State} (h : ∀ w ∈ gG, w.before args s = true) : (Cond.instanceMethod yX0_leastRest).before args s = true := h _ (mG (i := 409) (by decide +kernel) rfl)
theorem mw_410 : Cond.code yX0_leastRest cX0_leastRest 6 (some .int) ∈ gG := mG (i := 410) (by decide +kernel) rfl
theorem tw_410 {args : Array Value} {s : State} (h : ∀ w ∈ gG, w.before args s = true) : (Cond.code yX0_leastRest cX0_leastRest 6 (some .int)).before args s = true := h _ mw_410
theorem tw_411 {args : Array Value} {s : State} (h : ∀ w ∈ gG, w.before args s = true) : (Cond.constant RX0 55 (1000000)).before args s = true := h _ (mG (i := 411) (by decide +kernel) rfl)
theorem tw_412 {args : Array Value} {s : State} (h : ∀ w ∈ gG, w.before args s = true) : (Cond.methodLink RX0 42 yX0_costOfNext).before args s = true := h _ (mG (i := 412) (by decide +kernel) rfl)
theorem tw_414 {args : Array Value} {s : State} (h : ∀ w ∈ gG, w.before args s = true) : (Cond.instanceMethod yX0_costOfNext).before args s = true := h _ (mG (i := 414) (by decide +kernel) rfl)
theorem mw_415 : Cond.code yX0_costOfNext cX0_costOfNext 5 (some .int) ∈ gG := mG (i := 415) (by decide +kernel) rfl
theorem tw_415 {args : Array Value} {s : State} (h : ∀ w ∈ gG, w.before args s = true) : (Cond.code yX0_costOfNext cX0_costOfNext 5 (some .int)).before args s = true := h _ mw_415
theorem tw_416 {args : Array Value} {s : State} (h : ∀ w ∈ gG, w.before args s = true) : (Cond.methodLink RX0 56 yJ9_min_7cf53).before args s = true := h _ (mG (i := 416) (by decide +kernel) rfl)
theorem tw_417 {args : Array Value} {s : State} (h : ∀ w ∈ gG, w.before args s = true) : (Cond.static yJ9_min_7cf53).before args s = true := h _ (mG (i := 417) (by decide +kernel) rfl)
theorem mw_418 : Cond.code yJ9_min_7cf53 cJ9_min_7cf53 2 (some .int) ∈ gG := mG (i := 418) (by decide +kernel) rfl
theorem tw_418 {args : Array Value} {s : State} (h : ∀ w ∈ gG, w.before args s = true) : (Cond.code yJ9_min_7cf53 cJ9_min_7cf53 2 (some .int)).before args s = true := h _ mw_418
theorem tw_419 {args : Array Value} {s : State} (h : ∀ w ∈ gG, w.before args s = true) : (Cond.methodLink RX0 38 yX0_bestNext).before args s = true := h _ (mG (i := 419) (by decide +kernel) rfl)
theorem tw_421 {args : Array Value} {s : State} (h : ∀ w ∈ gG, w.before args s = true) : (Cond.instanceMethod yX0_bestNext).before args s = true := h _ (mG (i := 421) (by decide +kernel) rfl)
theorem mw_422 : Cond.code yX0_bestNext cX0_bestNext 8 (some .int) ∈ gG := mG (i := 422) (by decide +kernel) rfl
theorem tw_422 {args : Array Value} {s : State} (h : ∀ w ∈ gG, w.before args s = true) : (Cond.code yX0_bestNext cX0_bestNext 8 (some .int)).before args s = true := h _ mw_422
theorem tw_423 {args : Array Value} {s : State} (h : ∀ w ∈ gG, w.before args s = true) : (Cond.methodLink RX4 131 yX4_leastExchange).before args s = true := h _ (mG (i := 423) (by decide +kernel) rfl)
theorem tw_425 {args : Array Value} {s : State} (h : ∀ w ∈ gG, w.before args s = true) : (Cond.instanceMethod yX4_leastExchange).before args s = true := h _ (mG (i := 425) (by decide +kernel) rfl)
theorem mw_426 : Cond.code yX4_leastExchange cX4_leastExchange 6 (some .int) ∈ gG := mG (i := 426) (by decide +kernel) rfl
theorem tw_426 {args : Array Value} {s : State} (h : ∀ w ∈ gG, w.before args s = true) : (Cond.code yX4_leastExchange cX4_leastExchange 6 (some .int)).before args s = true := h _ mw_426
theorem tw_427 {args : Array Value} {s : State} (h : ∀ w ∈ gG, w.before args s = true) : (Cond.methodLink RX4 248 yX4_sumExchanged).before args s = true := h _ (mG (i := 427) (by decide +kernel) rfl)
theorem tw_429 {args : Array Value} {s : State} (h : ∀ w ∈ gG, w.before args s = true) : (Cond.instanceMethod yX4_sumExchanged).before args s = true := h _ (mG (i := 429) (by decide +kernel) rfl)
theorem mw_430 : Cond.code yX4_sumExchanged cX4_sumExchanged 4 (some .int) ∈ gG := mG (i := 430) (by decide +kernel) rfl
theorem tw_430 {args : Array Value} {s : State} (h : ∀ w ∈ gG, w.before args s = true) : (Cond.code yX4_sumExchanged cX4_sumExchanged 4 (some .int)).before args s = true := h _ mw_430
theorem tw_431 {args : Array Value} {s : State} (h : ∀ w ∈ gG, w.before args s = true) : (Cond.methodLink RL 60 yX4_ahead).before args s = true := h _ (mG (i := 431) (by decide +kernel) rfl)
theorem tw_432 {args : Array Value} {s : State} (h : ∀ w ∈ gG, w.before args s = true) : (Cond.instanceMethod yX4_ahead).before args s = true := h _ (mG (i := 432) (by decide +kernel) rfl)
theorem tw_433 {args : Array Value} {s : State} (h : ∀ w ∈ gG, w.before args s = true) : (Cond.selects RX4 yX4_ahead yX4_ahead).before args s = true := h _ (mG (i := 433) (by decide +kernel) rfl)
theorem mw_434 : Cond.code yX4_ahead cX4_ahead 5 (some .int) ∈ gG := mG (i := 434) (by decide +kernel) rfl
theorem tw_434 {args : Array Value} {s : State} (h : ∀ w ∈ gG, w.before args s = true) : (Cond.code yX4_ahead cX4_ahead 5 (some .int)).before args s = true := h _ mw_434
theorem tw_435 {args : Array Value} {s : State} (h : ∀ w ∈ gG, w.before args s = true) : (Cond.methodLink RX4 134 yX1_takeFrom).before args s = true := h _ (mG (i := 435) (by decide +kernel) rfl)
theorem tw_436 {args : Array Value} {s : State} (h : ∀ w ∈ gG, w.before args s = true) : (Cond.instanceMethod yX1_takeFrom).before args s = true := h _ (mG (i := 436) (by decide +kernel) rfl)
theorem tw_437 {args : Array Value} {s : State} (h : ∀ w ∈ gG, w.before args s = true) : (Cond.selects RX1 yX1_takeFrom yX1_takeFrom).before args s = true := h _ (mG (i := 437) (by decide +kernel) rfl)
theorem mw_438 : Cond.code yX1_takeFrom cX1_takeFrom 2 none ∈ gG := mG (i := 438) (by decide +kernel) rfl
theorem tw_438 {args : Array Value} {s : State} (h : ∀ w ∈ gG, w.before args s = true) : (Cond.code yX1_takeFrom cX1_takeFrom 2 none).before args s = true := h _ mw_438
theorem tw_439 {args : Array Value} {s : State} (h : ∀ w ∈ gG, w.before args s = true) : (Cond.methodLink RX1 37 arraycopyName).before args s = true := h _ (mG (i := 439) (by decide +kernel) rfl)
theorem tw_440 {args : Array Value} {s : State} (h : ∀ w ∈ gG, w.before args s = true) : (Cond.static arraycopyName).before args s = true := h _ (mG (i := 440) (by decide +kernel) rfl)
theorem tw_441 {args : Array Value} {s : State} (h : ∀ w ∈ gG, w.before args s = true) : (Cond.native arraycopyName).before args s = true := h _ (mG (i := 441) (by decide +kernel) rfl)
theorem tw_442 {args : Array Value} {s : State} (h : ∀ w ∈ gG, w.before args s = true) : (Cond.methodLink RL 64 yX4_sum).before args s = true := h _ (mG (i := 442) (by decide +kernel) rfl)
theorem tw_443 {args : Array Value} {s : State} (h : ∀ w ∈ gG, w.before args s = true) : (Cond.instanceMethod yX4_sum).before args s = true := h _ (mG (i := 443) (by decide +kernel) rfl)
theorem tw_444 {args : Array Value} {s : State} (h : ∀ w ∈ gG, w.before args s = true) : (Cond.selects RX4 yX4_sum yX4_sum).before args s = true := h _ (mG (i := 444) (by decide +kernel) rfl)
theorem mw_445 : Cond.code yX4_sum cX4_sum 2 (some .int) ∈ gG := mG (i := 445) (by decide +kernel) rfl
theorem tw_445 {args : Array Value} {s : State} (h : ∀ w ∈ gG, w.before args s = true) : (Cond.code yX4_sum cX4_sum 2 (some .int)).before args s = true := h _ mw_445
theorem tw_446 {args : Array Value} {s : State} (h : ∀ w ∈ gG, w.before args s = true) : (Cond.methodLink RL 68 yX4_when).before args s = true := h _ (mG (i := 446) (by decide +kernel) rfl)
theorem tw_447 {args : Array Value} {s : State} (h : ∀ w ∈ gG, w.before args s = true) : (Cond.instanceMethod yX4_when).before args s = true := h _ (mG (i := 447) (by decide +kernel) rfl)
theorem tw_448 {args : Array Value} {s : State} (h : ∀ w ∈ gG, w.before args s = true) : (Cond.selects RX4 yX4_when yX4_when).before args s = true := h _ (mG (i := 448) (by decide +kernel) rfl)
theorem mw_449 : Cond.code yX4_when cX4_when 3 (some .int) ∈ gG := mG (i := 449) (by decide +kernel) rfl
theorem tw_449 {args : Array Value} {s : State} (h : ∀ w ∈ gG, w.before args s = true) : (Cond.code yX4_when cX4_when 3 (some .int)).before args s = true := h _ mw_449
theorem tw_450 {args : Array Value} {s : State} (h : ∀ w ∈ gG, w.before args s = true) : (Cond.methodLink RX4 138 yX4_isToldSum).before args s = true := h _ (mG (i := 450) (by decide +kernel) rfl)
theorem tw_451 {args : Array Value} {s : State} (h : ∀ w ∈ gG, w.before args s = true) : (Cond.static yX4_isToldSum).before args s = true := h _ (mG (i := 451) (by decide +kernel) rfl)
theorem mw_452 : Cond.code yX4_isToldSum cX4_isToldSum 1 (some .boolean) ∈ gG := mG (i := 452) (by decide +kernel) rfl
theorem tw_452 {args : Array Value} {s : State} (h : ∀ w ∈ gG, w.before args s = true) : (Cond.code yX4_isToldSum cX4_isToldSum 1 (some .boolean)).before args s = true := h _ mw_452
theorem tw_453 {args : Array Value} {s : State} (h : ∀ w ∈ gG, w.before args s = true) : (Cond.methodLink RX4 141 yX1_passYear).before args s = true := h _ (mG (i := 453) (by decide +kernel) rfl)
theorem tw_454 {args : Array Value} {s : State} (h : ∀ w ∈ gG, w.before args s = true) : (Cond.methodLink RL 72 yX4_comes).before args s = true := h _ (mG (i := 454) (by decide +kernel) rfl)
theorem tw_455 {args : Array Value} {s : State} (h : ∀ w ∈ gG, w.before args s = true) : (Cond.instanceMethod yX4_comes).before args s = true := h _ (mG (i := 455) (by decide +kernel) rfl)
theorem tw_456 {args : Array Value} {s : State} (h : ∀ w ∈ gG, w.before args s = true) : (Cond.selects RX4 yX4_comes yX4_comes).before args s = true := h _ (mG (i := 456) (by decide +kernel) rfl)
theorem mw_457 : Cond.code yX4_comes cX4_comes 4 (some .int) ∈ gG := mG (i := 457) (by decide +kernel) rfl
theorem tw_457 {args : Array Value} {s : State} (h : ∀ w ∈ gG, w.before args s = true) : (Cond.code yX4_comes cX4_comes 4 (some .int)).before args s = true := h _ mw_457
theorem tw_458 {args : Array Value} {s : State} (h : ∀ w ∈ gG, w.before args s = true) : (Cond.methodLink RX4 144 yX1_placeOf).before args s = true := h _ (mG (i := 458) (by decide +kernel) rfl)
theorem tw_459 {args : Array Value} {s : State} (h : ∀ w ∈ gG, w.before args s = true) : (Cond.methodLink RL 76 yX4_granted).before args s = true := h _ (mG (i := 459) (by decide +kernel) rfl)
theorem tw_460 {args : Array Value} {s : State} (h : ∀ w ∈ gG, w.before args s = true) : (Cond.instanceMethod yX4_granted).before args s = true := h _ (mG (i := 460) (by decide +kernel) rfl)
theorem tw_461 {args : Array Value} {s : State} (h : ∀ w ∈ gG, w.before args s = true) : (Cond.selects RX4 yX4_granted yX4_granted).before args s = true := h _ (mG (i := 461) (by decide +kernel) rfl)
theorem mw_462 : Cond.code yX4_granted cX4_granted 3 (some .int) ∈ gG := mG (i := 462) (by decide +kernel) rfl
theorem tw_462 {args : Array Value} {s : State} (h : ∀ w ∈ gG, w.before args s = true) : (Cond.code yX4_granted cX4_granted 3 (some .int)).before args s = true := h _ mw_462
theorem tw_463 {args : Array Value} {s : State} (h : ∀ w ∈ gG, w.before args s = true) : (Cond.methodLink RX4 147 yX1_isGranted).before args s = true := h _ (mG (i := 463) (by decide +kernel) rfl)
theorem tw_464 {args : Array Value} {s : State} (h : ∀ w ∈ gG, w.before args s = true) : (Cond.methodLink RL 80 yX4_best).before args s = true := h _ (mG (i := 464) (by decide +kernel) rfl)
theorem tw_465 {args : Array Value} {s : State} (h : ∀ w ∈ gG, w.before args s = true) : (Cond.instanceMethod yX4_best).before args s = true := h _ (mG (i := 465) (by decide +kernel) rfl)
theorem tw_466 {args : Array Value} {s : State} (h : ∀ w ∈ gG, w.before args s = true) : (Cond.selects RX4 yX4_best yX4_best).before args s = true := h _ (mG (i := 466) (by decide +kernel) rfl)
theorem mw_467 : Cond.code yX4_best cX4_best 1 (some .int) ∈ gG := mG (i := 467) (by decide +kernel) rfl
theorem tw_467 {args : Array Value} {s : State} (h : ∀ w ∈ gG, w.before args s = true) : (Cond.code yX4_best cX4_best 1 (some .int)).before args s = true := h _ mw_467
theorem tw_468 {args : Array Value} {s : State} (h : ∀ w ∈ gG, w.before args s = true) : (Cond.methodLink RL 85 yX4_bestAt).before args s = true := h _ (mG (i := 468) (by decide +kernel) rfl)
theorem tw_469 {args : Array Value} {s : State} (h : ∀ w ∈ gG, w.before args s = true) : (Cond.instanceMethod yX4_bestAt).before args s = true := h _ (mG (i := 469) (by decide +kernel) rfl)
theorem tw_470 {args : Array Value} {s : State} (h : ∀ w ∈ gG, w.before args s = true) : (Cond.selects RX4 yX4_bestAt yX4_bestAt).before args s = true := h _ (mG (i := 470) (by decide +kernel) rfl)
theorem mw_471 : Cond.code yX4_bestAt cX4_bestAt 2 (some .int) ∈ gG := mG (i := 471) (by decide +kernel) rfl
theorem tw_471 {args : Array Value} {s : State} (h : ∀ w ∈ gG, w.before args s = true) : (Cond.code yX4_bestAt cX4_bestAt 2 (some .int)).before args s = true := h _ mw_471
theorem tw_472 {args : Array Value} {s : State} (h : ∀ w ∈ gG, w.before args s = true) : (Cond.methodLink RX4 150 yX0_pieceAt).before args s = true := h _ (mG (i := 472) (by decide +kernel) rfl)
theorem tw_473 {args : Array Value} {s : State} (h : ∀ w ∈ gG, w.before args s = true) : (Cond.instanceMethod yX0_pieceAt).before args s = true := h _ (mG (i := 473) (by decide +kernel) rfl)
theorem tw_474 {args : Array Value} {s : State} (h : ∀ w ∈ gG, w.before args s = true) : (Cond.selects RX0 yX0_pieceAt yX0_pieceAt).before args s = true := h _ (mG (i := 474) (by decide +kernel) rfl)
theorem mw_475 : Cond.code yX0_pieceAt cX0_pieceAt 6 (some .int) ∈ gG := mG (i := 475) (by decide +kernel) rfl
theorem tw_475 {args : Array Value} {s : State} (h : ∀ w ∈ gG, w.before args s = true) : (Cond.code yX0_pieceAt cX0_pieceAt 6 (some .int)).before args s = true := h _ mw_475
theorem tw_476 {args : Array Value} {s : State} (h : ∀ w ∈ gG, w.before args s = true) : (Cond.methodLink RL 89 yX4_settle).before args s = true := h _ (mG (i := 476) (by decide +kernel) rfl)
theorem tw_477 {args : Array Value} {s : State} (h : ∀ w ∈ gG, w.before args s = true) : (Cond.instanceMethod yX4_settle).before args s = true := h _ (mG (i := 477) (by decide +kernel) rfl)
theorem tw_478 {args : Array Value} {s : State} (h : ∀ w ∈ gG, w.before args s = true) : (Cond.selects RX4 yX4_settle yX4_settle).before args s = true := h _ (mG (i := 478) (by decide +kernel) rfl)
theorem mw_479 : Cond.code yX4_settle cX4_settle 4 (some .int) ∈ gG := mG (i := 479) (by decide +kernel) rfl
theorem tw_479 {args : Array Value} {s : State} (h : ∀ w ∈ gG, w.before args s = true) : (Cond.code yX4_settle cX4_settle 4 (some .int)).before args s = true := h _ mw_479
theorem tw_480 {args : Array Value} {s : State} (h : ∀ w ∈ gG, w.before args s = true) : (Cond.constant RX4 154 (1000000)).before args s = true := h _ (mG (i := 480) (by decide +kernel) rfl)
theorem tw_481 {args : Array Value} {s : State} (h : ∀ w ∈ gG, w.before args s = true) : (Cond.methodLink RL 93 yX4_edgeFor).before args s = true := h _ (mG (i := 481) (by decide +kernel) rfl)
theorem tw_482 {args : Array Value} {s : State} (h : ∀ w ∈ gG, w.before args s = true) : (Cond.instanceMethod yX4_edgeFor).before args s = true := h _ (mG (i := 482) (by decide +kernel) rfl)
theorem tw_483 {args : Array Value} {s : State} (h : ∀ w ∈ gG, w.before args s = true) : (Cond.selects RX4 yX4_edgeFor yX4_edgeFor).before args s = true := h _ (mG (i := 483) (by decide +kernel) rfl)
theorem mw_484 : Cond.code yX4_edgeFor cX4_edgeFor 2 (some .int) ∈ gG := mG (i := 484) (by decide +kernel) rfl
theorem tw_484 {args : Array Value} {s : State} (h : ∀ w ∈ gG, w.before args s = true) : (Cond.code yX4_edgeFor cX4_edgeFor 2 (some .int)).before args s = true := h _ mw_484
theorem tw_485 {args : Array Value} {s : State} (h : ∀ w ∈ gG, w.before args s = true) : (Cond.methodLink RX4 155 yX4_bestValueFor).before args s = true := h _ (mG (i := 485) (by decide +kernel) rfl)
theorem tw_487 {args : Array Value} {s : State} (h : ∀ w ∈ gG, w.before args s = true) : (Cond.instanceMethod yX4_bestValueFor).before args s = true := h _ (mG (i := 487) (by decide +kernel) rfl)
theorem mw_488 : Cond.code yX4_bestValueFor cX4_bestValueFor 8 (some .int) ∈ gG := mG (i := 488) (by decide +kernel) rfl
theorem tw_488 {args : Array Value} {s : State} (h : ∀ w ∈ gG, w.before args s = true) : (Cond.code yX4_bestValueFor cX4_bestValueFor 8 (some .int)).before args s = true := h _ mw_488
theorem tw_489 {args : Array Value} {s : State} (h : ∀ w ∈ gG, w.before args s = true) : (Cond.methodLink RL 97 yX4_kindFor).before args s = true := h _ (mG (i := 489) (by decide +kernel) rfl)
theorem tw_490 {args : Array Value} {s : State} (h : ∀ w ∈ gG, w.before args s = true) : (Cond.instanceMethod yX4_kindFor).before args s = true := h _ (mG (i := 490) (by decide +kernel) rfl)
theorem tw_491 {args : Array Value} {s : State} (h : ∀ w ∈ gG, w.before args s = true) : (Cond.selects RX4 yX4_kindFor yX4_kindFor).before args s = true := h _ (mG (i := 491) (by decide +kernel) rfl)
theorem mw_492 : Cond.code yX4_kindFor cX4_kindFor 2 (some .int) ∈ gG := mG (i := 492) (by decide +kernel) rfl
theorem tw_492 {args : Array Value} {s : State} (h : ∀ w ∈ gG, w.before args s = true) : (Cond.code yX4_kindFor cX4_kindFor 2 (some .int)).before args s = true := h _ mw_492
theorem tw_493 {args : Array Value} {s : State} (h : ∀ w ∈ gG, w.before args s = true) : (Cond.methodLink RL 101 yX4_turn).before args s = true := h _ (mG (i := 493) (by decide +kernel) rfl)
theorem tw_494 {args : Array Value} {s : State} (h : ∀ w ∈ gG, w.before args s = true) : (Cond.instanceMethod yX4_turn).before args s = true := h _ (mG (i := 494) (by decide +kernel) rfl)
theorem tw_495 {args : Array Value} {s : State} (h : ∀ w ∈ gG, w.before args s = true) : (Cond.selects RX4 yX4_turn yX4_turn).before args s = true := h _ (mG (i := 495) (by decide +kernel) rfl)
theorem mw_496 : Cond.code yX4_turn cX4_turn 6 (some .int) ∈ gG := mG (i := 496) (by decide +kernel) rfl
theorem tw_496 {args : Array Value} {s : State} (h : ∀ w ∈ gG, w.before args s = true) : (Cond.code yX4_turn cX4_turn 6 (some .int)).before args s = true := h _ mw_496
theorem tw_497 {args : Array Value} {s : State} (h : ∀ w ∈ gG, w.before args s = true) : (Cond.methodLink RX4 158 yJ6_bitCount_0f7a4).before args s = true := h _ (mG (i := 497) (by decide +kernel) rfl)
theorem tw_498 {args : Array Value} {s : State} (h : ∀ w ∈ gG, w.before args s = true) : (Cond.static yJ6_bitCount_0f7a4).before args s = true := h _ (mG (i := 498) (by decide +kernel) rfl)
theorem mw_499 : Cond.code yJ6_bitCount_0f7a4 cJ6_bitCount_0f7a4 1 (some .int) ∈ gG := mG (i := 499) (by decide +kernel) rfl
theorem tw_499 {args : Array Value} {s : State} (h : ∀ w ∈ gG, w.before args s = true) : (Cond.code yJ6_bitCount_0f7a4 cJ6_bitCount_0f7a4 1 (some .int)).before args s = true := h _ mw_499
theorem tw_500 {args : Array Value} {s : State} (h : ∀ w ∈ gG, w.before args s = true) : (Cond.constant RJ6 265 (1431655765)).before args s = true := h _ (mG (i := 500) (by decide +kernel) rfl)
theorem tw_501 {args : Array Value} {s : State} (h : ∀ w ∈ gG, w.before args s = true) : (Cond.constant RJ6 266 (858993459)).before args s = true := h _ (mG (i := 501) (by decide +kernel) rfl)
theorem tw_502 {args : Array Value} {s : State} (h : ∀ w ∈ gG, w.before args s = true) : (Cond.constant RJ6 267 (252645135)).before args s = true := h _ (mG (i := 502) (by decide +kernel) rfl)
theorem tw_503 {args : Array Value} {s : State} (h : ∀ w ∈ gG, w.before args s = true) : (Cond.methodLink RL 105 yX4_fits).before args s = true := h _ (mG (i := 503) (by decide +kernel) rfl)
theorem tw_504 {args : Array Value} {s : State} (h : ∀ w ∈ gG, w.before args s = true) : (Cond.instanceMethod yX4_fits).before args s = true := h _ (mG (i := 504) (by decide +kernel) rfl)
theorem tw_505 {args : Array Value} {s : State} (h : ∀ w ∈ gG, w.before args s = true) : (Cond.selects RX4 yX4_fits yX4_fits).before args s = true := h _ (mG (i := 505) (by decide +kernel) rfl)
theorem mw_506 : Cond.code yX4_fits cX4_fits 7 (some .int) ∈ gG := mG (i := 506) (by decide +kernel) rfl
theorem tw_506 {args : Array Value} {s : State} (h : ∀ w ∈ gG, w.before args s = true) : (Cond.code yX4_fits cX4_fits 7 (some .int)).before args s = true := h _ mw_506
theorem tw_507 {args : Array Value} {s : State} (h : ∀ w ∈ gG, w.before args s = true) : (Cond.methodLink RX4 163 yX4_wrongSheet).before args s = true := h _ (mG (i := 507) (by decide +kernel) rfl)
theorem tw_509 {args : Array Value} {s : State} (h : ∀ w ∈ gG, w.before args s = true) : (Cond.instanceMethod yX4_wrongSheet).before args s = true := h _ (mG (i := 509) (by decide +kernel) rfl)
theorem mw_510 : Cond.code yX4_wrongSheet cX4_wrongSheet 2 (some .int) ∈ gG := mG (i := 510) (by decide +kernel) rfl
theorem tw_510 {args : Array Value} {s : State} (h : ∀ w ∈ gG, w.before args s = true) : (Cond.code yX4_wrongSheet cX4_wrongSheet 2 (some .int)).before args s = true := h _ mw_510
theorem tw_511 {args : Array Value} {s : State} (h : ∀ w ∈ gG, w.before args s = true) : (Cond.methodLink RX4 210 yX4_isSheet).before args s = true := h _ (mG (i := 511) (by decide +kernel) rfl)
theorem tw_512 {args : Array Value} {s : State} (h : ∀ w ∈ gG, w.before args s = true) : (Cond.static yX4_isSheet).before args s = true := h _ (mG (i := 512) (by decide +kernel) rfl)
theorem mw_513 : Cond.code yX4_isSheet cX4_isSheet 1 (some .boolean) ∈ gG := mG (i := 513) (by decide +kernel) rfl
theorem tw_513 {args : Array Value} {s : State} (h : ∀ w ∈ gG, w.before args s = true) : (Cond.code yX4_isSheet cX4_isSheet 1 (some .boolean)).before args s = true := h _ mw_513
theorem tw_514 {args : Array Value} {s : State} (h : ∀ w ∈ gG, w.before args s = true) : (Cond.methodLink RX4 172 yX4_trialGoesAs).before args s = true := h _ (mG (i := 514) (by decide +kernel) rfl)
theorem tw_516 {args : Array Value} {s : State} (h : ∀ w ∈ gG, w.before args s = true) : (Cond.instanceMethod yX4_trialGoesAs).before args s = true := h _ (mG (i := 516) (by decide +kernel) rfl)
theorem mw_517 : Cond.code yX4_trialGoesAs cX4_trialGoesAs 4 (some .boolean) ∈ gG := mG (i := 517) (by decide +kernel) rfl
theorem tw_517 {args : Array Value} {s : State} (h : ∀ w ∈ gG, w.before args s = true) : (Cond.code yX4_trialGoesAs cX4_trialGoesAs 4 (some .boolean)).before args s = true := h _ mw_517
theorem tw_518 {args : Array Value} {s : State} (h : ∀ w ∈ gG, w.before args s = true) : (Cond.methodLink RX4 251 yJ9_min_7cf53).before args s = true := h _ (mG (i := 518) (by decide +kernel) rfl)
theorem tw_519 {args : Array Value} {s : State} (h : ∀ w ∈ gG, w.before args s = true) : (Cond.methodLink RL 109 yX4_kinds).before args s = true := h _ (mG (i := 519) (by decide +kernel) rfl)
theorem tw_520 {args : Array Value} {s : State} (h : ∀ w ∈ gG, w.before args s = true) : (Cond.instanceMethod yX4_kinds).before args s = true := h _ (mG (i := 520) (by decide +kernel) rfl)
theorem tw_521 {args : Array Value} {s : State} (h : ∀ w ∈ gG, w.before args s = true) : (Cond.selects RX4 yX4_kinds yX4_kinds).before args s = true := h _ (mG (i := 521) (by decide +kernel) rfl)
theorem mw_522 : Cond.code yX4_kinds cX4_kinds 6 (some .int) ∈ gG := mG (i := 522) (by decide +kernel) rfl
theorem tw_522 {args : Array Value} {s : State} (h : ∀ w ∈ gG, w.before args s = true) : (Cond.code yX4_kinds cX4_kinds 6 (some .int)).before args s = true := h _ mw_522
theorem tw_523 {args : Array Value} {s : State} (h : ∀ w ∈ gG, w.before args s = true) : (Cond.methodLink RL 113 yX4_tip).before args s = true := h _ (mG (i := 523) (by decide +kernel) rfl)
theorem tw_524 {args : Array Value} {s : State} (h : ∀ w ∈ gG, w.before args s = true) : (Cond.instanceMethod yX4_tip).before args s = true := h _ (mG (i := 524) (by decide +kernel) rfl)
theorem tw_525 {args : Array Value} {s : State} (h : ∀ w ∈ gG, w.before args s = true) : (Cond.selects RX4 yX4_tip yX4_tip).before args s = true := h _ (mG (i := 525) (by decide +kernel) rfl)
theorem mw_526 : Cond.code yX4_tip cX4_tip 5 (some .int) ∈ gG := mG (i := 526) (by decide +kernel) rfl
theorem tw_526 {args : Array Value} {s : State} (h : ∀ w ∈ gG, w.before args s = true) : (Cond.code yX4_tip cX4_tip 5 (some .int)).before args s = true := h _ mw_526
theorem tw_527 {args : Array Value} {s : State} (h : ∀ w ∈ gG, w.before args s = true) : (Cond.methodLink RX4 179 yX1_draw).before args s = true := h _ (mG (i := 527) (by decide +kernel) rfl)
theorem tw_528 {args : Array Value} {s : State} (h : ∀ w ∈ gG, w.before args s = true) : (Cond.instanceMethod yX1_draw).before args s = true := h _ (mG (i := 528) (by decide +kernel) rfl)
theorem tw_529 {args : Array Value} {s : State} (h : ∀ w ∈ gG, w.before args s = true) : (Cond.selects RX1 yX1_draw yX1_draw).before args s = true := h _ (mG (i := 529) (by decide +kernel) rfl)
theorem mw_530 : Cond.code yX1_draw cX1_draw 1 (some .int) ∈ gG := mG (i := 530) (by decide +kernel) rfl
theorem tw_530 {args : Array Value} {s : State} (h : ∀ w ∈ gG, w.before args s = true) : (Cond.code yX1_draw cX1_draw 1 (some .int)).before args s = true := h _ mw_530
theorem tw_531 {args : Array Value} {s : State} (h : ∀ w ∈ gG, w.before args s = true) : (Cond.constant RX1 99 (1103515245)).before args s = true := h _ (mG (i := 531) (by decide +kernel) rfl)
theorem tw_532 {args : Array Value} {s : State} (h : ∀ w ∈ gG, w.before args s = true) : (Cond.methodLink RL 117 yX4_odds).before args s = true := h _ (mG (i := 532) (by decide +kernel) rfl)
theorem tw_533 {args : Array Value} {s : State} (h : ∀ w ∈ gG, w.before args s = true) : (Cond.instanceMethod yX4_odds).before args s = true := h _ (mG (i := 533) (by decide +kernel) rfl)
theorem tw_534 {args : Array Value} {s : State} (h : ∀ w ∈ gG, w.before args s = true) : (Cond.selects RX4 yX4_odds yX4_odds).before args s = true := h _ (mG (i := 534) (by decide +kernel) rfl)
theorem mw_535 : Cond.code yX4_odds cX4_odds 5 (some .long) ∈ gG := mG (i := 535) (by decide +kernel) rfl
theorem tw_535 {args : Array Value} {s : State} (h : ∀ w ∈ gG, w.before args s = true) : (Cond.code yX4_odds cX4_odds 5 (some .long)).before args s = true := h _ mw_535
theorem tw_536 {args : Array Value} {s : State} (h : ∀ w ∈ gG, w.before args s = true) : (Cond.methodLink RX4 182 yX4_harmlessSwaps).before args s = true := h _ (mG (i := 536) (by decide +kernel) rfl)
theorem tw_538 {args : Array Value} {s : State} (h : ∀ w ∈ gG, w.before args s = true) : (Cond.instanceMethod yX4_harmlessSwaps).before args s = true := h _ (mG (i := 538) (by decide +kernel) rfl)
theorem mw_539 : Cond.code yX4_harmlessSwaps cX4_harmlessSwaps 5 (some .int) ∈ gG := mG (i := 539) (by decide +kernel) rfl
theorem tw_539 {args : Array Value} {s : State} (h : ∀ w ∈ gG, w.before args s = true) : (Cond.code yX4_harmlessSwaps cX4_harmlessSwaps 5 (some .int)).before args s = true := h _ mw_539
theorem tw_540 {args : Array Value} {s : State} (h : ∀ w ∈ gG, w.before args s = true) : (Cond.methodLink RX4 185 yX4_power).before args s = true := h _ (mG (i := 540) (by decide +kernel) rfl)
theorem tw_541 {args : Array Value} {s : State} (h : ∀ w ∈ gG, w.before args s = true) : (Cond.static yX4_power).before args s = true := h _ (mG (i := 541) (by decide +kernel) rfl)
theorem mw_542 : Cond.code yX4_power cX4_power 5 (some .long) ∈ gG := mG (i := 542) (by decide +kernel) rfl
theorem tw_542 {args : Array Value} {s : State} (h : ∀ w ∈ gG, w.before args s = true) : (Cond.code yX4_power cX4_power 5 (some .long)).before args s = true := h _ mw_542
theorem tw_543 {args : Array Value} {s : State} (h : ∀ w ∈ gG, w.before args s = true) : (Cond.methodLink RL 122 yX4_seed).before args s = true := h _ (mG (i := 543) (by decide +kernel) rfl)
theorem tw_544 {args : Array Value} {s : State} (h : ∀ w ∈ gG, w.before args s = true) : (Cond.instanceMethod yX4_seed).before args s = true := h _ (mG (i := 544) (by decide +kernel) rfl)
theorem tw_545 {args : Array Value} {s : State} (h : ∀ w ∈ gG, w.before args s = true) : (Cond.selects RX4 yX4_seed yX4_seed).before args s = true := h _ (mG (i := 545) (by decide +kernel) rfl)
theorem mw_546 : Cond.code yX4_seed cX4_seed 3 (some .int) ∈ gG := mG (i := 546) (by decide +kernel) rfl
theorem tw_546 {args : Array Value} {s : State} (h : ∀ w ∈ gG, w.before args s = true) : (Cond.code yX4_seed cX4_seed 3 (some .int)).before args s = true := h _ mw_546
theorem tw_547 {args : Array Value} {s : State} (h : ∀ w ∈ gG, w.before args s = true) : (Cond.methodLink RL 126 yX4_feed).before args s = true := h _ (mG (i := 547) (by decide +kernel) rfl)
theorem tw_548 {args : Array Value} {s : State} (h : ∀ w ∈ gG, w.before args s = true) : (Cond.instanceMethod yX4_feed).before args s = true := h _ (mG (i := 548) (by decide +kernel) rfl)
theorem tw_549 {args : Array Value} {s : State} (h : ∀ w ∈ gG, w.before args s = true) : (Cond.selects RX4 yX4_feed yX4_feed).before args s = true := h _ (mG (i := 549) (by decide +kernel) rfl)
theorem mw_550 : Cond.code yX4_feed cX4_feed 3 (some .int) ∈ gG := mG (i := 550) (by decide +kernel) rfl
theorem tw_550 {args : Array Value} {s : State} (h : ∀ w ∈ gG, w.before args s = true) : (Cond.code yX4_feed cX4_feed 3 (some .int)).before args s = true := h _ mw_550
theorem tw_551 {args : Array Value} {s : State} (h : ∀ w ∈ gG, w.before args s = true) : (Cond.methodLink RX4 195 yX3_append).before args s = true := h _ (mG (i := 551) (by decide +kernel) rfl)
theorem tw_552 {args : Array Value} {s : State} (h : ∀ w ∈ gG, w.before args s = true) : (Cond.instanceMethod yX3_append).before args s = true := h _ (mG (i := 552) (by decide +kernel) rfl)
theorem tw_553 {args : Array Value} {s : State} (h : ∀ w ∈ gG, w.before args s = true) : (Cond.selects RX3 yX3_append yX3_append).before args s = true := h _ (mG (i := 553) (by decide +kernel) rfl)
theorem mw_554 : Cond.code yX3_append cX3_append 4 none ∈ gG := mG (i := 554) (by decide +kernel) rfl
theorem tw_554 {args : Array Value} {s : State} (h : ∀ w ∈ gG, w.before args s = true) : (Cond.code yX3_append cX3_append 4 none).before args s = true := h _ mw_554
theorem tw_555 {args : Array Value} {s : State} (h : ∀ w ∈ gG, w.before args s = true) : (Cond.methodLink RL 130 yX4_wipe).before args s = true := h _ (mG (i := 555) (by decide +kernel) rfl)
theorem tw_556 {args : Array Value} {s : State} (h : ∀ w ∈ gG, w.before args s = true) : (Cond.instanceMethod yX4_wipe).before args s = true := h _ (mG (i := 556) (by decide +kernel) rfl)
theorem tw_557 {args : Array Value} {s : State} (h : ∀ w ∈ gG, w.before args s = true) : (Cond.selects RX4 yX4_wipe yX4_wipe).before args s = true := h _ (mG (i := 557) (by decide +kernel) rfl)
theorem mw_558 : Cond.code yX4_wipe cX4_wipe 2 (some .int) ∈ gG := mG (i := 558) (by decide +kernel) rfl
theorem tw_558 {args : Array Value} {s : State} (h : ∀ w ∈ gG, w.before args s = true) : (Cond.code yX4_wipe cX4_wipe 2 (some .int)).before args s = true := h _ mw_558
theorem tw_559 {args : Array Value} {s : State} (h : ∀ w ∈ gG, w.before args s = true) : (Cond.methodLink RL 134 yX4_text).before args s = true := h _ (mG (i := 559) (by decide +kernel) rfl)
theorem tw_560 {args : Array Value} {s : State} (h : ∀ w ∈ gG, w.before args s = true) : (Cond.instanceMethod yX4_text).before args s = true := h _ (mG (i := 560) (by decide +kernel) rfl)
theorem tw_561 {args : Array Value} {s : State} (h : ∀ w ∈ gG, w.before args s = true) : (Cond.selects RX4 yX4_text yX4_text).before args s = true := h _ (mG (i := 561) (by decide +kernel) rfl)
theorem mw_562 : Cond.code yX4_text cX4_text 2 (some .int) ∈ gG := mG (i := 562) (by decide +kernel) rfl
theorem tw_562 {args : Array Value} {s : State} (h : ∀ w ∈ gG, w.before args s = true) : (Cond.code yX4_text cX4_text 2 (some .int)).before args s = true := h _ mw_562
theorem tw_563 {args : Array Value} {s : State} (h : ∀ w ∈ gG, w.before args s = true) : (Cond.methodLink RX4 198 yX3_readInto).before args s = true := h _ (mG (i := 563) (by decide +kernel) rfl)
theorem tw_564 {args : Array Value} {s : State} (h : ∀ w ∈ gG, w.before args s = true) : (Cond.instanceMethod yX3_readInto).before args s = true := h _ (mG (i := 564) (by decide +kernel) rfl)
theorem tw_565 {args : Array Value} {s : State} (h : ∀ w ∈ gG, w.before args s = true) : (Cond.selects RX3 yX3_readInto yX3_readInto).before args s = true := h _ (mG (i := 565) (by decide +kernel) rfl)
theorem mw_566 : Cond.code yX3_readInto cX3_readInto 3 (some .int) ∈ gG := mG (i := 566) (by decide +kernel) rfl
theorem tw_566 {args : Array Value} {s : State} (h : ∀ w ∈ gG, w.before args s = true) : (Cond.code yX3_readInto cX3_readInto 3 (some .int)).before args s = true := h _ mw_566
theorem tw_567 {args : Array Value} {s : State} (h : ∀ w ∈ gG, w.before args s = true) : (Cond.methodLink RX3 22 yX3_step).before args s = true := h _ (mG (i := 567) (by decide +kernel) rfl)
theorem tw_569 {args : Array Value} {s : State} (h : ∀ w ∈ gG, w.before args s = true) : (Cond.instanceMethod yX3_step).before args s = true := h _ (mG (i := 569) (by decide +kernel) rfl)
theorem mw_570 : Cond.code yX3_step cX3_step 2 none ∈ gG := mG (i := 570) (by decide +kernel) rfl
theorem tw_570 {args : Array Value} {s : State} (h : ∀ w ∈ gG, w.before args s = true) : (Cond.code yX3_step cX3_step 2 none).before args s = true := h _ mw_570
theorem tw_571 {args : Array Value} {s : State} (h : ∀ w ∈ gG, w.before args s = true) : (Cond.methodLink RX3 115 yX3_sortAt).before args s = true := h _ (mG (i := 571) (by decide +kernel) rfl)
theorem tw_573 {args : Array Value} {s : State} (h : ∀ w ∈ gG, w.before args s = true) : (Cond.instanceMethod yX3_sortAt).before args s = true := h _ (mG (i := 573) (by decide +kernel) rfl)
theorem mw_574 : Cond.code yX3_sortAt cX3_sortAt 2 (some .int) ∈ gG := mG (i := 574) (by decide +kernel) rfl
theorem tw_574 {args : Array Value} {s : State} (h : ∀ w ∈ gG, w.before args s = true) : (Cond.code yX3_sortAt cX3_sortAt 2 (some .int)).before args s = true := h _ mw_574
theorem tw_575 {args : Array Value} {s : State} (h : ∀ w ∈ gG, w.before args s = true) : (Cond.methodLink RX3 25 yX3_readItem).before args s = true := h _ (mG (i := 575) (by decide +kernel) rfl)
theorem tw_577 {args : Array Value} {s : State} (h : ∀ w ∈ gG, w.before args s = true) : (Cond.instanceMethod yX3_readItem).before args s = true := h _ (mG (i := 577) (by decide +kernel) rfl)
theorem mw_578 : Cond.code yX3_readItem cX3_readItem 3 (some .boolean) ∈ gG := mG (i := 578) (by decide +kernel) rfl
theorem tw_578 {args : Array Value} {s : State} (h : ∀ w ∈ gG, w.before args s = true) : (Cond.code yX3_readItem cX3_readItem 3 (some .boolean)).before args s = true := h _ mw_578
theorem tw_579 {args : Array Value} {s : State} (h : ∀ w ∈ gG, w.before args s = true) : (Cond.methodLink RX3 35 yX3_kindNamed).before args s = true := h _ (mG (i := 579) (by decide +kernel) rfl)
theorem tw_581 {args : Array Value} {s : State} (h : ∀ w ∈ gG, w.before args s = true) : (Cond.instanceMethod yX3_kindNamed).before args s = true := h _ (mG (i := 581) (by decide +kernel) rfl)
theorem mw_582 : Cond.code yX3_kindNamed cX3_kindNamed 2 (some .int) ∈ gG := mG (i := 582) (by decide +kernel) rfl
theorem tw_582 {args : Array Value} {s : State} (h : ∀ w ∈ gG, w.before args s = true) : (Cond.code yX3_kindNamed cX3_kindNamed 2 (some .int)).before args s = true := h _ mw_582
theorem tw_583 {args : Array Value} {s : State} (h : ∀ w ∈ gG, w.before args s = true) : (Cond.methodLink RX3 89 yX3_nameOf).before args s = true := h _ (mG (i := 583) (by decide +kernel) rfl)
theorem tw_584 {args : Array Value} {s : State} (h : ∀ w ∈ gG, w.before args s = true) : (Cond.static yX3_nameOf).before args s = true := h _ (mG (i := 584) (by decide +kernel) rfl)
theorem mw_585 : Cond.code yX3_nameOf cX3_nameOf 1 (some (.object "java/lang/String")) ∈ gG := mG (i := 585) (by decide +kernel) rfl
theorem tw_585 {args : Array Value} {s : State} (h : ∀ w ∈ gG, w.before args s = true) : (Cond.code yX3_nameOf cX3_nameOf 1 (some (.object "java/lang/String"))).before args s = true := h _ mw_585
theorem tw_593 {args : Array Value} {s : State} (h : ∀ w ∈ gG, w.before args s = true) : (Cond.methodLink RX3 45 yX3_isWord).before args s = true := h _ (mG (i := 593) (by decide +kernel) rfl)
theorem tw_595 {args : Array Value} {s : State} (h : ∀ w ∈ gG, w.before args s = true) : (Cond.instanceMethod yX3_isWord).before args s = true := h _ (mG (i := 595) (by decide +kernel) rfl)
theorem mw_596 : Cond.code yX3_isWord cX3_isWord 3 (some .boolean) ∈ gG := mG (i := 596) (by decide +kernel) rfl
theorem tw_596 {args : Array Value} {s : State} (h : ∀ w ∈ gG, w.before args s = true) : (Cond.code yX3_isWord cX3_isWord 3 (some .boolean)).before args s = true := h _ mw_596
theorem tw_597 {args : Array Value} {s : State} (h : ∀ w ∈ gG, w.before args s = true) : (Cond.methodLink RX3 107 yJ0_length_8abf5).before args s = true := h _ (mG (i := 597) (by decide +kernel) rfl)
theorem tw_598 {args : Array Value} {s : State} (h : ∀ w ∈ gG, w.before args s = true) : (Cond.instanceMethod yJ0_length_8abf5).before args s = true := h _ (mG (i := 598) (by decide +kernel) rfl)
theorem tw_599 {args : Array Value} {s : State} (h : ∀ w ∈ gG, w.before args s = true) : (Cond.selects RJ0 yJ0_length_8abf5 yJ0_length_8abf5).before args s = true := h _ (mG (i := 599) (by decide +kernel) rfl)
theorem mw_600 : Cond.code yJ0_length_8abf5 cJ0_length_8abf5 1 (some .int) ∈ gG := mG (i := 600) (by decide +kernel) rfl
theorem tw_600 {args : Array Value} {s : State} (h : ∀ w ∈ gG, w.before args s = true) : (Cond.code yJ0_length_8abf5 cJ0_length_8abf5 1 (some .int)).before args s = true := h _ mw_600
theorem tw_601 {args : Array Value} {s : State} (h : ∀ w ∈ gG, w.before args s = true) : (Cond.methodLink RJ0 335 yJ0_coder_7d493).before args s = true := h _ (mG (i := 601) (by decide +kernel) rfl)
theorem tw_602 {args : Array Value} {s : State} (h : ∀ w ∈ gG, w.before args s = true) : (Cond.instanceMethod yJ0_coder_7d493).before args s = true := h _ (mG (i := 602) (by decide +kernel) rfl)
theorem tw_603 {args : Array Value} {s : State} (h : ∀ w ∈ gG, w.before args s = true) : (Cond.selects RJ0 yJ0_coder_7d493 yJ0_coder_7d493).before args s = true := h _ (mG (i := 603) (by decide +kernel) rfl)
theorem mw_604 : Cond.code yJ0_coder_7d493 cJ0_coder_7d493 1 (some .byte) ∈ gG := mG (i := 604) (by decide +kernel) rfl
theorem tw_604 {args : Array Value} {s : State} (h : ∀ w ∈ gG, w.before args s = true) : (Cond.code yJ0_coder_7d493 cJ0_coder_7d493 1 (some .byte)).before args s = true := h _ mw_604
theorem tw_605 {args : Array Value} {s : State} (h : ∀ w ∈ gG, w.before args s = true) : (Cond.fieldLink RJ0 38 "java/lang/String" "COMPACT_STRINGS" "Z").before args s = true := h _ (mG (i := 605) (by decide +kernel) rfl)
theorem tw_607 {args : Array Value} {s : State} (h : ∀ w ∈ gG, w.before args s = true) : (Cond.methodLink RX3 111 yJ0_charAt_5068e).before args s = true := h _ (mG (i := 607) (by decide +kernel) rfl)
theorem tw_608 {args : Array Value} {s : State} (h : ∀ w ∈ gG, w.before args s = true) : (Cond.instanceMethod yJ0_charAt_5068e).before args s = true := h _ (mG (i := 608) (by decide +kernel) rfl)
theorem tw_609 {args : Array Value} {s : State} (h : ∀ w ∈ gG, w.before args s = true) : (Cond.selects RJ0 yJ0_charAt_5068e yJ0_charAt_5068e).before args s = true := h _ (mG (i := 609) (by decide +kernel) rfl)
theorem mw_610 : Cond.code yJ0_charAt_5068e cJ0_charAt_5068e 2 (some .char) ∈ gG := mG (i := 610) (by decide +kernel) rfl
theorem tw_610 {args : Array Value} {s : State} (h : ∀ w ∈ gG, w.before args s = true) : (Cond.code yJ0_charAt_5068e cJ0_charAt_5068e 2 (some .char)).before args s = true := h _ mw_610
theorem tw_611 {args : Array Value} {s : State} (h : ∀ w ∈ gG, w.before args s = true) : (Cond.methodLink RJ0 492 yJ0_isLatin1_aae02).before args s = true := h _ (mG (i := 611) (by decide +kernel) rfl)
theorem tw_612 {args : Array Value} {s : State} (h : ∀ w ∈ gG, w.before args s = true) : (Cond.instanceMethod yJ0_isLatin1_aae02).before args s = true := h _ (mG (i := 612) (by decide +kernel) rfl)
theorem tw_613 {args : Array Value} {s : State} (h : ∀ w ∈ gG, w.before args s = true) : (Cond.selects RJ0 yJ0_isLatin1_aae02 yJ0_isLatin1_aae02).before args s = true := h _ (mG (i := 613) (by decide +kernel) rfl)
theorem mw_614 : Cond.code yJ0_isLatin1_aae02 cJ0_isLatin1_aae02 1 (some .boolean) ∈ gG := mG (i := 614) (by decide +kernel) rfl
theorem tw_614 {args : Array Value} {s : State} (h : ∀ w ∈ gG, w.before args s = true) : (Cond.code yJ0_isLatin1_aae02 cJ0_isLatin1_aae02 1 (some .boolean)).before args s = true := h _ mw_614
theorem tw_615 {args : Array Value} {s : State} (h : ∀ w ∈ gG, w.before args s = true) : (Cond.methodLink RJ0 495 yJ1_charAt_3b067).before args s = true := h _ (mG (i := 615) (by decide +kernel) rfl)
theorem tw_616 {args : Array Value} {s : State} (h : ∀ w ∈ gG, w.before args s = true) : (Cond.static yJ1_charAt_3b067).before args s = true := h _ (mG (i := 616) (by decide +kernel) rfl)
theorem mw_617 : Cond.code yJ1_charAt_3b067 cJ1_charAt_3b067 2 (some .char) ∈ gG := mG (i := 617) (by decide +kernel) rfl
theorem tw_617 {args : Array Value} {s : State} (h : ∀ w ∈ gG, w.before args s = true) : (Cond.code yJ1_charAt_3b067 cJ1_charAt_3b067 2 (some .char)).before args s = true := h _ mw_617
theorem tw_618 {args : Array Value} {s : State} (h : ∀ w ∈ gG, w.before args s = true) : (Cond.methodLink RJ1 9 yJ0_checkIndex_df160).before args s = true := h _ (mG (i := 618) (by decide +kernel) rfl)
theorem tw_619 {args : Array Value} {s : State} (h : ∀ w ∈ gG, w.before args s = true) : (Cond.static yJ0_checkIndex_df160).before args s = true := h _ (mG (i := 619) (by decide +kernel) rfl)
theorem mw_620 : Cond.code yJ0_checkIndex_df160 cJ0_checkIndex_df160 2 none ∈ gG := mG (i := 620) (by decide +kernel) rfl
theorem tw_620 {args : Array Value} {s : State} (h : ∀ w ∈ gG, w.before args s = true) : (Cond.code yJ0_checkIndex_df160 cJ0_checkIndex_df160 2 none).before args s = true := h _ mw_620
theorem tw_621 {args : Array Value} {s : State} (h : ∀ w ∈ gG, w.before args s = true) : (Cond.fieldLink RJ0 1053 "jdk/internal/util/Preconditions" "SIOOBE_FORMATTER" "Ljava/util/function/BiFunction;").before args s = true := h _ (mG (i := 621) (by decide +kernel) rfl)
theorem tw_623 {args : Array Value} {s : State} (h : ∀ w ∈ gG, w.before args s = true) : (Cond.methodLink RJ0 1059 yJ3_checkIndex_8e157).before args s = true := h _ (mG (i := 623) (by decide +kernel) rfl)
theorem tw_624 {args : Array Value} {s : State} (h : ∀ w ∈ gG, w.before args s = true) : (Cond.static yJ3_checkIndex_8e157).before args s = true := h _ (mG (i := 624) (by decide +kernel) rfl)
theorem mw_625 : Cond.code yJ3_checkIndex_8e157 cJ3_checkIndex_8e157 3 (some .int) ∈ gG := mG (i := 625) (by decide +kernel) rfl
theorem tw_625 {args : Array Value} {s : State} (h : ∀ w ∈ gG, w.before args s = true) : (Cond.code yJ3_checkIndex_8e157 cJ3_checkIndex_8e157 3 (some .int)).before args s = true := h _ mw_625
theorem tw_626 {args : Array Value} {s : State} (h : ∀ w ∈ gG, w.before args s = true) : (Cond.methodLink RJ0 498 yJ2_charAt_3b067).before args s = true := h _ (mG (i := 626) (by decide +kernel) rfl)
theorem tw_627 {args : Array Value} {s : State} (h : ∀ w ∈ gG, w.before args s = true) : (Cond.static yJ2_charAt_3b067).before args s = true := h _ (mG (i := 627) (by decide +kernel) rfl)
theorem mw_628 : Cond.code yJ2_charAt_3b067 cJ2_charAt_3b067 2 (some .char) ∈ gG := mG (i := 628) (by decide +kernel) rfl
theorem tw_628 {args : Array Value} {s : State} (h : ∀ w ∈ gG, w.before args s = true) : (Cond.code yJ2_charAt_3b067 cJ2_charAt_3b067 2 (some .char)).before args s = true := h _ mw_628
theorem tw_629 {args : Array Value} {s : State} (h : ∀ w ∈ gG, w.before args s = true) : (Cond.methodLink RJ2 67 yJ2_checkIndex_2214a).before args s = true := h _ (mG (i := 629) (by decide +kernel) rfl)
theorem tw_630 {args : Array Value} {s : State} (h : ∀ w ∈ gG, w.before args s = true) : (Cond.static yJ2_checkIndex_2214a).before args s = true := h _ (mG (i := 630) (by decide +kernel) rfl)
theorem mw_631 : Cond.code yJ2_checkIndex_2214a cJ2_checkIndex_2214a 2 none ∈ gG := mG (i := 631) (by decide +kernel) rfl
theorem tw_631 {args : Array Value} {s : State} (h : ∀ w ∈ gG, w.before args s = true) : (Cond.code yJ2_checkIndex_2214a cJ2_checkIndex_2214a 2 none).before args s = true := h _ mw_631
theorem tw_632 {args : Array Value} {s : State} (h : ∀ w ∈ gG, w.before args s = true) : (Cond.methodLink RJ2 48 yJ2_length_9d52b).before args s = true := h _ (mG (i := 632) (by decide +kernel) rfl)
theorem tw_633 {args : Array Value} {s : State} (h : ∀ w ∈ gG, w.before args s = true) : (Cond.static yJ2_length_9d52b).before args s = true := h _ (mG (i := 633) (by decide +kernel) rfl)
theorem mw_634 : Cond.code yJ2_length_9d52b cJ2_length_9d52b 1 (some .int) ∈ gG := mG (i := 634) (by decide +kernel) rfl
theorem tw_634 {args : Array Value} {s : State} (h : ∀ w ∈ gG, w.before args s = true) : (Cond.code yJ2_length_9d52b cJ2_length_9d52b 1 (some .int)).before args s = true := h _ mw_634
theorem tw_635 {args : Array Value} {s : State} (h : ∀ w ∈ gG, w.before args s = true) : (Cond.methodLink RJ2 414 yJ0_checkIndex_df160).before args s = true := h _ (mG (i := 635) (by decide +kernel) rfl)
theorem tw_636 {args : Array Value} {s : State} (h : ∀ w ∈ gG, w.before args s = true) : (Cond.methodLink RJ2 71 yJ2_getChar_3b067).before args s = true := h _ (mG (i := 636) (by decide +kernel) rfl)
theorem tw_637 {args : Array Value} {s : State} (h : ∀ w ∈ gG, w.before args s = true) : (Cond.static yJ2_getChar_3b067).before args s = true := h _ (mG (i := 637) (by decide +kernel) rfl)
theorem mw_638 : Cond.code yJ2_getChar_3b067 cJ2_getChar_3b067 2 (some .char) ∈ gG := mG (i := 638) (by decide +kernel) rfl
theorem tw_638 {args : Array Value} {s : State} (h : ∀ w ∈ gG, w.before args s = true) : (Cond.code yJ2_getChar_3b067 cJ2_getChar_3b067 2 (some .char)).before args s = true := h _ mw_638
theorem tw_639 {args : Array Value} {s : State} (h : ∀ w ∈ gG, w.before args s = true) : (Cond.fieldLink RJ2 44 "java/lang/StringUTF16" "$assertionsDisabled" "Z").before args s = true := h _ (mG (i := 639) (by decide +kernel) rfl)
theorem tw_641 {args : Array Value} {s : State} (h : ∀ w ∈ gG, w.before args s = true) : (Cond.fieldLink RJ2 59 "java/lang/StringUTF16" "HI_BYTE_SHIFT" "I").before args s = true := h _ (mG (i := 641) (by decide +kernel) rfl)
theorem tw_643 {args : Array Value} {s : State} (h : ∀ w ∈ gG, w.before args s = true) : (Cond.fieldLink RJ2 63 "java/lang/StringUTF16" "LO_BYTE_SHIFT" "I").before args s = true := h _ (mG (i := 643) (by decide +kernel) rfl)
theorem tw_645 {args : Array Value} {s : State} (h : ∀ w ∈ gG, w.before args s = true) : (Cond.methodLink RX3 39 yX3_readPiece).before args s = true := h _ (mG (i := 645) (by decide +kernel) rfl)
theorem tw_647 {args : Array Value} {s : State} (h : ∀ w ∈ gG, w.before args s = true) : (Cond.instanceMethod yX3_readPiece).before args s = true := h _ (mG (i := 647) (by decide +kernel) rfl)
theorem mw_648 : Cond.code yX3_readPiece cX3_readPiece 7 (some .boolean) ∈ gG := mG (i := 648) (by decide +kernel) rfl
theorem tw_648 {args : Array Value} {s : State} (h : ∀ w ∈ gG, w.before args s = true) : (Cond.code yX3_readPiece cX3_readPiece 7 (some .boolean)).before args s = true := h _ mw_648
theorem tw_649 {args : Array Value} {s : State} (h : ∀ w ∈ gG, w.before args s = true) : (Cond.methodLink RX3 62 yX3_readNumber).before args s = true := h _ (mG (i := 649) (by decide +kernel) rfl)
theorem tw_651 {args : Array Value} {s : State} (h : ∀ w ∈ gG, w.before args s = true) : (Cond.instanceMethod yX3_readNumber).before args s = true := h _ (mG (i := 651) (by decide +kernel) rfl)
theorem mw_652 : Cond.code yX3_readNumber cX3_readNumber 3 (some .int) ∈ gG := mG (i := 652) (by decide +kernel) rfl
theorem tw_652 {args : Array Value} {s : State} (h : ∀ w ∈ gG, w.before args s = true) : (Cond.code yX3_readNumber cX3_readNumber 3 (some .int)).before args s = true := h _ mw_652
theorem tw_653 {args : Array Value} {s : State} (h : ∀ w ∈ gG, w.before args s = true) : (Cond.methodLink RX3 86 yX3_valueOfDigits).before args s = true := h _ (mG (i := 653) (by decide +kernel) rfl)
theorem tw_655 {args : Array Value} {s : State} (h : ∀ w ∈ gG, w.before args s = true) : (Cond.instanceMethod yX3_valueOfDigits).before args s = true := h _ (mG (i := 655) (by decide +kernel) rfl)
theorem mw_656 : Cond.code yX3_valueOfDigits cX3_valueOfDigits 3 (some .int) ∈ gG := mG (i := 656) (by decide +kernel) rfl
theorem tw_656 {args : Array Value} {s : State} (h : ∀ w ∈ gG, w.before args s = true) : (Cond.code yX3_valueOfDigits cX3_valueOfDigits 3 (some .int)).before args s = true := h _ mw_656
theorem tw_657 {args : Array Value} {s : State} (h : ∀ w ∈ gG, w.before args s = true) : (Cond.methodLink RX3 118 yJ9_min_7cf53).before args s = true := h _ (mG (i := 657) (by decide +kernel) rfl)
theorem tw_658 {args : Array Value} {s : State} (h : ∀ w ∈ gG, w.before args s = true) : (Cond.methodLink RX3 66 yX1_addPiece).before args s = true := h _ (mG (i := 658) (by decide +kernel) rfl)
theorem tw_662 {args : Array Value} {s : State} (h : ∀ w ∈ gG, w.before args s = true) : (Cond.methodLink RX3 49 yX3_readSwap).before args s = true := h _ (mG (i := 662) (by decide +kernel) rfl)
theorem tw_664 {args : Array Value} {s : State} (h : ∀ w ∈ gG, w.before args s = true) : (Cond.instanceMethod yX3_readSwap).before args s = true := h _ (mG (i := 664) (by decide +kernel) rfl)
theorem mw_665 : Cond.code yX3_readSwap cX3_readSwap 5 (some .boolean) ∈ gG := mG (i := 665) (by decide +kernel) rfl
theorem tw_665 {args : Array Value} {s : State} (h : ∀ w ∈ gG, w.before args s = true) : (Cond.code yX3_readSwap cX3_readSwap 5 (some .boolean)).before args s = true := h _ mw_665
theorem tw_667 {args : Array Value} {s : State} (h : ∀ w ∈ gG, w.before args s = true) : (Cond.methodLink RX3 54 yX3_readLay).before args s = true := h _ (mG (i := 667) (by decide +kernel) rfl)
theorem tw_669 {args : Array Value} {s : State} (h : ∀ w ∈ gG, w.before args s = true) : (Cond.instanceMethod yX3_readLay).before args s = true := h _ (mG (i := 669) (by decide +kernel) rfl)
theorem mw_670 : Cond.code yX3_readLay cX3_readLay 4 (some .boolean) ∈ gG := mG (i := 670) (by decide +kernel) rfl
theorem tw_670 {args : Array Value} {s : State} (h : ∀ w ∈ gG, w.before args s = true) : (Cond.code yX3_readLay cX3_readLay 4 (some .boolean)).before args s = true := h _ mw_670
theorem tw_671 {args : Array Value} {s : State} (h : ∀ w ∈ gG, w.before args s = true) : (Cond.methodLink RX3 82 yX1_exchange).before args s = true := h _ (mG (i := 671) (by decide +kernel) rfl)
theorem tw_672 {args : Array Value} {s : State} (h : ∀ w ∈ gG, w.before args s = true) : (Cond.arrayClass .byte).before args s = true := h _ (mG (i := 672) (by decide +kernel) rfl)
theorem tw_673 {args : Array Value} {s : State} (h : ∀ w ∈ gG, w.before args s = true) : (Cond.methodLink RL 138 yX4_hold).before args s = true := h _ (mG (i := 673) (by decide +kernel) rfl)
theorem tw_674 {args : Array Value} {s : State} (h : ∀ w ∈ gG, w.before args s = true) : (Cond.instanceMethod yX4_hold).before args s = true := h _ (mG (i := 674) (by decide +kernel) rfl)
theorem tw_675 {args : Array Value} {s : State} (h : ∀ w ∈ gG, w.before args s = true) : (Cond.selects RX4 yX4_hold yX4_hold).before args s = true := h _ (mG (i := 675) (by decide +kernel) rfl)
theorem mw_676 : Cond.code yX4_hold cX4_hold 3 (some .int) ∈ gG := mG (i := 676) (by decide +kernel) rfl
theorem tw_676 {args : Array Value} {s : State} (h : ∀ w ∈ gG, w.before args s = true) : (Cond.code yX4_hold cX4_hold 3 (some .int)).before args s = true := h _ mw_676
theorem tw_677 {args : Array Value} {s : State} (h : ∀ w ∈ gG, w.before args s = true) : (Cond.methodLink RX4 201 yX4_isSpot).before args s = true := h _ (mG (i := 677) (by decide +kernel) rfl)
theorem tw_678 {args : Array Value} {s : State} (h : ∀ w ∈ gG, w.before args s = true) : (Cond.static yX4_isSpot).before args s = true := h _ (mG (i := 678) (by decide +kernel) rfl)
theorem mw_679 : Cond.code yX4_isSpot cX4_isSpot 1 (some .boolean) ∈ gG := mG (i := 679) (by decide +kernel) rfl
theorem tw_679 {args : Array Value} {s : State} (h : ∀ w ∈ gG, w.before args s = true) : (Cond.code yX4_isSpot cX4_isSpot 1 (some .boolean)).before args s = true := h _ mw_679
theorem tw_680 {args : Array Value} {s : State} (h : ∀ w ∈ gG, w.before args s = true) : (Cond.methodLink RL 142 yX4_as).before args s = true := h _ (mG (i := 680) (by decide +kernel) rfl)
theorem tw_681 {args : Array Value} {s : State} (h : ∀ w ∈ gG, w.before args s = true) : (Cond.instanceMethod yX4_as).before args s = true := h _ (mG (i := 681) (by decide +kernel) rfl)
theorem tw_682 {args : Array Value} {s : State} (h : ∀ w ∈ gG, w.before args s = true) : (Cond.selects RX4 yX4_as yX4_as).before args s = true := h _ (mG (i := 682) (by decide +kernel) rfl)
theorem mw_683 : Cond.code yX4_as cX4_as 4 (some .int) ∈ gG := mG (i := 683) (by decide +kernel) rfl
theorem tw_683 {args : Array Value} {s : State} (h : ∀ w ∈ gG, w.before args s = true) : (Cond.code yX4_as cX4_as 4 (some .int)).before args s = true := h _ mw_683
theorem tw_684 {args : Array Value} {s : State} (h : ∀ w ∈ gG, w.before args s = true) : (Cond.methodLink RX4 207 yX4_isOrUnder).before args s = true := h _ (mG (i := 684) (by decide +kernel) rfl)
theorem tw_685 {args : Array Value} {s : State} (h : ∀ w ∈ gG, w.before args s = true) : (Cond.methodLink RL 146 yX4_sheet).before args s = true := h _ (mG (i := 685) (by decide +kernel) rfl)
theorem tw_686 {args : Array Value} {s : State} (h : ∀ w ∈ gG, w.before args s = true) : (Cond.instanceMethod yX4_sheet).before args s = true := h _ (mG (i := 686) (by decide +kernel) rfl)
theorem tw_687 {args : Array Value} {s : State} (h : ∀ w ∈ gG, w.before args s = true) : (Cond.selects RX4 yX4_sheet yX4_sheet).before args s = true := h _ (mG (i := 687) (by decide +kernel) rfl)
theorem mw_688 : Cond.code yX4_sheet cX4_sheet 5 (some .int) ∈ gG := mG (i := 688) (by decide +kernel) rfl
theorem tw_688 {args : Array Value} {s : State} (h : ∀ w ∈ gG, w.before args s = true) : (Cond.code yX4_sheet cX4_sheet 5 (some .int)).before args s = true := h _ mw_688
theorem tw_689 {args : Array Value} {s : State} (h : ∀ w ∈ gG, w.before args s = true) : (Cond.methodLink RX4 213 yX2_begin).before args s = true := h _ (mG (i := 689) (by decide +kernel) rfl)
theorem tw_690 {args : Array Value} {s : State} (h : ∀ w ∈ gG, w.before args s = true) : (Cond.instanceMethod yX2_begin).before args s = true := h _ (mG (i := 690) (by decide +kernel) rfl)
theorem tw_691 {args : Array Value} {s : State} (h : ∀ w ∈ gG, w.before args s = true) : (Cond.selects RX2 yX2_begin yX2_begin).before args s = true := h _ (mG (i := 691) (by decide +kernel) rfl)
theorem mw_692 : Cond.code yX2_begin cX2_begin 4 none ∈ gG := mG (i := 692) (by decide +kernel) rfl
theorem tw_692 {args : Array Value} {s : State} (h : ∀ w ∈ gG, w.before args s = true) : (Cond.code yX2_begin cX2_begin 4 none).before args s = true := h _ mw_692
theorem tw_693 {args : Array Value} {s : State} (h : ∀ w ∈ gG, w.before args s = true) : (Cond.methodLink RL 150 yX4_write).before args s = true := h _ (mG (i := 693) (by decide +kernel) rfl)
theorem tw_694 {args : Array Value} {s : State} (h : ∀ w ∈ gG, w.before args s = true) : (Cond.instanceMethod yX4_write).before args s = true := h _ (mG (i := 694) (by decide +kernel) rfl)
theorem tw_695 {args : Array Value} {s : State} (h : ∀ w ∈ gG, w.before args s = true) : (Cond.selects RX4 yX4_write yX4_write).before args s = true := h _ (mG (i := 695) (by decide +kernel) rfl)
theorem mw_696 : Cond.code yX4_write cX4_write 5 (some .int) ∈ gG := mG (i := 696) (by decide +kernel) rfl
theorem tw_696 {args : Array Value} {s : State} (h : ∀ w ∈ gG, w.before args s = true) : (Cond.code yX4_write cX4_write 5 (some .int)).before args s = true := h _ mw_696
theorem tw_697 {args : Array Value} {s : State} (h : ∀ w ∈ gG, w.before args s = true) : (Cond.methodLink RX4 219 yX2_put).before args s = true := h _ (mG (i := 697) (by decide +kernel) rfl)
theorem tw_698 {args : Array Value} {s : State} (h : ∀ w ∈ gG, w.before args s = true) : (Cond.instanceMethod yX2_put).before args s = true := h _ (mG (i := 698) (by decide +kernel) rfl)
theorem tw_699 {args : Array Value} {s : State} (h : ∀ w ∈ gG, w.before args s = true) : (Cond.selects RX2 yX2_put yX2_put).before args s = true := h _ (mG (i := 699) (by decide +kernel) rfl)
theorem mw_700 : Cond.code yX2_put cX2_put 3 none ∈ gG := mG (i := 700) (by decide +kernel) rfl
theorem tw_700 {args : Array Value} {s : State} (h : ∀ w ∈ gG, w.before args s = true) : (Cond.code yX2_put cX2_put 3 none).before args s = true := h _ mw_700
theorem tw_701 {args : Array Value} {s : State} (h : ∀ w ∈ gG, w.before args s = true) : (Cond.methodLink RL 154 yX4_copy).before args s = true := h _ (mG (i := 701) (by decide +kernel) rfl)
theorem tw_702 {args : Array Value} {s : State} (h : ∀ w ∈ gG, w.before args s = true) : (Cond.instanceMethod yX4_copy).before args s = true := h _ (mG (i := 702) (by decide +kernel) rfl)
theorem tw_703 {args : Array Value} {s : State} (h : ∀ w ∈ gG, w.before args s = true) : (Cond.selects RX4 yX4_copy yX4_copy).before args s = true := h _ (mG (i := 703) (by decide +kernel) rfl)
theorem mw_704 : Cond.code yX4_copy cX4_copy 6 (some .int) ∈ gG := mG (i := 704) (by decide +kernel) rfl
theorem tw_704 {args : Array Value} {s : State} (h : ∀ w ∈ gG, w.before args s = true) : (Cond.code yX4_copy cX4_copy 6 (some .int)).before args s = true := h _ mw_704
theorem tw_705 {args : Array Value} {s : State} (h : ∀ w ∈ gG, w.before args s = true) : (Cond.methodLink RX4 225 yX2_hasRun).before args s = true := h _ (mG (i := 705) (by decide +kernel) rfl)
theorem tw_706 {args : Array Value} {s : State} (h : ∀ w ∈ gG, w.before args s = true) : (Cond.instanceMethod yX2_hasRun).before args s = true := h _ (mG (i := 706) (by decide +kernel) rfl)
theorem tw_707 {args : Array Value} {s : State} (h : ∀ w ∈ gG, w.before args s = true) : (Cond.selects RX2 yX2_hasRun yX2_hasRun).before args s = true := h _ (mG (i := 707) (by decide +kernel) rfl)
theorem mw_708 : Cond.code yX2_hasRun cX2_hasRun 3 (some .boolean) ∈ gG := mG (i := 708) (by decide +kernel) rfl
theorem tw_708 {args : Array Value} {s : State} (h : ∀ w ∈ gG, w.before args s = true) : (Cond.code yX2_hasRun cX2_hasRun 3 (some .boolean)).before args s = true := h _ mw_708
theorem tw_709 {args : Array Value} {s : State} (h : ∀ w ∈ gG, w.before args s = true) : (Cond.methodLink RX4 231 arraycopyName).before args s = true := h _ (mG (i := 709) (by decide +kernel) rfl)
theorem tw_710 {args : Array Value} {s : State} (h : ∀ w ∈ gG, w.before args s = true) : (Cond.methodLink RL 159 yX4_load).before args s = true := h _ (mG (i := 710) (by decide +kernel) rfl)
theorem tw_711 {args : Array Value} {s : State} (h : ∀ w ∈ gG, w.before args s = true) : (Cond.instanceMethod yX4_load).before args s = true := h _ (mG (i := 711) (by decide +kernel) rfl)
theorem tw_712 {args : Array Value} {s : State} (h : ∀ w ∈ gG, w.before args s = true) : (Cond.selects RX4 yX4_load yX4_load).before args s = true := h _ (mG (i := 712) (by decide +kernel) rfl)
theorem mw_713 : Cond.code yX4_load cX4_load 4 (some .int) ∈ gG := mG (i := 713) (by decide +kernel) rfl
theorem tw_713 {args : Array Value} {s : State} (h : ∀ w ∈ gG, w.before args s = true) : (Cond.code yX4_load cX4_load 4 (some .int)).before args s = true := h _ mw_713
theorem tw_714 {args : Array Value} {s : State} (h : ∀ w ∈ gG, w.before args s = true) : (Cond.methodLink RL 163 yX4_judge).before args s = true := h _ (mG (i := 714) (by decide +kernel) rfl)
theorem tw_715 {args : Array Value} {s : State} (h : ∀ w ∈ gG, w.before args s = true) : (Cond.instanceMethod yX4_judge).before args s = true := h _ (mG (i := 715) (by decide +kernel) rfl)
theorem tw_716 {args : Array Value} {s : State} (h : ∀ w ∈ gG, w.before args s = true) : (Cond.selects RX4 yX4_judge yX4_judge).before args s = true := h _ (mG (i := 716) (by decide +kernel) rfl)
theorem mw_717 : Cond.code yX4_judge cX4_judge 4 (some .int) ∈ gG := mG (i := 717) (by decide +kernel) rfl
theorem tw_717 {args : Array Value} {s : State} (h : ∀ w ∈ gG, w.before args s = true) : (Cond.code yX4_judge cX4_judge 4 (some .int)).before args s = true := h _ mw_717
theorem tw_718 {args : Array Value} {s : State} (h : ∀ w ∈ gG, w.before args s = true) : (Cond.methodLink RL 167 yX4_image).before args s = true := h _ (mG (i := 718) (by decide +kernel) rfl)
theorem tw_719 {args : Array Value} {s : State} (h : ∀ w ∈ gG, w.before args s = true) : (Cond.instanceMethod yX4_image).before args s = true := h _ (mG (i := 719) (by decide +kernel) rfl)
theorem tw_720 {args : Array Value} {s : State} (h : ∀ w ∈ gG, w.before args s = true) : (Cond.selects RX4 yX4_image yX4_image).before args s = true := h _ (mG (i := 720) (by decide +kernel) rfl)
theorem mw_721 : Cond.code yX4_image cX4_image 1 (some .int) ∈ gG := mG (i := 721) (by decide +kernel) rfl
theorem tw_721 {args : Array Value} {s : State} (h : ∀ w ∈ gG, w.before args s = true) : (Cond.code yX4_image cX4_image 1 (some .int)).before args s = true := h _ mw_721
theorem tw_722 {args : Array Value} {s : State} (h : ∀ w ∈ gG, w.before args s = true) : (Cond.methodLink RL 171 yX4_undo).before args s = true := h _ (mG (i := 722) (by decide +kernel) rfl)
theorem tw_723 {args : Array Value} {s : State} (h : ∀ w ∈ gG, w.before args s = true) : (Cond.instanceMethod yX4_undo).before args s = true := h _ (mG (i := 723) (by decide +kernel) rfl)
theorem tw_724 {args : Array Value} {s : State} (h : ∀ w ∈ gG, w.before args s = true) : (Cond.selects RX4 yX4_undo yX4_undo).before args s = true := h _ (mG (i := 724) (by decide +kernel) rfl)
theorem mw_725 : Cond.code yX4_undo cX4_undo 1 (some .int) ∈ gG := mG (i := 725) (by decide +kernel) rfl
theorem tw_725 {args : Array Value} {s : State} (h : ∀ w ∈ gG, w.before args s = true) : (Cond.code yX4_undo cX4_undo 1 (some .int)).before args s = true := h _ mw_725
theorem tw_726 {args : Array Value} {s : State} (h : ∀ w ∈ gG, w.before args s = true) : (Cond.methodLink RL 175 yX4_tear).before args s = true := h _ (mG (i := 726) (by decide +kernel) rfl)
theorem tw_727 {args : Array Value} {s : State} (h : ∀ w ∈ gG, w.before args s = true) : (Cond.instanceMethod yX4_tear).before args s = true := h _ (mG (i := 727) (by decide +kernel) rfl)
theorem tw_728 {args : Array Value} {s : State} (h : ∀ w ∈ gG, w.before args s = true) : (Cond.selects RX4 yX4_tear yX4_tear).before args s = true := h _ (mG (i := 728) (by decide +kernel) rfl)
theorem mw_729 : Cond.code yX4_tear cX4_tear 2 (some .int) ∈ gG := mG (i := 729) (by decide +kernel) rfl
theorem tw_729 {args : Array Value} {s : State} (h : ∀ w ∈ gG, w.before args s = true) : (Cond.code yX4_tear cX4_tear 2 (some .int)).before args s = true := h _ mw_729
theorem tw_730 {args : Array Value} {s : State} (h : ∀ w ∈ gG, w.before args s = true) : (Cond.methodLink RL 179 yX4_count).before args s = true := h _ (mG (i := 730) (by decide +kernel) rfl)
theorem tw_731 {args : Array Value} {s : State} (h : ∀ w ∈ gG, w.before args s = true) : (Cond.instanceMethod yX4_count).before args s = true := h _ (mG (i := 731) (by decide +kernel) rfl)
theorem tw_732 {args : Array Value} {s : State} (h : ∀ w ∈ gG, w.before args s = true) : (Cond.selects RX4 yX4_count yX4_count).before args s = true := h _ (mG (i := 732) (by decide +kernel) rfl)
theorem mw_733 : Cond.code yX4_count cX4_count 2 (some .int) ∈ gG := mG (i := 733) (by decide +kernel) rfl
theorem tw_733 {args : Array Value} {s : State} (h : ∀ w ∈ gG, w.before args s = true) : (Cond.code yX4_count cX4_count 2 (some .int)).before args s = true := h _ mw_733
theorem tw_734 {args : Array Value} {s : State} (h : ∀ w ∈ gG, w.before args s = true) : (Cond.methodLink RX4 241 yX1_filledSpots).before args s = true := h _ (mG (i := 734) (by decide +kernel) rfl)
theorem tw_735 {args : Array Value} {s : State} (h : ∀ w ∈ gG, w.before args s = true) : (Cond.instanceMethod yX1_filledSpots).before args s = true := h _ (mG (i := 735) (by decide +kernel) rfl)
theorem tw_736 {args : Array Value} {s : State} (h : ∀ w ∈ gG, w.before args s = true) : (Cond.selects RX1 yX1_filledSpots yX1_filledSpots).before args s = true := h _ (mG (i := 736) (by decide +kernel) rfl)
theorem mw_737 : Cond.code yX1_filledSpots cX1_filledSpots 3 (some .int) ∈ gG := mG (i := 737) (by decide +kernel) rfl
theorem tw_737 {args : Array Value} {s : State} (h : ∀ w ∈ gG, w.before args s = true) : (Cond.code yX1_filledSpots cX1_filledSpots 3 (some .int)).before args s = true := h _ mw_737
theorem tw_738 {args : Array Value} {s : State} (h : ∀ w ∈ gG, w.before args s = true) : (Cond.methodLink RL 183 yX4_status).before args s = true := h _ (mG (i := 738) (by decide +kernel) rfl)
theorem tw_739 {args : Array Value} {s : State} (h : ∀ w ∈ gG, w.before args s = true) : (Cond.instanceMethod yX4_status).before args s = true := h _ (mG (i := 739) (by decide +kernel) rfl)
theorem tw_740 {args : Array Value} {s : State} (h : ∀ w ∈ gG, w.before args s = true) : (Cond.selects RX4 yX4_status yX4_status).before args s = true := h _ (mG (i := 740) (by decide +kernel) rfl)
theorem mw_741 : Cond.code yX4_status cX4_status 2 (some .int) ∈ gG := mG (i := 741) (by decide +kernel) rfl
theorem tw_741 {args : Array Value} {s : State} (h : ∀ w ∈ gG, w.before args s = true) : (Cond.code yX4_status cX4_status 2 (some .int)).before args s = true := h _ mw_741
theorem tw_742 {args : Array Value} {s : State} (h : ∀ w ∈ gG, w.before args s = true) : (Cond.methodLink RX4 244 yX4_allFindings).before args s = true := h _ (mG (i := 742) (by decide +kernel) rfl)
theorem tw_744 {args : Array Value} {s : State} (h : ∀ w ∈ gG, w.before args s = true) : (Cond.instanceMethod yX4_allFindings).before args s = true := h _ (mG (i := 744) (by decide +kernel) rfl)
theorem mw_745 : Cond.code yX4_allFindings cX4_allFindings 3 (some .int) ∈ gG := mG (i := 745) (by decide +kernel) rfl
theorem tw_745 {args : Array Value} {s : State} (h : ∀ w ∈ gG, w.before args s = true) : (Cond.code yX4_allFindings cX4_allFindings 3 (some .int)).before args s = true := h _ mw_745
theorem tw_746 {args : Array Value} {s : State} (h : ∀ w ∈ gG, w.before args s = true) : (Cond.classLink RL 10 RX5).before args s = true := h _ (mG (i := 746) (by decide +kernel) rfl)
theorem tw_747 {args : Array Value} {s : State} (h : ∀ w ∈ gG, w.before args s = true) : (Cond.instantiable RX5 21).before args s = true := h _ (mG (i := 747) (by decide +kernel) rfl)
theorem tw_748 {args : Array Value} {s : State} (h : ∀ w ∈ gG, w.before args s = true) : (Cond.methodLink RL 12 yX5_init).before args s = true := h _ (mG (i := 748) (by decide +kernel) rfl)
theorem tw_749 {args : Array Value} {s : State} (h : ∀ w ∈ gG, w.before args s = true) : (Cond.instanceMethod yX5_init).before args s = true := h _ (mG (i := 749) (by decide +kernel) rfl)
theorem mw_750 : Cond.code yX5_init cX5_init 2 none ∈ gG := mG (i := 750) (by decide +kernel) rfl
theorem tw_750 {args : Array Value} {s : State} (h : ∀ w ∈ gG, w.before args s = true) : (Cond.code yX5_init cX5_init 2 none).before args s = true := h _ mw_750
theorem tw_751 {args : Array Value} {s : State} (h : ∀ w ∈ gG, w.before args s = true) : (Cond.methodLink RX5 1 objectInit).before args s = true := h _ (mG (i := 751) (by decide +kernel) rfl)
theorem tw_752 {args : Array Value} {s : State} (h : ∀ w ∈ gG, w.before args s = true) : (Cond.classLink RX5 28 RJ0).before args s = true := h _ (mG (i := 752) (by decide +kernel) rfl)
theorem tw_761 {args : Array Value} {s : State} (h : ∀ w ∈ gG, w.before args s = true) : (Cond.fieldLink RX5 9 "CountyJigsawModel" "now" "[I").before args s = true := h _ (mG (i := 761) (by decide +kernel) rfl)
theorem tw_762 {args : Array Value} {s : State} (h : ∀ w ∈ gG, w.before args s = true) : (Cond.fieldLink RX5 13 "CountyJigsawModel" "kept" "[I").before args s = true := h _ (mG (i := 762) (by decide +kernel) rfl)
theorem tw_763 {args : Array Value} {s : State} (h : ∀ w ∈ gG, w.before args s = true) : (Cond.fieldLink RX5 16 "CountyJigsawModel" "aside" "[I").before args s = true := h _ (mG (i := 763) (by decide +kernel) rfl)
theorem tw_764 {args : Array Value} {s : State} (h : ∀ w ∈ gG, w.before args s = true) : (Cond.fieldLink RX5 319 "CountyJigsawModel" "isKept" "Z").before args s = true := h _ (mG (i := 764) (by decide +kernel) rfl)
theorem tw_765 {args : Array Value} {s : State} (h : ∀ w ∈ gG, w.before args s = true) : (Cond.fieldLink RX5 19 "CountyJigsawModel" "found" "[I").before args s = true := h _ (mG (i := 765) (by decide +kernel) rfl)
theorem tw_766 {args : Array Value} {s : State} (h : ∀ w ∈ gG, w.before args s = true) : (Cond.fieldLink RX5 22 "CountyJigsawModel" "rest" "[I").before args s = true := h _ (mG (i := 766) (by decide +kernel) rfl)
theorem tw_767 {args : Array Value} {s : State} (h : ∀ w ∈ gG, w.before args s = true) : (Cond.fieldLink RX5 25 "CountyJigsawModel" "tape" "[I").before args s = true := h _ (mG (i := 767) (by decide +kernel) rfl)
theorem tw_768 {args : Array Value} {s : State} (h : ∀ w ∈ gG, w.before args s = true) : (Cond.fieldLink RX5 231 "CountyJigsawModel" "taped" "I").before args s = true := h _ (mG (i := 768) (by decide +kernel) rfl)
theorem tw_769 {args : Array Value} {s : State} (h : ∀ w ∈ gG, w.before args s = true) : (Cond.fieldLink RX5 238 "CountyJigsawModel" "begins" "I").before args s = true := h _ (mG (i := 769) (by decide +kernel) rfl)
theorem tw_770 {args : Array Value} {s : State} (h : ∀ w ∈ gG, w.before args s = true) : (Cond.fieldLink RX5 235 "CountyJigsawModel" "ends" "I").before args s = true := h _ (mG (i := 770) (by decide +kernel) rfl)
theorem tw_771 {args : Array Value} {s : State} (h : ∀ w ∈ gG, w.before args s = true) : (Cond.fieldLink RX5 247 "CountyJigsawModel" "sort" "I").before args s = true := h _ (mG (i := 771) (by decide +kernel) rfl)
theorem tw_772 {args : Array Value} {s : State} (h : ∀ w ∈ gG, w.before args s = true) : (Cond.fieldLink RX5 244 "CountyJigsawModel" "value" "I").before args s = true := h _ (mG (i := 772) (by decide +kernel) rfl)
theorem tw_773 {args : Array Value} {s : State} (h : ∀ w ∈ gG, w.before args s = true) : (Cond.fieldLink RX5 257 "CountyJigsawModel" "isWrong" "Z").before args s = true := h _ (mG (i := 773) (by decide +kernel) rfl)
theorem tw_774 {args : Array Value} {s : State} (h : ∀ w ∈ gG, w.before args s = true) : (Cond.fieldLink RX5 44 "CountyJigsawModel" "kindNames" "[Ljava/lang/String;").before args s = true := h _ (mG (i := 774) (by decide +kernel) rfl)
theorem tw_775 {args : Array Value} {s : State} (h : ∀ w ∈ gG, w.before args s = true) : (Cond.fieldLink RX5 48 "CountyJigsawModel" "items" "[I").before args s = true := h _ (mG (i := 775) (by decide +kernel) rfl)
theorem tw_776 {args : Array Value} {s : State} (h : ∀ w ∈ gG, w.before args s = true) : (Cond.fieldLink RX5 268 "CountyJigsawModel" "itemMany" "I").before args s = true := h _ (mG (i := 776) (by decide +kernel) rfl)
theorem tw_777 {args : Array Value} {s : State} (h : ∀ w ∈ gG, w.before args s = true) : (Cond.fieldLink RX5 275 "CountyJigsawModel" "piecesThen" "I").before args s = true := h _ (mG (i := 777) (by decide +kernel) rfl)
theorem tw_778 {args : Array Value} {s : State} (h : ∀ w ∈ gG, w.before args s = true) : (Cond.fieldLink RX5 51 "CountyJigsawModel" "widths" "[I").before args s = true := h _ (mG (i := 778) (by decide +kernel) rfl)
theorem tw_779 {args : Array Value} {s : State} (h : ∀ w ∈ gG, w.before args s = true) : (Cond.fieldLink RX5 54 "CountyJigsawModel" "sizes" "[I").before args s = true := h _ (mG (i := 779) (by decide +kernel) rfl)
theorem tw_780 {args : Array Value} {s : State} (h : ∀ w ∈ gG, w.before args s = true) : (Cond.fieldLink RX5 57 "CountyJigsawModel" "numbers" "[I").before args s = true := h _ (mG (i := 780) (by decide +kernel) rfl)
theorem tw_781 {args : Array Value} {s : State} (h : ∀ w ∈ gG, w.before args s = true) : (Cond.fieldLink RX5 60 "CountyJigsawModel" "moved" "[I").before args s = true := h _ (mG (i := 781) (by decide +kernel) rfl)
theorem tw_825 {args : Array Value} {s : State} (h : ∀ w ∈ gG, w.before args s = true) : (Cond.methodLink RL 17 yX5_list).before args s = true := h _ (mG (i := 825) (by decide +kernel) rfl)
theorem tw_826 {args : Array Value} {s : State} (h : ∀ w ∈ gG, w.before args s = true) : (Cond.instanceMethod yX5_list).before args s = true := h _ (mG (i := 826) (by decide +kernel) rfl)
theorem tw_827 {args : Array Value} {s : State} (h : ∀ w ∈ gG, w.before args s = true) : (Cond.selects RX5 yX5_list yX5_list).before args s = true := h _ (mG (i := 827) (by decide +kernel) rfl)
theorem mw_828 : Cond.code yX5_list cX5_list 4 (some .int) ∈ gG := mG (i := 828) (by decide +kernel) rfl
theorem tw_828 {args : Array Value} {s : State} (h : ∀ w ∈ gG, w.before args s = true) : (Cond.code yX5_list cX5_list 4 (some .int)).before args s = true := h _ mw_828
theorem tw_829 {args : Array Value} {s : State} (h : ∀ w ∈ gG, w.before args s = true) : (Cond.methodLink RX5 77 yX5_isPlace).before args s = true := h _ (mG (i := 829) (by decide +kernel) rfl)
theorem tw_830 {args : Array Value} {s : State} (h : ∀ w ∈ gG, w.before args s = true) : (Cond.static yX5_isPlace).before args s = true := h _ (mG (i := 830) (by decide +kernel) rfl)
theorem mw_831 : Cond.code yX5_isPlace cX5_isPlace 1 (some .boolean) ∈ gG := mG (i := 831) (by decide +kernel) rfl
theorem tw_831 {args : Array Value} {s : State} (h : ∀ w ∈ gG, w.before args s = true) : (Cond.code yX5_isPlace cX5_isPlace 1 (some .boolean)).before args s = true := h _ mw_831
theorem tw_832 {args : Array Value} {s : State} (h : ∀ w ∈ gG, w.before args s = true) : (Cond.methodLink RX5 73 yX5_within).before args s = true := h _ (mG (i := 832) (by decide +kernel) rfl)
theorem tw_833 {args : Array Value} {s : State} (h : ∀ w ∈ gG, w.before args s = true) : (Cond.static yX5_within).before args s = true := h _ (mG (i := 833) (by decide +kernel) rfl)
theorem mw_834 : Cond.code yX5_within cX5_within 3 (some .boolean) ∈ gG := mG (i := 834) (by decide +kernel) rfl
theorem tw_834 {args : Array Value} {s : State} (h : ∀ w ∈ gG, w.before args s = true) : (Cond.code yX5_within cX5_within 3 (some .boolean)).before args s = true := h _ mw_834
theorem tw_835 {args : Array Value} {s : State} (h : ∀ w ∈ gG, w.before args s = true) : (Cond.methodLink RX5 81 yX5_isOne).before args s = true := h _ (mG (i := 835) (by decide +kernel) rfl)
theorem tw_836 {args : Array Value} {s : State} (h : ∀ w ∈ gG, w.before args s = true) : (Cond.static yX5_isOne).before args s = true := h _ (mG (i := 836) (by decide +kernel) rfl)
theorem mw_837 : Cond.code yX5_isOne cX5_isOne 1 (some .boolean) ∈ gG := mG (i := 837) (by decide +kernel) rfl
theorem tw_837 {args : Array Value} {s : State} (h : ∀ w ∈ gG, w.before args s = true) : (Cond.code yX5_isOne cX5_isOne 1 (some .boolean)).before args s = true := h _ mw_837
theorem tw_838 {args : Array Value} {s : State} (h : ∀ w ∈ gG, w.before args s = true) : (Cond.methodLink RX5 84 yX5_become).before args s = true := h _ (mG (i := 838) (by decide +kernel) rfl)
theorem tw_840 {args : Array Value} {s : State} (h : ∀ w ∈ gG, w.before args s = true) : (Cond.instanceMethod yX5_become).before args s = true := h _ (mG (i := 840) (by decide +kernel) rfl)
theorem mw_841 : Cond.code yX5_become cX5_become 4 (some .int) ∈ gG := mG (i := 841) (by decide +kernel) rfl
theorem tw_841 {args : Array Value} {s : State} (h : ∀ w ∈ gG, w.before args s = true) : (Cond.code yX5_become cX5_become 4 (some .int)).before args s = true := h _ mw_841
theorem tw_842 {args : Array Value} {s : State} (h : ∀ w ∈ gG, w.before args s = true) : (Cond.constant RX5 63 (-1000001)).before args s = true := h _ (mG (i := 842) (by decide +kernel) rfl)
theorem tw_843 {args : Array Value} {s : State} (h : ∀ w ∈ gG, w.before args s = true) : (Cond.methodLink RX5 69 yX5_finding).before args s = true := h _ (mG (i := 843) (by decide +kernel) rfl)
theorem tw_845 {args : Array Value} {s : State} (h : ∀ w ∈ gG, w.before args s = true) : (Cond.instanceMethod yX5_finding).before args s = true := h _ (mG (i := 845) (by decide +kernel) rfl)
theorem mw_846 : Cond.code yX5_finding cX5_finding 2 (some .int) ∈ gG := mG (i := 846) (by decide +kernel) rfl
theorem tw_846 {args : Array Value} {s : State} (h : ∀ w ∈ gG, w.before args s = true) : (Cond.code yX5_finding cX5_finding 2 (some .int)).before args s = true := h _ mw_846
theorem tw_847 {args : Array Value} {s : State} (h : ∀ w ∈ gG, w.before args s = true) : (Cond.methodLink RL 22 yX5_listed).before args s = true := h _ (mG (i := 847) (by decide +kernel) rfl)
theorem tw_848 {args : Array Value} {s : State} (h : ∀ w ∈ gG, w.before args s = true) : (Cond.instanceMethod yX5_listed).before args s = true := h _ (mG (i := 848) (by decide +kernel) rfl)
theorem tw_849 {args : Array Value} {s : State} (h : ∀ w ∈ gG, w.before args s = true) : (Cond.selects RX5 yX5_listed yX5_listed).before args s = true := h _ (mG (i := 849) (by decide +kernel) rfl)
theorem mw_850 : Cond.code yX5_listed cX5_listed 2 (some .int) ∈ gG := mG (i := 850) (by decide +kernel) rfl
theorem tw_850 {args : Array Value} {s : State} (h : ∀ w ∈ gG, w.before args s = true) : (Cond.code yX5_listed cX5_listed 2 (some .int)).before args s = true := h _ mw_850
theorem tw_851 {args : Array Value} {s : State} (h : ∀ w ∈ gG, w.before args s = true) : (Cond.methodLink RL 26 yX5_piece).before args s = true := h _ (mG (i := 851) (by decide +kernel) rfl)
theorem tw_852 {args : Array Value} {s : State} (h : ∀ w ∈ gG, w.before args s = true) : (Cond.instanceMethod yX5_piece).before args s = true := h _ (mG (i := 852) (by decide +kernel) rfl)
theorem tw_853 {args : Array Value} {s : State} (h : ∀ w ∈ gG, w.before args s = true) : (Cond.selects RX5 yX5_piece yX5_piece).before args s = true := h _ (mG (i := 853) (by decide +kernel) rfl)
theorem mw_854 : Cond.code yX5_piece cX5_piece 4 (some .int) ∈ gG := mG (i := 854) (by decide +kernel) rfl
theorem tw_854 {args : Array Value} {s : State} (h : ∀ w ∈ gG, w.before args s = true) : (Cond.code yX5_piece cX5_piece 4 (some .int)).before args s = true := h _ mw_854
theorem tw_855 {args : Array Value} {s : State} (h : ∀ w ∈ gG, w.before args s = true) : (Cond.methodLink RX5 91 yX5_isKind).before args s = true := h _ (mG (i := 855) (by decide +kernel) rfl)
theorem tw_856 {args : Array Value} {s : State} (h : ∀ w ∈ gG, w.before args s = true) : (Cond.static yX5_isKind).before args s = true := h _ (mG (i := 856) (by decide +kernel) rfl)
theorem mw_857 : Cond.code yX5_isKind cX5_isKind 1 (some .boolean) ∈ gG := mG (i := 857) (by decide +kernel) rfl
theorem tw_857 {args : Array Value} {s : State} (h : ∀ w ∈ gG, w.before args s = true) : (Cond.code yX5_isKind cX5_isKind 1 (some .boolean)).before args s = true := h _ mw_857
theorem tw_858 {args : Array Value} {s : State} (h : ∀ w ∈ gG, w.before args s = true) : (Cond.methodLink RX5 94 yX5_isEdge).before args s = true := h _ (mG (i := 858) (by decide +kernel) rfl)
theorem tw_859 {args : Array Value} {s : State} (h : ∀ w ∈ gG, w.before args s = true) : (Cond.static yX5_isEdge).before args s = true := h _ (mG (i := 859) (by decide +kernel) rfl)
theorem mw_860 : Cond.code yX5_isEdge cX5_isEdge 1 (some .boolean) ∈ gG := mG (i := 860) (by decide +kernel) rfl
theorem tw_860 {args : Array Value} {s : State} (h : ∀ w ∈ gG, w.before args s = true) : (Cond.code yX5_isEdge cX5_isEdge 1 (some .boolean)).before args s = true := h _ mw_860
theorem tw_861 {args : Array Value} {s : State} (h : ∀ w ∈ gG, w.before args s = true) : (Cond.constant RX5 97 (-1000002)).before args s = true := h _ (mG (i := 861) (by decide +kernel) rfl)
theorem tw_862 {args : Array Value} {s : State} (h : ∀ w ∈ gG, w.before args s = true) : (Cond.methodLink RX5 98 yX5_isCut).before args s = true := h _ (mG (i := 862) (by decide +kernel) rfl)
theorem tw_864 {args : Array Value} {s : State} (h : ∀ w ∈ gG, w.before args s = true) : (Cond.instanceMethod yX5_isCut).before args s = true := h _ (mG (i := 864) (by decide +kernel) rfl)
theorem mw_865 : Cond.code yX5_isCut cX5_isCut 5 (some .int) ∈ gG := mG (i := 865) (by decide +kernel) rfl
theorem tw_865 {args : Array Value} {s : State} (h : ∀ w ∈ gG, w.before args s = true) : (Cond.code yX5_isCut cX5_isCut 5 (some .int)).before args s = true := h _ mw_865
theorem tw_866 {args : Array Value} {s : State} (h : ∀ w ∈ gG, w.before args s = true) : (Cond.methodLink RX5 88 yX5_pieceAt).before args s = true := h _ (mG (i := 866) (by decide +kernel) rfl)
theorem tw_867 {args : Array Value} {s : State} (h : ∀ w ∈ gG, w.before args s = true) : (Cond.static yX5_pieceAt).before args s = true := h _ (mG (i := 867) (by decide +kernel) rfl)
theorem mw_868 : Cond.code yX5_pieceAt cX5_pieceAt 2 (some .int) ∈ gG := mG (i := 868) (by decide +kernel) rfl
theorem tw_868 {args : Array Value} {s : State} (h : ∀ w ∈ gG, w.before args s = true) : (Cond.code yX5_pieceAt cX5_pieceAt 2 (some .int)).before args s = true := h _ mw_868
theorem tw_869 {args : Array Value} {s : State} (h : ∀ w ∈ gG, w.before args s = true) : (Cond.methodLink RL 31 yX5_of).before args s = true := h _ (mG (i := 869) (by decide +kernel) rfl)
theorem tw_870 {args : Array Value} {s : State} (h : ∀ w ∈ gG, w.before args s = true) : (Cond.instanceMethod yX5_of).before args s = true := h _ (mG (i := 870) (by decide +kernel) rfl)
theorem tw_871 {args : Array Value} {s : State} (h : ∀ w ∈ gG, w.before args s = true) : (Cond.selects RX5 yX5_of yX5_of).before args s = true := h _ (mG (i := 871) (by decide +kernel) rfl)
theorem mw_872 : Cond.code yX5_of cX5_of 3 (some .int) ∈ gG := mG (i := 872) (by decide +kernel) rfl
theorem tw_872 {args : Array Value} {s : State} (h : ∀ w ∈ gG, w.before args s = true) : (Cond.code yX5_of cX5_of 3 (some .int)).before args s = true := h _ mw_872
theorem tw_873 {args : Array Value} {s : State} (h : ∀ w ∈ gG, w.before args s = true) : (Cond.methodLink RX5 111 yX5_isPiece).before args s = true := h _ (mG (i := 873) (by decide +kernel) rfl)
theorem tw_875 {args : Array Value} {s : State} (h : ∀ w ∈ gG, w.before args s = true) : (Cond.instanceMethod yX5_isPiece).before args s = true := h _ (mG (i := 875) (by decide +kernel) rfl)
theorem mw_876 : Cond.code yX5_isPiece cX5_isPiece 2 (some .boolean) ∈ gG := mG (i := 876) (by decide +kernel) rfl
theorem tw_876 {args : Array Value} {s : State} (h : ∀ w ∈ gG, w.before args s = true) : (Cond.code yX5_isPiece cX5_isPiece 2 (some .boolean)).before args s = true := h _ mw_876
theorem tw_877 {args : Array Value} {s : State} (h : ∀ w ∈ gG, w.before args s = true) : (Cond.methodLink RX5 114 yX5_told).before args s = true := h _ (mG (i := 877) (by decide +kernel) rfl)
theorem tw_879 {args : Array Value} {s : State} (h : ∀ w ∈ gG, w.before args s = true) : (Cond.instanceMethod yX5_told).before args s = true := h _ (mG (i := 879) (by decide +kernel) rfl)
theorem mw_880 : Cond.code yX5_told cX5_told 3 (some .int) ∈ gG := mG (i := 880) (by decide +kernel) rfl
theorem tw_880 {args : Array Value} {s : State} (h : ∀ w ∈ gG, w.before args s = true) : (Cond.code yX5_told cX5_told 3 (some .int)).before args s = true := h _ mw_880
theorem tw_881 {args : Array Value} {s : State} (h : ∀ w ∈ gG, w.before args s = true) : (Cond.methodLink RX5 105 yX5_whereLies).before args s = true := h _ (mG (i := 881) (by decide +kernel) rfl)
theorem tw_883 {args : Array Value} {s : State} (h : ∀ w ∈ gG, w.before args s = true) : (Cond.instanceMethod yX5_whereLies).before args s = true := h _ (mG (i := 883) (by decide +kernel) rfl)
theorem mw_884 : Cond.code yX5_whereLies cX5_whereLies 3 (some .int) ∈ gG := mG (i := 884) (by decide +kernel) rfl
theorem tw_884 {args : Array Value} {s : State} (h : ∀ w ∈ gG, w.before args s = true) : (Cond.code yX5_whereLies cX5_whereLies 3 (some .int)).before args s = true := h _ mw_884
theorem tw_885 {args : Array Value} {s : State} (h : ∀ w ∈ gG, w.before args s = true) : (Cond.methodLink RX5 108 yX5_grows).before args s = true := h _ (mG (i := 885) (by decide +kernel) rfl)
theorem tw_887 {args : Array Value} {s : State} (h : ∀ w ∈ gG, w.before args s = true) : (Cond.instanceMethod yX5_grows).before args s = true := h _ (mG (i := 887) (by decide +kernel) rfl)
theorem mw_888 : Cond.code yX5_grows cX5_grows 2 (some .int) ∈ gG := mG (i := 888) (by decide +kernel) rfl
theorem tw_888 {args : Array Value} {s : State} (h : ∀ w ∈ gG, w.before args s = true) : (Cond.code yX5_grows cX5_grows 2 (some .int)).before args s = true := h _ mw_888
theorem tw_889 {args : Array Value} {s : State} (h : ∀ w ∈ gG, w.before args s = true) : (Cond.methodLink RX5 102 yX5_pieceIs).before args s = true := h _ (mG (i := 889) (by decide +kernel) rfl)
theorem tw_891 {args : Array Value} {s : State} (h : ∀ w ∈ gG, w.before args s = true) : (Cond.instanceMethod yX5_pieceIs).before args s = true := h _ (mG (i := 891) (by decide +kernel) rfl)
theorem mw_892 : Cond.code yX5_pieceIs cX5_pieceIs 3 (some .int) ∈ gG := mG (i := 892) (by decide +kernel) rfl
theorem tw_892 {args : Array Value} {s : State} (h : ∀ w ∈ gG, w.before args s = true) : (Cond.code yX5_pieceIs cX5_pieceIs 3 (some .int)).before args s = true := h _ mw_892
theorem tw_893 {args : Array Value} {s : State} (h : ∀ w ∈ gG, w.before args s = true) : (Cond.methodLink RL 35 yX5_change).before args s = true := h _ (mG (i := 893) (by decide +kernel) rfl)
theorem tw_894 {args : Array Value} {s : State} (h : ∀ w ∈ gG, w.before args s = true) : (Cond.instanceMethod yX5_change).before args s = true := h _ (mG (i := 894) (by decide +kernel) rfl)
theorem tw_895 {args : Array Value} {s : State} (h : ∀ w ∈ gG, w.before args s = true) : (Cond.selects RX5 yX5_change yX5_change).before args s = true := h _ (mG (i := 895) (by decide +kernel) rfl)
theorem mw_896 : Cond.code yX5_change cX5_change 4 (some .int) ∈ gG := mG (i := 896) (by decide +kernel) rfl
theorem tw_896 {args : Array Value} {s : State} (h : ∀ w ∈ gG, w.before args s = true) : (Cond.code yX5_change cX5_change 4 (some .int)).before args s = true := h _ mw_896
theorem tw_897 {args : Array Value} {s : State} (h : ∀ w ∈ gG, w.before args s = true) : (Cond.methodLink RX5 117 yX5_isField).before args s = true := h _ (mG (i := 897) (by decide +kernel) rfl)
theorem tw_898 {args : Array Value} {s : State} (h : ∀ w ∈ gG, w.before args s = true) : (Cond.static yX5_isField).before args s = true := h _ (mG (i := 898) (by decide +kernel) rfl)
theorem mw_899 : Cond.code yX5_isField cX5_isField 2 (some .boolean) ∈ gG := mG (i := 899) (by decide +kernel) rfl
theorem tw_899 {args : Array Value} {s : State} (h : ∀ w ∈ gG, w.before args s = true) : (Cond.code yX5_isField cX5_isField 2 (some .boolean)).before args s = true := h _ mw_899
theorem tw_900 {args : Array Value} {s : State} (h : ∀ w ∈ gG, w.before args s = true) : (Cond.methodLink RL 39 yX5_lies).before args s = true := h _ (mG (i := 900) (by decide +kernel) rfl)
theorem tw_901 {args : Array Value} {s : State} (h : ∀ w ∈ gG, w.before args s = true) : (Cond.instanceMethod yX5_lies).before args s = true := h _ (mG (i := 901) (by decide +kernel) rfl)
theorem tw_902 {args : Array Value} {s : State} (h : ∀ w ∈ gG, w.before args s = true) : (Cond.selects RX5 yX5_lies yX5_lies).before args s = true := h _ (mG (i := 902) (by decide +kernel) rfl)
theorem mw_903 : Cond.code yX5_lies cX5_lies 2 (some .int) ∈ gG := mG (i := 903) (by decide +kernel) rfl
theorem tw_903 {args : Array Value} {s : State} (h : ∀ w ∈ gG, w.before args s = true) : (Cond.code yX5_lies cX5_lies 2 (some .int)).before args s = true := h _ mw_903
theorem tw_904 {args : Array Value} {s : State} (h : ∀ w ∈ gG, w.before args s = true) : (Cond.methodLink RL 43 yX5_gap).before args s = true := h _ (mG (i := 904) (by decide +kernel) rfl)
theorem tw_905 {args : Array Value} {s : State} (h : ∀ w ∈ gG, w.before args s = true) : (Cond.instanceMethod yX5_gap).before args s = true := h _ (mG (i := 905) (by decide +kernel) rfl)
theorem tw_906 {args : Array Value} {s : State} (h : ∀ w ∈ gG, w.before args s = true) : (Cond.selects RX5 yX5_gap yX5_gap).before args s = true := h _ (mG (i := 906) (by decide +kernel) rfl)
theorem mw_907 : Cond.code yX5_gap cX5_gap 3 (some .int) ∈ gG := mG (i := 907) (by decide +kernel) rfl
theorem tw_907 {args : Array Value} {s : State} (h : ∀ w ∈ gG, w.before args s = true) : (Cond.code yX5_gap cX5_gap 3 (some .int)).before args s = true := h _ mw_907
theorem tw_908 {args : Array Value} {s : State} (h : ∀ w ∈ gG, w.before args s = true) : (Cond.methodLink RX5 132 yX5_gapOf).before args s = true := h _ (mG (i := 908) (by decide +kernel) rfl)
theorem tw_910 {args : Array Value} {s : State} (h : ∀ w ∈ gG, w.before args s = true) : (Cond.instanceMethod yX5_gapOf).before args s = true := h _ (mG (i := 910) (by decide +kernel) rfl)
theorem mw_911 : Cond.code yX5_gapOf cX5_gapOf 6 (some .int) ∈ gG := mG (i := 911) (by decide +kernel) rfl
theorem tw_911 {args : Array Value} {s : State} (h : ∀ w ∈ gG, w.before args s = true) : (Cond.code yX5_gapOf cX5_gapOf 6 (some .int)).before args s = true := h _ mw_911
theorem tw_912 {args : Array Value} {s : State} (h : ∀ w ∈ gG, w.before args s = true) : (Cond.methodLink RX5 121 yX5_side).before args s = true := h _ (mG (i := 912) (by decide +kernel) rfl)
theorem tw_914 {args : Array Value} {s : State} (h : ∀ w ∈ gG, w.before args s = true) : (Cond.instanceMethod yX5_side).before args s = true := h _ (mG (i := 914) (by decide +kernel) rfl)
theorem mw_915 : Cond.code yX5_side cX5_side 3 (some .int) ∈ gG := mG (i := 915) (by decide +kernel) rfl
theorem tw_915 {args : Array Value} {s : State} (h : ∀ w ∈ gG, w.before args s = true) : (Cond.code yX5_side cX5_side 3 (some .int)).before args s = true := h _ mw_915
theorem tw_916 {args : Array Value} {s : State} (h : ∀ w ∈ gG, w.before args s = true) : (Cond.methodLink RX5 124 yJ9_abs_0f7a4).before args s = true := h _ (mG (i := 916) (by decide +kernel) rfl)
theorem tw_917 {args : Array Value} {s : State} (h : ∀ w ∈ gG, w.before args s = true) : (Cond.methodLink RX5 129 yX5_isSky).before args s = true := h _ (mG (i := 917) (by decide +kernel) rfl)
theorem tw_919 {args : Array Value} {s : State} (h : ∀ w ∈ gG, w.before args s = true) : (Cond.instanceMethod yX5_isSky).before args s = true := h _ (mG (i := 919) (by decide +kernel) rfl)
theorem mw_920 : Cond.code yX5_isSky cX5_isSky 2 (some .boolean) ∈ gG := mG (i := 920) (by decide +kernel) rfl
theorem tw_920 {args : Array Value} {s : State} (h : ∀ w ∈ gG, w.before args s = true) : (Cond.code yX5_isSky cX5_isSky 2 (some .boolean)).before args s = true := h _ mw_920
theorem tw_921 {args : Array Value} {s : State} (h : ∀ w ∈ gG, w.before args s = true) : (Cond.methodLink RL 47 yX5_edge).before args s = true := h _ (mG (i := 921) (by decide +kernel) rfl)
theorem tw_922 {args : Array Value} {s : State} (h : ∀ w ∈ gG, w.before args s = true) : (Cond.instanceMethod yX5_edge).before args s = true := h _ (mG (i := 922) (by decide +kernel) rfl)
theorem tw_923 {args : Array Value} {s : State} (h : ∀ w ∈ gG, w.before args s = true) : (Cond.selects RX5 yX5_edge yX5_edge).before args s = true := h _ (mG (i := 923) (by decide +kernel) rfl)
theorem mw_924 : Cond.code yX5_edge cX5_edge 3 (some .int) ∈ gG := mG (i := 924) (by decide +kernel) rfl
theorem tw_924 {args : Array Value} {s : State} (h : ∀ w ∈ gG, w.before args s = true) : (Cond.code yX5_edge cX5_edge 3 (some .int)).before args s = true := h _ mw_924
theorem tw_925 {args : Array Value} {s : State} (h : ∀ w ∈ gG, w.before args s = true) : (Cond.methodLink RX5 135 yX5_edgeOf).before args s = true := h _ (mG (i := 925) (by decide +kernel) rfl)
theorem tw_927 {args : Array Value} {s : State} (h : ∀ w ∈ gG, w.before args s = true) : (Cond.instanceMethod yX5_edgeOf).before args s = true := h _ (mG (i := 927) (by decide +kernel) rfl)
theorem mw_928 : Cond.code yX5_edgeOf cX5_edgeOf 4 (some .int) ∈ gG := mG (i := 928) (by decide +kernel) rfl
theorem tw_928 {args : Array Value} {s : State} (h : ∀ w ∈ gG, w.before args s = true) : (Cond.code yX5_edgeOf cX5_edgeOf 4 (some .int)).before args s = true := h _ mw_928
theorem tw_929 {args : Array Value} {s : State} (h : ∀ w ∈ gG, w.before args s = true) : (Cond.methodLink RL 51 yX5_swap).before args s = true := h _ (mG (i := 929) (by decide +kernel) rfl)
theorem tw_930 {args : Array Value} {s : State} (h : ∀ w ∈ gG, w.before args s = true) : (Cond.instanceMethod yX5_swap).before args s = true := h _ (mG (i := 930) (by decide +kernel) rfl)
theorem tw_931 {args : Array Value} {s : State} (h : ∀ w ∈ gG, w.before args s = true) : (Cond.selects RX5 yX5_swap yX5_swap).before args s = true := h _ (mG (i := 931) (by decide +kernel) rfl)
theorem mw_932 : Cond.code yX5_swap cX5_swap 3 (some .int) ∈ gG := mG (i := 932) (by decide +kernel) rfl
theorem tw_932 {args : Array Value} {s : State} (h : ∀ w ∈ gG, w.before args s = true) : (Cond.code yX5_swap cX5_swap 3 (some .int)).before args s = true := h _ mw_932
theorem tw_933 {args : Array Value} {s : State} (h : ∀ w ∈ gG, w.before args s = true) : (Cond.methodLink RX5 138 yX5_exchange).before args s = true := h _ (mG (i := 933) (by decide +kernel) rfl)
theorem tw_935 {args : Array Value} {s : State} (h : ∀ w ∈ gG, w.before args s = true) : (Cond.instanceMethod yX5_exchange).before args s = true := h _ (mG (i := 935) (by decide +kernel) rfl)
theorem mw_936 : Cond.code yX5_exchange cX5_exchange 4 none ∈ gG := mG (i := 936) (by decide +kernel) rfl
theorem tw_936 {args : Array Value} {s : State} (h : ∀ w ∈ gG, w.before args s = true) : (Cond.code yX5_exchange cX5_exchange 4 none).before args s = true := h _ mw_936
theorem tw_937 {args : Array Value} {s : State} (h : ∀ w ∈ gG, w.before args s = true) : (Cond.methodLink RX5 142 yX5_sumNow).before args s = true := h _ (mG (i := 937) (by decide +kernel) rfl)
theorem tw_939 {args : Array Value} {s : State} (h : ∀ w ∈ gG, w.before args s = true) : (Cond.instanceMethod yX5_sumNow).before args s = true := h _ (mG (i := 939) (by decide +kernel) rfl)
theorem mw_940 : Cond.code yX5_sumNow cX5_sumNow 4 (some .int) ∈ gG := mG (i := 940) (by decide +kernel) rfl
theorem tw_940 {args : Array Value} {s : State} (h : ∀ w ∈ gG, w.before args s = true) : (Cond.code yX5_sumNow cX5_sumNow 4 (some .int)).before args s = true := h _ mw_940
theorem tw_941 {args : Array Value} {s : State} (h : ∀ w ∈ gG, w.before args s = true) : (Cond.methodLink RL 55 yX5_go).before args s = true := h _ (mG (i := 941) (by decide +kernel) rfl)
theorem tw_942 {args : Array Value} {s : State} (h : ∀ w ∈ gG, w.before args s = true) : (Cond.instanceMethod yX5_go).before args s = true := h _ (mG (i := 942) (by decide +kernel) rfl)
theorem tw_943 {args : Array Value} {s : State} (h : ∀ w ∈ gG, w.before args s = true) : (Cond.selects RX5 yX5_go yX5_go).before args s = true := h _ (mG (i := 943) (by decide +kernel) rfl)
theorem mw_944 : Cond.code yX5_go cX5_go 2 (some .int) ∈ gG := mG (i := 944) (by decide +kernel) rfl
theorem tw_944 {args : Array Value} {s : State} (h : ∀ w ∈ gG, w.before args s = true) : (Cond.code yX5_go cX5_go 2 (some .int)).before args s = true := h _ mw_944
theorem tw_945 {args : Array Value} {s : State} (h : ∀ w ∈ gG, w.before args s = true) : (Cond.constant RX5 149 (99999)).before args s = true := h _ (mG (i := 945) (by decide +kernel) rfl)
theorem tw_946 {args : Array Value} {s : State} (h : ∀ w ∈ gG, w.before args s = true) : (Cond.constant RX5 156 (-1000005)).before args s = true := h _ (mG (i := 946) (by decide +kernel) rfl)
theorem tw_947 {args : Array Value} {s : State} (h : ∀ w ∈ gG, w.before args s = true) : (Cond.methodLink RX5 157 yX5_yearsGo).before args s = true := h _ (mG (i := 947) (by decide +kernel) rfl)
theorem tw_949 {args : Array Value} {s : State} (h : ∀ w ∈ gG, w.before args s = true) : (Cond.instanceMethod yX5_yearsGo).before args s = true := h _ (mG (i := 949) (by decide +kernel) rfl)
theorem mw_950 : Cond.code yX5_yearsGo cX5_yearsGo 3 none ∈ gG := mG (i := 950) (by decide +kernel) rfl
theorem tw_950 {args : Array Value} {s : State} (h : ∀ w ∈ gG, w.before args s = true) : (Cond.code yX5_yearsGo cX5_yearsGo 3 none).before args s = true := h _ mw_950
theorem tw_951 {args : Array Value} {s : State} (h : ∀ w ∈ gG, w.before args s = true) : (Cond.methodLink RX5 153 yX5_year).before args s = true := h _ (mG (i := 951) (by decide +kernel) rfl)
theorem tw_953 {args : Array Value} {s : State} (h : ∀ w ∈ gG, w.before args s = true) : (Cond.instanceMethod yX5_year).before args s = true := h _ (mG (i := 953) (by decide +kernel) rfl)
theorem mw_954 : Cond.code yX5_year cX5_year 4 none ∈ gG := mG (i := 954) (by decide +kernel) rfl
theorem tw_954 {args : Array Value} {s : State} (h : ∀ w ∈ gG, w.before args s = true) : (Cond.code yX5_year cX5_year 4 none).before args s = true := h _ mw_954
theorem tw_955 {args : Array Value} {s : State} (h : ∀ w ∈ gG, w.before args s = true) : (Cond.methodLink RX5 146 yX5_placeNow).before args s = true := h _ (mG (i := 955) (by decide +kernel) rfl)
theorem tw_957 {args : Array Value} {s : State} (h : ∀ w ∈ gG, w.before args s = true) : (Cond.instanceMethod yX5_placeNow).before args s = true := h _ (mG (i := 957) (by decide +kernel) rfl)
theorem mw_958 : Cond.code yX5_placeNow cX5_placeNow 1 (some .int) ∈ gG := mG (i := 958) (by decide +kernel) rfl
theorem tw_958 {args : Array Value} {s : State} (h : ∀ w ∈ gG, w.before args s = true) : (Cond.code yX5_placeNow cX5_placeNow 1 (some .int)).before args s = true := h _ mw_958
theorem tw_959 {args : Array Value} {s : State} (h : ∀ w ∈ gG, w.before args s = true) : (Cond.methodLink RX5 150 yJ9_min_7cf53).before args s = true := h _ (mG (i := 959) (by decide +kernel) rfl)
theorem tw_960 {args : Array Value} {s : State} (h : ∀ w ∈ gG, w.before args s = true) : (Cond.methodLink RL 59 yX5_now).before args s = true := h _ (mG (i := 960) (by decide +kernel) rfl)
theorem tw_961 {args : Array Value} {s : State} (h : ∀ w ∈ gG, w.before args s = true) : (Cond.instanceMethod yX5_now).before args s = true := h _ (mG (i := 961) (by decide +kernel) rfl)
theorem tw_962 {args : Array Value} {s : State} (h : ∀ w ∈ gG, w.before args s = true) : (Cond.selects RX5 yX5_now yX5_now).before args s = true := h _ (mG (i := 962) (by decide +kernel) rfl)
theorem mw_963 : Cond.code yX5_now cX5_now 2 (some .int) ∈ gG := mG (i := 963) (by decide +kernel) rfl
theorem tw_963 {args : Array Value} {s : State} (h : ∀ w ∈ gG, w.before args s = true) : (Cond.code yX5_now cX5_now 2 (some .int)).before args s = true := h _ mw_963
theorem tw_964 {args : Array Value} {s : State} (h : ∀ w ∈ gG, w.before args s = true) : (Cond.methodLink RX5 167 yX5_closePlaces).before args s = true := h _ (mG (i := 964) (by decide +kernel) rfl)
theorem tw_966 {args : Array Value} {s : State} (h : ∀ w ∈ gG, w.before args s = true) : (Cond.instanceMethod yX5_closePlaces).before args s = true := h _ (mG (i := 966) (by decide +kernel) rfl)
theorem mw_967 : Cond.code yX5_closePlaces cX5_closePlaces 3 (some .int) ∈ gG := mG (i := 967) (by decide +kernel) rfl
theorem tw_967 {args : Array Value} {s : State} (h : ∀ w ∈ gG, w.before args s = true) : (Cond.code yX5_closePlaces cX5_closePlaces 3 (some .int)).before args s = true := h _ mw_967
theorem tw_968 {args : Array Value} {s : State} (h : ∀ w ∈ gG, w.before args s = true) : (Cond.methodLink RX5 170 yX5_grantedOnes).before args s = true := h _ (mG (i := 968) (by decide +kernel) rfl)
theorem tw_970 {args : Array Value} {s : State} (h : ∀ w ∈ gG, w.before args s = true) : (Cond.instanceMethod yX5_grantedOnes).before args s = true := h _ (mG (i := 970) (by decide +kernel) rfl)
theorem mw_971 : Cond.code yX5_grantedOnes cX5_grantedOnes 3 (some .int) ∈ gG := mG (i := 971) (by decide +kernel) rfl
theorem tw_971 {args : Array Value} {s : State} (h : ∀ w ∈ gG, w.before args s = true) : (Cond.code yX5_grantedOnes cX5_grantedOnes 3 (some .int)).before args s = true := h _ mw_971
theorem tw_972 {args : Array Value} {s : State} (h : ∀ w ∈ gG, w.before args s = true) : (Cond.methodLink RX5 161 yX5_isGranted).before args s = true := h _ (mG (i := 972) (by decide +kernel) rfl)
theorem tw_974 {args : Array Value} {s : State} (h : ∀ w ∈ gG, w.before args s = true) : (Cond.instanceMethod yX5_isGranted).before args s = true := h _ (mG (i := 974) (by decide +kernel) rfl)
theorem mw_975 : Cond.code yX5_isGranted cX5_isGranted 3 (some .boolean) ∈ gG := mG (i := 975) (by decide +kernel) rfl
theorem tw_975 {args : Array Value} {s : State} (h : ∀ w ∈ gG, w.before args s = true) : (Cond.code yX5_isGranted cX5_isGranted 3 (some .boolean)).before args s = true := h _ mw_975
theorem tw_976 {args : Array Value} {s : State} (h : ∀ w ∈ gG, w.before args s = true) : (Cond.methodLink RX5 173 yX5_widestGap).before args s = true := h _ (mG (i := 976) (by decide +kernel) rfl)
theorem tw_978 {args : Array Value} {s : State} (h : ∀ w ∈ gG, w.before args s = true) : (Cond.instanceMethod yX5_widestGap).before args s = true := h _ (mG (i := 978) (by decide +kernel) rfl)
theorem mw_979 : Cond.code yX5_widestGap cX5_widestGap 3 (some .int) ∈ gG := mG (i := 979) (by decide +kernel) rfl
theorem tw_979 {args : Array Value} {s : State} (h : ∀ w ∈ gG, w.before args s = true) : (Cond.code yX5_widestGap cX5_widestGap 3 (some .int)).before args s = true := h _ mw_979
theorem tw_980 {args : Array Value} {s : State} (h : ∀ w ∈ gG, w.before args s = true) : (Cond.methodLink RX5 164 yJ9_max_7cf53).before args s = true := h _ (mG (i := 980) (by decide +kernel) rfl)
theorem tw_981 {args : Array Value} {s : State} (h : ∀ w ∈ gG, w.before args s = true) : (Cond.methodLink RX5 176 yX5_turnedOnes).before args s = true := h _ (mG (i := 981) (by decide +kernel) rfl)
theorem tw_983 {args : Array Value} {s : State} (h : ∀ w ∈ gG, w.before args s = true) : (Cond.instanceMethod yX5_turnedOnes).before args s = true := h _ (mG (i := 983) (by decide +kernel) rfl)
theorem mw_984 : Cond.code yX5_turnedOnes cX5_turnedOnes 3 (some .int) ∈ gG := mG (i := 984) (by decide +kernel) rfl
theorem tw_984 {args : Array Value} {s : State} (h : ∀ w ∈ gG, w.before args s = true) : (Cond.code yX5_turnedOnes cX5_turnedOnes 3 (some .int)).before args s = true := h _ mw_984
theorem tw_985 {args : Array Value} {s : State} (h : ∀ w ∈ gG, w.before args s = true) : (Cond.methodLink RX5 179 yX5_bestSum).before args s = true := h _ (mG (i := 985) (by decide +kernel) rfl)
theorem tw_987 {args : Array Value} {s : State} (h : ∀ w ∈ gG, w.before args s = true) : (Cond.instanceMethod yX5_bestSum).before args s = true := h _ (mG (i := 987) (by decide +kernel) rfl)
theorem mw_988 : Cond.code yX5_bestSum cX5_bestSum 2 (some .int) ∈ gG := mG (i := 988) (by decide +kernel) rfl
theorem tw_988 {args : Array Value} {s : State} (h : ∀ w ∈ gG, w.before args s = true) : (Cond.code yX5_bestSum cX5_bestSum 2 (some .int)).before args s = true := h _ mw_988
theorem tw_989 {args : Array Value} {s : State} (h : ∀ w ∈ gG, w.before args s = true) : (Cond.methodLink RX5 195 yX5_isTabled).before args s = true := h _ (mG (i := 989) (by decide +kernel) rfl)
theorem tw_991 {args : Array Value} {s : State} (h : ∀ w ∈ gG, w.before args s = true) : (Cond.instanceMethod yX5_isTabled).before args s = true := h _ (mG (i := 991) (by decide +kernel) rfl)
theorem mw_992 : Cond.code yX5_isTabled cX5_isTabled 3 none ∈ gG := mG (i := 992) (by decide +kernel) rfl
theorem tw_992 {args : Array Value} {s : State} (h : ∀ w ∈ gG, w.before args s = true) : (Cond.code yX5_isTabled cX5_isTabled 3 none).before args s = true := h _ mw_992
theorem tw_993 {args : Array Value} {s : State} (h : ∀ w ∈ gG, w.before args s = true) : (Cond.methodLink RX5 192 yX5_leastRest).before args s = true := h _ (mG (i := 993) (by decide +kernel) rfl)
theorem tw_995 {args : Array Value} {s : State} (h : ∀ w ∈ gG, w.before args s = true) : (Cond.instanceMethod yX5_leastRest).before args s = true := h _ (mG (i := 995) (by decide +kernel) rfl)
theorem mw_996 : Cond.code yX5_leastRest cX5_leastRest 6 (some .int) ∈ gG := mG (i := 996) (by decide +kernel) rfl
theorem tw_996 {args : Array Value} {s : State} (h : ∀ w ∈ gG, w.before args s = true) : (Cond.code yX5_leastRest cX5_leastRest 6 (some .int)).before args s = true := h _ mw_996
theorem tw_997 {args : Array Value} {s : State} (h : ∀ w ∈ gG, w.before args s = true) : (Cond.constant RX5 191 (1000000)).before args s = true := h _ (mG (i := 997) (by decide +kernel) rfl)
theorem tw_998 {args : Array Value} {s : State} (h : ∀ w ∈ gG, w.before args s = true) : (Cond.methodLink RX5 198 yX5_everything).before args s = true := h _ (mG (i := 998) (by decide +kernel) rfl)
theorem tw_1000 {args : Array Value} {s : State} (h : ∀ w ∈ gG, w.before args s = true) : (Cond.instanceMethod yX5_everything).before args s = true := h _ (mG (i := 1000) (by decide +kernel) rfl)
theorem mw_1001 : Cond.code yX5_everything cX5_everything 1 (some .int) ∈ gG := mG (i := 1001) (by decide +kernel) rfl
theorem tw_1001 {args : Array Value} {s : State} (h : ∀ w ∈ gG, w.before args s = true) : (Cond.code yX5_everything cX5_everything 1 (some .int)).before args s = true := h _ mw_1001
theorem tw_1002 {args : Array Value} {s : State} (h : ∀ w ∈ gG, w.before args s = true) : (Cond.methodLink RX5 201 yX5_bestNext).before args s = true := h _ (mG (i := 1002) (by decide +kernel) rfl)
theorem tw_1004 {args : Array Value} {s : State} (h : ∀ w ∈ gG, w.before args s = true) : (Cond.instanceMethod yX5_bestNext).before args s = true := h _ (mG (i := 1004) (by decide +kernel) rfl)
theorem mw_1005 : Cond.code yX5_bestNext cX5_bestNext 7 (some .int) ∈ gG := mG (i := 1005) (by decide +kernel) rfl
theorem tw_1005 {args : Array Value} {s : State} (h : ∀ w ∈ gG, w.before args s = true) : (Cond.code yX5_bestNext cX5_bestNext 7 (some .int)).before args s = true := h _ mw_1005
theorem tw_1006 {args : Array Value} {s : State} (h : ∀ w ∈ gG, w.before args s = true) : (Cond.methodLink RX5 182 yX5_betterSwap).before args s = true := h _ (mG (i := 1006) (by decide +kernel) rfl)
theorem tw_1008 {args : Array Value} {s : State} (h : ∀ w ∈ gG, w.before args s = true) : (Cond.instanceMethod yX5_betterSwap).before args s = true := h _ (mG (i := 1008) (by decide +kernel) rfl)
theorem mw_1009 : Cond.code yX5_betterSwap cX5_betterSwap 6 (some .int) ∈ gG := mG (i := 1009) (by decide +kernel) rfl
theorem tw_1009 {args : Array Value} {s : State} (h : ∀ w ∈ gG, w.before args s = true) : (Cond.code yX5_betterSwap cX5_betterSwap 6 (some .int)).before args s = true := h _ mw_1009
theorem tw_1010 {args : Array Value} {s : State} (h : ∀ w ∈ gG, w.before args s = true) : (Cond.methodLink RL 63 yX5_ahead).before args s = true := h _ (mG (i := 1010) (by decide +kernel) rfl)
theorem tw_1011 {args : Array Value} {s : State} (h : ∀ w ∈ gG, w.before args s = true) : (Cond.instanceMethod yX5_ahead).before args s = true := h _ (mG (i := 1011) (by decide +kernel) rfl)
theorem tw_1012 {args : Array Value} {s : State} (h : ∀ w ∈ gG, w.before args s = true) : (Cond.selects RX5 yX5_ahead yX5_ahead).before args s = true := h _ (mG (i := 1012) (by decide +kernel) rfl)
theorem mw_1013 : Cond.code yX5_ahead cX5_ahead 4 (some .int) ∈ gG := mG (i := 1013) (by decide +kernel) rfl
theorem tw_1013 {args : Array Value} {s : State} (h : ∀ w ∈ gG, w.before args s = true) : (Cond.code yX5_ahead cX5_ahead 4 (some .int)).before args s = true := h _ mw_1013
theorem tw_1014 {args : Array Value} {s : State} (h : ∀ w ∈ gG, w.before args s = true) : (Cond.methodLink RX5 64 yX5_copyRow).before args s = true := h _ (mG (i := 1014) (by decide +kernel) rfl)
theorem tw_1015 {args : Array Value} {s : State} (h : ∀ w ∈ gG, w.before args s = true) : (Cond.static yX5_copyRow).before args s = true := h _ (mG (i := 1015) (by decide +kernel) rfl)
theorem mw_1016 : Cond.code yX5_copyRow cX5_copyRow 3 none ∈ gG := mG (i := 1016) (by decide +kernel) rfl
theorem tw_1016 {args : Array Value} {s : State} (h : ∀ w ∈ gG, w.before args s = true) : (Cond.code yX5_copyRow cX5_copyRow 3 none).before args s = true := h _ mw_1016
theorem tw_1017 {args : Array Value} {s : State} (h : ∀ w ∈ gG, w.before args s = true) : (Cond.methodLink RX5 185 yX5_putBack).before args s = true := h _ (mG (i := 1017) (by decide +kernel) rfl)
theorem tw_1019 {args : Array Value} {s : State} (h : ∀ w ∈ gG, w.before args s = true) : (Cond.instanceMethod yX5_putBack).before args s = true := h _ (mG (i := 1019) (by decide +kernel) rfl)
theorem mw_1020 : Cond.code yX5_putBack cX5_putBack 2 (some .int) ∈ gG := mG (i := 1020) (by decide +kernel) rfl
theorem tw_1020 {args : Array Value} {s : State} (h : ∀ w ∈ gG, w.before args s = true) : (Cond.code yX5_putBack cX5_putBack 2 (some .int)).before args s = true := h _ mw_1020
theorem tw_1021 {args : Array Value} {s : State} (h : ∀ w ∈ gG, w.before args s = true) : (Cond.methodLink RL 67 yX5_sum).before args s = true := h _ (mG (i := 1021) (by decide +kernel) rfl)
theorem tw_1022 {args : Array Value} {s : State} (h : ∀ w ∈ gG, w.before args s = true) : (Cond.instanceMethod yX5_sum).before args s = true := h _ (mG (i := 1022) (by decide +kernel) rfl)
theorem tw_1023 {args : Array Value} {s : State} (h : ∀ w ∈ gG, w.before args s = true) : (Cond.selects RX5 yX5_sum yX5_sum).before args s = true := h _ (mG (i := 1023) (by decide +kernel) rfl)
theorem mw_1024 : Cond.code yX5_sum cX5_sum 2 (some .int) ∈ gG := mG (i := 1024) (by decide +kernel) rfl
theorem tw_1024 {args : Array Value} {s : State} (h : ∀ w ∈ gG, w.before args s = true) : (Cond.code yX5_sum cX5_sum 2 (some .int)).before args s = true := h _ mw_1024
theorem tw_1025 {args : Array Value} {s : State} (h : ∀ w ∈ gG, w.before args s = true) : (Cond.methodLink RL 71 yX5_when).before args s = true := h _ (mG (i := 1025) (by decide +kernel) rfl)
theorem tw_1026 {args : Array Value} {s : State} (h : ∀ w ∈ gG, w.before args s = true) : (Cond.instanceMethod yX5_when).before args s = true := h _ (mG (i := 1026) (by decide +kernel) rfl)
theorem tw_1027 {args : Array Value} {s : State} (h : ∀ w ∈ gG, w.before args s = true) : (Cond.selects RX5 yX5_when yX5_when).before args s = true := h _ (mG (i := 1027) (by decide +kernel) rfl)
theorem mw_1028 : Cond.code yX5_when cX5_when 3 (some .int) ∈ gG := mG (i := 1028) (by decide +kernel) rfl
theorem tw_1028 {args : Array Value} {s : State} (h : ∀ w ∈ gG, w.before args s = true) : (Cond.code yX5_when cX5_when 3 (some .int)).before args s = true := h _ mw_1028
theorem tw_1029 {args : Array Value} {s : State} (h : ∀ w ∈ gG, w.before args s = true) : (Cond.methodLink RX5 188 yX5_orNone).before args s = true := h _ (mG (i := 1029) (by decide +kernel) rfl)
theorem tw_1031 {args : Array Value} {s : State} (h : ∀ w ∈ gG, w.before args s = true) : (Cond.instanceMethod yX5_orNone).before args s = true := h _ (mG (i := 1031) (by decide +kernel) rfl)
theorem mw_1032 : Cond.code yX5_orNone cX5_orNone 2 (some .int) ∈ gG := mG (i := 1032) (by decide +kernel) rfl
theorem tw_1032 {args : Array Value} {s : State} (h : ∀ w ∈ gG, w.before args s = true) : (Cond.code yX5_orNone cX5_orNone 2 (some .int)).before args s = true := h _ mw_1032
theorem tw_1033 {args : Array Value} {s : State} (h : ∀ w ∈ gG, w.before args s = true) : (Cond.constant RX5 68 (-1000004)).before args s = true := h _ (mG (i := 1033) (by decide +kernel) rfl)
theorem tw_1034 {args : Array Value} {s : State} (h : ∀ w ∈ gG, w.before args s = true) : (Cond.methodLink RL 75 yX5_comes).before args s = true := h _ (mG (i := 1034) (by decide +kernel) rfl)
theorem tw_1035 {args : Array Value} {s : State} (h : ∀ w ∈ gG, w.before args s = true) : (Cond.instanceMethod yX5_comes).before args s = true := h _ (mG (i := 1035) (by decide +kernel) rfl)
theorem tw_1036 {args : Array Value} {s : State} (h : ∀ w ∈ gG, w.before args s = true) : (Cond.selects RX5 yX5_comes yX5_comes).before args s = true := h _ (mG (i := 1036) (by decide +kernel) rfl)
theorem mw_1037 : Cond.code yX5_comes cX5_comes 4 (some .int) ∈ gG := mG (i := 1037) (by decide +kernel) rfl
theorem tw_1037 {args : Array Value} {s : State} (h : ∀ w ∈ gG, w.before args s = true) : (Cond.code yX5_comes cX5_comes 4 (some .int)).before args s = true := h _ mw_1037
theorem tw_1038 {args : Array Value} {s : State} (h : ∀ w ∈ gG, w.before args s = true) : (Cond.methodLink RL 79 yX5_granted).before args s = true := h _ (mG (i := 1038) (by decide +kernel) rfl)
theorem tw_1039 {args : Array Value} {s : State} (h : ∀ w ∈ gG, w.before args s = true) : (Cond.instanceMethod yX5_granted).before args s = true := h _ (mG (i := 1039) (by decide +kernel) rfl)
theorem tw_1040 {args : Array Value} {s : State} (h : ∀ w ∈ gG, w.before args s = true) : (Cond.selects RX5 yX5_granted yX5_granted).before args s = true := h _ (mG (i := 1040) (by decide +kernel) rfl)
theorem mw_1041 : Cond.code yX5_granted cX5_granted 3 (some .int) ∈ gG := mG (i := 1041) (by decide +kernel) rfl
theorem tw_1041 {args : Array Value} {s : State} (h : ∀ w ∈ gG, w.before args s = true) : (Cond.code yX5_granted cX5_granted 3 (some .int)).before args s = true := h _ mw_1041
theorem tw_1042 {args : Array Value} {s : State} (h : ∀ w ∈ gG, w.before args s = true) : (Cond.methodLink RL 84 yX5_best).before args s = true := h _ (mG (i := 1042) (by decide +kernel) rfl)
theorem tw_1043 {args : Array Value} {s : State} (h : ∀ w ∈ gG, w.before args s = true) : (Cond.instanceMethod yX5_best).before args s = true := h _ (mG (i := 1043) (by decide +kernel) rfl)
theorem tw_1044 {args : Array Value} {s : State} (h : ∀ w ∈ gG, w.before args s = true) : (Cond.selects RX5 yX5_best yX5_best).before args s = true := h _ (mG (i := 1044) (by decide +kernel) rfl)
theorem mw_1045 : Cond.code yX5_best cX5_best 1 (some .int) ∈ gG := mG (i := 1045) (by decide +kernel) rfl
theorem tw_1045 {args : Array Value} {s : State} (h : ∀ w ∈ gG, w.before args s = true) : (Cond.code yX5_best cX5_best 1 (some .int)).before args s = true := h _ mw_1045
theorem tw_1046 {args : Array Value} {s : State} (h : ∀ w ∈ gG, w.before args s = true) : (Cond.methodLink RL 88 yX5_bestAt).before args s = true := h _ (mG (i := 1046) (by decide +kernel) rfl)
theorem tw_1047 {args : Array Value} {s : State} (h : ∀ w ∈ gG, w.before args s = true) : (Cond.instanceMethod yX5_bestAt).before args s = true := h _ (mG (i := 1047) (by decide +kernel) rfl)
theorem tw_1048 {args : Array Value} {s : State} (h : ∀ w ∈ gG, w.before args s = true) : (Cond.selects RX5 yX5_bestAt yX5_bestAt).before args s = true := h _ (mG (i := 1048) (by decide +kernel) rfl)
theorem mw_1049 : Cond.code yX5_bestAt cX5_bestAt 5 (some .int) ∈ gG := mG (i := 1049) (by decide +kernel) rfl
theorem tw_1049 {args : Array Value} {s : State} (h : ∀ w ∈ gG, w.before args s = true) : (Cond.code yX5_bestAt cX5_bestAt 5 (some .int)).before args s = true := h _ mw_1049
theorem tw_1050 {args : Array Value} {s : State} (h : ∀ w ∈ gG, w.before args s = true) : (Cond.methodLink RL 92 yX5_settle).before args s = true := h _ (mG (i := 1050) (by decide +kernel) rfl)
theorem tw_1051 {args : Array Value} {s : State} (h : ∀ w ∈ gG, w.before args s = true) : (Cond.instanceMethod yX5_settle).before args s = true := h _ (mG (i := 1051) (by decide +kernel) rfl)
theorem tw_1052 {args : Array Value} {s : State} (h : ∀ w ∈ gG, w.before args s = true) : (Cond.selects RX5 yX5_settle yX5_settle).before args s = true := h _ (mG (i := 1052) (by decide +kernel) rfl)
theorem mw_1053 : Cond.code yX5_settle cX5_settle 3 (some .int) ∈ gG := mG (i := 1053) (by decide +kernel) rfl
theorem tw_1053 {args : Array Value} {s : State} (h : ∀ w ∈ gG, w.before args s = true) : (Cond.code yX5_settle cX5_settle 3 (some .int)).before args s = true := h _ mw_1053
theorem tw_1054 {args : Array Value} {s : State} (h : ∀ w ∈ gG, w.before args s = true) : (Cond.methodLink RL 96 yX5_edgeFor).before args s = true := h _ (mG (i := 1054) (by decide +kernel) rfl)
theorem tw_1055 {args : Array Value} {s : State} (h : ∀ w ∈ gG, w.before args s = true) : (Cond.instanceMethod yX5_edgeFor).before args s = true := h _ (mG (i := 1055) (by decide +kernel) rfl)
theorem tw_1056 {args : Array Value} {s : State} (h : ∀ w ∈ gG, w.before args s = true) : (Cond.selects RX5 yX5_edgeFor yX5_edgeFor).before args s = true := h _ (mG (i := 1056) (by decide +kernel) rfl)
theorem mw_1057 : Cond.code yX5_edgeFor cX5_edgeFor 2 (some .int) ∈ gG := mG (i := 1057) (by decide +kernel) rfl
theorem tw_1057 {args : Array Value} {s : State} (h : ∀ w ∈ gG, w.before args s = true) : (Cond.code yX5_edgeFor cX5_edgeFor 2 (some .int)).before args s = true := h _ mw_1057
theorem tw_1058 {args : Array Value} {s : State} (h : ∀ w ∈ gG, w.before args s = true) : (Cond.methodLink RX5 204 yX5_cheapest).before args s = true := h _ (mG (i := 1058) (by decide +kernel) rfl)
theorem tw_1060 {args : Array Value} {s : State} (h : ∀ w ∈ gG, w.before args s = true) : (Cond.instanceMethod yX5_cheapest).before args s = true := h _ (mG (i := 1060) (by decide +kernel) rfl)
theorem mw_1061 : Cond.code yX5_cheapest cX5_cheapest 8 (some .int) ∈ gG := mG (i := 1061) (by decide +kernel) rfl
theorem tw_1061 {args : Array Value} {s : State} (h : ∀ w ∈ gG, w.before args s = true) : (Cond.code yX5_cheapest cX5_cheapest 8 (some .int)).before args s = true := h _ mw_1061
theorem tw_1062 {args : Array Value} {s : State} (h : ∀ w ∈ gG, w.before args s = true) : (Cond.methodLink RL 100 yX5_kindFor).before args s = true := h _ (mG (i := 1062) (by decide +kernel) rfl)
theorem tw_1063 {args : Array Value} {s : State} (h : ∀ w ∈ gG, w.before args s = true) : (Cond.instanceMethod yX5_kindFor).before args s = true := h _ (mG (i := 1063) (by decide +kernel) rfl)
theorem tw_1064 {args : Array Value} {s : State} (h : ∀ w ∈ gG, w.before args s = true) : (Cond.selects RX5 yX5_kindFor yX5_kindFor).before args s = true := h _ (mG (i := 1064) (by decide +kernel) rfl)
theorem mw_1065 : Cond.code yX5_kindFor cX5_kindFor 2 (some .int) ∈ gG := mG (i := 1065) (by decide +kernel) rfl
theorem tw_1065 {args : Array Value} {s : State} (h : ∀ w ∈ gG, w.before args s = true) : (Cond.code yX5_kindFor cX5_kindFor 2 (some .int)).before args s = true := h _ mw_1065
theorem tw_1066 {args : Array Value} {s : State} (h : ∀ w ∈ gG, w.before args s = true) : (Cond.methodLink RL 104 yX5_turn).before args s = true := h _ (mG (i := 1066) (by decide +kernel) rfl)
theorem tw_1067 {args : Array Value} {s : State} (h : ∀ w ∈ gG, w.before args s = true) : (Cond.instanceMethod yX5_turn).before args s = true := h _ (mG (i := 1067) (by decide +kernel) rfl)
theorem tw_1068 {args : Array Value} {s : State} (h : ∀ w ∈ gG, w.before args s = true) : (Cond.selects RX5 yX5_turn yX5_turn).before args s = true := h _ (mG (i := 1068) (by decide +kernel) rfl)
theorem mw_1069 : Cond.code yX5_turn cX5_turn 4 (some .int) ∈ gG := mG (i := 1069) (by decide +kernel) rfl
theorem tw_1069 {args : Array Value} {s : State} (h : ∀ w ∈ gG, w.before args s = true) : (Cond.code yX5_turn cX5_turn 4 (some .int)).before args s = true := h _ mw_1069
theorem tw_1070 {args : Array Value} {s : State} (h : ∀ w ∈ gG, w.before args s = true) : (Cond.methodLink RX5 207 yX5_bits).before args s = true := h _ (mG (i := 1070) (by decide +kernel) rfl)
theorem tw_1071 {args : Array Value} {s : State} (h : ∀ w ∈ gG, w.before args s = true) : (Cond.static yX5_bits).before args s = true := h _ (mG (i := 1071) (by decide +kernel) rfl)
theorem mw_1072 : Cond.code yX5_bits cX5_bits 3 (some .int) ∈ gG := mG (i := 1072) (by decide +kernel) rfl
theorem tw_1072 {args : Array Value} {s : State} (h : ∀ w ∈ gG, w.before args s = true) : (Cond.code yX5_bits cX5_bits 3 (some .int)).before args s = true := h _ mw_1072
theorem tw_1073 {args : Array Value} {s : State} (h : ∀ w ∈ gG, w.before args s = true) : (Cond.methodLink RX5 210 yX5_sumTurned).before args s = true := h _ (mG (i := 1073) (by decide +kernel) rfl)
theorem tw_1075 {args : Array Value} {s : State} (h : ∀ w ∈ gG, w.before args s = true) : (Cond.instanceMethod yX5_sumTurned).before args s = true := h _ (mG (i := 1075) (by decide +kernel) rfl)
theorem mw_1076 : Cond.code yX5_sumTurned cX5_sumTurned 4 (some .int) ∈ gG := mG (i := 1076) (by decide +kernel) rfl
theorem tw_1076 {args : Array Value} {s : State} (h : ∀ w ∈ gG, w.before args s = true) : (Cond.code yX5_sumTurned cX5_sumTurned 4 (some .int)).before args s = true := h _ mw_1076
theorem tw_1077 {args : Array Value} {s : State} (h : ∀ w ∈ gG, w.before args s = true) : (Cond.methodLink RL 108 yX5_fits).before args s = true := h _ (mG (i := 1077) (by decide +kernel) rfl)
theorem tw_1078 {args : Array Value} {s : State} (h : ∀ w ∈ gG, w.before args s = true) : (Cond.instanceMethod yX5_fits).before args s = true := h _ (mG (i := 1078) (by decide +kernel) rfl)
theorem tw_1079 {args : Array Value} {s : State} (h : ∀ w ∈ gG, w.before args s = true) : (Cond.selects RX5 yX5_fits yX5_fits).before args s = true := h _ (mG (i := 1079) (by decide +kernel) rfl)
theorem mw_1080 : Cond.code yX5_fits cX5_fits 8 (some .int) ∈ gG := mG (i := 1080) (by decide +kernel) rfl
theorem tw_1080 {args : Array Value} {s : State} (h : ∀ w ∈ gG, w.before args s = true) : (Cond.code yX5_fits cX5_fits 8 (some .int)).before args s = true := h _ mw_1080
theorem tw_1081 {args : Array Value} {s : State} (h : ∀ w ∈ gG, w.before args s = true) : (Cond.methodLink RX5 217 yX5_lacks).before args s = true := h _ (mG (i := 1081) (by decide +kernel) rfl)
theorem tw_1083 {args : Array Value} {s : State} (h : ∀ w ∈ gG, w.before args s = true) : (Cond.instanceMethod yX5_lacks).before args s = true := h _ (mG (i := 1083) (by decide +kernel) rfl)
theorem mw_1084 : Cond.code yX5_lacks cX5_lacks 3 (some .int) ∈ gG := mG (i := 1084) (by decide +kernel) rfl
theorem tw_1084 {args : Array Value} {s : State} (h : ∀ w ∈ gG, w.before args s = true) : (Cond.code yX5_lacks cX5_lacks 3 (some .int)).before args s = true := h _ mw_1084
theorem tw_1085 {args : Array Value} {s : State} (h : ∀ w ∈ gG, w.before args s = true) : (Cond.methodLink RX5 213 yX5_isSheet).before args s = true := h _ (mG (i := 1085) (by decide +kernel) rfl)
theorem tw_1086 {args : Array Value} {s : State} (h : ∀ w ∈ gG, w.before args s = true) : (Cond.static yX5_isSheet).before args s = true := h _ (mG (i := 1086) (by decide +kernel) rfl)
theorem mw_1087 : Cond.code yX5_isSheet cX5_isSheet 1 (some .boolean) ∈ gG := mG (i := 1087) (by decide +kernel) rfl
theorem tw_1087 {args : Array Value} {s : State} (h : ∀ w ∈ gG, w.before args s = true) : (Cond.code yX5_isSheet cX5_isSheet 1 (some .boolean)).before args s = true := h _ mw_1087
theorem tw_1088 {args : Array Value} {s : State} (h : ∀ w ∈ gG, w.before args s = true) : (Cond.constant RX5 216 (-1000006)).before args s = true := h _ (mG (i := 1088) (by decide +kernel) rfl)
theorem tw_1089 {args : Array Value} {s : State} (h : ∀ w ∈ gG, w.before args s = true) : (Cond.methodLink RX5 221 yX5_isSo).before args s = true := h _ (mG (i := 1089) (by decide +kernel) rfl)
theorem tw_1091 {args : Array Value} {s : State} (h : ∀ w ∈ gG, w.before args s = true) : (Cond.instanceMethod yX5_isSo).before args s = true := h _ (mG (i := 1091) (by decide +kernel) rfl)
theorem mw_1092 : Cond.code yX5_isSo cX5_isSo 5 (some .boolean) ∈ gG := mG (i := 1092) (by decide +kernel) rfl
theorem tw_1092 {args : Array Value} {s : State} (h : ∀ w ∈ gG, w.before args s = true) : (Cond.code yX5_isSo cX5_isSo 5 (some .boolean)).before args s = true := h _ mw_1092
theorem tw_1093 {args : Array Value} {s : State} (h : ∀ w ∈ gG, w.before args s = true) : (Cond.methodLink RL 112 yX5_kinds).before args s = true := h _ (mG (i := 1093) (by decide +kernel) rfl)
theorem tw_1094 {args : Array Value} {s : State} (h : ∀ w ∈ gG, w.before args s = true) : (Cond.instanceMethod yX5_kinds).before args s = true := h _ (mG (i := 1094) (by decide +kernel) rfl)
theorem tw_1095 {args : Array Value} {s : State} (h : ∀ w ∈ gG, w.before args s = true) : (Cond.selects RX5 yX5_kinds yX5_kinds).before args s = true := h _ (mG (i := 1095) (by decide +kernel) rfl)
theorem mw_1096 : Cond.code yX5_kinds cX5_kinds 8 (some .int) ∈ gG := mG (i := 1096) (by decide +kernel) rfl
theorem tw_1096 {args : Array Value} {s : State} (h : ∀ w ∈ gG, w.before args s = true) : (Cond.code yX5_kinds cX5_kinds 8 (some .int)).before args s = true := h _ mw_1096
theorem tw_1097 {args : Array Value} {s : State} (h : ∀ w ∈ gG, w.before args s = true) : (Cond.methodLink RL 116 yX5_tip).before args s = true := h _ (mG (i := 1097) (by decide +kernel) rfl)
theorem tw_1098 {args : Array Value} {s : State} (h : ∀ w ∈ gG, w.before args s = true) : (Cond.instanceMethod yX5_tip).before args s = true := h _ (mG (i := 1098) (by decide +kernel) rfl)
theorem tw_1099 {args : Array Value} {s : State} (h : ∀ w ∈ gG, w.before args s = true) : (Cond.selects RX5 yX5_tip yX5_tip).before args s = true := h _ (mG (i := 1099) (by decide +kernel) rfl)
theorem mw_1100 : Cond.code yX5_tip cX5_tip 5 (some .int) ∈ gG := mG (i := 1100) (by decide +kernel) rfl
theorem tw_1100 {args : Array Value} {s : State} (h : ∀ w ∈ gG, w.before args s = true) : (Cond.code yX5_tip cX5_tip 5 (some .int)).before args s = true := h _ mw_1100
theorem tw_1101 {args : Array Value} {s : State} (h : ∀ w ∈ gG, w.before args s = true) : (Cond.methodLink RX5 225 yX5_drawn).before args s = true := h _ (mG (i := 1101) (by decide +kernel) rfl)
theorem tw_1103 {args : Array Value} {s : State} (h : ∀ w ∈ gG, w.before args s = true) : (Cond.instanceMethod yX5_drawn).before args s = true := h _ (mG (i := 1103) (by decide +kernel) rfl)
theorem mw_1104 : Cond.code yX5_drawn cX5_drawn 1 (some .int) ∈ gG := mG (i := 1104) (by decide +kernel) rfl
theorem tw_1104 {args : Array Value} {s : State} (h : ∀ w ∈ gG, w.before args s = true) : (Cond.code yX5_drawn cX5_drawn 1 (some .int)).before args s = true := h _ mw_1104
theorem tw_1105 {args : Array Value} {s : State} (h : ∀ w ∈ gG, w.before args s = true) : (Cond.constant RX5 224 (1103515245)).before args s = true := h _ (mG (i := 1105) (by decide +kernel) rfl)
theorem tw_1106 {args : Array Value} {s : State} (h : ∀ w ∈ gG, w.before args s = true) : (Cond.methodLink RL 121 yX5_odds).before args s = true := h _ (mG (i := 1106) (by decide +kernel) rfl)
theorem tw_1107 {args : Array Value} {s : State} (h : ∀ w ∈ gG, w.before args s = true) : (Cond.instanceMethod yX5_odds).before args s = true := h _ (mG (i := 1107) (by decide +kernel) rfl)
theorem tw_1108 {args : Array Value} {s : State} (h : ∀ w ∈ gG, w.before args s = true) : (Cond.selects RX5 yX5_odds yX5_odds).before args s = true := h _ (mG (i := 1108) (by decide +kernel) rfl)
theorem mw_1109 : Cond.code yX5_odds cX5_odds 10 (some .long) ∈ gG := mG (i := 1109) (by decide +kernel) rfl
theorem tw_1109 {args : Array Value} {s : State} (h : ∀ w ∈ gG, w.before args s = true) : (Cond.code yX5_odds cX5_odds 10 (some .long)).before args s = true := h _ mw_1109
theorem tw_1110 {args : Array Value} {s : State} (h : ∀ w ∈ gG, w.before args s = true) : (Cond.methodLink RX5 228 yX5_isNoWorse).before args s = true := h _ (mG (i := 1110) (by decide +kernel) rfl)
theorem tw_1112 {args : Array Value} {s : State} (h : ∀ w ∈ gG, w.before args s = true) : (Cond.instanceMethod yX5_isNoWorse).before args s = true := h _ (mG (i := 1112) (by decide +kernel) rfl)
theorem mw_1113 : Cond.code yX5_isNoWorse cX5_isNoWorse 5 (some .boolean) ∈ gG := mG (i := 1113) (by decide +kernel) rfl
theorem tw_1113 {args : Array Value} {s : State} (h : ∀ w ∈ gG, w.before args s = true) : (Cond.code yX5_isNoWorse cX5_isNoWorse 5 (some .boolean)).before args s = true := h _ mw_1113
theorem tw_1114 {args : Array Value} {s : State} (h : ∀ w ∈ gG, w.before args s = true) : (Cond.methodLink RL 125 yX5_seed).before args s = true := h _ (mG (i := 1114) (by decide +kernel) rfl)
theorem tw_1115 {args : Array Value} {s : State} (h : ∀ w ∈ gG, w.before args s = true) : (Cond.instanceMethod yX5_seed).before args s = true := h _ (mG (i := 1115) (by decide +kernel) rfl)
theorem tw_1116 {args : Array Value} {s : State} (h : ∀ w ∈ gG, w.before args s = true) : (Cond.selects RX5 yX5_seed yX5_seed).before args s = true := h _ (mG (i := 1116) (by decide +kernel) rfl)
theorem mw_1117 : Cond.code yX5_seed cX5_seed 2 (some .int) ∈ gG := mG (i := 1117) (by decide +kernel) rfl
theorem tw_1117 {args : Array Value} {s : State} (h : ∀ w ∈ gG, w.before args s = true) : (Cond.code yX5_seed cX5_seed 2 (some .int)).before args s = true := h _ mw_1117
theorem tw_1118 {args : Array Value} {s : State} (h : ∀ w ∈ gG, w.before args s = true) : (Cond.methodLink RL 129 yX5_feed).before args s = true := h _ (mG (i := 1118) (by decide +kernel) rfl)
theorem tw_1119 {args : Array Value} {s : State} (h : ∀ w ∈ gG, w.before args s = true) : (Cond.instanceMethod yX5_feed).before args s = true := h _ (mG (i := 1119) (by decide +kernel) rfl)
theorem tw_1120 {args : Array Value} {s : State} (h : ∀ w ∈ gG, w.before args s = true) : (Cond.selects RX5 yX5_feed yX5_feed).before args s = true := h _ (mG (i := 1120) (by decide +kernel) rfl)
theorem mw_1121 : Cond.code yX5_feed cX5_feed 4 (some .int) ∈ gG := mG (i := 1121) (by decide +kernel) rfl
theorem tw_1121 {args : Array Value} {s : State} (h : ∀ w ∈ gG, w.before args s = true) : (Cond.code yX5_feed cX5_feed 4 (some .int)).before args s = true := h _ mw_1121
theorem tw_1122 {args : Array Value} {s : State} (h : ∀ w ∈ gG, w.before args s = true) : (Cond.methodLink RL 133 yX5_wipe).before args s = true := h _ (mG (i := 1122) (by decide +kernel) rfl)
theorem tw_1123 {args : Array Value} {s : State} (h : ∀ w ∈ gG, w.before args s = true) : (Cond.instanceMethod yX5_wipe).before args s = true := h _ (mG (i := 1123) (by decide +kernel) rfl)
theorem tw_1124 {args : Array Value} {s : State} (h : ∀ w ∈ gG, w.before args s = true) : (Cond.selects RX5 yX5_wipe yX5_wipe).before args s = true := h _ (mG (i := 1124) (by decide +kernel) rfl)
theorem mw_1125 : Cond.code yX5_wipe cX5_wipe 2 (some .int) ∈ gG := mG (i := 1125) (by decide +kernel) rfl
theorem tw_1125 {args : Array Value} {s : State} (h : ∀ w ∈ gG, w.before args s = true) : (Cond.code yX5_wipe cX5_wipe 2 (some .int)).before args s = true := h _ mw_1125
theorem tw_1126 {args : Array Value} {s : State} (h : ∀ w ∈ gG, w.before args s = true) : (Cond.methodLink RL 137 yX5_text).before args s = true := h _ (mG (i := 1126) (by decide +kernel) rfl)
theorem tw_1127 {args : Array Value} {s : State} (h : ∀ w ∈ gG, w.before args s = true) : (Cond.instanceMethod yX5_text).before args s = true := h _ (mG (i := 1127) (by decide +kernel) rfl)
theorem tw_1128 {args : Array Value} {s : State} (h : ∀ w ∈ gG, w.before args s = true) : (Cond.selects RX5 yX5_text yX5_text).before args s = true := h _ (mG (i := 1128) (by decide +kernel) rfl)
theorem mw_1129 : Cond.code yX5_text cX5_text 2 (some .int) ∈ gG := mG (i := 1129) (by decide +kernel) rfl
theorem tw_1129 {args : Array Value} {s : State} (h : ∀ w ∈ gG, w.before args s = true) : (Cond.code yX5_text cX5_text 2 (some .int)).before args s = true := h _ mw_1129
theorem tw_1130 {args : Array Value} {s : State} (h : ∀ w ∈ gG, w.before args s = true) : (Cond.methodLink RX5 261 yX5_token).before args s = true := h _ (mG (i := 1130) (by decide +kernel) rfl)
theorem tw_1132 {args : Array Value} {s : State} (h : ∀ w ∈ gG, w.before args s = true) : (Cond.instanceMethod yX5_token).before args s = true := h _ (mG (i := 1132) (by decide +kernel) rfl)
theorem mw_1133 : Cond.code yX5_token cX5_token 2 none ∈ gG := mG (i := 1133) (by decide +kernel) rfl
theorem tw_1133 {args : Array Value} {s : State} (h : ∀ w ∈ gG, w.before args s = true) : (Cond.code yX5_token cX5_token 2 none).before args s = true := h _ mw_1133
theorem tw_1134 {args : Array Value} {s : State} (h : ∀ w ∈ gG, w.before args s = true) : (Cond.methodLink RX5 241 yX5_byteAt).before args s = true := h _ (mG (i := 1134) (by decide +kernel) rfl)
theorem tw_1136 {args : Array Value} {s : State} (h : ∀ w ∈ gG, w.before args s = true) : (Cond.instanceMethod yX5_byteAt).before args s = true := h _ (mG (i := 1136) (by decide +kernel) rfl)
theorem mw_1137 : Cond.code yX5_byteAt cX5_byteAt 2 (some .int) ∈ gG := mG (i := 1137) (by decide +kernel) rfl
theorem tw_1137 {args : Array Value} {s : State} (h : ∀ w ∈ gG, w.before args s = true) : (Cond.code yX5_byteAt cX5_byteAt 2 (some .int)).before args s = true := h _ mw_1137
theorem tw_1138 {args : Array Value} {s : State} (h : ∀ w ∈ gG, w.before args s = true) : (Cond.methodLink RX5 299 yX5_readItem).before args s = true := h _ (mG (i := 1138) (by decide +kernel) rfl)
theorem tw_1140 {args : Array Value} {s : State} (h : ∀ w ∈ gG, w.before args s = true) : (Cond.instanceMethod yX5_readItem).before args s = true := h _ (mG (i := 1140) (by decide +kernel) rfl)
theorem mw_1141 : Cond.code yX5_readItem cX5_readItem 4 none ∈ gG := mG (i := 1141) (by decide +kernel) rfl
theorem tw_1141 {args : Array Value} {s : State} (h : ∀ w ∈ gG, w.before args s = true) : (Cond.code yX5_readItem cX5_readItem 4 none).before args s = true := h _ mw_1141
theorem tw_1142 {args : Array Value} {s : State} (h : ∀ w ∈ gG, w.before args s = true) : (Cond.methodLink RX5 271 yX5_isWord).before args s = true := h _ (mG (i := 1142) (by decide +kernel) rfl)
theorem tw_1144 {args : Array Value} {s : State} (h : ∀ w ∈ gG, w.before args s = true) : (Cond.instanceMethod yX5_isWord).before args s = true := h _ (mG (i := 1144) (by decide +kernel) rfl)
theorem mw_1145 : Cond.code yX5_isWord cX5_isWord 4 (some .boolean) ∈ gG := mG (i := 1145) (by decide +kernel) rfl
theorem tw_1145 {args : Array Value} {s : State} (h : ∀ w ∈ gG, w.before args s = true) : (Cond.code yX5_isWord cX5_isWord 4 (some .boolean)).before args s = true := h _ mw_1145
theorem tw_1146 {args : Array Value} {s : State} (h : ∀ w ∈ gG, w.before args s = true) : (Cond.methodLink RX5 250 yJ0_length_8abf5).before args s = true := h _ (mG (i := 1146) (by decide +kernel) rfl)
theorem tw_1147 {args : Array Value} {s : State} (h : ∀ w ∈ gG, w.before args s = true) : (Cond.methodLink RX5 253 yJ0_charAt_5068e).before args s = true := h _ (mG (i := 1147) (by decide +kernel) rfl)
theorem tw_1148 {args : Array Value} {s : State} (h : ∀ w ∈ gG, w.before args s = true) : (Cond.methodLink RX5 292 yX5_readPiece).before args s = true := h _ (mG (i := 1148) (by decide +kernel) rfl)
theorem tw_1150 {args : Array Value} {s : State} (h : ∀ w ∈ gG, w.before args s = true) : (Cond.instanceMethod yX5_readPiece).before args s = true := h _ (mG (i := 1150) (by decide +kernel) rfl)
theorem mw_1151 : Cond.code yX5_readPiece cX5_readPiece 5 none ∈ gG := mG (i := 1151) (by decide +kernel) rfl
theorem tw_1151 {args : Array Value} {s : State} (h : ∀ w ∈ gG, w.before args s = true) : (Cond.code yX5_readPiece cX5_readPiece 5 none).before args s = true := h _ mw_1151
theorem tw_1152 {args : Array Value} {s : State} (h : ∀ w ∈ gG, w.before args s = true) : (Cond.methodLink RX5 264 yX5_must).before args s = true := h _ (mG (i := 1152) (by decide +kernel) rfl)
theorem tw_1154 {args : Array Value} {s : State} (h : ∀ w ∈ gG, w.before args s = true) : (Cond.instanceMethod yX5_must).before args s = true := h _ (mG (i := 1154) (by decide +kernel) rfl)
theorem mw_1155 : Cond.code yX5_must cX5_must 2 none ∈ gG := mG (i := 1155) (by decide +kernel) rfl
theorem tw_1155 {args : Array Value} {s : State} (h : ∀ w ∈ gG, w.before args s = true) : (Cond.code yX5_must cX5_must 2 none).before args s = true := h _ mw_1155
theorem tw_1156 {args : Array Value} {s : State} (h : ∀ w ∈ gG, w.before args s = true) : (Cond.methodLink RX5 278 yX5_number).before args s = true := h _ (mG (i := 1156) (by decide +kernel) rfl)
theorem tw_1158 {args : Array Value} {s : State} (h : ∀ w ∈ gG, w.before args s = true) : (Cond.instanceMethod yX5_number).before args s = true := h _ (mG (i := 1158) (by decide +kernel) rfl)
theorem mw_1159 : Cond.code yX5_number cX5_number 4 (some .int) ∈ gG := mG (i := 1159) (by decide +kernel) rfl
theorem tw_1159 {args : Array Value} {s : State} (h : ∀ w ∈ gG, w.before args s = true) : (Cond.code yX5_number cX5_number 4 (some .int)).before args s = true := h _ mw_1159
theorem tw_1161 {args : Array Value} {s : State} (h : ∀ w ∈ gG, w.before args s = true) : (Cond.methodLink RX5 283 yX5_takesWord).before args s = true := h _ (mG (i := 1161) (by decide +kernel) rfl)
theorem tw_1163 {args : Array Value} {s : State} (h : ∀ w ∈ gG, w.before args s = true) : (Cond.instanceMethod yX5_takesWord).before args s = true := h _ (mG (i := 1163) (by decide +kernel) rfl)
theorem mw_1164 : Cond.code yX5_takesWord cX5_takesWord 3 (some .boolean) ∈ gG := mG (i := 1164) (by decide +kernel) rfl
theorem tw_1164 {args : Array Value} {s : State} (h : ∀ w ∈ gG, w.before args s = true) : (Cond.code yX5_takesWord cX5_takesWord 3 (some .boolean)).before args s = true := h _ mw_1164
theorem tw_1166 {args : Array Value} {s : State} (h : ∀ w ∈ gG, w.before args s = true) : (Cond.methodLink RX5 288 yX5_addItem).before args s = true := h _ (mG (i := 1166) (by decide +kernel) rfl)
theorem tw_1168 {args : Array Value} {s : State} (h : ∀ w ∈ gG, w.before args s = true) : (Cond.instanceMethod yX5_addItem).before args s = true := h _ (mG (i := 1168) (by decide +kernel) rfl)
theorem mw_1169 : Cond.code yX5_addItem cX5_addItem 7 none ∈ gG := mG (i := 1169) (by decide +kernel) rfl
theorem tw_1169 {args : Array Value} {s : State} (h : ∀ w ∈ gG, w.before args s = true) : (Cond.code yX5_addItem cX5_addItem 7 none).before args s = true := h _ mw_1169
theorem tw_1172 {args : Array Value} {s : State} (h : ∀ w ∈ gG, w.before args s = true) : (Cond.methodLink RX5 302 yX5_isToldSo).before args s = true := h _ (mG (i := 1172) (by decide +kernel) rfl)
theorem tw_1174 {args : Array Value} {s : State} (h : ∀ w ∈ gG, w.before args s = true) : (Cond.instanceMethod yX5_isToldSo).before args s = true := h _ (mG (i := 1174) (by decide +kernel) rfl)
theorem mw_1175 : Cond.code yX5_isToldSo cX5_isToldSo 6 none ∈ gG := mG (i := 1175) (by decide +kernel) rfl
theorem tw_1175 {args : Array Value} {s : State} (h : ∀ w ∈ gG, w.before args s = true) : (Cond.code yX5_isToldSo cX5_isToldSo 6 none).before args s = true := h _ mw_1175
theorem tw_1176 {args : Array Value} {s : State} (h : ∀ w ∈ gG, w.before args s = true) : (Cond.methodLink RL 141 yX5_hold).before args s = true := h _ (mG (i := 1176) (by decide +kernel) rfl)
theorem tw_1177 {args : Array Value} {s : State} (h : ∀ w ∈ gG, w.before args s = true) : (Cond.instanceMethod yX5_hold).before args s = true := h _ (mG (i := 1177) (by decide +kernel) rfl)
theorem tw_1178 {args : Array Value} {s : State} (h : ∀ w ∈ gG, w.before args s = true) : (Cond.selects RX5 yX5_hold yX5_hold).before args s = true := h _ (mG (i := 1178) (by decide +kernel) rfl)
theorem mw_1179 : Cond.code yX5_hold cX5_hold 3 (some .int) ∈ gG := mG (i := 1179) (by decide +kernel) rfl
theorem tw_1179 {args : Array Value} {s : State} (h : ∀ w ∈ gG, w.before args s = true) : (Cond.code yX5_hold cX5_hold 3 (some .int)).before args s = true := h _ mw_1179
theorem tw_1180 {args : Array Value} {s : State} (h : ∀ w ∈ gG, w.before args s = true) : (Cond.methodLink RX5 305 yX5_isSpot).before args s = true := h _ (mG (i := 1180) (by decide +kernel) rfl)
theorem tw_1181 {args : Array Value} {s : State} (h : ∀ w ∈ gG, w.before args s = true) : (Cond.static yX5_isSpot).before args s = true := h _ (mG (i := 1181) (by decide +kernel) rfl)
theorem mw_1182 : Cond.code yX5_isSpot cX5_isSpot 1 (some .boolean) ∈ gG := mG (i := 1182) (by decide +kernel) rfl
theorem tw_1182 {args : Array Value} {s : State} (h : ∀ w ∈ gG, w.before args s = true) : (Cond.code yX5_isSpot cX5_isSpot 1 (some .boolean)).before args s = true := h _ mw_1182
theorem tw_1183 {args : Array Value} {s : State} (h : ∀ w ∈ gG, w.before args s = true) : (Cond.methodLink RL 145 yX5_as).before args s = true := h _ (mG (i := 1183) (by decide +kernel) rfl)
theorem tw_1184 {args : Array Value} {s : State} (h : ∀ w ∈ gG, w.before args s = true) : (Cond.instanceMethod yX5_as).before args s = true := h _ (mG (i := 1184) (by decide +kernel) rfl)
theorem tw_1185 {args : Array Value} {s : State} (h : ∀ w ∈ gG, w.before args s = true) : (Cond.selects RX5 yX5_as yX5_as).before args s = true := h _ (mG (i := 1185) (by decide +kernel) rfl)
theorem mw_1186 : Cond.code yX5_as cX5_as 4 (some .int) ∈ gG := mG (i := 1186) (by decide +kernel) rfl
theorem tw_1186 {args : Array Value} {s : State} (h : ∀ w ∈ gG, w.before args s = true) : (Cond.code yX5_as cX5_as 4 (some .int)).before args s = true := h _ mw_1186
theorem tw_1187 {args : Array Value} {s : State} (h : ∀ w ∈ gG, w.before args s = true) : (Cond.methodLink RX5 308 yX5_isUnder).before args s = true := h _ (mG (i := 1187) (by decide +kernel) rfl)
theorem tw_1188 {args : Array Value} {s : State} (h : ∀ w ∈ gG, w.before args s = true) : (Cond.static yX5_isUnder).before args s = true := h _ (mG (i := 1188) (by decide +kernel) rfl)
theorem mw_1189 : Cond.code yX5_isUnder cX5_isUnder 3 (some .boolean) ∈ gG := mG (i := 1189) (by decide +kernel) rfl
theorem tw_1189 {args : Array Value} {s : State} (h : ∀ w ∈ gG, w.before args s = true) : (Cond.code yX5_isUnder cX5_isUnder 3 (some .boolean)).before args s = true := h _ mw_1189
theorem tw_1190 {args : Array Value} {s : State} (h : ∀ w ∈ gG, w.before args s = true) : (Cond.methodLink RX5 316 yX5_above).before args s = true := h _ (mG (i := 1190) (by decide +kernel) rfl)
theorem tw_1191 {args : Array Value} {s : State} (h : ∀ w ∈ gG, w.before args s = true) : (Cond.static yX5_above).before args s = true := h _ (mG (i := 1191) (by decide +kernel) rfl)
theorem mw_1192 : Cond.code yX5_above cX5_above 1 (some .int) ∈ gG := mG (i := 1192) (by decide +kernel) rfl
theorem tw_1192 {args : Array Value} {s : State} (h : ∀ w ∈ gG, w.before args s = true) : (Cond.code yX5_above cX5_above 1 (some .int)).before args s = true := h _ mw_1192
theorem tw_1193 {args : Array Value} {s : State} (h : ∀ w ∈ gG, w.before args s = true) : (Cond.constant RX5 311 (-1000003)).before args s = true := h _ (mG (i := 1193) (by decide +kernel) rfl)
theorem tw_1194 {args : Array Value} {s : State} (h : ∀ w ∈ gG, w.before args s = true) : (Cond.methodLink RL 149 yX5_sheet).before args s = true := h _ (mG (i := 1194) (by decide +kernel) rfl)
theorem tw_1195 {args : Array Value} {s : State} (h : ∀ w ∈ gG, w.before args s = true) : (Cond.instanceMethod yX5_sheet).before args s = true := h _ (mG (i := 1195) (by decide +kernel) rfl)
theorem tw_1196 {args : Array Value} {s : State} (h : ∀ w ∈ gG, w.before args s = true) : (Cond.selects RX5 yX5_sheet yX5_sheet).before args s = true := h _ (mG (i := 1196) (by decide +kernel) rfl)
theorem mw_1197 : Cond.code yX5_sheet cX5_sheet 5 (some .int) ∈ gG := mG (i := 1197) (by decide +kernel) rfl
theorem tw_1197 {args : Array Value} {s : State} (h : ∀ w ∈ gG, w.before args s = true) : (Cond.code yX5_sheet cX5_sheet 5 (some .int)).before args s = true := h _ mw_1197
theorem tw_1198 {args : Array Value} {s : State} (h : ∀ w ∈ gG, w.before args s = true) : (Cond.constant RX5 312 (-1000007)).before args s = true := h _ (mG (i := 1198) (by decide +kernel) rfl)
theorem tw_1199 {args : Array Value} {s : State} (h : ∀ w ∈ gG, w.before args s = true) : (Cond.methodLink RL 153 yX5_write).before args s = true := h _ (mG (i := 1199) (by decide +kernel) rfl)
theorem tw_1200 {args : Array Value} {s : State} (h : ∀ w ∈ gG, w.before args s = true) : (Cond.instanceMethod yX5_write).before args s = true := h _ (mG (i := 1200) (by decide +kernel) rfl)
theorem tw_1201 {args : Array Value} {s : State} (h : ∀ w ∈ gG, w.before args s = true) : (Cond.selects RX5 yX5_write yX5_write).before args s = true := h _ (mG (i := 1201) (by decide +kernel) rfl)
theorem mw_1202 : Cond.code yX5_write cX5_write 4 (some .int) ∈ gG := mG (i := 1202) (by decide +kernel) rfl
theorem tw_1202 {args : Array Value} {s : State} (h : ∀ w ∈ gG, w.before args s = true) : (Cond.code yX5_write cX5_write 4 (some .int)).before args s = true := h _ mw_1202
theorem tw_1203 {args : Array Value} {s : State} (h : ∀ w ∈ gG, w.before args s = true) : (Cond.methodLink RX5 313 yX5_cutTo).before args s = true := h _ (mG (i := 1203) (by decide +kernel) rfl)
theorem tw_1204 {args : Array Value} {s : State} (h : ∀ w ∈ gG, w.before args s = true) : (Cond.static yX5_cutTo).before args s = true := h _ (mG (i := 1204) (by decide +kernel) rfl)
theorem mw_1205 : Cond.code yX5_cutTo cX5_cutTo 2 (some .int) ∈ gG := mG (i := 1205) (by decide +kernel) rfl
theorem tw_1205 {args : Array Value} {s : State} (h : ∀ w ∈ gG, w.before args s = true) : (Cond.code yX5_cutTo cX5_cutTo 2 (some .int)).before args s = true := h _ mw_1205
theorem tw_1206 {args : Array Value} {s : State} (h : ∀ w ∈ gG, w.before args s = true) : (Cond.methodLink RL 158 yX5_copy).before args s = true := h _ (mG (i := 1206) (by decide +kernel) rfl)
theorem tw_1207 {args : Array Value} {s : State} (h : ∀ w ∈ gG, w.before args s = true) : (Cond.instanceMethod yX5_copy).before args s = true := h _ (mG (i := 1207) (by decide +kernel) rfl)
theorem tw_1208 {args : Array Value} {s : State} (h : ∀ w ∈ gG, w.before args s = true) : (Cond.selects RX5 yX5_copy yX5_copy).before args s = true := h _ (mG (i := 1208) (by decide +kernel) rfl)
theorem mw_1209 : Cond.code yX5_copy cX5_copy 7 (some .int) ∈ gG := mG (i := 1209) (by decide +kernel) rfl
theorem tw_1209 {args : Array Value} {s : State} (h : ∀ w ∈ gG, w.before args s = true) : (Cond.code yX5_copy cX5_copy 7 (some .int)).before args s = true := h _ mw_1209
theorem tw_1210 {args : Array Value} {s : State} (h : ∀ w ∈ gG, w.before args s = true) : (Cond.methodLink RL 162 yX5_load).before args s = true := h _ (mG (i := 1210) (by decide +kernel) rfl)
theorem tw_1211 {args : Array Value} {s : State} (h : ∀ w ∈ gG, w.before args s = true) : (Cond.instanceMethod yX5_load).before args s = true := h _ (mG (i := 1211) (by decide +kernel) rfl)
theorem tw_1212 {args : Array Value} {s : State} (h : ∀ w ∈ gG, w.before args s = true) : (Cond.selects RX5 yX5_load yX5_load).before args s = true := h _ (mG (i := 1212) (by decide +kernel) rfl)
theorem mw_1213 : Cond.code yX5_load cX5_load 3 (some .int) ∈ gG := mG (i := 1213) (by decide +kernel) rfl
theorem tw_1213 {args : Array Value} {s : State} (h : ∀ w ∈ gG, w.before args s = true) : (Cond.code yX5_load cX5_load 3 (some .int)).before args s = true := h _ mw_1213
theorem tw_1214 {args : Array Value} {s : State} (h : ∀ w ∈ gG, w.before args s = true) : (Cond.methodLink RL 166 yX5_judge).before args s = true := h _ (mG (i := 1214) (by decide +kernel) rfl)
theorem tw_1215 {args : Array Value} {s : State} (h : ∀ w ∈ gG, w.before args s = true) : (Cond.instanceMethod yX5_judge).before args s = true := h _ (mG (i := 1215) (by decide +kernel) rfl)
theorem tw_1216 {args : Array Value} {s : State} (h : ∀ w ∈ gG, w.before args s = true) : (Cond.selects RX5 yX5_judge yX5_judge).before args s = true := h _ (mG (i := 1216) (by decide +kernel) rfl)
theorem mw_1217 : Cond.code yX5_judge cX5_judge 3 (some .int) ∈ gG := mG (i := 1217) (by decide +kernel) rfl
theorem tw_1217 {args : Array Value} {s : State} (h : ∀ w ∈ gG, w.before args s = true) : (Cond.code yX5_judge cX5_judge 3 (some .int)).before args s = true := h _ mw_1217
theorem tw_1218 {args : Array Value} {s : State} (h : ∀ w ∈ gG, w.before args s = true) : (Cond.methodLink RL 170 yX5_image).before args s = true := h _ (mG (i := 1218) (by decide +kernel) rfl)
theorem tw_1219 {args : Array Value} {s : State} (h : ∀ w ∈ gG, w.before args s = true) : (Cond.instanceMethod yX5_image).before args s = true := h _ (mG (i := 1219) (by decide +kernel) rfl)
theorem tw_1220 {args : Array Value} {s : State} (h : ∀ w ∈ gG, w.before args s = true) : (Cond.selects RX5 yX5_image yX5_image).before args s = true := h _ (mG (i := 1220) (by decide +kernel) rfl)
theorem mw_1221 : Cond.code yX5_image cX5_image 1 (some .int) ∈ gG := mG (i := 1221) (by decide +kernel) rfl
theorem tw_1221 {args : Array Value} {s : State} (h : ∀ w ∈ gG, w.before args s = true) : (Cond.code yX5_image cX5_image 1 (some .int)).before args s = true := h _ mw_1221
theorem tw_1222 {args : Array Value} {s : State} (h : ∀ w ∈ gG, w.before args s = true) : (Cond.methodLink RL 174 yX5_undo).before args s = true := h _ (mG (i := 1222) (by decide +kernel) rfl)
theorem tw_1223 {args : Array Value} {s : State} (h : ∀ w ∈ gG, w.before args s = true) : (Cond.instanceMethod yX5_undo).before args s = true := h _ (mG (i := 1223) (by decide +kernel) rfl)
theorem tw_1224 {args : Array Value} {s : State} (h : ∀ w ∈ gG, w.before args s = true) : (Cond.selects RX5 yX5_undo yX5_undo).before args s = true := h _ (mG (i := 1224) (by decide +kernel) rfl)
theorem mw_1225 : Cond.code yX5_undo cX5_undo 1 (some .int) ∈ gG := mG (i := 1225) (by decide +kernel) rfl
theorem tw_1225 {args : Array Value} {s : State} (h : ∀ w ∈ gG, w.before args s = true) : (Cond.code yX5_undo cX5_undo 1 (some .int)).before args s = true := h _ mw_1225
theorem tw_1226 {args : Array Value} {s : State} (h : ∀ w ∈ gG, w.before args s = true) : (Cond.methodLink RL 178 yX5_tear).before args s = true := h _ (mG (i := 1226) (by decide +kernel) rfl)
theorem tw_1227 {args : Array Value} {s : State} (h : ∀ w ∈ gG, w.before args s = true) : (Cond.instanceMethod yX5_tear).before args s = true := h _ (mG (i := 1227) (by decide +kernel) rfl)
theorem tw_1228 {args : Array Value} {s : State} (h : ∀ w ∈ gG, w.before args s = true) : (Cond.selects RX5 yX5_tear yX5_tear).before args s = true := h _ (mG (i := 1228) (by decide +kernel) rfl)
theorem mw_1229 : Cond.code yX5_tear cX5_tear 2 (some .int) ∈ gG := mG (i := 1229) (by decide +kernel) rfl
theorem tw_1229 {args : Array Value} {s : State} (h : ∀ w ∈ gG, w.before args s = true) : (Cond.code yX5_tear cX5_tear 2 (some .int)).before args s = true := h _ mw_1229
theorem tw_1230 {args : Array Value} {s : State} (h : ∀ w ∈ gG, w.before args s = true) : (Cond.methodLink RL 182 yX5_count).before args s = true := h _ (mG (i := 1230) (by decide +kernel) rfl)
theorem tw_1231 {args : Array Value} {s : State} (h : ∀ w ∈ gG, w.before args s = true) : (Cond.instanceMethod yX5_count).before args s = true := h _ (mG (i := 1231) (by decide +kernel) rfl)
theorem tw_1232 {args : Array Value} {s : State} (h : ∀ w ∈ gG, w.before args s = true) : (Cond.selects RX5 yX5_count yX5_count).before args s = true := h _ (mG (i := 1232) (by decide +kernel) rfl)
theorem mw_1233 : Cond.code yX5_count cX5_count 4 (some .int) ∈ gG := mG (i := 1233) (by decide +kernel) rfl
theorem tw_1233 {args : Array Value} {s : State} (h : ∀ w ∈ gG, w.before args s = true) : (Cond.code yX5_count cX5_count 4 (some .int)).before args s = true := h _ mw_1233
theorem tw_1234 {args : Array Value} {s : State} (h : ∀ w ∈ gG, w.before args s = true) : (Cond.methodLink RL 186 yX5_status).before args s = true := h _ (mG (i := 1234) (by decide +kernel) rfl)
theorem tw_1235 {args : Array Value} {s : State} (h : ∀ w ∈ gG, w.before args s = true) : (Cond.instanceMethod yX5_status).before args s = true := h _ (mG (i := 1235) (by decide +kernel) rfl)
theorem tw_1236 {args : Array Value} {s : State} (h : ∀ w ∈ gG, w.before args s = true) : (Cond.selects RX5 yX5_status yX5_status).before args s = true := h _ (mG (i := 1236) (by decide +kernel) rfl)
theorem mw_1237 : Cond.code yX5_status cX5_status 2 (some .int) ∈ gG := mG (i := 1237) (by decide +kernel) rfl
theorem tw_1237 {args : Array Value} {s : State} (h : ∀ w ∈ gG, w.before args s = true) : (Cond.code yX5_status cX5_status 2 (some .int)).before args s = true := h _ mw_1237
theorem tw_1238 {args : Array Value} {s : State} (h : ∀ w ∈ gG, w.before args s = true) : (Cond.fieldLink RJ0 9 "java/lang/String" "value" "[B").before args s = true := h _ (mG (i := 1238) (by decide +kernel) rfl)
theorem tw_1239 {args : Array Value} {s : State} (h : ∀ w ∈ gG, w.before args s = true) : (Cond.fieldLink RJ0 15 "java/lang/String" "coder" "B").before args s = true := h _ (mG (i := 1239) (by decide +kernel) rfl)
end
