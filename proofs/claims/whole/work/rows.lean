section
-- ===== PART A: goes FIRST, ahead of the names: the tables' words, and 'selects' of the private methods out of them =====
/-- a private method of a class that the tables say can be made, by its rows of tables_1 -/
def lw_okq (q : MethodName × Nat) : Prop := (q.1.cls ≠ "java/lang/invoke/MethodHandle" ∧ q.1.cls ≠ "java/lang/invoke/VarHandle") ∧ Cond.instantiable q.1.cls q.2 ∈ tables_1 ∧ Cond.privateMethod q.1 ∈ tables_1 ∧ Cond.instanceMethod q.1 ∈ tables_1
theorem lw_p0 : lw_okq (⟨"DrawBench", "canStep", "(I)Z"⟩, 7) := ⟨⟨by decide +kernel, by decide +kernel⟩, List.mem_of_getElem? (i := 15) (by decide +kernel), List.mem_of_getElem? (i := 320) (by decide +kernel), List.mem_of_getElem? (i := 321) (by decide +kernel)⟩
theorem lw_p1 : lw_okq (⟨"DrawBench", "isName", "(I)Z"⟩, 7) := ⟨⟨by decide +kernel, by decide +kernel⟩, List.mem_of_getElem? (i := 15) (by decide +kernel), List.mem_of_getElem? (i := 336) (by decide +kernel), List.mem_of_getElem? (i := 337) (by decide +kernel)⟩
theorem lw_p2 : lw_okq (⟨"DrawBench$Lots", "weigh", "(LDrawBench$Crowd;I)J"⟩, 7) := ⟨⟨by decide +kernel, by decide +kernel⟩, List.mem_of_getElem? (i := 78) (by decide +kernel), List.mem_of_getElem? (i := 348) (by decide +kernel), List.mem_of_getElem? (i := 349) (by decide +kernel)⟩
theorem lw_p3 : lw_okq (⟨"DrawBench$Lots", "fitsHeaps", "(LDrawBench$Crowd;I)Z"⟩, 7) := ⟨⟨by decide +kernel, by decide +kernel⟩, List.mem_of_getElem? (i := 78) (by decide +kernel), List.mem_of_getElem? (i := 353) (by decide +kernel), List.mem_of_getElem? (i := 354) (by decide +kernel)⟩
theorem lw_p4 : lw_okq (⟨"DrawBench$Lots", "fitsShares", "(LDrawBench$Crowd;I)Z"⟩, 7) := ⟨⟨by decide +kernel, by decide +kernel⟩, List.mem_of_getElem? (i := 78) (by decide +kernel), List.mem_of_getElem? (i := 357) (by decide +kernel), List.mem_of_getElem? (i := 358) (by decide +kernel)⟩
theorem lw_p5 : lw_okq (⟨"DrawBench$Lots", "product", "(LDrawBench$Crowd;I)J"⟩, 7) := ⟨⟨by decide +kernel, by decide +kernel⟩, List.mem_of_getElem? (i := 78) (by decide +kernel), List.mem_of_getElem? (i := 361) (by decide +kernel), List.mem_of_getElem? (i := 362) (by decide +kernel)⟩
theorem lw_p6 : lw_okq (⟨"DrawBench$Lots", "weighStarts", "(LDrawBench$Crowd;)V"⟩, 7) := ⟨⟨by decide +kernel, by decide +kernel⟩, List.mem_of_getElem? (i := 78) (by decide +kernel), List.mem_of_getElem? (i := 365) (by decide +kernel), List.mem_of_getElem? (i := 366) (by decide +kernel)⟩
theorem lw_p7 : lw_okq (⟨"DrawBench$Lots", "setFrom", "(LDrawBench$Crowd;II)I"⟩, 7) := ⟨⟨by decide +kernel, by decide +kernel⟩, List.mem_of_getElem? (i := 78) (by decide +kernel), List.mem_of_getElem? (i := 370) (by decide +kernel), List.mem_of_getElem? (i := 371) (by decide +kernel)⟩
theorem lw_p8 : lw_okq (⟨"DrawBench$Lots", "pairOwn", "(LDrawBench$Crowd;)V"⟩, 7) := ⟨⟨by decide +kernel, by decide +kernel⟩, List.mem_of_getElem? (i := 78) (by decide +kernel), List.mem_of_getElem? (i := 377) (by decide +kernel), List.mem_of_getElem? (i := 378) (by decide +kernel)⟩
theorem lw_p9 : lw_okq (⟨"DrawBench$Lots", "pairByWeights", "(LDrawBench$Crowd;)V"⟩, 7) := ⟨⟨by decide +kernel, by decide +kernel⟩, List.mem_of_getElem? (i := 78) (by decide +kernel), List.mem_of_getElem? (i := 382) (by decide +kernel), List.mem_of_getElem? (i := 383) (by decide +kernel)⟩
theorem lw_p10 : lw_okq (⟨"DrawBench$Lots", "addToPairs", "(LDrawBench$Crowd;I)V"⟩, 7) := ⟨⟨by decide +kernel, by decide +kernel⟩, List.mem_of_getElem? (i := 78) (by decide +kernel), List.mem_of_getElem? (i := 389) (by decide +kernel), List.mem_of_getElem? (i := 390) (by decide +kernel)⟩
theorem lw_p11 : lw_okq (⟨"DrawBench", "isSet", "(I)Z"⟩, 7) := ⟨⟨by decide +kernel, by decide +kernel⟩, List.mem_of_getElem? (i := 15) (by decide +kernel), List.mem_of_getElem? (i := 458) (by decide +kernel), List.mem_of_getElem? (i := 459) (by decide +kernel)⟩
theorem lw_p12 : lw_okq (⟨"DrawBench", "tellOwnChance", "(I)V"⟩, 7) := ⟨⟨by decide +kernel, by decide +kernel⟩, List.mem_of_getElem? (i := 15) (by decide +kernel), List.mem_of_getElem? (i := 463) (by decide +kernel), List.mem_of_getElem? (i := 464) (by decide +kernel)⟩
theorem lw_p13 : lw_okq (⟨"DrawBench", "tellSum", "(I)V"⟩, 7) := ⟨⟨by decide +kernel, by decide +kernel⟩, List.mem_of_getElem? (i := 15) (by decide +kernel), List.mem_of_getElem? (i := 488) (by decide +kernel), List.mem_of_getElem? (i := 489) (by decide +kernel)⟩
theorem lw_p14 : lw_okq (⟨"DrawBench", "divideByNames", "(I)V"⟩, 7) := ⟨⟨by decide +kernel, by decide +kernel⟩, List.mem_of_getElem? (i := 15) (by decide +kernel), List.mem_of_getElem? (i := 507) (by decide +kernel), List.mem_of_getElem? (i := 508) (by decide +kernel)⟩
theorem lw_p15 : lw_okq (⟨"DrawBench", "worthThatMayBeDrawn", "()I"⟩, 7) := ⟨⟨by decide +kernel, by decide +kernel⟩, List.mem_of_getElem? (i := 15) (by decide +kernel), List.mem_of_getElem? (i := 515) (by decide +kernel), List.mem_of_getElem? (i := 516) (by decide +kernel)⟩
def lw_privs_1 : List (MethodName × Nat) := [(⟨"DrawBench", "canStep", "(I)Z"⟩, 7), (⟨"DrawBench", "isName", "(I)Z"⟩, 7), (⟨"DrawBench$Lots", "weigh", "(LDrawBench$Crowd;I)J"⟩, 7), (⟨"DrawBench$Lots", "fitsHeaps", "(LDrawBench$Crowd;I)Z"⟩, 7), (⟨"DrawBench$Lots", "fitsShares", "(LDrawBench$Crowd;I)Z"⟩, 7), (⟨"DrawBench$Lots", "product", "(LDrawBench$Crowd;I)J"⟩, 7), (⟨"DrawBench$Lots", "weighStarts", "(LDrawBench$Crowd;)V"⟩, 7), (⟨"DrawBench$Lots", "setFrom", "(LDrawBench$Crowd;II)I"⟩, 7), (⟨"DrawBench$Lots", "pairOwn", "(LDrawBench$Crowd;)V"⟩, 7), (⟨"DrawBench$Lots", "pairByWeights", "(LDrawBench$Crowd;)V"⟩, 7), (⟨"DrawBench$Lots", "addToPairs", "(LDrawBench$Crowd;I)V"⟩, 7), (⟨"DrawBench", "isSet", "(I)Z"⟩, 7), (⟨"DrawBench", "tellOwnChance", "(I)V"⟩, 7), (⟨"DrawBench", "tellSum", "(I)V"⟩, 7), (⟨"DrawBench", "divideByNames", "(I)V"⟩, 7), (⟨"DrawBench", "worthThatMayBeDrawn", "()I"⟩, 7)]
theorem lw_r1 : ∀ q ∈ lw_privs_1, lw_okq q := List.forall_mem_cons.mpr ⟨lw_p0, List.forall_mem_cons.mpr ⟨lw_p1, List.forall_mem_cons.mpr ⟨lw_p2, List.forall_mem_cons.mpr ⟨lw_p3, List.forall_mem_cons.mpr ⟨lw_p4, List.forall_mem_cons.mpr ⟨lw_p5, List.forall_mem_cons.mpr ⟨lw_p6, List.forall_mem_cons.mpr ⟨lw_p7, List.forall_mem_cons.mpr ⟨lw_p8, List.forall_mem_cons.mpr ⟨lw_p9, List.forall_mem_cons.mpr ⟨lw_p10, List.forall_mem_cons.mpr ⟨lw_p11, List.forall_mem_cons.mpr ⟨lw_p12, List.forall_mem_cons.mpr ⟨lw_p13, List.forall_mem_cons.mpr ⟨lw_p14, List.forall_mem_cons.mpr ⟨lw_p15, fun _ h => absurd h List.not_mem_nil⟩⟩⟩⟩⟩⟩⟩⟩⟩⟩⟩⟩⟩⟩⟩⟩
theorem lw_p16 : lw_okq (⟨"DrawBench", "tellSpread", "()V"⟩, 7) := ⟨⟨by decide +kernel, by decide +kernel⟩, List.mem_of_getElem? (i := 15) (by decide +kernel), List.mem_of_getElem? (i := 523) (by decide +kernel), List.mem_of_getElem? (i := 524) (by decide +kernel)⟩
theorem lw_p17 : lw_okq (⟨"DrawBench", "tallyPairsBefore", "(I)V"⟩, 7) := ⟨⟨by decide +kernel, by decide +kernel⟩, List.mem_of_getElem? (i := 15) (by decide +kernel), List.mem_of_getElem? (i := 527) (by decide +kernel), List.mem_of_getElem? (i := 528) (by decide +kernel)⟩
theorem lw_p18 : lw_okq (⟨"DrawBench", "tallyMean", "()V"⟩, 7) := ⟨⟨by decide +kernel, by decide +kernel⟩, List.mem_of_getElem? (i := 15) (by decide +kernel), List.mem_of_getElem? (i := 532) (by decide +kernel), List.mem_of_getElem? (i := 533) (by decide +kernel)⟩
theorem lw_p19 : lw_okq (⟨"DrawBench", "canShareOut", "(I)Z"⟩, 7) := ⟨⟨by decide +kernel, by decide +kernel⟩, List.mem_of_getElem? (i := 15) (by decide +kernel), List.mem_of_getElem? (i := 554) (by decide +kernel), List.mem_of_getElem? (i := 555) (by decide +kernel)⟩
theorem lw_p20 : lw_okq (⟨"DrawBench$Sharing", "measure", "(LDrawBench$Crowd;)V"⟩, 5) := ⟨⟨by decide +kernel, by decide +kernel⟩, List.mem_of_getElem? (i := 163) (by decide +kernel), List.mem_of_getElem? (i := 566) (by decide +kernel), List.mem_of_getElem? (i := 567) (by decide +kernel)⟩
theorem lw_p21 : lw_okq (⟨"DrawBench$Sharing", "offer", "(IIII)V"⟩, 5) := ⟨⟨by decide +kernel, by decide +kernel⟩, List.mem_of_getElem? (i := 163) (by decide +kernel), List.mem_of_getElem? (i := 576) (by decide +kernel), List.mem_of_getElem? (i := 577) (by decide +kernel)⟩
theorem lw_p22 : lw_okq (⟨"DrawBench$Sharing", "cost", "(II)J"⟩, 5) := ⟨⟨by decide +kernel, by decide +kernel⟩, List.mem_of_getElem? (i := 163) (by decide +kernel), List.mem_of_getElem? (i := 580) (by decide +kernel), List.mem_of_getElem? (i := 581) (by decide +kernel)⟩
theorem lw_p23 : lw_okq (⟨"DrawBench$Cutting", "order", "(LDrawBench$Crowd;)V"⟩, 5) := ⟨⟨by decide +kernel, by decide +kernel⟩, List.mem_of_getElem? (i := 187) (by decide +kernel), List.mem_of_getElem? (i := 597) (by decide +kernel), List.mem_of_getElem? (i := 598) (by decide +kernel)⟩
theorem lw_p24 : lw_okq (⟨"DrawBench$Cutting", "cost", "(II)I"⟩, 5) := ⟨⟨by decide +kernel, by decide +kernel⟩, List.mem_of_getElem? (i := 187) (by decide +kernel), List.mem_of_getElem? (i := 601) (by decide +kernel), List.mem_of_getElem? (i := 602) (by decide +kernel)⟩
theorem lw_p25 : lw_okq (⟨"DrawBench$Cutting", "choose", "(IIII)V"⟩, 5) := ⟨⟨by decide +kernel, by decide +kernel⟩, List.mem_of_getElem? (i := 187) (by decide +kernel), List.mem_of_getElem? (i := 605) (by decide +kernel), List.mem_of_getElem? (i := 606) (by decide +kernel)⟩
theorem lw_p26 : lw_okq (⟨"DrawBench$Cutting", "cutFirst", "(III)V"⟩, 5) := ⟨⟨by decide +kernel, by decide +kernel⟩, List.mem_of_getElem? (i := 187) (by decide +kernel), List.mem_of_getElem? (i := 609) (by decide +kernel), List.mem_of_getElem? (i := 610) (by decide +kernel)⟩
theorem lw_p27 : lw_okq (⟨"DrawBench", "countOfHeap", "(I)I"⟩, 7) := ⟨⟨by decide +kernel, by decide +kernel⟩, List.mem_of_getElem? (i := 15) (by decide +kernel), List.mem_of_getElem? (i := 648) (by decide +kernel), List.mem_of_getElem? (i := 649) (by decide +kernel)⟩
theorem lw_p28 : lw_okq (⟨"DrawBenchModel", "put", "(IJ)V"⟩, 22) := ⟨⟨by decide +kernel, by decide +kernel⟩, List.mem_of_getElem? (i := 652) (by decide +kernel), List.mem_of_getElem? (i := 659) (by decide +kernel), List.mem_of_getElem? (i := 660) (by decide +kernel)⟩
theorem lw_p29 : lw_okq (⟨"DrawBenchModel", "carry", "(I)V"⟩, 22) := ⟨⟨by decide +kernel, by decide +kernel⟩, List.mem_of_getElem? (i := 652) (by decide +kernel), List.mem_of_getElem? (i := 663) (by decide +kernel), List.mem_of_getElem? (i := 664) (by decide +kernel)⟩
theorem lw_p30 : lw_okq (⟨"DrawBenchModel", "namesOf", "(I)I"⟩, 22) := ⟨⟨by decide +kernel, by decide +kernel⟩, List.mem_of_getElem? (i := 652) (by decide +kernel), List.mem_of_getElem? (i := 768) (by decide +kernel), List.mem_of_getElem? (i := 769) (by decide +kernel)⟩
theorem lw_p31 : lw_okq (⟨"DrawBenchModel", "sizes", "()I"⟩, 22) := ⟨⟨by decide +kernel, by decide +kernel⟩, List.mem_of_getElem? (i := 652) (by decide +kernel), List.mem_of_getElem? (i := 776) (by decide +kernel), List.mem_of_getElem? (i := 777) (by decide +kernel)⟩
def lw_privs_2 : List (MethodName × Nat) := [(⟨"DrawBench", "tellSpread", "()V"⟩, 7), (⟨"DrawBench", "tallyPairsBefore", "(I)V"⟩, 7), (⟨"DrawBench", "tallyMean", "()V"⟩, 7), (⟨"DrawBench", "canShareOut", "(I)Z"⟩, 7), (⟨"DrawBench$Sharing", "measure", "(LDrawBench$Crowd;)V"⟩, 5), (⟨"DrawBench$Sharing", "offer", "(IIII)V"⟩, 5), (⟨"DrawBench$Sharing", "cost", "(II)J"⟩, 5), (⟨"DrawBench$Cutting", "order", "(LDrawBench$Crowd;)V"⟩, 5), (⟨"DrawBench$Cutting", "cost", "(II)I"⟩, 5), (⟨"DrawBench$Cutting", "choose", "(IIII)V"⟩, 5), (⟨"DrawBench$Cutting", "cutFirst", "(III)V"⟩, 5), (⟨"DrawBench", "countOfHeap", "(I)I"⟩, 7), (⟨"DrawBenchModel", "put", "(IJ)V"⟩, 22), (⟨"DrawBenchModel", "carry", "(I)V"⟩, 22), (⟨"DrawBenchModel", "namesOf", "(I)I"⟩, 22), (⟨"DrawBenchModel", "sizes", "()I"⟩, 22)]
theorem lw_r2 : ∀ q ∈ lw_privs_2, lw_okq q := List.forall_mem_cons.mpr ⟨lw_p16, List.forall_mem_cons.mpr ⟨lw_p17, List.forall_mem_cons.mpr ⟨lw_p18, List.forall_mem_cons.mpr ⟨lw_p19, List.forall_mem_cons.mpr ⟨lw_p20, List.forall_mem_cons.mpr ⟨lw_p21, List.forall_mem_cons.mpr ⟨lw_p22, List.forall_mem_cons.mpr ⟨lw_p23, List.forall_mem_cons.mpr ⟨lw_p24, List.forall_mem_cons.mpr ⟨lw_p25, List.forall_mem_cons.mpr ⟨lw_p26, List.forall_mem_cons.mpr ⟨lw_p27, List.forall_mem_cons.mpr ⟨lw_p28, List.forall_mem_cons.mpr ⟨lw_p29, List.forall_mem_cons.mpr ⟨lw_p30, List.forall_mem_cons.mpr ⟨lw_p31, fun _ h => absurd h List.not_mem_nil⟩⟩⟩⟩⟩⟩⟩⟩⟩⟩⟩⟩⟩⟩⟩⟩
theorem lw_p32 : lw_okq (⟨"DrawBenchModel", "isName", "(I)Z"⟩, 22) := ⟨⟨by decide +kernel, by decide +kernel⟩, List.mem_of_getElem? (i := 652) (by decide +kernel), List.mem_of_getElem? (i := 788) (by decide +kernel), List.mem_of_getElem? (i := 789) (by decide +kernel)⟩
theorem lw_p33 : lw_okq (⟨"DrawBenchModel", "know", "()V"⟩, 22) := ⟨⟨by decide +kernel, by decide +kernel⟩, List.mem_of_getElem? (i := 652) (by decide +kernel), List.mem_of_getElem? (i := 792) (by decide +kernel), List.mem_of_getElem? (i := 793) (by decide +kernel)⟩
theorem lw_p34 : lw_okq (⟨"DrawBenchModel", "standsAt", "(I)I"⟩, 22) := ⟨⟨by decide +kernel, by decide +kernel⟩, List.mem_of_getElem? (i := 652) (by decide +kernel), List.mem_of_getElem? (i := 796) (by decide +kernel), List.mem_of_getElem? (i := 797) (by decide +kernel)⟩
theorem lw_p35 : lw_okq (⟨"DrawBenchModel", "one", "(IJ)V"⟩, 22) := ⟨⟨by decide +kernel, by decide +kernel⟩, List.mem_of_getElem? (i := 652) (by decide +kernel), List.mem_of_getElem? (i := 800) (by decide +kernel), List.mem_of_getElem? (i := 801) (by decide +kernel)⟩
theorem lw_p36 : lw_okq (⟨"DrawBenchModel", "more", "(IIJ)V"⟩, 22) := ⟨⟨by decide +kernel, by decide +kernel⟩, List.mem_of_getElem? (i := 652) (by decide +kernel), List.mem_of_getElem? (i := 804) (by decide +kernel), List.mem_of_getElem? (i := 805) (by decide +kernel)⟩
theorem lw_p37 : lw_okq (⟨"DrawBenchModel", "weigh", "(I)V"⟩, 22) := ⟨⟨by decide +kernel, by decide +kernel⟩, List.mem_of_getElem? (i := 652) (by decide +kernel), List.mem_of_getElem? (i := 808) (by decide +kernel), List.mem_of_getElem? (i := 809) (by decide +kernel)⟩
theorem lw_p38 : lw_okq (⟨"DrawBenchModel", "isByHeaps", "(I)Z"⟩, 22) := ⟨⟨by decide +kernel, by decide +kernel⟩, List.mem_of_getElem? (i := 652) (by decide +kernel), List.mem_of_getElem? (i := 815) (by decide +kernel), List.mem_of_getElem? (i := 816) (by decide +kernel)⟩
theorem lw_p39 : lw_okq (⟨"DrawBenchModel", "times", "(III)V"⟩, 22) := ⟨⟨by decide +kernel, by decide +kernel⟩, List.mem_of_getElem? (i := 652) (by decide +kernel), List.mem_of_getElem? (i := 819) (by decide +kernel), List.mem_of_getElem? (i := 820) (by decide +kernel)⟩
theorem lw_p40 : lw_okq (⟨"DrawBenchModel", "isBelow", "(I)Z"⟩, 22) := ⟨⟨by decide +kernel, by decide +kernel⟩, List.mem_of_getElem? (i := 652) (by decide +kernel), List.mem_of_getElem? (i := 823) (by decide +kernel), List.mem_of_getElem? (i := 824) (by decide +kernel)⟩
theorem lw_p41 : lw_okq (⟨"DrawBenchModel", "bare", "(I[J)V"⟩, 22) := ⟨⟨by decide +kernel, by decide +kernel⟩, List.mem_of_getElem? (i := 652) (by decide +kernel), List.mem_of_getElem? (i := 827) (by decide +kernel), List.mem_of_getElem? (i := 828) (by decide +kernel)⟩
theorem lw_p42 : lw_okq (⟨"DrawBenchModel", "turn", "(I)V"⟩, 22) := ⟨⟨by decide +kernel, by decide +kernel⟩, List.mem_of_getElem? (i := 652) (by decide +kernel), List.mem_of_getElem? (i := 831) (by decide +kernel), List.mem_of_getElem? (i := 832) (by decide +kernel)⟩
theorem lw_p43 : lw_okq (⟨"DrawBenchModel", "copy", "(II)V"⟩, 22) := ⟨⟨by decide +kernel, by decide +kernel⟩, List.mem_of_getElem? (i := 652) (by decide +kernel), List.mem_of_getElem? (i := 838) (by decide +kernel), List.mem_of_getElem? (i := 839) (by decide +kernel)⟩
theorem lw_p44 : lw_okq (⟨"DrawBenchModel", "reduce", "(II)V"⟩, 22) := ⟨⟨by decide +kernel, by decide +kernel⟩, List.mem_of_getElem? (i := 652) (by decide +kernel), List.mem_of_getElem? (i := 842) (by decide +kernel), List.mem_of_getElem? (i := 843) (by decide +kernel)⟩
theorem lw_p45 : lw_okq (⟨"DrawBenchModel", "result", "(II)V"⟩, 22) := ⟨⟨by decide +kernel, by decide +kernel⟩, List.mem_of_getElem? (i := 652) (by decide +kernel), List.mem_of_getElem? (i := 846) (by decide +kernel), List.mem_of_getElem? (i := 847) (by decide +kernel)⟩
theorem lw_p46 : lw_okq (⟨"DrawBenchModel", "isZero", "(I)Z"⟩, 22) := ⟨⟨by decide +kernel, by decide +kernel⟩, List.mem_of_getElem? (i := 652) (by decide +kernel), List.mem_of_getElem? (i := 850) (by decide +kernel), List.mem_of_getElem? (i := 851) (by decide +kernel)⟩
theorem lw_p47 : lw_okq (⟨"DrawBenchModel", "isEven", "(I)Z"⟩, 22) := ⟨⟨by decide +kernel, by decide +kernel⟩, List.mem_of_getElem? (i := 652) (by decide +kernel), List.mem_of_getElem? (i := 854) (by decide +kernel), List.mem_of_getElem? (i := 855) (by decide +kernel)⟩
def lw_privs_3 : List (MethodName × Nat) := [(⟨"DrawBenchModel", "isName", "(I)Z"⟩, 22), (⟨"DrawBenchModel", "know", "()V"⟩, 22), (⟨"DrawBenchModel", "standsAt", "(I)I"⟩, 22), (⟨"DrawBenchModel", "one", "(IJ)V"⟩, 22), (⟨"DrawBenchModel", "more", "(IIJ)V"⟩, 22), (⟨"DrawBenchModel", "weigh", "(I)V"⟩, 22), (⟨"DrawBenchModel", "isByHeaps", "(I)Z"⟩, 22), (⟨"DrawBenchModel", "times", "(III)V"⟩, 22), (⟨"DrawBenchModel", "isBelow", "(I)Z"⟩, 22), (⟨"DrawBenchModel", "bare", "(I[J)V"⟩, 22), (⟨"DrawBenchModel", "turn", "(I)V"⟩, 22), (⟨"DrawBenchModel", "copy", "(II)V"⟩, 22), (⟨"DrawBenchModel", "reduce", "(II)V"⟩, 22), (⟨"DrawBenchModel", "result", "(II)V"⟩, 22), (⟨"DrawBenchModel", "isZero", "(I)Z"⟩, 22), (⟨"DrawBenchModel", "isEven", "(I)Z"⟩, 22)]
theorem lw_r3 : ∀ q ∈ lw_privs_3, lw_okq q := List.forall_mem_cons.mpr ⟨lw_p32, List.forall_mem_cons.mpr ⟨lw_p33, List.forall_mem_cons.mpr ⟨lw_p34, List.forall_mem_cons.mpr ⟨lw_p35, List.forall_mem_cons.mpr ⟨lw_p36, List.forall_mem_cons.mpr ⟨lw_p37, List.forall_mem_cons.mpr ⟨lw_p38, List.forall_mem_cons.mpr ⟨lw_p39, List.forall_mem_cons.mpr ⟨lw_p40, List.forall_mem_cons.mpr ⟨lw_p41, List.forall_mem_cons.mpr ⟨lw_p42, List.forall_mem_cons.mpr ⟨lw_p43, List.forall_mem_cons.mpr ⟨lw_p44, List.forall_mem_cons.mpr ⟨lw_p45, List.forall_mem_cons.mpr ⟨lw_p46, List.forall_mem_cons.mpr ⟨lw_p47, fun _ h => absurd h List.not_mem_nil⟩⟩⟩⟩⟩⟩⟩⟩⟩⟩⟩⟩⟩⟩⟩⟩
theorem lw_p48 : lw_okq (⟨"DrawBenchModel", "half", "(I)V"⟩, 22) := ⟨⟨by decide +kernel, by decide +kernel⟩, List.mem_of_getElem? (i := 652) (by decide +kernel), List.mem_of_getElem? (i := 859) (by decide +kernel), List.mem_of_getElem? (i := 860) (by decide +kernel)⟩
theorem lw_p49 : lw_okq (⟨"DrawBenchModel", "isLess", "(II)Z"⟩, 22) := ⟨⟨by decide +kernel, by decide +kernel⟩, List.mem_of_getElem? (i := 652) (by decide +kernel), List.mem_of_getElem? (i := 863) (by decide +kernel), List.mem_of_getElem? (i := 864) (by decide +kernel)⟩
theorem lw_p50 : lw_okq (⟨"DrawBenchModel", "parts", "(II)V"⟩, 22) := ⟨⟨by decide +kernel, by decide +kernel⟩, List.mem_of_getElem? (i := 652) (by decide +kernel), List.mem_of_getElem? (i := 868) (by decide +kernel), List.mem_of_getElem? (i := 869) (by decide +kernel)⟩
theorem lw_p51 : lw_okq (⟨"DrawBenchModel", "goesInto", "(JII)Z"⟩, 22) := ⟨⟨by decide +kernel, by decide +kernel⟩, List.mem_of_getElem? (i := 652) (by decide +kernel), List.mem_of_getElem? (i := 873) (by decide +kernel), List.mem_of_getElem? (i := 874) (by decide +kernel)⟩
theorem lw_p52 : lw_okq (⟨"DrawBenchModel", "isSet", "(I)Z"⟩, 22) := ⟨⟨by decide +kernel, by decide +kernel⟩, List.mem_of_getElem? (i := 652) (by decide +kernel), List.mem_of_getElem? (i := 882) (by decide +kernel), List.mem_of_getElem? (i := 883) (by decide +kernel)⟩
theorem lw_p53 : lw_okq (⟨"DrawBenchModel", "toldSum", "(I)V"⟩, 22) := ⟨⟨by decide +kernel, by decide +kernel⟩, List.mem_of_getElem? (i := 652) (by decide +kernel), List.mem_of_getElem? (i := 898) (by decide +kernel), List.mem_of_getElem? (i := 899) (by decide +kernel)⟩
theorem lw_p54 : lw_okq (⟨"DrawBenchModel", "sums", "()V"⟩, 22) := ⟨⟨by decide +kernel, by decide +kernel⟩, List.mem_of_getElem? (i := 652) (by decide +kernel), List.mem_of_getElem? (i := 906) (by decide +kernel), List.mem_of_getElem? (i := 907) (by decide +kernel)⟩
theorem lw_p55 : lw_okq (⟨"DrawBenchModel", "v", "(I)J"⟩, 22) := ⟨⟨by decide +kernel, by decide +kernel⟩, List.mem_of_getElem? (i := 652) (by decide +kernel), List.mem_of_getElem? (i := 918) (by decide +kernel), List.mem_of_getElem? (i := 919) (by decide +kernel)⟩
theorem lw_p56 : lw_okq (⟨"DrawBenchModel", "setOf", "(I)I"⟩, 22) := ⟨⟨by decide +kernel, by decide +kernel⟩, List.mem_of_getElem? (i := 652) (by decide +kernel), List.mem_of_getElem? (i := 922) (by decide +kernel), List.mem_of_getElem? (i := 923) (by decide +kernel)⟩
theorem lw_p57 : lw_okq (⟨"DrawBenchModel", "off", "(I)J"⟩, 22) := ⟨⟨by decide +kernel, by decide +kernel⟩, List.mem_of_getElem? (i := 652) (by decide +kernel), List.mem_of_getElem? (i := 926) (by decide +kernel), List.mem_of_getElem? (i := 927) (by decide +kernel)⟩
theorem lw_p58 : lw_okq (⟨"DrawBenchModel", "told", "(JJ)V"⟩, 22) := ⟨⟨by decide +kernel, by decide +kernel⟩, List.mem_of_getElem? (i := 652) (by decide +kernel), List.mem_of_getElem? (i := 931) (by decide +kernel), List.mem_of_getElem? (i := 932) (by decide +kernel)⟩
theorem lw_p59 : lw_okq (⟨"DrawBenchModel", "isShared", "(I)Z"⟩, 22) := ⟨⟨by decide +kernel, by decide +kernel⟩, List.mem_of_getElem? (i := 652) (by decide +kernel), List.mem_of_getElem? (i := 939) (by decide +kernel), List.mem_of_getElem? (i := 940) (by decide +kernel)⟩
theorem lw_p60 : lw_okq (⟨"DrawBenchModel", "adds", "(II)J"⟩, 22) := ⟨⟨by decide +kernel, by decide +kernel⟩, List.mem_of_getElem? (i := 652) (by decide +kernel), List.mem_of_getElem? (i := 946) (by decide +kernel), List.mem_of_getElem? (i := 947) (by decide +kernel)⟩
theorem lw_p61 : lw_okq (⟨"DrawBenchModel", "isCut", "(I)Z"⟩, 22) := ⟨⟨by decide +kernel, by decide +kernel⟩, List.mem_of_getElem? (i := 652) (by decide +kernel), List.mem_of_getElem? (i := 954) (by decide +kernel), List.mem_of_getElem? (i := 955) (by decide +kernel)⟩
theorem lw_p62 : lw_okq (⟨"DrawBenchModel", "orders", "()V"⟩, 22) := ⟨⟨by decide +kernel, by decide +kernel⟩, List.mem_of_getElem? (i := 652) (by decide +kernel), List.mem_of_getElem? (i := 958) (by decide +kernel), List.mem_of_getElem? (i := 959) (by decide +kernel)⟩
theorem lw_p63 : lw_okq (⟨"DrawBenchModel", "sign", "(I)I"⟩, 22) := ⟨⟨by decide +kernel, by decide +kernel⟩, List.mem_of_getElem? (i := 652) (by decide +kernel), List.mem_of_getElem? (i := 973) (by decide +kernel), List.mem_of_getElem? (i := 974) (by decide +kernel)⟩
def lw_privs_4 : List (MethodName × Nat) := [(⟨"DrawBenchModel", "half", "(I)V"⟩, 22), (⟨"DrawBenchModel", "isLess", "(II)Z"⟩, 22), (⟨"DrawBenchModel", "parts", "(II)V"⟩, 22), (⟨"DrawBenchModel", "goesInto", "(JII)Z"⟩, 22), (⟨"DrawBenchModel", "isSet", "(I)Z"⟩, 22), (⟨"DrawBenchModel", "toldSum", "(I)V"⟩, 22), (⟨"DrawBenchModel", "sums", "()V"⟩, 22), (⟨"DrawBenchModel", "v", "(I)J"⟩, 22), (⟨"DrawBenchModel", "setOf", "(I)I"⟩, 22), (⟨"DrawBenchModel", "off", "(I)J"⟩, 22), (⟨"DrawBenchModel", "told", "(JJ)V"⟩, 22), (⟨"DrawBenchModel", "isShared", "(I)Z"⟩, 22), (⟨"DrawBenchModel", "adds", "(II)J"⟩, 22), (⟨"DrawBenchModel", "isCut", "(I)Z"⟩, 22), (⟨"DrawBenchModel", "orders", "()V"⟩, 22), (⟨"DrawBenchModel", "sign", "(I)I"⟩, 22)]
theorem lw_r4 : ∀ q ∈ lw_privs_4, lw_okq q := List.forall_mem_cons.mpr ⟨lw_p48, List.forall_mem_cons.mpr ⟨lw_p49, List.forall_mem_cons.mpr ⟨lw_p50, List.forall_mem_cons.mpr ⟨lw_p51, List.forall_mem_cons.mpr ⟨lw_p52, List.forall_mem_cons.mpr ⟨lw_p53, List.forall_mem_cons.mpr ⟨lw_p54, List.forall_mem_cons.mpr ⟨lw_p55, List.forall_mem_cons.mpr ⟨lw_p56, List.forall_mem_cons.mpr ⟨lw_p57, List.forall_mem_cons.mpr ⟨lw_p58, List.forall_mem_cons.mpr ⟨lw_p59, List.forall_mem_cons.mpr ⟨lw_p60, List.forall_mem_cons.mpr ⟨lw_p61, List.forall_mem_cons.mpr ⟨lw_p62, List.forall_mem_cons.mpr ⟨lw_p63, fun _ h => absurd h List.not_mem_nil⟩⟩⟩⟩⟩⟩⟩⟩⟩⟩⟩⟩⟩⟩⟩⟩
theorem lw_p64 : lw_okq (⟨"DrawBenchModel", "manyParts", "([J)I"⟩, 22) := ⟨⟨by decide +kernel, by decide +kernel⟩, List.mem_of_getElem? (i := 652) (by decide +kernel), List.mem_of_getElem? (i := 977) (by decide +kernel), List.mem_of_getElem? (i := 978) (by decide +kernel)⟩
def lw_privs_5 : List (MethodName × Nat) := [(⟨"DrawBenchModel", "manyParts", "([J)I"⟩, 22)]
theorem lw_r5 : ∀ q ∈ lw_privs_5, lw_okq q := List.forall_mem_cons.mpr ⟨lw_p64, fun _ h => absurd h List.not_mem_nil⟩
def lw_privs : List (MethodName × Nat) := lw_privs_1 ++ (lw_privs_2 ++ (lw_privs_3 ++ (lw_privs_4 ++ (lw_privs_5))))
def lw_tbl : List Cond := k2_sels lw_privs ++ tables_1
theorem lw_privs_ok : ∀ q ∈ lw_privs, lw_okq q := by
  show ∀ q ∈ lw_privs_1 ++ (lw_privs_2 ++ (lw_privs_3 ++ (lw_privs_4 ++ (lw_privs_5)))), lw_okq q
  exact List.forall_mem_append.mpr ⟨lw_r1, List.forall_mem_append.mpr ⟨lw_r2, List.forall_mem_append.mpr ⟨lw_r3, List.forall_mem_append.mpr ⟨lw_r4, lw_r5⟩⟩⟩⟩
end
section
/-! XI: an abstract machine over numbered cells. A state: the kinds of the cells ((0, class), (1, n) ints, (2, n) longs), what their reference slots hold (0 null, k + 1 cell k), their int slots, their long slots. -/
abbrev xiS : Type := List (Nat × Nat) × (Nat → Nat → Nat) × (Nat → Nat → Int32) × (Nat → Nat → Int64)
abbrev xiE : Type := Nat × Instr × Nat × (Nat × Nat × Nat)
abbrev xiM : Type := (String × MethodName × ByteArray) × (Nat × Option FieldType × Nat) × (Nat × Nat × Nat × Nat) × List xiE
abbrev xiQ : Type := Option Value → xiS → Prop
abbrev xiX : Type := Nat → Nat → List (Option Value) → List Value → xiS → Nat → Nat → xiQ → Prop
/-- what a program is: words, methods, kinds of fields of each class, outer rows that are only read -/
abbrev xiG : Type := List xiM × List (List Nat) × List (Nat × (Nat → Int32))
def xi_o : Nat := 1000000
def xi_u {α : Type} (I : Nat → Nat → α) (k j : Nat) (x : α) : Nat → Nat → α := fun a b => if a = k then (if b = j then x else I k b) else I a b
def xi_z {α : Type} (I : Nat → Nat → α) (k : Nat) (x : α) : Nat → Nat → α := fun a b => if a = k then x else I a b
def xi_look : List xiE → Nat → Option (Instr × Nat × (Nat × Nat × Nat))
  | [], _ => none
  | q :: t, pc => match Nat.beq q.1 pc with
    | true => some q.2
    | false => xi_look t pc
def xi_is2 : Option (Option Value) → Bool
  | some (some (.long _)) => true
  | some (some (.double _)) => true
  | _ => false
def xi_kill (ls : List (Option Value)) : Nat → List (Option Value)
  | 0 => ls
  | j + 1 => match xi_is2 ls[j]? with
    | true => ls.set j none
    | false => ls
def xi_s1 (ls : List (Option Value)) (i : Nat) (v : Value) : List (Option Value) := (xi_kill ls i).set i (some v)
def xi_s2 (ls : List (Option Value)) (i : Nat) (v : Value) : List (Option Value) := ((xi_kill ls i).set i (some v)).set (i + 1) none
def xi_fld (fk : List (List Nat)) (σ : xiS) (o ci j : Nat) : Value := match (fk.getD ci []).getD j 9 with
  | 0 => .int (σ.2.2.1 o j)
  | 1 => .int (σ.2.2.1 o j)
  | 2 => .long (σ.2.2.2 o j)
  | _ => match σ.2.1 o j with
    | 0 => .null
    | q + 1 => .ref q
def xi_ent1 : List Value → List (Option Value)
  | [] => []
  | .long x :: t => some (.long x) :: none :: xi_ent1 t
  | .double x :: t => some (.double x) :: none :: xi_ent1 t
  | v :: t => some v :: xi_ent1 t
def xi_ent (vs : List Value) (n : Nat) : List (Option Value) := xi_ent1 vs ++ List.replicate (n - (xi_ent1 vs).length) none
def xi_wf1 (n : Nat) : Value → Bool
  | .ref k => Nat.blt k n || Nat.ble xi_o k
  | _ => true
def xi_wfl (n : Nat) : List (Option Value) → Bool
  | [] => true
  | none :: t => xi_wfl n t
  | some v :: t => match xi_wf1 n v with
    | true => xi_wfl n t
    | false => false
def xi_wfs (n : Nat) : List Value → Bool
  | [] => true
  | v :: t => match xi_wf1 n v with
    | true => xi_wfs n t
    | false => false
def xi_w8 : List Value → Nat
  | [] => 0
  | v :: t => v.category + xi_w8 t
def xi_b (b : Bool) (P : Prop) : Prop := match b with
  | true => P
  | false => False
def xi_tgt (pc : Nat) (off : Int) : Nat := match off with
  | .ofNat k => pc + k
  | .negSucc k => pc - (k + 1)
def xi_sw (K : Nat → Prop) (pc : Nat) (x : Int32) : Int → List Int → Prop
  | _, [] => True
  | k, off :: t => (x.toInt = k → K (xi_tgt pc off)) ∧ xi_sw K pc x (k + 1) t
/-- a call of method ν with these arguments: what is left on the stack -/
def xi_call (G : xiG) (X : xiX) (md : xiM) (μ pc : Nat) (ls : List (Option Value)) (σ : xiS) (nc ns : Nat) (Q : xiQ) (ν : Nat) (mn : xiM) (vs rest : List Value) : Prop :=
  xi_b (Nat.ble (mn.2.2.1.1 + 1) md.2.2.1.1 && Nat.ble (8 + (mn.2.1.1 + 11) + mn.2.2.1.2.1) md.2.2.1.2.1 && Nat.ble (nc + mn.2.2.1.2.2.1) md.2.2.1.2.2.1 && Nat.ble (ns + mn.2.2.1.2.2.2) md.2.2.1.2.2.2 && Nat.ble (xi_w8 rest) 8 && Nat.ble (xi_ent1 vs).length mn.2.1.1 && xi_wfl σ.1.length ls && xi_wfs σ.1.length rest)
    (X ν 0 (xi_ent vs mn.2.1.1) [] σ 0 0 (fun r σ' => X μ (pc + 3) ls (r.toList ++ rest) σ' (nc + mn.2.2.1.2.2.1) (ns + mn.2.2.1.2.2.2) Q))
def xi_put (fk : List (List Nat)) (K : xiS → Prop) (σ : xiS) (o ci j : Nat) (v : Value) : Prop := match (fk.getD ci []).getD j 9, v with
  | 0, .int x => K (σ.1, σ.2.1, xi_u σ.2.2.1 o j x, σ.2.2.2)
  | 1, .int x => (x = 0 ∨ x = 1) ∧ K (σ.1, σ.2.1, xi_u σ.2.2.1 o j x, σ.2.2.2)
  | 2, .long x => K (σ.1, σ.2.1, σ.2.2.1, xi_u σ.2.2.2 o j x)
  | 3, .ref q => xi_b (Nat.blt q σ.1.length) (K (σ.1, xi_u σ.2.1 o j (q + 1), σ.2.2.1, σ.2.2.2))
  | _, _ => False
def xi_if (c : Jvm.ClassFile.Cond) (x y : Int32) (K1 K2 : Prop) : Prop := match c with
  | .eq => (x = y → K1) ∧ (¬ x = y → K2)
  | .ne => (¬ x = y → K1) ∧ (x = y → K2)
  | .lt => (x < y → K1) ∧ (¬ x < y → K2)
  | .ge => (y ≤ x → K1) ∧ (¬ y ≤ x → K2)
  | .gt => (y < x → K1) ∧ (¬ y < x → K2)
  | .le => (x ≤ y → K1) ∧ (¬ x ≤ y → K2)
def xi_ld (K : Value → Prop) (ls : List (Option Value)) (i : Nat) : Prop := match ls[i]? with
  | some (some v) => K v
  | _ => False
def xi_I2 (K : Int32 → Int32 → List Value → Prop) (st : List Value) : Prop := match st with
  | .int y :: .int x :: t => K x y t
  | _ => False
def xi_I1 (K : Int32 → List Value → Prop) (st : List Value) : Prop := match st with
  | .int x :: t => K x t
  | _ => False
def xi_L2 (K : Int64 → Int64 → List Value → Prop) (st : List Value) : Prop := match st with
  | .long y :: .long x :: t => K x y t
  | _ => False
def xi_L1 (K : Int64 → List Value → Prop) (st : List Value) : Prop := match st with
  | .long x :: t => K x t
  | _ => False
/-- one instruction -/
def xi_step (G : xiG) (X : xiX) (μ pc : Nat) (ls : List (Option Value)) (st : List Value) (σ : xiS) (nc ns : Nat) (Q : xiQ) : Prop :=
  match G.1[μ]? with
  | none => False
  | some md => match xi_look md.2.2.2 pc with
    | none => False
    | some (ins, _, ra, rb, _) => match ins with
      | .iconst n => X μ (pc + 1) ls (.int (Int32.ofInt n) :: st) σ nc ns Q
      | .bipush n => X μ (pc + 2) ls (.int (Int8.ofInt n).toInt32 :: st) σ nc ns Q
      | .sipush n => X μ (pc + 3) ls (.int (Int16.ofInt n).toInt32 :: st) σ nc ns Q
      | .lconst n => X μ (pc + 1) ls (.long (Int64.ofNat (n : Nat)) :: st) σ nc ns Q
      | .ldc _ => X μ (pc + 2) ls (.int (Int32.ofNat ra) :: st) σ nc ns Q
      | .ldc_w _ => X μ (pc + 3) ls (.int (Int32.ofNat ra) :: st) σ nc ns Q
      | .ldc2_w _ => X μ (pc + 3) ls (.long (Int64.ofNat ra) :: st) σ nc ns Q
      | .iload_n k => xi_ld (fun v => match v with | .int x => X μ (pc + 1) ls (.int x :: st) σ nc ns Q | _ => False) ls (k : Nat)
      | .iload k => xi_ld (fun v => match v with | .int x => X μ (pc + 2) ls (.int x :: st) σ nc ns Q | _ => False) ls k
      | .lload_n k => xi_ld (fun v => match v with | .long x => X μ (pc + 1) ls (.long x :: st) σ nc ns Q | _ => False) ls (k : Nat)
      | .lload k => xi_ld (fun v => match v with | .long x => X μ (pc + 2) ls (.long x :: st) σ nc ns Q | _ => False) ls k
      | .aload_n k => xi_ld (fun v => match v with | .ref x => X μ (pc + 1) ls (.ref x :: st) σ nc ns Q | _ => False) ls (k : Nat)
      | .aload k => xi_ld (fun v => match v with | .ref x => X μ (pc + 2) ls (.ref x :: st) σ nc ns Q | _ => False) ls k
      | .istore_n k => xi_I1 (fun x t => xi_b (Nat.blt (k : Nat) md.2.1.1) (X μ (pc + 1) (xi_s1 ls (k : Nat) (.int x)) t σ nc ns Q)) st
      | .istore k => xi_I1 (fun x t => xi_b (Nat.blt k md.2.1.1) (X μ (pc + 2) (xi_s1 ls k (.int x)) t σ nc ns Q)) st
      | .lstore_n k => xi_L1 (fun x t => xi_b (Nat.blt ((k : Nat) + 1) md.2.1.1) (X μ (pc + 1) (xi_s2 ls (k : Nat) (.long x)) t σ nc ns Q)) st
      | .lstore k => xi_L1 (fun x t => xi_b (Nat.blt (k + 1) md.2.1.1) (X μ (pc + 2) (xi_s2 ls k (.long x)) t σ nc ns Q)) st
      | .astore_n k => match st with
        | .ref x :: t => xi_b (Nat.blt (k : Nat) md.2.1.1) (X μ (pc + 1) (xi_s1 ls (k : Nat) (.ref x)) t σ nc ns Q)
        | _ => False
      | .iinc k n => xi_ld (fun v => match v with | .int x => xi_b (Nat.blt k md.2.1.1) (X μ (pc + 3) (xi_s1 ls k (.int (x + Int32.ofInt n))) st σ nc ns Q) | _ => False) ls k
      | .iadd => xi_I2 (fun x y t => X μ (pc + 1) ls (.int (x + y) :: t) σ nc ns Q) st
      | .isub => xi_I2 (fun x y t => X μ (pc + 1) ls (.int (x - y) :: t) σ nc ns Q) st
      | .imul => xi_I2 (fun x y t => X μ (pc + 1) ls (.int (x * y) :: t) σ nc ns Q) st
      | .iand => xi_I2 (fun x y t => X μ (pc + 1) ls (.int (x &&& y) :: t) σ nc ns Q) st
      | .ior => xi_I2 (fun x y t => X μ (pc + 1) ls (.int (x ||| y) :: t) σ nc ns Q) st
      | .ixor => xi_I2 (fun x y t => X μ (pc + 1) ls (.int (x ^^^ y) :: t) σ nc ns Q) st
      | .irem => xi_I2 (fun x y t => ¬ y = 0 ∧ X μ (pc + 1) ls (.int (x - x / y * y) :: t) σ nc ns Q) st
      | .ishl => xi_I2 (fun x y t => X μ (pc + 1) ls (.int (x <<< (y &&& 31)) :: t) σ nc ns Q) st
      | .ishr => xi_I2 (fun x y t => X μ (pc + 1) ls (.int (x >>> (y &&& 31)) :: t) σ nc ns Q) st
      | .iushr => xi_I2 (fun x y t => X μ (pc + 1) ls (.int (x.toUInt32 >>> (y.toUInt32 &&& Int32.toUInt32 31)).toInt32 :: t) σ nc ns Q) st
      | .ineg => xi_I1 (fun x t => X μ (pc + 1) ls (.int (-x) :: t) σ nc ns Q) st
      | .i2l => xi_I1 (fun x t => X μ (pc + 1) ls (.long x.toInt64 :: t) σ nc ns Q) st
      | .i2b => xi_I1 (fun x t => X μ (pc + 1) ls (.int x.toInt8.toInt32 :: t) σ nc ns Q) st
      | .i2s => xi_I1 (fun x t => X μ (pc + 1) ls (.int x.toInt16.toInt32 :: t) σ nc ns Q) st
      | .l2i => xi_L1 (fun x t => X μ (pc + 1) ls (.int x.toInt32 :: t) σ nc ns Q) st
      | .lneg => xi_L1 (fun x t => X μ (pc + 1) ls (.long (-x) :: t) σ nc ns Q) st
      | .ladd => xi_L2 (fun x y t => X μ (pc + 1) ls (.long (x + y) :: t) σ nc ns Q) st
      | .lsub => xi_L2 (fun x y t => X μ (pc + 1) ls (.long (x - y) :: t) σ nc ns Q) st
      | .lmul => xi_L2 (fun x y t => X μ (pc + 1) ls (.long (x * y) :: t) σ nc ns Q) st
      | .land => xi_L2 (fun x y t => X μ (pc + 1) ls (.long (x &&& y) :: t) σ nc ns Q) st
      | .lor => xi_L2 (fun x y t => X μ (pc + 1) ls (.long (x ||| y) :: t) σ nc ns Q) st
      | .lxor => xi_L2 (fun x y t => X μ (pc + 1) ls (.long (x ^^^ y) :: t) σ nc ns Q) st
      | .ldiv => xi_L2 (fun x y t => ¬ y = 0 ∧ X μ (pc + 1) ls (.long (x / y) :: t) σ nc ns Q) st
      | .lrem => xi_L2 (fun x y t => ¬ y = 0 ∧ X μ (pc + 1) ls (.long (x - x / y * y) :: t) σ nc ns Q) st
      | .lcmp => xi_L2 (fun x y t => X μ (pc + 1) ls (.int (lg_cmp x y) :: t) σ nc ns Q) st
      | .lshl => match st with
        | .int y :: .long x :: t => X μ (pc + 1) ls (.long (x <<< (y.toInt64 &&& 63)) :: t) σ nc ns Q
        | _ => False
      | .dup => match st with
        | v :: t => xi_b (Nat.beq v.category 1) (X μ (pc + 1) ls (v :: v :: t) σ nc ns Q)
        | _ => False
      | .dup2 => match st with
        | va :: vb :: t => xi_b (Nat.beq va.category 1 && Nat.beq vb.category 1) (X μ (pc + 1) ls (va :: vb :: va :: vb :: t) σ nc ns Q)
        | _ => False
      | .pop2 => match st with
        | va :: t => xi_b (Nat.beq va.category 2) (X μ (pc + 1) ls t σ nc ns Q)
        | _ => False
      | .ifCond c off => xi_I1 (fun x t => xi_if c x 0 (X μ (xi_tgt pc off) ls t σ nc ns Q) (X μ (pc + 3) ls t σ nc ns Q)) st
      | .if_icmp c off => xi_I2 (fun x y t => xi_if c x y (X μ (xi_tgt pc off) ls t σ nc ns Q) (X μ (pc + 3) ls t σ nc ns Q)) st
      | .goto off => X μ (xi_tgt pc off) ls st σ nc ns Q
      | .tableswitch d lo hi offs => xi_I1 (fun x t => ((x.toInt < lo ∨ hi < x.toInt) → X μ (xi_tgt pc d) ls t σ nc ns Q) ∧ xi_sw (fun g => X μ g ls t σ nc ns Q) pc x lo offs.toList) st
      | .getfield _ => match st with
        | .ref o :: t => match σ.1[o]? with
          | some (0, ci) => xi_b (Nat.beq ci ra) (X μ (pc + 3) ls (xi_fld G.2.1 σ o ra rb :: t) σ nc ns Q)
          | _ => False
        | _ => False
      | .putfield _ => match st with
        | v :: .ref o :: t => match σ.1[o]? with
          | some (0, ci) => xi_b (Nat.beq ci ra) (xi_put G.2.1 (fun σ' => X μ (pc + 3) ls t σ' nc ns Q) σ o ra rb v)
          | _ => False
        | _ => False
      | .getstatic _ => X μ (pc + 3) ls (.ref (xi_o + ra) :: st) σ nc ns Q
      | .iaload => match st with
        | .int j :: .ref a :: t => match σ.1[a]? with
          | some (1, n) => vp_in j n ∧ X μ (pc + 1) ls (.int (σ.2.2.1 a j.toNatClampNeg) :: t) σ nc ns Q
          | none => xi_b (Nat.ble xi_o a) (match G.2.2[a - xi_o]? with
            | some (n, f) => vp_in j n ∧ X μ (pc + 1) ls (.int (f j.toNatClampNeg) :: t) σ nc ns Q
            | none => False)
          | _ => False
        | _ => False
      | .laload => match st with
        | .int j :: .ref a :: t => match σ.1[a]? with
          | some (2, n) => vp_in j n ∧ X μ (pc + 1) ls (.long (σ.2.2.2 a j.toNatClampNeg) :: t) σ nc ns Q
          | _ => False
        | _ => False
      | .iastore => match st with
        | .int x :: .int j :: .ref a :: t => match σ.1[a]? with
          | some (1, n) => vp_in j n ∧ X μ (pc + 1) ls t (σ.1, σ.2.1, xi_u σ.2.2.1 a j.toNatClampNeg x, σ.2.2.2) nc ns Q
          | _ => False
        | _ => False
      | .lastore => match st with
        | .long x :: .int j :: .ref a :: t => match σ.1[a]? with
          | some (2, n) => vp_in j n ∧ X μ (pc + 1) ls t (σ.1, σ.2.1, σ.2.2.1, xi_u σ.2.2.2 a j.toNatClampNeg x) nc ns Q
          | _ => False
        | _ => False
      | .arraylength => match st with
        | .ref a :: t => match σ.1[a]? with
          | some (1, n) => X μ (pc + 1) ls (.int (Int32.ofNat n) :: t) σ nc ns Q
          | some (2, n) => X μ (pc + 1) ls (.int (Int32.ofNat n) :: t) σ nc ns Q
          | none => xi_b (Nat.ble xi_o a) (match G.2.2[a - xi_o]? with
            | some (n, _) => X μ (pc + 1) ls (.int (Int32.ofNat n) :: t) σ nc ns Q
            | none => False)
          | _ => False
        | _ => False
      | .newarray ty => match st with
        | .int n :: t => xi_b (Nat.ble (nc + 1) md.2.2.1.2.2.1 && Nat.ble (ns + n.toNatClampNeg) md.2.2.1.2.2.2 && Nat.ble n.toNatClampNeg 65536 && Nat.blt (σ.1.length + 1) xi_o && xi_wfl σ.1.length ls && xi_wfs σ.1.length t) (¬ n < 0 ∧ (match ty with
          | .int => X μ (pc + 2) ls (.ref σ.1.length :: t) (σ.1 ++ [(1, n.toNatClampNeg)], xi_z σ.2.1 σ.1.length 0, xi_z σ.2.2.1 σ.1.length 0, xi_z σ.2.2.2 σ.1.length 0) (nc + 1) (ns + n.toNatClampNeg) Q
          | .long => X μ (pc + 2) ls (.ref σ.1.length :: t) (σ.1 ++ [(2, n.toNatClampNeg)], xi_z σ.2.1 σ.1.length 0, xi_z σ.2.2.1 σ.1.length 0, xi_z σ.2.2.2 σ.1.length 0) (nc + 1) (ns + n.toNatClampNeg) Q
          | _ => False))
        | _ => False
      | .new _ => xi_b (Nat.ble (nc + 1) md.2.2.1.2.2.1 && Nat.ble (ns + (G.2.1.getD ra []).length) md.2.2.1.2.2.2 && Nat.blt (σ.1.length + 1) xi_o && xi_wfl σ.1.length ls && xi_wfs σ.1.length st)
          (X μ (pc + 3) ls (.ref σ.1.length :: st) (σ.1 ++ [(0, ra)], xi_z σ.2.1 σ.1.length 0, xi_z σ.2.2.1 σ.1.length 0, xi_z σ.2.2.2 σ.1.length 0) (nc + 1) (ns + (G.2.1.getD ra []).length) Q)
      | .invokestatic _ => match G.1[ra]? with
        | some mn => xi_b (Nat.ble mn.2.1.2.2 st.length) (xi_call G X md μ pc ls σ nc ns Q ra mn (st.take mn.2.1.2.2).reverse (st.drop mn.2.1.2.2))
        | none => False
      | .invokevirtual _ => match G.1[ra]? with
        | some mn => match st.drop mn.2.1.2.2 with
          | .ref o :: t => match σ.1[o]? with
            | some (0, ci) => xi_b (Nat.beq ci rb) (xi_call G X md μ pc ls σ nc ns Q ra mn (.ref o :: (st.take mn.2.1.2.2).reverse) t)
            | _ => False
          | _ => False
        | none => False
      | .invokespecial _ => match rb with
        | 1 => match st with
          | .ref _ :: t => xi_b (Nat.ble 1 md.2.2.1.1 && Nat.ble (xi_w8 t + 12) md.2.2.1.2.1) (X μ (pc + 3) ls t σ nc ns Q)
          | _ => False
        | _ => match G.1[ra]? with
          | some mn => match st.drop mn.2.1.2.2 with
            | .ref o :: t => xi_call G X md μ pc ls σ nc ns Q ra mn (.ref o :: (st.take mn.2.1.2.2).reverse) t
            | _ => False
          | none => False
      | .ireturn => match st with
        | [.int v] => xi_b (Nat.ble nc md.2.2.1.2.2.1 && Nat.ble ns md.2.2.1.2.2.2) (match md.2.1.2.1 with
          | some .int => Q (some (.int v)) σ
          | some .boolean => (v = 0 ∨ v = 1) ∧ Q (some (.int v)) σ
          | _ => False)
        | _ => False
      | .lreturn => match st with
        | [.long v] => xi_b (Nat.ble nc md.2.2.1.2.2.1 && Nat.ble ns md.2.2.1.2.2.2) (match md.2.1.2.1 with
          | some .long => Q (some (.long v)) σ
          | _ => False)
        | _ => False
      | .return_ => match st with
        | [] => xi_b (Nat.ble nc md.2.2.1.2.2.1 && Nat.ble ns md.2.2.1.2.2.2) (match md.2.1.2.1 with
          | none => Q none σ
          | _ => False)
        | _ => False
      | _ => False
/-- fewer locals known -/
def xi_fg : List Nat → List (Option Value) → List (Option Value)
  | [], ls => ls
  | i :: t, ls => xi_fg t (ls.set i none)
/-- what the abstract machine promises: the least that every step keeps -/
def xi_cl (G : xiG) (X : xiX) : Prop := ∀ X' : xiX, (∀ μ pc ls st σ nc ns Q, X' μ pc ls st σ nc ns Q → X μ pc ls st σ nc ns Q) → ∀ μ pc ls st σ nc ns Q, (xi_step G X' μ pc ls st σ nc ns Q ∨ ∃ is : List Nat, X' μ pc (xi_fg is ls) st σ nc ns Q) → X μ pc ls st σ nc ns Q
def xi_V (G : xiG) : xiX := fun μ pc ls st σ nc ns Q => ∀ X : xiX, xi_cl G X → X μ pc ls st σ nc ns Q
def xi_stop : List (Nat × List Nat) → Nat → Option (List Nat)
  | [], _ => none
  | q :: t, pc => match Nat.beq q.1 pc with
    | true => some q.2
    | false => xi_stop t pc
/-- n steps of method M, but for the places where it stops -/
def xi_run (G : xiG) (M : Nat) (stops : List (Nat × List Nat)) : Nat → xiX
  | 0 => xi_V G
  | n + 1 => fun μ pc ls st σ nc ns Q => match Nat.beq μ M with
    | true => match xi_stop stops pc with
      | some is => xi_V G μ pc (xi_fg is ls) st σ nc ns Q
      | none => xi_step G (xi_run G M stops n) μ pc ls st σ nc ns Q
    | false => xi_V G μ pc ls st σ nc ns Q
theorem xi_V_step {G : xiG} {X' : xiX} (hX' : ∀ μ pc ls st σ nc ns Q, X' μ pc ls st σ nc ns Q → xi_V G μ pc ls st σ nc ns Q) {μ pc : Nat} {ls : List (Option Value)} {st : List Value} {σ : xiS} {nc ns : Nat} {Q : xiQ} (h : xi_step G X' μ pc ls st σ nc ns Q) : xi_V G μ pc ls st σ nc ns Q := by
  intro X hX
  exact hX X' (fun μ pc ls st σ nc ns Q h => hX' μ pc ls st σ nc ns Q h X hX) μ pc ls st σ nc ns Q (Or.inl h)
theorem xi_V_fg {G : xiG} (is : List Nat) {μ pc : Nat} {ls : List (Option Value)} {st : List Value} {σ : xiS} {nc ns : Nat} {Q : xiQ} (h : xi_V G μ pc (xi_fg is ls) st σ nc ns Q) : xi_V G μ pc ls st σ nc ns Q := by
  intro X hX
  exact hX (xi_V G) (fun μ pc ls st σ nc ns Q h => h X hX) μ pc ls st σ nc ns Q (Or.inr ⟨is, h⟩)
theorem xi_run_V {G : xiG} {M : Nat} {stops : List (Nat × List Nat)} : ∀ (n μ pc : Nat) (ls : List (Option Value)) (st : List Value) (σ : xiS) (nc ns : Nat) (Q : xiQ), xi_run G M stops n μ pc ls st σ nc ns Q → xi_V G μ pc ls st σ nc ns Q
  | 0, _, _, _, _, _, _, _, _, h => h
  | n + 1, μ, pc, ls, st, σ, nc, ns, Q, h => by
    unfold xi_run at h
    split at h
    · split at h
      · exact xi_V_fg _ h
      · exact xi_V_step (xi_run_V n) h
    · exact h
theorem xi_go {G : xiG} (M : Nat) (stops : List (Nat × List Nat)) (n : Nat) {pc : Nat} {ls : List (Option Value)} {st : List Value} {σ : xiS} {nc ns : Nat} {Q : xiQ} (h : xi_step G (xi_run G M stops n) M pc ls st σ nc ns Q) : xi_V G M pc ls st σ nc ns Q := xi_V_step (xi_run_V n) h
end
section
/-! XI: how an abstract state stands in the heap -/
def xi_v (ad : Nat → Nat) : Value → Value
  | .ref k => .ref (ad k)
  | v => v
theorem xi_v_cat (ad : Nat → Nat) (v : Value) : (xi_v ad v).category = v.category := by cases v <;> rfl
def xi_l (ad : Nat → Nat) (ls : List (Option Value)) : List (Nat × Value) := (List.range ls.length).filterMap (fun i => match ls[i]? with
  | some (some v) => some (i, xi_v ad v)
  | _ => none)
theorem xi_l_mem {ad : Nat → Nat} {ls : List (Option Value)} {q : Nat × Value} : q ∈ xi_l ad ls ↔ ∃ v, ls[q.1]? = some (some v) ∧ q.2 = xi_v ad v := by
  unfold xi_l
  rw [List.mem_filterMap]
  constructor
  · rintro ⟨i, hi, h⟩
    split at h
    · rename_i v hv
      cases h
      exact ⟨v, hv, rfl⟩
    · cases h
  · rintro ⟨v, hv, h2⟩
    refine ⟨q.1, List.mem_range.mpr (List.getElem?_eq_some_iff.mp hv).1, ?_⟩
    rw [hv]
    show some (q.1, xi_v ad v) = some q
    rw [← h2]
theorem xi_has {lsA : Array Slot} {nL : Nat} {l l' : List (Nat × Value)} (h : lv_has lsA nL l) (hs : ∀ q ∈ l', q ∈ l) : lv_has lsA nL l' := ⟨h.1, h.2.1, fun q hq => h.2.2 q (hs q hq)⟩
theorem xi_at {lsA : Array Slot} {nL : Nat} {ad : Nat → Nat} {ls : List (Option Value)} (h : lv_has lsA nL (xi_l ad ls)) {i : Nat} {v : Value} (hi : ls[i]? = some (some v)) : lsA[i]? = some (.val (xi_v ad v)) := h.2.2 (i, xi_v ad v) (xi_l_mem.mpr ⟨v, hi, rfl⟩)
theorem xi_is2_of {o : Option (Option Value)} (h : ¬ xi_is2 o = true) {v : Value} (hv : o = some (some v)) : v.category ≠ 2 := by
  subst hv
  cases v <;> simp_all [xi_is2, Value.category]
theorem xi_kill_at {ls : List (Option Value)} {i j : Nat} {v : Value} (h : (xi_kill ls i)[j]? = some (some v)) : ls[j]? = some (some v) ∧ ¬ (j + 1 = i ∧ v.category = 2) := by
  cases i with
  | zero => exact ⟨h, fun q => by omega⟩
  | succ k =>
    unfold xi_kill at h
    dsimp only at h
    split at h
    · rename_i h2
      rw [List.getElem?_set] at h
      split at h
      · split at h
        · cases h
        · cases h
      · exact ⟨h, fun q => by omega⟩
    · rename_i h2
      refine ⟨h, fun q => ?_⟩
      have e : j = k := by omega
      subst e
      exact xi_is2_of (by rw [h2]; decide) h q.2
theorem xi_kill_len (ls : List (Option Value)) (i : Nat) : (xi_kill ls i).length = ls.length := by
  cases i with
  | zero => rfl
  | succ k => unfold xi_kill; dsimp only; split <;> simp
theorem xi_store1 {lsA : Array Slot} {nL i : Nat} {ad : Nat → Nat} {ls : List (Option Value)} {v w : Value} (hw : w = xi_v ad v) (h : lv_has lsA nL ((i, w) :: (xi_l ad ls).filter (fun q => !(q.1 == i) && !(q.1 + 1 == i && q.2.category == 2)))) : lv_has lsA nL (xi_l ad (xi_s1 ls i v)) := by
  refine xi_has h fun q hq => ?_
  obtain ⟨u, hu, h2⟩ := xi_l_mem.mp hq
  unfold xi_s1 at hu
  rw [List.getElem?_set] at hu
  split at hu
  · rename_i e
    split at hu
    · cases hu
      refine List.mem_cons.mpr (Or.inl ?_)
      rw [hw, e, ← h2]
    · cases hu
  · rename_i e
    obtain ⟨a, b⟩ := xi_kill_at hu
    refine List.mem_cons.mpr (Or.inr (List.mem_filter.mpr ⟨xi_l_mem.mpr ⟨u, a, h2⟩, ?_⟩))
    have b2 : ¬ (q.1 + 1 = i ∧ q.2.category = 2) := by rw [h2, xi_v_cat]; exact b
    have e2 : ¬ q.1 = i := fun z => e z.symm
    simp [e2]
    exact Decidable.not_and_iff_or_not.mp b2
theorem xi_store2 {lsA : Array Slot} {nL i : Nat} {ad : Nat → Nat} {ls : List (Option Value)} {v w : Value} (hw : w = xi_v ad v) (h : lv_has lsA nL ((i, w) :: (xi_l ad ls).filter (fun q => !(q.1 == i) && (!(q.1 == i + 1) && !(q.1 + 1 == i && q.2.category == 2))))) : lv_has lsA nL (xi_l ad (xi_s2 ls i v)) := by
  refine xi_has h fun q hq => ?_
  obtain ⟨u, hu, h2⟩ := xi_l_mem.mp hq
  unfold xi_s2 at hu
  rw [List.getElem?_set] at hu
  split at hu
  · split at hu
    · cases hu
    · cases hu
  · rename_i e3
    rw [List.getElem?_set] at hu
    split at hu
    · rename_i e
      split at hu
      · cases hu
        refine List.mem_cons.mpr (Or.inl ?_)
        rw [hw, e, ← h2]
      · cases hu
    · rename_i e
      obtain ⟨a, b⟩ := xi_kill_at hu
      refine List.mem_cons.mpr (Or.inr (List.mem_filter.mpr ⟨xi_l_mem.mpr ⟨u, a, h2⟩, ?_⟩))
      have b2 : ¬ (q.1 + 1 = i ∧ q.2.category = 2) := by rw [h2, xi_v_cat]; exact b
      have e2 : ¬ q.1 = i := fun z => e z.symm
      have e4 : ¬ q.1 = i + 1 := fun z => e3 z.symm
      simp [e2, e4]
      exact Decidable.not_and_iff_or_not.mp b2
theorem xi_fg_mem {ad : Nat → Nat} : ∀ (is : List Nat) (ls : List (Option Value)) (q : Nat × Value), q ∈ xi_l ad (xi_fg is ls) → q ∈ xi_l ad ls
  | [], _, _, h => h
  | i :: t, ls, q, h => by
    obtain ⟨v, hv, h2⟩ := xi_l_mem.mp (xi_fg_mem t (ls.set i none) q h)
    rw [List.getElem?_set] at hv
    split at hv
    · split at hv <;> cases hv
    · exact xi_l_mem.mpr ⟨v, hv, h2⟩
theorem xi_ent_mem {ad : Nat → Nat} {n : Nat} : ∀ (vs : List Value) (k : Nat) (i : Nat) (v : Value), (xi_ent1 vs ++ List.replicate n none)[i]? = some (some v) → (k + i, xi_v ad v) ∈ lv_args k (vs.map (xi_v ad))
  | [], k, i, v, h => by
    simp only [xi_ent1, List.nil_append] at h
    rw [List.getElem?_replicate] at h
    split at h <;> cases h
  | w :: t, k, i, v, h => by
    have ih1 := xi_ent_mem (ad := ad) (n := n) t (k + 1)
    have ih2 := xi_ent_mem (ad := ad) (n := n) t (k + 2)
    cases w with
    | long x =>
      match i, h with
      | 0, h => simp [xi_ent1] at h; subst h; simp [lv_args, xi_v]
      | 1, h => simp [xi_ent1] at h
      | i + 2, h =>
        simp [xi_ent1] at h
        have := ih2 i v h
        simp only [List.map_cons, xi_v, lv_args, Value.category, List.mem_cons]
        right
        rw [show k + (i + 2) = k + 2 + i by omega]
        exact this
    | double x =>
      match i, h with
      | 0, h => simp [xi_ent1] at h; subst h; simp [lv_args, xi_v]
      | 1, h => simp [xi_ent1] at h
      | i + 2, h =>
        simp [xi_ent1] at h
        have := ih2 i v h
        simp only [List.map_cons, xi_v, lv_args, Value.category, List.mem_cons]
        right
        rw [show k + (i + 2) = k + 2 + i by omega]
        exact this
    | int x =>
      match i, h with
      | 0, h => simp [xi_ent1] at h; subst h; simp [lv_args, xi_v]
      | i + 1, h =>
        simp [xi_ent1] at h
        have := ih1 i v h
        simp only [List.map_cons, xi_v, lv_args, Value.category, List.mem_cons]
        right
        rw [show k + (i + 1) = k + 1 + i by omega]
        exact this
    | float x =>
      match i, h with
      | 0, h => simp [xi_ent1] at h; subst h; simp [lv_args, xi_v]
      | i + 1, h =>
        simp [xi_ent1] at h
        have := ih1 i v h
        simp only [List.map_cons, xi_v, lv_args, Value.category, List.mem_cons]
        right
        rw [show k + (i + 1) = k + 1 + i by omega]
        exact this
    | null =>
      match i, h with
      | 0, h => simp [xi_ent1] at h; subst h; simp [lv_args, xi_v]
      | i + 1, h =>
        simp [xi_ent1] at h
        have := ih1 i v h
        simp only [List.map_cons, xi_v, lv_args, Value.category, List.mem_cons]
        right
        rw [show k + (i + 1) = k + 1 + i by omega]
        exact this
    | ref x =>
      match i, h with
      | 0, h => simp [xi_ent1] at h; subst h; simp [lv_args, xi_v]
      | i + 1, h =>
        simp [xi_ent1] at h
        have := ih1 i v h
        simp only [List.map_cons, xi_v, lv_args, Value.category, List.mem_cons]
        right
        rw [show k + (i + 1) = k + 1 + i by omega]
        exact this
    | retAddr x =>
      match i, h with
      | 0, h => simp [xi_ent1] at h; subst h; simp [lv_args, xi_v]
      | i + 1, h =>
        simp [xi_ent1] at h
        have := ih1 i v h
        simp only [List.map_cons, xi_v, lv_args, Value.category, List.mem_cons]
        right
        rw [show k + (i + 1) = k + 1 + i by omega]
        exact this
theorem xi_ent_len (ad : Nat → Nat) : ∀ vs : List Value, (lg_sl (vs.map (xi_v ad))).length = (xi_ent1 vs).length
  | [] => rfl
  | w :: t => by
    have ih := xi_ent_len ad t
    have e : lg_sl (xi_v ad w :: t.map (xi_v ad)) = (lg_sl [xi_v ad w]) ++ lg_sl (t.map (xi_v ad)) := by simp [lg_sl]
    rw [List.map_cons, e, List.length_append, ih]
    cases w <;> simp [xi_ent1, lg_sl, xi_v, Value.category] <;> omega
/-- refs that are known: what another address map that agrees says of them -/
def xi_A (σ : xiS) (ad : Nat → Nat) (σ' : xiS) (ad' : Nat → Nat) : Prop := (∀ k, k < σ.1.length → ad' k = ad k) ∧ (∀ k, xi_o ≤ k → ad' k = ad k) ∧ σ.1.length ≤ σ'.1.length
theorem xi_A_rf {σ : xiS} {ad : Nat → Nat} : xi_A σ ad σ ad := ⟨fun _ _ => rfl, fun _ _ => rfl, Nat.le_refl _⟩
theorem xi_A_tr {σ σ1 σ2 : xiS} {ad ad1 ad2 : Nat → Nat} (h : xi_A σ ad σ1 ad1) (h2 : xi_A σ1 ad1 σ2 ad2) : xi_A σ ad σ2 ad2 :=
  ⟨fun k hk => (h2.1 k (Nat.lt_of_lt_of_le hk h.2.2)).trans (h.1 k hk), fun k hk => (h2.2.1 k hk).trans (h.2.1 k hk), Nat.le_trans h.2.2 h2.2.2⟩
theorem xi_wf1_v {σ σ' : xiS} {ad ad' : Nat → Nat} (h : xi_A σ ad σ' ad') {v : Value} (hv : xi_wf1 σ.1.length v = true) : xi_v ad' v = xi_v ad v := by
  cases v with
  | ref k =>
    simp only [xi_wf1, Bool.or_eq_true] at hv
    show Value.ref (ad' k) = Value.ref (ad k)
    rcases hv with hv | hv
    · rw [h.1 k (Nat.blt_eq.mp hv)]
    · rw [h.2.1 k (Nat.ble_eq.mp hv)]
  | _ => rfl
theorem xi_wfs_v {σ σ' : xiS} {ad ad' : Nat → Nat} (h : xi_A σ ad σ' ad') : ∀ (st : List Value), xi_wfs σ.1.length st = true → st.map (xi_v ad') = st.map (xi_v ad)
  | [], _ => rfl
  | v :: t, hs => by
    unfold xi_wfs at hs
    split at hs
    · rename_i h1
      rw [List.map_cons, List.map_cons, xi_wf1_v h h1, xi_wfs_v h t hs]
    · cases hs
theorem xi_wfl_at {n : Nat} : ∀ (ls : List (Option Value)), xi_wfl n ls = true → ∀ (i : Nat) (v : Value), ls[i]? = some (some v) → xi_wf1 n v = true
  | [], _, i, v, h => by cases h
  | none :: t, hs, i, v, h => by
    cases i with
    | zero => cases h
    | succ i => exact xi_wfl_at t hs i v h
  | some w :: t, hs, i, v, h => by
    unfold xi_wfl at hs
    split at hs
    · rename_i h1
      cases i with
      | zero => cases h; exact h1
      | succ i => exact xi_wfl_at t hs i v h
    · cases hs
theorem xi_wfl_v {σ σ' : xiS} {ad ad' : Nat → Nat} (h : xi_A σ ad σ' ad') {ls : List (Option Value)} (hs : xi_wfl σ.1.length ls = true) (q : Nat × Value) (hq : q ∈ xi_l ad' ls) : q ∈ xi_l ad ls := by
  obtain ⟨v, hv, h2⟩ := xi_l_mem.mp hq
  exact xi_l_mem.mpr ⟨v, hv, by rw [h2, xi_wf1_v h (xi_wfl_at ls hs _ _ hv)]⟩
end
section
/-! XI: the cells of an abstract state -/
def xi_cell (fk : List (List Nat)) (ad : Nat → Nat) (ca : Nat → ClassId) (σ : xiS) (k : Nat) (d : Nat × Nat) : va_E := match d.1 with
  | 0 => .inr (d.2, (List.range (fk.getD d.2 []).length).map (fun j => xi_v ad (xi_fld fk σ k d.2 j)))
  | 1 => .inl (ca k, d.2, .inl (σ.2.2.1 k))
  | _ => .inl (ca k, d.2, .inr (.inl (σ.2.2.2 k)))
def xi_ws (fk : List (List Nat)) (ad : Nat → Nat) (ca : Nat → ClassId) (σ : xiS) : va_W := σ.1.mapIdx (fun k d => (ad k, xi_cell fk ad ca σ k d))
theorem xi_ws_at {fk : List (List Nat)} {ad : Nat → Nat} {ca : Nat → ClassId} {σ : xiS} {k : Nat} {d : Nat × Nat} (h : σ.1[k]? = some d) : (xi_ws fk ad ca σ)[k]? = some (ad k, xi_cell fk ad ca σ k d) := by
  unfold xi_ws
  rw [List.getElem?_mapIdx, h]
  rfl
theorem xi_ws_of {fk : List (List Nat)} {ad : Nat → Nat} {ca : Nat → ClassId} {σ : xiS} {k : Nat} {q : Nat × va_E} (h : (xi_ws fk ad ca σ)[k]? = some q) : ∃ d, σ.1[k]? = some d ∧ q = (ad k, xi_cell fk ad ca σ k d) := by
  unfold xi_ws at h
  rw [List.getElem?_mapIdx] at h
  cases e : σ.1[k]? with
  | none => rw [e] at h; cases h
  | some d => rw [e] at h; cases h; exact ⟨d, rfl, rfl⟩
/-- one cell changed -/
theorem xi_ws_set {fk : List (List Nat)} {ad : Nat → Nat} {ca : Nat → ClassId} {σ σ' : xiS} {o : Nat} {d : Nat × Nat} (hs : σ'.1 = σ.1) (ho : σ.1[o]? = some d) (hr : ∀ k, k ≠ o → σ'.2.1 k = σ.2.1 k) (hi : ∀ k, k ≠ o → σ'.2.2.1 k = σ.2.2.1 k) (hl : ∀ k, k ≠ o → σ'.2.2.2 k = σ.2.2.2 k) : xi_ws fk ad ca σ' = (xi_ws fk ad ca σ).set o (ad o, xi_cell fk ad ca σ' o d) := by
  apply List.ext_getElem?
  intro k
  rw [List.getElem?_set]
  by_cases e : o = k
  · subst e
    rw [if_pos rfl]
    have h2 : σ'.1[o]? = some d := by rw [hs]; exact ho
    rw [xi_ws_at h2]
    have h3 := List.getElem?_eq_some_iff.mp (xi_ws_at (fk := fk) (ad := ad) (ca := ca) ho)
    rw [if_pos h3.1]
  · rw [if_neg e]
    have e' : k ≠ o := fun z => e z.symm
    cases e2 : σ.1[k]? with
    | none =>
      have n1 : (xi_ws fk ad ca σ)[k]? = none := by unfold xi_ws; rw [List.getElem?_mapIdx, e2]; rfl
      have n2 : (xi_ws fk ad ca σ')[k]? = none := by unfold xi_ws; rw [List.getElem?_mapIdx, hs, e2]; rfl
      rw [n1, n2]
    | some d2 =>
      have h2 : σ'.1[k]? = some d2 := by rw [hs]; exact e2
      rw [xi_ws_at e2, xi_ws_at h2]
      congr 2
      unfold xi_cell
      split
      · congr 2
        apply List.map_congr_left
        intro j _
        unfold xi_fld
        rw [hr k e', hi k e', hl k e']
      · rw [hi k e']
      · rw [hl k e']
theorem xi_cell_obj {fk : List (List Nat)} {ad : Nat → Nat} {ca : Nat → ClassId} {σ : xiS} {k ci : Nat} : xi_cell fk ad ca σ k (0, ci) = .inr (ci, (List.range (fk.getD ci []).length).map (fun j => xi_v ad (xi_fld fk σ k ci j))) := rfl
/-- a field's value put: the row of its values -/
theorem xi_fs_set {fk : List (List Nat)} {ad : Nat → Nat} {σ σ' : xiS} {o ci j : Nat} {v : Value} (hj : xi_fld fk σ' o ci j = v) (hk : ∀ k, k ≠ j → xi_fld fk σ' o ci k = xi_fld fk σ o ci k) : (List.range (fk.getD ci []).length).map (fun k => xi_v ad (xi_fld fk σ' o ci k)) = ((List.range (fk.getD ci []).length).map (fun k => xi_v ad (xi_fld fk σ o ci k))).set j (xi_v ad v) := by
  apply List.ext_getElem?
  intro k
  rw [List.getElem?_set]
  by_cases e : j = k
  · subst e
    rw [if_pos rfl, List.length_map, List.length_range]
    by_cases h : j < (fk.getD ci []).length
    · rw [if_pos h, List.getElem?_map, List.getElem?_range h]
      show some (xi_v ad (xi_fld fk σ' o ci j)) = _
      rw [hj]
    · rw [if_neg h, List.getElem?_map, List.getElem?_eq_none (by rw [List.length_range]; omega)]
      rfl
  · rw [if_neg e, List.getElem?_map, List.getElem?_map]
    by_cases h : k < (fk.getD ci []).length
    · rw [List.getElem?_range h]
      show some (xi_v ad (xi_fld fk σ' o ci k)) = some (xi_v ad (xi_fld fk σ o ci k))
      rw [hk k (fun z => e z.symm)]
    · rw [List.getElem?_eq_none (by rw [List.length_range]; omega)]
      rfl
/-- a state with one cell more -/
theorem xi_ws_push {fk : List (List Nat)} {ad ad' : Nat → Nat} {ca ca' : Nat → ClassId} {σ σ' : xiS} {d : Nat × Nat} (hs : σ'.1 = σ.1 ++ [d]) (hr : ∀ k, k < σ.1.length → σ'.2.1 k = σ.2.1 k) (hi : ∀ k, k < σ.1.length → σ'.2.2.1 k = σ.2.2.1 k) (hl : ∀ k, k < σ.1.length → σ'.2.2.2 k = σ.2.2.2 k) (ha : ∀ k, k < σ.1.length → ad' k = ad k) (hc : ∀ k, k < σ.1.length → ca' k = ca k) (hw : ∀ k j q, k < σ.1.length → σ.2.1 k j = q + 1 → q < σ.1.length) : xi_ws fk ad' ca' σ' = xi_ws fk ad ca σ ++ [(ad' σ.1.length, xi_cell fk ad' ca' σ' σ.1.length d)] := by
  apply List.ext_getElem?
  intro k
  have hlen : (xi_ws fk ad ca σ).length = σ.1.length := by unfold xi_ws; rw [List.length_mapIdx]
  rcases Nat.lt_trichotomy k σ.1.length with h | h | h
  · rw [List.getElem?_append_left (by rw [hlen]; exact h)]
    have e2 : σ.1[k]? = some σ.1[k] := List.getElem?_eq_getElem h
    have e3 : σ'.1[k]? = some σ.1[k] := by rw [hs, List.getElem?_append_left h]; exact e2
    rw [xi_ws_at e2, xi_ws_at e3, ha k h]
    congr 2
    unfold xi_cell
    split
    · congr 2
      apply List.map_congr_left
      intro j _
      unfold xi_fld
      rw [hr k h, hi k h, hl k h]
      split
      · rfl
      · rfl
      · rfl
      · split
        · rfl
        · rename_i q e
          show Value.ref (ad' q) = Value.ref (ad q)
          rw [ha q (hw k j q h e)]
    · rw [hi k h, hc k h]
    · rw [hl k h, hc k h]
  · subst h
    have e3 : σ'.1[σ.1.length]? = some d := by rw [hs]; simp
    rw [xi_ws_at e3, List.getElem?_append_right (by rw [hlen]; exact Nat.le_refl _), hlen]
    simp
  · have e3 : σ'.1[k]? = none := by rw [hs]; exact List.getElem?_eq_none (by simp; omega)
    have n2 : (xi_ws fk ad' ca' σ')[k]? = none := by unfold xi_ws; rw [List.getElem?_mapIdx, e3]; rfl
    rw [n2]
    symm
    apply List.getElem?_eq_none
    simp [hlen]
    omega
end
section
/-! XI: what is asked of the tables, what a frame knows, and what it is that the machine keeps an abstract promise -/
abbrev xiZ : Type := List (String × String × String) × List (String × Nat × MethodName × String)
def xi_len : Instr → Nat
  | .iconst _ | .lconst _ | .iload_n _ | .lload_n _ | .aload_n _ | .istore_n _ | .lstore_n _ | .astore_n _ => 1
  | .bipush _ | .ldc _ | .iload _ | .lload _ | .aload _ | .istore _ | .lstore _ | .newarray _ => 2
  | .sipush _ | .ldc_w _ | .ldc2_w _ | .iinc _ _ | .ifCond _ _ | .if_icmp _ _ | .goto _ | .getfield _ | .putfield _ | .getstatic _ | .new _ | .invokestatic _ | .invokevirtual _ | .invokespecial _ => 3
  | _ => 1
/-- a target ahead of the method's beginning can't be -/
def xi_tg (pc : Nat) (off : Int) : Bool := decide (0 ≤ (pc : Int) + off)
def xi_kt (k : Nat) (ty : FieldType) : Bool := match k, ty with
  | 0, .int => true
  | 1, .boolean => true
  | 2, .long => true
  | 3, .object _ => true
  | 3, .array _ => true
  | _, _ => false
def xi_fin (md : xiM) (q : String × String × String × Bool) : Bool := match q.2.2.2 with
  | true => decide (md.1.1 = "init") && decide (q.1 = md.1.2.1.cls)
  | false => true
/-- an entry of a method's table is right: its bytes, its length, the words of what it is resolved to -/
def xi_okE (T : List Cond) (cl : List vw_C) (zs : xiZ) (G : xiG) (md : xiM) (q : xiE) : Bool :=
  decide (decode md.1.2.2 q.1 = .ok (q.2.1, q.2.2.1)) && (match q with
  | (pc, ins, len, ra, rb, rc) => match ins with
    | .ifCond _ off => Nat.beq len 3 && xi_tg pc off
    | .if_icmp _ off => Nat.beq len 3 && xi_tg pc off
    | .goto off => Nat.beq len 3 && xi_tg pc off
    | .getfield i => Nat.beq len 3 && (match cl[ra]? with
      | some (_, t, n) => Nat.blt rb n && decide (T[rc]? = some (.fieldLink md.1.2.1.cls i (t rb).1 (t rb).2.1 (t rb).2.2.1))
      | none => false)
    | .putfield i => Nat.beq len 3 && (match cl[ra]? with
      | some (_, t, n) => Nat.blt rb n && decide (T[rc]? = some (.fieldLink md.1.2.1.cls i (t rb).1 (t rb).2.1 (t rb).2.2.1)) && xi_fin md (t rb)
      | none => false)
    | .getstatic i => Nat.beq len 3 && (match ra with
      | 0 => false
      | j + 1 => match zs.1[j]? with
        | some z => decide (T[rc]? = some (.fieldLink md.1.2.1.cls i z.1 z.2.1 z.2.2))
        | none => false)
    | .ldc i => Nat.beq len 2 && decide (T[rc]? = some (.constant md.1.2.1.cls i (Int32.ofNat ra)))
    | .ldc_w i => Nat.beq len 3 && decide (T[rc]? = some (.constant md.1.2.1.cls i (Int32.ofNat ra)))
    | .ldc2_w i => Nat.beq len 3 && decide (T[rc]? = some (.constantLong md.1.2.1.cls i (Int64.ofNat ra)))
    | .new i => Nat.beq len 3 && (match cl[ra]? with
      | some (c, _, n) => decide (T[rc]? = some (.classLink md.1.2.1.cls i c)) && decide (Cond.instantiable c n ∈ T) && decide (Cond.initialized c ∈ T)
      | none => false)
    | .newarray ty => Nat.beq len 2 && decide (Cond.arrayClass (newarray.typeOf ty) ∈ T)
    | .invokestatic i => Nat.beq len 3 && (match G.1[ra]? with
      | some mn => decide (T[rc]? = some (.methodLink md.1.2.1.cls i mn.1.2.1)) && decide (mn.1.1 = "static")
      | none => false)
    | .invokevirtual i => Nat.beq len 3 && (match G.1[ra]?, cl[rb]? with
      | some mn, some (c, _, _) => decide (T[rc]? = some (.methodLink md.1.2.1.cls i mn.1.2.1)) && decide (mn.1.1 = "virtual") && decide (mn.1.2.1.cls = c)
      | _, _ => false)
    | .invokespecial i => Nat.beq len 3 && (match rb with
      | 0 => match G.1[ra]? with
        | some mn => decide (mn.1.1 = "init") && decide (T[rc]? = some (.methodLink md.1.2.1.cls i mn.1.2.1))
        | none => false
      | 2 => match G.1[ra]? with
        | some mn => decide (mn.1.1 = "init") && (match zs.2[rc]? with
          | some (o, j, y, _) => decide (o = md.1.2.1.cls) && Nat.beq j i && decide (y = mn.1.2.1)
          | _ => false)
        | none => false
      | 1 => decide (T[rc]? = some (.methodLink md.1.2.1.cls i Lib.objectInit)) && decide (Cond.instanceMethod Lib.objectInit ∈ T) && decide (Cond.code Lib.objectInit ⟨#[0xb1]⟩ 1 none ∈ T)
      | _ => false)
    | .tableswitch d lo hi offs => Nat.beq offs.toList.length (hi - lo + 1).toNat && xi_tg pc d && offs.toList.all (xi_tg pc)
    | i => Nat.beq len (xi_len i))
/-- a method that is called: its words -/
def xi_okM (T : List Cond) (md : xiM) : Bool :=
  plainFor md.1.2.1 && decide (Cond.code md.1.2.1 md.1.2.2 md.2.1.1 md.2.1.2.1 ∈ T) && decide (Cond.initialized md.1.2.1.cls ∈ T) && decide (md.1.2.1.cls ≠ "java/lang/invoke/MethodHandle") && decide (md.1.2.1.cls ≠ "java/lang/invoke/VarHandle") && decide ((parseMethodDescriptor md.1.2.1.desc).map (fun d => d.parameters.length) = some md.2.1.2.2) &&
  (match decide (md.1.1 = "static") with
  | true => decide (Cond.static md.1.2.1 ∈ T)
  | false => match decide (md.1.1 = "virtual") with
    | true => decide (Cond.instanceMethod md.1.2.1 ∈ T) && decide (Cond.selects md.1.2.1.cls md.1.2.1 md.1.2.1 ∈ T)
    | false => decide (md.1.1 = "init") && decide (Cond.instanceMethod md.1.2.1 ∈ T) && decide (md.1.2.1.name = "<init>") && decide (md.2.1.2.1 = none))
def xi_okC (T : List Cond) (fk : List (List Nat)) (tf : Nat → Nat → FieldType) (ci : Nat) (q : vw_C) : Prop :=
  (∀ w ∈ u_ws q.1 q.2.1 q.2.2, w ∈ T) ∧ q.2.2 = (fk.getD ci []).length ∧ (∀ a, a < q.2.2 → ∀ b, b < q.2.2 → a ≠ b → (q.2.1 a).2.1 ≠ (q.2.1 b).2.1) ∧ (∀ k, k < q.2.2 → parseFieldDescriptor (q.2.1 k).2.2.1 = some (tf ci k)) ∧ (∀ k, k < q.2.2 → xi_kt ((fk.getD ci []).getD k 9) (tf ci k) = true)
def xi_good (T : List Cond) (cl : List vw_C) (zs : xiZ) (tf : Nat → Nat → FieldType) (G : xiG) : Prop :=
  (∀ w ∈ T, goodWord w = true) ∧ (∀ (ci : Nat) (q : vw_C), cl[ci]? = some q → xi_okC T G.2.1 tf ci q) ∧ ∀ (μ : Nat) (md : xiM), G.1[μ]? = some md → (md.1.1 ≠ "law" → xi_okM T md = true) ∧ ∀ q ∈ md.2.2.2, xi_okE T cl zs G md q = true
theorem xi_look_mem {pc : Nat} {q : Instr × Nat × (Nat × Nat × Nat)} : ∀ (l : List xiE), xi_look l pc = some q → (pc, q) ∈ l
  | [], h => by cases h
  | a :: t, h => by
    unfold xi_look at h
    split at h
    · rename_i e
      cases h
      rw [← Nat.eq_of_beq_eq_true e]
      exact List.mem_cons_self
    · exact List.mem_cons_of_mem _ (xi_look_mem t h)
theorem xi_b_of {b : Bool} {P : Prop} (h : xi_b b P) : b = true ∧ P := by
  cases b with
  | true => exact ⟨rfl, h⟩
  | false => exact h.elim
theorem xi_I2_of {K : Int32 → Int32 → List Value → Prop} {st : List Value} (h : xi_I2 K st) : ∃ x y t, st = .int y :: .int x :: t ∧ K x y t := by
  unfold xi_I2 at h
  split at h
  · exact ⟨_, _, _, rfl, h⟩
  · exact h.elim
theorem xi_I1_of {K : Int32 → List Value → Prop} {st : List Value} (h : xi_I1 K st) : ∃ x t, st = .int x :: t ∧ K x t := by
  unfold xi_I1 at h
  split at h
  · exact ⟨_, _, rfl, h⟩
  · exact h.elim
theorem xi_L2_of {K : Int64 → Int64 → List Value → Prop} {st : List Value} (h : xi_L2 K st) : ∃ x y t, st = .long y :: .long x :: t ∧ K x y t := by
  unfold xi_L2 at h
  split at h
  · exact ⟨_, _, _, rfl, h⟩
  · exact h.elim
theorem xi_L1_of {K : Int64 → List Value → Prop} {st : List Value} (h : xi_L1 K st) : ∃ x t, st = .long x :: t ∧ K x t := by
  unfold xi_L1 at h
  split at h
  · exact ⟨_, _, rfl, h⟩
  · exact h.elim
theorem xi_ld_of {K : Value → Prop} {ls : List (Option Value)} {i : Nat} (h : xi_ld K ls i) : ∃ v, ls[i]? = some (some v) ∧ K v := by
  unfold xi_ld at h
  split at h
  · rename_i v e
    exact ⟨v, e, h⟩
  · exact h.elim
/-- what a frame knows from its beginning on -/
def xi_C (T : List Cond) (cl : List vw_C) (G : xiG) (D : va_G) (p : Program) (s : State) (m : MethodId) (args : Array Value) (meth : Method) (c : Code) (R : Room) (md : xiM) (A : Nat → Prop) : Prop :=
  p.tables.exec = Jvm.exec ∧ c.code = md.1.2.2 ∧ c.maxLocals = md.2.1.1 ∧ s.vm.findClass md.1.2.1.cls = some m.cls ∧ (∀ w ∈ T, w.before args s = true) ∧ (∀ q, s.heap.size ≤ q → A q) ∧ (∀ (c : Nat) (q : vw_C), cl[c]? = some q → u_Kn s q.1 q.2.1 q.2.2 (D.1 c) (D.2 c)) ∧
  md.2.2.1.1 ≤ R.frames ∧ md.2.2.1.2.1 ≤ R.locals ∧ md.2.2.1.2.2.1 ≤ R.cells ∧ md.2.2.1.2.2.2 ≤ R.slots ∧ (md.1.1 = "init" → meth.name = "<init>")
/-- rows that are read alone, and the statics that hold them -/
def xi_O (zs : xiZ) (G : xiG) (A : Nat → Prop) (ad : Nat → Nat) (U : State) (H : Heap) : Prop :=
  (∀ (j : Nat) (q : Nat × (Nat → Int32)), G.2.2[j]? = some q → va_T .int (ad (xi_o + j)) q.1 (fun t => .int (q.2 t)) A U H) ∧ (∀ (j : Nat) (z : String × String × String), zs.1[j]? = some z → va_Z z.1 z.2.1 z.2.2 (.ref (ad (xi_o + (j + 1)))) A U H) ∧ ∀ q ∈ zs.2, va_Nw (.methodLinkNest q.1 q.2.1 q.2.2.1 q.2.2.2) U
/-- the classes of the arrays -/
def xi_T (ca : Nat → ClassId) (σ : xiS) (U : State) : Prop := ∀ (k : Nat) (d : Nat × Nat), σ.1[k]? = some d → (d.1 = 1 → ArrOfT U (ca k) .int ∧ va_RA U (ca k) .int) ∧ (d.1 = 2 → ArrOfT U (ca k) .long ∧ va_RA U (ca k) .long)
def xi_F (σ : xiS) : Prop := (∀ k j q, k < σ.1.length → σ.2.1 k j = q + 1 → q < σ.1.length) ∧ σ.1.length < xi_o
def xi_R (cl : List vw_C) (G : xiG) (D : va_G) (s : State) (A : Nat → Prop) (ad : Nat → Nat) (ca : Nat → ClassId) (σ : xiS) (H : Heap) (locs : List Loc) : Prop :=
  va_P D cl (xi_ws G.2.1 ad ca σ) H ∧ va_D A (xi_ws G.2.1 ad ca σ) ∧ va_S A s.heap H locs ∧ xi_T ca σ s ∧ xi_F σ
def xi_ret (md : xiM) (pc : Nat) (r : Option Value) : Prop := match r with
  | none => decode md.1.2.2 pc = .ok (.return_, 1) ∧ md.2.1.2.1 = none
  | some (.int v) => decode md.1.2.2 pc = .ok (.ireturn, 1) ∧ (md.2.1.2.1 = some .int ∨ (md.2.1.2.1 = some .boolean ∧ (v = 0 ∨ v = 1)))
  | some (.long _) => decode md.1.2.2 pc = .ok (.lreturn, 1) ∧ md.2.1.2.1 = some .long
  | _ => False
/-- the machine keeps it: from every heap that holds the state, if every end that keeps Q goes on, this goes on -/
def xi_OK (T : List Cond) (cl : List vw_C) (zs : xiZ) (l : Launch) (G : xiG) : xiX := fun μ pc ls st σ nc ns Q =>
  ∀ (md : xiM), G.1[μ]? = some md → ∀ (p : Program) (e : Env) (s : State) (m : MethodId) (args : Array Value) (below : List Frame) (meth : Method) (c : Code) (R : Room) (Z : State → Prop) (D : va_G) (A : Nat → Prop) (ad : Nat → Nat) (ca : Nat → ClassId) (H : Heap) (locs : List Loc) (lsA : Array Slot),
    xi_C T cl G D p s m args meth c R md A → xi_O zs G A ad s s.heap → xi_R cl G D s A ad ca σ H locs → lv_has lsA md.2.1.1 (xi_l ad ls) →
    (∀ (r : Option Value) (σ' : xiS) (ad' : Nat → Nat) (ca' : Nat → ClassId) (H' : Heap) (locs' : List Loc) (nc' ns' pc' : Nat) (lsA' : Array Slot), Q r σ' → xi_R cl G D s A ad' ca' σ' H' locs' → xi_A σ ad σ' ad' → nc' ≤ md.2.2.1.2.2.1 → ns' ≤ md.2.2.1.2.2.2 → xi_ret md pc' r →
      W p l e R s m args below meth c H' locs' nc' ns' Z (F0 m pc' lsA' (r.toList.map (xi_v ad')))) →
    W p l e R s m args below meth c H locs nc ns Z (F0 m pc lsA (st.map (xi_v ad)))
end
section
/-! XI: the machine keeps each step -/
section XIS
variable {T : List Cond} {cl : List vw_C} {zs : xiZ} {tf : Nat → Nat → FieldType} {l : Launch} {G : xiG}
theorem xi_tgt_eq {pc : Nat} {off : Int} {tgt : Nat} (h : xi_tgt pc off = tgt) (hp : 0 ≤ (pc : Int) + off) : (pc : Int) + off = (tgt : Int) := by
  subst h
  unfold xi_tgt
  cases off with
  | ofNat k => simp
  | negSucc k => simp only; omega
theorem xi_sw_at {K : Nat → Prop} {pc : Nat} {x : Int32} : ∀ (offs : List Int) (k : Int), xi_sw K pc x k offs → ∀ (n : Nat) (off : Int), offs[n]? = some off → x.toInt = k + n → K (xi_tgt pc off)
  | [], _, _, n, off, h, _ => by cases h
  | o :: t, k, hs, n, off, h, hx => by
    cases n with
    | zero => cases h; exact hs.1 (by simpa using hx)
    | succ n => exact xi_sw_at t (k + 1) hs.2 n off h (by rw [hx]; simp; omega)
theorem xi_fits {k : Nat} {ty : FieldType} (h : xi_kt k ty = true) : (k = 0 ∧ ty = .int) ∨ (k = 1 ∧ ty = .boolean) ∨ (k = 2 ∧ ty = .long) ∨ (k = 3 ∧ ((∃ n, ty = .object n) ∨ ∃ t, ty = .array t)) := by
  unfold xi_kt at h
  split at h
  · exact Or.inl ⟨rfl, rfl⟩
  · exact Or.inr (Or.inl ⟨rfl, rfl⟩)
  · exact Or.inr (Or.inr (Or.inl ⟨rfl, rfl⟩))
  · exact Or.inr (Or.inr (Or.inr ⟨rfl, Or.inl ⟨_, rfl⟩⟩))
  · exact Or.inr (Or.inr (Or.inr ⟨rfl, Or.inr ⟨_, rfl⟩⟩))
  · cases h
theorem xi_bool {v : Int32} (h : v = 0 ∨ v = 1) : narrow .boolean (.int v) = .int v ∧ fits .boolean (.int v) = true := by
  rcases h with rfl | rfl <;> exact ⟨by decide, by decide⟩
theorem xi_getD {fk : List (List Nat)} {ad : Nat → Nat} {σ : xiS} {o ci j : Nat} (h : j < (fk.getD ci []).length) : ((List.range (fk.getD ci []).length).map (fun k => xi_v ad (xi_fld fk σ o ci k)))[j]? = some (xi_v ad (xi_fld fk σ o ci j)) := by
  rw [List.getElem?_map, List.getElem?_range h]
  rfl
theorem xi_K1 {D : va_G} {s : State} {cA : ClassId} {ty : FieldType} (h : ∀ (c : Nat) (q : vw_C), cl[c]? = some q → u_Kn s q.1 q.2.1 q.2.2 (D.1 c) (D.2 c)) (h2 : ArrOfT s cA ty ∧ va_RA s cA ty) : va_K D cl [(cA, ty)] s := by
  refine ⟨h, fun k q hq => ?_⟩
  cases k with
  | zero => cases hq; exact h2
  | succ k => cases hq
theorem xi_K0 {D : va_G} {s : State} (h : ∀ (c : Nat) (q : vw_C), cl[c]? = some q → u_Kn s q.1 q.2.1 q.2.2 (D.1 c) (D.2 c)) : va_K D cl [] s := ⟨h, fun k q hq => by cases hq⟩
theorem xi_upd {f : Nat → Nat → Int32} {a k : Nat} {x : Int32} : (xi_u f a k x) a = upd (f a) k x := by
  funext b
  simp [xi_u, upd]
theorem xi_updL {f : Nat → Nat → Int64} {a k : Nat} {x : Int64} : (xi_u f a k x) a = vp_updL (f a) k x := by
  funext b
  simp [xi_u, vp_updL]
theorem xi_une {α : Type} {f : Nat → Nat → α} {a b k : Nat} {x : α} (h : b ≠ a) : (xi_u f a k x) b = f b := by
  funext c
  simp [xi_u, h]
theorem xi_zne {α : Type} {f : Nat → Nat → α} {a b : Nat} {x : α} (h : b ≠ a) : (xi_z f a x) b = f b := by
  funext c
  simp [xi_z, h]
theorem xi_zeq {α : Type} {f : Nat → Nat → α} {a : Nat} {x : α} : (xi_z f a x) a = fun _ => x := by
  funext c
  simp [xi_z]
/-- the straight rows: no cell is touched -/
theorem xi_keep {X' : xiX} (hX' : ∀ μ pc ls st σ nc ns Q, X' μ pc ls st σ nc ns Q → xi_OK T cl zs l G μ pc ls st σ nc ns Q) {μ : Nat} {σ : xiS} {nc ns : Nat} {Q : xiQ} {md : xiM} (hmd : G.1[μ]? = some md) {p : Program} {e : Env} {s : State} {m : MethodId} {args : Array Value} {below : List Frame} {meth : Method} {c : Code} {R : Room} {Z : State → Prop} {D : va_G} {A : Nat → Prop} {ad : Nat → Nat} {ca : Nat → ClassId} {H : Heap} {locs : List Loc}
    (hC : xi_C T cl G D p s m args meth c R md A) (hO : xi_O zs G A ad s s.heap) (hR : xi_R cl G D s A ad ca σ H locs)
    (hret : ∀ (r : Option Value) (σ' : xiS) (ad' : Nat → Nat) (ca' : Nat → ClassId) (H' : Heap) (locs' : List Loc) (nc' ns' pc' : Nat) (lsA' : Array Slot), Q r σ' → xi_R cl G D s A ad' ca' σ' H' locs' → xi_A σ ad σ' ad' → nc' ≤ md.2.2.1.2.2.1 → ns' ≤ md.2.2.1.2.2.2 → xi_ret md pc' r →
      W p l e R s m args below meth c H' locs' nc' ns' Z (F0 m pc' lsA' (r.toList.map (xi_v ad'))))
    (pc : Nat) (ls : List (Option Value)) (st : List Value) (h : X' μ pc ls st σ nc ns Q) (lsA : Array Slot) (hl : lv_has lsA md.2.1.1 (xi_l ad ls)) : W p l e R s m args below meth c H locs nc ns Z (F0 m pc lsA (st.map (xi_v ad))) :=
  hX' μ pc ls st σ nc ns Q h md hmd p e s m args below meth c R Z D A ad ca H locs lsA hC hO hR hl hret
end XIS
end
section
section XIS2
variable {T : List Cond} {cl : List vw_C} {zs : xiZ} {tf : Nat → Nat → FieldType} {l : Launch} {G : xiG}
theorem xi_s_iconst {X' : xiX} (hX' : ∀ μ pc ls st σ nc ns Q, X' μ pc ls st σ nc ns Q → xi_OK T cl zs l G μ pc ls st σ nc ns Q) {μ pc : Nat} {ls : List (Option Value)} {st : List Value} {σ : xiS} {nc ns : Nat} {Q : xiQ} {md : xiM} (hmd : G.1[μ]? = some md) {p : Program} {e : Env} {s : State} {m : MethodId} {args : Array Value} {below : List Frame} {meth : Method} {c : Code} {R : Room} {Z : State → Prop} {D : va_G} {A : Nat → Prop} {ad : Nat → Nat} {ca : Nat → ClassId} {H : Heap} {locs : List Loc} {lsA : Array Slot}
    (hC : xi_C T cl G D p s m args meth c R md A) (hO : xi_O zs G A ad s s.heap) (hR : xi_R cl G D s A ad ca σ H locs) (hl : lv_has lsA md.2.1.1 (xi_l ad ls))
    (hret : ∀ (r : Option Value) (σ' : xiS) (ad' : Nat → Nat) (ca' : Nat → ClassId) (H' : Heap) (locs' : List Loc) (nc' ns' pc' : Nat) (lsA' : Array Slot), Q r σ' → xi_R cl G D s A ad' ca' σ' H' locs' → xi_A σ ad σ' ad' → nc' ≤ md.2.2.1.2.2.1 → ns' ≤ md.2.2.1.2.2.2 → xi_ret md pc' r →
      W p l e R s m args below meth c H' locs' nc' ns' Z (F0 m pc' lsA' (r.toList.map (xi_v ad'))))
    {n : Int} (hd : decode md.1.2.2 pc = .ok (.iconst n, 1)) (h : X' μ (pc + 1) ls (.int (Int32.ofInt n) :: st) σ nc ns Q) : W p l e R s m args below meth c H locs nc ns Z (F0 m pc lsA (st.map (xi_v ad))) := by
  obtain ⟨hx, hb, hml, hown, hts, hA, hKc, hfr, hlo, hce, hsl, hin⟩ := id hC
  exact lv_iconst hx hb hd rfl (xi_keep hX' hmd hC hO hR hret _ _ _ h _ hl)
theorem xi_s_bipush {X' : xiX} (hX' : ∀ μ pc ls st σ nc ns Q, X' μ pc ls st σ nc ns Q → xi_OK T cl zs l G μ pc ls st σ nc ns Q) {μ pc : Nat} {ls : List (Option Value)} {st : List Value} {σ : xiS} {nc ns : Nat} {Q : xiQ} {md : xiM} (hmd : G.1[μ]? = some md) {p : Program} {e : Env} {s : State} {m : MethodId} {args : Array Value} {below : List Frame} {meth : Method} {c : Code} {R : Room} {Z : State → Prop} {D : va_G} {A : Nat → Prop} {ad : Nat → Nat} {ca : Nat → ClassId} {H : Heap} {locs : List Loc} {lsA : Array Slot}
    (hC : xi_C T cl G D p s m args meth c R md A) (hO : xi_O zs G A ad s s.heap) (hR : xi_R cl G D s A ad ca σ H locs) (hl : lv_has lsA md.2.1.1 (xi_l ad ls))
    (hret : ∀ (r : Option Value) (σ' : xiS) (ad' : Nat → Nat) (ca' : Nat → ClassId) (H' : Heap) (locs' : List Loc) (nc' ns' pc' : Nat) (lsA' : Array Slot), Q r σ' → xi_R cl G D s A ad' ca' σ' H' locs' → xi_A σ ad σ' ad' → nc' ≤ md.2.2.1.2.2.1 → ns' ≤ md.2.2.1.2.2.2 → xi_ret md pc' r →
      W p l e R s m args below meth c H' locs' nc' ns' Z (F0 m pc' lsA' (r.toList.map (xi_v ad'))))
    {n : Int} (hd : decode md.1.2.2 pc = .ok (.bipush n, 2)) (h : X' μ (pc + 2) ls (.int (Int8.ofInt n).toInt32 :: st) σ nc ns Q) : W p l e R s m args below meth c H locs nc ns Z (F0 m pc lsA (st.map (xi_v ad))) := by
  obtain ⟨hx, hb, hml, hown, hts, hA, hKc, hfr, hlo, hce, hsl, hin⟩ := id hC
  exact lv_bipush hx hb hd rfl (xi_keep hX' hmd hC hO hR hret _ _ _ h _ hl)
theorem xi_s_sipush {X' : xiX} (hX' : ∀ μ pc ls st σ nc ns Q, X' μ pc ls st σ nc ns Q → xi_OK T cl zs l G μ pc ls st σ nc ns Q) {μ pc : Nat} {ls : List (Option Value)} {st : List Value} {σ : xiS} {nc ns : Nat} {Q : xiQ} {md : xiM} (hmd : G.1[μ]? = some md) {p : Program} {e : Env} {s : State} {m : MethodId} {args : Array Value} {below : List Frame} {meth : Method} {c : Code} {R : Room} {Z : State → Prop} {D : va_G} {A : Nat → Prop} {ad : Nat → Nat} {ca : Nat → ClassId} {H : Heap} {locs : List Loc} {lsA : Array Slot}
    (hC : xi_C T cl G D p s m args meth c R md A) (hO : xi_O zs G A ad s s.heap) (hR : xi_R cl G D s A ad ca σ H locs) (hl : lv_has lsA md.2.1.1 (xi_l ad ls))
    (hret : ∀ (r : Option Value) (σ' : xiS) (ad' : Nat → Nat) (ca' : Nat → ClassId) (H' : Heap) (locs' : List Loc) (nc' ns' pc' : Nat) (lsA' : Array Slot), Q r σ' → xi_R cl G D s A ad' ca' σ' H' locs' → xi_A σ ad σ' ad' → nc' ≤ md.2.2.1.2.2.1 → ns' ≤ md.2.2.1.2.2.2 → xi_ret md pc' r →
      W p l e R s m args below meth c H' locs' nc' ns' Z (F0 m pc' lsA' (r.toList.map (xi_v ad'))))
    {n : Int} (hd : decode md.1.2.2 pc = .ok (.sipush n, 3)) (h : X' μ (pc + 3) ls (.int (Int16.ofInt n).toInt32 :: st) σ nc ns Q) : W p l e R s m args below meth c H locs nc ns Z (F0 m pc lsA (st.map (xi_v ad))) := by
  obtain ⟨hx, hb, hml, hown, hts, hA, hKc, hfr, hlo, hce, hsl, hin⟩ := id hC
  exact lv_sipush hx hb hd rfl (xi_keep hX' hmd hC hO hR hret _ _ _ h _ hl)
theorem xi_s_lconst {X' : xiX} (hX' : ∀ μ pc ls st σ nc ns Q, X' μ pc ls st σ nc ns Q → xi_OK T cl zs l G μ pc ls st σ nc ns Q) {μ pc : Nat} {ls : List (Option Value)} {st : List Value} {σ : xiS} {nc ns : Nat} {Q : xiQ} {md : xiM} (hmd : G.1[μ]? = some md) {p : Program} {e : Env} {s : State} {m : MethodId} {args : Array Value} {below : List Frame} {meth : Method} {c : Code} {R : Room} {Z : State → Prop} {D : va_G} {A : Nat → Prop} {ad : Nat → Nat} {ca : Nat → ClassId} {H : Heap} {locs : List Loc} {lsA : Array Slot}
    (hC : xi_C T cl G D p s m args meth c R md A) (hO : xi_O zs G A ad s s.heap) (hR : xi_R cl G D s A ad ca σ H locs) (hl : lv_has lsA md.2.1.1 (xi_l ad ls))
    (hret : ∀ (r : Option Value) (σ' : xiS) (ad' : Nat → Nat) (ca' : Nat → ClassId) (H' : Heap) (locs' : List Loc) (nc' ns' pc' : Nat) (lsA' : Array Slot), Q r σ' → xi_R cl G D s A ad' ca' σ' H' locs' → xi_A σ ad σ' ad' → nc' ≤ md.2.2.1.2.2.1 → ns' ≤ md.2.2.1.2.2.2 → xi_ret md pc' r →
      W p l e R s m args below meth c H' locs' nc' ns' Z (F0 m pc' lsA' (r.toList.map (xi_v ad'))))
    {n : Fin 2} (hd : decode md.1.2.2 pc = .ok (.lconst n, 1)) (h : X' μ (pc + 1) ls (.long (Int64.ofNat (n : Nat)) :: st) σ nc ns Q) : W p l e R s m args below meth c H locs nc ns Z (F0 m pc lsA (st.map (xi_v ad))) := by
  obtain ⟨hx, hb, hml, hown, hts, hA, hKc, hfr, hlo, hce, hsl, hin⟩ := id hC
  exact lv_lconst hx hb hd rfl (xi_keep hX' hmd hC hO hR hret _ _ _ h _ hl)
theorem xi_s_ldc {X' : xiX} (hX' : ∀ μ pc ls st σ nc ns Q, X' μ pc ls st σ nc ns Q → xi_OK T cl zs l G μ pc ls st σ nc ns Q) {μ pc : Nat} {ls : List (Option Value)} {st : List Value} {σ : xiS} {nc ns : Nat} {Q : xiQ} {md : xiM} (hmd : G.1[μ]? = some md) {p : Program} {e : Env} {s : State} {m : MethodId} {args : Array Value} {below : List Frame} {meth : Method} {c : Code} {R : Room} {Z : State → Prop} {D : va_G} {A : Nat → Prop} {ad : Nat → Nat} {ca : Nat → ClassId} {H : Heap} {locs : List Loc} {lsA : Array Slot}
    (hC : xi_C T cl G D p s m args meth c R md A) (hO : xi_O zs G A ad s s.heap) (hR : xi_R cl G D s A ad ca σ H locs) (hl : lv_has lsA md.2.1.1 (xi_l ad ls))
    (hret : ∀ (r : Option Value) (σ' : xiS) (ad' : Nat → Nat) (ca' : Nat → ClassId) (H' : Heap) (locs' : List Loc) (nc' ns' pc' : Nat) (lsA' : Array Slot), Q r σ' → xi_R cl G D s A ad' ca' σ' H' locs' → xi_A σ ad σ' ad' → nc' ≤ md.2.2.1.2.2.1 → ns' ≤ md.2.2.1.2.2.2 → xi_ret md pc' r →
      W p l e R s m args below meth c H' locs' nc' ns' Z (F0 m pc' lsA' (r.toList.map (xi_v ad'))))
    {i : Nat} {x : Int32} (hd : decode md.1.2.2 pc = .ok (.ldc i, 2)) (hw : Cond.constant md.1.2.1.cls i x ∈ T) (h : X' μ (pc + 2) ls (.int x :: st) σ nc ns Q) : W p l e R s m args below meth c H locs nc ns Z (F0 m pc lsA (st.map (xi_v ad))) := by
  obtain ⟨hx, hb, hml, hown, hts, hA, hKc, hfr, hlo, hce, hsl, hin⟩ := id hC
  exact lv_ldc hx hb hown (hts _ hw) hd (xi_keep hX' hmd hC hO hR hret _ _ _ h _ hl)
theorem xi_s_ldcw {X' : xiX} (hX' : ∀ μ pc ls st σ nc ns Q, X' μ pc ls st σ nc ns Q → xi_OK T cl zs l G μ pc ls st σ nc ns Q) {μ pc : Nat} {ls : List (Option Value)} {st : List Value} {σ : xiS} {nc ns : Nat} {Q : xiQ} {md : xiM} (hmd : G.1[μ]? = some md) {p : Program} {e : Env} {s : State} {m : MethodId} {args : Array Value} {below : List Frame} {meth : Method} {c : Code} {R : Room} {Z : State → Prop} {D : va_G} {A : Nat → Prop} {ad : Nat → Nat} {ca : Nat → ClassId} {H : Heap} {locs : List Loc} {lsA : Array Slot}
    (hC : xi_C T cl G D p s m args meth c R md A) (hO : xi_O zs G A ad s s.heap) (hR : xi_R cl G D s A ad ca σ H locs) (hl : lv_has lsA md.2.1.1 (xi_l ad ls))
    (hret : ∀ (r : Option Value) (σ' : xiS) (ad' : Nat → Nat) (ca' : Nat → ClassId) (H' : Heap) (locs' : List Loc) (nc' ns' pc' : Nat) (lsA' : Array Slot), Q r σ' → xi_R cl G D s A ad' ca' σ' H' locs' → xi_A σ ad σ' ad' → nc' ≤ md.2.2.1.2.2.1 → ns' ≤ md.2.2.1.2.2.2 → xi_ret md pc' r →
      W p l e R s m args below meth c H' locs' nc' ns' Z (F0 m pc' lsA' (r.toList.map (xi_v ad'))))
    {i : Nat} {x : Int32} (hd : decode md.1.2.2 pc = .ok (.ldc_w i, 3)) (hw : Cond.constant md.1.2.1.cls i x ∈ T) (h : X' μ (pc + 3) ls (.int x :: st) σ nc ns Q) : W p l e R s m args below meth c H locs nc ns Z (F0 m pc lsA (st.map (xi_v ad))) := by
  obtain ⟨hx, hb, hml, hown, hts, hA, hKc, hfr, hlo, hce, hsl, hin⟩ := id hC
  exact lv_ldcw hx hb hown (hts _ hw) hd (xi_keep hX' hmd hC hO hR hret _ _ _ h _ hl)
theorem xi_s_ldc2 {X' : xiX} (hX' : ∀ μ pc ls st σ nc ns Q, X' μ pc ls st σ nc ns Q → xi_OK T cl zs l G μ pc ls st σ nc ns Q) {μ pc : Nat} {ls : List (Option Value)} {st : List Value} {σ : xiS} {nc ns : Nat} {Q : xiQ} {md : xiM} (hmd : G.1[μ]? = some md) {p : Program} {e : Env} {s : State} {m : MethodId} {args : Array Value} {below : List Frame} {meth : Method} {c : Code} {R : Room} {Z : State → Prop} {D : va_G} {A : Nat → Prop} {ad : Nat → Nat} {ca : Nat → ClassId} {H : Heap} {locs : List Loc} {lsA : Array Slot}
    (hC : xi_C T cl G D p s m args meth c R md A) (hO : xi_O zs G A ad s s.heap) (hR : xi_R cl G D s A ad ca σ H locs) (hl : lv_has lsA md.2.1.1 (xi_l ad ls))
    (hret : ∀ (r : Option Value) (σ' : xiS) (ad' : Nat → Nat) (ca' : Nat → ClassId) (H' : Heap) (locs' : List Loc) (nc' ns' pc' : Nat) (lsA' : Array Slot), Q r σ' → xi_R cl G D s A ad' ca' σ' H' locs' → xi_A σ ad σ' ad' → nc' ≤ md.2.2.1.2.2.1 → ns' ≤ md.2.2.1.2.2.2 → xi_ret md pc' r →
      W p l e R s m args below meth c H' locs' nc' ns' Z (F0 m pc' lsA' (r.toList.map (xi_v ad'))))
    {i : Nat} {x : Int64} (hd : decode md.1.2.2 pc = .ok (.ldc2_w i, 3)) (hw : Cond.constantLong md.1.2.1.cls i x ∈ T) (h : X' μ (pc + 3) ls (.long x :: st) σ nc ns Q) : W p l e R s m args below meth c H locs nc ns Z (F0 m pc lsA (st.map (xi_v ad))) := by
  obtain ⟨hx, hb, hml, hown, hts, hA, hKc, hfr, hlo, hce, hsl, hin⟩ := id hC
  exact lv_ldc2 hx hb hown (hts _ hw) hd (xi_keep hX' hmd hC hO hR hret _ _ _ h _ hl)
theorem xi_s_iload_n {X' : xiX} (hX' : ∀ μ pc ls st σ nc ns Q, X' μ pc ls st σ nc ns Q → xi_OK T cl zs l G μ pc ls st σ nc ns Q) {μ pc : Nat} {ls : List (Option Value)} {st : List Value} {σ : xiS} {nc ns : Nat} {Q : xiQ} {md : xiM} (hmd : G.1[μ]? = some md) {p : Program} {e : Env} {s : State} {m : MethodId} {args : Array Value} {below : List Frame} {meth : Method} {c : Code} {R : Room} {Z : State → Prop} {D : va_G} {A : Nat → Prop} {ad : Nat → Nat} {ca : Nat → ClassId} {H : Heap} {locs : List Loc} {lsA : Array Slot}
    (hC : xi_C T cl G D p s m args meth c R md A) (hO : xi_O zs G A ad s s.heap) (hR : xi_R cl G D s A ad ca σ H locs) (hl : lv_has lsA md.2.1.1 (xi_l ad ls))
    (hret : ∀ (r : Option Value) (σ' : xiS) (ad' : Nat → Nat) (ca' : Nat → ClassId) (H' : Heap) (locs' : List Loc) (nc' ns' pc' : Nat) (lsA' : Array Slot), Q r σ' → xi_R cl G D s A ad' ca' σ' H' locs' → xi_A σ ad σ' ad' → nc' ≤ md.2.2.1.2.2.1 → ns' ≤ md.2.2.1.2.2.2 → xi_ret md pc' r →
      W p l e R s m args below meth c H' locs' nc' ns' Z (F0 m pc' lsA' (r.toList.map (xi_v ad'))))
    {k : Fin 4} (hd : decode md.1.2.2 pc = .ok (.iload_n k, 1)) (h : xi_ld (fun v => match v with | .int x => X' μ (pc + 1) ls (.int x :: st) σ nc ns Q | _ => False) ls (k : Nat)) : W p l e R s m args below meth c H locs nc ns Z (F0 m pc lsA (st.map (xi_v ad))) := by
  obtain ⟨hx, hb, hml, hown, hts, hA, hKc, hfr, hlo, hce, hsl, hin⟩ := id hC
  obtain ⟨v, hv, h⟩ := xi_ld_of h
  split at h
  · exact lv_iload_n hx hb hd rfl (xi_at hl hv) (xi_keep hX' hmd hC hO hR hret _ _ _ h _ hl)
  · exact h.elim
theorem xi_s_iload {X' : xiX} (hX' : ∀ μ pc ls st σ nc ns Q, X' μ pc ls st σ nc ns Q → xi_OK T cl zs l G μ pc ls st σ nc ns Q) {μ pc : Nat} {ls : List (Option Value)} {st : List Value} {σ : xiS} {nc ns : Nat} {Q : xiQ} {md : xiM} (hmd : G.1[μ]? = some md) {p : Program} {e : Env} {s : State} {m : MethodId} {args : Array Value} {below : List Frame} {meth : Method} {c : Code} {R : Room} {Z : State → Prop} {D : va_G} {A : Nat → Prop} {ad : Nat → Nat} {ca : Nat → ClassId} {H : Heap} {locs : List Loc} {lsA : Array Slot}
    (hC : xi_C T cl G D p s m args meth c R md A) (hO : xi_O zs G A ad s s.heap) (hR : xi_R cl G D s A ad ca σ H locs) (hl : lv_has lsA md.2.1.1 (xi_l ad ls))
    (hret : ∀ (r : Option Value) (σ' : xiS) (ad' : Nat → Nat) (ca' : Nat → ClassId) (H' : Heap) (locs' : List Loc) (nc' ns' pc' : Nat) (lsA' : Array Slot), Q r σ' → xi_R cl G D s A ad' ca' σ' H' locs' → xi_A σ ad σ' ad' → nc' ≤ md.2.2.1.2.2.1 → ns' ≤ md.2.2.1.2.2.2 → xi_ret md pc' r →
      W p l e R s m args below meth c H' locs' nc' ns' Z (F0 m pc' lsA' (r.toList.map (xi_v ad'))))
    {k : Nat} (hd : decode md.1.2.2 pc = .ok (.iload k, 2)) (h : xi_ld (fun v => match v with | .int x => X' μ (pc + 2) ls (.int x :: st) σ nc ns Q | _ => False) ls k) : W p l e R s m args below meth c H locs nc ns Z (F0 m pc lsA (st.map (xi_v ad))) := by
  obtain ⟨hx, hb, hml, hown, hts, hA, hKc, hfr, hlo, hce, hsl, hin⟩ := id hC
  obtain ⟨v, hv, h⟩ := xi_ld_of h
  split at h
  · exact lv_iload hx hb hd (xi_at hl hv) (xi_keep hX' hmd hC hO hR hret _ _ _ h _ hl)
  · exact h.elim
theorem xi_s_lload_n {X' : xiX} (hX' : ∀ μ pc ls st σ nc ns Q, X' μ pc ls st σ nc ns Q → xi_OK T cl zs l G μ pc ls st σ nc ns Q) {μ pc : Nat} {ls : List (Option Value)} {st : List Value} {σ : xiS} {nc ns : Nat} {Q : xiQ} {md : xiM} (hmd : G.1[μ]? = some md) {p : Program} {e : Env} {s : State} {m : MethodId} {args : Array Value} {below : List Frame} {meth : Method} {c : Code} {R : Room} {Z : State → Prop} {D : va_G} {A : Nat → Prop} {ad : Nat → Nat} {ca : Nat → ClassId} {H : Heap} {locs : List Loc} {lsA : Array Slot}
    (hC : xi_C T cl G D p s m args meth c R md A) (hO : xi_O zs G A ad s s.heap) (hR : xi_R cl G D s A ad ca σ H locs) (hl : lv_has lsA md.2.1.1 (xi_l ad ls))
    (hret : ∀ (r : Option Value) (σ' : xiS) (ad' : Nat → Nat) (ca' : Nat → ClassId) (H' : Heap) (locs' : List Loc) (nc' ns' pc' : Nat) (lsA' : Array Slot), Q r σ' → xi_R cl G D s A ad' ca' σ' H' locs' → xi_A σ ad σ' ad' → nc' ≤ md.2.2.1.2.2.1 → ns' ≤ md.2.2.1.2.2.2 → xi_ret md pc' r →
      W p l e R s m args below meth c H' locs' nc' ns' Z (F0 m pc' lsA' (r.toList.map (xi_v ad'))))
    {k : Fin 4} (hd : decode md.1.2.2 pc = .ok (.lload_n k, 1)) (h : xi_ld (fun v => match v with | .long x => X' μ (pc + 1) ls (.long x :: st) σ nc ns Q | _ => False) ls (k : Nat)) : W p l e R s m args below meth c H locs nc ns Z (F0 m pc lsA (st.map (xi_v ad))) := by
  obtain ⟨hx, hb, hml, hown, hts, hA, hKc, hfr, hlo, hce, hsl, hin⟩ := id hC
  obtain ⟨v, hv, h⟩ := xi_ld_of h
  split at h
  · exact lv_lload_n hx hb hd rfl (xi_at hl hv) (xi_keep hX' hmd hC hO hR hret _ _ _ h _ hl)
  · exact h.elim
theorem xi_s_lload {X' : xiX} (hX' : ∀ μ pc ls st σ nc ns Q, X' μ pc ls st σ nc ns Q → xi_OK T cl zs l G μ pc ls st σ nc ns Q) {μ pc : Nat} {ls : List (Option Value)} {st : List Value} {σ : xiS} {nc ns : Nat} {Q : xiQ} {md : xiM} (hmd : G.1[μ]? = some md) {p : Program} {e : Env} {s : State} {m : MethodId} {args : Array Value} {below : List Frame} {meth : Method} {c : Code} {R : Room} {Z : State → Prop} {D : va_G} {A : Nat → Prop} {ad : Nat → Nat} {ca : Nat → ClassId} {H : Heap} {locs : List Loc} {lsA : Array Slot}
    (hC : xi_C T cl G D p s m args meth c R md A) (hO : xi_O zs G A ad s s.heap) (hR : xi_R cl G D s A ad ca σ H locs) (hl : lv_has lsA md.2.1.1 (xi_l ad ls))
    (hret : ∀ (r : Option Value) (σ' : xiS) (ad' : Nat → Nat) (ca' : Nat → ClassId) (H' : Heap) (locs' : List Loc) (nc' ns' pc' : Nat) (lsA' : Array Slot), Q r σ' → xi_R cl G D s A ad' ca' σ' H' locs' → xi_A σ ad σ' ad' → nc' ≤ md.2.2.1.2.2.1 → ns' ≤ md.2.2.1.2.2.2 → xi_ret md pc' r →
      W p l e R s m args below meth c H' locs' nc' ns' Z (F0 m pc' lsA' (r.toList.map (xi_v ad'))))
    {k : Nat} (hd : decode md.1.2.2 pc = .ok (.lload k, 2)) (h : xi_ld (fun v => match v with | .long x => X' μ (pc + 2) ls (.long x :: st) σ nc ns Q | _ => False) ls k) : W p l e R s m args below meth c H locs nc ns Z (F0 m pc lsA (st.map (xi_v ad))) := by
  obtain ⟨hx, hb, hml, hown, hts, hA, hKc, hfr, hlo, hce, hsl, hin⟩ := id hC
  obtain ⟨v, hv, h⟩ := xi_ld_of h
  split at h
  · exact lv_lload hx hb hd (xi_at hl hv) (xi_keep hX' hmd hC hO hR hret _ _ _ h _ hl)
  · exact h.elim
theorem xi_s_aload_n {X' : xiX} (hX' : ∀ μ pc ls st σ nc ns Q, X' μ pc ls st σ nc ns Q → xi_OK T cl zs l G μ pc ls st σ nc ns Q) {μ pc : Nat} {ls : List (Option Value)} {st : List Value} {σ : xiS} {nc ns : Nat} {Q : xiQ} {md : xiM} (hmd : G.1[μ]? = some md) {p : Program} {e : Env} {s : State} {m : MethodId} {args : Array Value} {below : List Frame} {meth : Method} {c : Code} {R : Room} {Z : State → Prop} {D : va_G} {A : Nat → Prop} {ad : Nat → Nat} {ca : Nat → ClassId} {H : Heap} {locs : List Loc} {lsA : Array Slot}
    (hC : xi_C T cl G D p s m args meth c R md A) (hO : xi_O zs G A ad s s.heap) (hR : xi_R cl G D s A ad ca σ H locs) (hl : lv_has lsA md.2.1.1 (xi_l ad ls))
    (hret : ∀ (r : Option Value) (σ' : xiS) (ad' : Nat → Nat) (ca' : Nat → ClassId) (H' : Heap) (locs' : List Loc) (nc' ns' pc' : Nat) (lsA' : Array Slot), Q r σ' → xi_R cl G D s A ad' ca' σ' H' locs' → xi_A σ ad σ' ad' → nc' ≤ md.2.2.1.2.2.1 → ns' ≤ md.2.2.1.2.2.2 → xi_ret md pc' r →
      W p l e R s m args below meth c H' locs' nc' ns' Z (F0 m pc' lsA' (r.toList.map (xi_v ad'))))
    {k : Fin 4} (hd : decode md.1.2.2 pc = .ok (.aload_n k, 1)) (h : xi_ld (fun v => match v with | .ref x => X' μ (pc + 1) ls (.ref x :: st) σ nc ns Q | _ => False) ls (k : Nat)) : W p l e R s m args below meth c H locs nc ns Z (F0 m pc lsA (st.map (xi_v ad))) := by
  obtain ⟨hx, hb, hml, hown, hts, hA, hKc, hfr, hlo, hce, hsl, hin⟩ := id hC
  obtain ⟨v, hv, h⟩ := xi_ld_of h
  split at h
  · exact lv_aload_n hx hb hd rfl (xi_at hl hv) (xi_keep hX' hmd hC hO hR hret _ _ _ h _ hl)
  · exact h.elim
theorem xi_s_aload {X' : xiX} (hX' : ∀ μ pc ls st σ nc ns Q, X' μ pc ls st σ nc ns Q → xi_OK T cl zs l G μ pc ls st σ nc ns Q) {μ pc : Nat} {ls : List (Option Value)} {st : List Value} {σ : xiS} {nc ns : Nat} {Q : xiQ} {md : xiM} (hmd : G.1[μ]? = some md) {p : Program} {e : Env} {s : State} {m : MethodId} {args : Array Value} {below : List Frame} {meth : Method} {c : Code} {R : Room} {Z : State → Prop} {D : va_G} {A : Nat → Prop} {ad : Nat → Nat} {ca : Nat → ClassId} {H : Heap} {locs : List Loc} {lsA : Array Slot}
    (hC : xi_C T cl G D p s m args meth c R md A) (hO : xi_O zs G A ad s s.heap) (hR : xi_R cl G D s A ad ca σ H locs) (hl : lv_has lsA md.2.1.1 (xi_l ad ls))
    (hret : ∀ (r : Option Value) (σ' : xiS) (ad' : Nat → Nat) (ca' : Nat → ClassId) (H' : Heap) (locs' : List Loc) (nc' ns' pc' : Nat) (lsA' : Array Slot), Q r σ' → xi_R cl G D s A ad' ca' σ' H' locs' → xi_A σ ad σ' ad' → nc' ≤ md.2.2.1.2.2.1 → ns' ≤ md.2.2.1.2.2.2 → xi_ret md pc' r →
      W p l e R s m args below meth c H' locs' nc' ns' Z (F0 m pc' lsA' (r.toList.map (xi_v ad'))))
    {k : Nat} (hd : decode md.1.2.2 pc = .ok (.aload k, 2)) (h : xi_ld (fun v => match v with | .ref x => X' μ (pc + 2) ls (.ref x :: st) σ nc ns Q | _ => False) ls k) : W p l e R s m args below meth c H locs nc ns Z (F0 m pc lsA (st.map (xi_v ad))) := by
  obtain ⟨hx, hb, hml, hown, hts, hA, hKc, hfr, hlo, hce, hsl, hin⟩ := id hC
  obtain ⟨v, hv, h⟩ := xi_ld_of h
  split at h
  · exact lv_aload hx hb hd (xi_at hl hv) (xi_keep hX' hmd hC hO hR hret _ _ _ h _ hl)
  · exact h.elim
theorem xi_s_istore_n {X' : xiX} (hX' : ∀ μ pc ls st σ nc ns Q, X' μ pc ls st σ nc ns Q → xi_OK T cl zs l G μ pc ls st σ nc ns Q) {μ pc : Nat} {ls : List (Option Value)} {st : List Value} {σ : xiS} {nc ns : Nat} {Q : xiQ} {md : xiM} (hmd : G.1[μ]? = some md) {p : Program} {e : Env} {s : State} {m : MethodId} {args : Array Value} {below : List Frame} {meth : Method} {c : Code} {R : Room} {Z : State → Prop} {D : va_G} {A : Nat → Prop} {ad : Nat → Nat} {ca : Nat → ClassId} {H : Heap} {locs : List Loc} {lsA : Array Slot}
    (hC : xi_C T cl G D p s m args meth c R md A) (hO : xi_O zs G A ad s s.heap) (hR : xi_R cl G D s A ad ca σ H locs) (hl : lv_has lsA md.2.1.1 (xi_l ad ls))
    (hret : ∀ (r : Option Value) (σ' : xiS) (ad' : Nat → Nat) (ca' : Nat → ClassId) (H' : Heap) (locs' : List Loc) (nc' ns' pc' : Nat) (lsA' : Array Slot), Q r σ' → xi_R cl G D s A ad' ca' σ' H' locs' → xi_A σ ad σ' ad' → nc' ≤ md.2.2.1.2.2.1 → ns' ≤ md.2.2.1.2.2.2 → xi_ret md pc' r →
      W p l e R s m args below meth c H' locs' nc' ns' Z (F0 m pc' lsA' (r.toList.map (xi_v ad'))))
    {k : Fin 4} (hd : decode md.1.2.2 pc = .ok (.istore_n k, 1)) (h : xi_I1 (fun x t => xi_b (Nat.blt ((k : Nat)) md.2.1.1) (X' μ (pc + 1) (xi_s1 ls (k : Nat) (.int x)) t σ nc ns Q)) st) : W p l e R s m args below meth c H locs nc ns Z (F0 m pc lsA (st.map (xi_v ad))) := by
  obtain ⟨hx, hb, hml, hown, hts, hA, hKc, hfr, hlo, hce, hsl, hin⟩ := id hC
  obtain ⟨x, t, rfl, h⟩ := xi_I1_of h
  obtain ⟨hn, h⟩ := xi_b_of h
  exact lv_istore_n hx hb hd rfl hl (Nat.blt_eq.mp hn) rfl (fun ls2 hl2 => xi_keep hX' hmd hC hO hR hret _ _ _ h _ (xi_store1 rfl hl2))
theorem xi_s_istore {X' : xiX} (hX' : ∀ μ pc ls st σ nc ns Q, X' μ pc ls st σ nc ns Q → xi_OK T cl zs l G μ pc ls st σ nc ns Q) {μ pc : Nat} {ls : List (Option Value)} {st : List Value} {σ : xiS} {nc ns : Nat} {Q : xiQ} {md : xiM} (hmd : G.1[μ]? = some md) {p : Program} {e : Env} {s : State} {m : MethodId} {args : Array Value} {below : List Frame} {meth : Method} {c : Code} {R : Room} {Z : State → Prop} {D : va_G} {A : Nat → Prop} {ad : Nat → Nat} {ca : Nat → ClassId} {H : Heap} {locs : List Loc} {lsA : Array Slot}
    (hC : xi_C T cl G D p s m args meth c R md A) (hO : xi_O zs G A ad s s.heap) (hR : xi_R cl G D s A ad ca σ H locs) (hl : lv_has lsA md.2.1.1 (xi_l ad ls))
    (hret : ∀ (r : Option Value) (σ' : xiS) (ad' : Nat → Nat) (ca' : Nat → ClassId) (H' : Heap) (locs' : List Loc) (nc' ns' pc' : Nat) (lsA' : Array Slot), Q r σ' → xi_R cl G D s A ad' ca' σ' H' locs' → xi_A σ ad σ' ad' → nc' ≤ md.2.2.1.2.2.1 → ns' ≤ md.2.2.1.2.2.2 → xi_ret md pc' r →
      W p l e R s m args below meth c H' locs' nc' ns' Z (F0 m pc' lsA' (r.toList.map (xi_v ad'))))
    {k : Nat} (hd : decode md.1.2.2 pc = .ok (.istore k, 2)) (h : xi_I1 (fun x t => xi_b (Nat.blt (k) md.2.1.1) (X' μ (pc + 2) (xi_s1 ls k (.int x)) t σ nc ns Q)) st) : W p l e R s m args below meth c H locs nc ns Z (F0 m pc lsA (st.map (xi_v ad))) := by
  obtain ⟨hx, hb, hml, hown, hts, hA, hKc, hfr, hlo, hce, hsl, hin⟩ := id hC
  obtain ⟨x, t, rfl, h⟩ := xi_I1_of h
  obtain ⟨hn, h⟩ := xi_b_of h
  exact lv_istore hx hb hd hl (Nat.blt_eq.mp hn) rfl (fun ls2 hl2 => xi_keep hX' hmd hC hO hR hret _ _ _ h _ (xi_store1 rfl hl2))
theorem xi_s_lstore_n {X' : xiX} (hX' : ∀ μ pc ls st σ nc ns Q, X' μ pc ls st σ nc ns Q → xi_OK T cl zs l G μ pc ls st σ nc ns Q) {μ pc : Nat} {ls : List (Option Value)} {st : List Value} {σ : xiS} {nc ns : Nat} {Q : xiQ} {md : xiM} (hmd : G.1[μ]? = some md) {p : Program} {e : Env} {s : State} {m : MethodId} {args : Array Value} {below : List Frame} {meth : Method} {c : Code} {R : Room} {Z : State → Prop} {D : va_G} {A : Nat → Prop} {ad : Nat → Nat} {ca : Nat → ClassId} {H : Heap} {locs : List Loc} {lsA : Array Slot}
    (hC : xi_C T cl G D p s m args meth c R md A) (hO : xi_O zs G A ad s s.heap) (hR : xi_R cl G D s A ad ca σ H locs) (hl : lv_has lsA md.2.1.1 (xi_l ad ls))
    (hret : ∀ (r : Option Value) (σ' : xiS) (ad' : Nat → Nat) (ca' : Nat → ClassId) (H' : Heap) (locs' : List Loc) (nc' ns' pc' : Nat) (lsA' : Array Slot), Q r σ' → xi_R cl G D s A ad' ca' σ' H' locs' → xi_A σ ad σ' ad' → nc' ≤ md.2.2.1.2.2.1 → ns' ≤ md.2.2.1.2.2.2 → xi_ret md pc' r →
      W p l e R s m args below meth c H' locs' nc' ns' Z (F0 m pc' lsA' (r.toList.map (xi_v ad'))))
    {k : Fin 4} (hd : decode md.1.2.2 pc = .ok (.lstore_n k, 1)) (h : xi_L1 (fun x t => xi_b (Nat.blt ((k : Nat) + 1) md.2.1.1) (X' μ (pc + 1) (xi_s2 ls (k : Nat) (.long x)) t σ nc ns Q)) st) : W p l e R s m args below meth c H locs nc ns Z (F0 m pc lsA (st.map (xi_v ad))) := by
  obtain ⟨hx, hb, hml, hown, hts, hA, hKc, hfr, hlo, hce, hsl, hin⟩ := id hC
  obtain ⟨x, t, rfl, h⟩ := xi_L1_of h
  obtain ⟨hn, h⟩ := xi_b_of h
  exact lv_lstore_n hx hb hd rfl hl (Nat.blt_eq.mp hn) rfl (fun ls2 hl2 => xi_keep hX' hmd hC hO hR hret _ _ _ h _ (xi_store2 rfl hl2))
theorem xi_s_lstore {X' : xiX} (hX' : ∀ μ pc ls st σ nc ns Q, X' μ pc ls st σ nc ns Q → xi_OK T cl zs l G μ pc ls st σ nc ns Q) {μ pc : Nat} {ls : List (Option Value)} {st : List Value} {σ : xiS} {nc ns : Nat} {Q : xiQ} {md : xiM} (hmd : G.1[μ]? = some md) {p : Program} {e : Env} {s : State} {m : MethodId} {args : Array Value} {below : List Frame} {meth : Method} {c : Code} {R : Room} {Z : State → Prop} {D : va_G} {A : Nat → Prop} {ad : Nat → Nat} {ca : Nat → ClassId} {H : Heap} {locs : List Loc} {lsA : Array Slot}
    (hC : xi_C T cl G D p s m args meth c R md A) (hO : xi_O zs G A ad s s.heap) (hR : xi_R cl G D s A ad ca σ H locs) (hl : lv_has lsA md.2.1.1 (xi_l ad ls))
    (hret : ∀ (r : Option Value) (σ' : xiS) (ad' : Nat → Nat) (ca' : Nat → ClassId) (H' : Heap) (locs' : List Loc) (nc' ns' pc' : Nat) (lsA' : Array Slot), Q r σ' → xi_R cl G D s A ad' ca' σ' H' locs' → xi_A σ ad σ' ad' → nc' ≤ md.2.2.1.2.2.1 → ns' ≤ md.2.2.1.2.2.2 → xi_ret md pc' r →
      W p l e R s m args below meth c H' locs' nc' ns' Z (F0 m pc' lsA' (r.toList.map (xi_v ad'))))
    {k : Nat} (hd : decode md.1.2.2 pc = .ok (.lstore k, 2)) (h : xi_L1 (fun x t => xi_b (Nat.blt (k + 1) md.2.1.1) (X' μ (pc + 2) (xi_s2 ls k (.long x)) t σ nc ns Q)) st) : W p l e R s m args below meth c H locs nc ns Z (F0 m pc lsA (st.map (xi_v ad))) := by
  obtain ⟨hx, hb, hml, hown, hts, hA, hKc, hfr, hlo, hce, hsl, hin⟩ := id hC
  obtain ⟨x, t, rfl, h⟩ := xi_L1_of h
  obtain ⟨hn, h⟩ := xi_b_of h
  exact lv_lstore hx hb hd hl (Nat.blt_eq.mp hn) rfl (fun ls2 hl2 => xi_keep hX' hmd hC hO hR hret _ _ _ h _ (xi_store2 rfl hl2))
theorem xi_s_astore_n {X' : xiX} (hX' : ∀ μ pc ls st σ nc ns Q, X' μ pc ls st σ nc ns Q → xi_OK T cl zs l G μ pc ls st σ nc ns Q) {μ pc : Nat} {ls : List (Option Value)} {st : List Value} {σ : xiS} {nc ns : Nat} {Q : xiQ} {md : xiM} (hmd : G.1[μ]? = some md) {p : Program} {e : Env} {s : State} {m : MethodId} {args : Array Value} {below : List Frame} {meth : Method} {c : Code} {R : Room} {Z : State → Prop} {D : va_G} {A : Nat → Prop} {ad : Nat → Nat} {ca : Nat → ClassId} {H : Heap} {locs : List Loc} {lsA : Array Slot}
    (hC : xi_C T cl G D p s m args meth c R md A) (hO : xi_O zs G A ad s s.heap) (hR : xi_R cl G D s A ad ca σ H locs) (hl : lv_has lsA md.2.1.1 (xi_l ad ls))
    (hret : ∀ (r : Option Value) (σ' : xiS) (ad' : Nat → Nat) (ca' : Nat → ClassId) (H' : Heap) (locs' : List Loc) (nc' ns' pc' : Nat) (lsA' : Array Slot), Q r σ' → xi_R cl G D s A ad' ca' σ' H' locs' → xi_A σ ad σ' ad' → nc' ≤ md.2.2.1.2.2.1 → ns' ≤ md.2.2.1.2.2.2 → xi_ret md pc' r →
      W p l e R s m args below meth c H' locs' nc' ns' Z (F0 m pc' lsA' (r.toList.map (xi_v ad'))))
    {k : Fin 4} {x : Nat} {t : List Value} (hst : st = .ref x :: t) (hd : decode md.1.2.2 pc = .ok (.astore_n k, 1)) (h : xi_b (Nat.blt (k : Nat) md.2.1.1) (X' μ (pc + 1) (xi_s1 ls (k : Nat) (.ref x)) t σ nc ns Q)) : W p l e R s m args below meth c H locs nc ns Z (F0 m pc lsA (st.map (xi_v ad))) := by
  obtain ⟨hx, hb, hml, hown, hts, hA, hKc, hfr, hlo, hce, hsl, hin⟩ := id hC
  subst hst
  obtain ⟨hn, h⟩ := xi_b_of h
  exact lv_astore_n hx hb hd rfl hl (Nat.blt_eq.mp hn) rfl (fun ls2 hl2 => xi_keep hX' hmd hC hO hR hret _ _ _ h _ (xi_store1 rfl hl2))
theorem xi_s_iinc {X' : xiX} (hX' : ∀ μ pc ls st σ nc ns Q, X' μ pc ls st σ nc ns Q → xi_OK T cl zs l G μ pc ls st σ nc ns Q) {μ pc : Nat} {ls : List (Option Value)} {st : List Value} {σ : xiS} {nc ns : Nat} {Q : xiQ} {md : xiM} (hmd : G.1[μ]? = some md) {p : Program} {e : Env} {s : State} {m : MethodId} {args : Array Value} {below : List Frame} {meth : Method} {c : Code} {R : Room} {Z : State → Prop} {D : va_G} {A : Nat → Prop} {ad : Nat → Nat} {ca : Nat → ClassId} {H : Heap} {locs : List Loc} {lsA : Array Slot}
    (hC : xi_C T cl G D p s m args meth c R md A) (hO : xi_O zs G A ad s s.heap) (hR : xi_R cl G D s A ad ca σ H locs) (hl : lv_has lsA md.2.1.1 (xi_l ad ls))
    (hret : ∀ (r : Option Value) (σ' : xiS) (ad' : Nat → Nat) (ca' : Nat → ClassId) (H' : Heap) (locs' : List Loc) (nc' ns' pc' : Nat) (lsA' : Array Slot), Q r σ' → xi_R cl G D s A ad' ca' σ' H' locs' → xi_A σ ad σ' ad' → nc' ≤ md.2.2.1.2.2.1 → ns' ≤ md.2.2.1.2.2.2 → xi_ret md pc' r →
      W p l e R s m args below meth c H' locs' nc' ns' Z (F0 m pc' lsA' (r.toList.map (xi_v ad'))))
    {k : Nat} {n : Int} (hd : decode md.1.2.2 pc = .ok (.iinc k n, 3)) (h : xi_ld (fun v => match v with | .int x => xi_b (Nat.blt k md.2.1.1) (X' μ (pc + 3) (xi_s1 ls k (.int (x + Int32.ofInt n))) st σ nc ns Q) | _ => False) ls k) : W p l e R s m args below meth c H locs nc ns Z (F0 m pc lsA (st.map (xi_v ad))) := by
  obtain ⟨hx, hb, hml, hown, hts, hA, hKc, hfr, hlo, hce, hsl, hin⟩ := id hC
  obtain ⟨v, hv, h⟩ := xi_ld_of h
  split at h
  · rename_i x
    obtain ⟨hn, h⟩ := xi_b_of h
    obtain ⟨j, hj⟩ := List.getElem?_of_mem (xi_l_mem (ad := ad) (q := (k, .int x)).mpr ⟨.int x, hv, rfl⟩)
    exact lv_iinc hx hb hd hl hj rfl (Nat.blt_eq.mp hn) rfl (fun ls2 hl2 => xi_keep hX' hmd hC hO hR hret _ _ _ h _ (xi_store1 rfl hl2))
  · exact h.elim
theorem xi_s_iadd {X' : xiX} (hX' : ∀ μ pc ls st σ nc ns Q, X' μ pc ls st σ nc ns Q → xi_OK T cl zs l G μ pc ls st σ nc ns Q) {μ pc : Nat} {ls : List (Option Value)} {st : List Value} {σ : xiS} {nc ns : Nat} {Q : xiQ} {md : xiM} (hmd : G.1[μ]? = some md) {p : Program} {e : Env} {s : State} {m : MethodId} {args : Array Value} {below : List Frame} {meth : Method} {c : Code} {R : Room} {Z : State → Prop} {D : va_G} {A : Nat → Prop} {ad : Nat → Nat} {ca : Nat → ClassId} {H : Heap} {locs : List Loc} {lsA : Array Slot}
    (hC : xi_C T cl G D p s m args meth c R md A) (hO : xi_O zs G A ad s s.heap) (hR : xi_R cl G D s A ad ca σ H locs) (hl : lv_has lsA md.2.1.1 (xi_l ad ls))
    (hret : ∀ (r : Option Value) (σ' : xiS) (ad' : Nat → Nat) (ca' : Nat → ClassId) (H' : Heap) (locs' : List Loc) (nc' ns' pc' : Nat) (lsA' : Array Slot), Q r σ' → xi_R cl G D s A ad' ca' σ' H' locs' → xi_A σ ad σ' ad' → nc' ≤ md.2.2.1.2.2.1 → ns' ≤ md.2.2.1.2.2.2 → xi_ret md pc' r →
      W p l e R s m args below meth c H' locs' nc' ns' Z (F0 m pc' lsA' (r.toList.map (xi_v ad'))))
    (hd : decode md.1.2.2 pc = .ok (.iadd, 1)) (h : xi_I2 (fun x y t => X' μ (pc + 1) ls (.int (x + y) :: t) σ nc ns Q) st) : W p l e R s m args below meth c H locs nc ns Z (F0 m pc lsA (st.map (xi_v ad))) := by
  obtain ⟨hx, hb, hml, hown, hts, hA, hKc, hfr, hlo, hce, hsl, hin⟩ := id hC
  obtain ⟨x, y, t, rfl, h⟩ := xi_I2_of h
  exact lv_iadd hx hb hd (xi_keep hX' hmd hC hO hR hret _ _ _ h _ hl)
theorem xi_s_isub {X' : xiX} (hX' : ∀ μ pc ls st σ nc ns Q, X' μ pc ls st σ nc ns Q → xi_OK T cl zs l G μ pc ls st σ nc ns Q) {μ pc : Nat} {ls : List (Option Value)} {st : List Value} {σ : xiS} {nc ns : Nat} {Q : xiQ} {md : xiM} (hmd : G.1[μ]? = some md) {p : Program} {e : Env} {s : State} {m : MethodId} {args : Array Value} {below : List Frame} {meth : Method} {c : Code} {R : Room} {Z : State → Prop} {D : va_G} {A : Nat → Prop} {ad : Nat → Nat} {ca : Nat → ClassId} {H : Heap} {locs : List Loc} {lsA : Array Slot}
    (hC : xi_C T cl G D p s m args meth c R md A) (hO : xi_O zs G A ad s s.heap) (hR : xi_R cl G D s A ad ca σ H locs) (hl : lv_has lsA md.2.1.1 (xi_l ad ls))
    (hret : ∀ (r : Option Value) (σ' : xiS) (ad' : Nat → Nat) (ca' : Nat → ClassId) (H' : Heap) (locs' : List Loc) (nc' ns' pc' : Nat) (lsA' : Array Slot), Q r σ' → xi_R cl G D s A ad' ca' σ' H' locs' → xi_A σ ad σ' ad' → nc' ≤ md.2.2.1.2.2.1 → ns' ≤ md.2.2.1.2.2.2 → xi_ret md pc' r →
      W p l e R s m args below meth c H' locs' nc' ns' Z (F0 m pc' lsA' (r.toList.map (xi_v ad'))))
    (hd : decode md.1.2.2 pc = .ok (.isub, 1)) (h : xi_I2 (fun x y t => X' μ (pc + 1) ls (.int (x - y) :: t) σ nc ns Q) st) : W p l e R s m args below meth c H locs nc ns Z (F0 m pc lsA (st.map (xi_v ad))) := by
  obtain ⟨hx, hb, hml, hown, hts, hA, hKc, hfr, hlo, hce, hsl, hin⟩ := id hC
  obtain ⟨x, y, t, rfl, h⟩ := xi_I2_of h
  exact lv_isub hx hb hd (xi_keep hX' hmd hC hO hR hret _ _ _ h _ hl)
theorem xi_s_imul {X' : xiX} (hX' : ∀ μ pc ls st σ nc ns Q, X' μ pc ls st σ nc ns Q → xi_OK T cl zs l G μ pc ls st σ nc ns Q) {μ pc : Nat} {ls : List (Option Value)} {st : List Value} {σ : xiS} {nc ns : Nat} {Q : xiQ} {md : xiM} (hmd : G.1[μ]? = some md) {p : Program} {e : Env} {s : State} {m : MethodId} {args : Array Value} {below : List Frame} {meth : Method} {c : Code} {R : Room} {Z : State → Prop} {D : va_G} {A : Nat → Prop} {ad : Nat → Nat} {ca : Nat → ClassId} {H : Heap} {locs : List Loc} {lsA : Array Slot}
    (hC : xi_C T cl G D p s m args meth c R md A) (hO : xi_O zs G A ad s s.heap) (hR : xi_R cl G D s A ad ca σ H locs) (hl : lv_has lsA md.2.1.1 (xi_l ad ls))
    (hret : ∀ (r : Option Value) (σ' : xiS) (ad' : Nat → Nat) (ca' : Nat → ClassId) (H' : Heap) (locs' : List Loc) (nc' ns' pc' : Nat) (lsA' : Array Slot), Q r σ' → xi_R cl G D s A ad' ca' σ' H' locs' → xi_A σ ad σ' ad' → nc' ≤ md.2.2.1.2.2.1 → ns' ≤ md.2.2.1.2.2.2 → xi_ret md pc' r →
      W p l e R s m args below meth c H' locs' nc' ns' Z (F0 m pc' lsA' (r.toList.map (xi_v ad'))))
    (hd : decode md.1.2.2 pc = .ok (.imul, 1)) (h : xi_I2 (fun x y t => X' μ (pc + 1) ls (.int (x * y) :: t) σ nc ns Q) st) : W p l e R s m args below meth c H locs nc ns Z (F0 m pc lsA (st.map (xi_v ad))) := by
  obtain ⟨hx, hb, hml, hown, hts, hA, hKc, hfr, hlo, hce, hsl, hin⟩ := id hC
  obtain ⟨x, y, t, rfl, h⟩ := xi_I2_of h
  exact lv_imul hx hb hd (xi_keep hX' hmd hC hO hR hret _ _ _ h _ hl)
theorem xi_s_iand {X' : xiX} (hX' : ∀ μ pc ls st σ nc ns Q, X' μ pc ls st σ nc ns Q → xi_OK T cl zs l G μ pc ls st σ nc ns Q) {μ pc : Nat} {ls : List (Option Value)} {st : List Value} {σ : xiS} {nc ns : Nat} {Q : xiQ} {md : xiM} (hmd : G.1[μ]? = some md) {p : Program} {e : Env} {s : State} {m : MethodId} {args : Array Value} {below : List Frame} {meth : Method} {c : Code} {R : Room} {Z : State → Prop} {D : va_G} {A : Nat → Prop} {ad : Nat → Nat} {ca : Nat → ClassId} {H : Heap} {locs : List Loc} {lsA : Array Slot}
    (hC : xi_C T cl G D p s m args meth c R md A) (hO : xi_O zs G A ad s s.heap) (hR : xi_R cl G D s A ad ca σ H locs) (hl : lv_has lsA md.2.1.1 (xi_l ad ls))
    (hret : ∀ (r : Option Value) (σ' : xiS) (ad' : Nat → Nat) (ca' : Nat → ClassId) (H' : Heap) (locs' : List Loc) (nc' ns' pc' : Nat) (lsA' : Array Slot), Q r σ' → xi_R cl G D s A ad' ca' σ' H' locs' → xi_A σ ad σ' ad' → nc' ≤ md.2.2.1.2.2.1 → ns' ≤ md.2.2.1.2.2.2 → xi_ret md pc' r →
      W p l e R s m args below meth c H' locs' nc' ns' Z (F0 m pc' lsA' (r.toList.map (xi_v ad'))))
    (hd : decode md.1.2.2 pc = .ok (.iand, 1)) (h : xi_I2 (fun x y t => X' μ (pc + 1) ls (.int (x &&& y) :: t) σ nc ns Q) st) : W p l e R s m args below meth c H locs nc ns Z (F0 m pc lsA (st.map (xi_v ad))) := by
  obtain ⟨hx, hb, hml, hown, hts, hA, hKc, hfr, hlo, hce, hsl, hin⟩ := id hC
  obtain ⟨x, y, t, rfl, h⟩ := xi_I2_of h
  exact lv_iand hx hb hd (xi_keep hX' hmd hC hO hR hret _ _ _ h _ hl)
theorem xi_s_ior {X' : xiX} (hX' : ∀ μ pc ls st σ nc ns Q, X' μ pc ls st σ nc ns Q → xi_OK T cl zs l G μ pc ls st σ nc ns Q) {μ pc : Nat} {ls : List (Option Value)} {st : List Value} {σ : xiS} {nc ns : Nat} {Q : xiQ} {md : xiM} (hmd : G.1[μ]? = some md) {p : Program} {e : Env} {s : State} {m : MethodId} {args : Array Value} {below : List Frame} {meth : Method} {c : Code} {R : Room} {Z : State → Prop} {D : va_G} {A : Nat → Prop} {ad : Nat → Nat} {ca : Nat → ClassId} {H : Heap} {locs : List Loc} {lsA : Array Slot}
    (hC : xi_C T cl G D p s m args meth c R md A) (hO : xi_O zs G A ad s s.heap) (hR : xi_R cl G D s A ad ca σ H locs) (hl : lv_has lsA md.2.1.1 (xi_l ad ls))
    (hret : ∀ (r : Option Value) (σ' : xiS) (ad' : Nat → Nat) (ca' : Nat → ClassId) (H' : Heap) (locs' : List Loc) (nc' ns' pc' : Nat) (lsA' : Array Slot), Q r σ' → xi_R cl G D s A ad' ca' σ' H' locs' → xi_A σ ad σ' ad' → nc' ≤ md.2.2.1.2.2.1 → ns' ≤ md.2.2.1.2.2.2 → xi_ret md pc' r →
      W p l e R s m args below meth c H' locs' nc' ns' Z (F0 m pc' lsA' (r.toList.map (xi_v ad'))))
    (hd : decode md.1.2.2 pc = .ok (.ior, 1)) (h : xi_I2 (fun x y t => X' μ (pc + 1) ls (.int (x ||| y) :: t) σ nc ns Q) st) : W p l e R s m args below meth c H locs nc ns Z (F0 m pc lsA (st.map (xi_v ad))) := by
  obtain ⟨hx, hb, hml, hown, hts, hA, hKc, hfr, hlo, hce, hsl, hin⟩ := id hC
  obtain ⟨x, y, t, rfl, h⟩ := xi_I2_of h
  exact lv_ior hx hb hd (xi_keep hX' hmd hC hO hR hret _ _ _ h _ hl)
theorem xi_s_ixor {X' : xiX} (hX' : ∀ μ pc ls st σ nc ns Q, X' μ pc ls st σ nc ns Q → xi_OK T cl zs l G μ pc ls st σ nc ns Q) {μ pc : Nat} {ls : List (Option Value)} {st : List Value} {σ : xiS} {nc ns : Nat} {Q : xiQ} {md : xiM} (hmd : G.1[μ]? = some md) {p : Program} {e : Env} {s : State} {m : MethodId} {args : Array Value} {below : List Frame} {meth : Method} {c : Code} {R : Room} {Z : State → Prop} {D : va_G} {A : Nat → Prop} {ad : Nat → Nat} {ca : Nat → ClassId} {H : Heap} {locs : List Loc} {lsA : Array Slot}
    (hC : xi_C T cl G D p s m args meth c R md A) (hO : xi_O zs G A ad s s.heap) (hR : xi_R cl G D s A ad ca σ H locs) (hl : lv_has lsA md.2.1.1 (xi_l ad ls))
    (hret : ∀ (r : Option Value) (σ' : xiS) (ad' : Nat → Nat) (ca' : Nat → ClassId) (H' : Heap) (locs' : List Loc) (nc' ns' pc' : Nat) (lsA' : Array Slot), Q r σ' → xi_R cl G D s A ad' ca' σ' H' locs' → xi_A σ ad σ' ad' → nc' ≤ md.2.2.1.2.2.1 → ns' ≤ md.2.2.1.2.2.2 → xi_ret md pc' r →
      W p l e R s m args below meth c H' locs' nc' ns' Z (F0 m pc' lsA' (r.toList.map (xi_v ad'))))
    (hd : decode md.1.2.2 pc = .ok (.ixor, 1)) (h : xi_I2 (fun x y t => X' μ (pc + 1) ls (.int (x ^^^ y) :: t) σ nc ns Q) st) : W p l e R s m args below meth c H locs nc ns Z (F0 m pc lsA (st.map (xi_v ad))) := by
  obtain ⟨hx, hb, hml, hown, hts, hA, hKc, hfr, hlo, hce, hsl, hin⟩ := id hC
  obtain ⟨x, y, t, rfl, h⟩ := xi_I2_of h
  exact lv_ixor hx hb hd (xi_keep hX' hmd hC hO hR hret _ _ _ h _ hl)
theorem xi_s_ishl {X' : xiX} (hX' : ∀ μ pc ls st σ nc ns Q, X' μ pc ls st σ nc ns Q → xi_OK T cl zs l G μ pc ls st σ nc ns Q) {μ pc : Nat} {ls : List (Option Value)} {st : List Value} {σ : xiS} {nc ns : Nat} {Q : xiQ} {md : xiM} (hmd : G.1[μ]? = some md) {p : Program} {e : Env} {s : State} {m : MethodId} {args : Array Value} {below : List Frame} {meth : Method} {c : Code} {R : Room} {Z : State → Prop} {D : va_G} {A : Nat → Prop} {ad : Nat → Nat} {ca : Nat → ClassId} {H : Heap} {locs : List Loc} {lsA : Array Slot}
    (hC : xi_C T cl G D p s m args meth c R md A) (hO : xi_O zs G A ad s s.heap) (hR : xi_R cl G D s A ad ca σ H locs) (hl : lv_has lsA md.2.1.1 (xi_l ad ls))
    (hret : ∀ (r : Option Value) (σ' : xiS) (ad' : Nat → Nat) (ca' : Nat → ClassId) (H' : Heap) (locs' : List Loc) (nc' ns' pc' : Nat) (lsA' : Array Slot), Q r σ' → xi_R cl G D s A ad' ca' σ' H' locs' → xi_A σ ad σ' ad' → nc' ≤ md.2.2.1.2.2.1 → ns' ≤ md.2.2.1.2.2.2 → xi_ret md pc' r →
      W p l e R s m args below meth c H' locs' nc' ns' Z (F0 m pc' lsA' (r.toList.map (xi_v ad'))))
    (hd : decode md.1.2.2 pc = .ok (.ishl, 1)) (h : xi_I2 (fun x y t => X' μ (pc + 1) ls (.int (x <<< (y &&& 31)) :: t) σ nc ns Q) st) : W p l e R s m args below meth c H locs nc ns Z (F0 m pc lsA (st.map (xi_v ad))) := by
  obtain ⟨hx, hb, hml, hown, hts, hA, hKc, hfr, hlo, hce, hsl, hin⟩ := id hC
  obtain ⟨x, y, t, rfl, h⟩ := xi_I2_of h
  exact lv_ishl hx hb hd (xi_keep hX' hmd hC hO hR hret _ _ _ h _ hl)
theorem xi_s_ishr {X' : xiX} (hX' : ∀ μ pc ls st σ nc ns Q, X' μ pc ls st σ nc ns Q → xi_OK T cl zs l G μ pc ls st σ nc ns Q) {μ pc : Nat} {ls : List (Option Value)} {st : List Value} {σ : xiS} {nc ns : Nat} {Q : xiQ} {md : xiM} (hmd : G.1[μ]? = some md) {p : Program} {e : Env} {s : State} {m : MethodId} {args : Array Value} {below : List Frame} {meth : Method} {c : Code} {R : Room} {Z : State → Prop} {D : va_G} {A : Nat → Prop} {ad : Nat → Nat} {ca : Nat → ClassId} {H : Heap} {locs : List Loc} {lsA : Array Slot}
    (hC : xi_C T cl G D p s m args meth c R md A) (hO : xi_O zs G A ad s s.heap) (hR : xi_R cl G D s A ad ca σ H locs) (hl : lv_has lsA md.2.1.1 (xi_l ad ls))
    (hret : ∀ (r : Option Value) (σ' : xiS) (ad' : Nat → Nat) (ca' : Nat → ClassId) (H' : Heap) (locs' : List Loc) (nc' ns' pc' : Nat) (lsA' : Array Slot), Q r σ' → xi_R cl G D s A ad' ca' σ' H' locs' → xi_A σ ad σ' ad' → nc' ≤ md.2.2.1.2.2.1 → ns' ≤ md.2.2.1.2.2.2 → xi_ret md pc' r →
      W p l e R s m args below meth c H' locs' nc' ns' Z (F0 m pc' lsA' (r.toList.map (xi_v ad'))))
    (hd : decode md.1.2.2 pc = .ok (.ishr, 1)) (h : xi_I2 (fun x y t => X' μ (pc + 1) ls (.int (x >>> (y &&& 31)) :: t) σ nc ns Q) st) : W p l e R s m args below meth c H locs nc ns Z (F0 m pc lsA (st.map (xi_v ad))) := by
  obtain ⟨hx, hb, hml, hown, hts, hA, hKc, hfr, hlo, hce, hsl, hin⟩ := id hC
  obtain ⟨x, y, t, rfl, h⟩ := xi_I2_of h
  exact lv_ishr hx hb hd (xi_keep hX' hmd hC hO hR hret _ _ _ h _ hl)
theorem xi_s_iushr {X' : xiX} (hX' : ∀ μ pc ls st σ nc ns Q, X' μ pc ls st σ nc ns Q → xi_OK T cl zs l G μ pc ls st σ nc ns Q) {μ pc : Nat} {ls : List (Option Value)} {st : List Value} {σ : xiS} {nc ns : Nat} {Q : xiQ} {md : xiM} (hmd : G.1[μ]? = some md) {p : Program} {e : Env} {s : State} {m : MethodId} {args : Array Value} {below : List Frame} {meth : Method} {c : Code} {R : Room} {Z : State → Prop} {D : va_G} {A : Nat → Prop} {ad : Nat → Nat} {ca : Nat → ClassId} {H : Heap} {locs : List Loc} {lsA : Array Slot}
    (hC : xi_C T cl G D p s m args meth c R md A) (hO : xi_O zs G A ad s s.heap) (hR : xi_R cl G D s A ad ca σ H locs) (hl : lv_has lsA md.2.1.1 (xi_l ad ls))
    (hret : ∀ (r : Option Value) (σ' : xiS) (ad' : Nat → Nat) (ca' : Nat → ClassId) (H' : Heap) (locs' : List Loc) (nc' ns' pc' : Nat) (lsA' : Array Slot), Q r σ' → xi_R cl G D s A ad' ca' σ' H' locs' → xi_A σ ad σ' ad' → nc' ≤ md.2.2.1.2.2.1 → ns' ≤ md.2.2.1.2.2.2 → xi_ret md pc' r →
      W p l e R s m args below meth c H' locs' nc' ns' Z (F0 m pc' lsA' (r.toList.map (xi_v ad'))))
    (hd : decode md.1.2.2 pc = .ok (.iushr, 1)) (h : xi_I2 (fun x y t => X' μ (pc + 1) ls (.int (x.toUInt32 >>> (y.toUInt32 &&& Int32.toUInt32 31)).toInt32 :: t) σ nc ns Q) st) : W p l e R s m args below meth c H locs nc ns Z (F0 m pc lsA (st.map (xi_v ad))) := by
  obtain ⟨hx, hb, hml, hown, hts, hA, hKc, hfr, hlo, hce, hsl, hin⟩ := id hC
  obtain ⟨x, y, t, rfl, h⟩ := xi_I2_of h
  exact lv_iushr hx hb hd rfl (xi_keep hX' hmd hC hO hR hret _ _ _ h _ hl)
theorem xi_s_irem {X' : xiX} (hX' : ∀ μ pc ls st σ nc ns Q, X' μ pc ls st σ nc ns Q → xi_OK T cl zs l G μ pc ls st σ nc ns Q) {μ pc : Nat} {ls : List (Option Value)} {st : List Value} {σ : xiS} {nc ns : Nat} {Q : xiQ} {md : xiM} (hmd : G.1[μ]? = some md) {p : Program} {e : Env} {s : State} {m : MethodId} {args : Array Value} {below : List Frame} {meth : Method} {c : Code} {R : Room} {Z : State → Prop} {D : va_G} {A : Nat → Prop} {ad : Nat → Nat} {ca : Nat → ClassId} {H : Heap} {locs : List Loc} {lsA : Array Slot}
    (hC : xi_C T cl G D p s m args meth c R md A) (hO : xi_O zs G A ad s s.heap) (hR : xi_R cl G D s A ad ca σ H locs) (hl : lv_has lsA md.2.1.1 (xi_l ad ls))
    (hret : ∀ (r : Option Value) (σ' : xiS) (ad' : Nat → Nat) (ca' : Nat → ClassId) (H' : Heap) (locs' : List Loc) (nc' ns' pc' : Nat) (lsA' : Array Slot), Q r σ' → xi_R cl G D s A ad' ca' σ' H' locs' → xi_A σ ad σ' ad' → nc' ≤ md.2.2.1.2.2.1 → ns' ≤ md.2.2.1.2.2.2 → xi_ret md pc' r →
      W p l e R s m args below meth c H' locs' nc' ns' Z (F0 m pc' lsA' (r.toList.map (xi_v ad'))))
    (hd : decode md.1.2.2 pc = .ok (.irem, 1)) (h : xi_I2 (fun x y t => ¬ y = 0 ∧ X' μ (pc + 1) ls (.int (x - x / y * y) :: t) σ nc ns Q) st) : W p l e R s m args below meth c H locs nc ns Z (F0 m pc lsA (st.map (xi_v ad))) := by
  obtain ⟨hx, hb, hml, hown, hts, hA, hKc, hfr, hlo, hce, hsl, hin⟩ := id hC
  obtain ⟨x, y, t, rfl, hne, h⟩ := xi_I2_of h
  exact lv_irem hx hb hd hne (xi_keep hX' hmd hC hO hR hret _ _ _ h _ hl)
theorem xi_s_ineg {X' : xiX} (hX' : ∀ μ pc ls st σ nc ns Q, X' μ pc ls st σ nc ns Q → xi_OK T cl zs l G μ pc ls st σ nc ns Q) {μ pc : Nat} {ls : List (Option Value)} {st : List Value} {σ : xiS} {nc ns : Nat} {Q : xiQ} {md : xiM} (hmd : G.1[μ]? = some md) {p : Program} {e : Env} {s : State} {m : MethodId} {args : Array Value} {below : List Frame} {meth : Method} {c : Code} {R : Room} {Z : State → Prop} {D : va_G} {A : Nat → Prop} {ad : Nat → Nat} {ca : Nat → ClassId} {H : Heap} {locs : List Loc} {lsA : Array Slot}
    (hC : xi_C T cl G D p s m args meth c R md A) (hO : xi_O zs G A ad s s.heap) (hR : xi_R cl G D s A ad ca σ H locs) (hl : lv_has lsA md.2.1.1 (xi_l ad ls))
    (hret : ∀ (r : Option Value) (σ' : xiS) (ad' : Nat → Nat) (ca' : Nat → ClassId) (H' : Heap) (locs' : List Loc) (nc' ns' pc' : Nat) (lsA' : Array Slot), Q r σ' → xi_R cl G D s A ad' ca' σ' H' locs' → xi_A σ ad σ' ad' → nc' ≤ md.2.2.1.2.2.1 → ns' ≤ md.2.2.1.2.2.2 → xi_ret md pc' r →
      W p l e R s m args below meth c H' locs' nc' ns' Z (F0 m pc' lsA' (r.toList.map (xi_v ad'))))
    (hd : decode md.1.2.2 pc = .ok (.ineg, 1)) (h : xi_I1 (fun x t => X' μ (pc + 1) ls (.int (-x) :: t) σ nc ns Q) st) : W p l e R s m args below meth c H locs nc ns Z (F0 m pc lsA (st.map (xi_v ad))) := by
  obtain ⟨hx, hb, hml, hown, hts, hA, hKc, hfr, hlo, hce, hsl, hin⟩ := id hC
  obtain ⟨x, t, rfl, h⟩ := xi_I1_of h
  exact lv_ineg hx hb hd (xi_keep hX' hmd hC hO hR hret _ _ _ h _ hl)
theorem xi_s_i2l {X' : xiX} (hX' : ∀ μ pc ls st σ nc ns Q, X' μ pc ls st σ nc ns Q → xi_OK T cl zs l G μ pc ls st σ nc ns Q) {μ pc : Nat} {ls : List (Option Value)} {st : List Value} {σ : xiS} {nc ns : Nat} {Q : xiQ} {md : xiM} (hmd : G.1[μ]? = some md) {p : Program} {e : Env} {s : State} {m : MethodId} {args : Array Value} {below : List Frame} {meth : Method} {c : Code} {R : Room} {Z : State → Prop} {D : va_G} {A : Nat → Prop} {ad : Nat → Nat} {ca : Nat → ClassId} {H : Heap} {locs : List Loc} {lsA : Array Slot}
    (hC : xi_C T cl G D p s m args meth c R md A) (hO : xi_O zs G A ad s s.heap) (hR : xi_R cl G D s A ad ca σ H locs) (hl : lv_has lsA md.2.1.1 (xi_l ad ls))
    (hret : ∀ (r : Option Value) (σ' : xiS) (ad' : Nat → Nat) (ca' : Nat → ClassId) (H' : Heap) (locs' : List Loc) (nc' ns' pc' : Nat) (lsA' : Array Slot), Q r σ' → xi_R cl G D s A ad' ca' σ' H' locs' → xi_A σ ad σ' ad' → nc' ≤ md.2.2.1.2.2.1 → ns' ≤ md.2.2.1.2.2.2 → xi_ret md pc' r →
      W p l e R s m args below meth c H' locs' nc' ns' Z (F0 m pc' lsA' (r.toList.map (xi_v ad'))))
    (hd : decode md.1.2.2 pc = .ok (.i2l, 1)) (h : xi_I1 (fun x t => X' μ (pc + 1) ls (.long x.toInt64 :: t) σ nc ns Q) st) : W p l e R s m args below meth c H locs nc ns Z (F0 m pc lsA (st.map (xi_v ad))) := by
  obtain ⟨hx, hb, hml, hown, hts, hA, hKc, hfr, hlo, hce, hsl, hin⟩ := id hC
  obtain ⟨x, t, rfl, h⟩ := xi_I1_of h
  exact lv_i2l hx hb hd rfl (xi_keep hX' hmd hC hO hR hret _ _ _ h _ hl)
theorem xi_s_i2b {X' : xiX} (hX' : ∀ μ pc ls st σ nc ns Q, X' μ pc ls st σ nc ns Q → xi_OK T cl zs l G μ pc ls st σ nc ns Q) {μ pc : Nat} {ls : List (Option Value)} {st : List Value} {σ : xiS} {nc ns : Nat} {Q : xiQ} {md : xiM} (hmd : G.1[μ]? = some md) {p : Program} {e : Env} {s : State} {m : MethodId} {args : Array Value} {below : List Frame} {meth : Method} {c : Code} {R : Room} {Z : State → Prop} {D : va_G} {A : Nat → Prop} {ad : Nat → Nat} {ca : Nat → ClassId} {H : Heap} {locs : List Loc} {lsA : Array Slot}
    (hC : xi_C T cl G D p s m args meth c R md A) (hO : xi_O zs G A ad s s.heap) (hR : xi_R cl G D s A ad ca σ H locs) (hl : lv_has lsA md.2.1.1 (xi_l ad ls))
    (hret : ∀ (r : Option Value) (σ' : xiS) (ad' : Nat → Nat) (ca' : Nat → ClassId) (H' : Heap) (locs' : List Loc) (nc' ns' pc' : Nat) (lsA' : Array Slot), Q r σ' → xi_R cl G D s A ad' ca' σ' H' locs' → xi_A σ ad σ' ad' → nc' ≤ md.2.2.1.2.2.1 → ns' ≤ md.2.2.1.2.2.2 → xi_ret md pc' r →
      W p l e R s m args below meth c H' locs' nc' ns' Z (F0 m pc' lsA' (r.toList.map (xi_v ad'))))
    (hd : decode md.1.2.2 pc = .ok (.i2b, 1)) (h : xi_I1 (fun x t => X' μ (pc + 1) ls (.int x.toInt8.toInt32 :: t) σ nc ns Q) st) : W p l e R s m args below meth c H locs nc ns Z (F0 m pc lsA (st.map (xi_v ad))) := by
  obtain ⟨hx, hb, hml, hown, hts, hA, hKc, hfr, hlo, hce, hsl, hin⟩ := id hC
  obtain ⟨x, t, rfl, h⟩ := xi_I1_of h
  exact lv_i2b hx hb hd rfl (xi_keep hX' hmd hC hO hR hret _ _ _ h _ hl)
theorem xi_s_i2s {X' : xiX} (hX' : ∀ μ pc ls st σ nc ns Q, X' μ pc ls st σ nc ns Q → xi_OK T cl zs l G μ pc ls st σ nc ns Q) {μ pc : Nat} {ls : List (Option Value)} {st : List Value} {σ : xiS} {nc ns : Nat} {Q : xiQ} {md : xiM} (hmd : G.1[μ]? = some md) {p : Program} {e : Env} {s : State} {m : MethodId} {args : Array Value} {below : List Frame} {meth : Method} {c : Code} {R : Room} {Z : State → Prop} {D : va_G} {A : Nat → Prop} {ad : Nat → Nat} {ca : Nat → ClassId} {H : Heap} {locs : List Loc} {lsA : Array Slot}
    (hC : xi_C T cl G D p s m args meth c R md A) (hO : xi_O zs G A ad s s.heap) (hR : xi_R cl G D s A ad ca σ H locs) (hl : lv_has lsA md.2.1.1 (xi_l ad ls))
    (hret : ∀ (r : Option Value) (σ' : xiS) (ad' : Nat → Nat) (ca' : Nat → ClassId) (H' : Heap) (locs' : List Loc) (nc' ns' pc' : Nat) (lsA' : Array Slot), Q r σ' → xi_R cl G D s A ad' ca' σ' H' locs' → xi_A σ ad σ' ad' → nc' ≤ md.2.2.1.2.2.1 → ns' ≤ md.2.2.1.2.2.2 → xi_ret md pc' r →
      W p l e R s m args below meth c H' locs' nc' ns' Z (F0 m pc' lsA' (r.toList.map (xi_v ad'))))
    (hd : decode md.1.2.2 pc = .ok (.i2s, 1)) (h : xi_I1 (fun x t => X' μ (pc + 1) ls (.int x.toInt16.toInt32 :: t) σ nc ns Q) st) : W p l e R s m args below meth c H locs nc ns Z (F0 m pc lsA (st.map (xi_v ad))) := by
  obtain ⟨hx, hb, hml, hown, hts, hA, hKc, hfr, hlo, hce, hsl, hin⟩ := id hC
  obtain ⟨x, t, rfl, h⟩ := xi_I1_of h
  exact lv_i2s hx hb hd rfl (xi_keep hX' hmd hC hO hR hret _ _ _ h _ hl)
theorem xi_s_l2i {X' : xiX} (hX' : ∀ μ pc ls st σ nc ns Q, X' μ pc ls st σ nc ns Q → xi_OK T cl zs l G μ pc ls st σ nc ns Q) {μ pc : Nat} {ls : List (Option Value)} {st : List Value} {σ : xiS} {nc ns : Nat} {Q : xiQ} {md : xiM} (hmd : G.1[μ]? = some md) {p : Program} {e : Env} {s : State} {m : MethodId} {args : Array Value} {below : List Frame} {meth : Method} {c : Code} {R : Room} {Z : State → Prop} {D : va_G} {A : Nat → Prop} {ad : Nat → Nat} {ca : Nat → ClassId} {H : Heap} {locs : List Loc} {lsA : Array Slot}
    (hC : xi_C T cl G D p s m args meth c R md A) (hO : xi_O zs G A ad s s.heap) (hR : xi_R cl G D s A ad ca σ H locs) (hl : lv_has lsA md.2.1.1 (xi_l ad ls))
    (hret : ∀ (r : Option Value) (σ' : xiS) (ad' : Nat → Nat) (ca' : Nat → ClassId) (H' : Heap) (locs' : List Loc) (nc' ns' pc' : Nat) (lsA' : Array Slot), Q r σ' → xi_R cl G D s A ad' ca' σ' H' locs' → xi_A σ ad σ' ad' → nc' ≤ md.2.2.1.2.2.1 → ns' ≤ md.2.2.1.2.2.2 → xi_ret md pc' r →
      W p l e R s m args below meth c H' locs' nc' ns' Z (F0 m pc' lsA' (r.toList.map (xi_v ad'))))
    (hd : decode md.1.2.2 pc = .ok (.l2i, 1)) (h : xi_L1 (fun x t => X' μ (pc + 1) ls (.int x.toInt32 :: t) σ nc ns Q) st) : W p l e R s m args below meth c H locs nc ns Z (F0 m pc lsA (st.map (xi_v ad))) := by
  obtain ⟨hx, hb, hml, hown, hts, hA, hKc, hfr, hlo, hce, hsl, hin⟩ := id hC
  obtain ⟨x, t, rfl, h⟩ := xi_L1_of h
  exact lv_l2i hx hb hd rfl (xi_keep hX' hmd hC hO hR hret _ _ _ h _ hl)
theorem xi_s_lneg {X' : xiX} (hX' : ∀ μ pc ls st σ nc ns Q, X' μ pc ls st σ nc ns Q → xi_OK T cl zs l G μ pc ls st σ nc ns Q) {μ pc : Nat} {ls : List (Option Value)} {st : List Value} {σ : xiS} {nc ns : Nat} {Q : xiQ} {md : xiM} (hmd : G.1[μ]? = some md) {p : Program} {e : Env} {s : State} {m : MethodId} {args : Array Value} {below : List Frame} {meth : Method} {c : Code} {R : Room} {Z : State → Prop} {D : va_G} {A : Nat → Prop} {ad : Nat → Nat} {ca : Nat → ClassId} {H : Heap} {locs : List Loc} {lsA : Array Slot}
    (hC : xi_C T cl G D p s m args meth c R md A) (hO : xi_O zs G A ad s s.heap) (hR : xi_R cl G D s A ad ca σ H locs) (hl : lv_has lsA md.2.1.1 (xi_l ad ls))
    (hret : ∀ (r : Option Value) (σ' : xiS) (ad' : Nat → Nat) (ca' : Nat → ClassId) (H' : Heap) (locs' : List Loc) (nc' ns' pc' : Nat) (lsA' : Array Slot), Q r σ' → xi_R cl G D s A ad' ca' σ' H' locs' → xi_A σ ad σ' ad' → nc' ≤ md.2.2.1.2.2.1 → ns' ≤ md.2.2.1.2.2.2 → xi_ret md pc' r →
      W p l e R s m args below meth c H' locs' nc' ns' Z (F0 m pc' lsA' (r.toList.map (xi_v ad'))))
    (hd : decode md.1.2.2 pc = .ok (.lneg, 1)) (h : xi_L1 (fun x t => X' μ (pc + 1) ls (.long (-x) :: t) σ nc ns Q) st) : W p l e R s m args below meth c H locs nc ns Z (F0 m pc lsA (st.map (xi_v ad))) := by
  obtain ⟨hx, hb, hml, hown, hts, hA, hKc, hfr, hlo, hce, hsl, hin⟩ := id hC
  obtain ⟨x, t, rfl, h⟩ := xi_L1_of h
  exact lv_lneg hx hb hd (xi_keep hX' hmd hC hO hR hret _ _ _ h _ hl)
theorem xi_s_ladd {X' : xiX} (hX' : ∀ μ pc ls st σ nc ns Q, X' μ pc ls st σ nc ns Q → xi_OK T cl zs l G μ pc ls st σ nc ns Q) {μ pc : Nat} {ls : List (Option Value)} {st : List Value} {σ : xiS} {nc ns : Nat} {Q : xiQ} {md : xiM} (hmd : G.1[μ]? = some md) {p : Program} {e : Env} {s : State} {m : MethodId} {args : Array Value} {below : List Frame} {meth : Method} {c : Code} {R : Room} {Z : State → Prop} {D : va_G} {A : Nat → Prop} {ad : Nat → Nat} {ca : Nat → ClassId} {H : Heap} {locs : List Loc} {lsA : Array Slot}
    (hC : xi_C T cl G D p s m args meth c R md A) (hO : xi_O zs G A ad s s.heap) (hR : xi_R cl G D s A ad ca σ H locs) (hl : lv_has lsA md.2.1.1 (xi_l ad ls))
    (hret : ∀ (r : Option Value) (σ' : xiS) (ad' : Nat → Nat) (ca' : Nat → ClassId) (H' : Heap) (locs' : List Loc) (nc' ns' pc' : Nat) (lsA' : Array Slot), Q r σ' → xi_R cl G D s A ad' ca' σ' H' locs' → xi_A σ ad σ' ad' → nc' ≤ md.2.2.1.2.2.1 → ns' ≤ md.2.2.1.2.2.2 → xi_ret md pc' r →
      W p l e R s m args below meth c H' locs' nc' ns' Z (F0 m pc' lsA' (r.toList.map (xi_v ad'))))
    (hd : decode md.1.2.2 pc = .ok (.ladd, 1)) (h : xi_L2 (fun x y t => X' μ (pc + 1) ls (.long (x + y) :: t) σ nc ns Q) st) : W p l e R s m args below meth c H locs nc ns Z (F0 m pc lsA (st.map (xi_v ad))) := by
  obtain ⟨hx, hb, hml, hown, hts, hA, hKc, hfr, hlo, hce, hsl, hin⟩ := id hC
  obtain ⟨x, y, t, rfl, h⟩ := xi_L2_of h
  exact lv_ladd hx hb hd (xi_keep hX' hmd hC hO hR hret _ _ _ h _ hl)
theorem xi_s_lsub {X' : xiX} (hX' : ∀ μ pc ls st σ nc ns Q, X' μ pc ls st σ nc ns Q → xi_OK T cl zs l G μ pc ls st σ nc ns Q) {μ pc : Nat} {ls : List (Option Value)} {st : List Value} {σ : xiS} {nc ns : Nat} {Q : xiQ} {md : xiM} (hmd : G.1[μ]? = some md) {p : Program} {e : Env} {s : State} {m : MethodId} {args : Array Value} {below : List Frame} {meth : Method} {c : Code} {R : Room} {Z : State → Prop} {D : va_G} {A : Nat → Prop} {ad : Nat → Nat} {ca : Nat → ClassId} {H : Heap} {locs : List Loc} {lsA : Array Slot}
    (hC : xi_C T cl G D p s m args meth c R md A) (hO : xi_O zs G A ad s s.heap) (hR : xi_R cl G D s A ad ca σ H locs) (hl : lv_has lsA md.2.1.1 (xi_l ad ls))
    (hret : ∀ (r : Option Value) (σ' : xiS) (ad' : Nat → Nat) (ca' : Nat → ClassId) (H' : Heap) (locs' : List Loc) (nc' ns' pc' : Nat) (lsA' : Array Slot), Q r σ' → xi_R cl G D s A ad' ca' σ' H' locs' → xi_A σ ad σ' ad' → nc' ≤ md.2.2.1.2.2.1 → ns' ≤ md.2.2.1.2.2.2 → xi_ret md pc' r →
      W p l e R s m args below meth c H' locs' nc' ns' Z (F0 m pc' lsA' (r.toList.map (xi_v ad'))))
    (hd : decode md.1.2.2 pc = .ok (.lsub, 1)) (h : xi_L2 (fun x y t => X' μ (pc + 1) ls (.long (x - y) :: t) σ nc ns Q) st) : W p l e R s m args below meth c H locs nc ns Z (F0 m pc lsA (st.map (xi_v ad))) := by
  obtain ⟨hx, hb, hml, hown, hts, hA, hKc, hfr, hlo, hce, hsl, hin⟩ := id hC
  obtain ⟨x, y, t, rfl, h⟩ := xi_L2_of h
  exact lv_lsub hx hb hd (xi_keep hX' hmd hC hO hR hret _ _ _ h _ hl)
theorem xi_s_lmul {X' : xiX} (hX' : ∀ μ pc ls st σ nc ns Q, X' μ pc ls st σ nc ns Q → xi_OK T cl zs l G μ pc ls st σ nc ns Q) {μ pc : Nat} {ls : List (Option Value)} {st : List Value} {σ : xiS} {nc ns : Nat} {Q : xiQ} {md : xiM} (hmd : G.1[μ]? = some md) {p : Program} {e : Env} {s : State} {m : MethodId} {args : Array Value} {below : List Frame} {meth : Method} {c : Code} {R : Room} {Z : State → Prop} {D : va_G} {A : Nat → Prop} {ad : Nat → Nat} {ca : Nat → ClassId} {H : Heap} {locs : List Loc} {lsA : Array Slot}
    (hC : xi_C T cl G D p s m args meth c R md A) (hO : xi_O zs G A ad s s.heap) (hR : xi_R cl G D s A ad ca σ H locs) (hl : lv_has lsA md.2.1.1 (xi_l ad ls))
    (hret : ∀ (r : Option Value) (σ' : xiS) (ad' : Nat → Nat) (ca' : Nat → ClassId) (H' : Heap) (locs' : List Loc) (nc' ns' pc' : Nat) (lsA' : Array Slot), Q r σ' → xi_R cl G D s A ad' ca' σ' H' locs' → xi_A σ ad σ' ad' → nc' ≤ md.2.2.1.2.2.1 → ns' ≤ md.2.2.1.2.2.2 → xi_ret md pc' r →
      W p l e R s m args below meth c H' locs' nc' ns' Z (F0 m pc' lsA' (r.toList.map (xi_v ad'))))
    (hd : decode md.1.2.2 pc = .ok (.lmul, 1)) (h : xi_L2 (fun x y t => X' μ (pc + 1) ls (.long (x * y) :: t) σ nc ns Q) st) : W p l e R s m args below meth c H locs nc ns Z (F0 m pc lsA (st.map (xi_v ad))) := by
  obtain ⟨hx, hb, hml, hown, hts, hA, hKc, hfr, hlo, hce, hsl, hin⟩ := id hC
  obtain ⟨x, y, t, rfl, h⟩ := xi_L2_of h
  exact lv_lmul hx hb hd (xi_keep hX' hmd hC hO hR hret _ _ _ h _ hl)
theorem xi_s_land {X' : xiX} (hX' : ∀ μ pc ls st σ nc ns Q, X' μ pc ls st σ nc ns Q → xi_OK T cl zs l G μ pc ls st σ nc ns Q) {μ pc : Nat} {ls : List (Option Value)} {st : List Value} {σ : xiS} {nc ns : Nat} {Q : xiQ} {md : xiM} (hmd : G.1[μ]? = some md) {p : Program} {e : Env} {s : State} {m : MethodId} {args : Array Value} {below : List Frame} {meth : Method} {c : Code} {R : Room} {Z : State → Prop} {D : va_G} {A : Nat → Prop} {ad : Nat → Nat} {ca : Nat → ClassId} {H : Heap} {locs : List Loc} {lsA : Array Slot}
    (hC : xi_C T cl G D p s m args meth c R md A) (hO : xi_O zs G A ad s s.heap) (hR : xi_R cl G D s A ad ca σ H locs) (hl : lv_has lsA md.2.1.1 (xi_l ad ls))
    (hret : ∀ (r : Option Value) (σ' : xiS) (ad' : Nat → Nat) (ca' : Nat → ClassId) (H' : Heap) (locs' : List Loc) (nc' ns' pc' : Nat) (lsA' : Array Slot), Q r σ' → xi_R cl G D s A ad' ca' σ' H' locs' → xi_A σ ad σ' ad' → nc' ≤ md.2.2.1.2.2.1 → ns' ≤ md.2.2.1.2.2.2 → xi_ret md pc' r →
      W p l e R s m args below meth c H' locs' nc' ns' Z (F0 m pc' lsA' (r.toList.map (xi_v ad'))))
    (hd : decode md.1.2.2 pc = .ok (.land, 1)) (h : xi_L2 (fun x y t => X' μ (pc + 1) ls (.long (x &&& y) :: t) σ nc ns Q) st) : W p l e R s m args below meth c H locs nc ns Z (F0 m pc lsA (st.map (xi_v ad))) := by
  obtain ⟨hx, hb, hml, hown, hts, hA, hKc, hfr, hlo, hce, hsl, hin⟩ := id hC
  obtain ⟨x, y, t, rfl, h⟩ := xi_L2_of h
  exact lv_land hx hb hd (xi_keep hX' hmd hC hO hR hret _ _ _ h _ hl)
theorem xi_s_lor {X' : xiX} (hX' : ∀ μ pc ls st σ nc ns Q, X' μ pc ls st σ nc ns Q → xi_OK T cl zs l G μ pc ls st σ nc ns Q) {μ pc : Nat} {ls : List (Option Value)} {st : List Value} {σ : xiS} {nc ns : Nat} {Q : xiQ} {md : xiM} (hmd : G.1[μ]? = some md) {p : Program} {e : Env} {s : State} {m : MethodId} {args : Array Value} {below : List Frame} {meth : Method} {c : Code} {R : Room} {Z : State → Prop} {D : va_G} {A : Nat → Prop} {ad : Nat → Nat} {ca : Nat → ClassId} {H : Heap} {locs : List Loc} {lsA : Array Slot}
    (hC : xi_C T cl G D p s m args meth c R md A) (hO : xi_O zs G A ad s s.heap) (hR : xi_R cl G D s A ad ca σ H locs) (hl : lv_has lsA md.2.1.1 (xi_l ad ls))
    (hret : ∀ (r : Option Value) (σ' : xiS) (ad' : Nat → Nat) (ca' : Nat → ClassId) (H' : Heap) (locs' : List Loc) (nc' ns' pc' : Nat) (lsA' : Array Slot), Q r σ' → xi_R cl G D s A ad' ca' σ' H' locs' → xi_A σ ad σ' ad' → nc' ≤ md.2.2.1.2.2.1 → ns' ≤ md.2.2.1.2.2.2 → xi_ret md pc' r →
      W p l e R s m args below meth c H' locs' nc' ns' Z (F0 m pc' lsA' (r.toList.map (xi_v ad'))))
    (hd : decode md.1.2.2 pc = .ok (.lor, 1)) (h : xi_L2 (fun x y t => X' μ (pc + 1) ls (.long (x ||| y) :: t) σ nc ns Q) st) : W p l e R s m args below meth c H locs nc ns Z (F0 m pc lsA (st.map (xi_v ad))) := by
  obtain ⟨hx, hb, hml, hown, hts, hA, hKc, hfr, hlo, hce, hsl, hin⟩ := id hC
  obtain ⟨x, y, t, rfl, h⟩ := xi_L2_of h
  exact lv_lor hx hb hd (xi_keep hX' hmd hC hO hR hret _ _ _ h _ hl)
theorem xi_s_lxor {X' : xiX} (hX' : ∀ μ pc ls st σ nc ns Q, X' μ pc ls st σ nc ns Q → xi_OK T cl zs l G μ pc ls st σ nc ns Q) {μ pc : Nat} {ls : List (Option Value)} {st : List Value} {σ : xiS} {nc ns : Nat} {Q : xiQ} {md : xiM} (hmd : G.1[μ]? = some md) {p : Program} {e : Env} {s : State} {m : MethodId} {args : Array Value} {below : List Frame} {meth : Method} {c : Code} {R : Room} {Z : State → Prop} {D : va_G} {A : Nat → Prop} {ad : Nat → Nat} {ca : Nat → ClassId} {H : Heap} {locs : List Loc} {lsA : Array Slot}
    (hC : xi_C T cl G D p s m args meth c R md A) (hO : xi_O zs G A ad s s.heap) (hR : xi_R cl G D s A ad ca σ H locs) (hl : lv_has lsA md.2.1.1 (xi_l ad ls))
    (hret : ∀ (r : Option Value) (σ' : xiS) (ad' : Nat → Nat) (ca' : Nat → ClassId) (H' : Heap) (locs' : List Loc) (nc' ns' pc' : Nat) (lsA' : Array Slot), Q r σ' → xi_R cl G D s A ad' ca' σ' H' locs' → xi_A σ ad σ' ad' → nc' ≤ md.2.2.1.2.2.1 → ns' ≤ md.2.2.1.2.2.2 → xi_ret md pc' r →
      W p l e R s m args below meth c H' locs' nc' ns' Z (F0 m pc' lsA' (r.toList.map (xi_v ad'))))
    (hd : decode md.1.2.2 pc = .ok (.lxor, 1)) (h : xi_L2 (fun x y t => X' μ (pc + 1) ls (.long (x ^^^ y) :: t) σ nc ns Q) st) : W p l e R s m args below meth c H locs nc ns Z (F0 m pc lsA (st.map (xi_v ad))) := by
  obtain ⟨hx, hb, hml, hown, hts, hA, hKc, hfr, hlo, hce, hsl, hin⟩ := id hC
  obtain ⟨x, y, t, rfl, h⟩ := xi_L2_of h
  exact lv_lxor hx hb hd (xi_keep hX' hmd hC hO hR hret _ _ _ h _ hl)
theorem xi_s_ldiv {X' : xiX} (hX' : ∀ μ pc ls st σ nc ns Q, X' μ pc ls st σ nc ns Q → xi_OK T cl zs l G μ pc ls st σ nc ns Q) {μ pc : Nat} {ls : List (Option Value)} {st : List Value} {σ : xiS} {nc ns : Nat} {Q : xiQ} {md : xiM} (hmd : G.1[μ]? = some md) {p : Program} {e : Env} {s : State} {m : MethodId} {args : Array Value} {below : List Frame} {meth : Method} {c : Code} {R : Room} {Z : State → Prop} {D : va_G} {A : Nat → Prop} {ad : Nat → Nat} {ca : Nat → ClassId} {H : Heap} {locs : List Loc} {lsA : Array Slot}
    (hC : xi_C T cl G D p s m args meth c R md A) (hO : xi_O zs G A ad s s.heap) (hR : xi_R cl G D s A ad ca σ H locs) (hl : lv_has lsA md.2.1.1 (xi_l ad ls))
    (hret : ∀ (r : Option Value) (σ' : xiS) (ad' : Nat → Nat) (ca' : Nat → ClassId) (H' : Heap) (locs' : List Loc) (nc' ns' pc' : Nat) (lsA' : Array Slot), Q r σ' → xi_R cl G D s A ad' ca' σ' H' locs' → xi_A σ ad σ' ad' → nc' ≤ md.2.2.1.2.2.1 → ns' ≤ md.2.2.1.2.2.2 → xi_ret md pc' r →
      W p l e R s m args below meth c H' locs' nc' ns' Z (F0 m pc' lsA' (r.toList.map (xi_v ad'))))
    (hd : decode md.1.2.2 pc = .ok (.ldiv, 1)) (h : xi_L2 (fun x y t => ¬ y = 0 ∧ X' μ (pc + 1) ls (.long (x / y) :: t) σ nc ns Q) st) : W p l e R s m args below meth c H locs nc ns Z (F0 m pc lsA (st.map (xi_v ad))) := by
  obtain ⟨hx, hb, hml, hown, hts, hA, hKc, hfr, hlo, hce, hsl, hin⟩ := id hC
  obtain ⟨x, y, t, rfl, hne, h⟩ := xi_L2_of h
  exact lv_ldiv hx hb hd hne (xi_keep hX' hmd hC hO hR hret _ _ _ h _ hl)
theorem xi_s_lrem {X' : xiX} (hX' : ∀ μ pc ls st σ nc ns Q, X' μ pc ls st σ nc ns Q → xi_OK T cl zs l G μ pc ls st σ nc ns Q) {μ pc : Nat} {ls : List (Option Value)} {st : List Value} {σ : xiS} {nc ns : Nat} {Q : xiQ} {md : xiM} (hmd : G.1[μ]? = some md) {p : Program} {e : Env} {s : State} {m : MethodId} {args : Array Value} {below : List Frame} {meth : Method} {c : Code} {R : Room} {Z : State → Prop} {D : va_G} {A : Nat → Prop} {ad : Nat → Nat} {ca : Nat → ClassId} {H : Heap} {locs : List Loc} {lsA : Array Slot}
    (hC : xi_C T cl G D p s m args meth c R md A) (hO : xi_O zs G A ad s s.heap) (hR : xi_R cl G D s A ad ca σ H locs) (hl : lv_has lsA md.2.1.1 (xi_l ad ls))
    (hret : ∀ (r : Option Value) (σ' : xiS) (ad' : Nat → Nat) (ca' : Nat → ClassId) (H' : Heap) (locs' : List Loc) (nc' ns' pc' : Nat) (lsA' : Array Slot), Q r σ' → xi_R cl G D s A ad' ca' σ' H' locs' → xi_A σ ad σ' ad' → nc' ≤ md.2.2.1.2.2.1 → ns' ≤ md.2.2.1.2.2.2 → xi_ret md pc' r →
      W p l e R s m args below meth c H' locs' nc' ns' Z (F0 m pc' lsA' (r.toList.map (xi_v ad'))))
    (hd : decode md.1.2.2 pc = .ok (.lrem, 1)) (h : xi_L2 (fun x y t => ¬ y = 0 ∧ X' μ (pc + 1) ls (.long (x - x / y * y) :: t) σ nc ns Q) st) : W p l e R s m args below meth c H locs nc ns Z (F0 m pc lsA (st.map (xi_v ad))) := by
  obtain ⟨hx, hb, hml, hown, hts, hA, hKc, hfr, hlo, hce, hsl, hin⟩ := id hC
  obtain ⟨x, y, t, rfl, hne, h⟩ := xi_L2_of h
  exact lv_lrem hx hb hd hne (xi_keep hX' hmd hC hO hR hret _ _ _ h _ hl)
theorem xi_s_lcmp {X' : xiX} (hX' : ∀ μ pc ls st σ nc ns Q, X' μ pc ls st σ nc ns Q → xi_OK T cl zs l G μ pc ls st σ nc ns Q) {μ pc : Nat} {ls : List (Option Value)} {st : List Value} {σ : xiS} {nc ns : Nat} {Q : xiQ} {md : xiM} (hmd : G.1[μ]? = some md) {p : Program} {e : Env} {s : State} {m : MethodId} {args : Array Value} {below : List Frame} {meth : Method} {c : Code} {R : Room} {Z : State → Prop} {D : va_G} {A : Nat → Prop} {ad : Nat → Nat} {ca : Nat → ClassId} {H : Heap} {locs : List Loc} {lsA : Array Slot}
    (hC : xi_C T cl G D p s m args meth c R md A) (hO : xi_O zs G A ad s s.heap) (hR : xi_R cl G D s A ad ca σ H locs) (hl : lv_has lsA md.2.1.1 (xi_l ad ls))
    (hret : ∀ (r : Option Value) (σ' : xiS) (ad' : Nat → Nat) (ca' : Nat → ClassId) (H' : Heap) (locs' : List Loc) (nc' ns' pc' : Nat) (lsA' : Array Slot), Q r σ' → xi_R cl G D s A ad' ca' σ' H' locs' → xi_A σ ad σ' ad' → nc' ≤ md.2.2.1.2.2.1 → ns' ≤ md.2.2.1.2.2.2 → xi_ret md pc' r →
      W p l e R s m args below meth c H' locs' nc' ns' Z (F0 m pc' lsA' (r.toList.map (xi_v ad'))))
    (hd : decode md.1.2.2 pc = .ok (.lcmp, 1)) (h : xi_L2 (fun x y t => X' μ (pc + 1) ls (.int (lg_cmp x y) :: t) σ nc ns Q) st) : W p l e R s m args below meth c H locs nc ns Z (F0 m pc lsA (st.map (xi_v ad))) := by
  obtain ⟨hx, hb, hml, hown, hts, hA, hKc, hfr, hlo, hce, hsl, hin⟩ := id hC
  obtain ⟨x, y, t, rfl, h⟩ := xi_L2_of h
  exact W.lcmp hx hb hd (xi_keep hX' hmd hC hO hR hret _ _ _ h _ hl)
theorem xi_s_lshl {X' : xiX} (hX' : ∀ μ pc ls st σ nc ns Q, X' μ pc ls st σ nc ns Q → xi_OK T cl zs l G μ pc ls st σ nc ns Q) {μ pc : Nat} {ls : List (Option Value)} {st : List Value} {σ : xiS} {nc ns : Nat} {Q : xiQ} {md : xiM} (hmd : G.1[μ]? = some md) {p : Program} {e : Env} {s : State} {m : MethodId} {args : Array Value} {below : List Frame} {meth : Method} {c : Code} {R : Room} {Z : State → Prop} {D : va_G} {A : Nat → Prop} {ad : Nat → Nat} {ca : Nat → ClassId} {H : Heap} {locs : List Loc} {lsA : Array Slot}
    (hC : xi_C T cl G D p s m args meth c R md A) (hO : xi_O zs G A ad s s.heap) (hR : xi_R cl G D s A ad ca σ H locs) (hl : lv_has lsA md.2.1.1 (xi_l ad ls))
    (hret : ∀ (r : Option Value) (σ' : xiS) (ad' : Nat → Nat) (ca' : Nat → ClassId) (H' : Heap) (locs' : List Loc) (nc' ns' pc' : Nat) (lsA' : Array Slot), Q r σ' → xi_R cl G D s A ad' ca' σ' H' locs' → xi_A σ ad σ' ad' → nc' ≤ md.2.2.1.2.2.1 → ns' ≤ md.2.2.1.2.2.2 → xi_ret md pc' r →
      W p l e R s m args below meth c H' locs' nc' ns' Z (F0 m pc' lsA' (r.toList.map (xi_v ad'))))
    {x : Int64} {y : Int32} {t : List Value} (hst : st = .int y :: .long x :: t) (hd : decode md.1.2.2 pc = .ok (.lshl, 1)) (h : X' μ (pc + 1) ls (.long (x <<< (y.toInt64 &&& 63)) :: t) σ nc ns Q) : W p l e R s m args below meth c H locs nc ns Z (F0 m pc lsA (st.map (xi_v ad))) := by
  obtain ⟨hx, hb, hml, hown, hts, hA, hKc, hfr, hlo, hce, hsl, hin⟩ := id hC
  subst hst
  exact lv_lshl hx hb hd rfl (xi_keep hX' hmd hC hO hR hret _ _ _ h _ hl)
theorem xi_s_dup {X' : xiX} (hX' : ∀ μ pc ls st σ nc ns Q, X' μ pc ls st σ nc ns Q → xi_OK T cl zs l G μ pc ls st σ nc ns Q) {μ pc : Nat} {ls : List (Option Value)} {st : List Value} {σ : xiS} {nc ns : Nat} {Q : xiQ} {md : xiM} (hmd : G.1[μ]? = some md) {p : Program} {e : Env} {s : State} {m : MethodId} {args : Array Value} {below : List Frame} {meth : Method} {c : Code} {R : Room} {Z : State → Prop} {D : va_G} {A : Nat → Prop} {ad : Nat → Nat} {ca : Nat → ClassId} {H : Heap} {locs : List Loc} {lsA : Array Slot}
    (hC : xi_C T cl G D p s m args meth c R md A) (hO : xi_O zs G A ad s s.heap) (hR : xi_R cl G D s A ad ca σ H locs) (hl : lv_has lsA md.2.1.1 (xi_l ad ls))
    (hret : ∀ (r : Option Value) (σ' : xiS) (ad' : Nat → Nat) (ca' : Nat → ClassId) (H' : Heap) (locs' : List Loc) (nc' ns' pc' : Nat) (lsA' : Array Slot), Q r σ' → xi_R cl G D s A ad' ca' σ' H' locs' → xi_A σ ad σ' ad' → nc' ≤ md.2.2.1.2.2.1 → ns' ≤ md.2.2.1.2.2.2 → xi_ret md pc' r →
      W p l e R s m args below meth c H' locs' nc' ns' Z (F0 m pc' lsA' (r.toList.map (xi_v ad'))))
    {v : Value} {t : List Value} (hst : st = v :: t) (hd : decode md.1.2.2 pc = .ok (.dup, 1)) (h : xi_b (Nat.beq v.category 1) (X' μ (pc + 1) ls (v :: v :: t) σ nc ns Q)) : W p l e R s m args below meth c H locs nc ns Z (F0 m pc lsA (st.map (xi_v ad))) := by
  obtain ⟨hx, hb, hml, hown, hts, hA, hKc, hfr, hlo, hce, hsl, hin⟩ := id hC
  subst hst
  obtain ⟨hc, h⟩ := xi_b_of h
  exact lv_dup hx hb hd (by rw [xi_v_cat]; exact Nat.eq_of_beq_eq_true hc) (xi_keep hX' hmd hC hO hR hret _ _ _ h _ hl)
theorem xi_s_dup2 {X' : xiX} (hX' : ∀ μ pc ls st σ nc ns Q, X' μ pc ls st σ nc ns Q → xi_OK T cl zs l G μ pc ls st σ nc ns Q) {μ pc : Nat} {ls : List (Option Value)} {st : List Value} {σ : xiS} {nc ns : Nat} {Q : xiQ} {md : xiM} (hmd : G.1[μ]? = some md) {p : Program} {e : Env} {s : State} {m : MethodId} {args : Array Value} {below : List Frame} {meth : Method} {c : Code} {R : Room} {Z : State → Prop} {D : va_G} {A : Nat → Prop} {ad : Nat → Nat} {ca : Nat → ClassId} {H : Heap} {locs : List Loc} {lsA : Array Slot}
    (hC : xi_C T cl G D p s m args meth c R md A) (hO : xi_O zs G A ad s s.heap) (hR : xi_R cl G D s A ad ca σ H locs) (hl : lv_has lsA md.2.1.1 (xi_l ad ls))
    (hret : ∀ (r : Option Value) (σ' : xiS) (ad' : Nat → Nat) (ca' : Nat → ClassId) (H' : Heap) (locs' : List Loc) (nc' ns' pc' : Nat) (lsA' : Array Slot), Q r σ' → xi_R cl G D s A ad' ca' σ' H' locs' → xi_A σ ad σ' ad' → nc' ≤ md.2.2.1.2.2.1 → ns' ≤ md.2.2.1.2.2.2 → xi_ret md pc' r →
      W p l e R s m args below meth c H' locs' nc' ns' Z (F0 m pc' lsA' (r.toList.map (xi_v ad'))))
    {va vb : Value} {t : List Value} (hst : st = va :: vb :: t) (hd : decode md.1.2.2 pc = .ok (.dup2, 1)) (h : xi_b (Nat.beq va.category 1 && Nat.beq vb.category 1) (X' μ (pc + 1) ls (va :: vb :: va :: vb :: t) σ nc ns Q)) : W p l e R s m args below meth c H locs nc ns Z (F0 m pc lsA (st.map (xi_v ad))) := by
  obtain ⟨hx, hb, hml, hown, hts, hA, hKc, hfr, hlo, hce, hsl, hin⟩ := id hC
  subst hst
  obtain ⟨hc, h⟩ := xi_b_of h
  simp only [Bool.and_eq_true] at hc
  exact lv_dup2_11 hx hb hd (by rw [xi_v_cat]; exact Nat.eq_of_beq_eq_true hc.1) (by rw [xi_v_cat]; exact Nat.eq_of_beq_eq_true hc.2) (xi_keep hX' hmd hC hO hR hret _ _ _ h _ hl)
theorem xi_s_pop2 {X' : xiX} (hX' : ∀ μ pc ls st σ nc ns Q, X' μ pc ls st σ nc ns Q → xi_OK T cl zs l G μ pc ls st σ nc ns Q) {μ pc : Nat} {ls : List (Option Value)} {st : List Value} {σ : xiS} {nc ns : Nat} {Q : xiQ} {md : xiM} (hmd : G.1[μ]? = some md) {p : Program} {e : Env} {s : State} {m : MethodId} {args : Array Value} {below : List Frame} {meth : Method} {c : Code} {R : Room} {Z : State → Prop} {D : va_G} {A : Nat → Prop} {ad : Nat → Nat} {ca : Nat → ClassId} {H : Heap} {locs : List Loc} {lsA : Array Slot}
    (hC : xi_C T cl G D p s m args meth c R md A) (hO : xi_O zs G A ad s s.heap) (hR : xi_R cl G D s A ad ca σ H locs) (hl : lv_has lsA md.2.1.1 (xi_l ad ls))
    (hret : ∀ (r : Option Value) (σ' : xiS) (ad' : Nat → Nat) (ca' : Nat → ClassId) (H' : Heap) (locs' : List Loc) (nc' ns' pc' : Nat) (lsA' : Array Slot), Q r σ' → xi_R cl G D s A ad' ca' σ' H' locs' → xi_A σ ad σ' ad' → nc' ≤ md.2.2.1.2.2.1 → ns' ≤ md.2.2.1.2.2.2 → xi_ret md pc' r →
      W p l e R s m args below meth c H' locs' nc' ns' Z (F0 m pc' lsA' (r.toList.map (xi_v ad'))))
    {va : Value} {t : List Value} (hst : st = va :: t) (hd : decode md.1.2.2 pc = .ok (.pop2, 1)) (h : xi_b (Nat.beq va.category 2) (X' μ (pc + 1) ls t σ nc ns Q)) : W p l e R s m args below meth c H locs nc ns Z (F0 m pc lsA (st.map (xi_v ad))) := by
  obtain ⟨hx, hb, hml, hown, hts, hA, hKc, hfr, hlo, hce, hsl, hin⟩ := id hC
  subst hst
  obtain ⟨hc, h⟩ := xi_b_of h
  exact lv_pop2_2 hx hb hd (by rw [xi_v_cat]; exact Nat.eq_of_beq_eq_true hc) (xi_keep hX' hmd hC hO hR hret _ _ _ h _ hl)
theorem xi_s_ifCond {X' : xiX} (hX' : ∀ μ pc ls st σ nc ns Q, X' μ pc ls st σ nc ns Q → xi_OK T cl zs l G μ pc ls st σ nc ns Q) {μ pc : Nat} {ls : List (Option Value)} {st : List Value} {σ : xiS} {nc ns : Nat} {Q : xiQ} {md : xiM} (hmd : G.1[μ]? = some md) {p : Program} {e : Env} {s : State} {m : MethodId} {args : Array Value} {below : List Frame} {meth : Method} {c : Code} {R : Room} {Z : State → Prop} {D : va_G} {A : Nat → Prop} {ad : Nat → Nat} {ca : Nat → ClassId} {H : Heap} {locs : List Loc} {lsA : Array Slot}
    (hC : xi_C T cl G D p s m args meth c R md A) (hO : xi_O zs G A ad s s.heap) (hR : xi_R cl G D s A ad ca σ H locs) (hl : lv_has lsA md.2.1.1 (xi_l ad ls))
    (hret : ∀ (r : Option Value) (σ' : xiS) (ad' : Nat → Nat) (ca' : Nat → ClassId) (H' : Heap) (locs' : List Loc) (nc' ns' pc' : Nat) (lsA' : Array Slot), Q r σ' → xi_R cl G D s A ad' ca' σ' H' locs' → xi_A σ ad σ' ad' → nc' ≤ md.2.2.1.2.2.1 → ns' ≤ md.2.2.1.2.2.2 → xi_ret md pc' r →
      W p l e R s m args below meth c H' locs' nc' ns' Z (F0 m pc' lsA' (r.toList.map (xi_v ad'))))
    {cc : Jvm.ClassFile.Cond} {off : Int} (hd : decode md.1.2.2 pc = .ok (.ifCond cc off, 3)) (hg : xi_tg pc off = true) (h : xi_I1 (fun x t => xi_if cc x 0 (X' μ (xi_tgt pc off) ls t σ nc ns Q) (X' μ (pc + 3) ls t σ nc ns Q)) st) : W p l e R s m args below meth c H locs nc ns Z (F0 m pc lsA (st.map (xi_v ad))) := by
  obtain ⟨hx, hb, hml, hown, hts, hA, hKc, hfr, hlo, hce, hsl, hin⟩ := id hC
  obtain ⟨x, t, rfl, h⟩ := xi_I1_of h
  have htg : (pc : Int) + off = (xi_tgt pc off : Int) := xi_tgt_eq rfl (of_decide_eq_true hg)
  unfold xi_if at h
  cases cc <;> dsimp only at h
  · exact lv_if_eq hx hb hd htg (fun z => xi_keep hX' hmd hC hO hR hret _ _ _ (h.1 z) _ hl) (fun z => xi_keep hX' hmd hC hO hR hret _ _ _ (h.2 z) _ hl)
  · exact lv_if_ne hx hb hd htg (fun z => xi_keep hX' hmd hC hO hR hret _ _ _ (h.1 z) _ hl) (fun z => xi_keep hX' hmd hC hO hR hret _ _ _ (h.2 z) _ hl)
  · exact lv_if_lt hx hb hd htg (fun z => xi_keep hX' hmd hC hO hR hret _ _ _ (h.1 z) _ hl) (fun z => xi_keep hX' hmd hC hO hR hret _ _ _ (h.2 z) _ hl)
  · exact lv_if_ge hx hb hd htg (fun z => xi_keep hX' hmd hC hO hR hret _ _ _ (h.1 z) _ hl) (fun z => xi_keep hX' hmd hC hO hR hret _ _ _ (h.2 z) _ hl)
  · exact lv_if_gt hx hb hd htg (fun z => xi_keep hX' hmd hC hO hR hret _ _ _ (h.1 z) _ hl) (fun z => xi_keep hX' hmd hC hO hR hret _ _ _ (h.2 z) _ hl)
  · exact lv_if_le hx hb hd htg (fun z => xi_keep hX' hmd hC hO hR hret _ _ _ (h.1 z) _ hl) (fun z => xi_keep hX' hmd hC hO hR hret _ _ _ (h.2 z) _ hl)
theorem xi_s_if_icmp {X' : xiX} (hX' : ∀ μ pc ls st σ nc ns Q, X' μ pc ls st σ nc ns Q → xi_OK T cl zs l G μ pc ls st σ nc ns Q) {μ pc : Nat} {ls : List (Option Value)} {st : List Value} {σ : xiS} {nc ns : Nat} {Q : xiQ} {md : xiM} (hmd : G.1[μ]? = some md) {p : Program} {e : Env} {s : State} {m : MethodId} {args : Array Value} {below : List Frame} {meth : Method} {c : Code} {R : Room} {Z : State → Prop} {D : va_G} {A : Nat → Prop} {ad : Nat → Nat} {ca : Nat → ClassId} {H : Heap} {locs : List Loc} {lsA : Array Slot}
    (hC : xi_C T cl G D p s m args meth c R md A) (hO : xi_O zs G A ad s s.heap) (hR : xi_R cl G D s A ad ca σ H locs) (hl : lv_has lsA md.2.1.1 (xi_l ad ls))
    (hret : ∀ (r : Option Value) (σ' : xiS) (ad' : Nat → Nat) (ca' : Nat → ClassId) (H' : Heap) (locs' : List Loc) (nc' ns' pc' : Nat) (lsA' : Array Slot), Q r σ' → xi_R cl G D s A ad' ca' σ' H' locs' → xi_A σ ad σ' ad' → nc' ≤ md.2.2.1.2.2.1 → ns' ≤ md.2.2.1.2.2.2 → xi_ret md pc' r →
      W p l e R s m args below meth c H' locs' nc' ns' Z (F0 m pc' lsA' (r.toList.map (xi_v ad'))))
    {cc : Jvm.ClassFile.Cond} {off : Int} (hd : decode md.1.2.2 pc = .ok (.if_icmp cc off, 3)) (hg : xi_tg pc off = true) (h : xi_I2 (fun x y t => xi_if cc x y (X' μ (xi_tgt pc off) ls t σ nc ns Q) (X' μ (pc + 3) ls t σ nc ns Q)) st) : W p l e R s m args below meth c H locs nc ns Z (F0 m pc lsA (st.map (xi_v ad))) := by
  obtain ⟨hx, hb, hml, hown, hts, hA, hKc, hfr, hlo, hce, hsl, hin⟩ := id hC
  obtain ⟨x, y, t, rfl, h⟩ := xi_I2_of h
  have htg : (pc : Int) + off = (xi_tgt pc off : Int) := xi_tgt_eq rfl (of_decide_eq_true hg)
  unfold xi_if at h
  cases cc <;> dsimp only at h
  · exact lv_icmp_eq hx hb hd htg (fun z => xi_keep hX' hmd hC hO hR hret _ _ _ (h.1 z) _ hl) (fun z => xi_keep hX' hmd hC hO hR hret _ _ _ (h.2 z) _ hl)
  · exact lv_icmp_ne hx hb hd htg (fun z => xi_keep hX' hmd hC hO hR hret _ _ _ (h.1 z) _ hl) (fun z => xi_keep hX' hmd hC hO hR hret _ _ _ (h.2 z) _ hl)
  · exact lv_icmp_lt hx hb hd htg (fun z => xi_keep hX' hmd hC hO hR hret _ _ _ (h.1 z) _ hl) (fun z => xi_keep hX' hmd hC hO hR hret _ _ _ (h.2 z) _ hl)
  · exact lv_icmp_ge hx hb hd htg (fun z => xi_keep hX' hmd hC hO hR hret _ _ _ (h.1 z) _ hl) (fun z => xi_keep hX' hmd hC hO hR hret _ _ _ (h.2 z) _ hl)
  · exact lv_icmp_gt hx hb hd htg (fun z => xi_keep hX' hmd hC hO hR hret _ _ _ (h.1 z) _ hl) (fun z => xi_keep hX' hmd hC hO hR hret _ _ _ (h.2 z) _ hl)
  · exact lv_icmp_le hx hb hd htg (fun z => xi_keep hX' hmd hC hO hR hret _ _ _ (h.1 z) _ hl) (fun z => xi_keep hX' hmd hC hO hR hret _ _ _ (h.2 z) _ hl)
theorem xi_s_goto {X' : xiX} (hX' : ∀ μ pc ls st σ nc ns Q, X' μ pc ls st σ nc ns Q → xi_OK T cl zs l G μ pc ls st σ nc ns Q) {μ pc : Nat} {ls : List (Option Value)} {st : List Value} {σ : xiS} {nc ns : Nat} {Q : xiQ} {md : xiM} (hmd : G.1[μ]? = some md) {p : Program} {e : Env} {s : State} {m : MethodId} {args : Array Value} {below : List Frame} {meth : Method} {c : Code} {R : Room} {Z : State → Prop} {D : va_G} {A : Nat → Prop} {ad : Nat → Nat} {ca : Nat → ClassId} {H : Heap} {locs : List Loc} {lsA : Array Slot}
    (hC : xi_C T cl G D p s m args meth c R md A) (hO : xi_O zs G A ad s s.heap) (hR : xi_R cl G D s A ad ca σ H locs) (hl : lv_has lsA md.2.1.1 (xi_l ad ls))
    (hret : ∀ (r : Option Value) (σ' : xiS) (ad' : Nat → Nat) (ca' : Nat → ClassId) (H' : Heap) (locs' : List Loc) (nc' ns' pc' : Nat) (lsA' : Array Slot), Q r σ' → xi_R cl G D s A ad' ca' σ' H' locs' → xi_A σ ad σ' ad' → nc' ≤ md.2.2.1.2.2.1 → ns' ≤ md.2.2.1.2.2.2 → xi_ret md pc' r →
      W p l e R s m args below meth c H' locs' nc' ns' Z (F0 m pc' lsA' (r.toList.map (xi_v ad'))))
    {off : Int} (hd : decode md.1.2.2 pc = .ok (.goto off, 3)) (hg : xi_tg pc off = true) (h : X' μ (xi_tgt pc off) ls st σ nc ns Q) : W p l e R s m args below meth c H locs nc ns Z (F0 m pc lsA (st.map (xi_v ad))) := by
  obtain ⟨hx, hb, hml, hown, hts, hA, hKc, hfr, hlo, hce, hsl, hin⟩ := id hC
  exact lv_goto hx hb hd (xi_tgt_eq rfl (of_decide_eq_true hg)) (xi_keep hX' hmd hC hO hR hret _ _ _ h _ hl)
theorem xi_s_tableswitch {X' : xiX} (hX' : ∀ μ pc ls st σ nc ns Q, X' μ pc ls st σ nc ns Q → xi_OK T cl zs l G μ pc ls st σ nc ns Q) {μ pc : Nat} {ls : List (Option Value)} {st : List Value} {σ : xiS} {nc ns : Nat} {Q : xiQ} {md : xiM} (hmd : G.1[μ]? = some md) {p : Program} {e : Env} {s : State} {m : MethodId} {args : Array Value} {below : List Frame} {meth : Method} {c : Code} {R : Room} {Z : State → Prop} {D : va_G} {A : Nat → Prop} {ad : Nat → Nat} {ca : Nat → ClassId} {H : Heap} {locs : List Loc} {lsA : Array Slot}
    (hC : xi_C T cl G D p s m args meth c R md A) (hO : xi_O zs G A ad s s.heap) (hR : xi_R cl G D s A ad ca σ H locs) (hl : lv_has lsA md.2.1.1 (xi_l ad ls))
    (hret : ∀ (r : Option Value) (σ' : xiS) (ad' : Nat → Nat) (ca' : Nat → ClassId) (H' : Heap) (locs' : List Loc) (nc' ns' pc' : Nat) (lsA' : Array Slot), Q r σ' → xi_R cl G D s A ad' ca' σ' H' locs' → xi_A σ ad σ' ad' → nc' ≤ md.2.2.1.2.2.1 → ns' ≤ md.2.2.1.2.2.2 → xi_ret md pc' r →
      W p l e R s m args below meth c H' locs' nc' ns' Z (F0 m pc' lsA' (r.toList.map (xi_v ad'))))
    {d lo hi : Int} {offs : Array Int} {len : Nat} (hd : decode md.1.2.2 pc = .ok (.tableswitch d lo hi offs, len)) (hg : offs.toList.length = (hi - lo + 1).toNat) (hg1 : xi_tg pc d = true) (hg2 : offs.toList.all (xi_tg pc) = true) (h : xi_I1 (fun x t => ((x.toInt < lo ∨ hi < x.toInt) → X' μ (xi_tgt pc d) ls t σ nc ns Q) ∧ xi_sw (fun g => X' μ g ls t σ nc ns Q) pc x lo offs.toList) st) : W p l e R s m args below meth c H locs nc ns Z (F0 m pc lsA (st.map (xi_v ad))) := by
  obtain ⟨hx, hb, hml, hown, hts, hA, hKc, hfr, hlo, hce, hsl, hin⟩ := id hC
  obtain ⟨x, t, rfl, h1, h2⟩ := xi_I1_of h
  by_cases h3 : x.toInt < lo ∨ hi < x.toInt
  · exact lv_tableOut hx hb hd h3 (xi_tgt_eq rfl (of_decide_eq_true hg1)) (xi_keep hX' hmd hC hO hR hret _ _ _ (h1 h3) _ hl)
  · have a1 : ¬ x.toInt < lo := fun z => h3 (Or.inl z)
    have a2 : ¬ hi < x.toInt := fun z => h3 (Or.inr z)
    have a3 : (x.toInt - lo).toNat < offs.toList.length := by rw [hg]; omega
    have a4 : offs.toList[(x.toInt - lo).toNat]? = some offs.toList[(x.toInt - lo).toNat] := List.getElem?_eq_getElem a3
    have a5 := List.all_eq_true.mp hg2 _ (List.getElem_mem a3)
    exact lv_tableIn hx hb hd a1 a2 (by rw [← Array.getElem?_toList]; exact a4) (xi_tgt_eq rfl (of_decide_eq_true a5)) (xi_keep hX' hmd hC hO hR hret _ _ _ (xi_sw_at _ _ h2 _ _ a4 (by omega)) _ hl)
end XIS2
end
section
section XIS3
theorem xi_w8_eq (ad : Nat → Nat) : ∀ t : List Value, ((t.map (xi_v ad)).map fun v => v.category).sum = xi_w8 t
  | [] => rfl
  | v :: t => by
    have ih := xi_w8_eq ad t
    simp only [List.map_cons, List.sum_cons, xi_v_cat, xi_w8] at ih ⊢
    rw [ih]
variable {T : List Cond} {cl : List vw_C} {zs : xiZ} {tf : Nat → Nat → FieldType} {l : Launch} {G : xiG}
theorem xi_s_getfield {X' : xiX} (hX' : ∀ μ pc ls st σ nc ns Q, X' μ pc ls st σ nc ns Q → xi_OK T cl zs l G μ pc ls st σ nc ns Q) {μ pc : Nat} {ls : List (Option Value)} {st : List Value} {σ : xiS} {nc ns : Nat} {Q : xiQ} {md : xiM} (hmd : G.1[μ]? = some md) {p : Program} {e : Env} {s : State} {m : MethodId} {args : Array Value} {below : List Frame} {meth : Method} {c : Code} {R : Room} {Z : State → Prop} {D : va_G} {A : Nat → Prop} {ad : Nat → Nat} {ca : Nat → ClassId} {H : Heap} {locs : List Loc} {lsA : Array Slot}
    (hC : xi_C T cl G D p s m args meth c R md A) (hO : xi_O zs G A ad s s.heap) (hR : xi_R cl G D s A ad ca σ H locs) (hl : lv_has lsA md.2.1.1 (xi_l ad ls))
    (hret : ∀ (r : Option Value) (σ' : xiS) (ad' : Nat → Nat) (ca' : Nat → ClassId) (H' : Heap) (locs' : List Loc) (nc' ns' pc' : Nat) (lsA' : Array Slot), Q r σ' → xi_R cl G D s A ad' ca' σ' H' locs' → xi_A σ ad σ' ad' → nc' ≤ md.2.2.1.2.2.1 → ns' ≤ md.2.2.1.2.2.2 → xi_ret md pc' r →
      W p l e R s m args below meth c H' locs' nc' ns' Z (F0 m pc' lsA' (r.toList.map (xi_v ad'))))
    {i o ci j : Nat} {q : vw_C} {t : List Value} (hst : st = .ref o :: t) (hd : decode md.1.2.2 pc = .ok (.getfield i, 3)) (ho : σ.1[o]? = some (0, ci)) (hq : cl[ci]? = some q) (hok : xi_okC T G.2.1 tf ci q) (hj : j < q.2.2) (hw : Cond.fieldLink md.1.2.1.cls i (q.2.1 j).1 (q.2.1 j).2.1 (q.2.1 j).2.2.1 ∈ T) (h : X' μ (pc + 3) ls (xi_fld G.2.1 σ o ci j :: t) σ nc ns Q) : W p l e R s m args below meth c H locs nc ns Z (F0 m pc lsA (st.map (xi_v ad))) := by
  obtain ⟨hx, hb, hml, hown, hts, hA, hKc, hfr, hlo, hce, hsl, hin⟩ := id hC
  obtain ⟨hP, hD, hS, hT, hF⟩ := id hR
  subst hst
  obtain ⟨k1, k2, k3, k4, k5⟩ := hok
  exact va_get (C := q.1) (T := q.2.1) (N := q.2.2) hx hb hts k1 hown (xi_K0 hKc) hP o (xi_ws_at ho) hq j hj (hts _ hw) (fun _ z => z) (xi_getD (by rw [← k2]; exact hj)) hd (xi_keep hX' hmd hC hO hR hret _ _ _ h _ hl)
theorem xi_s_putfield {X' : xiX} (hX' : ∀ μ pc ls st σ nc ns Q, X' μ pc ls st σ nc ns Q → xi_OK T cl zs l G μ pc ls st σ nc ns Q) {μ pc : Nat} {ls : List (Option Value)} {st : List Value} {σ : xiS} {nc ns : Nat} {Q : xiQ} {md : xiM} (hmd : G.1[μ]? = some md) {p : Program} {e : Env} {s : State} {m : MethodId} {args : Array Value} {below : List Frame} {meth : Method} {c : Code} {R : Room} {Z : State → Prop} {D : va_G} {A : Nat → Prop} {ad : Nat → Nat} {ca : Nat → ClassId} {H : Heap} {locs : List Loc} {lsA : Array Slot}
    (hC : xi_C T cl G D p s m args meth c R md A) (hO : xi_O zs G A ad s s.heap) (hR : xi_R cl G D s A ad ca σ H locs) (hl : lv_has lsA md.2.1.1 (xi_l ad ls))
    (hret : ∀ (r : Option Value) (σ' : xiS) (ad' : Nat → Nat) (ca' : Nat → ClassId) (H' : Heap) (locs' : List Loc) (nc' ns' pc' : Nat) (lsA' : Array Slot), Q r σ' → xi_R cl G D s A ad' ca' σ' H' locs' → xi_A σ ad σ' ad' → nc' ≤ md.2.2.1.2.2.1 → ns' ≤ md.2.2.1.2.2.2 → xi_ret md pc' r →
      W p l e R s m args below meth c H' locs' nc' ns' Z (F0 m pc' lsA' (r.toList.map (xi_v ad'))))
    {i o ci j : Nat} {q : vw_C} {v : Value} {t : List Value} {σ' : xiS} (hst : st = v :: .ref o :: t) (hd : decode md.1.2.2 pc = .ok (.putfield i, 3)) (ho : σ.1[o]? = some (0, ci)) (hq : cl[ci]? = some q) (hok : xi_okC T G.2.1 tf ci q) (hj : j < q.2.2) (hw : Cond.fieldLink md.1.2.1.cls i (q.2.1 j).1 (q.2.1 j).2.1 (q.2.1 j).2.2.1 ∈ T) (hfin : xi_fin md (q.2.1 j) = true) (hnw : narrow (tf ci j) (xi_v ad v) = xi_v ad v) (hft : fits (tf ci j) (xi_v ad v) = true)
    (h1 : σ'.1 = σ.1) (h2 : ∀ k, k ≠ o → σ'.2.1 k = σ.2.1 k) (h3 : ∀ k, k ≠ o → σ'.2.2.1 k = σ.2.2.1 k) (h4 : ∀ k, k ≠ o → σ'.2.2.2 k = σ.2.2.2 k) (h5 : xi_fld G.2.1 σ' o ci j = v) (h6 : ∀ k, k ≠ j → xi_fld G.2.1 σ' o ci k = xi_fld G.2.1 σ o ci k) (h7 : xi_F σ') (h : X' μ (pc + 3) ls t σ' nc ns Q) : W p l e R s m args below meth c H locs nc ns Z (F0 m pc lsA (st.map (xi_v ad))) := by
  obtain ⟨hx, hb, hml, hown, hts, hA, hKc, hfr, hlo, hce, hsl, hin⟩ := id hC
  obtain ⟨hP, hD, hS, hT, hF⟩ := id hR
  subst hst
  obtain ⟨k1, k2, k3, k4, k5⟩ := hok
  have e1 := xi_ws_set (fk := G.2.1) (ad := ad) (ca := ca) h1 ho h2 h3 h4
  have e2 : xi_cell G.2.1 ad ca σ' o (0, ci) = .inr (ci, ((List.range (G.2.1.getD ci []).length).map (fun k => xi_v ad (xi_fld G.2.1 σ o ci k))).set j (xi_v ad v)) := by
    rw [xi_cell_obj, xi_fs_set h5 h6]
  rw [e2] at e1
  have hlen : j < ((List.range (G.2.1.getD ci []).length).map (fun k => xi_v ad (xi_fld G.2.1 σ o ci k))).length := by rw [List.length_map, List.length_range, ← k2]; exact hj
  have kk : ∀ (H1 : Heap) (locs1 : List Loc), va_P D cl ((xi_ws G.2.1 ad ca σ).set o (ad o, .inr (ci, ((List.range (G.2.1.getD ci []).length).map (fun k => xi_v ad (xi_fld G.2.1 σ o ci k))).set j (xi_v ad v)))) H1 → va_D A ((xi_ws G.2.1 ad ca σ).set o (ad o, .inr (ci, ((List.range (G.2.1.getD ci []).length).map (fun k => xi_v ad (xi_fld G.2.1 σ o ci k))).set j (xi_v ad v)))) → va_S A s.heap H1 locs1 → W p l e R s m args below meth c H1 locs1 nc ns Z (F0 m (pc + 3) lsA (t.map (xi_v ad))) := by
    intro H1 locs1 hP1 hD1 hS1
    rw [← e1] at hP1 hD1
    refine hX' _ _ _ _ _ _ _ _ h md hmd p e s m args below meth c R Z D A ad ca H1 locs1 lsA hC hO ⟨hP1, hD1, hS1, ?_, h7⟩ hl ?_
    · intro k d hk; rw [h1] at hk; exact hT k d hk
    · intro r σ2 ad2 ca2 H2 locs2 nc2 ns2 pc2 lsA2 hQ hR2 hA2; exact hret r σ2 ad2 ca2 H2 locs2 nc2 ns2 pc2 lsA2 hQ hR2 ⟨fun k hk => hA2.1 k (by rw [h1]; exact hk), hA2.2.1, by rw [← h1]; exact hA2.2.2⟩
  cases hff : (q.2.1 j).2.2.2 with
  | false => exact va_put (C := q.1) (T := q.2.1) (N := q.2.2) hx hb hts k1 (tf ci) k4 k3 hown (xi_K0 hKc) hP hD hS o (xi_ws_at ho) hq j hj (hts _ hw) (fun _ z => z) hff (k4 j hj) hnw hft hlen hd kk
  | true =>
    unfold xi_fin at hfin
    rw [hff] at hfin
    simp only [Bool.and_eq_true, decide_eq_true_eq] at hfin
    exact va_putF (C := q.1) (T := q.2.1) (N := q.2.2) hx hb hts k1 (tf ci) k4 k3 hown (xi_K0 hKc) hP hD hS o (xi_ws_at ho) hq j hj (hts _ hw) (fun _ z => z) hff (hin hfin.1) hfin.2 (k4 j hj) hnw hft hlen hd kk
theorem xi_s_getstatic {X' : xiX} (hX' : ∀ μ pc ls st σ nc ns Q, X' μ pc ls st σ nc ns Q → xi_OK T cl zs l G μ pc ls st σ nc ns Q) {μ pc : Nat} {ls : List (Option Value)} {st : List Value} {σ : xiS} {nc ns : Nat} {Q : xiQ} {md : xiM} (hmd : G.1[μ]? = some md) {p : Program} {e : Env} {s : State} {m : MethodId} {args : Array Value} {below : List Frame} {meth : Method} {c : Code} {R : Room} {Z : State → Prop} {D : va_G} {A : Nat → Prop} {ad : Nat → Nat} {ca : Nat → ClassId} {H : Heap} {locs : List Loc} {lsA : Array Slot}
    (hC : xi_C T cl G D p s m args meth c R md A) (hO : xi_O zs G A ad s s.heap) (hR : xi_R cl G D s A ad ca σ H locs) (hl : lv_has lsA md.2.1.1 (xi_l ad ls))
    (hret : ∀ (r : Option Value) (σ' : xiS) (ad' : Nat → Nat) (ca' : Nat → ClassId) (H' : Heap) (locs' : List Loc) (nc' ns' pc' : Nat) (lsA' : Array Slot), Q r σ' → xi_R cl G D s A ad' ca' σ' H' locs' → xi_A σ ad σ' ad' → nc' ≤ md.2.2.1.2.2.1 → ns' ≤ md.2.2.1.2.2.2 → xi_ret md pc' r →
      W p l e R s m args below meth c H' locs' nc' ns' Z (F0 m pc' lsA' (r.toList.map (xi_v ad'))))
    {i j : Nat} {z : String × String × String} (hd : decode md.1.2.2 pc = .ok (.getstatic i, 3)) (hz : zs.1[j]? = some z) (hw : Cond.fieldLink md.1.2.1.cls i z.1 z.2.1 z.2.2 ∈ T) (h : X' μ (pc + 3) ls (.ref (xi_o + (j + 1)) :: st) σ nc ns Q) : W p l e R s m args below meth c H locs nc ns Z (F0 m pc lsA (st.map (xi_v ad))) := by
  obtain ⟨hx, hb, hml, hown, hts, hA, hKc, hfr, hlo, hce, hsl, hin⟩ := id hC
  obtain ⟨hP, hD, hS, hT, hF⟩ := id hR
  exact va_gets hx hb (hO.2.1 j z hz) hS hown (hts _ hw) (fun _ z => z) hd (xi_keep hX' hmd hC hO hR hret _ _ _ h _ hl)
theorem xi_s_iaload {X' : xiX} (hX' : ∀ μ pc ls st σ nc ns Q, X' μ pc ls st σ nc ns Q → xi_OK T cl zs l G μ pc ls st σ nc ns Q) {μ pc : Nat} {ls : List (Option Value)} {st : List Value} {σ : xiS} {nc ns : Nat} {Q : xiQ} {md : xiM} (hmd : G.1[μ]? = some md) {p : Program} {e : Env} {s : State} {m : MethodId} {args : Array Value} {below : List Frame} {meth : Method} {c : Code} {R : Room} {Z : State → Prop} {D : va_G} {A : Nat → Prop} {ad : Nat → Nat} {ca : Nat → ClassId} {H : Heap} {locs : List Loc} {lsA : Array Slot}
    (hC : xi_C T cl G D p s m args meth c R md A) (hO : xi_O zs G A ad s s.heap) (hR : xi_R cl G D s A ad ca σ H locs) (hl : lv_has lsA md.2.1.1 (xi_l ad ls))
    (hret : ∀ (r : Option Value) (σ' : xiS) (ad' : Nat → Nat) (ca' : Nat → ClassId) (H' : Heap) (locs' : List Loc) (nc' ns' pc' : Nat) (lsA' : Array Slot), Q r σ' → xi_R cl G D s A ad' ca' σ' H' locs' → xi_A σ ad σ' ad' → nc' ≤ md.2.2.1.2.2.1 → ns' ≤ md.2.2.1.2.2.2 → xi_ret md pc' r →
      W p l e R s m args below meth c H' locs' nc' ns' Z (F0 m pc' lsA' (r.toList.map (xi_v ad'))))
    {a n : Nat} {j : Int32} {t : List Value} (hst : st = .int j :: .ref a :: t) (hd : decode md.1.2.2 pc = .ok (.iaload, 1)) (ha : σ.1[a]? = some (1, n)) (hj : vp_in j n) (h : X' μ (pc + 1) ls (.int (σ.2.2.1 a j.toNatClampNeg) :: t) σ nc ns Q) : W p l e R s m args below meth c H locs nc ns Z (F0 m pc lsA (st.map (xi_v ad))) := by
  obtain ⟨hx, hb, hml, hown, hts, hA, hKc, hfr, hlo, hce, hsl, hin⟩ := id hC
  obtain ⟨hP, hD, hS, hT, hF⟩ := id hR
  subst hst
  exact va_iald hx hb (xi_K1 hKc ((hT a _ ha).1 rfl)) hP a 0 (xi_ws_at ha) rfl hj hd (xi_keep hX' hmd hC hO hR hret _ _ _ h _ hl)
theorem xi_s_laload {X' : xiX} (hX' : ∀ μ pc ls st σ nc ns Q, X' μ pc ls st σ nc ns Q → xi_OK T cl zs l G μ pc ls st σ nc ns Q) {μ pc : Nat} {ls : List (Option Value)} {st : List Value} {σ : xiS} {nc ns : Nat} {Q : xiQ} {md : xiM} (hmd : G.1[μ]? = some md) {p : Program} {e : Env} {s : State} {m : MethodId} {args : Array Value} {below : List Frame} {meth : Method} {c : Code} {R : Room} {Z : State → Prop} {D : va_G} {A : Nat → Prop} {ad : Nat → Nat} {ca : Nat → ClassId} {H : Heap} {locs : List Loc} {lsA : Array Slot}
    (hC : xi_C T cl G D p s m args meth c R md A) (hO : xi_O zs G A ad s s.heap) (hR : xi_R cl G D s A ad ca σ H locs) (hl : lv_has lsA md.2.1.1 (xi_l ad ls))
    (hret : ∀ (r : Option Value) (σ' : xiS) (ad' : Nat → Nat) (ca' : Nat → ClassId) (H' : Heap) (locs' : List Loc) (nc' ns' pc' : Nat) (lsA' : Array Slot), Q r σ' → xi_R cl G D s A ad' ca' σ' H' locs' → xi_A σ ad σ' ad' → nc' ≤ md.2.2.1.2.2.1 → ns' ≤ md.2.2.1.2.2.2 → xi_ret md pc' r →
      W p l e R s m args below meth c H' locs' nc' ns' Z (F0 m pc' lsA' (r.toList.map (xi_v ad'))))
    {a n : Nat} {j : Int32} {t : List Value} (hst : st = .int j :: .ref a :: t) (hd : decode md.1.2.2 pc = .ok (.laload, 1)) (ha : σ.1[a]? = some (2, n)) (hj : vp_in j n) (h : X' μ (pc + 1) ls (.long (σ.2.2.2 a j.toNatClampNeg) :: t) σ nc ns Q) : W p l e R s m args below meth c H locs nc ns Z (F0 m pc lsA (st.map (xi_v ad))) := by
  obtain ⟨hx, hb, hml, hown, hts, hA, hKc, hfr, hlo, hce, hsl, hin⟩ := id hC
  obtain ⟨hP, hD, hS, hT, hF⟩ := id hR
  subst hst
  exact va_lald hx hb (xi_K1 hKc ((hT a _ ha).2 rfl)) hP a 0 (xi_ws_at ha) rfl hj hd (xi_keep hX' hmd hC hO hR hret _ _ _ h _ hl)
theorem xi_s_iastore {X' : xiX} (hX' : ∀ μ pc ls st σ nc ns Q, X' μ pc ls st σ nc ns Q → xi_OK T cl zs l G μ pc ls st σ nc ns Q) {μ pc : Nat} {ls : List (Option Value)} {st : List Value} {σ : xiS} {nc ns : Nat} {Q : xiQ} {md : xiM} (hmd : G.1[μ]? = some md) {p : Program} {e : Env} {s : State} {m : MethodId} {args : Array Value} {below : List Frame} {meth : Method} {c : Code} {R : Room} {Z : State → Prop} {D : va_G} {A : Nat → Prop} {ad : Nat → Nat} {ca : Nat → ClassId} {H : Heap} {locs : List Loc} {lsA : Array Slot}
    (hC : xi_C T cl G D p s m args meth c R md A) (hO : xi_O zs G A ad s s.heap) (hR : xi_R cl G D s A ad ca σ H locs) (hl : lv_has lsA md.2.1.1 (xi_l ad ls))
    (hret : ∀ (r : Option Value) (σ' : xiS) (ad' : Nat → Nat) (ca' : Nat → ClassId) (H' : Heap) (locs' : List Loc) (nc' ns' pc' : Nat) (lsA' : Array Slot), Q r σ' → xi_R cl G D s A ad' ca' σ' H' locs' → xi_A σ ad σ' ad' → nc' ≤ md.2.2.1.2.2.1 → ns' ≤ md.2.2.1.2.2.2 → xi_ret md pc' r →
      W p l e R s m args below meth c H' locs' nc' ns' Z (F0 m pc' lsA' (r.toList.map (xi_v ad'))))
    {a n : Nat} {j : Int32} {x : Int32} {t : List Value} (hst : st = .int x :: .int j :: .ref a :: t) (hd : decode md.1.2.2 pc = .ok (.iastore, 1)) (ha : σ.1[a]? = some (1, n)) (hj : vp_in j n) (h : X' μ (pc + 1) ls t (σ.1, σ.2.1, xi_u σ.2.2.1 a j.toNatClampNeg x, σ.2.2.2) nc ns Q) : W p l e R s m args below meth c H locs nc ns Z (F0 m pc lsA (st.map (xi_v ad))) := by
  obtain ⟨hx, hb, hml, hown, hts, hA, hKc, hfr, hlo, hce, hsl, hin⟩ := id hC
  obtain ⟨hP, hD, hS, hT, hF⟩ := id hR
  subst hst
  have e1 := xi_ws_set (fk := G.2.1) (ad := ad) (ca := ca) (σ := σ) (σ' := (σ.1, σ.2.1, xi_u σ.2.2.1 a j.toNatClampNeg x, σ.2.2.2)) (o := a) (d := (1, n)) rfl ha (fun k hk => rfl) (fun k hk => xi_une hk) (fun k hk => rfl)
  have e2 : xi_cell G.2.1 ad ca (σ.1, σ.2.1, xi_u σ.2.2.1 a j.toNatClampNeg x, σ.2.2.2) a (1, n) = .inl (ca a, n, .inl (upd (σ.2.2.1 a) j.toNatClampNeg x)) := by
    show Sum.inl (ca a, n, Sum.inl ((xi_u σ.2.2.1 a j.toNatClampNeg x) a)) = _
    rw [xi_upd]
  rw [e2] at e1
  refine va_iast hx hb (xi_K1 hKc ((hT a _ ha).1 rfl)) hP hD hS a 0 (xi_ws_at ha) rfl hj hd (fun H1 locs1 hP1 hD1 hS1 => ?_)
  have hP2 : va_P D cl (xi_ws G.2.1 ad ca (σ.1, σ.2.1, xi_u σ.2.2.1 a j.toNatClampNeg x, σ.2.2.2)) H1 := by rw [e1]; exact hP1
  have hD2 : va_D A (xi_ws G.2.1 ad ca (σ.1, σ.2.1, xi_u σ.2.2.1 a j.toNatClampNeg x, σ.2.2.2)) := by rw [e1]; exact hD1
  exact hX' _ _ _ _ _ _ _ _ h md hmd p e s m args below meth c R Z D A ad ca H1 locs1 lsA hC hO ⟨hP2, hD2, hS1, hT, hF⟩ hl hret
theorem xi_s_lastore {X' : xiX} (hX' : ∀ μ pc ls st σ nc ns Q, X' μ pc ls st σ nc ns Q → xi_OK T cl zs l G μ pc ls st σ nc ns Q) {μ pc : Nat} {ls : List (Option Value)} {st : List Value} {σ : xiS} {nc ns : Nat} {Q : xiQ} {md : xiM} (hmd : G.1[μ]? = some md) {p : Program} {e : Env} {s : State} {m : MethodId} {args : Array Value} {below : List Frame} {meth : Method} {c : Code} {R : Room} {Z : State → Prop} {D : va_G} {A : Nat → Prop} {ad : Nat → Nat} {ca : Nat → ClassId} {H : Heap} {locs : List Loc} {lsA : Array Slot}
    (hC : xi_C T cl G D p s m args meth c R md A) (hO : xi_O zs G A ad s s.heap) (hR : xi_R cl G D s A ad ca σ H locs) (hl : lv_has lsA md.2.1.1 (xi_l ad ls))
    (hret : ∀ (r : Option Value) (σ' : xiS) (ad' : Nat → Nat) (ca' : Nat → ClassId) (H' : Heap) (locs' : List Loc) (nc' ns' pc' : Nat) (lsA' : Array Slot), Q r σ' → xi_R cl G D s A ad' ca' σ' H' locs' → xi_A σ ad σ' ad' → nc' ≤ md.2.2.1.2.2.1 → ns' ≤ md.2.2.1.2.2.2 → xi_ret md pc' r →
      W p l e R s m args below meth c H' locs' nc' ns' Z (F0 m pc' lsA' (r.toList.map (xi_v ad'))))
    {a n : Nat} {j : Int32} {x : Int64} {t : List Value} (hst : st = .long x :: .int j :: .ref a :: t) (hd : decode md.1.2.2 pc = .ok (.lastore, 1)) (ha : σ.1[a]? = some (2, n)) (hj : vp_in j n) (h : X' μ (pc + 1) ls t (σ.1, σ.2.1, σ.2.2.1, xi_u σ.2.2.2 a j.toNatClampNeg x) nc ns Q) : W p l e R s m args below meth c H locs nc ns Z (F0 m pc lsA (st.map (xi_v ad))) := by
  obtain ⟨hx, hb, hml, hown, hts, hA, hKc, hfr, hlo, hce, hsl, hin⟩ := id hC
  obtain ⟨hP, hD, hS, hT, hF⟩ := id hR
  subst hst
  have e1 := xi_ws_set (fk := G.2.1) (ad := ad) (ca := ca) (σ := σ) (σ' := (σ.1, σ.2.1, σ.2.2.1, xi_u σ.2.2.2 a j.toNatClampNeg x)) (o := a) (d := (2, n)) rfl ha (fun k hk => rfl) (fun k hk => rfl) (fun k hk => xi_une hk)
  have e2 : xi_cell G.2.1 ad ca (σ.1, σ.2.1, σ.2.2.1, xi_u σ.2.2.2 a j.toNatClampNeg x) a (2, n) = .inl (ca a, n, .inr (.inl (vp_updL (σ.2.2.2 a) j.toNatClampNeg x))) := by
    show Sum.inl (ca a, n, Sum.inr (Sum.inl ((xi_u σ.2.2.2 a j.toNatClampNeg x) a))) = _
    rw [xi_updL]
  rw [e2] at e1
  refine va_last hx hb (xi_K1 hKc ((hT a _ ha).2 rfl)) hP hD hS a 0 (xi_ws_at ha) rfl hj hd (fun H1 locs1 hP1 hD1 hS1 => ?_)
  have hP2 : va_P D cl (xi_ws G.2.1 ad ca (σ.1, σ.2.1, σ.2.2.1, xi_u σ.2.2.2 a j.toNatClampNeg x)) H1 := by rw [e1]; exact hP1
  have hD2 : va_D A (xi_ws G.2.1 ad ca (σ.1, σ.2.1, σ.2.2.1, xi_u σ.2.2.2 a j.toNatClampNeg x)) := by rw [e1]; exact hD1
  exact hX' _ _ _ _ _ _ _ _ h md hmd p e s m args below meth c R Z D A ad ca H1 locs1 lsA hC hO ⟨hP2, hD2, hS1, hT, hF⟩ hl hret
theorem xi_s_aloadO {X' : xiX} (hX' : ∀ μ pc ls st σ nc ns Q, X' μ pc ls st σ nc ns Q → xi_OK T cl zs l G μ pc ls st σ nc ns Q) {μ pc : Nat} {ls : List (Option Value)} {st : List Value} {σ : xiS} {nc ns : Nat} {Q : xiQ} {md : xiM} (hmd : G.1[μ]? = some md) {p : Program} {e : Env} {s : State} {m : MethodId} {args : Array Value} {below : List Frame} {meth : Method} {c : Code} {R : Room} {Z : State → Prop} {D : va_G} {A : Nat → Prop} {ad : Nat → Nat} {ca : Nat → ClassId} {H : Heap} {locs : List Loc} {lsA : Array Slot}
    (hC : xi_C T cl G D p s m args meth c R md A) (hO : xi_O zs G A ad s s.heap) (hR : xi_R cl G D s A ad ca σ H locs) (hl : lv_has lsA md.2.1.1 (xi_l ad ls))
    (hret : ∀ (r : Option Value) (σ' : xiS) (ad' : Nat → Nat) (ca' : Nat → ClassId) (H' : Heap) (locs' : List Loc) (nc' ns' pc' : Nat) (lsA' : Array Slot), Q r σ' → xi_R cl G D s A ad' ca' σ' H' locs' → xi_A σ ad σ' ad' → nc' ≤ md.2.2.1.2.2.1 → ns' ≤ md.2.2.1.2.2.2 → xi_ret md pc' r →
      W p l e R s m args below meth c H' locs' nc' ns' Z (F0 m pc' lsA' (r.toList.map (xi_v ad'))))
    {j0 : Nat} {q : Nat × (Nat → Int32)} {j : Int32} {t : List Value} (hst : st = .int j :: .ref (xi_o + j0) :: t) (hd : decode md.1.2.2 pc = .ok (.iaload, 1)) (hq : G.2.2[j0]? = some q) (hj : vp_in j q.1) (h : X' μ (pc + 1) ls (.int (q.2 j.toNatClampNeg) :: t) σ nc ns Q) : W p l e R s m args below meth c H locs nc ns Z (F0 m pc lsA (st.map (xi_v ad))) := by
  obtain ⟨hx, hb, hml, hown, hts, hA, hKc, hfr, hlo, hce, hsl, hin⟩ := id hC
  obtain ⟨hP, hD, hS, hT, hF⟩ := id hR
  subst hst
  exact va_ti hx hb (hO.1 j0 q hq) hS hj rfl hd (xi_keep hX' hmd hC hO hR hret _ _ _ h _ hl)
theorem xi_s_alenO {X' : xiX} (hX' : ∀ μ pc ls st σ nc ns Q, X' μ pc ls st σ nc ns Q → xi_OK T cl zs l G μ pc ls st σ nc ns Q) {μ pc : Nat} {ls : List (Option Value)} {st : List Value} {σ : xiS} {nc ns : Nat} {Q : xiQ} {md : xiM} (hmd : G.1[μ]? = some md) {p : Program} {e : Env} {s : State} {m : MethodId} {args : Array Value} {below : List Frame} {meth : Method} {c : Code} {R : Room} {Z : State → Prop} {D : va_G} {A : Nat → Prop} {ad : Nat → Nat} {ca : Nat → ClassId} {H : Heap} {locs : List Loc} {lsA : Array Slot}
    (hC : xi_C T cl G D p s m args meth c R md A) (hO : xi_O zs G A ad s s.heap) (hR : xi_R cl G D s A ad ca σ H locs) (hl : lv_has lsA md.2.1.1 (xi_l ad ls))
    (hret : ∀ (r : Option Value) (σ' : xiS) (ad' : Nat → Nat) (ca' : Nat → ClassId) (H' : Heap) (locs' : List Loc) (nc' ns' pc' : Nat) (lsA' : Array Slot), Q r σ' → xi_R cl G D s A ad' ca' σ' H' locs' → xi_A σ ad σ' ad' → nc' ≤ md.2.2.1.2.2.1 → ns' ≤ md.2.2.1.2.2.2 → xi_ret md pc' r →
      W p l e R s m args below meth c H' locs' nc' ns' Z (F0 m pc' lsA' (r.toList.map (xi_v ad'))))
    {j0 : Nat} {q : Nat × (Nat → Int32)} {t : List Value} (hst : st = .ref (xi_o + j0) :: t) (hd : decode md.1.2.2 pc = .ok (.arraylength, 1)) (hq : G.2.2[j0]? = some q) (h : X' μ (pc + 1) ls (.int (Int32.ofNat q.1) :: t) σ nc ns Q) : W p l e R s m args below meth c H locs nc ns Z (F0 m pc lsA (st.map (xi_v ad))) := by
  obtain ⟨hx, hb, hml, hown, hts, hA, hKc, hfr, hlo, hce, hsl, hin⟩ := id hC
  obtain ⟨hP, hD, hS, hT, hF⟩ := id hR
  subst hst
  exact va_tlen hx hb (hO.1 j0 q hq) hS rfl hd (xi_keep hX' hmd hC hO hR hret _ _ _ h _ hl)
theorem xi_s_alen1 {X' : xiX} (hX' : ∀ μ pc ls st σ nc ns Q, X' μ pc ls st σ nc ns Q → xi_OK T cl zs l G μ pc ls st σ nc ns Q) {μ pc : Nat} {ls : List (Option Value)} {st : List Value} {σ : xiS} {nc ns : Nat} {Q : xiQ} {md : xiM} (hmd : G.1[μ]? = some md) {p : Program} {e : Env} {s : State} {m : MethodId} {args : Array Value} {below : List Frame} {meth : Method} {c : Code} {R : Room} {Z : State → Prop} {D : va_G} {A : Nat → Prop} {ad : Nat → Nat} {ca : Nat → ClassId} {H : Heap} {locs : List Loc} {lsA : Array Slot}
    (hC : xi_C T cl G D p s m args meth c R md A) (hO : xi_O zs G A ad s s.heap) (hR : xi_R cl G D s A ad ca σ H locs) (hl : lv_has lsA md.2.1.1 (xi_l ad ls))
    (hret : ∀ (r : Option Value) (σ' : xiS) (ad' : Nat → Nat) (ca' : Nat → ClassId) (H' : Heap) (locs' : List Loc) (nc' ns' pc' : Nat) (lsA' : Array Slot), Q r σ' → xi_R cl G D s A ad' ca' σ' H' locs' → xi_A σ ad σ' ad' → nc' ≤ md.2.2.1.2.2.1 → ns' ≤ md.2.2.1.2.2.2 → xi_ret md pc' r →
      W p l e R s m args below meth c H' locs' nc' ns' Z (F0 m pc' lsA' (r.toList.map (xi_v ad'))))
    {a n : Nat} {t : List Value} (hst : st = .ref a :: t) (hd : decode md.1.2.2 pc = .ok (.arraylength, 1)) (ha : σ.1[a]? = some (1, n)) (h : X' μ (pc + 1) ls (.int (Int32.ofNat n) :: t) σ nc ns Q) : W p l e R s m args below meth c H locs nc ns Z (F0 m pc lsA (st.map (xi_v ad))) := by
  obtain ⟨hx, hb, hml, hown, hts, hA, hKc, hfr, hlo, hce, hsl, hin⟩ := id hC
  obtain ⟨hP, hD, hS, hT, hF⟩ := id hR
  subst hst
  exact va_alen hx hb (xi_K1 hKc ((hT a _ ha).1 rfl)) hP a 0 (xi_ws_at ha) rfl rfl hd (xi_keep hX' hmd hC hO hR hret _ _ _ h _ hl)
theorem xi_s_alen2 {X' : xiX} (hX' : ∀ μ pc ls st σ nc ns Q, X' μ pc ls st σ nc ns Q → xi_OK T cl zs l G μ pc ls st σ nc ns Q) {μ pc : Nat} {ls : List (Option Value)} {st : List Value} {σ : xiS} {nc ns : Nat} {Q : xiQ} {md : xiM} (hmd : G.1[μ]? = some md) {p : Program} {e : Env} {s : State} {m : MethodId} {args : Array Value} {below : List Frame} {meth : Method} {c : Code} {R : Room} {Z : State → Prop} {D : va_G} {A : Nat → Prop} {ad : Nat → Nat} {ca : Nat → ClassId} {H : Heap} {locs : List Loc} {lsA : Array Slot}
    (hC : xi_C T cl G D p s m args meth c R md A) (hO : xi_O zs G A ad s s.heap) (hR : xi_R cl G D s A ad ca σ H locs) (hl : lv_has lsA md.2.1.1 (xi_l ad ls))
    (hret : ∀ (r : Option Value) (σ' : xiS) (ad' : Nat → Nat) (ca' : Nat → ClassId) (H' : Heap) (locs' : List Loc) (nc' ns' pc' : Nat) (lsA' : Array Slot), Q r σ' → xi_R cl G D s A ad' ca' σ' H' locs' → xi_A σ ad σ' ad' → nc' ≤ md.2.2.1.2.2.1 → ns' ≤ md.2.2.1.2.2.2 → xi_ret md pc' r →
      W p l e R s m args below meth c H' locs' nc' ns' Z (F0 m pc' lsA' (r.toList.map (xi_v ad'))))
    {a n : Nat} {t : List Value} (hst : st = .ref a :: t) (hd : decode md.1.2.2 pc = .ok (.arraylength, 1)) (ha : σ.1[a]? = some (2, n)) (h : X' μ (pc + 1) ls (.int (Int32.ofNat n) :: t) σ nc ns Q) : W p l e R s m args below meth c H locs nc ns Z (F0 m pc lsA (st.map (xi_v ad))) := by
  obtain ⟨hx, hb, hml, hown, hts, hA, hKc, hfr, hlo, hce, hsl, hin⟩ := id hC
  obtain ⟨hP, hD, hS, hT, hF⟩ := id hR
  subst hst
  exact va_alen hx hb (xi_K1 hKc ((hT a _ ha).2 rfl)) hP a 0 (xi_ws_at ha) rfl rfl hd (xi_keep hX' hmd hC hO hR hret _ _ _ h _ hl)
theorem xi_s_objInit {X' : xiX} (hX' : ∀ μ pc ls st σ nc ns Q, X' μ pc ls st σ nc ns Q → xi_OK T cl zs l G μ pc ls st σ nc ns Q) {μ pc : Nat} {ls : List (Option Value)} {st : List Value} {σ : xiS} {nc ns : Nat} {Q : xiQ} {md : xiM} (hmd : G.1[μ]? = some md) {p : Program} {e : Env} {s : State} {m : MethodId} {args : Array Value} {below : List Frame} {meth : Method} {c : Code} {R : Room} {Z : State → Prop} {D : va_G} {A : Nat → Prop} {ad : Nat → Nat} {ca : Nat → ClassId} {H : Heap} {locs : List Loc} {lsA : Array Slot}
    (hC : xi_C T cl G D p s m args meth c R md A) (hO : xi_O zs G A ad s s.heap) (hR : xi_R cl G D s A ad ca σ H locs) (hl : lv_has lsA md.2.1.1 (xi_l ad ls))
    (hret : ∀ (r : Option Value) (σ' : xiS) (ad' : Nat → Nat) (ca' : Nat → ClassId) (H' : Heap) (locs' : List Loc) (nc' ns' pc' : Nat) (lsA' : Array Slot), Q r σ' → xi_R cl G D s A ad' ca' σ' H' locs' → xi_A σ ad σ' ad' → nc' ≤ md.2.2.1.2.2.1 → ns' ≤ md.2.2.1.2.2.2 → xi_ret md pc' r →
      W p l e R s m args below meth c H' locs' nc' ns' Z (F0 m pc' lsA' (r.toList.map (xi_v ad'))))
    {i o : Nat} {t : List Value} (hst : st = .ref o :: t) (hd : decode md.1.2.2 pc = .ok (.invokespecial i, 3)) (hw : Cond.methodLink md.1.2.1.cls i Lib.objectInit ∈ T) (hw2 : Cond.instanceMethod Lib.objectInit ∈ T) (hw3 : Cond.code Lib.objectInit ⟨#[0xb1]⟩ 1 none ∈ T) (h : xi_b (Nat.ble 1 md.2.2.1.1 && Nat.ble (xi_w8 t + 12) md.2.2.1.2.1) (X' μ (pc + 3) ls t σ nc ns Q)) : W p l e R s m args below meth c H locs nc ns Z (F0 m pc lsA (st.map (xi_v ad))) := by
  obtain ⟨hx, hb, hml, hown, hts, hA, hKc, hfr, hlo, hce, hsl, hin⟩ := id hC
  obtain ⟨hP, hD, hS, hT, hF⟩ := id hR
  subst hst
  obtain ⟨hc, h⟩ := xi_b_of h
  simp only [Bool.and_eq_true, Nat.ble_eq] at hc
  refine W.objInit hx hb hown (hts _ hw) (hts _ hw2) (hts _ hw3) rfl (by rw [hml]; exact hl.1) rfl hd (Nat.le_trans hc.1 hfr) ?_ (xi_keep hX' hmd hC hO hR hret _ _ _ h _ hl)
  have e : ((t.map (xi_v ad)).map fun v => v.category).sum = xi_w8 t := xi_w8_eq ad t
  rw [e]
  have : 2 * (F0 m pc lsA ((Value.ref o :: t).map (xi_v ad))).monitorRoom = 0 := rfl
  omega
end XIS3
end
section
section XIS4
variable {T : List Cond} {cl : List vw_C} {zs : xiZ} {tf : Nat → Nat → FieldType} {l : Launch} {G : xiG}
/-- the address map and the classes with one cell more -/
theorem xi_up_ne {α : Type} {f : Nat → α} {n : Nat} {x : α} {k : Nat} (h : k ≠ n) : (fun j => if j = n then x else f j) k = f k := if_neg h
theorem xi_up_eq {α : Type} {f : Nat → α} {n : Nat} {x : α} : (fun j => if j = n then x else f j) n = x := if_pos rfl
theorem xi_A_push {σ σ' : xiS} {ad : Nat → Nat} {q : Nat} {d : Nat × Nat} (hs : σ'.1 = σ.1 ++ [d]) (hn : σ.1.length < xi_o) : xi_A σ ad σ' (fun j => if j = σ.1.length then q else ad j) :=
  ⟨fun k hk => if_neg (by omega), fun k hk => if_neg (by omega), by rw [hs]; simp⟩
theorem xi_O_ad {A : Nat → Prop} {ad ad' : Nat → Nat} {U : State} {H : Heap} (h : xi_O zs G A ad U H) (ha : ∀ k, xi_o ≤ k → ad' k = ad k) : xi_O zs G A ad' U H := by
  refine ⟨fun j q hq => ?_, fun j z hz => ?_, h.2.2⟩
  · rw [ha _ (Nat.le_add_right _ _)]; exact h.1 j q hq
  · rw [ha _ (Nat.le_add_right _ _)]; exact h.2.1 j z hz
theorem xi_F_push {σ σ' : xiS} {d : Nat × Nat} (hF : xi_F σ) (hs : σ'.1 = σ.1 ++ [d]) (hr : σ'.2.1 = xi_z σ.2.1 σ.1.length 0) (hn : σ.1.length + 1 < xi_o) : xi_F σ' := by
  have hl : σ'.1.length = σ.1.length + 1 := by rw [hs]; simp
  refine ⟨fun k j q hk hq => ?_, by omega⟩
  rw [hr] at hq
  by_cases e : k = σ.1.length
  · subst e
    rw [xi_zeq] at hq
    cases hq
  · rw [xi_zne e] at hq
    have := hF.1 k j q (by omega) hq
    omega
theorem xi_s_newa1 {X' : xiX} (hX' : ∀ μ pc ls st σ nc ns Q, X' μ pc ls st σ nc ns Q → xi_OK T cl zs l G μ pc ls st σ nc ns Q) {μ pc : Nat} {ls : List (Option Value)} {st : List Value} {σ : xiS} {nc ns : Nat} {Q : xiQ} {md : xiM} (hmd : G.1[μ]? = some md) {p : Program} {e : Env} {s : State} {m : MethodId} {args : Array Value} {below : List Frame} {meth : Method} {c : Code} {R : Room} {Z : State → Prop} {D : va_G} {A : Nat → Prop} {ad : Nat → Nat} {ca : Nat → ClassId} {H : Heap} {locs : List Loc} {lsA : Array Slot}
    (hC : xi_C T cl G D p s m args meth c R md A) (hO : xi_O zs G A ad s s.heap) (hR : xi_R cl G D s A ad ca σ H locs) (hl : lv_has lsA md.2.1.1 (xi_l ad ls))
    (hret : ∀ (r : Option Value) (σ' : xiS) (ad' : Nat → Nat) (ca' : Nat → ClassId) (H' : Heap) (locs' : List Loc) (nc' ns' pc' : Nat) (lsA' : Array Slot), Q r σ' → xi_R cl G D s A ad' ca' σ' H' locs' → xi_A σ ad σ' ad' → nc' ≤ md.2.2.1.2.2.1 → ns' ≤ md.2.2.1.2.2.2 → xi_ret md pc' r →
      W p l e R s m args below meth c H' locs' nc' ns' Z (F0 m pc' lsA' (r.toList.map (xi_v ad'))))
    {n : Int32} {t : List Value} (hst : st = .int n :: t) (hd : decode md.1.2.2 pc = .ok (.newarray .int, 2)) (hw : Cond.arrayClass (newarray.typeOf .int) ∈ T) (hn : ¬ n < 0) (h1 : nc + 1 ≤ md.2.2.1.2.2.1) (h2 : ns + n.toNatClampNeg ≤ md.2.2.1.2.2.2) (h3 : n.toNatClampNeg ≤ 65536) (h4 : σ.1.length + 1 < xi_o) (h5 : xi_wfl σ.1.length ls = true) (h6 : xi_wfs σ.1.length t = true) (h : X' μ (pc + 2) ls (.ref σ.1.length :: t) (σ.1 ++ [(1, n.toNatClampNeg)], xi_z σ.2.1 σ.1.length 0, xi_z σ.2.2.1 σ.1.length 0, xi_z σ.2.2.2 σ.1.length 0) (nc + 1) (ns + n.toNatClampNeg) Q) : W p l e R s m args below meth c H locs nc ns Z (F0 m pc lsA (st.map (xi_v ad))) := by
  obtain ⟨hx, hb, hml, hown, hts, hA, hKc, hfr, hlo, hce, hsl, hin⟩ := id hC
  obtain ⟨hP, hD, hS, hT, hF⟩ := id hR
  subst hst
  refine va_newa (ty := .int) (tys := []) (a0 := (n.toNatClampNeg, .inl (fun _ => 0))) hx hb (hts _ hw) rfl (xi_K0 hKc) hP hD hS hA (fun cA => rfl) hn rfl ?_ (Nat.le_trans h1 hce) (Nat.le_trans h2 hsl) hd (fun q cA H1 hK1 hP1 hD1 hS1 => ?_)
  · show n.toNatClampNeg * 4 ≤ 536870912; omega
  obtain ⟨ad', ead⟩ : ∃ f : Nat → Nat, f = fun j => if j = σ.1.length then q else ad j := ⟨_, rfl⟩
  obtain ⟨ca', eca⟩ : ∃ f : Nat → ClassId, f = fun j => if j = σ.1.length then cA else ca j := ⟨_, rfl⟩
  obtain ⟨σ', es⟩ : ∃ z : xiS, z = (σ.1 ++ [(1, n.toNatClampNeg)], xi_z σ.2.1 σ.1.length 0, xi_z σ.2.2.1 σ.1.length 0, xi_z σ.2.2.2 σ.1.length 0) := ⟨_, rfl⟩
  rw [← es] at h
  have s1 : σ'.1 = σ.1 ++ [(1, n.toNatClampNeg)] := by rw [es]
  have hA2 : xi_A σ ad σ' ad' := by rw [ead]; exact xi_A_push s1 (by omega)
  have e1 : xi_ws G.2.1 ad' ca' σ' = xi_ws G.2.1 ad ca σ ++ [(q, .inl (cA, (n.toNatClampNeg, .inl (fun _ => 0))))] := by
    rw [xi_ws_push (ad := ad) (ca := ca) (ad' := ad') (ca' := ca') s1 (fun k hk => by rw [es]; exact xi_zne (by omega)) (fun k hk => by rw [es]; exact xi_zne (by omega)) (fun k hk => by rw [es]; exact xi_zne (by omega)) hA2.1 (fun k hk => by rw [eca]; exact if_neg (by omega)) hF.1]
    have a1 : ad' σ.1.length = q := by rw [ead]; exact if_pos rfl
    have a2 : ca' σ.1.length = cA := by rw [eca]; exact if_pos rfl
    rw [a1]
    congr 3
    show Sum.inl (ca' σ.1.length, n.toNatClampNeg, Sum.inl (σ'.2.2.1 σ.1.length)) = _
    rw [a2, es]
    show Sum.inl (cA, n.toNatClampNeg, Sum.inl ((xi_z σ.2.2.1 σ.1.length 0) σ.1.length)) = _
    rw [xi_zeq]
  have hP2 : va_P D cl (xi_ws G.2.1 ad' ca' σ') H1 := by rw [e1]; exact hP1
  have hD2 : va_D A (xi_ws G.2.1 ad' ca' σ') := by rw [e1]; exact hD1
  have hT2 : xi_T ca' σ' s := by
    intro k d hk
    rw [s1] at hk
    by_cases e : k = σ.1.length
    · subst e
      have : d = (1, n.toNatClampNeg) := by simpa using hk.symm
      subst this
      have a2 : ca' σ.1.length = cA := by rw [eca]; exact if_pos rfl
      rw [a2]
      exact ⟨fun z => hK1.2 0 _ rfl, fun z => absurd (show (1 : Nat) = 2 from z) (by decide)⟩
    · have e2 : k < σ.1.length := by
        have := (List.getElem?_eq_some_iff.mp hk).1
        simp at this
        omega
      rw [List.getElem?_append_left e2] at hk
      have a2 : ca' k = ca k := by rw [eca]; exact if_neg e
      rw [a2]
      exact hT k d hk
  have hF2 : xi_F σ' := xi_F_push hF s1 (by rw [es]) h4
  have a1 : ad' σ.1.length = q := by rw [ead]; exact if_pos rfl
  have est : Value.ref q :: t.map (xi_v ad) = (Value.ref σ.1.length :: t).map (xi_v ad') := by
    rw [List.map_cons, xi_wfs_v hA2 t h6]
    show _ = Value.ref (ad' σ.1.length) :: _
    rw [a1]
  rw [show (Value.ref q :: List.map (xi_v ad) t) = (Value.ref σ.1.length :: t).map (xi_v ad') from est]
  exact hX' _ _ _ _ _ _ _ _ h md hmd p e s m args below meth c R Z D A ad' ca' H1 locs lsA hC (xi_O_ad hO hA2.2.1) ⟨hP2, hD2, hS1, hT2, hF2⟩ (xi_has hl (xi_wfl_v hA2 h5)) (fun r σ2 ad2 ca2 H2 locs2 nc2 ns2 pc2 lsA2 hQ hR2 hA3 => hret r σ2 ad2 ca2 H2 locs2 nc2 ns2 pc2 lsA2 hQ hR2 (xi_A_tr hA2 hA3))
theorem xi_s_newa2 {X' : xiX} (hX' : ∀ μ pc ls st σ nc ns Q, X' μ pc ls st σ nc ns Q → xi_OK T cl zs l G μ pc ls st σ nc ns Q) {μ pc : Nat} {ls : List (Option Value)} {st : List Value} {σ : xiS} {nc ns : Nat} {Q : xiQ} {md : xiM} (hmd : G.1[μ]? = some md) {p : Program} {e : Env} {s : State} {m : MethodId} {args : Array Value} {below : List Frame} {meth : Method} {c : Code} {R : Room} {Z : State → Prop} {D : va_G} {A : Nat → Prop} {ad : Nat → Nat} {ca : Nat → ClassId} {H : Heap} {locs : List Loc} {lsA : Array Slot}
    (hC : xi_C T cl G D p s m args meth c R md A) (hO : xi_O zs G A ad s s.heap) (hR : xi_R cl G D s A ad ca σ H locs) (hl : lv_has lsA md.2.1.1 (xi_l ad ls))
    (hret : ∀ (r : Option Value) (σ' : xiS) (ad' : Nat → Nat) (ca' : Nat → ClassId) (H' : Heap) (locs' : List Loc) (nc' ns' pc' : Nat) (lsA' : Array Slot), Q r σ' → xi_R cl G D s A ad' ca' σ' H' locs' → xi_A σ ad σ' ad' → nc' ≤ md.2.2.1.2.2.1 → ns' ≤ md.2.2.1.2.2.2 → xi_ret md pc' r →
      W p l e R s m args below meth c H' locs' nc' ns' Z (F0 m pc' lsA' (r.toList.map (xi_v ad'))))
    {n : Int32} {t : List Value} (hst : st = .int n :: t) (hd : decode md.1.2.2 pc = .ok (.newarray .long, 2)) (hw : Cond.arrayClass (newarray.typeOf .long) ∈ T) (hn : ¬ n < 0) (h1 : nc + 1 ≤ md.2.2.1.2.2.1) (h2 : ns + n.toNatClampNeg ≤ md.2.2.1.2.2.2) (h3 : n.toNatClampNeg ≤ 65536) (h4 : σ.1.length + 1 < xi_o) (h5 : xi_wfl σ.1.length ls = true) (h6 : xi_wfs σ.1.length t = true) (h : X' μ (pc + 2) ls (.ref σ.1.length :: t) (σ.1 ++ [(2, n.toNatClampNeg)], xi_z σ.2.1 σ.1.length 0, xi_z σ.2.2.1 σ.1.length 0, xi_z σ.2.2.2 σ.1.length 0) (nc + 1) (ns + n.toNatClampNeg) Q) : W p l e R s m args below meth c H locs nc ns Z (F0 m pc lsA (st.map (xi_v ad))) := by
  obtain ⟨hx, hb, hml, hown, hts, hA, hKc, hfr, hlo, hce, hsl, hin⟩ := id hC
  obtain ⟨hP, hD, hS, hT, hF⟩ := id hR
  subst hst
  refine va_newa (ty := .long) (tys := []) (a0 := (n.toNatClampNeg, .inr (.inl (fun _ => 0)))) hx hb (hts _ hw) rfl (xi_K0 hKc) hP hD hS hA (fun cA => rfl) hn rfl ?_ (Nat.le_trans h1 hce) (Nat.le_trans h2 hsl) hd (fun q cA H1 hK1 hP1 hD1 hS1 => ?_)
  · show n.toNatClampNeg * 8 ≤ 536870912; omega
  obtain ⟨ad', ead⟩ : ∃ f : Nat → Nat, f = fun j => if j = σ.1.length then q else ad j := ⟨_, rfl⟩
  obtain ⟨ca', eca⟩ : ∃ f : Nat → ClassId, f = fun j => if j = σ.1.length then cA else ca j := ⟨_, rfl⟩
  obtain ⟨σ', es⟩ : ∃ z : xiS, z = (σ.1 ++ [(2, n.toNatClampNeg)], xi_z σ.2.1 σ.1.length 0, xi_z σ.2.2.1 σ.1.length 0, xi_z σ.2.2.2 σ.1.length 0) := ⟨_, rfl⟩
  rw [← es] at h
  have s1 : σ'.1 = σ.1 ++ [(2, n.toNatClampNeg)] := by rw [es]
  have hA2 : xi_A σ ad σ' ad' := by rw [ead]; exact xi_A_push s1 (by omega)
  have e1 : xi_ws G.2.1 ad' ca' σ' = xi_ws G.2.1 ad ca σ ++ [(q, .inl (cA, (n.toNatClampNeg, .inr (.inl (fun _ => 0)))))] := by
    rw [xi_ws_push (ad := ad) (ca := ca) (ad' := ad') (ca' := ca') s1 (fun k hk => by rw [es]; exact xi_zne (by omega)) (fun k hk => by rw [es]; exact xi_zne (by omega)) (fun k hk => by rw [es]; exact xi_zne (by omega)) hA2.1 (fun k hk => by rw [eca]; exact if_neg (by omega)) hF.1]
    have a1 : ad' σ.1.length = q := by rw [ead]; exact if_pos rfl
    have a2 : ca' σ.1.length = cA := by rw [eca]; exact if_pos rfl
    rw [a1]
    congr 3
    show Sum.inl (ca' σ.1.length, n.toNatClampNeg, Sum.inr (Sum.inl (σ'.2.2.2 σ.1.length))) = _
    rw [a2, es]
    show Sum.inl (cA, n.toNatClampNeg, Sum.inr (Sum.inl ((xi_z σ.2.2.2 σ.1.length 0) σ.1.length))) = _
    rw [xi_zeq]
  have hP2 : va_P D cl (xi_ws G.2.1 ad' ca' σ') H1 := by rw [e1]; exact hP1
  have hD2 : va_D A (xi_ws G.2.1 ad' ca' σ') := by rw [e1]; exact hD1
  have hT2 : xi_T ca' σ' s := by
    intro k d hk
    rw [s1] at hk
    by_cases e : k = σ.1.length
    · subst e
      have : d = (2, n.toNatClampNeg) := by simpa using hk.symm
      subst this
      have a2 : ca' σ.1.length = cA := by rw [eca]; exact if_pos rfl
      rw [a2]
      exact ⟨fun z => absurd (show (2 : Nat) = 1 from z) (by decide), fun z => hK1.2 0 _ rfl⟩
    · have e2 : k < σ.1.length := by
        have := (List.getElem?_eq_some_iff.mp hk).1
        simp at this
        omega
      rw [List.getElem?_append_left e2] at hk
      have a2 : ca' k = ca k := by rw [eca]; exact if_neg e
      rw [a2]
      exact hT k d hk
  have hF2 : xi_F σ' := xi_F_push hF s1 (by rw [es]) h4
  have a1 : ad' σ.1.length = q := by rw [ead]; exact if_pos rfl
  have est : Value.ref q :: t.map (xi_v ad) = (Value.ref σ.1.length :: t).map (xi_v ad') := by
    rw [List.map_cons, xi_wfs_v hA2 t h6]
    show _ = Value.ref (ad' σ.1.length) :: _
    rw [a1]
  rw [show (Value.ref q :: List.map (xi_v ad) t) = (Value.ref σ.1.length :: t).map (xi_v ad') from est]
  exact hX' _ _ _ _ _ _ _ _ h md hmd p e s m args below meth c R Z D A ad' ca' H1 locs lsA hC (xi_O_ad hO hA2.2.1) ⟨hP2, hD2, hS1, hT2, hF2⟩ (xi_has hl (xi_wfl_v hA2 h5)) (fun r σ2 ad2 ca2 H2 locs2 nc2 ns2 pc2 lsA2 hQ hR2 hA3 => hret r σ2 ad2 ca2 H2 locs2 nc2 ns2 pc2 lsA2 hQ hR2 (xi_A_tr hA2 hA3))
theorem xi_s_new {X' : xiX} (hX' : ∀ μ pc ls st σ nc ns Q, X' μ pc ls st σ nc ns Q → xi_OK T cl zs l G μ pc ls st σ nc ns Q) {μ pc : Nat} {ls : List (Option Value)} {st : List Value} {σ : xiS} {nc ns : Nat} {Q : xiQ} {md : xiM} (hmd : G.1[μ]? = some md) {p : Program} {e : Env} {s : State} {m : MethodId} {args : Array Value} {below : List Frame} {meth : Method} {c : Code} {R : Room} {Z : State → Prop} {D : va_G} {A : Nat → Prop} {ad : Nat → Nat} {ca : Nat → ClassId} {H : Heap} {locs : List Loc} {lsA : Array Slot}
    (hC : xi_C T cl G D p s m args meth c R md A) (hO : xi_O zs G A ad s s.heap) (hR : xi_R cl G D s A ad ca σ H locs) (hl : lv_has lsA md.2.1.1 (xi_l ad ls))
    (hret : ∀ (r : Option Value) (σ' : xiS) (ad' : Nat → Nat) (ca' : Nat → ClassId) (H' : Heap) (locs' : List Loc) (nc' ns' pc' : Nat) (lsA' : Array Slot), Q r σ' → xi_R cl G D s A ad' ca' σ' H' locs' → xi_A σ ad σ' ad' → nc' ≤ md.2.2.1.2.2.1 → ns' ≤ md.2.2.1.2.2.2 → xi_ret md pc' r →
      W p l e R s m args below meth c H' locs' nc' ns' Z (F0 m pc' lsA' (r.toList.map (xi_v ad'))))
    {i ci : Nat} {q0 : vw_C} (hd : decode md.1.2.2 pc = .ok (.new i, 3)) (hq : cl[ci]? = some q0) (hok : xi_okC T G.2.1 tf ci q0) (hw1 : Cond.classLink md.1.2.1.cls i q0.1 ∈ T) (hw2 : Cond.instantiable q0.1 q0.2.2 ∈ T) (hw3 : Cond.initialized q0.1 ∈ T) (h1 : nc + 1 ≤ md.2.2.1.2.2.1) (h2 : ns + (G.2.1.getD ci []).length ≤ md.2.2.1.2.2.2) (h4 : σ.1.length + 1 < xi_o) (h5 : xi_wfl σ.1.length ls = true) (h6 : xi_wfs σ.1.length st = true) (h : X' μ (pc + 3) ls (.ref σ.1.length :: st) (σ.1 ++ [(0, ci)], xi_z σ.2.1 σ.1.length 0, xi_z σ.2.2.1 σ.1.length 0, xi_z σ.2.2.2 σ.1.length 0) (nc + 1) (ns + (G.2.1.getD ci []).length) Q) : W p l e R s m args below meth c H locs nc ns Z (F0 m pc lsA (st.map (xi_v ad))) := by
  obtain ⟨hx, hb, hml, hown, hts, hA, hKc, hfr, hlo, hce, hsl, hin⟩ := id hC
  obtain ⟨hP, hD, hS, hT, hF⟩ := id hR
  obtain ⟨k1, k2, k3, k4, k5⟩ := hok
  obtain ⟨σ', es⟩ : ∃ z : xiS, z = (σ.1 ++ [(0, ci)], xi_z σ.2.1 σ.1.length 0, xi_z σ.2.2.1 σ.1.length 0, xi_z σ.2.2.2 σ.1.length 0) := ⟨_, rfl⟩
  rw [← es] at h
  have s1 : σ'.1 = σ.1 ++ [(0, ci)] := by rw [es]
  have hfv : ∀ (g : Nat → Nat) (j : Nat), j < q0.2.2 → defaultValue (tf ci j) = xi_v g (xi_fld G.2.1 σ' σ.1.length ci j) := by
    intro g j hj
    have z1 : σ'.2.1 σ.1.length j = 0 := by rw [es]; show (xi_z σ.2.1 σ.1.length 0) σ.1.length j = 0; rw [xi_zeq]
    have z2 : σ'.2.2.1 σ.1.length j = 0 := by rw [es]; show (xi_z σ.2.2.1 σ.1.length 0) σ.1.length j = 0; rw [xi_zeq]
    have z3 : σ'.2.2.2 σ.1.length j = 0 := by rw [es]; show (xi_z σ.2.2.2 σ.1.length 0) σ.1.length j = 0; rw [xi_zeq]
    unfold xi_fld
    rcases xi_fits (k5 j hj) with ⟨e, et⟩ | ⟨e, et⟩ | ⟨e, et⟩ | ⟨e, ⟨w, et⟩ | ⟨w, et⟩⟩ <;> rw [e, et]
    · show _ = xi_v g (.int (σ'.2.2.1 σ.1.length j)); rw [z2]; rfl
    · show _ = xi_v g (.int (σ'.2.2.1 σ.1.length j)); rw [z2]; rfl
    · show _ = xi_v g (.long (σ'.2.2.2 σ.1.length j)); rw [z3]; rfl
    · show _ = xi_v g (match σ'.2.1 σ.1.length j with | 0 => .null | q + 1 => .ref q); rw [z1]; rfl
    · show _ = xi_v g (match σ'.2.1 σ.1.length j with | 0 => .null | q + 1 => .ref q); rw [z1]; rfl
  refine va_new (C := q0.1) (T := q0.2.1) (N := q0.2.2) (fs := (List.range (G.2.1.getD ci []).length).map (fun j => xi_v ad (xi_fld G.2.1 σ' σ.1.length ci j))) hx hb hts k1 (tf ci) k4 hown (hts _ hw1) (hts _ hw2) (hts _ hw3) (xi_K0 hKc) hP hD hS hA hq (fun j hj => ?_) (Nat.le_trans h1 hce) (by rw [k2]; exact Nat.le_trans h2 hsl) hd (fun q H1 hP1 hD1 hS1 => ?_)
  · rw [hfv ad j hj]
    unfold vp_V
    rw [List.getD_eq_getElem?_getD, xi_getD (by rw [← k2]; exact hj)]
    rfl
  obtain ⟨ad', ead⟩ : ∃ f : Nat → Nat, f = fun j => if j = σ.1.length then q else ad j := ⟨_, rfl⟩
  have hA2 : xi_A σ ad σ' ad' := by rw [ead]; exact xi_A_push s1 (by omega)
  have a1 : ad' σ.1.length = q := by rw [ead]; exact if_pos rfl
  have e1 : xi_ws G.2.1 ad' ca σ' = xi_ws G.2.1 ad ca σ ++ [(q, .inr (ci, (List.range (G.2.1.getD ci []).length).map (fun j => xi_v ad (xi_fld G.2.1 σ' σ.1.length ci j))))] := by
    rw [xi_ws_push (ad := ad) (ca := ca) (ad' := ad') (ca' := ca) s1 (fun k hk => by rw [es]; exact xi_zne (by omega)) (fun k hk => by rw [es]; exact xi_zne (by omega)) (fun k hk => by rw [es]; exact xi_zne (by omega)) hA2.1 (fun k hk => rfl) hF.1, a1, xi_cell_obj]
    congr 5
    apply List.map_congr_left
    intro j hj
    have hj2 : j < q0.2.2 := by rw [k2]; exact List.mem_range.mp hj
    rw [← hfv ad' j hj2, ← hfv ad j hj2]
  have hP2 : va_P D cl (xi_ws G.2.1 ad' ca σ') H1 := by rw [e1]; exact hP1
  have hD2 : va_D A (xi_ws G.2.1 ad' ca σ') := by rw [e1]; exact hD1
  have hT2 : xi_T ca σ' s := by
    intro k d hk
    rw [s1] at hk
    by_cases e : k = σ.1.length
    · subst e
      have : d = (0, ci) := by simpa using hk.symm
      subst this
      exact ⟨fun z => absurd (show (0 : Nat) = 1 from z) (by decide), fun z => absurd (show (0 : Nat) = 2 from z) (by decide)⟩
    · have e2 : k < σ.1.length := by
        have := (List.getElem?_eq_some_iff.mp hk).1
        simp at this
        omega
      rw [List.getElem?_append_left e2] at hk
      exact hT k d hk
  have hF2 : xi_F σ' := xi_F_push hF s1 (by rw [es]) h4
  have est : Value.ref q :: st.map (xi_v ad) = (Value.ref σ.1.length :: st).map (xi_v ad') := by
    rw [List.map_cons, xi_wfs_v hA2 st h6]
    show _ = Value.ref (ad' σ.1.length) :: _
    rw [a1]
  rw [show (Value.ref q :: List.map (xi_v ad) st) = (Value.ref σ.1.length :: st).map (xi_v ad') from est, k2]
  exact hX' _ _ _ _ _ _ _ _ h md hmd p e s m args below meth c R Z D A ad' ca H1 locs lsA hC (xi_O_ad hO hA2.2.1) ⟨hP2, hD2, hS1, hT2, hF2⟩ (xi_has hl (xi_wfl_v hA2 h5)) (fun r σ2 ad2 ca2 H2 locs2 nc2 ns2 pc2 lsA2 hQ hR2 hA3 => hret r σ2 ad2 ca2 H2 locs2 nc2 ns2 pc2 lsA2 hQ hR2 (xi_A_tr hA2 hA3))
end XIS4
end
section
section XIS5
variable {T : List Cond} {cl : List vw_C} {zs : xiZ} {tf : Nat → Nat → FieldType} {l : Launch} {G : xiG}
theorem xi_T_moved {ca : Nat → ClassId} {σ : xiS} {u U : State} (hvm : u.vm.Alike U.vm) (h : xi_T ca σ u) : xi_T ca σ U := fun k d hk => ⟨fun z => ⟨arrOfT_moved hvm ((h k d hk).1 z).1, ((h k d hk).1 z).2.moved hvm⟩, fun z => ⟨arrOfT_moved hvm ((h k d hk).2 z).1, ((h k d hk).2 z).2.moved hvm⟩⟩
theorem xi_O_moved {A : Nat → Prop} {ad : Nat → Nat} {u U : State} {H : Heap} (hvm : u.vm.Alike U.vm) (hn : ∀ (a : String) (i : Nat) (x : MethodName) (h : String), va_Nw (.methodLinkNest a i x h) u → va_Nw (.methodLinkNest a i x h) U) (h : xi_O zs G A ad u H) : xi_O zs G A ad U H := ⟨fun j q hq => va_T.moved hvm (h.1 j q hq), fun j z hz => va_Z.moved hvm (h.2.1 j z hz), fun q hq => hn _ _ _ _ (h.2.2 q hq)⟩
theorem xi_O_kept {A : Nat → Prop} {ad : Nat → Nat} {U : State} {H H1 : Heap} (h : xi_O zs G A ad U H) (hq : ∀ a : Nat, a < H.size → ¬ A a → H1[a]? = H[a]?) : xi_O zs G A ad U H1 := ⟨fun j q e => va_T.kept (h.1 j q e) hq, fun j z e => va_Z.kept (h.2.1 j z e) hq, h.2.2⟩
theorem xi_O_narrow {A B : Nat → Prop} {ad : Nat → Nat} {U : State} {H : Heap} (h : xi_O zs G A ad U H) (hAB : ∀ q, B q → A q) : xi_O zs G B ad U H := ⟨fun j q e => va_T.narrow (h.1 j q e) hAB, fun j z e => va_Z.narrow (h.2.1 j z e) hAB, h.2.2⟩
def xi_Pc (cl : List vw_C) (zs : xiZ) (G : xiG) (D : va_G) (ad : Nat → Nat) (ca : Nat → ClassId) (σ : xiS) (sz : Nat) (vs : List Value) : Array Value → State → Prop :=
  va_Pc (vs.map (xi_v ad)) (fun U => U.heap.size = sz ∧ va_P D cl (xi_ws G.2.1 ad ca σ) U.heap ∧ va_D (fun _ => True) (xi_ws G.2.1 ad ca σ) ∧ (∀ (c : Nat) (q : vw_C), cl[c]? = some q → u_Kn U q.1 q.2.1 q.2.2 (D.1 c) (D.2 c)) ∧ xi_T ca σ U ∧ xi_O zs G (va_A (xi_ws G.2.1 ad ca σ) sz) ad U U.heap)
def xi_Qc (cl : List vw_C) (G : xiG) (D : va_G) (ad : Nat → Nat) (σ : xiS) (A1 : Nat → Prop) (Q0 : xiQ) : Array Value → State → Outcome → State → Prop := fun _ st oc t =>
  (∃ (r : Option Value) (σ' : xiS) (ad' : Nat → Nat) (ca' : Nat → ClassId), oc = .returned (r.map (xi_v ad')) ∧ Q0 r σ' ∧ xi_A σ ad σ' ad' ∧ va_P D cl (xi_ws G.2.1 ad' ca' σ') t.heap ∧ va_D A1 (xi_ws G.2.1 ad' ca' σ') ∧ xi_T ca' σ' t ∧ xi_F σ') ∧ va_F A1 st t
/-- a contract out of a walk, for a method that no entry of the machine's own stands for -/
theorem xi_ofW {y : MethodName} {ws ws' : List Cond} {rm : Room} {Pc : Array Value → State → Prop} {Qc : Array Value → State → Outcome → State → Prop} {mc ms : Nat} {free : Addr → Prop} {cc : ByteArray} {maxL : Nat} {ret : Option FieldType} (hy : plainFor y = true) (hw : ws = Cond.code y cc maxL ret :: ws')
    (body : ∀ p e s m args below meth c s₁, BodyLoose p l y (headSpec ws rm) cc maxL ret e s m args below meth c s₁ → c.maxLocals = maxL → Pc args s → W p l e (headSpec ws rm).room s m args below meth c s.heap [] 0 0 (MQ below Qc args s mc ms free) (entryFrame m args maxL)) : Met l y ws rm Pc Qc mc ms free := by
  refine MetFree.of_bodySF (code := cc) (maxLocals := maxL) (ret := ret) hy (fun args s m h hn => ?_) (fun p e s m args below meth c s₁ B hml hP _ => ?_)
  · obtain ⟨meth, c, h1, h2, h3, h4, h5, h6, -, -⟩ := Cond.code_spec hn (atoms_spec (ws := ws) h _ (by rw [hw]; exact List.mem_cons_self))
    exact ⟨meth, c, h1, h2, h3, h4, h5, h6⟩
  · obtain ⟨t, a1, o, b1, b2, b3⟩ := body p e s m args below meth c s₁ B hml hP s₁ (by rw [B.state]; rfl) (Stand.of_body B)
    exact ⟨t, o, a1, b1, b2, b3.1, b3.2⟩
def xi_rm (mn : xiM) : Room := { frames := mn.2.2.1.1, cells := mn.2.2.1.2.2.1, slots := mn.2.2.1.2.2.2, locals := mn.2.2.1.2.1 }
theorem xi_Pc_blind {D : va_G} {ad : Nat → Nat} {ca : Nat → ClassId} {σ : xiS} {sz : Nat} {vs : List Value} : FrameBlind (xi_Pc cl zs G D ad ca σ sz vs) := by
  intro a U g mk h
  obtain ⟨h1, h2, h3, h4, h5, h6, h7⟩ := h
  exact ⟨h1, h2, h3, h4, fun c q hq => u_Kn_moved (u := U) (U := U.calling g mk a) (Vm.Alike.refl U.vm) (h5 c q hq), xi_T_moved (u := U) (U := U.calling g mk a) (Vm.Alike.refl U.vm) h6, xi_O_moved (u := U) (U := U.calling g mk a) (Vm.Alike.refl U.vm) (fun _ _ _ _ z => va_Nw.same rfl rfl z) h7⟩
set_option maxHeartbeats 4000000 in
theorem xi_met {ν : Nat} {mn : xiM} (hmn : G.1[ν]? = some mn) (hpl : plainFor mn.1.2.1 = true) (hnm : mn.1.1 = "init" → mn.1.2.1.name = "<init>") {vs : List Value} {σ : xiS} {Q0 : xiQ} {ad : Nat → Nat} {ca : Nat → ClassId} {D : va_G} {sz : Nat} (hlen : (xi_ent1 vs).length ≤ mn.2.1.1) (hF : xi_F σ) (h : xi_OK T cl zs l G ν 0 (xi_ent vs mn.2.1.1) [] σ 0 0 Q0) :
    Met l mn.1.2.1 (Cond.code mn.1.2.1 mn.1.2.2 mn.2.1.1 mn.2.1.2.1 :: T) (xi_rm mn) (xi_Pc cl zs G D ad ca σ sz vs) (xi_Qc cl G D ad σ (va_A (xi_ws G.2.1 ad ca σ) sz) Q0) mn.2.2.1.2.2.1 mn.2.2.1.2.2.2 (va_A (xi_ws G.2.1 ad ca σ) sz) := by
  refine xi_ofW (cc := mn.1.2.2) (maxL := mn.2.1.1) (ret := mn.2.1.2.1) hpl rfl ?_
  intro p e s m args below meth c s₁ B hml hv
  obtain ⟨rfl, hsz, hP, hD0, hKc, hT, hO⟩ := hv
  subst hsz
  have hts := atoms_spec (ws := Cond.code mn.1.2.1 mn.1.2.2 mn.2.1.1 mn.2.1.2.1 :: T) B.pre
  have hown : s.vm.findClass mn.1.2.1.cls = some m.cls := findClass_of_methodNamed B.named
  have hlocks := B.notSynchronized
  have hr := B.returns
  have hx := B.exec
  have hb := B.bytes
  have hl := lv_entry (vs.map (xi_v ad)) (n := mn.2.1.1) (by rw [xi_ent_len]; exact hlen)
  rw [lg_entry_eq]
  generalize (lg_sl (vs.map (xi_v ad)) ++ List.replicate (mn.2.1.1 - (lg_sl (vs.map (xi_v ad))).length) Slot.unset).toArray = ls at hl ⊢
  have hl2 : lv_has ls mn.2.1.1 (xi_l ad (xi_ent vs mn.2.1.1)) := by
    refine xi_has hl fun q hq => ?_
    obtain ⟨v, hv, h2⟩ := xi_l_mem.mp hq
    have := xi_ent_mem (ad := ad) vs 0 q.1 v hv
    rw [Nat.zero_add, ← h2] at this
    exact this
  refine h mn hmn p e s m _ below meth c (xi_rm mn) _ D (va_A (xi_ws G.2.1 ad ca σ) s.heap.size) ad ca s.heap [] ls ⟨hx, hb, hml, hown, fun w hw => hts w (List.mem_cons_of_mem _ hw), fun q hq => Or.inr hq, hKc, Nat.le_refl _, Nat.le_refl _, Nat.le_refl _, Nat.le_refl _, fun z => (name_of_methodNamed B.named B.method).1.trans (hnm z)⟩ hO ⟨hP, hD0.self, va_S.rf, hT, hF⟩ hl2 ?_
  intro r σ' ad' ca' H' locs' nc' ns' pc' lsA' hQ hR hA hnc hns hre
  refine W.widen hnc hns ?_
  have hf : ∀ q ∈ locs', (va_A (xi_ws G.2.1 ad ca σ) s.heap.size) q.base := hR.2.2.1.2.2
  have hq : ∀ t : State, t.heap = H' → s.WarmedH t.vm → xi_Qc cl G D ad σ (va_A (xi_ws G.2.1 ad ca σ) s.heap.size) Q0 (vs.map (xi_v ad)).toArray s (.returned (r.map (xi_v ad'))) t := fun t ht hW => ⟨⟨r, σ', ad', ca', rfl, hQ, hA, by rw [ht]; exact hR.1, hR.2.1, xi_T_moved hW.alike hR.2.2.2.1, hR.2.2.2.2⟩, hR.2.2.1.F ht⟩
  unfold xi_ret at hre
  split at hre
  · exact W.vret hx hb (hr.trans hre.2) hq hf hre.1
  · rename_i v
    rcases hre.2 with h1 | ⟨h1, h2⟩
    · exact W.iret hx hb (hr.trans h1) hq hf hre.1
    · exact W.zret hx hb (hr.trans h1) (xi_bool h2).1 hq hf hre.1
  · exact W.lret hx hb (hr.trans hre.2) hq hf hre.1
  · exact hre.elim
end XIS5
end
section
section XIS6
variable {T : List Cond} {cl : List vw_C} {zs : xiZ} {tf : Nat → Nat → FieldType} {l : Launch} {G : xiG}
theorem xi_after {X' : xiX} (hX' : ∀ μ pc ls st σ nc ns Q, X' μ pc ls st σ nc ns Q → xi_OK T cl zs l G μ pc ls st σ nc ns Q) {μ pc : Nat} {ls : List (Option Value)} {st : List Value} {σ : xiS} {nc ns : Nat} {Q : xiQ} {md : xiM} (hmd : G.1[μ]? = some md) {p : Program} {e : Env} {s : State} {m : MethodId} {args : Array Value} {below : List Frame} {meth : Method} {c : Code} {R : Room} {Z : State → Prop} {D : va_G} {A : Nat → Prop} {ad : Nat → Nat} {ca : Nat → ClassId} {H : Heap} {locs : List Loc} {lsA : Array Slot}
    (hC : xi_C T cl G D p s m args meth c R md A) (hO : xi_O zs G A ad s s.heap) (hR : xi_R cl G D s A ad ca σ H locs) (hl : lv_has lsA md.2.1.1 (xi_l ad ls))
    (hret : ∀ (r : Option Value) (σ' : xiS) (ad' : Nat → Nat) (ca' : Nat → ClassId) (H' : Heap) (locs' : List Loc) (nc' ns' pc' : Nat) (lsA' : Array Slot), Q r σ' → xi_R cl G D s A ad' ca' σ' H' locs' → xi_A σ ad σ' ad' → nc' ≤ md.2.2.1.2.2.1 → ns' ≤ md.2.2.1.2.2.2 → xi_ret md pc' r →
      W p l e R s m args below meth c H' locs' nc' ns' Z (F0 m pc' lsA' (r.toList.map (xi_v ad'))))
    {mn : xiM} {rest : List Value} {a : Array Value} (hw1 : xi_wfl σ.1.length ls = true) (hw2 : xi_wfs σ.1.length rest = true)
    (hr : va_Run p l e R s m args below meth c H locs nc ns mn.2.2.1.2.2.1 mn.2.2.1.2.2.2 (F0 m pc lsA (st.map (xi_v ad))) (rest.map (xi_v ad)) (xi_Qc cl G D ad σ (va_A (xi_ws G.2.1 ad ca σ) H.size) (fun r σ' => X' μ (pc + 3) ls (r.toList ++ rest) σ' (nc + mn.2.2.1.2.2.1) (ns + mn.2.2.1.2.2.2) Q) a) (va_A (xi_ws G.2.1 ad ca σ) H.size)) : W p l e R s m args below meth c H locs nc ns Z (F0 m pc lsA (st.map (xi_v ad))) := by
  obtain ⟨hx, hb, hml, hown, hts, hA, hKc, hfr, hlo, hce, hsl, hin⟩ := id hC
  obtain ⟨hP, hD, hS, hT, hF⟩ := id hR
  have hA1 : ∀ q, va_A (xi_ws G.2.1 ad ca σ) H.size q → A q := by
    intro q hq
    rcases hq with ⟨k, e, hk⟩ | hq
    · exact hD.2 k _ hk
    · exact hA q (Nat.le_trans hS.1 hq)
  intro T0 hT0 X0
  obtain ⟨v, st₀, t, T', L, h0, X1, hL, e1, e2, ⟨⟨r, σ', ad', ca', hv, hQ, hA2, hP1, hD1, hT1, hF1⟩, hz, hk⟩, stp⟩ := hr T0 hT0 X0
  cases hv
  rw [h0] at hz hk
  have hS1 : va_S A s.heap T'.heap (locs ++ L) := ⟨Nat.le_trans hS.1 (by rw [e1]; exact hz), fun q h1 h2 => by rw [e1, hk q (Nat.lt_of_lt_of_le h1 hS.1) (fun z => h2 (hA1 q z))]; exact hS.2.1 q h1 h2, fun q hq => by
      rcases List.mem_append.mp hq with h | h
      · exact hS.2.2 q h
      · exact hA1 _ (hL q h)⟩
  have hvm : s.vm.Alike t.vm := by rw [← e2]; exact X1.warmed.alike
  have K := hX' _ _ _ _ _ _ _ _ hQ md hmd p e s m args below meth c R Z D A ad' ca' T'.heap (locs ++ L) lsA hC (xi_O_ad hO hA2.2.1) ⟨by rw [e1]; exact hP1, hD1.weaken (fun _ _ _ z => hA1 _ z), hS1, xi_T_moved hvm.symm hT1, hF1⟩ (xi_has hl (xi_wfl_v hA2 hw1)) (fun r2 σ2 ad2 ca2 H2 locs2 nc2 ns2 pc2 lsA2 hQ2 hR2 hA3 => hret r2 σ2 ad2 ca2 H2 locs2 nc2 ns2 pc2 lsA2 hQ2 hR2 (xi_A_tr hA2 hA3))
  obtain ⟨t2, a1, b1⟩ := K T' rfl X1
  refine ⟨t2, stp t2 ?_, b1⟩
  have est : (r.map (xi_v ad')).toList ++ rest.map (xi_v ad) = (r.toList ++ rest).map (xi_v ad') := by
    rw [List.map_append, xi_wfs_v hA2 rest hw2]
    cases r <;> rfl
  rw [est]
  exact a1

/-- what the callee asks holds at the call -/
theorem xi_pre {σ : xiS} {p : Program} {s : State} {m : MethodId} {args : Array Value} {meth : Method} {c : Code} {R : Room} {md : xiM} {D : va_G} {A : Nat → Prop} {ad : Nat → Nat} {ca : Nat → ClassId} {H : Heap} {locs : List Loc}
    (hC : xi_C T cl G D p s m args meth c R md A) (hO : xi_O zs G A ad s s.heap) (hR : xi_R cl G D s A ad ca σ H locs) {vs : List Value} (U : State) (hU : U.heap = H) (hW : s.WarmedH U.vm) : xi_Pc cl zs G D ad ca σ H.size vs (vs.map (xi_v ad)).toArray U := by
  obtain ⟨hx, hb, hml, hown, hts, hA, hKc, hfr, hlo, hce, hsl, hin⟩ := id hC
  obtain ⟨hP, hD, hS, hT, hF⟩ := id hR
  have hA1 : ∀ q, va_A (xi_ws G.2.1 ad ca σ) H.size q → A q := by
    intro q hq
    rcases hq with ⟨k, e, hk⟩ | hq
    · exact hD.2 k _ hk
    · exact hA q (Nat.le_trans hS.1 hq)
  refine ⟨rfl, by rw [hU], by rw [hU]; exact hP, hD.weaken (fun _ _ _ _ => trivial), fun c q hq => u_Kn_moved hW.alike (hKc c q hq), xi_T_moved hW.alike hT, ?_⟩
  rw [hU]
  exact xi_O_moved hW.alike (fun _ _ _ _ z => va_Nw.warmM hW z) (xi_O_narrow (xi_O_kept hO hS.2.1) hA1)
theorem xi_goodIn {mn : xiM} (hg : ∀ w ∈ T, goodWord w = true) (hc : Cond.code mn.1.2.1 mn.1.2.2 mn.2.1.1 mn.2.1.2.1 ∈ T) : GoodIn T (Cond.code mn.1.2.1 mn.1.2.2 mn.2.1.1 mn.2.1.2.1 :: T) := fun w hw => by
  rcases List.mem_cons.mp hw with rfl | h
  · exact ⟨hc, good_of_word (hg _ hc)⟩
  · exact ⟨h, good_of_word (hg _ h)⟩
theorem xi_goodInN {mn : xiM} (hg : ∀ w ∈ T, goodWord w = true) (hc : Cond.code mn.1.2.1 mn.1.2.2 mn.2.1.1 none ∈ T) : GoodIn T (Cond.code mn.1.2.1 mn.1.2.2 mn.2.1.1 none :: T) := fun w hw => by
  rcases List.mem_cons.mp hw with rfl | h
  · exact ⟨hc, good_of_word (hg _ hc)⟩
  · exact ⟨h, good_of_word (hg _ h)⟩
theorem xi_okM_of {mn : xiM} (h : xi_okM T mn = true) : plainFor mn.1.2.1 = true ∧ Cond.code mn.1.2.1 mn.1.2.2 mn.2.1.1 mn.2.1.2.1 ∈ T ∧ Cond.initialized mn.1.2.1.cls ∈ T ∧ mn.1.2.1.cls ≠ "java/lang/invoke/MethodHandle" ∧ mn.1.2.1.cls ≠ "java/lang/invoke/VarHandle" ∧ (parseMethodDescriptor mn.1.2.1.desc).map (fun d => d.parameters.length) = some mn.2.1.2.2 ∧ (mn.1.1 = "static" → Cond.static mn.1.2.1 ∈ T) ∧ (mn.1.1 = "virtual" → Cond.instanceMethod mn.1.2.1 ∈ T ∧ Cond.selects mn.1.2.1.cls mn.1.2.1 mn.1.2.1 ∈ T) ∧ (mn.1.1 = "init" → Cond.instanceMethod mn.1.2.1 ∈ T ∧ mn.1.2.1.name = "<init>" ∧ mn.2.1.2.1 = none) := by
  unfold xi_okM at h
  simp only [Bool.and_eq_true, decide_eq_true_eq] at h
  obtain ⟨⟨⟨⟨⟨⟨h1, h2⟩, h3⟩, h4⟩, h5⟩, h6⟩, h7⟩ := h
  refine ⟨h1, h2, h3, h4, h5, h6, fun z => ?_, fun z => ?_, fun z => ?_⟩
  · rw [z] at h7
    simpa using h7
  · rw [z] at h7
    simpa using h7
  · rw [z] at h7
    simp at h7
    exact ⟨h7.1.1, h7.1.2, h7.2⟩

set_option maxHeartbeats 4000000 in
theorem xi_s_static {X' : xiX} (hX' : ∀ μ pc ls st σ nc ns Q, X' μ pc ls st σ nc ns Q → xi_OK T cl zs l G μ pc ls st σ nc ns Q) {μ pc : Nat} {ls : List (Option Value)} {st : List Value} {σ : xiS} {nc ns : Nat} {Q : xiQ} {md : xiM} (hmd : G.1[μ]? = some md) {p : Program} {e : Env} {s : State} {m : MethodId} {args : Array Value} {below : List Frame} {meth : Method} {c : Code} {R : Room} {Z : State → Prop} {D : va_G} {A : Nat → Prop} {ad : Nat → Nat} {ca : Nat → ClassId} {H : Heap} {locs : List Loc} {lsA : Array Slot}
    (hC : xi_C T cl G D p s m args meth c R md A) (hO : xi_O zs G A ad s s.heap) (hR : xi_R cl G D s A ad ca σ H locs) (hl : lv_has lsA md.2.1.1 (xi_l ad ls))
    (hret : ∀ (r : Option Value) (σ' : xiS) (ad' : Nat → Nat) (ca' : Nat → ClassId) (H' : Heap) (locs' : List Loc) (nc' ns' pc' : Nat) (lsA' : Array Slot), Q r σ' → xi_R cl G D s A ad' ca' σ' H' locs' → xi_A σ ad σ' ad' → nc' ≤ md.2.2.1.2.2.1 → ns' ≤ md.2.2.1.2.2.2 → xi_ret md pc' r →
      W p l e R s m args below meth c H' locs' nc' ns' Z (F0 m pc' lsA' (r.toList.map (xi_v ad'))))
    (hg : ∀ w ∈ T, goodWord w = true) {i ν : Nat} {mn : xiM} (hmn : G.1[ν]? = some mn) (hok : xi_okM T mn = true) (hd : decode md.1.2.2 pc = .ok (.invokestatic i, 3)) (hk : mn.1.1 = "static") (hw : Cond.methodLink md.1.2.1.cls i mn.1.2.1 ∈ T) (hn : mn.2.1.2.2 ≤ st.length) (h : xi_call G X' md μ pc ls σ nc ns Q ν mn (st.take mn.2.1.2.2).reverse (st.drop mn.2.1.2.2)) : W p l e R s m args below meth c H locs nc ns Z (F0 m pc lsA (st.map (xi_v ad))) := by
  obtain ⟨hx, hb, hml, hown, hts, hA, hKc, hfr, hlo, hce, hsl, hin⟩ := id hC
  obtain ⟨hP, hD, hS, hT, hF⟩ := id hR
  unfold xi_call at h
  obtain ⟨hc, h⟩ := xi_b_of h
  simp only [Bool.and_eq_true, Nat.ble_eq] at hc
  obtain ⟨⟨⟨⟨⟨⟨⟨c1, c2⟩, c3⟩, c4⟩, c5⟩, c6⟩, c7⟩, c8⟩ := hc
  obtain ⟨o1, o2, o3, o4, o5, o6, o7, o8, o9⟩ := xi_okM_of hok
  have hM := xi_met (D := D) (ad := ad) (ca := ca) (sz := H.size) hmn o1 (fun z => (o9 z).2.1) c6 hF (hX' _ _ _ _ _ _ _ _ h)
  refine xi_after hX' hmd hC hO hR hl hret (mn := mn) (rest := st.drop mn.2.1.2.2) (a := ((st.take mn.2.1.2.2).reverse.map (xi_v ad)).toArray) c7 c8 ?_
  refine va_runS (As := (st.take mn.2.1.2.2).reverse.map (xi_v ad)) (n := mn.2.1.2.2) ⟨hx, hb, hml, hown, hts⟩ hM ⟨callB_of mn.2.1.2.2 hts (xi_goodIn hg o2) rfl rfl rfl (hts _ o3) (hts _ hw) ⟨o4, o5, o6⟩ ⟨Nat.le_trans c1 hfr, Nat.le_trans c2 hlo⟩, hts _ (o7 hk)⟩ ⟨xi_Pc_blind, fun U hU hW => xi_pre hC hO hR U hU hW⟩ rfl ?_ hl.1 ?_ ?_ hd ⟨Nat.le_trans c3 hce, Nat.le_trans c4 hsl⟩
  · rw [List.length_map, List.length_reverse, List.length_take]; omega
  · rw [← List.map_reverse, List.reverse_reverse, ← List.map_append, List.take_append_drop]
  · exact lv_room (by rw [xi_w8_eq]; exact c5)
set_option maxHeartbeats 4000000 in
theorem xi_s_virtual {X' : xiX} (hX' : ∀ μ pc ls st σ nc ns Q, X' μ pc ls st σ nc ns Q → xi_OK T cl zs l G μ pc ls st σ nc ns Q) {μ pc : Nat} {ls : List (Option Value)} {st : List Value} {σ : xiS} {nc ns : Nat} {Q : xiQ} {md : xiM} (hmd : G.1[μ]? = some md) {p : Program} {e : Env} {s : State} {m : MethodId} {args : Array Value} {below : List Frame} {meth : Method} {c : Code} {R : Room} {Z : State → Prop} {D : va_G} {A : Nat → Prop} {ad : Nat → Nat} {ca : Nat → ClassId} {H : Heap} {locs : List Loc} {lsA : Array Slot}
    (hC : xi_C T cl G D p s m args meth c R md A) (hO : xi_O zs G A ad s s.heap) (hR : xi_R cl G D s A ad ca σ H locs) (hl : lv_has lsA md.2.1.1 (xi_l ad ls))
    (hret : ∀ (r : Option Value) (σ' : xiS) (ad' : Nat → Nat) (ca' : Nat → ClassId) (H' : Heap) (locs' : List Loc) (nc' ns' pc' : Nat) (lsA' : Array Slot), Q r σ' → xi_R cl G D s A ad' ca' σ' H' locs' → xi_A σ ad σ' ad' → nc' ≤ md.2.2.1.2.2.1 → ns' ≤ md.2.2.1.2.2.2 → xi_ret md pc' r →
      W p l e R s m args below meth c H' locs' nc' ns' Z (F0 m pc' lsA' (r.toList.map (xi_v ad'))))
    (hg : ∀ w ∈ T, goodWord w = true) {i ν : Nat} {mn : xiM} (hmn : G.1[ν]? = some mn) (hok : xi_okM T mn = true) {o ci : Nat} {q : vw_C} {t : List Value} (hd : decode md.1.2.2 pc = .ok (.invokevirtual i, 3)) (hk : mn.1.1 = "virtual") (hw : Cond.methodLink md.1.2.1.cls i mn.1.2.1 ∈ T) (hdr : st.drop mn.2.1.2.2 = .ref o :: t) (ho : σ.1[o]? = some (0, ci)) (hq : cl[ci]? = some q) (hcl : mn.1.2.1.cls = q.1) (h : xi_call G X' md μ pc ls σ nc ns Q ν mn (.ref o :: (st.take mn.2.1.2.2).reverse) t) : W p l e R s m args below meth c H locs nc ns Z (F0 m pc lsA (st.map (xi_v ad))) := by
  obtain ⟨hx, hb, hml, hown, hts, hA, hKc, hfr, hlo, hce, hsl, hin⟩ := id hC
  obtain ⟨hP, hD, hS, hT, hF⟩ := id hR
  unfold xi_call at h
  obtain ⟨hc, h⟩ := xi_b_of h
  simp only [Bool.and_eq_true, Nat.ble_eq] at hc
  obtain ⟨⟨⟨⟨⟨⟨⟨c1, c2⟩, c3⟩, c4⟩, c5⟩, c6⟩, c7⟩, c8⟩ := hc
  obtain ⟨o1, o2, o3, o4, o5, o6, o7, o8, o9⟩ := xi_okM_of hok
  have hM := xi_met (D := D) (ad := ad) (ca := ca) (sz := H.size) hmn o1 (fun z => (o9 z).2.1) c6 hF (hX' _ _ _ _ _ _ _ _ h)
  have hlen : mn.2.1.2.2 ≤ st.length := by
    have := congrArg List.length hdr
    rw [List.length_drop] at this
    simp at this
    omega
  refine xi_after hX' hmd hC hO hR hl hret (mn := mn) (rest := t) (a := ((Value.ref o :: (st.take mn.2.1.2.2).reverse).map (xi_v ad)).toArray) c7 c8 ?_
  refine va_runV (C := q.1) (b := ad o) (As := (st.take mn.2.1.2.2).reverse.map (xi_v ad)) (n := mn.2.1.2.2) ⟨hx, hb, hml, hown, hts⟩ hM ⟨callB_of mn.2.1.2.2 hts (xi_goodIn hg o2) rfl rfl rfl (hts _ o3) (hts _ hw) ⟨o4, o5, o6⟩ ⟨Nat.le_trans c1 hfr, Nat.le_trans c2 hlo⟩, hts _ (o8 hk).1, by rw [← hcl]; exact hts _ (o8 hk).2⟩ ⟨xi_Pc_blind, va_recv (xi_K0 hKc) hP hq (xi_ws_at ho), fun U hU hW => xi_pre hC hO hR (vs := .ref o :: (st.take mn.2.1.2.2).reverse) U hU hW⟩ rfl ?_ hl.1 ?_ ?_ hd ⟨Nat.le_trans c3 hce, Nat.le_trans c4 hsl⟩
  · rw [List.length_map, List.length_reverse, List.length_take]; omega
  · show st.map (xi_v ad) = _
    have e : st = st.take mn.2.1.2.2 ++ (.ref o :: t) := by rw [← hdr, List.take_append_drop]
    rw [← List.map_reverse, List.reverse_reverse]
    conv => lhs; rw [e]
    rw [List.map_append]
    rfl
  · exact lv_room (by rw [xi_w8_eq]; exact c5)
set_option maxHeartbeats 4000000 in
theorem xi_s_special {X' : xiX} (hX' : ∀ μ pc ls st σ nc ns Q, X' μ pc ls st σ nc ns Q → xi_OK T cl zs l G μ pc ls st σ nc ns Q) {μ pc : Nat} {ls : List (Option Value)} {st : List Value} {σ : xiS} {nc ns : Nat} {Q : xiQ} {md : xiM} (hmd : G.1[μ]? = some md) {p : Program} {e : Env} {s : State} {m : MethodId} {args : Array Value} {below : List Frame} {meth : Method} {c : Code} {R : Room} {Z : State → Prop} {D : va_G} {A : Nat → Prop} {ad : Nat → Nat} {ca : Nat → ClassId} {H : Heap} {locs : List Loc} {lsA : Array Slot}
    (hC : xi_C T cl G D p s m args meth c R md A) (hO : xi_O zs G A ad s s.heap) (hR : xi_R cl G D s A ad ca σ H locs) (hl : lv_has lsA md.2.1.1 (xi_l ad ls))
    (hret : ∀ (r : Option Value) (σ' : xiS) (ad' : Nat → Nat) (ca' : Nat → ClassId) (H' : Heap) (locs' : List Loc) (nc' ns' pc' : Nat) (lsA' : Array Slot), Q r σ' → xi_R cl G D s A ad' ca' σ' H' locs' → xi_A σ ad σ' ad' → nc' ≤ md.2.2.1.2.2.1 → ns' ≤ md.2.2.1.2.2.2 → xi_ret md pc' r →
      W p l e R s m args below meth c H' locs' nc' ns' Z (F0 m pc' lsA' (r.toList.map (xi_v ad'))))
    (hg : ∀ w ∈ T, goodWord w = true) {i ν : Nat} {mn : xiM} (hmn : G.1[ν]? = some mn) (hok : xi_okM T mn = true) {o : Nat} {t : List Value} (hd : decode md.1.2.2 pc = .ok (.invokespecial i, 3)) (hk : mn.1.1 = "init") (hw : Cond.methodLink md.1.2.1.cls i mn.1.2.1 ∈ T) (hdr : st.drop mn.2.1.2.2 = .ref o :: t) (h : xi_call G X' md μ pc ls σ nc ns Q ν mn (.ref o :: (st.take mn.2.1.2.2).reverse) t) : W p l e R s m args below meth c H locs nc ns Z (F0 m pc lsA (st.map (xi_v ad))) := by
  obtain ⟨hx, hb, hml, hown, hts, hA, hKc, hfr, hlo, hce, hsl, hin⟩ := id hC
  obtain ⟨hP, hD, hS, hT, hF⟩ := id hR
  unfold xi_call at h
  obtain ⟨hc, h⟩ := xi_b_of h
  simp only [Bool.and_eq_true, Nat.ble_eq] at hc
  obtain ⟨⟨⟨⟨⟨⟨⟨c1, c2⟩, c3⟩, c4⟩, c5⟩, c6⟩, c7⟩, c8⟩ := hc
  obtain ⟨o1, o2, o3, o4, o5, o6, o7, o8, o9⟩ := xi_okM_of hok
  have hM := xi_met (D := D) (ad := ad) (ca := ca) (sz := H.size) hmn o1 (fun z => (o9 z).2.1) c6 hF (hX' _ _ _ _ _ _ _ _ h)
  have hlen : mn.2.1.2.2 ≤ st.length := by
    have := congrArg List.length hdr
    rw [List.length_drop] at this
    simp at this
    omega
  rw [(o9 hk).2.2] at hM o2
  refine xi_after hX' hmd hC hO hR hl hret (mn := mn) (rest := t) (a := ((Value.ref o :: (st.take mn.2.1.2.2).reverse).map (xi_v ad)).toArray) c7 c8 ?_
  refine va_runI (b := ad o) (As := (st.take mn.2.1.2.2).reverse.map (xi_v ad)) (n := mn.2.1.2.2) ⟨hx, hb, hml, hown, hts⟩ hM ⟨callB_of mn.2.1.2.2 hts (xi_goodInN hg o2) rfl rfl rfl (hts _ o3) (hts _ hw) ⟨o4, o5, o6⟩ ⟨Nat.le_trans c1 hfr, Nat.le_trans c2 hlo⟩, (o9 hk).2.1, hts _ (o9 hk).1⟩ ⟨xi_Pc_blind, fun U hU hW => xi_pre hC hO hR (vs := .ref o :: (st.take mn.2.1.2.2).reverse) U hU hW⟩ rfl ?_ hl.1 ?_ ?_ hd ⟨Nat.le_trans c3 hce, Nat.le_trans c4 hsl⟩
  · rw [List.length_map, List.length_reverse, List.length_take]; omega
  · show st.map (xi_v ad) = _
    have e : st = st.take mn.2.1.2.2 ++ (.ref o :: t) := by rw [← hdr, List.take_append_drop]
    rw [← List.map_reverse, List.reverse_reverse]
    conv => lhs; rw [e]
    rw [List.map_append]
    rfl
  · exact lv_room (by rw [xi_w8_eq]; exact c5)
set_option maxHeartbeats 4000000 in
theorem xi_s_specialN {X' : xiX} (hX' : ∀ μ pc ls st σ nc ns Q, X' μ pc ls st σ nc ns Q → xi_OK T cl zs l G μ pc ls st σ nc ns Q) {μ pc : Nat} {ls : List (Option Value)} {st : List Value} {σ : xiS} {nc ns : Nat} {Q : xiQ} {md : xiM} (hmd : G.1[μ]? = some md) {p : Program} {e : Env} {s : State} {m : MethodId} {args : Array Value} {below : List Frame} {meth : Method} {c : Code} {R : Room} {Z : State → Prop} {D : va_G} {A : Nat → Prop} {ad : Nat → Nat} {ca : Nat → ClassId} {H : Heap} {locs : List Loc} {lsA : Array Slot}
    (hC : xi_C T cl G D p s m args meth c R md A) (hO : xi_O zs G A ad s s.heap) (hR : xi_R cl G D s A ad ca σ H locs) (hl : lv_has lsA md.2.1.1 (xi_l ad ls))
    (hret : ∀ (r : Option Value) (σ' : xiS) (ad' : Nat → Nat) (ca' : Nat → ClassId) (H' : Heap) (locs' : List Loc) (nc' ns' pc' : Nat) (lsA' : Array Slot), Q r σ' → xi_R cl G D s A ad' ca' σ' H' locs' → xi_A σ ad σ' ad' → nc' ≤ md.2.2.1.2.2.1 → ns' ≤ md.2.2.1.2.2.2 → xi_ret md pc' r →
      W p l e R s m args below meth c H' locs' nc' ns' Z (F0 m pc' lsA' (r.toList.map (xi_v ad'))))
    (hg : ∀ w ∈ T, goodWord w = true) {i ν : Nat} {mn : xiM} (hmn : G.1[ν]? = some mn) (hok : xi_okM T mn = true) {o : Nat} {t : List Value} (hd : decode md.1.2.2 pc = .ok (.invokespecial i, 3)) (hk : mn.1.1 = "init") {host : String} (hnw : va_Nw (.methodLinkNest md.1.2.1.cls i mn.1.2.1 host) s) (hdr : st.drop mn.2.1.2.2 = .ref o :: t) (h : xi_call G X' md μ pc ls σ nc ns Q ν mn (.ref o :: (st.take mn.2.1.2.2).reverse) t) : W p l e R s m args below meth c H locs nc ns Z (F0 m pc lsA (st.map (xi_v ad))) := by
  obtain ⟨hx, hb, hml, hown, hts, hA, hKc, hfr, hlo, hce, hsl, hin⟩ := id hC
  obtain ⟨hP, hD, hS, hT, hF⟩ := id hR
  unfold xi_call at h
  obtain ⟨hc, h⟩ := xi_b_of h
  simp only [Bool.and_eq_true, Nat.ble_eq] at hc
  obtain ⟨⟨⟨⟨⟨⟨⟨c1, c2⟩, c3⟩, c4⟩, c5⟩, c6⟩, c7⟩, c8⟩ := hc
  obtain ⟨o1, o2, o3, o4, o5, o6, o7, o8, o9⟩ := xi_okM_of hok
  have hM := xi_met (D := D) (ad := ad) (ca := ca) (sz := H.size) hmn o1 (fun z => (o9 z).2.1) c6 hF (hX' _ _ _ _ _ _ _ _ h)
  have hlen : mn.2.1.2.2 ≤ st.length := by
    have := congrArg List.length hdr
    rw [List.length_drop] at this
    simp at this
    omega
  rw [(o9 hk).2.2] at hM o2
  refine xi_after hX' hmd hC hO hR hl hret (mn := mn) (rest := t) (a := ((Value.ref o :: (st.take mn.2.1.2.2).reverse).map (xi_v ad)).toArray) c7 c8 ?_
  refine va_runIN (host := host) (b := ad o) (As := (st.take mn.2.1.2.2).reverse.map (xi_v ad)) (n := mn.2.1.2.2) ⟨hx, hb, hml, hown, hts⟩ hM ⟨va_cnB mn.2.1.2.2 hts (xi_goodInN hg o2) rfl rfl rfl (hnw) (hts _ o3) ⟨o4, o5, o6⟩ ⟨Nat.le_trans c1 hfr, Nat.le_trans c2 hlo⟩, (o9 hk).2.1, hts _ (o9 hk).1⟩ ⟨xi_Pc_blind, fun U hU hW => xi_pre hC hO hR (vs := .ref o :: (st.take mn.2.1.2.2).reverse) U hU hW⟩ rfl ?_ hl.1 ?_ ?_ hd ⟨Nat.le_trans c3 hce, Nat.le_trans c4 hsl⟩
  · rw [List.length_map, List.length_reverse, List.length_take]; omega
  · show st.map (xi_v ad) = _
    have e : st = st.take mn.2.1.2.2 ++ (.ref o :: t) := by rw [← hdr, List.take_append_drop]
    rw [← List.map_reverse, List.reverse_reverse]
    conv => lhs; rw [e]
    rw [List.map_append]
    rfl
  · exact lv_room (by rw [xi_w8_eq]; exact c5)
end XIS6
end
section
section XIS7
variable {T : List Cond} {cl : List vw_C} {zs : xiZ} {tf : Nat → Nat → FieldType} {l : Launch} {G : xiG}
theorem xi_memT {rc : Nat} {w : Cond} (h : T[rc]? = some w) : w ∈ T := List.mem_of_getElem? h
set_option maxHeartbeats 8000000 in
theorem xi_closed (hG : xi_good T cl zs tf G) : xi_cl G (xi_OK T cl zs l G) := by
  obtain ⟨hgw, hgc, hgm⟩ := hG
  intro X' hX' μ pc ls st σ nc ns Q h md hmd p e s m args below meth c R Z D A ad ca H locs lsA hC hO hR hl hret
  have h' := h.symm
  clear h
  rcases h' with ⟨is, h⟩ | h
  · exact hX' _ _ _ _ _ _ _ _ h md hmd p e s m args below meth c R Z D A ad ca H locs lsA hC hO hR (xi_has hl (xi_fg_mem is ls)) hret
  unfold xi_step at h
  rw [hmd] at h
  dsimp only at h
  cases hlk : xi_look md.2.2.2 pc with
  | none => rw [hlk] at h; exact h.elim
  | some q =>
  obtain ⟨ins, len, ra, rb, rc⟩ := q
  rw [hlk] at h
  dsimp only at h
  have hE := (hgm μ md hmd).2 _ (xi_look_mem _ hlk)
  have hM : ∀ (ν : Nat) (mn : xiM), G.1[ν]? = some mn → mn.1.1 ≠ "law" → xi_okM T mn = true := fun ν mn hh => (hgm ν mn hh).1
  unfold xi_okE at hE
  rw [Bool.and_eq_true, decide_eq_true_eq] at hE
  obtain ⟨hd, hE⟩ := hE
  dsimp only at hd hE
  clear hlk
  cases ins <;> dsimp only at h hE <;> (try exact h.elim)
  case iconst n =>
    have e := Nat.eq_of_beq_eq_true hE
    simp only [xi_len] at e
    subst e
    exact xi_s_iconst hX' hmd hC hO hR hl hret hd h
  case bipush n =>
    have e := Nat.eq_of_beq_eq_true hE
    simp only [xi_len] at e
    subst e
    exact xi_s_bipush hX' hmd hC hO hR hl hret hd h
  case sipush n =>
    have e := Nat.eq_of_beq_eq_true hE
    simp only [xi_len] at e
    subst e
    exact xi_s_sipush hX' hmd hC hO hR hl hret hd h
  case lconst n =>
    have e := Nat.eq_of_beq_eq_true hE
    simp only [xi_len] at e
    subst e
    exact xi_s_lconst hX' hmd hC hO hR hl hret hd h
  case iload_n k =>
    have e := Nat.eq_of_beq_eq_true hE
    simp only [xi_len] at e
    subst e
    exact xi_s_iload_n hX' hmd hC hO hR hl hret hd h
  case iload k =>
    have e := Nat.eq_of_beq_eq_true hE
    simp only [xi_len] at e
    subst e
    exact xi_s_iload hX' hmd hC hO hR hl hret hd h
  case lload_n k =>
    have e := Nat.eq_of_beq_eq_true hE
    simp only [xi_len] at e
    subst e
    exact xi_s_lload_n hX' hmd hC hO hR hl hret hd h
  case lload k =>
    have e := Nat.eq_of_beq_eq_true hE
    simp only [xi_len] at e
    subst e
    exact xi_s_lload hX' hmd hC hO hR hl hret hd h
  case aload_n k =>
    have e := Nat.eq_of_beq_eq_true hE
    simp only [xi_len] at e
    subst e
    exact xi_s_aload_n hX' hmd hC hO hR hl hret hd h
  case aload k =>
    have e := Nat.eq_of_beq_eq_true hE
    simp only [xi_len] at e
    subst e
    exact xi_s_aload hX' hmd hC hO hR hl hret hd h
  case istore_n k =>
    have e := Nat.eq_of_beq_eq_true hE
    simp only [xi_len] at e
    subst e
    exact xi_s_istore_n hX' hmd hC hO hR hl hret hd h
  case istore k =>
    have e := Nat.eq_of_beq_eq_true hE
    simp only [xi_len] at e
    subst e
    exact xi_s_istore hX' hmd hC hO hR hl hret hd h
  case lstore_n k =>
    have e := Nat.eq_of_beq_eq_true hE
    simp only [xi_len] at e
    subst e
    exact xi_s_lstore_n hX' hmd hC hO hR hl hret hd h
  case lstore k =>
    have e := Nat.eq_of_beq_eq_true hE
    simp only [xi_len] at e
    subst e
    exact xi_s_lstore hX' hmd hC hO hR hl hret hd h
  case iinc k n =>
    have e := Nat.eq_of_beq_eq_true hE
    simp only [xi_len] at e
    subst e
    exact xi_s_iinc hX' hmd hC hO hR hl hret hd h
  case iadd =>
    have e := Nat.eq_of_beq_eq_true hE
    simp only [xi_len] at e
    subst e
    exact xi_s_iadd hX' hmd hC hO hR hl hret hd h
  case isub =>
    have e := Nat.eq_of_beq_eq_true hE
    simp only [xi_len] at e
    subst e
    exact xi_s_isub hX' hmd hC hO hR hl hret hd h
  case imul =>
    have e := Nat.eq_of_beq_eq_true hE
    simp only [xi_len] at e
    subst e
    exact xi_s_imul hX' hmd hC hO hR hl hret hd h
  case iand =>
    have e := Nat.eq_of_beq_eq_true hE
    simp only [xi_len] at e
    subst e
    exact xi_s_iand hX' hmd hC hO hR hl hret hd h
  case ior =>
    have e := Nat.eq_of_beq_eq_true hE
    simp only [xi_len] at e
    subst e
    exact xi_s_ior hX' hmd hC hO hR hl hret hd h
  case ixor =>
    have e := Nat.eq_of_beq_eq_true hE
    simp only [xi_len] at e
    subst e
    exact xi_s_ixor hX' hmd hC hO hR hl hret hd h
  case irem =>
    have e := Nat.eq_of_beq_eq_true hE
    simp only [xi_len] at e
    subst e
    exact xi_s_irem hX' hmd hC hO hR hl hret hd h
  case ishl =>
    have e := Nat.eq_of_beq_eq_true hE
    simp only [xi_len] at e
    subst e
    exact xi_s_ishl hX' hmd hC hO hR hl hret hd h
  case ishr =>
    have e := Nat.eq_of_beq_eq_true hE
    simp only [xi_len] at e
    subst e
    exact xi_s_ishr hX' hmd hC hO hR hl hret hd h
  case iushr =>
    have e := Nat.eq_of_beq_eq_true hE
    simp only [xi_len] at e
    subst e
    exact xi_s_iushr hX' hmd hC hO hR hl hret hd h
  case ineg =>
    have e := Nat.eq_of_beq_eq_true hE
    simp only [xi_len] at e
    subst e
    exact xi_s_ineg hX' hmd hC hO hR hl hret hd h
  case i2l =>
    have e := Nat.eq_of_beq_eq_true hE
    simp only [xi_len] at e
    subst e
    exact xi_s_i2l hX' hmd hC hO hR hl hret hd h
  case i2b =>
    have e := Nat.eq_of_beq_eq_true hE
    simp only [xi_len] at e
    subst e
    exact xi_s_i2b hX' hmd hC hO hR hl hret hd h
  case i2s =>
    have e := Nat.eq_of_beq_eq_true hE
    simp only [xi_len] at e
    subst e
    exact xi_s_i2s hX' hmd hC hO hR hl hret hd h
  case l2i =>
    have e := Nat.eq_of_beq_eq_true hE
    simp only [xi_len] at e
    subst e
    exact xi_s_l2i hX' hmd hC hO hR hl hret hd h
  case lneg =>
    have e := Nat.eq_of_beq_eq_true hE
    simp only [xi_len] at e
    subst e
    exact xi_s_lneg hX' hmd hC hO hR hl hret hd h
  case ladd =>
    have e := Nat.eq_of_beq_eq_true hE
    simp only [xi_len] at e
    subst e
    exact xi_s_ladd hX' hmd hC hO hR hl hret hd h
  case lsub =>
    have e := Nat.eq_of_beq_eq_true hE
    simp only [xi_len] at e
    subst e
    exact xi_s_lsub hX' hmd hC hO hR hl hret hd h
  case lmul =>
    have e := Nat.eq_of_beq_eq_true hE
    simp only [xi_len] at e
    subst e
    exact xi_s_lmul hX' hmd hC hO hR hl hret hd h
  case land =>
    have e := Nat.eq_of_beq_eq_true hE
    simp only [xi_len] at e
    subst e
    exact xi_s_land hX' hmd hC hO hR hl hret hd h
  case lor =>
    have e := Nat.eq_of_beq_eq_true hE
    simp only [xi_len] at e
    subst e
    exact xi_s_lor hX' hmd hC hO hR hl hret hd h
  case lxor =>
    have e := Nat.eq_of_beq_eq_true hE
    simp only [xi_len] at e
    subst e
    exact xi_s_lxor hX' hmd hC hO hR hl hret hd h
  case ldiv =>
    have e := Nat.eq_of_beq_eq_true hE
    simp only [xi_len] at e
    subst e
    exact xi_s_ldiv hX' hmd hC hO hR hl hret hd h
  case lrem =>
    have e := Nat.eq_of_beq_eq_true hE
    simp only [xi_len] at e
    subst e
    exact xi_s_lrem hX' hmd hC hO hR hl hret hd h
  case lcmp =>
    have e := Nat.eq_of_beq_eq_true hE
    simp only [xi_len] at e
    subst e
    exact xi_s_lcmp hX' hmd hC hO hR hl hret hd h
  case astore_n k =>
    have e := Nat.eq_of_beq_eq_true hE
    simp only [xi_len] at e
    subst e
    split at h
    · exact xi_s_astore_n hX' hmd hC hO hR hl hret rfl hd h
    · exact h.elim
  case lshl =>
    have e := Nat.eq_of_beq_eq_true hE
    simp only [xi_len] at e
    subst e
    split at h
    · exact xi_s_lshl hX' hmd hC hO hR hl hret rfl hd h
    · exact h.elim
  case dup =>
    have e := Nat.eq_of_beq_eq_true hE
    simp only [xi_len] at e
    subst e
    split at h
    · exact xi_s_dup hX' hmd hC hO hR hl hret rfl hd h
    · exact h.elim
  case dup2 =>
    have e := Nat.eq_of_beq_eq_true hE
    simp only [xi_len] at e
    subst e
    split at h
    · exact xi_s_dup2 hX' hmd hC hO hR hl hret rfl hd h
    · exact h.elim
  case pop2 =>
    have e := Nat.eq_of_beq_eq_true hE
    simp only [xi_len] at e
    subst e
    split at h
    · exact xi_s_pop2 hX' hmd hC hO hR hl hret rfl hd h
    · exact h.elim
  case ldc i =>
    rw [Bool.and_eq_true] at hE
    have e := Nat.eq_of_beq_eq_true hE.1
    subst e
    exact xi_s_ldc hX' hmd hC hO hR hl hret hd (xi_memT (of_decide_eq_true hE.2)) h
  case ldc_w i =>
    rw [Bool.and_eq_true] at hE
    have e := Nat.eq_of_beq_eq_true hE.1
    subst e
    exact xi_s_ldcw hX' hmd hC hO hR hl hret hd (xi_memT (of_decide_eq_true hE.2)) h
  case ldc2_w i =>
    rw [Bool.and_eq_true] at hE
    have e := Nat.eq_of_beq_eq_true hE.1
    subst e
    exact xi_s_ldc2 hX' hmd hC hO hR hl hret hd (xi_memT (of_decide_eq_true hE.2)) h
  case ifCond cc off =>
    rw [Bool.and_eq_true] at hE
    have e := Nat.eq_of_beq_eq_true hE.1
    subst e
    exact xi_s_ifCond hX' hmd hC hO hR hl hret hd hE.2 h
  case if_icmp cc off =>
    rw [Bool.and_eq_true] at hE
    have e := Nat.eq_of_beq_eq_true hE.1
    subst e
    exact xi_s_if_icmp hX' hmd hC hO hR hl hret hd hE.2 h
  case goto off =>
    rw [Bool.and_eq_true] at hE
    have e := Nat.eq_of_beq_eq_true hE.1
    subst e
    exact xi_s_goto hX' hmd hC hO hR hl hret hd hE.2 h
  case tableswitch d lo hi offs =>
    rw [Bool.and_eq_true, Bool.and_eq_true] at hE
    exact xi_s_tableswitch hX' hmd hC hO hR hl hret hd (Nat.eq_of_beq_eq_true hE.1.1) hE.1.2 hE.2 h
  case getfield i =>
    rw [Bool.and_eq_true] at hE
    have e := Nat.eq_of_beq_eq_true hE.1
    subst e
    split at h
    · split at h
      · rename_i ho
        have hb1 := (xi_b_of h).1
        replace h := (xi_b_of h).2
        have e2 := Nat.eq_of_beq_eq_true hb1
        subst e2
        replace hE := hE.2
        split at hE
        · rename_i qc qt qn hq
          rw [Bool.and_eq_true, decide_eq_true_eq] at hE
          exact xi_s_getfield (tf := tf) hX' hmd hC hO hR hl hret rfl hd ho hq (hgc _ _ hq) (Nat.blt_eq.mp hE.1) (xi_memT hE.2) h
        · cases hE
      · exact h.elim
    · exact h.elim
  case putfield i =>
    rw [Bool.and_eq_true] at hE
    have e := Nat.eq_of_beq_eq_true hE.1
    subst e
    split at h
    · rename_i v o t
      split at h
      · rename_i ci ho
        have hb1 := (xi_b_of h).1
        replace h := (xi_b_of h).2
        have e2 := Nat.eq_of_beq_eq_true hb1
        subst e2
        replace hE := hE.2
        split at hE
        · rename_i qc qt qn hq
          rw [Bool.and_eq_true, Bool.and_eq_true, decide_eq_true_eq] at hE
          have hj := Nat.blt_eq.mp hE.1.1
          have hkt := (hgc _ _ hq).2.2.2.2 rb hj
          have hoL := (List.getElem?_eq_some_iff.mp ho).1
          have hF := hR.2.2.2.2
          unfold xi_put at h
          split at h
          · rename_i x hk
            rw [hk] at hkt
            have hty : tf ci rb = .int := by rcases xi_fits hkt with ⟨_, z⟩ | ⟨z, _⟩ | ⟨z, _⟩ | ⟨z, _⟩ <;> first | exact z | cases z
            refine xi_s_putfield (tf := tf) (σ' := (σ.1, σ.2.1, xi_u σ.2.2.1 o rb x, σ.2.2.2)) hX' hmd hC hO hR hl hret rfl hd ho hq (hgc _ _ hq) hj (xi_memT hE.1.2) hE.2 (by rw [hty]; rfl) (by rw [hty]; rfl) rfl (fun k hk => rfl) (fun k hk => xi_une hk) (fun k hk => rfl) ?_ ?_ hF h
            · unfold xi_fld; rw [hk]; simp [xi_u]
            · intro k hk2; unfold xi_fld; simp [xi_u, hk2]
          · rename_i x hk
            rw [hk] at hkt
            have hty : tf ci rb = .boolean := by rcases xi_fits hkt with ⟨z, _⟩ | ⟨_, z⟩ | ⟨z, _⟩ | ⟨z, _⟩ <;> first | exact z | cases z
            refine xi_s_putfield (tf := tf) (σ' := (σ.1, σ.2.1, xi_u σ.2.2.1 o rb x, σ.2.2.2)) hX' hmd hC hO hR hl hret rfl hd ho hq (hgc _ _ hq) hj (xi_memT hE.1.2) hE.2 (by rw [hty]; exact (xi_bool h.1).1) (by rw [hty]; exact (xi_bool h.1).2) rfl (fun k hk => rfl) (fun k hk => xi_une hk) (fun k hk => rfl) ?_ ?_ hF h.2
            · unfold xi_fld; rw [hk]; simp [xi_u]
            · intro k hk2; unfold xi_fld; simp [xi_u, hk2]
          · rename_i x hk
            rw [hk] at hkt
            have hty : tf ci rb = .long := by rcases xi_fits hkt with ⟨z, _⟩ | ⟨z, _⟩ | ⟨_, z⟩ | ⟨z, _⟩ <;> first | exact z | cases z
            refine xi_s_putfield (tf := tf) (σ' := (σ.1, σ.2.1, σ.2.2.1, xi_u σ.2.2.2 o rb x)) hX' hmd hC hO hR hl hret rfl hd ho hq (hgc _ _ hq) hj (xi_memT hE.1.2) hE.2 (by rw [hty]; rfl) (by rw [hty]; rfl) rfl (fun k hk => rfl) (fun k hk => rfl) (fun k hk => xi_une hk) ?_ ?_ hF h
            · unfold xi_fld; rw [hk]; simp [xi_u]
            · intro k hk2; unfold xi_fld; simp [xi_u, hk2]
          · rename_i x hk
            rw [hk] at hkt
            have hx2 := (xi_b_of h).1
            replace h := (xi_b_of h).2
            have hty : (∃ n, tf ci rb = .object n) ∨ ∃ t, tf ci rb = .array t := by rcases xi_fits hkt with ⟨z, _⟩ | ⟨z, _⟩ | ⟨z, _⟩ | ⟨_, z⟩ <;> first | exact z | cases z
            refine xi_s_putfield (tf := tf) (σ' := (σ.1, xi_u σ.2.1 o rb (x + 1), σ.2.2.1, σ.2.2.2)) hX' hmd hC hO hR hl hret rfl hd ho hq (hgc _ _ hq) hj (xi_memT hE.1.2) hE.2 (by rcases hty with ⟨n, z⟩ | ⟨n, z⟩ <;> rw [z] <;> rfl) (by rcases hty with ⟨n, z⟩ | ⟨n, z⟩ <;> rw [z] <;> rfl) rfl (fun k hk => xi_une hk) (fun k hk => rfl) (fun k hk => rfl) ?_ ?_ ?_ h
            · unfold xi_fld; rw [hk]; simp [xi_u]
            · intro k hk2; unfold xi_fld; simp [xi_u, hk2]
            · refine ⟨fun k j q hk hq => ?_, hF.2⟩
              by_cases e1 : k = o
              · subst e1
                by_cases e2 : j = rb
                · subst e2
                  simp [xi_u] at hq
                  rw [← hq]
                  exact Nat.blt_eq.mp hx2
                · simp [xi_u, e2] at hq
                  exact hF.1 k j q hk hq
              · simp [xi_u, e1] at hq
                exact hF.1 k j q hk hq
          · exact h.elim
        · cases hE
      · exact h.elim
    · exact h.elim
  case getstatic i =>
    rw [Bool.and_eq_true] at hE
    have e := Nat.eq_of_beq_eq_true hE.1
    subst e
    replace hE := hE.2
    split at hE
    · cases hE
    · rename_i j
      split at hE
      · rename_i z hz
        exact xi_s_getstatic hX' hmd hC hO hR hl hret hd hz (xi_memT (of_decide_eq_true hE)) h
      · cases hE
  case iaload =>
    have e := Nat.eq_of_beq_eq_true hE
    simp only [xi_len] at e
    subst e
    split at h
    · rename_i j a t
      split at h
      · rename_i n ha
        exact xi_s_iaload hX' hmd hC hO hR hl hret rfl hd ha h.1 h.2
      · have hb1 := (xi_b_of h).1
        replace h := (xi_b_of h).2
        obtain ⟨j0, rfl⟩ : ∃ j0, a = xi_o + j0 := ⟨a - xi_o, (Nat.add_sub_cancel' (Nat.ble_eq.mp hb1)).symm⟩
        rw [Nat.add_sub_cancel_left] at h
        split at h
        · rename_i n f hq
          exact xi_s_aloadO hX' hmd hC hO hR hl hret rfl hd hq h.1 h.2
        · exact h.elim
      · exact h.elim
    · exact h.elim
  case laload =>
    have e := Nat.eq_of_beq_eq_true hE
    simp only [xi_len] at e
    subst e
    split at h
    · split at h
      · rename_i ha
        exact xi_s_laload hX' hmd hC hO hR hl hret rfl hd ha h.1 h.2
      · exact h.elim
    · exact h.elim
  case iastore =>
    have e := Nat.eq_of_beq_eq_true hE
    simp only [xi_len] at e
    subst e
    split at h
    · split at h
      · rename_i ha
        exact xi_s_iastore hX' hmd hC hO hR hl hret rfl hd ha h.1 h.2
      · exact h.elim
    · exact h.elim
  case lastore =>
    have e := Nat.eq_of_beq_eq_true hE
    simp only [xi_len] at e
    subst e
    split at h
    · split at h
      · rename_i ha
        exact xi_s_lastore hX' hmd hC hO hR hl hret rfl hd ha h.1 h.2
      · exact h.elim
    · exact h.elim
  case arraylength =>
    have e := Nat.eq_of_beq_eq_true hE
    simp only [xi_len] at e
    subst e
    split at h
    · rename_i a t
      split at h
      · rename_i n ha
        exact xi_s_alen1 hX' hmd hC hO hR hl hret rfl hd ha h
      · rename_i n ha
        exact xi_s_alen2 hX' hmd hC hO hR hl hret rfl hd ha h
      · have hb1 := (xi_b_of h).1
        replace h := (xi_b_of h).2
        obtain ⟨j0, rfl⟩ : ∃ j0, a = xi_o + j0 := ⟨a - xi_o, (Nat.add_sub_cancel' (Nat.ble_eq.mp hb1)).symm⟩
        rw [Nat.add_sub_cancel_left] at h
        split at h
        · rename_i n f hq
          exact xi_s_alenO hX' hmd hC hO hR hl hret rfl hd hq h
        · exact h.elim
      · exact h.elim
    · exact h.elim
  case newarray ty =>
    rw [Bool.and_eq_true] at hE
    have e := Nat.eq_of_beq_eq_true hE.1
    subst e
    split at h
    · obtain ⟨hc, hn, h⟩ := xi_b_of h
      simp only [Bool.and_eq_true, Nat.ble_eq, Nat.blt_eq] at hc
      obtain ⟨⟨⟨⟨⟨c1, c2⟩, c3⟩, c4⟩, c5⟩, c6⟩ := hc
      split at h
      · exact xi_s_newa1 hX' hmd hC hO hR hl hret rfl hd (of_decide_eq_true hE.2) hn c1 c2 c3 c4 c5 c6 h
      · exact xi_s_newa2 hX' hmd hC hO hR hl hret rfl hd (of_decide_eq_true hE.2) hn c1 c2 c3 c4 c5 c6 h
      · exact h.elim
    · exact h.elim
  case new i =>
    rw [Bool.and_eq_true] at hE
    have e := Nat.eq_of_beq_eq_true hE.1
    subst e
    have hc := (xi_b_of h).1
    replace h := (xi_b_of h).2
    simp only [Bool.and_eq_true, Nat.ble_eq, Nat.blt_eq] at hc
    obtain ⟨⟨⟨⟨c1, c2⟩, c4⟩, c5⟩, c6⟩ := hc
    replace hE := hE.2
    split at hE
    · rename_i qc qt qn hq
      rw [Bool.and_eq_true, Bool.and_eq_true, decide_eq_true_eq, decide_eq_true_eq, decide_eq_true_eq] at hE
      exact xi_s_new (tf := tf) hX' hmd hC hO hR hl hret hd hq (hgc _ _ hq) (xi_memT hE.1.1) hE.1.2 hE.2 c1 c2 c4 c5 c6 h
    · cases hE
  case invokestatic i =>
    rw [Bool.and_eq_true] at hE
    have e := Nat.eq_of_beq_eq_true hE.1
    subst e
    replace hE := hE.2
    cases hmn : G.1[ra]? with
    | none => rw [hmn] at h; exact h.elim
    | some mn =>
      rw [hmn] at h hE
      dsimp only at h hE
      rw [Bool.and_eq_true, decide_eq_true_eq, decide_eq_true_eq] at hE
      have hn := (xi_b_of h).1
      replace h := (xi_b_of h).2
      exact xi_s_static hX' hmd hC hO hR hl hret hgw hmn (hM _ _ hmn (by rw [hE.2]; decide)) hd hE.2 (xi_memT hE.1) (Nat.ble_eq.mp hn) h
  case invokevirtual i =>
    rw [Bool.and_eq_true] at hE
    have e := Nat.eq_of_beq_eq_true hE.1
    subst e
    replace hE := hE.2
    cases hmn : G.1[ra]? with
    | none => rw [hmn] at h; exact h.elim
    | some mn =>
      rw [hmn] at h hE
      dsimp only at h hE
      split at h
      · rename_i o t hdr
        split at h
        · rename_i ci ho
          have hb1 := (xi_b_of h).1
          replace h := (xi_b_of h).2
          have e2 := Nat.eq_of_beq_eq_true hb1
          subst e2
          cases hq : cl[ci]? with
          | none => rw [hq] at hE; cases hE
          | some q =>
            rw [hq] at hE
            obtain ⟨qc, qt, qn⟩ := q
            dsimp only at hE
            rw [Bool.and_eq_true, Bool.and_eq_true, decide_eq_true_eq, decide_eq_true_eq, decide_eq_true_eq] at hE
            exact xi_s_virtual hX' hmd hC hO hR hl hret hgw hmn (hM _ _ hmn (by rw [hE.1.2]; decide)) hd hE.1.2 (xi_memT hE.1.1) hdr ho hq hE.2 h
        · exact h.elim
      · exact h.elim
  case invokespecial i =>
    rw [Bool.and_eq_true] at hE
    have e := Nat.eq_of_beq_eq_true hE.1
    subst e
    replace hE := hE.2
    split at hE
    · cases hmn : G.1[ra]? with
      | none => rw [hmn] at hE; cases hE
      | some mn =>
        replace h : (match G.1[ra]? with
          | some mn => match st.drop mn.2.1.2.2 with
            | .ref o :: t => xi_call G X' md μ pc ls σ nc ns Q ra mn (.ref o :: (st.take mn.2.1.2.2).reverse) t
            | _ => False
          | none => False) := h
        rw [hmn] at h hE
        dsimp only at h hE
        rw [Bool.and_eq_true, decide_eq_true_eq, decide_eq_true_eq] at hE
        split at h
        · rename_i o t hdr
          exact xi_s_special hX' hmd hC hO hR hl hret hgw hmn (hM _ _ hmn (by rw [hE.1]; decide)) hd hE.1 (xi_memT hE.2) hdr h
        · exact h.elim
    · cases hmn : G.1[ra]? with
      | none => rw [hmn] at hE; cases hE
      | some mn =>
        replace h : (match G.1[ra]? with
          | some mn => match st.drop mn.2.1.2.2 with
            | .ref o :: t => xi_call G X' md μ pc ls σ nc ns Q ra mn (.ref o :: (st.take mn.2.1.2.2).reverse) t
            | _ => False
          | none => False) := h
        rw [hmn] at h hE
        dsimp only at h hE
        rw [Bool.and_eq_true, decide_eq_true_eq] at hE
        obtain ⟨hk, hE⟩ := hE
        split at h
        · rename_i o t hdr
          split at hE
          · rename_i o2 j y ho hw
            rw [Bool.and_eq_true, Bool.and_eq_true, decide_eq_true_eq, decide_eq_true_eq] at hE
            obtain ⟨⟨e1, e3⟩, e2⟩ := hE
            have e3 := Nat.eq_of_beq_eq_true e3
            have hnw := hO.2.2 _ (List.mem_of_getElem? hw)
            dsimp only at hnw
            rw [e1, e2, e3] at hnw
            exact xi_s_specialN hX' hmd hC hO hR hl hret hgw hmn (hM _ _ hmn (by rw [hk]; decide)) hd hk hnw hdr h
          · cases hE
        · exact h.elim
    · rw [Bool.and_eq_true, Bool.and_eq_true, decide_eq_true_eq, decide_eq_true_eq, decide_eq_true_eq] at hE
      replace h : (match (generalizing := false) st with
          | .ref _ :: t => xi_b (Nat.ble 1 md.2.2.1.1 && Nat.ble (xi_w8 t + 12) md.2.2.1.2.1) (X' μ (pc + 3) ls t σ nc ns Q)
          | _ => False) := h
      split at h
      · exact xi_s_objInit hX' hmd hC hO hR hl hret rfl hd (xi_memT hE.1.1) hE.1.2 hE.2 h
      · exact h.elim
    · cases hE
  case ireturn =>
    have e := Nat.eq_of_beq_eq_true hE
    simp only [xi_len] at e
    subst e
    split at h
    · rename_i v
      have hc := (xi_b_of h).1
      replace h := (xi_b_of h).2
      simp only [Bool.and_eq_true, Nat.ble_eq] at hc
      split at h
      · rename_i hr
        exact hret _ _ _ _ _ _ _ _ _ _ h hR xi_A_rf hc.1 hc.2 ⟨hd, Or.inl hr⟩
      · rename_i hr
        exact hret _ _ _ _ _ _ _ _ _ _ h.2 hR xi_A_rf hc.1 hc.2 ⟨hd, Or.inr ⟨hr, h.1⟩⟩
      · exact h.elim
    · exact h.elim
  case lreturn =>
    have e := Nat.eq_of_beq_eq_true hE
    simp only [xi_len] at e
    subst e
    split at h
    · rename_i v
      have hc := (xi_b_of h).1
      replace h := (xi_b_of h).2
      simp only [Bool.and_eq_true, Nat.ble_eq] at hc
      split at h
      · rename_i hr
        exact hret _ _ _ _ _ _ _ _ _ _ h hR xi_A_rf hc.1 hc.2 ⟨hd, hr⟩
      · exact h.elim
    · exact h.elim
  case return_ =>
    have e := Nat.eq_of_beq_eq_true hE
    simp only [xi_len] at e
    subst e
    split at h
    · have hc := (xi_b_of h).1
      replace h := (xi_b_of h).2
      simp only [Bool.and_eq_true, Nat.ble_eq] at hc
      split at h
      · rename_i hr
        exact hret _ _ _ _ _ _ _ _ _ _ h hR xi_A_rf hc.1 hc.2 ⟨hd, hr⟩
      · exact h.elim
    · exact h.elim
end XIS7
end
section
/-! names of classes, fields, methods (printed by program out of the claim's own names), and each method as a table: pc, instruction, length, what it is resolved to -/
def RX0 : String := "DrawBench$Big"
def TX0 : u_T := fun k => match k with
  | _ => ("DrawBench$Big", "parts", "[J", true)
def tyX0 : Nat → FieldType := fun k => match k with
  | _ => .array .long
theorem nmX0 : ∀ a, a < 1 → ∀ b, b < 1 → a ≠ b → (TX0 a).2.1 ≠ (TX0 b).2.1 := by decide +kernel
theorem tyX0_ok : ∀ k, k < 1 → parseFieldDescriptor (TX0 k).2.2.1 = some (tyX0 k) := by decide +kernel
abbrev cX0_init : ByteArray := prog_2_method_1_code
def yX0_init : MethodName := ⟨RX0, "<init>", "()V"⟩
abbrev cX0_become : ByteArray := prog_2_method_2_code
def yX0_become : MethodName := ⟨RX0, "become", "(J)V"⟩
abbrev cX0_multiply : ByteArray := prog_2_method_3_code
def yX0_multiply : MethodName := ⟨RX0, "multiply", "(J)V"⟩
abbrev cX0_addProduct : ByteArray := prog_2_method_4_code
def yX0_addProduct : MethodName := ⟨RX0, "addProduct", "(LDrawBench$Big;J)V"⟩
abbrev cX0_isBelowZero : ByteArray := prog_2_method_5_code
def yX0_isBelowZero : MethodName := ⟨RX0, "isBelowZero", "()Z"⟩
abbrev cX0_length : ByteArray := prog_2_method_6_code
def yX0_length : MethodName := ⟨RX0, "length", "()I"⟩
abbrev cX0_isZero : ByteArray := prog_2_method_7_code
def yX0_isZero : MethodName := ⟨RX0, "isZero", "()Z"⟩
abbrev cX0_divide : ByteArray := prog_2_method_8_code
def yX0_divide : MethodName := ⟨RX0, "divide", "(JLDrawBench$Big;)J"⟩
def RX1 : String := "DrawBench$Crowd"
def TX1 : u_T := fun k => match k with
  | 0 => ("DrawBench$Crowd", "names", "I", false)
  | 1 => ("DrawBench$Crowd", "worth", "[I", true)
  | 2 => ("DrawBench$Crowd", "size", "[I", true)
  | 3 => ("DrawBench$Crowd", "share", "[I", true)
  | _ => ("DrawBench$Crowd", "heapSet", "[I", true)
def tyX1 : Nat → FieldType := fun k => match k with
  | 0 => .int
  | 1 => .array .int
  | 2 => .array .int
  | 3 => .array .int
  | _ => .array .int
theorem nmX1 : ∀ a, a < 5 → ∀ b, b < 5 → a ≠ b → (TX1 a).2.1 ≠ (TX1 b).2.1 := by decide +kernel
theorem tyX1_ok : ∀ k, k < 5 → parseFieldDescriptor (TX1 k).2.2.1 = some (tyX1 k) := by decide +kernel
abbrev cX1_init : ByteArray := prog_3_method_1_code
def yX1_init : MethodName := ⟨RX1, "<init>", "()V"⟩
abbrev cX1_take : ByteArray := prog_3_method_2_code
def yX1_take : MethodName := ⟨RX1, "take", "(LDrawBench$Slots;I)V"⟩
abbrev cX1_setCount : ByteArray := prog_3_method_3_code
def yX1_setCount : MethodName := ⟨RX1, "setCount", "()I"⟩
abbrev cX1_heapNames : ByteArray := prog_3_method_4_code
def yX1_heapNames : MethodName := ⟨RX1, "heapNames", "(I)I"⟩
abbrev cX1_heapsWithNames : ByteArray := prog_3_method_5_code
def yX1_heapsWithNames : MethodName := ⟨RX1, "heapsWithNames", "()I"⟩
abbrev cX1_allSizes : ByteArray := prog_3_method_6_code
def yX1_allSizes : MethodName := ⟨RX1, "allSizes", "()I"⟩
abbrev cX1_spreadTop : ByteArray := prog_3_method_7_code
def yX1_spreadTop : MethodName := ⟨RX1, "spreadTop", "(I)J"⟩
abbrev cX1_spreadBottom : ByteArray := prog_3_method_8_code
def yX1_spreadBottom : MethodName := ⟨RX1, "spreadBottom", "(I)J"⟩
def RX2 : String := "DrawBench$Cutting"
def TX2 : u_T := fun k => match k with
  | 0 => ("DrawBench$Cutting", "place", "[I", true)
  | 1 => ("DrawBench$Cutting", "worths", "[I", true)
  | 2 => ("DrawBench$Cutting", "squares", "[I", true)
  | 3 => ("DrawBench$Cutting", "least", "[I", true)
  | _ => ("DrawBench$Cutting", "first", "[I", true)
def tyX2 : Nat → FieldType := fun k => match k with
  | 0 => .array .int
  | 1 => .array .int
  | 2 => .array .int
  | 3 => .array .int
  | _ => .array .int
theorem nmX2 : ∀ a, a < 5 → ∀ b, b < 5 → a ≠ b → (TX2 a).2.1 ≠ (TX2 b).2.1 := by decide +kernel
theorem tyX2_ok : ∀ k, k < 5 → parseFieldDescriptor (TX2 k).2.2.1 = some (tyX2 k) := by decide +kernel
abbrev cX2_init : ByteArray := prog_4_method_1_code
def yX2_init : MethodName := ⟨RX2, "<init>", "()V"⟩
abbrev cX2_leastOf : ByteArray := prog_4_method_2_code
def yX2_leastOf : MethodName := ⟨RX2, "leastOf", "(II)I"⟩
abbrev cX2_cut : ByteArray := prog_4_method_3_code
def yX2_cut : MethodName := ⟨RX2, "cut", "(LDrawBench$Crowd;I)V"⟩
abbrev cX2_order : ByteArray := prog_4_method_4_code
def yX2_order : MethodName := ⟨RX2, "order", "(LDrawBench$Crowd;)V"⟩
abbrev cX2_cost : ByteArray := prog_4_method_5_code
def yX2_cost : MethodName := ⟨RX2, "cost", "(II)I"⟩
abbrev cX2_cutFirst : ByteArray := prog_4_method_6_code
def yX2_cutFirst : MethodName := ⟨RX2, "cutFirst", "(III)V"⟩
abbrev cX2_choose : ByteArray := prog_4_method_7_code
def yX2_choose : MethodName := ⟨RX2, "choose", "(IIII)V"⟩
abbrev cX2_bandOf : ByteArray := prog_4_method_8_code
def yX2_bandOf : MethodName := ⟨RX2, "bandOf", "(II)I"⟩
def RX3 : String := "DrawBench$Fraction"
def TX3 : u_T := fun k => match k with
  | 0 => ("DrawBench$Fraction", "sign", "I", false)
  | 1 => ("DrawBench$Fraction", "top", "LDrawBench$Big;", true)
  | 2 => ("DrawBench$Fraction", "bottom", "LDrawBench$Big;", true)
  | _ => ("DrawBench$Fraction", "unused", "LDrawBench$Big;", true)
def tyX3 : Nat → FieldType := fun k => match k with
  | 0 => .int
  | 1 => .object "DrawBench$Big"
  | 2 => .object "DrawBench$Big"
  | _ => .object "DrawBench$Big"
theorem nmX3 : ∀ a, a < 4 → ∀ b, b < 4 → a ≠ b → (TX3 a).2.1 ≠ (TX3 b).2.1 := by decide +kernel
theorem tyX3_ok : ∀ k, k < 4 → parseFieldDescriptor (TX3 k).2.2.1 = some (tyX3 k) := by decide +kernel
abbrev cX3_init : ByteArray := prog_5_method_1_code
def yX3_init : MethodName := ⟨RX3, "<init>", "()V"⟩
abbrev cX3_put : ByteArray := prog_5_method_2_code
def yX3_put : MethodName := ⟨RX3, "put", "(JJ)V"⟩
abbrev cX3_takeTop : ByteArray := prog_5_method_3_code
def yX3_takeTop : MethodName := ⟨RX3, "takeTop", "()V"⟩
abbrev cX3_divide : ByteArray := prog_5_method_4_code
def yX3_divide : MethodName := ⟨RX3, "divide", "(J)V"⟩
abbrev cX3_gcd : ByteArray := prog_5_method_5_code
def yX3_gcd : MethodName := ⟨RX3, "gcd", "(JJ)J"⟩
def RX4 : String := "DrawBench$Lots"
def TX4 : u_T := fun k => match k with
  | 0 => ("DrawBench$Lots", "kind", "I", false)
  | 1 => ("DrawBench$Lots", "n", "I", false)
  | 2 => ("DrawBench$Lots", "fromHeap", "[I", true)
  | 3 => ("DrawBench$Lots", "stale", "Z", false)
  | 4 => ("DrawBench$Lots", "weight", "[J", true)
  | 5 => ("DrawBench$Lots", "pair", "[J", true)
  | _ => ("DrawBench$Lots", "whole", "J", false)
def tyX4 : Nat → FieldType := fun k => match k with
  | 0 => .int
  | 1 => .int
  | 2 => .array .int
  | 3 => .boolean
  | 4 => .array .long
  | 5 => .array .long
  | _ => .long
theorem nmX4 : ∀ a, a < 7 → ∀ b, b < 7 → a ≠ b → (TX4 a).2.1 ≠ (TX4 b).2.1 := by decide +kernel
theorem tyX4_ok : ∀ k, k < 7 → parseFieldDescriptor (TX4 k).2.2.1 = some (tyX4 k) := by decide +kernel
abbrev cX4_init : ByteArray := prog_6_method_1_code
def yX4_init : MethodName := ⟨RX4, "<init>", "()V"⟩
abbrev cX4_forget : ByteArray := prog_6_method_2_code
def yX4_forget : MethodName := ⟨RX4, "forget", "()V"⟩
abbrev cX4_choose : ByteArray := prog_6_method_3_code
def yX4_choose : MethodName := ⟨RX4, "choose", "(II)V"⟩
abbrev cX4_fromAllHeaps : ByteArray := prog_6_method_4_code
def yX4_fromAllHeaps : MethodName := ⟨RX4, "fromAllHeaps", "()I"⟩
abbrev cX4_weightOfName : ByteArray := prog_6_method_5_code
def yX4_weightOfName : MethodName := ⟨RX4, "weightOfName", "(I)J"⟩
abbrev cX4_weightOfPair : ByteArray := prog_6_method_6_code
def yX4_weightOfPair : MethodName := ⟨RX4, "weightOfPair", "(II)J"⟩
abbrev cX4_prepare : ByteArray := prog_6_method_7_code
def yX4_prepare : MethodName := ⟨RX4, "prepare", "(LDrawBench$Crowd;)V"⟩
abbrev cX4_weigh : ByteArray := prog_6_method_8_code
def yX4_weigh : MethodName := ⟨RX4, "weigh", "(LDrawBench$Crowd;I)J"⟩
abbrev cX4_fitsHeaps : ByteArray := prog_6_method_9_code
def yX4_fitsHeaps : MethodName := ⟨RX4, "fitsHeaps", "(LDrawBench$Crowd;I)Z"⟩
abbrev cX4_fitsShares : ByteArray := prog_6_method_10_code
def yX4_fitsShares : MethodName := ⟨RX4, "fitsShares", "(LDrawBench$Crowd;I)Z"⟩
abbrev cX4_product : ByteArray := prog_6_method_11_code
def yX4_product : MethodName := ⟨RX4, "product", "(LDrawBench$Crowd;I)J"⟩
abbrev cX4_weighStarts : ByteArray := prog_6_method_12_code
def yX4_weighStarts : MethodName := ⟨RX4, "weighStarts", "(LDrawBench$Crowd;)V"⟩
abbrev cX4_setFrom : ByteArray := prog_6_method_13_code
def yX4_setFrom : MethodName := ⟨RX4, "setFrom", "(LDrawBench$Crowd;II)I"⟩
abbrev cX4_pairOwn : ByteArray := prog_6_method_14_code
def yX4_pairOwn : MethodName := ⟨RX4, "pairOwn", "(LDrawBench$Crowd;)V"⟩
abbrev cX4_pairByWeights : ByteArray := prog_6_method_15_code
def yX4_pairByWeights : MethodName := ⟨RX4, "pairByWeights", "(LDrawBench$Crowd;)V"⟩
abbrev cX4_addToPairs : ByteArray := prog_6_method_16_code
def yX4_addToPairs : MethodName := ⟨RX4, "addToPairs", "(LDrawBench$Crowd;I)V"⟩
def RX5 : String := "DrawBench$Sharing"
def TX5 : u_T := fun k => match k with
  | 0 => ("DrawBench$Sharing", "best", "[I", true)
  | 1 => ("DrawBench$Sharing", "bestCost", "J", false)
  | 2 => ("DrawBench$Sharing", "fewest", "[I", true)
  | 3 => ("DrawBench$Sharing", "most", "[I", true)
  | _ => ("DrawBench$Sharing", "spreads", "[J", true)
def tyX5 : Nat → FieldType := fun k => match k with
  | 0 => .array .int
  | 1 => .long
  | 2 => .array .int
  | 3 => .array .int
  | _ => .array .long
theorem nmX5 : ∀ a, a < 5 → ∀ b, b < 5 → a ≠ b → (TX5 a).2.1 ≠ (TX5 b).2.1 := by decide +kernel
theorem tyX5_ok : ∀ k, k < 5 → parseFieldDescriptor (TX5 k).2.2.1 = some (tyX5 k) := by decide +kernel
abbrev cX5_init : ByteArray := prog_7_method_1_code
def yX5_init : MethodName := ⟨RX5, "<init>", "()V"⟩
abbrev cX5_shareOut : ByteArray := prog_7_method_2_code
def yX5_shareOut : MethodName := ⟨RX5, "shareOut", "(LDrawBench$Crowd;I)V"⟩
abbrev cX5_measure : ByteArray := prog_7_method_3_code
def yX5_measure : MethodName := ⟨RX5, "measure", "(LDrawBench$Crowd;)V"⟩
abbrev cX5_offer : ByteArray := prog_7_method_4_code
def yX5_offer : MethodName := ⟨RX5, "offer", "(IIII)V"⟩
abbrev cX5_cost : ByteArray := prog_7_method_5_code
def yX5_cost : MethodName := ⟨RX5, "cost", "(II)J"⟩
def RX6 : String := "DrawBench$Slots"
def TX6 : u_T := fun k => match k with
  | 0 => ("DrawBench$Slots", "numbers", "[J", true)
  | 1 => ("DrawBench$Slots", "width", "[I", true)
  | _ => ("DrawBench$Slots", "length", "[I", true)
def tyX6 : Nat → FieldType := fun k => match k with
  | 0 => .array .long
  | 1 => .array .int
  | _ => .array .int
theorem nmX6 : ∀ a, a < 3 → ∀ b, b < 3 → a ≠ b → (TX6 a).2.1 ≠ (TX6 b).2.1 := by decide +kernel
theorem tyX6_ok : ∀ k, k < 3 → parseFieldDescriptor (TX6 k).2.2.1 = some (tyX6 k) := by decide +kernel
abbrev cX6_init : ByteArray := prog_8_method_1_code
def yX6_init : MethodName := ⟨RX6, "<init>", "()V"⟩
abbrev cX6_isLaid : ByteArray := prog_8_method_2_code
def yX6_isLaid : MethodName := ⟨RX6, "isLaid", "(I)Z"⟩
abbrev cX6_laid : ByteArray := prog_8_method_3_code
def yX6_laid : MethodName := ⟨RX6, "laid", "()I"⟩
abbrev cX6_lay : ByteArray := prog_8_method_4_code
def yX6_lay : MethodName := ⟨RX6, "lay", "(III)V"⟩
abbrev cX6_at : ByteArray := prog_8_method_5_code
def yX6_at : MethodName := ⟨RX6, "at", "(II)J"⟩
abbrev cX6_put : ByteArray := prog_8_method_6_code
def yX6_put : MethodName := ⟨RX6, "put", "(IIJ)V"⟩
abbrev cX6_cutTo : ByteArray := prog_8_method_7_code
def yX6_cutTo : MethodName := ⟨RX6, "cutTo", "(IJ)J"⟩
abbrev cX6_tellsCrowd : ByteArray := prog_8_method_8_code
def yX6_tellsCrowd : MethodName := ⟨RX6, "tellsCrowd", "(I)I"⟩
abbrev cX6_fact : ByteArray := prog_8_method_9_code
def yX6_fact : MethodName := ⟨RX6, "fact", "(III)I"⟩
def RX7 : String := "DrawBench$Tally"
def TX7 : u_T := fun k => match k with
  | 0 => ("DrawBench$Tally", "top", "LDrawBench$Big;", true)
  | _ => ("DrawBench$Tally", "bottom", "LDrawBench$Big;", true)
def tyX7 : Nat → FieldType := fun k => match k with
  | 0 => .object "DrawBench$Big"
  | _ => .object "DrawBench$Big"
theorem nmX7 : ∀ a, a < 2 → ∀ b, b < 2 → a ≠ b → (TX7 a).2.1 ≠ (TX7 b).2.1 := by decide +kernel
theorem tyX7_ok : ∀ k, k < 2 → parseFieldDescriptor (TX7 k).2.2.1 = some (tyX7 k) := by decide +kernel
abbrev cX7_init : ByteArray := prog_9_method_1_code
def yX7_init : MethodName := ⟨RX7, "<init>", "()V"⟩
abbrev cX7_clear : ByteArray := prog_9_method_2_code
def yX7_clear : MethodName := ⟨RX7, "clear", "()V"⟩
abbrev cX7_add : ByteArray := prog_9_method_3_code
def yX7_add : MethodName := ⟨RX7, "add", "(JJ)V"⟩
def RX8 : String := "DrawBench"
def TX8 : u_T := fun k => match k with
  | 0 => ("DrawBench", "slots", "LDrawBench$Slots;", true)
  | 1 => ("DrawBench", "people", "LDrawBench$Crowd;", true)
  | 2 => ("DrawBench", "lots", "LDrawBench$Lots;", true)
  | 3 => ("DrawBench", "result", "LDrawBench$Fraction;", true)
  | 4 => ("DrawBench", "tally", "LDrawBench$Tally;", true)
  | 5 => ("DrawBench", "sharing", "LDrawBench$Sharing;", true)
  | _ => ("DrawBench", "cutting", "LDrawBench$Cutting;", true)
def tyX8 : Nat → FieldType := fun k => match k with
  | 0 => .object "DrawBench$Slots"
  | 1 => .object "DrawBench$Crowd"
  | 2 => .object "DrawBench$Lots"
  | 3 => .object "DrawBench$Fraction"
  | 4 => .object "DrawBench$Tally"
  | 5 => .object "DrawBench$Sharing"
  | _ => .object "DrawBench$Cutting"
theorem nmX8 : ∀ a, a < 7 → ∀ b, b < 7 → a ≠ b → (TX8 a).2.1 ≠ (TX8 b).2.1 := by decide +kernel
theorem tyX8_ok : ∀ k, k < 7 → parseFieldDescriptor (TX8 k).2.2.1 = some (tyX8 k) := by decide +kernel
abbrev cX8_init : ByteArray := prog_1_method_1_code
def yX8_init : MethodName := ⟨RX8, "<init>", "()V"⟩
abbrev cX8_row : ByteArray := prog_1_method_2_code
def yX8_row : MethodName := ⟨RX8, "row", "(III)I"⟩
abbrev cX8_tear : ByteArray := prog_1_method_3_code
def yX8_tear : MethodName := ⟨RX8, "tear", "(I)Z"⟩
abbrev cX8_write : ByteArray := prog_1_method_4_code
def yX8_write : MethodName := ⟨RX8, "write", "(IIJ)I"⟩
abbrev cX8_crowd : ByteArray := prog_1_method_5_code
def yX8_crowd : MethodName := ⟨RX8, "crowd", "(I)I"⟩
abbrev cX8_drawn : ByteArray := prog_1_method_6_code
def yX8_drawn : MethodName := ⟨RX8, "drawn", "(II)I"⟩
abbrev cX8_draw : ByteArray := prog_1_method_7_code
def yX8_draw : MethodName := ⟨RX8, "draw", "(II)I"⟩
abbrev cX8_chance : ByteArray := prog_1_method_8_code
def yX8_chance : MethodName := ⟨RX8, "chance", "(I)Z"⟩
abbrev cX8_both : ByteArray := prog_1_method_9_code
def yX8_both : MethodName := ⟨RX8, "both", "(II)Z"⟩
abbrev cX8_set : ByteArray := prog_1_method_10_code
def yX8_set : MethodName := ⟨RX8, "set", "(I)Z"⟩
abbrev cX8_sets : ByteArray := prog_1_method_11_code
def yX8_sets : MethodName := ⟨RX8, "sets", "()I"⟩
abbrev cX8_many : ByteArray := prog_1_method_12_code
def yX8_many : MethodName := ⟨RX8, "many", "()V"⟩
abbrev cX8_sum : ByteArray := prog_1_method_13_code
def yX8_sum : MethodName := ⟨RX8, "sum", "(I)Z"⟩
abbrev cX8_mean : ByteArray := prog_1_method_14_code
def yX8_mean : MethodName := ⟨RX8, "mean", "()V"⟩
abbrev cX8_spread : ByteArray := prog_1_method_15_code
def yX8_spread : MethodName := ⟨RX8, "spread", "()V"⟩
abbrev cX8_heap : ByteArray := prog_1_method_16_code
def yX8_heap : MethodName := ⟨RX8, "heap", "(I)Z"⟩
abbrev cX8_share : ByteArray := prog_1_method_17_code
def yX8_share : MethodName := ⟨RX8, "share", "(II)I"⟩
abbrev cX8_least : ByteArray := prog_1_method_18_code
def yX8_least : MethodName := ⟨RX8, "least", "(I)Z"⟩
abbrev cX8_bands : ByteArray := prog_1_method_19_code
def yX8_bands : MethodName := ⟨RX8, "bands", "(I)I"⟩
abbrev cX8_band : ByteArray := prog_1_method_20_code
def yX8_band : MethodName := ⟨RX8, "band", "(II)I"⟩
abbrev cX8_look : ByteArray := prog_1_method_21_code
def yX8_look : MethodName := ⟨RX8, "look", "(I)I"⟩
abbrev cX8_part : ByteArray := prog_1_method_22_code
def yX8_part : MethodName := ⟨RX8, "part", "(ZI)I"⟩
abbrev cX8_count : ByteArray := prog_1_method_23_code
def yX8_count : MethodName := ⟨RX8, "count", "(I)I"⟩
abbrev cX8_countOfHeap : ByteArray := prog_1_method_24_code
def yX8_countOfHeap : MethodName := ⟨RX8, "countOfHeap", "(I)I"⟩
abbrev cX8_isSlot : ByteArray := prog_1_method_25_code
def yX8_isSlot : MethodName := ⟨RX8, "isSlot", "(I)Z"⟩
abbrev cX8_isHeap : ByteArray := prog_1_method_26_code
def yX8_isHeap : MethodName := ⟨RX8, "isHeap", "(I)Z"⟩
abbrev cX8_isName : ByteArray := prog_1_method_27_code
def yX8_isName : MethodName := ⟨RX8, "isName", "(I)Z"⟩
abbrev cX8_isSet : ByteArray := prog_1_method_28_code
def yX8_isSet : MethodName := ⟨RX8, "isSet", "(I)Z"⟩
abbrev cX8_canStep : ByteArray := prog_1_method_29_code
def yX8_canStep : MethodName := ⟨RX8, "canStep", "(I)Z"⟩
abbrev cX8_canShareOut : ByteArray := prog_1_method_30_code
def yX8_canShareOut : MethodName := ⟨RX8, "canShareOut", "(I)Z"⟩
abbrev cX8_tellOwnChance : ByteArray := prog_1_method_31_code
def yX8_tellOwnChance : MethodName := ⟨RX8, "tellOwnChance", "(I)V"⟩
abbrev cX8_tellSum : ByteArray := prog_1_method_32_code
def yX8_tellSum : MethodName := ⟨RX8, "tellSum", "(I)V"⟩
abbrev cX8_divideByNames : ByteArray := prog_1_method_33_code
def yX8_divideByNames : MethodName := ⟨RX8, "divideByNames", "(I)V"⟩
abbrev cX8_worthThatMayBeDrawn : ByteArray := prog_1_method_34_code
def yX8_worthThatMayBeDrawn : MethodName := ⟨RX8, "worthThatMayBeDrawn", "()I"⟩
abbrev cX8_tellSpread : ByteArray := prog_1_method_35_code
def yX8_tellSpread : MethodName := ⟨RX8, "tellSpread", "()V"⟩
abbrev cX8_tallyPairsBefore : ByteArray := prog_1_method_36_code
def yX8_tallyPairsBefore : MethodName := ⟨RX8, "tallyPairsBefore", "(I)V"⟩
abbrev cX8_tallyMean : ByteArray := prog_1_method_37_code
def yX8_tallyMean : MethodName := ⟨RX8, "tallyMean", "()V"⟩
def RX9 : String := "DrawBenchModel"
def TX9 : u_T := fun k => match k with
  | 0 => ("DrawBenchModel", "n", "[J", true)
  | 1 => ("DrawBenchModel", "known", "Z", false)
  | 2 => ("DrawBenchModel", "ends", "[I", true)
  | 3 => ("DrawBenchModel", "widths", "[I", true)
  | 4 => ("DrawBenchModel", "numbers", "[J", true)
  | 5 => ("DrawBenchModel", "names", "I", false)
  | 6 => ("DrawBenchModel", "worth", "[I", true)
  | 7 => ("DrawBenchModel", "size", "[I", true)
  | 8 => ("DrawBenchModel", "heap", "[I", true)
  | 9 => ("DrawBenchModel", "share", "[I", true)
  | 10 => ("DrawBenchModel", "drawn", "[I", true)
  | 11 => ("DrawBenchModel", "kind", "I", false)
  | 12 => ("DrawBenchModel", "many", "I", false)
  | 13 => ("DrawBenchModel", "left", "[J", true)
  | 14 => ("DrawBenchModel", "right", "[J", true)
  | 15 => ("DrawBenchModel", "both", "[J", true)
  | 16 => ("DrawBenchModel", "row", "[I", true)
  | 17 => ("DrawBenchModel", "best", "[I", true)
  | 18 => ("DrawBenchModel", "bestSum", "J", false)
  | 19 => ("DrawBenchModel", "order", "[I", true)
  | 20 => ("DrawBenchModel", "bestCuts", "I", false)
  | _ => ("DrawBenchModel", "bestBands", "J", false)
def tyX9 : Nat → FieldType := fun k => match k with
  | 0 => .array .long
  | 1 => .boolean
  | 2 => .array .int
  | 3 => .array .int
  | 4 => .array .long
  | 5 => .int
  | 6 => .array .int
  | 7 => .array .int
  | 8 => .array .int
  | 9 => .array .int
  | 10 => .array .int
  | 11 => .int
  | 12 => .int
  | 13 => .array .long
  | 14 => .array .long
  | 15 => .array .long
  | 16 => .array .int
  | 17 => .array .int
  | 18 => .long
  | 19 => .array .int
  | 20 => .int
  | _ => .long
theorem nmX9 : ∀ a, a < 22 → ∀ b, b < 22 → a ≠ b → (TX9 a).2.1 ≠ (TX9 b).2.1 := by decide +kernel
theorem tyX9_ok : ∀ k, k < 22 → parseFieldDescriptor (TX9 k).2.2.1 = some (tyX9 k) := by decide +kernel
abbrev cX9_init : ByteArray := prog_11_method_1_code
def yX9_init : MethodName := ⟨RX9, "<init>", "()V"⟩
abbrev cX9_carry : ByteArray := prog_11_method_2_code
def yX9_carry : MethodName := ⟨RX9, "carry", "(I)V"⟩
abbrev cX9_put : ByteArray := prog_11_method_3_code
def yX9_put : MethodName := ⟨RX9, "put", "(IJ)V"⟩
abbrev cX9_copy : ByteArray := prog_11_method_4_code
def yX9_copy : MethodName := ⟨RX9, "copy", "(II)V"⟩
abbrev cX9_more : ByteArray := prog_11_method_5_code
def yX9_more : MethodName := ⟨RX9, "more", "(IIJ)V"⟩
abbrev cX9_isBelow : ByteArray := prog_11_method_6_code
def yX9_isBelow : MethodName := ⟨RX9, "isBelow", "(I)Z"⟩
abbrev cX9_isZero : ByteArray := prog_11_method_7_code
def yX9_isZero : MethodName := ⟨RX9, "isZero", "(I)Z"⟩
abbrev cX9_turn : ByteArray := prog_11_method_8_code
def yX9_turn : MethodName := ⟨RX9, "turn", "(I)V"⟩
abbrev cX9_sign : ByteArray := prog_11_method_9_code
def yX9_sign : MethodName := ⟨RX9, "sign", "(I)I"⟩
abbrev cX9_bare : ByteArray := prog_11_method_10_code
def yX9_bare : MethodName := ⟨RX9, "bare", "(I[J)V"⟩
abbrev cX9_length : ByteArray := prog_11_method_11_code
def yX9_length : MethodName := ⟨RX9, "length", "([J)I"⟩
abbrev cX9_times : ByteArray := prog_11_method_12_code
def yX9_times : MethodName := ⟨RX9, "times", "(III)V"⟩
abbrev cX9_parts : ByteArray := prog_11_method_13_code
def yX9_parts : MethodName := ⟨RX9, "parts", "(II)V"⟩
abbrev cX9_goesInto : ByteArray := prog_11_method_14_code
def yX9_goesInto : MethodName := ⟨RX9, "goesInto", "(JII)Z"⟩
abbrev cX9_isEven : ByteArray := prog_11_method_15_code
def yX9_isEven : MethodName := ⟨RX9, "isEven", "(I)Z"⟩
abbrev cX9_half : ByteArray := prog_11_method_16_code
def yX9_half : MethodName := ⟨RX9, "half", "(I)V"⟩
abbrev cX9_isLess : ByteArray := prog_11_method_17_code
def yX9_isLess : MethodName := ⟨RX9, "isLess", "(II)Z"⟩
abbrev cX9_result : ByteArray := prog_11_method_18_code
def yX9_result : MethodName := ⟨RX9, "result", "(II)V"⟩
abbrev cX9_isSlot : ByteArray := prog_11_method_19_code
def yX9_isSlot : MethodName := ⟨RX9, "isSlot", "(I)Z"⟩
abbrev cX9_row : ByteArray := prog_11_method_20_code
def yX9_row : MethodName := ⟨RX9, "row", "(III)I"⟩
abbrev cX9_tear : ByteArray := prog_11_method_21_code
def yX9_tear : MethodName := ⟨RX9, "tear", "(I)Z"⟩
abbrev cX9_write : ByteArray := prog_11_method_22_code
def yX9_write : MethodName := ⟨RX9, "write", "(IIJ)I"⟩
abbrev cX9_crowd : ByteArray := prog_11_method_23_code
def yX9_crowd : MethodName := ⟨RX9, "crowd", "(I)I"⟩
abbrev cX9_namesOf : ByteArray := prog_11_method_24_code
def yX9_namesOf : MethodName := ⟨RX9, "namesOf", "(I)I"⟩
abbrev cX9_isHeap : ByteArray := prog_11_method_25_code
def yX9_isHeap : MethodName := ⟨RX9, "isHeap", "(I)Z"⟩
abbrev cX9_isName : ByteArray := prog_11_method_26_code
def yX9_isName : MethodName := ⟨RX9, "isName", "(I)Z"⟩
abbrev cX9_drawn : ByteArray := prog_11_method_27_code
def yX9_drawn : MethodName := ⟨RX9, "drawn", "(II)I"⟩
abbrev cX9_sizes : ByteArray := prog_11_method_28_code
def yX9_sizes : MethodName := ⟨RX9, "sizes", "()I"⟩
abbrev cX9_draw : ByteArray := prog_11_method_29_code
def yX9_draw : MethodName := ⟨RX9, "draw", "(II)I"⟩
abbrev cX9_bits : ByteArray := prog_11_method_30_code
def yX9_bits : MethodName := ⟨RX9, "bits", "(I)I"⟩
abbrev cX9_isByHeaps : ByteArray := prog_11_method_31_code
def yX9_isByHeaps : MethodName := ⟨RX9, "isByHeaps", "(I)Z"⟩
abbrev cX9_standsAt : ByteArray := prog_11_method_32_code
def yX9_standsAt : MethodName := ⟨RX9, "standsAt", "(I)I"⟩
abbrev cX9_one : ByteArray := prog_11_method_33_code
def yX9_one : MethodName := ⟨RX9, "one", "(IJ)V"⟩
abbrev cX9_weigh : ByteArray := prog_11_method_34_code
def yX9_weigh : MethodName := ⟨RX9, "weigh", "(I)V"⟩
abbrev cX9_know : ByteArray := prog_11_method_35_code
def yX9_know : MethodName := ⟨RX9, "know", "()V"⟩
abbrev cX9_reduce : ByteArray := prog_11_method_36_code
def yX9_reduce : MethodName := ⟨RX9, "reduce", "(II)V"⟩
abbrev cX9_chance : ByteArray := prog_11_method_37_code
def yX9_chance : MethodName := ⟨RX9, "chance", "(I)Z"⟩
abbrev cX9_both : ByteArray := prog_11_method_38_code
def yX9_both : MethodName := ⟨RX9, "both", "(II)Z"⟩
abbrev cX9_isSet : ByteArray := prog_11_method_39_code
def yX9_isSet : MethodName := ⟨RX9, "isSet", "(I)Z"⟩
abbrev cX9_set : ByteArray := prog_11_method_40_code
def yX9_set : MethodName := ⟨RX9, "set", "(I)Z"⟩
abbrev cX9_sets : ByteArray := prog_11_method_41_code
def yX9_sets : MethodName := ⟨RX9, "sets", "()I"⟩
abbrev cX9_many : ByteArray := prog_11_method_42_code
def yX9_many : MethodName := ⟨RX9, "many", "()V"⟩
abbrev cX9_toldSum : ByteArray := prog_11_method_43_code
def yX9_toldSum : MethodName := ⟨RX9, "toldSum", "(I)V"⟩
abbrev cX9_sum : ByteArray := prog_11_method_44_code
def yX9_sum : MethodName := ⟨RX9, "sum", "(I)Z"⟩
abbrev cX9_sums : ByteArray := prog_11_method_45_code
def yX9_sums : MethodName := ⟨RX9, "sums", "()V"⟩
abbrev cX9_mean : ByteArray := prog_11_method_46_code
def yX9_mean : MethodName := ⟨RX9, "mean", "()V"⟩
abbrev cX9_spread : ByteArray := prog_11_method_47_code
def yX9_spread : MethodName := ⟨RX9, "spread", "()V"⟩
abbrev cX9_off : ByteArray := prog_11_method_48_code
def yX9_off : MethodName := ⟨RX9, "off", "(I)J"⟩
abbrev cX9_setOf : ByteArray := prog_11_method_49_code
def yX9_setOf : MethodName := ⟨RX9, "setOf", "(I)I"⟩
abbrev cX9_v : ByteArray := prog_11_method_50_code
def yX9_v : MethodName := ⟨RX9, "v", "(I)J"⟩
abbrev cX9_told : ByteArray := prog_11_method_51_code
def yX9_told : MethodName := ⟨RX9, "told", "(JJ)V"⟩
abbrev cX9_heap : ByteArray := prog_11_method_52_code
def yX9_heap : MethodName := ⟨RX9, "heap", "(I)Z"⟩
abbrev cX9_adds : ByteArray := prog_11_method_53_code
def yX9_adds : MethodName := ⟨RX9, "adds", "(II)J"⟩
abbrev cX9_some : ByteArray := prog_11_method_54_code
def yX9_some : MethodName := ⟨RX9, "some", "(I)I"⟩
abbrev cX9_isShared : ByteArray := prog_11_method_55_code
def yX9_isShared : MethodName := ⟨RX9, "isShared", "(I)Z"⟩
abbrev cX9_share : ByteArray := prog_11_method_56_code
def yX9_share : MethodName := ⟨RX9, "share", "(II)I"⟩
abbrev cX9_orders : ByteArray := prog_11_method_57_code
def yX9_orders : MethodName := ⟨RX9, "orders", "()V"⟩
abbrev cX9_isCut : ByteArray := prog_11_method_58_code
def yX9_isCut : MethodName := ⟨RX9, "isCut", "(I)Z"⟩
abbrev cX9_isShorter : ByteArray := prog_11_method_59_code
def yX9_isShorter : MethodName := ⟨RX9, "isShorter", "(II)Z"⟩
abbrev cX9_bands : ByteArray := prog_11_method_60_code
def yX9_bands : MethodName := ⟨RX9, "bands", "(I)I"⟩
abbrev cX9_band : ByteArray := prog_11_method_61_code
def yX9_band : MethodName := ⟨RX9, "band", "(II)I"⟩
abbrev cX9_manyParts : ByteArray := prog_11_method_62_code
def yX9_manyParts : MethodName := ⟨RX9, "manyParts", "([J)I"⟩
abbrev cX9_look : ByteArray := prog_11_method_63_code
def yX9_look : MethodName := ⟨RX9, "look", "(I)I"⟩
abbrev cX9_part : ByteArray := prog_11_method_64_code
def yX9_part : MethodName := ⟨RX9, "part", "(ZI)I"⟩
abbrev cX9_least : ByteArray := prog_11_method_65_code
def yX9_least : MethodName := ⟨RX9, "least", "(I)Z"⟩
abbrev cX9_count : ByteArray := prog_11_method_66_code
def yX9_count : MethodName := ⟨RX9, "count", "(I)I"⟩
def RJ6 : String := "java/lang/Integer"
abbrev cJ6_bitCount_0f7a4 : ByteArray := prog_12_method_49_code
def yJ6_bitCount_0f7a4 : MethodName := ⟨RJ6, "bitCount", "(I)I"⟩
def RJ9 : String := "java/lang/Math"
abbrev cJ9_floorDiv_f86c9 : ByteArray := prog_13_method_49_code
def yJ9_floorDiv_f86c9 : MethodName := ⟨RJ9, "floorDiv", "(JJ)J"⟩
abbrev cJ9_floorMod_7cf53 : ByteArray := prog_13_method_50_code
def yJ9_floorMod_7cf53 : MethodName := ⟨RJ9, "floorMod", "(II)I"⟩
abbrev cJ9_floorMod_f86c9 : ByteArray := prog_13_method_52_code
def yJ9_floorMod_f86c9 : MethodName := ⟨RJ9, "floorMod", "(JJ)J"⟩
abbrev cJ9_max_7cf53 : ByteArray := prog_13_method_65_code
def yJ9_max_7cf53 : MethodName := ⟨RJ9, "max", "(II)I"⟩
abbrev cJ9_min_7cf53 : ByteArray := prog_13_method_69_code
def yJ9_min_7cf53 : MethodName := ⟨RJ9, "min", "(II)I"⟩
def RJ7 : String := "java/util/Arrays"
abbrev cJ7_fill_d0a16 : ByteArray := prog_14_method_101_code
def yJ7_fill_d0a16 : MethodName := ⟨RJ7, "fill", "([JJ)V"⟩
abbrev cJ7_fill_53178 : ByteArray := prog_14_method_103_code
def yJ7_fill_53178 : MethodName := ⟨RJ7, "fill", "([II)V"⟩
def RL : String := "DrawBenchLaw"
abbrev cL_law : ByteArray := code
def yL_law : MethodName := ⟨RL, "law", "([I)Z"⟩
abbrev xCl : List vw_C := [(RX0, TX0, 1), (RX1, TX1, 5), (RX2, TX2, 5), (RX3, TX3, 4), (RX4, TX4, 7), (RX5, TX5, 5), (RX6, TX6, 3), (RX7, TX7, 2), (RX8, TX8, 7), (RX9, TX9, 22)]
def xm_Int_bitCount : xiM := (("static", yJ6_bitCount_0f7a4, cJ6_bitCount_0f7a4), (1, some .int, 1), (0, 0, 0, 0), [(0, .iload_n 0, 1, 0, 0, 0), (1, .iload_n 0, 1, 0, 0, 0), (2, .iconst 1, 1, 0, 0, 0), (3, .iushr, 1, 0, 0, 0), (4, .ldc_w 265, 3, 1431655765, 0, 368), (7, .iand, 1, 0, 0, 0), (8, .isub, 1, 0, 0, 0), (9, .istore_n 0, 1, 0, 0, 0), (10, .iload_n 0, 1, 0, 0, 0), (11, .ldc_w 266, 3, 858993459, 0, 369), (14, .iand, 1, 0, 0, 0), (15, .iload_n 0, 1, 0, 0, 0), (16, .iconst 2, 1, 0, 0, 0), (17, .iushr, 1, 0, 0, 0), (18, .ldc_w 266, 3, 858993459, 0, 369), (21, .iand, 1, 0, 0, 0), (22, .iadd, 1, 0, 0, 0), (23, .istore_n 0, 1, 0, 0, 0), (24, .iload_n 0, 1, 0, 0, 0), (25, .iload_n 0, 1, 0, 0, 0), (26, .iconst 4, 1, 0, 0, 0), (27, .iushr, 1, 0, 0, 0), (28, .iadd, 1, 0, 0, 0), (29, .ldc_w 267, 3, 252645135, 0, 370), (32, .iand, 1, 0, 0, 0), (33, .istore_n 0, 1, 0, 0, 0), (34, .iload_n 0, 1, 0, 0, 0), (35, .iload_n 0, 1, 0, 0, 0), (36, .bipush 8, 2, 0, 0, 0), (38, .iushr, 1, 0, 0, 0), (39, .iadd, 1, 0, 0, 0), (40, .istore_n 0, 1, 0, 0, 0), (41, .iload_n 0, 1, 0, 0, 0), (42, .iload_n 0, 1, 0, 0, 0), (43, .bipush 16, 2, 0, 0, 0), (45, .iushr, 1, 0, 0, 0), (46, .iadd, 1, 0, 0, 0), (47, .istore_n 0, 1, 0, 0, 0), (48, .iload_n 0, 1, 0, 0, 0), (49, .bipush 63, 2, 0, 0, 0), (51, .iand, 1, 0, 0, 0), (52, .ireturn, 1, 0, 0, 0)])
def xm_Math_floorDivL : xiM := (("static", yJ9_floorDiv_f86c9, cJ9_floorDiv_f86c9), (6, some .long, 2), (0, 0, 0, 0), [(0, .lload_n 0, 1, 0, 0, 0), (1, .lload_n 2, 1, 0, 0, 0), (2, .ldiv, 1, 0, 0, 0), (3, .lstore 4, 2, 0, 0, 0), (5, .lload_n 0, 1, 0, 0, 0), (6, .lload_n 2, 1, 0, 0, 0), (7, .lxor, 1, 0, 0, 0), (8, .lconst 0, 1, 0, 0, 0), (9, .lcmp, 1, 0, 0, 0), (10, .ifCond .ge 17, 3, 0, 0, 0), (13, .lload 4, 2, 0, 0, 0), (15, .lload_n 2, 1, 0, 0, 0), (16, .lmul, 1, 0, 0, 0), (17, .lload_n 0, 1, 0, 0, 0), (18, .lcmp, 1, 0, 0, 0), (19, .ifCond .eq 8, 3, 0, 0, 0), (22, .lload 4, 2, 0, 0, 0), (24, .lconst 1, 1, 0, 0, 0), (25, .lsub, 1, 0, 0, 0), (26, .lreturn, 1, 0, 0, 0), (27, .lload 4, 2, 0, 0, 0), (29, .lreturn, 1, 0, 0, 0)])
def xm_Math_floorModI : xiM := (("static", yJ9_floorMod_7cf53, cJ9_floorMod_7cf53), (3, some .int, 2), (0, 0, 0, 0), [(0, .iload_n 0, 1, 0, 0, 0), (1, .iload_n 1, 1, 0, 0, 0), (2, .irem, 1, 0, 0, 0), (3, .istore_n 2, 1, 0, 0, 0), (4, .iload_n 0, 1, 0, 0, 0), (5, .iload_n 1, 1, 0, 0, 0), (6, .ixor, 1, 0, 0, 0), (7, .ifCond .ge 11, 3, 0, 0, 0), (10, .iload_n 2, 1, 0, 0, 0), (11, .ifCond .eq 7, 3, 0, 0, 0), (14, .iload_n 2, 1, 0, 0, 0), (15, .iload_n 1, 1, 0, 0, 0), (16, .iadd, 1, 0, 0, 0), (17, .ireturn, 1, 0, 0, 0), (18, .iload_n 2, 1, 0, 0, 0), (19, .ireturn, 1, 0, 0, 0)])
def xm_Math_floorModL : xiM := (("static", yJ9_floorMod_f86c9, cJ9_floorMod_f86c9), (6, some .long, 2), (0, 0, 0, 0), [(0, .lload_n 0, 1, 0, 0, 0), (1, .lload_n 2, 1, 0, 0, 0), (2, .lrem, 1, 0, 0, 0), (3, .lstore 4, 2, 0, 0, 0), (5, .lload_n 0, 1, 0, 0, 0), (6, .lload_n 2, 1, 0, 0, 0), (7, .lxor, 1, 0, 0, 0), (8, .lconst 0, 1, 0, 0, 0), (9, .lcmp, 1, 0, 0, 0), (10, .ifCond .ge 15, 3, 0, 0, 0), (13, .lload 4, 2, 0, 0, 0), (15, .lconst 0, 1, 0, 0, 0), (16, .lcmp, 1, 0, 0, 0), (17, .ifCond .eq 8, 3, 0, 0, 0), (20, .lload 4, 2, 0, 0, 0), (22, .lload_n 2, 1, 0, 0, 0), (23, .ladd, 1, 0, 0, 0), (24, .lreturn, 1, 0, 0, 0), (25, .lload 4, 2, 0, 0, 0), (27, .lreturn, 1, 0, 0, 0)])
def xm_Math_max : xiM := (("static", yJ9_max_7cf53, cJ9_max_7cf53), (2, some .int, 2), (0, 0, 0, 0), [(0, .iload_n 0, 1, 0, 0, 0), (1, .iload_n 1, 1, 0, 0, 0), (2, .if_icmp .lt 7, 3, 0, 0, 0), (5, .iload_n 0, 1, 0, 0, 0), (6, .goto 4, 3, 0, 0, 0), (9, .iload_n 1, 1, 0, 0, 0), (10, .ireturn, 1, 0, 0, 0)])
def xm_Math_min : xiM := (("static", yJ9_min_7cf53, cJ9_min_7cf53), (2, some .int, 2), (0, 0, 0, 0), [(0, .iload_n 0, 1, 0, 0, 0), (1, .iload_n 1, 1, 0, 0, 0), (2, .if_icmp .gt 7, 3, 0, 0, 0), (5, .iload_n 0, 1, 0, 0, 0), (6, .goto 4, 3, 0, 0, 0), (9, .iload_n 1, 1, 0, 0, 0), (10, .ireturn, 1, 0, 0, 0)])
def xm_Arr_fillL : xiM := (("static", yJ7_fill_d0a16, cJ7_fill_d0a16), (5, none, 2), (0, 0, 0, 0), [(0, .iconst 0, 1, 0, 0, 0), (1, .istore_n 3, 1, 0, 0, 0), (2, .aload_n 0, 1, 0, 0, 0), (3, .arraylength, 1, 0, 0, 0), (4, .istore 4, 2, 0, 0, 0), (6, .iload_n 3, 1, 0, 0, 0), (7, .iload 4, 2, 0, 0, 0), (9, .if_icmp .ge 13, 3, 0, 0, 0), (12, .aload_n 0, 1, 0, 0, 0), (13, .iload_n 3, 1, 0, 0, 0), (14, .lload_n 1, 1, 0, 0, 0), (15, .lastore, 1, 0, 0, 0), (16, .iinc 3 1, 3, 0, 0, 0), (19, .goto (-13), 3, 0, 0, 0), (22, .return_, 1, 0, 0, 0)])
def xm_Arr_fillI : xiM := (("static", yJ7_fill_53178, cJ7_fill_53178), (4, none, 2), (0, 0, 0, 0), [(0, .iconst 0, 1, 0, 0, 0), (1, .istore_n 2, 1, 0, 0, 0), (2, .aload_n 0, 1, 0, 0, 0), (3, .arraylength, 1, 0, 0, 0), (4, .istore_n 3, 1, 0, 0, 0), (5, .iload_n 2, 1, 0, 0, 0), (6, .iload_n 3, 1, 0, 0, 0), (7, .if_icmp .ge 13, 3, 0, 0, 0), (10, .aload_n 0, 1, 0, 0, 0), (11, .iload_n 2, 1, 0, 0, 0), (12, .iload_n 1, 1, 0, 0, 0), (13, .iastore, 1, 0, 0, 0), (14, .iinc 2 1, 3, 0, 0, 0), (17, .goto (-12), 3, 0, 0, 0), (20, .return_, 1, 0, 0, 0)])
def xm_Big_init : xiM := (("init", yX0_init, cX0_init), (1, none, 0), (1, 20, 1, 20), [(0, .aload_n 0, 1, 0, 0, 0), (1, .invokespecial 3, 3, 0, 1, 185), (4, .aload_n 0, 1, 0, 0, 0), (5, .bipush 20, 2, 0, 0, 0), (7, .newarray .long, 2, 0, 0, 0), (9, .putfield 9, 3, 0, 0, 186), (12, .return_, 1, 0, 0, 0)])
def xm_Big_become : xiM := (("virtual", yX0_become, cX0_become), (6, none, 1), (1, 25, 0, 0), [(0, .lload_n 1, 1, 0, 0, 0), (1, .lstore_n 3, 1, 0, 0, 0), (2, .iconst 0, 1, 0, 0, 0), (3, .istore 5, 2, 0, 0, 0), (5, .iload 5, 2, 0, 0, 0), (7, .bipush 20, 2, 0, 0, 0), (9, .if_icmp .ge 31, 3, 0, 0, 0), (12, .aload_n 0, 1, 0, 0, 0), (13, .getfield 9, 3, 0, 0, 186), (16, .iload 5, 2, 0, 0, 0), (18, .lload_n 3, 1, 0, 0, 0), (19, .ldc2_w 15, 3, 1000000000, 0, 456), (22, .invokestatic 17, 3, 3, 0, 457), (25, .lastore, 1, 0, 0, 0), (26, .lload_n 3, 1, 0, 0, 0), (27, .ldc2_w 15, 3, 1000000000, 0, 456), (30, .invokestatic 23, 3, 1, 0, 460), (33, .lstore_n 3, 1, 0, 0, 0), (34, .iinc 5 1, 3, 0, 0, 0), (37, .goto (-32), 3, 0, 0, 0), (40, .return_, 1, 0, 0, 0)])
def xm_Big_multiply : xiM := (("virtual", yX0_multiply, cX0_multiply), (16, none, 1), (1, 25, 0, 0), [(0, .lload_n 1, 1, 0, 0, 0), (1, .ldc2_w 15, 3, 1000000000, 0, 456), (4, .ldiv, 1, 0, 0, 0), (5, .lstore_n 3, 1, 0, 0, 0), (6, .lload_n 1, 1, 0, 0, 0), (7, .ldc2_w 15, 3, 1000000000, 0, 456), (10, .lrem, 1, 0, 0, 0), (11, .lstore 5, 2, 0, 0, 0), (13, .lconst 0, 1, 0, 0, 0), (14, .lstore 7, 2, 0, 0, 0), (16, .lconst 0, 1, 0, 0, 0), (17, .lstore 9, 2, 0, 0, 0), (19, .iconst 0, 1, 0, 0, 0), (20, .istore 11, 2, 0, 0, 0), (22, .iload 11, 2, 0, 0, 0), (24, .bipush 20, 2, 0, 0, 0), (26, .if_icmp .ge 63, 3, 0, 0, 0), (29, .aload_n 0, 1, 0, 0, 0), (30, .getfield 9, 3, 0, 0, 186), (33, .iload 11, 2, 0, 0, 0), (35, .laload, 1, 0, 0, 0), (36, .lstore 12, 2, 0, 0, 0), (38, .lload 12, 2, 0, 0, 0), (40, .lload 5, 2, 0, 0, 0), (42, .lmul, 1, 0, 0, 0), (43, .lload 7, 2, 0, 0, 0), (45, .lload_n 3, 1, 0, 0, 0), (46, .lmul, 1, 0, 0, 0), (47, .ladd, 1, 0, 0, 0), (48, .lload 9, 2, 0, 0, 0), (50, .ladd, 1, 0, 0, 0), (51, .lstore 14, 2, 0, 0, 0), (53, .lload 14, 2, 0, 0, 0), (55, .ldc2_w 15, 3, 1000000000, 0, 456), (58, .invokestatic 23, 3, 1, 0, 460), (61, .lstore 9, 2, 0, 0, 0), (63, .aload_n 0, 1, 0, 0, 0), (64, .getfield 9, 3, 0, 0, 186), (67, .iload 11, 2, 0, 0, 0), (69, .lload 14, 2, 0, 0, 0), (71, .lload 9, 2, 0, 0, 0), (73, .ldc2_w 15, 3, 1000000000, 0, 456), (76, .lmul, 1, 0, 0, 0), (77, .lsub, 1, 0, 0, 0), (78, .lastore, 1, 0, 0, 0), (79, .lload 12, 2, 0, 0, 0), (81, .lstore 7, 2, 0, 0, 0), (83, .iinc 11 1, 3, 0, 0, 0), (86, .goto (-64), 3, 0, 0, 0), (89, .return_, 1, 0, 0, 0)])
def xm_Big_addProduct : xiM := (("virtual", yX0_addProduct, cX0_addProduct), (17, none, 2), (1, 25, 0, 0), [(0, .lload_n 2, 1, 0, 0, 0), (1, .ldc2_w 15, 3, 1000000000, 0, 456), (4, .ldiv, 1, 0, 0, 0), (5, .lstore 4, 2, 0, 0, 0), (7, .lload_n 2, 1, 0, 0, 0), (8, .ldc2_w 15, 3, 1000000000, 0, 456), (11, .lrem, 1, 0, 0, 0), (12, .lstore 6, 2, 0, 0, 0), (14, .lconst 0, 1, 0, 0, 0), (15, .lstore 8, 2, 0, 0, 0), (17, .lconst 0, 1, 0, 0, 0), (18, .lstore 10, 2, 0, 0, 0), (20, .iconst 0, 1, 0, 0, 0), (21, .istore 12, 2, 0, 0, 0), (23, .iload 12, 2, 0, 0, 0), (25, .bipush 20, 2, 0, 0, 0), (27, .if_icmp .ge 72, 3, 0, 0, 0), (30, .aload_n 1, 1, 0, 0, 0), (31, .getfield 9, 3, 0, 0, 186), (34, .iload 12, 2, 0, 0, 0), (36, .laload, 1, 0, 0, 0), (37, .lstore 13, 2, 0, 0, 0), (39, .aload_n 0, 1, 0, 0, 0), (40, .getfield 9, 3, 0, 0, 186), (43, .iload 12, 2, 0, 0, 0), (45, .laload, 1, 0, 0, 0), (46, .lload 13, 2, 0, 0, 0), (48, .lload 6, 2, 0, 0, 0), (50, .lmul, 1, 0, 0, 0), (51, .ladd, 1, 0, 0, 0), (52, .lload 8, 2, 0, 0, 0), (54, .lload 4, 2, 0, 0, 0), (56, .lmul, 1, 0, 0, 0), (57, .ladd, 1, 0, 0, 0), (58, .lload 10, 2, 0, 0, 0), (60, .ladd, 1, 0, 0, 0), (61, .lstore 15, 2, 0, 0, 0), (63, .lload 15, 2, 0, 0, 0), (65, .ldc2_w 15, 3, 1000000000, 0, 456), (68, .invokestatic 23, 3, 1, 0, 460), (71, .lstore 10, 2, 0, 0, 0), (73, .aload_n 0, 1, 0, 0, 0), (74, .getfield 9, 3, 0, 0, 186), (77, .iload 12, 2, 0, 0, 0), (79, .lload 15, 2, 0, 0, 0), (81, .lload 10, 2, 0, 0, 0), (83, .ldc2_w 15, 3, 1000000000, 0, 456), (86, .lmul, 1, 0, 0, 0), (87, .lsub, 1, 0, 0, 0), (88, .lastore, 1, 0, 0, 0), (89, .lload 13, 2, 0, 0, 0), (91, .lstore 8, 2, 0, 0, 0), (93, .iinc 12 1, 3, 0, 0, 0), (96, .goto (-73), 3, 0, 0, 0), (99, .return_, 1, 0, 0, 0)])
def xm_Big_isBelowZero : xiM := (("virtual", yX0_isBelowZero, cX0_isBelowZero), (1, some .boolean, 0), (0, 0, 0, 0), [(0, .aload_n 0, 1, 0, 0, 0), (1, .getfield 9, 3, 0, 0, 186), (4, .bipush 19, 2, 0, 0, 0), (6, .laload, 1, 0, 0, 0), (7, .ldc2_w 26, 3, 500000000, 0, 479), (10, .lcmp, 1, 0, 0, 0), (11, .ifCond .lt 7, 3, 0, 0, 0), (14, .iconst 1, 1, 0, 0, 0), (15, .goto 4, 3, 0, 0, 0), (18, .iconst 0, 1, 0, 0, 0), (19, .ireturn, 1, 0, 0, 0)])
def xm_Big_length : xiM := (("virtual", yX0_length, cX0_length), (2, some .int, 0), (0, 0, 0, 0), [(0, .bipush 19, 2, 0, 0, 0), (2, .istore_n 1, 1, 0, 0, 0), (3, .iload_n 1, 1, 0, 0, 0), (4, .ifCond .le 24, 3, 0, 0, 0), (7, .aload_n 0, 1, 0, 0, 0), (8, .getfield 9, 3, 0, 0, 186), (11, .iload_n 1, 1, 0, 0, 0), (12, .laload, 1, 0, 0, 0), (13, .lconst 0, 1, 0, 0, 0), (14, .lcmp, 1, 0, 0, 0), (15, .ifCond .eq 7, 3, 0, 0, 0), (18, .iload_n 1, 1, 0, 0, 0), (19, .iconst 1, 1, 0, 0, 0), (20, .iadd, 1, 0, 0, 0), (21, .ireturn, 1, 0, 0, 0), (22, .iinc 1 (-1), 3, 0, 0, 0), (25, .goto (-22), 3, 0, 0, 0), (28, .iconst 1, 1, 0, 0, 0), (29, .ireturn, 1, 0, 0, 0)])
def xm_Big_isZero : xiM := (("virtual", yX0_isZero, cX0_isZero), (1, some .boolean, 0), (1, 21, 0, 0), [(0, .aload_n 0, 1, 0, 0, 0), (1, .invokevirtual 28, 3, 13, 0, 471), (4, .iconst 1, 1, 0, 0, 0), (5, .if_icmp .ne 18, 3, 0, 0, 0), (8, .aload_n 0, 1, 0, 0, 0), (9, .getfield 9, 3, 0, 0, 186), (12, .iconst 0, 1, 0, 0, 0), (13, .laload, 1, 0, 0, 0), (14, .lconst 0, 1, 0, 0, 0), (15, .lcmp, 1, 0, 0, 0), (16, .ifCond .ne 7, 3, 0, 0, 0), (19, .iconst 1, 1, 0, 0, 0), (20, .goto 4, 3, 0, 0, 0), (23, .iconst 0, 1, 0, 0, 0), (24, .ireturn, 1, 0, 0, 0)])
def xm_Big_divide : xiM := (("virtual", yX0_divide, cX0_divide), (15, some .long, 2), (0, 0, 0, 0), [(0, .lload_n 1, 1, 0, 0, 0), (1, .lconst 1, 1, 0, 0, 0), (2, .lcmp, 1, 0, 0, 0), (3, .ifCond .ge 5, 3, 0, 0, 0), (6, .lconst 0, 1, 0, 0, 0), (7, .lreturn, 1, 0, 0, 0), (8, .lload_n 1, 1, 0, 0, 0), (9, .ldc2_w 32, 3, 9000000000, 0, 493), (12, .lcmp, 1, 0, 0, 0), (13, .ifCond .ge 9, 3, 0, 0, 0), (16, .ldc2_w 15, 3, 1000000000, 0, 456), (19, .goto 6, 3, 0, 0, 0), (22, .ldc2_w 34, 3, 10, 0, 494), (25, .lstore 4, 2, 0, 0, 0), (27, .lconst 0, 1, 0, 0, 0), (28, .lstore 6, 2, 0, 0, 0), (30, .bipush 19, 2, 0, 0, 0), (32, .istore 8, 2, 0, 0, 0), (34, .iload 8, 2, 0, 0, 0), (36, .ifCond .lt 103, 3, 0, 0, 0), (39, .aload_n 0, 1, 0, 0, 0), (40, .getfield 9, 3, 0, 0, 186), (43, .iload 8, 2, 0, 0, 0), (45, .laload, 1, 0, 0, 0), (46, .lstore 9, 2, 0, 0, 0), (48, .lconst 0, 1, 0, 0, 0), (49, .lstore 11, 2, 0, 0, 0), (51, .lload 9, 2, 0, 0, 0), (53, .lconst 0, 1, 0, 0, 0), (54, .lcmp, 1, 0, 0, 0), (55, .ifCond .ne 10, 3, 0, 0, 0), (58, .lload 6, 2, 0, 0, 0), (60, .lconst 0, 1, 0, 0, 0), (61, .lcmp, 1, 0, 0, 0), (62, .ifCond .eq 62, 3, 0, 0, 0), (65, .ldc2_w 15, 3, 1000000000, 0, 456), (68, .lload 4, 2, 0, 0, 0), (70, .ldiv, 1, 0, 0, 0), (71, .lstore 13, 2, 0, 0, 0), (73, .lload 13, 2, 0, 0, 0), (75, .lconst 0, 1, 0, 0, 0), (76, .lcmp, 1, 0, 0, 0), (77, .ifCond .le 47, 3, 0, 0, 0), (80, .lload 6, 2, 0, 0, 0), (82, .lload 4, 2, 0, 0, 0), (84, .lmul, 1, 0, 0, 0), (85, .lload 9, 2, 0, 0, 0), (87, .lload 13, 2, 0, 0, 0), (89, .ldiv, 1, 0, 0, 0), (90, .lload 4, 2, 0, 0, 0), (92, .lrem, 1, 0, 0, 0), (93, .ladd, 1, 0, 0, 0), (94, .lstore 6, 2, 0, 0, 0), (96, .lload 11, 2, 0, 0, 0), (98, .lload 4, 2, 0, 0, 0), (100, .lmul, 1, 0, 0, 0), (101, .lload 6, 2, 0, 0, 0), (103, .lload_n 1, 1, 0, 0, 0), (104, .ldiv, 1, 0, 0, 0), (105, .ladd, 1, 0, 0, 0), (106, .lstore 11, 2, 0, 0, 0), (108, .lload 6, 2, 0, 0, 0), (110, .lload_n 1, 1, 0, 0, 0), (111, .lrem, 1, 0, 0, 0), (112, .lstore 6, 2, 0, 0, 0), (114, .lload 13, 2, 0, 0, 0), (116, .lload 4, 2, 0, 0, 0), (118, .ldiv, 1, 0, 0, 0), (119, .lstore 13, 2, 0, 0, 0), (121, .goto (-48), 3, 0, 0, 0), (124, .aload_n 3, 1, 0, 0, 0), (125, .getfield 9, 3, 0, 0, 186), (128, .iload 8, 2, 0, 0, 0), (130, .lload 11, 2, 0, 0, 0), (132, .lastore, 1, 0, 0, 0), (133, .iinc 8 (-1), 3, 0, 0, 0), (136, .goto (-102), 3, 0, 0, 0), (139, .lload 6, 2, 0, 0, 0), (141, .lreturn, 1, 0, 0, 0)])
def xm_Crowd_init : xiM := (("init", yX1_init, cX1_init), (1, none, 0), (1, 20, 4, 34), [(0, .aload_n 0, 1, 0, 0, 0), (1, .invokespecial 3, 3, 0, 1, 114), (4, .aload_n 0, 1, 0, 0, 0), (5, .bipush 10, 2, 0, 0, 0), (7, .newarray .int, 2, 0, 0, 0), (9, .putfield 9, 3, 1, 1, 119), (12, .aload_n 0, 1, 0, 0, 0), (13, .bipush 10, 2, 0, 0, 0), (15, .newarray .int, 2, 0, 0, 0), (17, .putfield 15, 3, 1, 2, 122), (20, .aload_n 0, 1, 0, 0, 0), (21, .bipush 10, 2, 0, 0, 0), (23, .newarray .int, 2, 0, 0, 0), (25, .putfield 18, 3, 1, 3, 126), (28, .aload_n 0, 1, 0, 0, 0), (29, .iconst 4, 1, 0, 0, 0), (30, .newarray .int, 2, 0, 0, 0), (32, .putfield 21, 3, 1, 4, 129), (35, .aload_n 0, 1, 0, 0, 0), (36, .iconst 1, 1, 0, 0, 0), (37, .putfield 24, 3, 1, 0, 115), (40, .aload_n 0, 1, 0, 0, 0), (41, .getfield 15, 3, 1, 2, 122), (44, .iconst 0, 1, 0, 0, 0), (45, .iconst 1, 1, 0, 0, 0), (46, .iastore, 1, 0, 0, 0), (47, .aload_n 0, 1, 0, 0, 0), (48, .getfield 21, 3, 1, 4, 129), (51, .iconst 0, 1, 0, 0, 0), (52, .iconst 1, 1, 0, 0, 0), (53, .iastore, 1, 0, 0, 0), (54, .return_, 1, 0, 0, 0)])
def xm_Crowd_take : xiM := (("virtual", yX1_take, cX1_take), (4, none, 2), (2, 45, 0, 0), [(0, .aload_n 0, 1, 0, 0, 0), (1, .aload_n 1, 1, 0, 0, 0), (2, .iload_n 2, 1, 0, 0, 0), (3, .iconst 0, 1, 0, 0, 0), (4, .invokevirtual 28, 3, 62, 6, 339), (7, .l2i, 1, 0, 0, 0), (8, .putfield 24, 3, 1, 0, 115), (11, .aload_n 0, 1, 0, 0, 0), (12, .getfield 21, 3, 1, 4, 129), (15, .iconst 0, 1, 0, 0, 0), (16, .invokestatic 34, 3, 7, 0, 340), (19, .iconst 0, 1, 0, 0, 0), (20, .istore_n 3, 1, 0, 0, 0), (21, .iload_n 3, 1, 0, 0, 0), (22, .aload_n 0, 1, 0, 0, 0), (23, .getfield 24, 3, 1, 0, 115), (26, .if_icmp .ge 66, 3, 0, 0, 0), (29, .aload_n 0, 1, 0, 0, 0), (30, .getfield 9, 3, 1, 1, 119), (33, .iload_n 3, 1, 0, 0, 0), (34, .aload_n 1, 1, 0, 0, 0), (35, .iload_n 2, 1, 0, 0, 0), (36, .iload_n 3, 1, 0, 0, 0), (37, .iconst 0, 1, 0, 0, 0), (38, .invokevirtual 40, 3, 66, 6, 341), (41, .iastore, 1, 0, 0, 0), (42, .aload_n 0, 1, 0, 0, 0), (43, .getfield 15, 3, 1, 2, 122), (46, .iload_n 3, 1, 0, 0, 0), (47, .aload_n 1, 1, 0, 0, 0), (48, .iload_n 2, 1, 0, 0, 0), (49, .iload_n 3, 1, 0, 0, 0), (50, .iconst 1, 1, 0, 0, 0), (51, .invokevirtual 40, 3, 66, 6, 341), (54, .iastore, 1, 0, 0, 0), (55, .aload_n 0, 1, 0, 0, 0), (56, .getfield 21, 3, 1, 4, 129), (59, .aload_n 1, 1, 0, 0, 0), (60, .iload_n 2, 1, 0, 0, 0), (61, .iload_n 3, 1, 0, 0, 0), (62, .iconst 2, 1, 0, 0, 0), (63, .invokevirtual 40, 3, 66, 6, 341), (66, .dup2, 1, 0, 0, 0), (67, .iaload, 1, 0, 0, 0), (68, .iconst 1, 1, 0, 0, 0), (69, .iload_n 3, 1, 0, 0, 0), (70, .ishl, 1, 0, 0, 0), (71, .ior, 1, 0, 0, 0), (72, .iastore, 1, 0, 0, 0), (73, .aload_n 0, 1, 0, 0, 0), (74, .getfield 18, 3, 1, 3, 126), (77, .iload_n 3, 1, 0, 0, 0), (78, .aload_n 1, 1, 0, 0, 0), (79, .iload_n 2, 1, 0, 0, 0), (80, .iload_n 3, 1, 0, 0, 0), (81, .iconst 3, 1, 0, 0, 0), (82, .invokevirtual 40, 3, 66, 6, 341), (85, .iastore, 1, 0, 0, 0), (86, .iinc 3 1, 3, 0, 0, 0), (89, .goto (-68), 3, 0, 0, 0), (92, .return_, 1, 0, 0, 0)])
def xm_Crowd_setCount : xiM := (("virtual", yX1_setCount, cX1_setCount), (1, some .int, 0), (0, 0, 0, 0), [(0, .iconst 1, 1, 0, 0, 0), (1, .aload_n 0, 1, 0, 0, 0), (2, .getfield 24, 3, 1, 0, 115), (5, .ishl, 1, 0, 0, 0), (6, .ireturn, 1, 0, 0, 0)])
def xm_Crowd_heapNames : xiM := (("virtual", yX1_heapNames, cX1_heapNames), (2, some .int, 1), (1, 20, 0, 0), [(0, .aload_n 0, 1, 0, 0, 0), (1, .getfield 21, 3, 1, 4, 129), (4, .iload_n 1, 1, 0, 0, 0), (5, .iaload, 1, 0, 0, 0), (6, .invokestatic 44, 3, 0, 0, 365), (9, .ireturn, 1, 0, 0, 0)])
def xm_Crowd_heapsWithNames : xiM := (("virtual", yX1_heapsWithNames, cX1_heapsWithNames), (3, some .int, 0), (0, 0, 0, 0), [(0, .iconst 0, 1, 0, 0, 0), (1, .istore_n 1, 1, 0, 0, 0), (2, .iconst 0, 1, 0, 0, 0), (3, .istore_n 2, 1, 0, 0, 0), (4, .iload_n 2, 1, 0, 0, 0), (5, .iconst 4, 1, 0, 0, 0), (6, .if_icmp .ge 21, 3, 0, 0, 0), (9, .aload_n 0, 1, 0, 0, 0), (10, .getfield 21, 3, 1, 4, 129), (13, .iload_n 2, 1, 0, 0, 0), (14, .iaload, 1, 0, 0, 0), (15, .ifCond .eq 6, 3, 0, 0, 0), (18, .iinc 1 1, 3, 0, 0, 0), (21, .iinc 2 1, 3, 0, 0, 0), (24, .goto (-20), 3, 0, 0, 0), (27, .iload_n 1, 1, 0, 0, 0), (28, .ireturn, 1, 0, 0, 0)])
def xm_Crowd_allSizes : xiM := (("virtual", yX1_allSizes, cX1_allSizes), (3, some .int, 0), (0, 0, 0, 0), [(0, .iconst 0, 1, 0, 0, 0), (1, .istore_n 1, 1, 0, 0, 0), (2, .iconst 0, 1, 0, 0, 0), (3, .istore_n 2, 1, 0, 0, 0), (4, .iload_n 2, 1, 0, 0, 0), (5, .aload_n 0, 1, 0, 0, 0), (6, .getfield 24, 3, 1, 0, 115), (9, .if_icmp .ge 18, 3, 0, 0, 0), (12, .iload_n 1, 1, 0, 0, 0), (13, .aload_n 0, 1, 0, 0, 0), (14, .getfield 15, 3, 1, 2, 122), (17, .iload_n 2, 1, 0, 0, 0), (18, .iaload, 1, 0, 0, 0), (19, .iadd, 1, 0, 0, 0), (20, .istore_n 1, 1, 0, 0, 0), (21, .iinc 2 1, 3, 0, 0, 0), (24, .goto (-20), 3, 0, 0, 0), (27, .iload_n 1, 1, 0, 0, 0), (28, .ireturn, 1, 0, 0, 0)])
def xm_Crowd_spreadTop : xiM := (("virtual", yX1_spreadTop, cX1_spreadTop), (8, some .long, 1), (2, 41, 0, 0), [(0, .lconst 0, 1, 0, 0, 0), (1, .lstore_n 2, 1, 0, 0, 0), (2, .lconst 0, 1, 0, 0, 0), (3, .lstore 4, 2, 0, 0, 0), (5, .iconst 0, 1, 0, 0, 0), (6, .istore 6, 2, 0, 0, 0), (8, .iload 6, 2, 0, 0, 0), (10, .aload_n 0, 1, 0, 0, 0), (11, .getfield 24, 3, 1, 0, 115), (14, .if_icmp .ge 56, 3, 0, 0, 0), (17, .aload_n 0, 1, 0, 0, 0), (18, .getfield 21, 3, 1, 4, 129), (21, .iload_n 1, 1, 0, 0, 0), (22, .iaload, 1, 0, 0, 0), (23, .iload 6, 2, 0, 0, 0), (25, .ishr, 1, 0, 0, 0), (26, .iconst 1, 1, 0, 0, 0), (27, .iand, 1, 0, 0, 0), (28, .iconst 1, 1, 0, 0, 0), (29, .if_icmp .ne 35, 3, 0, 0, 0), (32, .lload_n 2, 1, 0, 0, 0), (33, .aload_n 0, 1, 0, 0, 0), (34, .getfield 9, 3, 1, 1, 119), (37, .iload 6, 2, 0, 0, 0), (39, .iaload, 1, 0, 0, 0), (40, .aload_n 0, 1, 0, 0, 0), (41, .getfield 9, 3, 1, 1, 119), (44, .iload 6, 2, 0, 0, 0), (46, .iaload, 1, 0, 0, 0), (47, .imul, 1, 0, 0, 0), (48, .i2l, 1, 0, 0, 0), (49, .ladd, 1, 0, 0, 0), (50, .lstore_n 2, 1, 0, 0, 0), (51, .lload 4, 2, 0, 0, 0), (53, .aload_n 0, 1, 0, 0, 0), (54, .getfield 9, 3, 1, 1, 119), (57, .iload 6, 2, 0, 0, 0), (59, .iaload, 1, 0, 0, 0), (60, .i2l, 1, 0, 0, 0), (61, .ladd, 1, 0, 0, 0), (62, .lstore 4, 2, 0, 0, 0), (64, .iinc 6 1, 3, 0, 0, 0), (67, .goto (-59), 3, 0, 0, 0), (70, .aload_n 0, 1, 0, 0, 0), (71, .iload_n 1, 1, 0, 0, 0), (72, .invokevirtual 50, 3, 19, 1, 581), (75, .i2l, 1, 0, 0, 0), (76, .lstore 6, 2, 0, 0, 0), (78, .lload 6, 2, 0, 0, 0), (80, .lload 6, 2, 0, 0, 0), (82, .lload_n 2, 1, 0, 0, 0), (83, .lmul, 1, 0, 0, 0), (84, .lload 4, 2, 0, 0, 0), (86, .lload 4, 2, 0, 0, 0), (88, .lmul, 1, 0, 0, 0), (89, .lsub, 1, 0, 0, 0), (90, .lmul, 1, 0, 0, 0), (91, .lreturn, 1, 0, 0, 0)])
def xm_Crowd_spreadBottom : xiM := (("virtual", yX1_spreadBottom, cX1_spreadBottom), (2, some .long, 1), (2, 41, 0, 0), [(0, .iconst 1, 1, 0, 0, 0), (1, .aload_n 0, 1, 0, 0, 0), (2, .iload_n 1, 1, 0, 0, 0), (3, .invokevirtual 50, 3, 19, 1, 581), (6, .iconst 1, 1, 0, 0, 0), (7, .isub, 1, 0, 0, 0), (8, .invokestatic 53, 3, 4, 0, 586), (11, .i2l, 1, 0, 0, 0), (12, .lreturn, 1, 0, 0, 0)])
def xm_Cutting_init : xiM := (("init", yX2_init, cX2_init), (1, none, 0), (1, 20, 5, 274), [(0, .aload_n 0, 1, 0, 0, 0), (1, .invokespecial 3, 3, 0, 1, 250), (4, .aload_n 0, 1, 0, 0, 0), (5, .bipush 10, 2, 0, 0, 0), (7, .newarray .int, 2, 0, 0, 0), (9, .putfield 9, 3, 2, 0, 251), (12, .aload_n 0, 1, 0, 0, 0), (13, .bipush 11, 2, 0, 0, 0), (15, .newarray .int, 2, 0, 0, 0), (17, .putfield 15, 3, 2, 1, 252), (20, .aload_n 0, 1, 0, 0, 0), (21, .bipush 11, 2, 0, 0, 0), (23, .newarray .int, 2, 0, 0, 0), (25, .putfield 18, 3, 2, 2, 253), (28, .aload_n 0, 1, 0, 0, 0), (29, .bipush 121, 2, 0, 0, 0), (31, .newarray .int, 2, 0, 0, 0), (33, .putfield 21, 3, 2, 3, 254), (36, .aload_n 0, 1, 0, 0, 0), (37, .bipush 121, 2, 0, 0, 0), (39, .newarray .int, 2, 0, 0, 0), (41, .putfield 24, 3, 2, 4, 255), (44, .return_, 1, 0, 0, 0)])
def xm_Cutting_leastOf : xiM := (("virtual", yX2_leastOf, cX2_leastOf), (3, some .int, 2), (0, 0, 0, 0), [(0, .aload_n 0, 1, 0, 0, 0), (1, .getfield 21, 3, 2, 3, 254), (4, .iload_n 1, 1, 0, 0, 0), (5, .bipush 11, 2, 0, 0, 0), (7, .imul, 1, 0, 0, 0), (8, .iload_n 2, 1, 0, 0, 0), (9, .iadd, 1, 0, 0, 0), (10, .iaload, 1, 0, 0, 0), (11, .ireturn, 1, 0, 0, 0)])
def xm_Cutting_cut : xiM := (("virtual", yX2_cut, cX2_cut), (5, none, 2), (2, 49, 0, 0), [(0, .aload_n 0, 1, 0, 0, 0), (1, .aload_n 1, 1, 0, 0, 0), (2, .invokevirtual 27, 3, 27, 2, 630), (5, .iconst 0, 1, 0, 0, 0), (6, .istore_n 3, 1, 0, 0, 0), (7, .iload_n 3, 1, 0, 0, 0), (8, .aload_n 1, 1, 0, 0, 0), (9, .getfield 31, 3, 1, 0, 116), (12, .if_icmp .ge 30, 3, 0, 0, 0), (15, .aload_n 0, 1, 0, 0, 0), (16, .iconst 1, 1, 0, 0, 0), (17, .iload_n 3, 1, 0, 0, 0), (18, .aload_n 1, 1, 0, 0, 0), (19, .getfield 31, 3, 1, 0, 116), (22, .iload_n 3, 1, 0, 0, 0), (23, .isub, 1, 0, 0, 0), (24, .aload_n 0, 1, 0, 0, 0), (25, .iload_n 3, 1, 0, 0, 0), (26, .aload_n 1, 1, 0, 0, 0), (27, .getfield 31, 3, 1, 0, 116), (30, .invokevirtual 37, 3, 28, 2, 633), (33, .invokevirtual 41, 3, 30, 2, 636), (36, .iinc 3 1, 3, 0, 0, 0), (39, .goto (-32), 3, 0, 0, 0), (42, .iconst 2, 1, 0, 0, 0), (43, .istore_n 3, 1, 0, 0, 0), (44, .iload_n 3, 1, 0, 0, 0), (45, .iload_n 2, 1, 0, 0, 0), (46, .if_icmp .gt 44, 3, 0, 0, 0), (49, .iconst 0, 1, 0, 0, 0), (50, .istore 4, 2, 0, 0, 0), (52, .iload 4, 2, 0, 0, 0), (54, .aload_n 1, 1, 0, 0, 0), (55, .getfield 31, 3, 1, 0, 116), (58, .iload_n 3, 1, 0, 0, 0), (59, .isub, 1, 0, 0, 0), (60, .if_icmp .gt 24, 3, 0, 0, 0), (63, .aload_n 0, 1, 0, 0, 0), (64, .iload_n 3, 1, 0, 0, 0), (65, .iload 4, 2, 0, 0, 0), (67, .aload_n 1, 1, 0, 0, 0), (68, .getfield 31, 3, 1, 0, 116), (71, .iload_n 3, 1, 0, 0, 0), (72, .isub, 1, 0, 0, 0), (73, .iconst 1, 1, 0, 0, 0), (74, .iadd, 1, 0, 0, 0), (75, .invokevirtual 45, 3, 29, 2, 639), (78, .iinc 4 1, 3, 0, 0, 0), (81, .goto (-29), 3, 0, 0, 0), (84, .iinc 3 1, 3, 0, 0, 0), (87, .goto (-43), 3, 0, 0, 0), (90, .return_, 1, 0, 0, 0)])
def xm_Cutting_order : xiM := (("virtual", yX2_order, cX2_order), (5, none, 1), (0, 0, 0, 0), [(0, .iconst 0, 1, 0, 0, 0), (1, .istore_n 2, 1, 0, 0, 0), (2, .iload_n 2, 1, 0, 0, 0), (3, .aload_n 1, 1, 0, 0, 0), (4, .getfield 31, 3, 1, 0, 116), (7, .if_icmp .ge 91, 3, 0, 0, 0), (10, .aload_n 0, 1, 0, 0, 0), (11, .getfield 9, 3, 2, 0, 251), (14, .iload_n 2, 1, 0, 0, 0), (15, .iconst 0, 1, 0, 0, 0), (16, .iastore, 1, 0, 0, 0), (17, .iconst 0, 1, 0, 0, 0), (18, .istore_n 3, 1, 0, 0, 0), (19, .iload_n 3, 1, 0, 0, 0), (20, .aload_n 1, 1, 0, 0, 0), (21, .getfield 31, 3, 1, 0, 116), (24, .if_icmp .ge 49, 3, 0, 0, 0), (27, .aload_n 1, 1, 0, 0, 0), (28, .getfield 49, 3, 1, 2, 123), (31, .iload_n 2, 1, 0, 0, 0), (32, .iaload, 1, 0, 0, 0), (33, .aload_n 1, 1, 0, 0, 0), (34, .getfield 49, 3, 1, 2, 123), (37, .iload_n 3, 1, 0, 0, 0), (38, .iaload, 1, 0, 0, 0), (39, .isub, 1, 0, 0, 0), (40, .istore 4, 2, 0, 0, 0), (42, .iload 4, 2, 0, 0, 0), (44, .ifCond .gt 13, 3, 0, 0, 0), (47, .iload 4, 2, 0, 0, 0), (49, .ifCond .ne 18, 3, 0, 0, 0), (52, .iload_n 3, 1, 0, 0, 0), (53, .iload_n 2, 1, 0, 0, 0), (54, .if_icmp .ge 13, 3, 0, 0, 0), (57, .aload_n 0, 1, 0, 0, 0), (58, .getfield 9, 3, 2, 0, 251), (61, .iload_n 2, 1, 0, 0, 0), (62, .dup2, 1, 0, 0, 0), (63, .iaload, 1, 0, 0, 0), (64, .iconst 1, 1, 0, 0, 0), (65, .iadd, 1, 0, 0, 0), (66, .iastore, 1, 0, 0, 0), (67, .iinc 3 1, 3, 0, 0, 0), (70, .goto (-51), 3, 0, 0, 0), (73, .aload_n 0, 1, 0, 0, 0), (74, .getfield 15, 3, 2, 1, 252), (77, .aload_n 0, 1, 0, 0, 0), (78, .getfield 9, 3, 2, 0, 251), (81, .iload_n 2, 1, 0, 0, 0), (82, .iaload, 1, 0, 0, 0), (83, .iconst 1, 1, 0, 0, 0), (84, .iadd, 1, 0, 0, 0), (85, .aload_n 1, 1, 0, 0, 0), (86, .getfield 52, 3, 1, 1, 120), (89, .iload_n 2, 1, 0, 0, 0), (90, .iaload, 1, 0, 0, 0), (91, .iastore, 1, 0, 0, 0), (92, .iinc 2 1, 3, 0, 0, 0), (95, .goto (-93), 3, 0, 0, 0), (98, .iconst 1, 1, 0, 0, 0), (99, .istore_n 2, 1, 0, 0, 0), (100, .iload_n 2, 1, 0, 0, 0), (101, .aload_n 1, 1, 0, 0, 0), (102, .getfield 31, 3, 1, 0, 116), (105, .if_icmp .gt 54, 3, 0, 0, 0), (108, .aload_n 0, 1, 0, 0, 0), (109, .getfield 18, 3, 2, 2, 253), (112, .iload_n 2, 1, 0, 0, 0), (113, .aload_n 0, 1, 0, 0, 0), (114, .getfield 18, 3, 2, 2, 253), (117, .iload_n 2, 1, 0, 0, 0), (118, .iconst 1, 1, 0, 0, 0), (119, .isub, 1, 0, 0, 0), (120, .iaload, 1, 0, 0, 0), (121, .aload_n 0, 1, 0, 0, 0), (122, .getfield 15, 3, 2, 1, 252), (125, .iload_n 2, 1, 0, 0, 0), (126, .iaload, 1, 0, 0, 0), (127, .aload_n 0, 1, 0, 0, 0), (128, .getfield 15, 3, 2, 1, 252), (131, .iload_n 2, 1, 0, 0, 0), (132, .iaload, 1, 0, 0, 0), (133, .imul, 1, 0, 0, 0), (134, .iadd, 1, 0, 0, 0), (135, .iastore, 1, 0, 0, 0), (136, .aload_n 0, 1, 0, 0, 0), (137, .getfield 15, 3, 2, 1, 252), (140, .iload_n 2, 1, 0, 0, 0), (141, .dup2, 1, 0, 0, 0), (142, .iaload, 1, 0, 0, 0), (143, .aload_n 0, 1, 0, 0, 0), (144, .getfield 15, 3, 2, 1, 252), (147, .iload_n 2, 1, 0, 0, 0), (148, .iconst 1, 1, 0, 0, 0), (149, .isub, 1, 0, 0, 0), (150, .iaload, 1, 0, 0, 0), (151, .iadd, 1, 0, 0, 0), (152, .iastore, 1, 0, 0, 0), (153, .iinc 2 1, 3, 0, 0, 0), (156, .goto (-56), 3, 0, 0, 0), (159, .return_, 1, 0, 0, 0)])
def xm_Cutting_cost : xiM := (("virtual", yX2_cost, cX2_cost), (4, some .int, 2), (0, 0, 0, 0), [(0, .aload_n 0, 1, 0, 0, 0), (1, .getfield 15, 3, 2, 1, 252), (4, .iload_n 2, 1, 0, 0, 0), (5, .iaload, 1, 0, 0, 0), (6, .aload_n 0, 1, 0, 0, 0), (7, .getfield 15, 3, 2, 1, 252), (10, .iload_n 1, 1, 0, 0, 0), (11, .iaload, 1, 0, 0, 0), (12, .isub, 1, 0, 0, 0), (13, .istore_n 3, 1, 0, 0, 0), (14, .iload_n 2, 1, 0, 0, 0), (15, .iload_n 1, 1, 0, 0, 0), (16, .isub, 1, 0, 0, 0), (17, .aload_n 0, 1, 0, 0, 0), (18, .getfield 18, 3, 2, 2, 253), (21, .iload_n 2, 1, 0, 0, 0), (22, .iaload, 1, 0, 0, 0), (23, .aload_n 0, 1, 0, 0, 0), (24, .getfield 18, 3, 2, 2, 253), (27, .iload_n 1, 1, 0, 0, 0), (28, .iaload, 1, 0, 0, 0), (29, .isub, 1, 0, 0, 0), (30, .imul, 1, 0, 0, 0), (31, .iload_n 3, 1, 0, 0, 0), (32, .iload_n 3, 1, 0, 0, 0), (33, .imul, 1, 0, 0, 0), (34, .isub, 1, 0, 0, 0), (35, .ireturn, 1, 0, 0, 0)])
def xm_Cutting_cutFirst : xiM := (("virtual", yX2_cutFirst, cX2_cutFirst), (6, none, 3), (1, 24, 0, 0), [(0, .aload_n 0, 1, 0, 0, 0), (1, .iload_n 1, 1, 0, 0, 0), (2, .iload_n 2, 1, 0, 0, 0), (3, .iconst 1, 1, 0, 0, 0), (4, .aload_n 0, 1, 0, 0, 0), (5, .iload_n 2, 1, 0, 0, 0), (6, .iload_n 2, 1, 0, 0, 0), (7, .iconst 1, 1, 0, 0, 0), (8, .iadd, 1, 0, 0, 0), (9, .invokevirtual 37, 3, 28, 2, 633), (12, .aload_n 0, 1, 0, 0, 0), (13, .iload_n 1, 1, 0, 0, 0), (14, .iconst 1, 1, 0, 0, 0), (15, .isub, 1, 0, 0, 0), (16, .iload_n 2, 1, 0, 0, 0), (17, .iconst 1, 1, 0, 0, 0), (18, .iadd, 1, 0, 0, 0), (19, .invokevirtual 55, 3, 25, 2, 642), (22, .iadd, 1, 0, 0, 0), (23, .invokevirtual 41, 3, 30, 2, 636), (26, .iload_n 2, 1, 0, 0, 0), (27, .iconst 2, 1, 0, 0, 0), (28, .iadd, 1, 0, 0, 0), (29, .istore 4, 2, 0, 0, 0), (31, .iload 4, 2, 0, 0, 0), (33, .iload_n 3, 1, 0, 0, 0), (34, .if_icmp .gt 51, 3, 0, 0, 0), (37, .aload_n 0, 1, 0, 0, 0), (38, .iload_n 2, 1, 0, 0, 0), (39, .iload 4, 2, 0, 0, 0), (41, .invokevirtual 37, 3, 28, 2, 633), (44, .aload_n 0, 1, 0, 0, 0), (45, .iload_n 1, 1, 0, 0, 0), (46, .iconst 1, 1, 0, 0, 0), (47, .isub, 1, 0, 0, 0), (48, .iload 4, 2, 0, 0, 0), (50, .invokevirtual 55, 3, 25, 2, 642), (53, .iadd, 1, 0, 0, 0), (54, .istore 5, 2, 0, 0, 0), (56, .iload 5, 2, 0, 0, 0), (58, .aload_n 0, 1, 0, 0, 0), (59, .iload_n 1, 1, 0, 0, 0), (60, .iload_n 2, 1, 0, 0, 0), (61, .invokevirtual 55, 3, 25, 2, 642), (64, .if_icmp .ge 15, 3, 0, 0, 0), (67, .aload_n 0, 1, 0, 0, 0), (68, .iload_n 1, 1, 0, 0, 0), (69, .iload_n 2, 1, 0, 0, 0), (70, .iload 4, 2, 0, 0, 0), (72, .iload_n 2, 1, 0, 0, 0), (73, .isub, 1, 0, 0, 0), (74, .iload 5, 2, 0, 0, 0), (76, .invokevirtual 41, 3, 30, 2, 636), (79, .iinc 4 1, 3, 0, 0, 0), (82, .goto (-51), 3, 0, 0, 0), (85, .return_, 1, 0, 0, 0)])
def xm_Cutting_choose : xiM := (("virtual", yX2_choose, cX2_choose), (5, none, 4), (0, 0, 0, 0), [(0, .aload_n 0, 1, 0, 0, 0), (1, .getfield 21, 3, 2, 3, 254), (4, .iload_n 1, 1, 0, 0, 0), (5, .bipush 11, 2, 0, 0, 0), (7, .imul, 1, 0, 0, 0), (8, .iload_n 2, 1, 0, 0, 0), (9, .iadd, 1, 0, 0, 0), (10, .iload 4, 2, 0, 0, 0), (12, .iastore, 1, 0, 0, 0), (13, .aload_n 0, 1, 0, 0, 0), (14, .getfield 24, 3, 2, 4, 255), (17, .iload_n 1, 1, 0, 0, 0), (18, .bipush 11, 2, 0, 0, 0), (20, .imul, 1, 0, 0, 0), (21, .iload_n 2, 1, 0, 0, 0), (22, .iadd, 1, 0, 0, 0), (23, .iload_n 3, 1, 0, 0, 0), (24, .iastore, 1, 0, 0, 0), (25, .return_, 1, 0, 0, 0)])
def xm_Cutting_bandOf : xiM := (("virtual", yX2_bandOf, cX2_bandOf), (5, some .int, 2), (0, 0, 0, 0), [(0, .iconst 0, 1, 0, 0, 0), (1, .istore_n 3, 1, 0, 0, 0), (2, .iconst 0, 1, 0, 0, 0), (3, .istore 4, 2, 0, 0, 0), (5, .iload 4, 2, 0, 0, 0), (7, .iload_n 1, 1, 0, 0, 0), (8, .if_icmp .ge 39, 3, 0, 0, 0), (11, .iload_n 3, 1, 0, 0, 0), (12, .aload_n 0, 1, 0, 0, 0), (13, .getfield 24, 3, 2, 4, 255), (16, .iload_n 1, 1, 0, 0, 0), (17, .iload 4, 2, 0, 0, 0), (19, .isub, 1, 0, 0, 0), (20, .bipush 11, 2, 0, 0, 0), (22, .imul, 1, 0, 0, 0), (23, .iload_n 3, 1, 0, 0, 0), (24, .iadd, 1, 0, 0, 0), (25, .iaload, 1, 0, 0, 0), (26, .iadd, 1, 0, 0, 0), (27, .istore_n 3, 1, 0, 0, 0), (28, .aload_n 0, 1, 0, 0, 0), (29, .getfield 9, 3, 2, 0, 251), (32, .iload_n 2, 1, 0, 0, 0), (33, .iaload, 1, 0, 0, 0), (34, .iload_n 3, 1, 0, 0, 0), (35, .if_icmp .ge 6, 3, 0, 0, 0), (38, .iload 4, 2, 0, 0, 0), (40, .ireturn, 1, 0, 0, 0), (41, .iinc 4 1, 3, 0, 0, 0), (44, .goto (-39), 3, 0, 0, 0), (47, .iconst (-1), 1, 0, 0, 0), (48, .ireturn, 1, 0, 0, 0)])
def xm_Fraction_init : xiM := (("init", yX3_init, cX3_init), (1, none, 0), (2, 40, 6, 63), [(0, .aload_n 0, 1, 0, 0, 0), (1, .invokespecial 3, 3, 0, 1, 180), (4, .aload_n 0, 1, 0, 0, 0), (5, .new 9, 3, 0, 0, 181), (8, .dup, 1, 0, 0, 0), (9, .invokespecial 11, 3, 8, 2, 1), (12, .putfield 12, 3, 3, 1, 194), (15, .aload_n 0, 1, 0, 0, 0), (16, .new 9, 3, 0, 0, 181), (19, .dup, 1, 0, 0, 0), (20, .invokespecial 11, 3, 8, 2, 1), (23, .putfield 18, 3, 3, 2, 196), (26, .aload_n 0, 1, 0, 0, 0), (27, .new 9, 3, 0, 0, 181), (30, .dup, 1, 0, 0, 0), (31, .invokespecial 11, 3, 8, 2, 1), (34, .putfield 21, 3, 3, 3, 198), (37, .aload_n 0, 1, 0, 0, 0), (38, .getfield 18, 3, 3, 2, 196), (41, .getfield 24, 3, 0, 0, 187), (44, .iconst 0, 1, 0, 0, 0), (45, .lconst 1, 1, 0, 0, 0), (46, .lastore, 1, 0, 0, 0), (47, .return_, 1, 0, 0, 0)])
def xm_Fraction_put : xiM := (("virtual", yX3_put, cX3_put), (5, none, 2), (3, 84, 0, 0), [(0, .aload_n 0, 1, 0, 0, 0), (1, .getfield 12, 3, 3, 1, 194), (4, .lload_n 1, 1, 0, 0, 0), (5, .invokevirtual 28, 3, 9, 0, 452), (8, .aload_n 0, 1, 0, 0, 0), (9, .invokevirtual 32, 3, 34, 3, 463), (12, .aload_n 0, 1, 0, 0, 0), (13, .lload_n 3, 1, 0, 0, 0), (14, .invokevirtual 35, 3, 35, 3, 485), (17, .return_, 1, 0, 0, 0)])
def xm_Fraction_takeTop : xiM := (("virtual", yX3_takeTop, cX3_takeTop), (1, none, 0), (2, 60, 0, 0), [(0, .aload_n 0, 1, 0, 0, 0), (1, .getfield 18, 3, 3, 2, 196), (4, .lconst 1, 1, 0, 0, 0), (5, .invokevirtual 28, 3, 9, 0, 452), (8, .aload_n 0, 1, 0, 0, 0), (9, .aload_n 0, 1, 0, 0, 0), (10, .getfield 12, 3, 3, 1, 194), (13, .invokevirtual 38, 3, 14, 0, 467), (16, .ifCond .eq 7, 3, 0, 0, 0), (19, .iconst 0, 1, 0, 0, 0), (20, .goto 4, 3, 0, 0, 0), (23, .iconst 1, 1, 0, 0, 0), (24, .putfield 42, 3, 3, 0, 192), (27, .aload_n 0, 1, 0, 0, 0), (28, .getfield 12, 3, 3, 1, 194), (31, .invokevirtual 46, 3, 12, 0, 475), (34, .ifCond .eq 18, 3, 0, 0, 0), (37, .aload_n 0, 1, 0, 0, 0), (38, .iconst (-1), 1, 0, 0, 0), (39, .putfield 42, 3, 3, 0, 192), (42, .aload_n 0, 1, 0, 0, 0), (43, .getfield 12, 3, 3, 1, 194), (46, .ldc2_w 49, 3, 18446744073709551615, 0, 480), (49, .invokevirtual 51, 3, 10, 0, 481), (52, .return_, 1, 0, 0, 0)])
def xm_Fraction_divide : xiM := (("virtual", yX3_divide, cX3_divide), (5, none, 1), (2, 60, 0, 0), [(0, .aload_n 0, 1, 0, 0, 0), (1, .getfield 12, 3, 3, 1, 194), (4, .lload_n 1, 1, 0, 0, 0), (5, .aload_n 0, 1, 0, 0, 0), (6, .getfield 21, 3, 3, 3, 198), (9, .invokevirtual 54, 3, 15, 0, 489), (12, .lload_n 1, 1, 0, 0, 0), (13, .invokestatic 57, 3, 36, 0, 495), (16, .lstore_n 3, 1, 0, 0, 0), (17, .lload_n 3, 1, 0, 0, 0), (18, .lconst 1, 1, 0, 0, 0), (19, .lcmp, 1, 0, 0, 0), (20, .ifCond .ge 4, 3, 0, 0, 0), (23, .return_, 1, 0, 0, 0), (24, .aload_n 0, 1, 0, 0, 0), (25, .getfield 12, 3, 3, 1, 194), (28, .lload_n 3, 1, 0, 0, 0), (29, .aload_n 0, 1, 0, 0, 0), (30, .getfield 12, 3, 3, 1, 194), (33, .invokevirtual 54, 3, 15, 0, 489), (36, .pop2, 1, 0, 0, 0), (37, .aload_n 0, 1, 0, 0, 0), (38, .getfield 18, 3, 3, 2, 196), (41, .lload_n 1, 1, 0, 0, 0), (42, .lload_n 3, 1, 0, 0, 0), (43, .ldiv, 1, 0, 0, 0), (44, .invokevirtual 51, 3, 10, 0, 481), (47, .return_, 1, 0, 0, 0)])
def xm_Fraction_gcd : xiM := (("static", yX3_gcd, cX3_gcd), (11, some .long, 2), (0, 0, 0, 0), [(0, .lload_n 0, 1, 0, 0, 0), (1, .lstore 4, 2, 0, 0, 0), (3, .lload_n 2, 1, 0, 0, 0), (4, .lstore 6, 2, 0, 0, 0), (6, .iconst 0, 1, 0, 0, 0), (7, .istore 8, 2, 0, 0, 0), (9, .iload 8, 2, 0, 0, 0), (11, .sipush 200, 3, 0, 0, 0), (14, .if_icmp .ge 31, 3, 0, 0, 0), (17, .lload 6, 2, 0, 0, 0), (19, .lconst 0, 1, 0, 0, 0), (20, .lcmp, 1, 0, 0, 0), (21, .ifCond .eq 24, 3, 0, 0, 0), (24, .lload 4, 2, 0, 0, 0), (26, .lload 6, 2, 0, 0, 0), (28, .lrem, 1, 0, 0, 0), (29, .lstore 9, 2, 0, 0, 0), (31, .lload 6, 2, 0, 0, 0), (33, .lstore 4, 2, 0, 0, 0), (35, .lload 9, 2, 0, 0, 0), (37, .lstore 6, 2, 0, 0, 0), (39, .iinc 8 1, 3, 0, 0, 0), (42, .goto (-33), 3, 0, 0, 0), (45, .lload 4, 2, 0, 0, 0), (47, .lreturn, 1, 0, 0, 0)])
def xm_Lots_init : xiM := (("init", yX4_init, cX4_init), (1, none, 0), (1, 20, 3, 1128), [(0, .aload_n 0, 1, 0, 0, 0), (1, .invokespecial 3, 3, 0, 1, 146), (4, .aload_n 0, 1, 0, 0, 0), (5, .iconst 0, 1, 0, 0, 0), (6, .putfield 9, 3, 4, 0, 147), (9, .aload_n 0, 1, 0, 0, 0), (10, .iconst 1, 1, 0, 0, 0), (11, .putfield 15, 3, 4, 1, 149), (14, .aload_n 0, 1, 0, 0, 0), (15, .iconst 4, 1, 0, 0, 0), (16, .newarray .int, 2, 0, 0, 0), (18, .putfield 18, 3, 4, 2, 151), (21, .aload_n 0, 1, 0, 0, 0), (22, .iconst 1, 1, 0, 0, 0), (23, .putfield 22, 3, 4, 3, 153), (26, .aload_n 0, 1, 0, 0, 0), (27, .sipush 1024, 3, 0, 0, 0), (30, .newarray .long, 2, 0, 0, 0), (32, .putfield 26, 3, 4, 4, 155), (35, .aload_n 0, 1, 0, 0, 0), (36, .bipush 100, 2, 0, 0, 0), (38, .newarray .long, 2, 0, 0, 0), (40, .putfield 30, 3, 4, 5, 157), (43, .aload_n 0, 1, 0, 0, 0), (44, .lconst 1, 1, 0, 0, 0), (45, .putfield 33, 3, 4, 6, 158), (48, .return_, 1, 0, 0, 0)])
def xm_Lots_forget : xiM := (("virtual", yX4_forget, cX4_forget), (1, none, 0), (1, 23, 0, 0), [(0, .aload_n 0, 1, 0, 0, 0), (1, .getfield 18, 3, 4, 2, 151), (4, .iconst 0, 1, 0, 0, 0), (5, .invokestatic 37, 3, 7, 0, 349), (8, .aload_n 0, 1, 0, 0, 0), (9, .iconst 0, 1, 0, 0, 0), (10, .iconst 1, 1, 0, 0, 0), (11, .invokevirtual 43, 3, 39, 4, 350), (14, .return_, 1, 0, 0, 0)])
def xm_Lots_choose : xiM := (("virtual", yX4_choose, cX4_choose), (3, none, 2), (0, 0, 0, 0), [(0, .aload_n 0, 1, 0, 0, 0), (1, .iload_n 1, 1, 0, 0, 0), (2, .putfield 9, 3, 4, 0, 147), (5, .aload_n 0, 1, 0, 0, 0), (6, .iload_n 2, 1, 0, 0, 0), (7, .putfield 15, 3, 4, 1, 149), (10, .aload_n 0, 1, 0, 0, 0), (11, .iconst 1, 1, 0, 0, 0), (12, .putfield 22, 3, 4, 3, 153), (15, .return_, 1, 0, 0, 0)])
def xm_Lots_fromAllHeaps : xiM := (("virtual", yX4_fromAllHeaps, cX4_fromAllHeaps), (3, some .int, 0), (0, 0, 0, 0), [(0, .iconst 0, 1, 0, 0, 0), (1, .istore_n 1, 1, 0, 0, 0), (2, .iconst 0, 1, 0, 0, 0), (3, .istore_n 2, 1, 0, 0, 0), (4, .iload_n 2, 1, 0, 0, 0), (5, .iconst 4, 1, 0, 0, 0), (6, .if_icmp .ge 18, 3, 0, 0, 0), (9, .iload_n 1, 1, 0, 0, 0), (10, .aload_n 0, 1, 0, 0, 0), (11, .getfield 18, 3, 4, 2, 151), (14, .iload_n 2, 1, 0, 0, 0), (15, .iaload, 1, 0, 0, 0), (16, .iadd, 1, 0, 0, 0), (17, .istore_n 1, 1, 0, 0, 0), (18, .iinc 2 1, 3, 0, 0, 0), (21, .goto (-17), 3, 0, 0, 0), (24, .iload_n 1, 1, 0, 0, 0), (25, .ireturn, 1, 0, 0, 0)])
def xm_Lots_weightOfName : xiM := (("virtual", yX4_weightOfName, cX4_weightOfName), (2, some .long, 1), (0, 0, 0, 0), [(0, .aload_n 0, 1, 0, 0, 0), (1, .getfield 30, 3, 4, 5, 157), (4, .iload_n 1, 1, 0, 0, 0), (5, .bipush 10, 2, 0, 0, 0), (7, .imul, 1, 0, 0, 0), (8, .iload_n 1, 1, 0, 0, 0), (9, .iadd, 1, 0, 0, 0), (10, .laload, 1, 0, 0, 0), (11, .lreturn, 1, 0, 0, 0)])
def xm_Lots_weightOfPair : xiM := (("virtual", yX4_weightOfPair, cX4_weightOfPair), (3, some .long, 2), (1, 21, 0, 0), [(0, .aload_n 0, 1, 0, 0, 0), (1, .getfield 30, 3, 4, 5, 157), (4, .iload_n 1, 1, 0, 0, 0), (5, .iload_n 2, 1, 0, 0, 0), (6, .invokestatic 47, 3, 4, 0, 442), (9, .bipush 10, 2, 0, 0, 0), (11, .imul, 1, 0, 0, 0), (12, .iload_n 1, 1, 0, 0, 0), (13, .iload_n 2, 1, 0, 0, 0), (14, .invokestatic 53, 3, 5, 0, 445), (17, .iadd, 1, 0, 0, 0), (18, .laload, 1, 0, 0, 0), (19, .lreturn, 1, 0, 0, 0)])
def xm_Lots_prepare : xiM := (("virtual", yX4_prepare, cX4_prepare), (3, none, 1), (3, 72, 0, 0), [(0, .aload_n 0, 1, 0, 0, 0), (1, .getfield 22, 3, 4, 3, 153), (4, .ifCond .ne 4, 3, 0, 0, 0), (7, .return_, 1, 0, 0, 0), (8, .iconst 0, 1, 0, 0, 0), (9, .istore_n 2, 1, 0, 0, 0), (10, .iload_n 2, 1, 0, 0, 0), (11, .aload_n 1, 1, 0, 0, 0), (12, .invokevirtual 56, 3, 18, 1, 398), (15, .if_icmp .ge 21, 3, 0, 0, 0), (18, .aload_n 0, 1, 0, 0, 0), (19, .getfield 26, 3, 4, 4, 155), (22, .iload_n 2, 1, 0, 0, 0), (23, .aload_n 0, 1, 0, 0, 0), (24, .aload_n 1, 1, 0, 0, 0), (25, .iload_n 2, 1, 0, 0, 0), (26, .invokevirtual 62, 3, 44, 4, 402), (29, .lastore, 1, 0, 0, 0), (30, .iinc 2 1, 3, 0, 0, 0), (33, .goto (-23), 3, 0, 0, 0), (36, .aload_n 0, 1, 0, 0, 0), (37, .getfield 9, 3, 4, 0, 147), (40, .iconst 2, 1, 0, 0, 0), (41, .if_icmp .ne 8, 3, 0, 0, 0), (44, .aload_n 0, 1, 0, 0, 0), (45, .aload_n 1, 1, 0, 0, 0), (46, .invokevirtual 66, 3, 48, 4, 415), (49, .aload_n 0, 1, 0, 0, 0), (50, .getfield 9, 3, 4, 0, 147), (53, .iconst 3, 1, 0, 0, 0), (54, .if_icmp .ne 11, 3, 0, 0, 0), (57, .aload_n 0, 1, 0, 0, 0), (58, .aload_n 1, 1, 0, 0, 0), (59, .invokevirtual 70, 3, 50, 4, 425), (62, .goto 8, 3, 0, 0, 0), (65, .aload_n 0, 1, 0, 0, 0), (66, .aload_n 1, 1, 0, 0, 0), (67, .invokevirtual 73, 3, 51, 4, 429), (70, .aload_n 0, 1, 0, 0, 0), (71, .iconst 0, 1, 0, 0, 0), (72, .putfield 22, 3, 4, 3, 153), (75, .return_, 1, 0, 0, 0)])
def xm_Lots_weigh : xiM := (("virtual", yX4_weigh, cX4_weigh), (3, some .long, 2), (2, 43, 0, 0), [(0, .aload_n 0, 1, 0, 0, 0), (1, .getfield 9, 3, 4, 0, 147), (4, .tableswitch 105 0 4 #[36, 53, 105, 68, 83], 36, 0, 0, 0), (40, .iload_n 2, 1, 0, 0, 0), (41, .invokestatic 76, 3, 0, 0, 405), (44, .aload_n 0, 1, 0, 0, 0), (45, .getfield 15, 3, 4, 1, 149), (48, .if_icmp .ne 7, 3, 0, 0, 0), (51, .lconst 1, 1, 0, 0, 0), (52, .goto 4, 3, 0, 0, 0), (55, .lconst 0, 1, 0, 0, 0), (56, .lreturn, 1, 0, 0, 0), (57, .aload_n 0, 1, 0, 0, 0), (58, .aload_n 1, 1, 0, 0, 0), (59, .iload_n 2, 1, 0, 0, 0), (60, .invokevirtual 82, 3, 45, 4, 406), (63, .ifCond .eq 7, 3, 0, 0, 0), (66, .lconst 1, 1, 0, 0, 0), (67, .goto 4, 3, 0, 0, 0), (70, .lconst 0, 1, 0, 0, 0), (71, .lreturn, 1, 0, 0, 0), (72, .aload_n 0, 1, 0, 0, 0), (73, .aload_n 1, 1, 0, 0, 0), (74, .iload_n 2, 1, 0, 0, 0), (75, .invokevirtual 86, 3, 46, 4, 409), (78, .ifCond .eq 7, 3, 0, 0, 0), (81, .lconst 1, 1, 0, 0, 0), (82, .goto 4, 3, 0, 0, 0), (85, .lconst 0, 1, 0, 0, 0), (86, .lreturn, 1, 0, 0, 0), (87, .iload_n 2, 1, 0, 0, 0), (88, .invokestatic 76, 3, 0, 0, 405), (91, .aload_n 0, 1, 0, 0, 0), (92, .getfield 15, 3, 4, 1, 149), (95, .if_icmp .ne 12, 3, 0, 0, 0), (98, .aload_n 0, 1, 0, 0, 0), (99, .aload_n 1, 1, 0, 0, 0), (100, .iload_n 2, 1, 0, 0, 0), (101, .invokevirtual 89, 3, 47, 4, 412), (104, .goto 4, 3, 0, 0, 0), (107, .lconst 0, 1, 0, 0, 0), (108, .lreturn, 1, 0, 0, 0), (109, .lconst 0, 1, 0, 0, 0), (110, .lreturn, 1, 0, 0, 0)])
def xm_Lots_fitsHeaps : xiM := (("virtual", yX4_fitsHeaps, cX4_fitsHeaps), (4, some .boolean, 2), (1, 20, 0, 0), [(0, .iconst 0, 1, 0, 0, 0), (1, .istore_n 3, 1, 0, 0, 0), (2, .iload_n 3, 1, 0, 0, 0), (3, .iconst 4, 1, 0, 0, 0), (4, .if_icmp .ge 31, 3, 0, 0, 0), (7, .iload_n 2, 1, 0, 0, 0), (8, .aload_n 1, 1, 0, 0, 0), (9, .getfield 92, 3, 1, 4, 130), (12, .iload_n 3, 1, 0, 0, 0), (13, .iaload, 1, 0, 0, 0), (14, .iand, 1, 0, 0, 0), (15, .invokestatic 76, 3, 0, 0, 405), (18, .aload_n 0, 1, 0, 0, 0), (19, .getfield 18, 3, 4, 2, 151), (22, .iload_n 3, 1, 0, 0, 0), (23, .iaload, 1, 0, 0, 0), (24, .if_icmp .eq 5, 3, 0, 0, 0), (27, .iconst 0, 1, 0, 0, 0), (28, .ireturn, 1, 0, 0, 0), (29, .iinc 3 1, 3, 0, 0, 0), (32, .goto (-30), 3, 0, 0, 0), (35, .iconst 1, 1, 0, 0, 0), (36, .ireturn, 1, 0, 0, 0)])
def xm_Lots_fitsShares : xiM := (("virtual", yX4_fitsShares, cX4_fitsShares), (5, some .boolean, 2), (0, 0, 0, 0), [(0, .iconst 0, 1, 0, 0, 0), (1, .istore_n 3, 1, 0, 0, 0), (2, .iload_n 3, 1, 0, 0, 0), (3, .aload_n 1, 1, 0, 0, 0), (4, .getfield 95, 3, 1, 0, 118), (7, .if_icmp .ge 39, 3, 0, 0, 0), (10, .iload_n 2, 1, 0, 0, 0), (11, .iload_n 3, 1, 0, 0, 0), (12, .ishr, 1, 0, 0, 0), (13, .iconst 1, 1, 0, 0, 0), (14, .iand, 1, 0, 0, 0), (15, .iconst 1, 1, 0, 0, 0), (16, .if_icmp .ne 7, 3, 0, 0, 0), (19, .iconst 0, 1, 0, 0, 0), (20, .goto 5, 3, 0, 0, 0), (23, .bipush 100, 2, 0, 0, 0), (25, .istore 4, 2, 0, 0, 0), (27, .aload_n 1, 1, 0, 0, 0), (28, .getfield 98, 3, 1, 3, 127), (31, .iload_n 3, 1, 0, 0, 0), (32, .iaload, 1, 0, 0, 0), (33, .iload 4, 2, 0, 0, 0), (35, .if_icmp .ne 5, 3, 0, 0, 0), (38, .iconst 0, 1, 0, 0, 0), (39, .ireturn, 1, 0, 0, 0), (40, .iinc 3 1, 3, 0, 0, 0), (43, .goto (-41), 3, 0, 0, 0), (46, .iconst 1, 1, 0, 0, 0), (47, .ireturn, 1, 0, 0, 0)])
def xm_Lots_product : xiM := (("virtual", yX4_product, cX4_product), (6, some .long, 2), (0, 0, 0, 0), [(0, .aload_n 0, 1, 0, 0, 0), (1, .getfield 15, 3, 4, 1, 149), (4, .aload_n 1, 1, 0, 0, 0), (5, .getfield 95, 3, 1, 0, 118), (8, .if_icmp .ne 5, 3, 0, 0, 0), (11, .lconst 1, 1, 0, 0, 0), (12, .lreturn, 1, 0, 0, 0), (13, .lconst 1, 1, 0, 0, 0), (14, .lstore_n 3, 1, 0, 0, 0), (15, .iconst 0, 1, 0, 0, 0), (16, .istore 5, 2, 0, 0, 0), (18, .iload 5, 2, 0, 0, 0), (20, .aload_n 1, 1, 0, 0, 0), (21, .getfield 95, 3, 1, 0, 118), (24, .if_icmp .ge 30, 3, 0, 0, 0), (27, .iload_n 2, 1, 0, 0, 0), (28, .iload 5, 2, 0, 0, 0), (30, .ishr, 1, 0, 0, 0), (31, .iconst 1, 1, 0, 0, 0), (32, .iand, 1, 0, 0, 0), (33, .iconst 1, 1, 0, 0, 0), (34, .if_icmp .ne 14, 3, 0, 0, 0), (37, .lload_n 3, 1, 0, 0, 0), (38, .aload_n 1, 1, 0, 0, 0), (39, .getfield 101, 3, 1, 2, 124), (42, .iload 5, 2, 0, 0, 0), (44, .iaload, 1, 0, 0, 0), (45, .i2l, 1, 0, 0, 0), (46, .lmul, 1, 0, 0, 0), (47, .lstore_n 3, 1, 0, 0, 0), (48, .iinc 5 1, 3, 0, 0, 0), (51, .goto (-33), 3, 0, 0, 0), (54, .lload_n 3, 1, 0, 0, 0), (55, .lreturn, 1, 0, 0, 0)])
def xm_Lots_weighStarts : xiM := (("virtual", yX4_weighStarts, cX4_weighStarts), (4, none, 1), (2, 49, 0, 0), [(0, .aload_n 1, 1, 0, 0, 0), (1, .invokevirtual 104, 3, 21, 1, 418), (4, .istore_n 2, 1, 0, 0, 0), (5, .iconst 0, 1, 0, 0, 0), (6, .istore_n 3, 1, 0, 0, 0), (7, .iload_n 3, 1, 0, 0, 0), (8, .iload_n 2, 1, 0, 0, 0), (9, .if_icmp .ge 25, 3, 0, 0, 0), (12, .aload_n 0, 1, 0, 0, 0), (13, .getfield 26, 3, 4, 4, 155), (16, .aload_n 0, 1, 0, 0, 0), (17, .aload_n 1, 1, 0, 0, 0), (18, .iload_n 3, 1, 0, 0, 0), (19, .iload_n 2, 1, 0, 0, 0), (20, .invokevirtual 107, 3, 49, 4, 419), (23, .dup2, 1, 0, 0, 0), (24, .laload, 1, 0, 0, 0), (25, .lconst 1, 1, 0, 0, 0), (26, .ladd, 1, 0, 0, 0), (27, .lastore, 1, 0, 0, 0), (28, .iinc 3 1, 3, 0, 0, 0), (31, .goto (-24), 3, 0, 0, 0), (34, .return_, 1, 0, 0, 0)])
def xm_Lots_setFrom : xiM := (("virtual", yX4_setFrom, cX4_setFrom), (8, some .int, 3), (1, 22, 0, 0), [(0, .iconst 0, 1, 0, 0, 0), (1, .istore 4, 2, 0, 0, 0), (3, .iconst 0, 1, 0, 0, 0), (4, .istore 5, 2, 0, 0, 0), (6, .iconst 0, 1, 0, 0, 0), (7, .istore 6, 2, 0, 0, 0), (9, .iload 6, 2, 0, 0, 0), (11, .aload_n 1, 1, 0, 0, 0), (12, .getfield 95, 3, 1, 0, 118), (15, .if_icmp .ge 52, 3, 0, 0, 0), (18, .aload_n 0, 1, 0, 0, 0), (19, .getfield 15, 3, 4, 1, 149), (22, .aload_n 1, 1, 0, 0, 0), (23, .getfield 101, 3, 1, 2, 124), (26, .iload 6, 2, 0, 0, 0), (28, .iaload, 1, 0, 0, 0), (29, .imul, 1, 0, 0, 0), (30, .istore 7, 2, 0, 0, 0), (32, .iload_n 2, 1, 0, 0, 0), (33, .iload 5, 2, 0, 0, 0), (35, .isub, 1, 0, 0, 0), (36, .iload_n 3, 1, 0, 0, 0), (37, .invokestatic 111, 3, 2, 0, 422), (40, .iload 7, 2, 0, 0, 0), (42, .if_icmp .ge 12, 3, 0, 0, 0), (45, .iload 4, 2, 0, 0, 0), (47, .iconst 1, 1, 0, 0, 0), (48, .iload 6, 2, 0, 0, 0), (50, .ishl, 1, 0, 0, 0), (51, .ior, 1, 0, 0, 0), (52, .istore 4, 2, 0, 0, 0), (54, .iload 5, 2, 0, 0, 0), (56, .iload 7, 2, 0, 0, 0), (58, .iadd, 1, 0, 0, 0), (59, .istore 5, 2, 0, 0, 0), (61, .iinc 6 1, 3, 0, 0, 0), (64, .goto (-55), 3, 0, 0, 0), (67, .iload 4, 2, 0, 0, 0), (69, .ireturn, 1, 0, 0, 0)])
def xm_Lots_pairOwn : xiM := (("virtual", yX4_pairOwn, cX4_pairOwn), (4, none, 1), (0, 0, 0, 0), [(0, .aload_n 0, 1, 0, 0, 0), (1, .ldc2_w 114, 3, 10000, 0, 428), (4, .putfield 33, 3, 4, 6, 158), (7, .iconst 0, 1, 0, 0, 0), (8, .istore_n 2, 1, 0, 0, 0), (9, .iload_n 2, 1, 0, 0, 0), (10, .aload_n 1, 1, 0, 0, 0), (11, .getfield 95, 3, 1, 0, 118), (14, .if_icmp .ge 68, 3, 0, 0, 0), (17, .iconst 0, 1, 0, 0, 0), (18, .istore_n 3, 1, 0, 0, 0), (19, .iload_n 3, 1, 0, 0, 0), (20, .iload_n 2, 1, 0, 0, 0), (21, .if_icmp .ge 34, 3, 0, 0, 0), (24, .aload_n 0, 1, 0, 0, 0), (25, .getfield 30, 3, 4, 5, 157), (28, .iload_n 2, 1, 0, 0, 0), (29, .bipush 10, 2, 0, 0, 0), (31, .imul, 1, 0, 0, 0), (32, .iload_n 3, 1, 0, 0, 0), (33, .iadd, 1, 0, 0, 0), (34, .aload_n 1, 1, 0, 0, 0), (35, .getfield 98, 3, 1, 3, 127), (38, .iload_n 2, 1, 0, 0, 0), (39, .iaload, 1, 0, 0, 0), (40, .aload_n 1, 1, 0, 0, 0), (41, .getfield 98, 3, 1, 3, 127), (44, .iload_n 3, 1, 0, 0, 0), (45, .iaload, 1, 0, 0, 0), (46, .imul, 1, 0, 0, 0), (47, .i2l, 1, 0, 0, 0), (48, .lastore, 1, 0, 0, 0), (49, .iinc 3 1, 3, 0, 0, 0), (52, .goto (-33), 3, 0, 0, 0), (55, .aload_n 0, 1, 0, 0, 0), (56, .getfield 30, 3, 4, 5, 157), (59, .iload_n 2, 1, 0, 0, 0), (60, .bipush 10, 2, 0, 0, 0), (62, .imul, 1, 0, 0, 0), (63, .iload_n 2, 1, 0, 0, 0), (64, .iadd, 1, 0, 0, 0), (65, .aload_n 1, 1, 0, 0, 0), (66, .getfield 98, 3, 1, 3, 127), (69, .iload_n 2, 1, 0, 0, 0), (70, .iaload, 1, 0, 0, 0), (71, .bipush 100, 2, 0, 0, 0), (73, .imul, 1, 0, 0, 0), (74, .i2l, 1, 0, 0, 0), (75, .lastore, 1, 0, 0, 0), (76, .iinc 2 1, 3, 0, 0, 0), (79, .goto (-70), 3, 0, 0, 0), (82, .return_, 1, 0, 0, 0)])
def xm_Lots_pairByWeights : xiM := (("virtual", yX4_pairByWeights, cX4_pairByWeights), (3, none, 1), (1, 24, 0, 0), [(0, .aload_n 0, 1, 0, 0, 0), (1, .lconst 0, 1, 0, 0, 0), (2, .putfield 33, 3, 4, 6, 158), (5, .aload_n 0, 1, 0, 0, 0), (6, .getfield 30, 3, 4, 5, 157), (9, .lconst 0, 1, 0, 0, 0), (10, .invokestatic 116, 3, 6, 0, 432), (13, .iconst 0, 1, 0, 0, 0), (14, .istore_n 2, 1, 0, 0, 0), (15, .iload_n 2, 1, 0, 0, 0), (16, .aload_n 1, 1, 0, 0, 0), (17, .invokevirtual 56, 3, 18, 1, 398), (20, .if_icmp .ge 41, 3, 0, 0, 0), (23, .aload_n 0, 1, 0, 0, 0), (24, .getfield 26, 3, 4, 4, 155), (27, .iload_n 2, 1, 0, 0, 0), (28, .laload, 1, 0, 0, 0), (29, .lconst 0, 1, 0, 0, 0), (30, .lcmp, 1, 0, 0, 0), (31, .ifCond .le 24, 3, 0, 0, 0), (34, .aload_n 0, 1, 0, 0, 0), (35, .dup, 1, 0, 0, 0), (36, .getfield 33, 3, 4, 6, 158), (39, .aload_n 0, 1, 0, 0, 0), (40, .getfield 26, 3, 4, 4, 155), (43, .iload_n 2, 1, 0, 0, 0), (44, .laload, 1, 0, 0, 0), (45, .ladd, 1, 0, 0, 0), (46, .putfield 33, 3, 4, 6, 158), (49, .aload_n 0, 1, 0, 0, 0), (50, .aload_n 1, 1, 0, 0, 0), (51, .iload_n 2, 1, 0, 0, 0), (52, .invokevirtual 119, 3, 52, 4, 435), (55, .iinc 2 1, 3, 0, 0, 0), (58, .goto (-43), 3, 0, 0, 0), (61, .return_, 1, 0, 0, 0)])
def xm_Lots_addToPairs : xiM := (("virtual", yX4_addToPairs, cX4_addToPairs), (5, none, 2), (0, 0, 0, 0), [(0, .iconst 0, 1, 0, 0, 0), (1, .istore_n 3, 1, 0, 0, 0), (2, .iload_n 3, 1, 0, 0, 0), (3, .aload_n 1, 1, 0, 0, 0), (4, .getfield 95, 3, 1, 0, 118), (7, .if_icmp .ge 64, 3, 0, 0, 0), (10, .iload_n 2, 1, 0, 0, 0), (11, .iload_n 3, 1, 0, 0, 0), (12, .ishr, 1, 0, 0, 0), (13, .iconst 1, 1, 0, 0, 0), (14, .iand, 1, 0, 0, 0), (15, .iconst 1, 1, 0, 0, 0), (16, .if_icmp .ne 49, 3, 0, 0, 0), (19, .iconst 0, 1, 0, 0, 0), (20, .istore 4, 2, 0, 0, 0), (22, .iload 4, 2, 0, 0, 0), (24, .iload_n 3, 1, 0, 0, 0), (25, .if_icmp .gt 40, 3, 0, 0, 0), (28, .iload_n 2, 1, 0, 0, 0), (29, .iload 4, 2, 0, 0, 0), (31, .ishr, 1, 0, 0, 0), (32, .iconst 1, 1, 0, 0, 0), (33, .iand, 1, 0, 0, 0), (34, .iconst 1, 1, 0, 0, 0), (35, .if_icmp .ne 24, 3, 0, 0, 0), (38, .aload_n 0, 1, 0, 0, 0), (39, .getfield 30, 3, 4, 5, 157), (42, .iload_n 3, 1, 0, 0, 0), (43, .bipush 10, 2, 0, 0, 0), (45, .imul, 1, 0, 0, 0), (46, .iload 4, 2, 0, 0, 0), (48, .iadd, 1, 0, 0, 0), (49, .dup2, 1, 0, 0, 0), (50, .laload, 1, 0, 0, 0), (51, .aload_n 0, 1, 0, 0, 0), (52, .getfield 26, 3, 4, 4, 155), (55, .iload_n 2, 1, 0, 0, 0), (56, .laload, 1, 0, 0, 0), (57, .ladd, 1, 0, 0, 0), (58, .lastore, 1, 0, 0, 0), (59, .iinc 4 1, 3, 0, 0, 0), (62, .goto (-40), 3, 0, 0, 0), (65, .iinc 3 1, 3, 0, 0, 0), (68, .goto (-66), 3, 0, 0, 0), (71, .return_, 1, 0, 0, 0)])
def xm_Sharing_init : xiM := (("init", yX5_init, cX5_init), (1, none, 0), (1, 20, 4, 16), [(0, .aload_n 0, 1, 0, 0, 0), (1, .invokespecial 3, 3, 0, 1, 227), (4, .aload_n 0, 1, 0, 0, 0), (5, .iconst 4, 1, 0, 0, 0), (6, .newarray .int, 2, 0, 0, 0), (8, .putfield 9, 3, 5, 0, 228), (11, .aload_n 0, 1, 0, 0, 0), (12, .iconst 4, 1, 0, 0, 0), (13, .newarray .int, 2, 0, 0, 0), (15, .putfield 15, 3, 5, 2, 232), (18, .aload_n 0, 1, 0, 0, 0), (19, .iconst 4, 1, 0, 0, 0), (20, .newarray .int, 2, 0, 0, 0), (22, .putfield 18, 3, 5, 3, 233), (25, .aload_n 0, 1, 0, 0, 0), (26, .iconst 4, 1, 0, 0, 0), (27, .newarray .long, 2, 0, 0, 0), (29, .putfield 21, 3, 5, 4, 234), (32, .return_, 1, 0, 0, 0)])
def xm_Sharing_shareOut : xiM := (("virtual", yX5_shareOut, cX5_shareOut), (7, none, 2), (4, 90, 0, 0), [(0, .aload_n 0, 1, 0, 0, 0), (1, .aload_n 1, 1, 0, 0, 0), (2, .invokevirtual 25, 3, 55, 5, 602), (5, .aload_n 0, 1, 0, 0, 0), (6, .ldc2_w 31, 3, 9223372036854775807, 0, 610), (9, .putfield 33, 3, 5, 1, 230), (12, .aload_n 0, 1, 0, 0, 0), (13, .getfield 18, 3, 5, 3, 233), (16, .iconst 0, 1, 0, 0, 0), (17, .iaload, 1, 0, 0, 0), (18, .istore_n 3, 1, 0, 0, 0), (19, .iload_n 3, 1, 0, 0, 0), (20, .aload_n 0, 1, 0, 0, 0), (21, .getfield 15, 3, 5, 2, 232), (24, .iconst 0, 1, 0, 0, 0), (25, .iaload, 1, 0, 0, 0), (26, .if_icmp .lt 103, 3, 0, 0, 0), (29, .aload_n 0, 1, 0, 0, 0), (30, .getfield 18, 3, 5, 3, 233), (33, .iconst 1, 1, 0, 0, 0), (34, .iaload, 1, 0, 0, 0), (35, .istore 4, 2, 0, 0, 0), (37, .iload 4, 2, 0, 0, 0), (39, .aload_n 0, 1, 0, 0, 0), (40, .getfield 15, 3, 5, 2, 232), (43, .iconst 1, 1, 0, 0, 0), (44, .iaload, 1, 0, 0, 0), (45, .if_icmp .lt 78, 3, 0, 0, 0), (48, .aload_n 0, 1, 0, 0, 0), (49, .getfield 18, 3, 5, 3, 233), (52, .iconst 2, 1, 0, 0, 0), (53, .iaload, 1, 0, 0, 0), (54, .istore 5, 2, 0, 0, 0), (56, .iload 5, 2, 0, 0, 0), (58, .aload_n 0, 1, 0, 0, 0), (59, .getfield 15, 3, 5, 2, 232), (62, .iconst 2, 1, 0, 0, 0), (63, .iaload, 1, 0, 0, 0), (64, .if_icmp .lt 53, 3, 0, 0, 0), (67, .iload_n 2, 1, 0, 0, 0), (68, .iload_n 3, 1, 0, 0, 0), (69, .isub, 1, 0, 0, 0), (70, .iload 4, 2, 0, 0, 0), (72, .isub, 1, 0, 0, 0), (73, .iload 5, 2, 0, 0, 0), (75, .isub, 1, 0, 0, 0), (76, .istore 6, 2, 0, 0, 0), (78, .iload 6, 2, 0, 0, 0), (80, .aload_n 0, 1, 0, 0, 0), (81, .getfield 15, 3, 5, 2, 232), (84, .iconst 3, 1, 0, 0, 0), (85, .iaload, 1, 0, 0, 0), (86, .if_icmp .lt 25, 3, 0, 0, 0), (89, .iload 6, 2, 0, 0, 0), (91, .aload_n 0, 1, 0, 0, 0), (92, .getfield 18, 3, 5, 3, 233), (95, .iconst 3, 1, 0, 0, 0), (96, .iaload, 1, 0, 0, 0), (97, .if_icmp .gt 14, 3, 0, 0, 0), (100, .aload_n 0, 1, 0, 0, 0), (101, .iload_n 3, 1, 0, 0, 0), (102, .iload 4, 2, 0, 0, 0), (104, .iload 5, 2, 0, 0, 0), (106, .iload 6, 2, 0, 0, 0), (108, .invokevirtual 37, 3, 56, 5, 611), (111, .iinc 5 (-1), 3, 0, 0, 0), (114, .goto (-58), 3, 0, 0, 0), (117, .iinc 4 (-1), 3, 0, 0, 0), (120, .goto (-83), 3, 0, 0, 0), (123, .iinc 3 (-1), 3, 0, 0, 0), (126, .goto (-107), 3, 0, 0, 0), (129, .return_, 1, 0, 0, 0)])
def xm_Sharing_measure : xiM := (("virtual", yX5_measure, cX5_measure), (3, none, 1), (3, 68, 0, 0), [(0, .iconst 0, 1, 0, 0, 0), (1, .istore_n 2, 1, 0, 0, 0), (2, .iload_n 2, 1, 0, 0, 0), (3, .iconst 4, 1, 0, 0, 0), (4, .if_icmp .ge 57, 3, 0, 0, 0), (7, .aload_n 0, 1, 0, 0, 0), (8, .getfield 18, 3, 5, 3, 233), (11, .iload_n 2, 1, 0, 0, 0), (12, .aload_n 1, 1, 0, 0, 0), (13, .iload_n 2, 1, 0, 0, 0), (14, .invokevirtual 41, 3, 19, 1, 605), (17, .iastore, 1, 0, 0, 0), (18, .aload_n 0, 1, 0, 0, 0), (19, .getfield 15, 3, 5, 2, 232), (22, .iload_n 2, 1, 0, 0, 0), (23, .iconst 1, 1, 0, 0, 0), (24, .aload_n 0, 1, 0, 0, 0), (25, .getfield 18, 3, 5, 3, 233), (28, .iload_n 2, 1, 0, 0, 0), (29, .iaload, 1, 0, 0, 0), (30, .invokestatic 47, 3, 5, 0, 606), (33, .iastore, 1, 0, 0, 0), (34, .aload_n 0, 1, 0, 0, 0), (35, .getfield 21, 3, 5, 4, 234), (38, .iload_n 2, 1, 0, 0, 0), (39, .aload_n 1, 1, 0, 0, 0), (40, .iload_n 2, 1, 0, 0, 0), (41, .invokevirtual 53, 3, 22, 1, 607), (44, .ldc2_w 57, 3, 2520, 0, 608), (47, .lmul, 1, 0, 0, 0), (48, .aload_n 1, 1, 0, 0, 0), (49, .iload_n 2, 1, 0, 0, 0), (50, .invokevirtual 59, 3, 23, 1, 609), (53, .ldiv, 1, 0, 0, 0), (54, .lastore, 1, 0, 0, 0), (55, .iinc 2 1, 3, 0, 0, 0), (58, .goto (-56), 3, 0, 0, 0), (61, .return_, 1, 0, 0, 0)])
def xm_Sharing_offer : xiM := (("virtual", yX5_offer, cX5_offer), (7, none, 4), (1, 22, 0, 0), [(0, .aload_n 0, 1, 0, 0, 0), (1, .iconst 0, 1, 0, 0, 0), (2, .iload_n 1, 1, 0, 0, 0), (3, .invokevirtual 62, 3, 57, 5, 614), (6, .aload_n 0, 1, 0, 0, 0), (7, .iconst 1, 1, 0, 0, 0), (8, .iload_n 2, 1, 0, 0, 0), (9, .invokevirtual 62, 3, 57, 5, 614), (12, .ladd, 1, 0, 0, 0), (13, .aload_n 0, 1, 0, 0, 0), (14, .iconst 2, 1, 0, 0, 0), (15, .iload_n 3, 1, 0, 0, 0), (16, .invokevirtual 62, 3, 57, 5, 614), (19, .ladd, 1, 0, 0, 0), (20, .aload_n 0, 1, 0, 0, 0), (21, .iconst 3, 1, 0, 0, 0), (22, .iload 4, 2, 0, 0, 0), (24, .invokevirtual 62, 3, 57, 5, 614), (27, .ladd, 1, 0, 0, 0), (28, .lstore 5, 2, 0, 0, 0), (30, .lload 5, 2, 0, 0, 0), (32, .aload_n 0, 1, 0, 0, 0), (33, .getfield 33, 3, 5, 1, 230), (36, .lcmp, 1, 0, 0, 0), (37, .ifCond .ge 38, 3, 0, 0, 0), (40, .aload_n 0, 1, 0, 0, 0), (41, .lload 5, 2, 0, 0, 0), (43, .putfield 33, 3, 5, 1, 230), (46, .aload_n 0, 1, 0, 0, 0), (47, .getfield 9, 3, 5, 0, 228), (50, .iconst 0, 1, 0, 0, 0), (51, .iload_n 1, 1, 0, 0, 0), (52, .iastore, 1, 0, 0, 0), (53, .aload_n 0, 1, 0, 0, 0), (54, .getfield 9, 3, 5, 0, 228), (57, .iconst 1, 1, 0, 0, 0), (58, .iload_n 2, 1, 0, 0, 0), (59, .iastore, 1, 0, 0, 0), (60, .aload_n 0, 1, 0, 0, 0), (61, .getfield 9, 3, 5, 0, 228), (64, .iconst 2, 1, 0, 0, 0), (65, .iload_n 3, 1, 0, 0, 0), (66, .iastore, 1, 0, 0, 0), (67, .aload_n 0, 1, 0, 0, 0), (68, .getfield 9, 3, 5, 0, 228), (71, .iconst 3, 1, 0, 0, 0), (72, .iload 4, 2, 0, 0, 0), (74, .iastore, 1, 0, 0, 0), (75, .return_, 1, 0, 0, 0)])
def xm_Sharing_cost : xiM := (("virtual", yX5_cost, cX5_cost), (3, some .long, 2), (0, 0, 0, 0), [(0, .iload_n 2, 1, 0, 0, 0), (1, .iconst 1, 1, 0, 0, 0), (2, .if_icmp .ge 7, 3, 0, 0, 0), (5, .lconst 0, 1, 0, 0, 0), (6, .goto 16, 3, 0, 0, 0), (9, .aload_n 0, 1, 0, 0, 0), (10, .getfield 21, 3, 5, 4, 234), (13, .iload_n 1, 1, 0, 0, 0), (14, .laload, 1, 0, 0, 0), (15, .ldc2_w 57, 3, 2520, 0, 608), (18, .iload_n 2, 1, 0, 0, 0), (19, .i2l, 1, 0, 0, 0), (20, .ldiv, 1, 0, 0, 0), (21, .lmul, 1, 0, 0, 0), (22, .lreturn, 1, 0, 0, 0)])
def xm_Slots_init : xiM := (("init", yX6_init, cX6_init), (1, none, 0), (1, 23, 3, 496), [(0, .aload_n 0, 1, 0, 0, 0), (1, .invokespecial 3, 3, 0, 1, 92), (4, .aload_n 0, 1, 0, 0, 0), (5, .sipush 480, 3, 0, 0, 0), (8, .newarray .long, 2, 0, 0, 0), (10, .putfield 9, 3, 6, 0, 96), (13, .aload_n 0, 1, 0, 0, 0), (14, .bipush 8, 2, 0, 0, 0), (16, .newarray .int, 2, 0, 0, 0), (18, .putfield 15, 3, 6, 1, 97), (21, .aload_n 0, 1, 0, 0, 0), (22, .bipush 8, 2, 0, 0, 0), (24, .newarray .int, 2, 0, 0, 0), (26, .putfield 19, 3, 6, 2, 98), (29, .aload_n 0, 1, 0, 0, 0), (30, .getfield 19, 3, 6, 2, 98), (33, .iconst (-1), 1, 0, 0, 0), (34, .invokestatic 22, 3, 7, 0, 93), (37, .return_, 1, 0, 0, 0)])
def xm_Slots_isLaid : xiM := (("virtual", yX6_isLaid, cX6_isLaid), (2, some .boolean, 1), (0, 0, 0, 0), [(0, .aload_n 0, 1, 0, 0, 0), (1, .getfield 19, 3, 6, 2, 98), (4, .iload_n 1, 1, 0, 0, 0), (5, .iaload, 1, 0, 0, 0), (6, .iconst (-1), 1, 0, 0, 0), (7, .if_icmp .eq 7, 3, 0, 0, 0), (10, .iconst 1, 1, 0, 0, 0), (11, .goto 4, 3, 0, 0, 0), (14, .iconst 0, 1, 0, 0, 0), (15, .ireturn, 1, 0, 0, 0)])
def xm_Slots_laid : xiM := (("virtual", yX6_laid, cX6_laid), (3, some .int, 0), (1, 21, 0, 0), [(0, .iconst 0, 1, 0, 0, 0), (1, .istore_n 1, 1, 0, 0, 0), (2, .iconst 0, 1, 0, 0, 0), (3, .istore_n 2, 1, 0, 0, 0), (4, .iload_n 2, 1, 0, 0, 0), (5, .bipush 8, 2, 0, 0, 0), (7, .if_icmp .ge 20, 3, 0, 0, 0), (10, .aload_n 0, 1, 0, 0, 0), (11, .iload_n 2, 1, 0, 0, 0), (12, .invokevirtual 28, 3, 59, 6, 676), (15, .ifCond .eq 6, 3, 0, 0, 0), (18, .iinc 1 1, 3, 0, 0, 0), (21, .iinc 2 1, 3, 0, 0, 0), (24, .goto (-20), 3, 0, 0, 0), (27, .iload_n 1, 1, 0, 0, 0), (28, .ireturn, 1, 0, 0, 0)])
def xm_Slots_lay : xiM := (("virtual", yX6_lay, cX6_lay), (5, none, 3), (0, 0, 0, 0), [(0, .aload_n 0, 1, 0, 0, 0), (1, .getfield 15, 3, 6, 1, 97), (4, .iload_n 1, 1, 0, 0, 0), (5, .iload_n 2, 1, 0, 0, 0), (6, .iastore, 1, 0, 0, 0), (7, .aload_n 0, 1, 0, 0, 0), (8, .getfield 19, 3, 6, 2, 98), (11, .iload_n 1, 1, 0, 0, 0), (12, .iload_n 3, 1, 0, 0, 0), (13, .iastore, 1, 0, 0, 0), (14, .iconst 0, 1, 0, 0, 0), (15, .istore 4, 2, 0, 0, 0), (17, .iload 4, 2, 0, 0, 0), (19, .iload_n 3, 1, 0, 0, 0), (20, .if_icmp .ge 22, 3, 0, 0, 0), (23, .aload_n 0, 1, 0, 0, 0), (24, .getfield 9, 3, 6, 0, 96), (27, .iload_n 1, 1, 0, 0, 0), (28, .bipush 60, 2, 0, 0, 0), (30, .imul, 1, 0, 0, 0), (31, .iload 4, 2, 0, 0, 0), (33, .iadd, 1, 0, 0, 0), (34, .lconst 0, 1, 0, 0, 0), (35, .lastore, 1, 0, 0, 0), (36, .iinc 4 1, 3, 0, 0, 0), (39, .goto (-22), 3, 0, 0, 0), (42, .return_, 1, 0, 0, 0)])
def xm_Slots_at : xiM := (("virtual", yX6_at, cX6_at), (3, some .long, 2), (0, 0, 0, 0), [(0, .aload_n 0, 1, 0, 0, 0), (1, .getfield 9, 3, 6, 0, 96), (4, .iload_n 1, 1, 0, 0, 0), (5, .bipush 60, 2, 0, 0, 0), (7, .imul, 1, 0, 0, 0), (8, .iload_n 2, 1, 0, 0, 0), (9, .iadd, 1, 0, 0, 0), (10, .laload, 1, 0, 0, 0), (11, .lreturn, 1, 0, 0, 0)])
def xm_Slots_put : xiM := (("virtual", yX6_put, cX6_put), (5, none, 3), (1, 22, 0, 0), [(0, .aload_n 0, 1, 0, 0, 0), (1, .getfield 9, 3, 6, 0, 96), (4, .iload_n 1, 1, 0, 0, 0), (5, .bipush 60, 2, 0, 0, 0), (7, .imul, 1, 0, 0, 0), (8, .iload_n 2, 1, 0, 0, 0), (9, .iadd, 1, 0, 0, 0), (10, .aload_n 0, 1, 0, 0, 0), (11, .getfield 15, 3, 6, 1, 97), (14, .iload_n 1, 1, 0, 0, 0), (15, .iaload, 1, 0, 0, 0), (16, .lload_n 3, 1, 0, 0, 0), (17, .invokestatic 32, 3, 64, 0, 316), (20, .lastore, 1, 0, 0, 0), (21, .return_, 1, 0, 0, 0)])
def xm_Slots_cutTo : xiM := (("static", yX6_cutTo, cX6_cutTo), (3, some .long, 2), (0, 0, 0, 0), [(0, .iload_n 0, 1, 0, 0, 0), (1, .tableswitch 41 0 2 #[27, 32, 37], 27, 0, 0, 0), (28, .lload_n 1, 1, 0, 0, 0), (29, .l2i, 1, 0, 0, 0), (30, .i2b, 1, 0, 0, 0), (31, .i2l, 1, 0, 0, 0), (32, .lreturn, 1, 0, 0, 0), (33, .lload_n 1, 1, 0, 0, 0), (34, .l2i, 1, 0, 0, 0), (35, .i2s, 1, 0, 0, 0), (36, .i2l, 1, 0, 0, 0), (37, .lreturn, 1, 0, 0, 0), (38, .lload_n 1, 1, 0, 0, 0), (39, .l2i, 1, 0, 0, 0), (40, .i2l, 1, 0, 0, 0), (41, .lreturn, 1, 0, 0, 0), (42, .lload_n 1, 1, 0, 0, 0), (43, .lreturn, 1, 0, 0, 0)])
def xm_Slots_tellsCrowd : xiM := (("virtual", yX6_tellsCrowd, cX6_tellsCrowd), (7, some .int, 1), (1, 22, 0, 0), [(0, .aload_n 0, 1, 0, 0, 0), (1, .getfield 19, 3, 6, 2, 98), (4, .iload_n 1, 1, 0, 0, 0), (5, .iaload, 1, 0, 0, 0), (6, .iconst 1, 1, 0, 0, 0), (7, .if_icmp .ge 6, 3, 0, 0, 0), (10, .bipush (-6), 2, 0, 0, 0), (12, .ireturn, 1, 0, 0, 0), (13, .aload_n 0, 1, 0, 0, 0), (14, .iload_n 1, 1, 0, 0, 0), (15, .iconst 0, 1, 0, 0, 0), (16, .invokevirtual 36, 3, 62, 6, 327), (19, .lstore_n 2, 1, 0, 0, 0), (20, .lload_n 2, 1, 0, 0, 0), (21, .lconst 1, 1, 0, 0, 0), (22, .lcmp, 1, 0, 0, 0), (23, .ifCond .lt 11, 3, 0, 0, 0), (26, .lload_n 2, 1, 0, 0, 0), (27, .ldc2_w 40, 3, 10, 0, 331), (30, .lcmp, 1, 0, 0, 0), (31, .ifCond .le 6, 3, 0, 0, 0), (34, .bipush (-4), 2, 0, 0, 0), (36, .ireturn, 1, 0, 0, 0), (37, .iconst 0, 1, 0, 0, 0), (38, .istore 4, 2, 0, 0, 0), (40, .iload 4, 2, 0, 0, 0), (42, .i2l, 1, 0, 0, 0), (43, .lload_n 2, 1, 0, 0, 0), (44, .ldc2_w 42, 3, 4, 0, 332), (47, .lmul, 1, 0, 0, 0), (48, .lcmp, 1, 0, 0, 0), (49, .ifCond .ge 69, 3, 0, 0, 0), (52, .iload 4, 2, 0, 0, 0), (54, .iconst 1, 1, 0, 0, 0), (55, .iadd, 1, 0, 0, 0), (56, .aload_n 0, 1, 0, 0, 0), (57, .getfield 19, 3, 6, 2, 98), (60, .iload_n 1, 1, 0, 0, 0), (61, .iaload, 1, 0, 0, 0), (62, .if_icmp .lt 6, 3, 0, 0, 0), (65, .bipush (-6), 2, 0, 0, 0), (67, .ireturn, 1, 0, 0, 0), (68, .aload_n 0, 1, 0, 0, 0), (69, .iload_n 1, 1, 0, 0, 0), (70, .iload 4, 2, 0, 0, 0), (72, .iconst 1, 1, 0, 0, 0), (73, .iadd, 1, 0, 0, 0), (74, .invokevirtual 36, 3, 62, 6, 327), (77, .lstore 5, 2, 0, 0, 0), (79, .lload 5, 2, 0, 0, 0), (81, .getstatic 44, 3, 1, 0, 333), (84, .iload 4, 2, 0, 0, 0), (86, .iconst 4, 1, 0, 0, 0), (87, .irem, 1, 0, 0, 0), (88, .iaload, 1, 0, 0, 0), (89, .i2l, 1, 0, 0, 0), (90, .lcmp, 1, 0, 0, 0), (91, .ifCond .lt 18, 3, 0, 0, 0), (94, .lload 5, 2, 0, 0, 0), (96, .getstatic 47, 3, 2, 0, 334), (99, .iload 4, 2, 0, 0, 0), (101, .iconst 4, 1, 0, 0, 0), (102, .irem, 1, 0, 0, 0), (103, .iaload, 1, 0, 0, 0), (104, .i2l, 1, 0, 0, 0), (105, .lcmp, 1, 0, 0, 0), (106, .ifCond .le 6, 3, 0, 0, 0), (109, .bipush (-4), 2, 0, 0, 0), (111, .ireturn, 1, 0, 0, 0), (112, .iinc 4 1, 3, 0, 0, 0), (115, .goto (-75), 3, 0, 0, 0), (118, .iconst 0, 1, 0, 0, 0), (119, .ireturn, 1, 0, 0, 0)])
def xm_Slots_fact : xiM := (("virtual", yX6_fact, cX6_fact), (4, some .int, 3), (1, 22, 0, 0), [(0, .aload_n 0, 1, 0, 0, 0), (1, .iload_n 1, 1, 0, 0, 0), (2, .iconst 1, 1, 0, 0, 0), (3, .iload_n 2, 1, 0, 0, 0), (4, .iconst 4, 1, 0, 0, 0), (5, .imul, 1, 0, 0, 0), (6, .iadd, 1, 0, 0, 0), (7, .iload_n 3, 1, 0, 0, 0), (8, .iadd, 1, 0, 0, 0), (9, .invokevirtual 36, 3, 62, 6, 327), (12, .l2i, 1, 0, 0, 0), (13, .ireturn, 1, 0, 0, 0)])
def xm_Tally_init : xiM := (("init", yX7_init, cX7_init), (1, none, 0), (2, 40, 4, 42), [(0, .aload_n 0, 1, 0, 0, 0), (1, .invokespecial 1, 3, 0, 1, 212), (4, .aload_n 0, 1, 0, 0, 0), (5, .new 7, 3, 0, 0, 213), (8, .dup, 1, 0, 0, 0), (9, .invokespecial 9, 3, 8, 2, 3), (12, .putfield 10, 3, 7, 0, 214), (15, .aload_n 0, 1, 0, 0, 0), (16, .new 7, 3, 0, 0, 213), (19, .dup, 1, 0, 0, 0), (20, .invokespecial 9, 3, 8, 2, 3), (23, .putfield 16, 3, 7, 1, 216), (26, .return_, 1, 0, 0, 0)])
def xm_Tally_clear : xiM := (("virtual", yX7_clear, cX7_clear), (1, none, 0), (2, 50, 0, 0), [(0, .aload_n 0, 1, 0, 0, 0), (1, .getfield 10, 3, 7, 0, 214), (4, .lconst 0, 1, 0, 0, 0), (5, .invokevirtual 19, 3, 9, 0, 538), (8, .aload_n 0, 1, 0, 0, 0), (9, .getfield 16, 3, 7, 1, 216), (12, .lconst 1, 1, 0, 0, 0), (13, .invokevirtual 19, 3, 9, 0, 538), (16, .return_, 1, 0, 0, 0)])
def xm_Tally_add : xiM := (("virtual", yX7_add, cX7_add), (5, none, 2), (2, 61, 0, 0), [(0, .aload_n 0, 1, 0, 0, 0), (1, .getfield 10, 3, 7, 0, 214), (4, .lload_n 3, 1, 0, 0, 0), (5, .invokevirtual 23, 3, 10, 0, 543), (8, .aload_n 0, 1, 0, 0, 0), (9, .getfield 10, 3, 7, 0, 214), (12, .aload_n 0, 1, 0, 0, 0), (13, .getfield 16, 3, 7, 1, 216), (16, .lload_n 1, 1, 0, 0, 0), (17, .invokevirtual 26, 3, 11, 0, 544), (20, .aload_n 0, 1, 0, 0, 0), (21, .getfield 16, 3, 7, 1, 216), (24, .lload_n 3, 1, 0, 0, 0), (25, .invokevirtual 23, 3, 10, 0, 543), (28, .return_, 1, 0, 0, 0)])
def xm_D_init : xiM := (("init", yX8_init, cX8_init), (1, none, 0), (3, 60, 36, 2084), [(0, .aload_n 0, 1, 0, 0, 0), (1, .invokespecial 1, 3, 0, 1, 84), (4, .aload_n 0, 1, 0, 0, 0), (5, .new 7, 3, 6, 0, 87), (8, .dup, 1, 0, 0, 0), (9, .invokespecial 9, 3, 58, 0, 89), (12, .putfield 10, 3, 8, 0, 267), (15, .aload_n 0, 1, 0, 0, 0), (16, .new 16, 3, 1, 0, 109), (19, .dup, 1, 0, 0, 0), (20, .invokespecial 18, 3, 16, 0, 111), (23, .putfield 19, 3, 8, 1, 268), (26, .aload_n 0, 1, 0, 0, 0), (27, .new 23, 3, 4, 0, 142), (30, .dup, 1, 0, 0, 0), (31, .invokespecial 25, 3, 37, 2, 0), (34, .putfield 26, 3, 8, 2, 269), (37, .aload_n 0, 1, 0, 0, 0), (38, .new 30, 3, 3, 0, 175), (41, .dup, 1, 0, 0, 0), (42, .invokespecial 32, 3, 32, 0, 177), (45, .putfield 33, 3, 8, 3, 270), (48, .aload_n 0, 1, 0, 0, 0), (49, .new 37, 3, 7, 0, 208), (52, .dup, 1, 0, 0, 0), (53, .invokespecial 39, 3, 67, 2, 2), (56, .putfield 40, 3, 8, 4, 271), (59, .aload_n 0, 1, 0, 0, 0), (60, .new 44, 3, 5, 0, 223), (63, .dup, 1, 0, 0, 0), (64, .invokespecial 46, 3, 53, 2, 4), (67, .putfield 47, 3, 8, 5, 272), (70, .aload_n 0, 1, 0, 0, 0), (71, .new 51, 3, 2, 0, 246), (74, .dup, 1, 0, 0, 0), (75, .invokespecial 53, 3, 24, 2, 5), (78, .putfield 54, 3, 8, 6, 273), (81, .return_, 1, 0, 0, 0)])
def xm_D_row : xiM := (("virtual", yX8_row, cX8_row), (4, some .int, 3), (1, 24, 0, 0), [(0, .iload_n 1, 1, 0, 0, 0), (1, .invokestatic 58, 3, 94, 0, 293), (4, .ifCond .eq 18, 3, 0, 0, 0), (7, .iload_n 2, 1, 0, 0, 0), (8, .ifCond .lt 14, 3, 0, 0, 0), (11, .iload_n 2, 1, 0, 0, 0), (12, .iconst 4, 1, 0, 0, 0), (13, .if_icmp .ge 9, 3, 0, 0, 0), (16, .iload_n 3, 1, 0, 0, 0), (17, .bipush 60, 2, 0, 0, 0), (19, .if_icmp .le 6, 3, 0, 0, 0), (22, .bipush (-2), 2, 0, 0, 0), (24, .ireturn, 1, 0, 0, 0), (25, .iload_n 3, 1, 0, 0, 0), (26, .ifCond .ge 6, 3, 0, 0, 0), (29, .bipush (-3), 2, 0, 0, 0), (31, .ireturn, 1, 0, 0, 0), (32, .aload_n 0, 1, 0, 0, 0), (33, .getfield 10, 3, 8, 0, 267), (36, .iload_n 1, 1, 0, 0, 0), (37, .iload_n 2, 1, 0, 0, 0), (38, .iload_n 3, 1, 0, 0, 0), (39, .invokevirtual 62, 3, 61, 6, 296), (42, .iconst 0, 1, 0, 0, 0), (43, .ireturn, 1, 0, 0, 0)])
def xm_D_tear : xiM := (("virtual", yX8_tear, cX8_tear), (2, some .boolean, 1), (1, 21, 0, 0), [(0, .iload_n 1, 1, 0, 0, 0), (1, .invokestatic 58, 3, 94, 0, 293), (4, .ifCond .eq 14, 3, 0, 0, 0), (7, .aload_n 0, 1, 0, 0, 0), (8, .getfield 10, 3, 8, 0, 267), (11, .iload_n 1, 1, 0, 0, 0), (12, .invokevirtual 66, 3, 59, 6, 304), (15, .ifCond .ne 5, 3, 0, 0, 0), (18, .iconst 0, 1, 0, 0, 0), (19, .ireturn, 1, 0, 0, 0), (20, .aload_n 0, 1, 0, 0, 0), (21, .getfield 10, 3, 8, 0, 267), (24, .getfield 69, 3, 6, 2, 99), (27, .iload_n 1, 1, 0, 0, 0), (28, .iconst (-1), 1, 0, 0, 0), (29, .iastore, 1, 0, 0, 0), (30, .iconst 1, 1, 0, 0, 0), (31, .ireturn, 1, 0, 0, 0)])
def xm_D_write : xiM := (("virtual", yX8_write, cX8_write), (5, some .int, 3), (2, 46, 0, 0), [(0, .iload_n 1, 1, 0, 0, 0), (1, .invokestatic 58, 3, 94, 0, 293), (4, .ifCond .ne 6, 3, 0, 0, 0), (7, .bipush (-2), 2, 0, 0, 0), (9, .ireturn, 1, 0, 0, 0), (10, .aload_n 0, 1, 0, 0, 0), (11, .getfield 10, 3, 8, 0, 267), (14, .iload_n 1, 1, 0, 0, 0), (15, .invokevirtual 66, 3, 59, 6, 304), (18, .ifCond .ne 6, 3, 0, 0, 0), (21, .bipush (-5), 2, 0, 0, 0), (23, .ireturn, 1, 0, 0, 0), (24, .iload_n 2, 1, 0, 0, 0), (25, .ifCond .lt 16, 3, 0, 0, 0), (28, .iload_n 2, 1, 0, 0, 0), (29, .aload_n 0, 1, 0, 0, 0), (30, .getfield 10, 3, 8, 0, 267), (33, .getfield 69, 3, 6, 2, 99), (36, .iload_n 1, 1, 0, 0, 0), (37, .iaload, 1, 0, 0, 0), (38, .if_icmp .lt 6, 3, 0, 0, 0), (41, .bipush (-6), 2, 0, 0, 0), (43, .ireturn, 1, 0, 0, 0), (44, .aload_n 0, 1, 0, 0, 0), (45, .getfield 10, 3, 8, 0, 267), (48, .iload_n 1, 1, 0, 0, 0), (49, .iload_n 2, 1, 0, 0, 0), (50, .lload_n 3, 1, 0, 0, 0), (51, .invokevirtual 73, 3, 63, 6, 312), (54, .iconst 0, 1, 0, 0, 0), (55, .ireturn, 1, 0, 0, 0)])
def xm_D_crowd : xiM := (("virtual", yX8_crowd, cX8_crowd), (3, some .int, 1), (3, 68, 0, 0), [(0, .iload_n 1, 1, 0, 0, 0), (1, .invokestatic 58, 3, 94, 0, 293), (4, .ifCond .ne 6, 3, 0, 0, 0), (7, .bipush (-2), 2, 0, 0, 0), (9, .ireturn, 1, 0, 0, 0), (10, .aload_n 0, 1, 0, 0, 0), (11, .getfield 10, 3, 8, 0, 267), (14, .iload_n 1, 1, 0, 0, 0), (15, .invokevirtual 66, 3, 59, 6, 304), (18, .ifCond .ne 6, 3, 0, 0, 0), (21, .bipush (-5), 2, 0, 0, 0), (23, .ireturn, 1, 0, 0, 0), (24, .aload_n 0, 1, 0, 0, 0), (25, .getfield 10, 3, 8, 0, 267), (28, .iload_n 1, 1, 0, 0, 0), (29, .invokevirtual 77, 3, 65, 6, 323), (32, .istore_n 2, 1, 0, 0, 0), (33, .iload_n 2, 1, 0, 0, 0), (34, .ifCond .ge 5, 3, 0, 0, 0), (37, .iload_n 2, 1, 0, 0, 0), (38, .ireturn, 1, 0, 0, 0), (39, .aload_n 0, 1, 0, 0, 0), (40, .getfield 19, 3, 8, 1, 268), (43, .aload_n 0, 1, 0, 0, 0), (44, .getfield 10, 3, 8, 0, 267), (47, .iload_n 1, 1, 0, 0, 0), (48, .invokevirtual 81, 3, 17, 1, 335), (51, .aload_n 0, 1, 0, 0, 0), (52, .getfield 26, 3, 8, 2, 269), (55, .invokevirtual 85, 3, 38, 4, 345), (58, .aload_n 0, 1, 0, 0, 0), (59, .getfield 19, 3, 8, 1, 268), (62, .getfield 88, 3, 1, 0, 117), (65, .ireturn, 1, 0, 0, 0)])
def xm_D_drawn : xiM := (("virtual", yX8_drawn, cX8_drawn), (3, some .int, 2), (2, 41, 0, 0), [(0, .iload_n 1, 1, 0, 0, 0), (1, .invokestatic 92, 3, 95, 0, 358), (4, .ifCond .ne 6, 3, 0, 0, 0), (7, .bipush (-2), 2, 0, 0, 0), (9, .ireturn, 1, 0, 0, 0), (10, .iload_n 2, 1, 0, 0, 0), (11, .ifCond .lt 15, 3, 0, 0, 0), (14, .iload_n 2, 1, 0, 0, 0), (15, .aload_n 0, 1, 0, 0, 0), (16, .getfield 19, 3, 8, 1, 268), (19, .iload_n 1, 1, 0, 0, 0), (20, .invokevirtual 95, 3, 19, 1, 361), (23, .if_icmp .le 6, 3, 0, 0, 0), (26, .bipush (-4), 2, 0, 0, 0), (28, .ireturn, 1, 0, 0, 0), (29, .aload_n 0, 1, 0, 0, 0), (30, .getfield 26, 3, 8, 2, 269), (33, .getfield 98, 3, 4, 2, 152), (36, .iload_n 1, 1, 0, 0, 0), (37, .iload_n 2, 1, 0, 0, 0), (38, .iastore, 1, 0, 0, 0), (39, .aload_n 0, 1, 0, 0, 0), (40, .getfield 26, 3, 8, 2, 269), (43, .iconst 1, 1, 0, 0, 0), (44, .putfield 101, 3, 4, 3, 154), (47, .iconst 0, 1, 0, 0, 0), (48, .ireturn, 1, 0, 0, 0)])
def xm_D_draw : xiM := (("virtual", yX8_draw, cX8_draw), (3, some .int, 2), (2, 45, 0, 0), [(0, .iload_n 1, 1, 0, 0, 0), (1, .ifCond .lt 8, 3, 0, 0, 0), (4, .iload_n 1, 1, 0, 0, 0), (5, .iconst 4, 1, 0, 0, 0), (6, .if_icmp .le 6, 3, 0, 0, 0), (9, .bipush (-2), 2, 0, 0, 0), (11, .ireturn, 1, 0, 0, 0), (12, .iload_n 1, 1, 0, 0, 0), (13, .iconst 1, 1, 0, 0, 0), (14, .if_icmp .eq 8, 3, 0, 0, 0), (17, .iload_n 1, 1, 0, 0, 0), (18, .iconst 3, 1, 0, 0, 0), (19, .if_icmp .ne 14, 3, 0, 0, 0), (22, .aload_n 0, 1, 0, 0, 0), (23, .getfield 26, 3, 8, 2, 269), (26, .iload_n 1, 1, 0, 0, 0), (27, .iconst 0, 1, 0, 0, 0), (28, .invokevirtual 105, 3, 39, 4, 375), (31, .iconst 0, 1, 0, 0, 0), (32, .ireturn, 1, 0, 0, 0), (33, .iload_n 2, 1, 0, 0, 0), (34, .ifCond .lt 27, 3, 0, 0, 0), (37, .iload_n 2, 1, 0, 0, 0), (38, .aload_n 0, 1, 0, 0, 0), (39, .getfield 19, 3, 8, 1, 268), (42, .getfield 88, 3, 1, 0, 117), (45, .if_icmp .gt 16, 3, 0, 0, 0), (48, .iload_n 1, 1, 0, 0, 0), (49, .iconst 2, 1, 0, 0, 0), (50, .if_icmp .ne 14, 3, 0, 0, 0), (53, .aload_n 0, 1, 0, 0, 0), (54, .iload_n 2, 1, 0, 0, 0), (55, .invokevirtual 109, 3, 98, 8, 376), (58, .ifCond .ne 6, 3, 0, 0, 0), (61, .bipush (-4), 2, 0, 0, 0), (63, .ireturn, 1, 0, 0, 0), (64, .aload_n 0, 1, 0, 0, 0), (65, .getfield 26, 3, 8, 2, 269), (68, .iload_n 1, 1, 0, 0, 0), (69, .iload_n 2, 1, 0, 0, 0), (70, .invokevirtual 105, 3, 39, 4, 375), (73, .iconst 0, 1, 0, 0, 0), (74, .ireturn, 1, 0, 0, 0)])
def xm_D_chance : xiM := (("virtual", yX8_chance, cX8_chance), (2, some .boolean, 1), (5, 130, 0, 0), [(0, .aload_n 0, 1, 0, 0, 0), (1, .iload_n 1, 1, 0, 0, 0), (2, .iload_n 1, 1, 0, 0, 0), (3, .invokevirtual 112, 3, 78, 8, 387), (6, .ireturn, 1, 0, 0, 0)])
def xm_D_both : xiM := (("virtual", yX8_both, cX8_both), (3, some .boolean, 2), (4, 108, 0, 0), [(0, .aload_n 0, 1, 0, 0, 0), (1, .iload_n 1, 1, 0, 0, 0), (2, .invokevirtual 116, 3, 96, 8, 391), (5, .ifCond .eq 11, 3, 0, 0, 0), (8, .aload_n 0, 1, 0, 0, 0), (9, .iload_n 2, 1, 0, 0, 0), (10, .invokevirtual 116, 3, 96, 8, 391), (13, .ifCond .ne 5, 3, 0, 0, 0), (16, .iconst 0, 1, 0, 0, 0), (17, .ireturn, 1, 0, 0, 0), (18, .aload_n 0, 1, 0, 0, 0), (19, .getfield 26, 3, 8, 2, 269), (22, .aload_n 0, 1, 0, 0, 0), (23, .getfield 19, 3, 8, 1, 268), (26, .invokevirtual 119, 3, 43, 4, 394), (29, .aload_n 0, 1, 0, 0, 0), (30, .getfield 33, 3, 8, 3, 270), (33, .aload_n 0, 1, 0, 0, 0), (34, .getfield 26, 3, 8, 2, 269), (37, .iload_n 1, 1, 0, 0, 0), (38, .iload_n 2, 1, 0, 0, 0), (39, .invokevirtual 123, 3, 42, 4, 438), (42, .aload_n 0, 1, 0, 0, 0), (43, .getfield 26, 3, 8, 2, 269), (46, .getfield 127, 3, 4, 6, 159), (49, .invokevirtual 131, 3, 33, 3, 448), (52, .iconst 1, 1, 0, 0, 0), (53, .ireturn, 1, 0, 0, 0)])
def xm_D_set : xiM := (("virtual", yX8_set, cX8_set), (2, some .boolean, 1), (4, 108, 0, 0), [(0, .aload_n 0, 1, 0, 0, 0), (1, .iload_n 1, 1, 0, 0, 0), (2, .invokevirtual 134, 3, 97, 8, 503), (5, .ifCond .ne 5, 3, 0, 0, 0), (8, .iconst 0, 1, 0, 0, 0), (9, .ireturn, 1, 0, 0, 0), (10, .aload_n 0, 1, 0, 0, 0), (11, .getfield 26, 3, 8, 2, 269), (14, .aload_n 0, 1, 0, 0, 0), (15, .getfield 19, 3, 8, 1, 268), (18, .invokevirtual 119, 3, 43, 4, 394), (21, .aload_n 0, 1, 0, 0, 0), (22, .getfield 26, 3, 8, 2, 269), (25, .getfield 137, 3, 4, 0, 148), (28, .iconst 3, 1, 0, 0, 0), (29, .if_icmp .ne 11, 3, 0, 0, 0), (32, .aload_n 0, 1, 0, 0, 0), (33, .iload_n 1, 1, 0, 0, 0), (34, .invokevirtual 140, 3, 100, 8, 507), (37, .goto 26, 3, 0, 0, 0), (40, .aload_n 0, 1, 0, 0, 0), (41, .getfield 33, 3, 8, 3, 270), (44, .aload_n 0, 1, 0, 0, 0), (45, .getfield 26, 3, 8, 2, 269), (48, .getfield 144, 3, 4, 4, 156), (51, .iload_n 1, 1, 0, 0, 0), (52, .laload, 1, 0, 0, 0), (53, .aload_n 0, 1, 0, 0, 0), (54, .getfield 26, 3, 8, 2, 269), (57, .getfield 127, 3, 4, 6, 159), (60, .invokevirtual 131, 3, 33, 3, 448), (63, .iconst 1, 1, 0, 0, 0), (64, .ireturn, 1, 0, 0, 0)])
def xm_D_sets : xiM := (("virtual", yX8_sets, cX8_sets), (3, some .int, 0), (4, 94, 0, 0), [(0, .aload_n 0, 1, 0, 0, 0), (1, .getfield 26, 3, 8, 2, 269), (4, .aload_n 0, 1, 0, 0, 0), (5, .getfield 19, 3, 8, 1, 268), (8, .invokevirtual 119, 3, 43, 4, 394), (11, .iconst 0, 1, 0, 0, 0), (12, .istore_n 1, 1, 0, 0, 0), (13, .iconst 0, 1, 0, 0, 0), (14, .istore_n 2, 1, 0, 0, 0), (15, .iload_n 2, 1, 0, 0, 0), (16, .aload_n 0, 1, 0, 0, 0), (17, .getfield 19, 3, 8, 1, 268), (20, .invokevirtual 148, 3, 18, 1, 506), (23, .if_icmp .ge 26, 3, 0, 0, 0), (26, .aload_n 0, 1, 0, 0, 0), (27, .getfield 26, 3, 8, 2, 269), (30, .getfield 144, 3, 4, 4, 156), (33, .iload_n 2, 1, 0, 0, 0), (34, .laload, 1, 0, 0, 0), (35, .lconst 0, 1, 0, 0, 0), (36, .lcmp, 1, 0, 0, 0), (37, .ifCond .le 6, 3, 0, 0, 0), (40, .iinc 1 1, 3, 0, 0, 0), (43, .iinc 2 1, 3, 0, 0, 0), (46, .goto (-31), 3, 0, 0, 0), (49, .iload_n 1, 1, 0, 0, 0), (50, .ireturn, 1, 0, 0, 0)])
def xm_D_many : xiM := (("virtual", yX8_many, cX8_many), (4, none, 0), (4, 108, 0, 0), [(0, .aload_n 0, 1, 0, 0, 0), (1, .getfield 26, 3, 8, 2, 269), (4, .aload_n 0, 1, 0, 0, 0), (5, .getfield 19, 3, 8, 1, 268), (8, .invokevirtual 119, 3, 43, 4, 394), (11, .lconst 0, 1, 0, 0, 0), (12, .lstore_n 1, 1, 0, 0, 0), (13, .iconst 0, 1, 0, 0, 0), (14, .istore_n 3, 1, 0, 0, 0), (15, .iload_n 3, 1, 0, 0, 0), (16, .aload_n 0, 1, 0, 0, 0), (17, .getfield 19, 3, 8, 1, 268), (20, .getfield 88, 3, 1, 0, 117), (23, .if_icmp .ge 20, 3, 0, 0, 0), (26, .lload_n 1, 1, 0, 0, 0), (27, .aload_n 0, 1, 0, 0, 0), (28, .getfield 26, 3, 8, 2, 269), (31, .iload_n 3, 1, 0, 0, 0), (32, .invokevirtual 152, 3, 41, 4, 523), (35, .ladd, 1, 0, 0, 0), (36, .lstore_n 1, 1, 0, 0, 0), (37, .iinc 3 1, 3, 0, 0, 0), (40, .goto (-25), 3, 0, 0, 0), (43, .aload_n 0, 1, 0, 0, 0), (44, .getfield 33, 3, 8, 3, 270), (47, .lload_n 1, 1, 0, 0, 0), (48, .aload_n 0, 1, 0, 0, 0), (49, .getfield 26, 3, 8, 2, 269), (52, .getfield 127, 3, 4, 6, 159), (55, .invokevirtual 131, 3, 33, 3, 448), (58, .return_, 1, 0, 0, 0)])
def xm_D_sum : xiM := (("virtual", yX8_sum, cX8_sum), (2, some .boolean, 1), (5, 128, 0, 0), [(0, .aload_n 0, 1, 0, 0, 0), (1, .iload_n 1, 1, 0, 0, 0), (2, .invokevirtual 134, 3, 97, 8, 503), (5, .ifCond .ne 5, 3, 0, 0, 0), (8, .iconst 0, 1, 0, 0, 0), (9, .ireturn, 1, 0, 0, 0), (10, .aload_n 0, 1, 0, 0, 0), (11, .getfield 26, 3, 8, 2, 269), (14, .aload_n 0, 1, 0, 0, 0), (15, .getfield 19, 3, 8, 1, 268), (18, .invokevirtual 119, 3, 43, 4, 394), (21, .aload_n 0, 1, 0, 0, 0), (22, .iload_n 1, 1, 0, 0, 0), (23, .invokevirtual 156, 3, 101, 8, 531), (26, .iconst 1, 1, 0, 0, 0), (27, .ireturn, 1, 0, 0, 0)])
def xm_D_mean : xiM := (("virtual", yX8_mean, cX8_mean), (1, none, 0), (4, 108, 0, 0), [(0, .aload_n 0, 1, 0, 0, 0), (1, .getfield 26, 3, 8, 2, 269), (4, .aload_n 0, 1, 0, 0, 0), (5, .getfield 19, 3, 8, 1, 268), (8, .invokevirtual 119, 3, 43, 4, 394), (11, .aload_n 0, 1, 0, 0, 0), (12, .getfield 33, 3, 8, 3, 270), (15, .aload_n 0, 1, 0, 0, 0), (16, .invokevirtual 159, 3, 103, 8, 556), (19, .i2l, 1, 0, 0, 0), (20, .lconst 1, 1, 0, 0, 0), (21, .invokevirtual 131, 3, 33, 3, 448), (24, .return_, 1, 0, 0, 0)])
def xm_D_spread : xiM := (("virtual", yX8_spread, cX8_spread), (1, none, 0), (5, 133, 0, 0), [(0, .aload_n 0, 1, 0, 0, 0), (1, .getfield 26, 3, 8, 2, 269), (4, .aload_n 0, 1, 0, 0, 0), (5, .getfield 19, 3, 8, 1, 268), (8, .invokevirtual 119, 3, 43, 4, 394), (11, .aload_n 0, 1, 0, 0, 0), (12, .invokevirtual 162, 3, 104, 8, 563), (15, .return_, 1, 0, 0, 0)])
def xm_D_heap : xiM := (("virtual", yX8_heap, cX8_heap), (2, some .boolean, 1), (4, 108, 0, 0), [(0, .iload_n 1, 1, 0, 0, 0), (1, .invokestatic 92, 3, 95, 0, 358), (4, .ifCond .ne 5, 3, 0, 0, 0), (7, .iconst 0, 1, 0, 0, 0), (8, .ireturn, 1, 0, 0, 0), (9, .aload_n 0, 1, 0, 0, 0), (10, .getfield 33, 3, 8, 3, 270), (13, .aload_n 0, 1, 0, 0, 0), (14, .getfield 19, 3, 8, 1, 268), (17, .iload_n 1, 1, 0, 0, 0), (18, .invokevirtual 165, 3, 22, 1, 577), (21, .aload_n 0, 1, 0, 0, 0), (22, .getfield 19, 3, 8, 1, 268), (25, .iload_n 1, 1, 0, 0, 0), (26, .invokevirtual 168, 3, 23, 1, 582), (29, .invokevirtual 131, 3, 33, 3, 448), (32, .iconst 1, 1, 0, 0, 0), (33, .ireturn, 1, 0, 0, 0)])
def xm_D_share : xiM := (("virtual", yX8_share, cX8_share), (3, some .int, 2), (5, 116, 0, 0), [(0, .iload_n 2, 1, 0, 0, 0), (1, .invokestatic 92, 3, 95, 0, 358), (4, .ifCond .ne 6, 3, 0, 0, 0), (7, .bipush (-2), 2, 0, 0, 0), (9, .ireturn, 1, 0, 0, 0), (10, .aload_n 0, 1, 0, 0, 0), (11, .iload_n 1, 1, 0, 0, 0), (12, .invokevirtual 171, 3, 99, 8, 591), (15, .ifCond .ne 6, 3, 0, 0, 0), (18, .bipush (-4), 2, 0, 0, 0), (20, .ireturn, 1, 0, 0, 0), (21, .aload_n 0, 1, 0, 0, 0), (22, .getfield 47, 3, 8, 5, 272), (25, .aload_n 0, 1, 0, 0, 0), (26, .getfield 19, 3, 8, 1, 268), (29, .iload_n 1, 1, 0, 0, 0), (30, .invokevirtual 174, 3, 54, 5, 598), (33, .aload_n 0, 1, 0, 0, 0), (34, .getfield 47, 3, 8, 5, 272), (37, .getfield 178, 3, 5, 0, 229), (40, .iload_n 2, 1, 0, 0, 0), (41, .iaload, 1, 0, 0, 0), (42, .ireturn, 1, 0, 0, 0)])
def xm_D_least : xiM := (("virtual", yX8_least, cX8_least), (2, some .boolean, 1), (5, 116, 0, 0), [(0, .aload_n 0, 1, 0, 0, 0), (1, .iload_n 1, 1, 0, 0, 0), (2, .invokevirtual 171, 3, 99, 8, 591), (5, .ifCond .ne 5, 3, 0, 0, 0), (8, .iconst 0, 1, 0, 0, 0), (9, .ireturn, 1, 0, 0, 0), (10, .aload_n 0, 1, 0, 0, 0), (11, .getfield 47, 3, 8, 5, 272), (14, .aload_n 0, 1, 0, 0, 0), (15, .getfield 19, 3, 8, 1, 268), (18, .iload_n 1, 1, 0, 0, 0), (19, .invokevirtual 174, 3, 54, 5, 598), (22, .aload_n 0, 1, 0, 0, 0), (23, .getfield 33, 3, 8, 3, 270), (26, .aload_n 0, 1, 0, 0, 0), (27, .getfield 47, 3, 8, 5, 272), (30, .getfield 181, 3, 5, 1, 231), (33, .ldc2_w 184, 3, 6350400, 0, 621), (36, .invokevirtual 131, 3, 33, 3, 448), (39, .iconst 1, 1, 0, 0, 0), (40, .ireturn, 1, 0, 0, 0)])
def xm_D_bands : xiM := (("virtual", yX8_bands, cX8_bands), (2, some .int, 1), (3, 73, 0, 0), [(0, .iload_n 1, 1, 0, 0, 0), (1, .iconst 1, 1, 0, 0, 0), (2, .if_icmp .lt 14, 3, 0, 0, 0), (5, .iload_n 1, 1, 0, 0, 0), (6, .aload_n 0, 1, 0, 0, 0), (7, .getfield 19, 3, 8, 1, 268), (10, .getfield 88, 3, 1, 0, 117), (13, .if_icmp .le 5, 3, 0, 0, 0), (16, .iconst (-1), 1, 0, 0, 0), (17, .ireturn, 1, 0, 0, 0), (18, .aload_n 0, 1, 0, 0, 0), (19, .getfield 54, 3, 8, 6, 273), (22, .aload_n 0, 1, 0, 0, 0), (23, .getfield 19, 3, 8, 1, 268), (26, .iload_n 1, 1, 0, 0, 0), (27, .invokevirtual 186, 3, 26, 2, 626), (30, .aload_n 0, 1, 0, 0, 0), (31, .getfield 54, 3, 8, 6, 273), (34, .iload_n 1, 1, 0, 0, 0), (35, .iconst 0, 1, 0, 0, 0), (36, .invokevirtual 189, 3, 25, 2, 646), (39, .ireturn, 1, 0, 0, 0)])
def xm_D_band : xiM := (("virtual", yX8_band, cX8_band), (3, some .int, 2), (3, 73, 0, 0), [(0, .iload_n 1, 1, 0, 0, 0), (1, .iconst 1, 1, 0, 0, 0), (2, .if_icmp .lt 22, 3, 0, 0, 0), (5, .iload_n 1, 1, 0, 0, 0), (6, .aload_n 0, 1, 0, 0, 0), (7, .getfield 19, 3, 8, 1, 268), (10, .getfield 88, 3, 1, 0, 117), (13, .if_icmp .gt 11, 3, 0, 0, 0), (16, .aload_n 0, 1, 0, 0, 0), (17, .iload_n 2, 1, 0, 0, 0), (18, .invokevirtual 116, 3, 96, 8, 391), (21, .ifCond .ne 5, 3, 0, 0, 0), (24, .iconst (-1), 1, 0, 0, 0), (25, .ireturn, 1, 0, 0, 0), (26, .aload_n 0, 1, 0, 0, 0), (27, .getfield 54, 3, 8, 6, 273), (30, .aload_n 0, 1, 0, 0, 0), (31, .getfield 19, 3, 8, 1, 268), (34, .iload_n 1, 1, 0, 0, 0), (35, .invokevirtual 186, 3, 26, 2, 626), (38, .aload_n 0, 1, 0, 0, 0), (39, .getfield 54, 3, 8, 6, 273), (42, .iload_n 1, 1, 0, 0, 0), (43, .iload_n 2, 1, 0, 0, 0), (44, .invokevirtual 193, 3, 31, 2, 651), (47, .ireturn, 1, 0, 0, 0)])
def xm_D_look : xiM := (("virtual", yX8_look, cX8_look), (2, some .int, 1), (1, 21, 0, 0), [(0, .iload_n 1, 1, 0, 0, 0), (1, .tableswitch 57 0 2 #[27, 35, 46], 27, 0, 0, 0), (28, .aload_n 0, 1, 0, 0, 0), (29, .getfield 33, 3, 8, 3, 270), (32, .getfield 196, 3, 3, 0, 193), (35, .ireturn, 1, 0, 0, 0), (36, .aload_n 0, 1, 0, 0, 0), (37, .getfield 33, 3, 8, 3, 270), (40, .getfield 199, 3, 3, 1, 195), (43, .invokevirtual 203, 3, 13, 0, 659), (46, .ireturn, 1, 0, 0, 0), (47, .aload_n 0, 1, 0, 0, 0), (48, .getfield 33, 3, 8, 3, 270), (51, .getfield 207, 3, 3, 2, 197), (54, .invokevirtual 203, 3, 13, 0, 659), (57, .ireturn, 1, 0, 0, 0), (58, .iconst (-1), 1, 0, 0, 0), (59, .ireturn, 1, 0, 0, 0)])
def xm_D_part : xiM := (("virtual", yX8_part, cX8_part), (3, some .int, 2), (0, 0, 0, 0), [(0, .iload_n 2, 1, 0, 0, 0), (1, .ifCond .lt 9, 3, 0, 0, 0), (4, .iload_n 2, 1, 0, 0, 0), (5, .bipush 20, 2, 0, 0, 0), (7, .if_icmp .lt 5, 3, 0, 0, 0), (10, .iconst 0, 1, 0, 0, 0), (11, .ireturn, 1, 0, 0, 0), (12, .iload_n 1, 1, 0, 0, 0), (13, .ifCond .eq 18, 3, 0, 0, 0), (16, .aload_n 0, 1, 0, 0, 0), (17, .getfield 33, 3, 8, 3, 270), (20, .getfield 207, 3, 3, 2, 197), (23, .getfield 210, 3, 0, 0, 188), (26, .iload_n 2, 1, 0, 0, 0), (27, .laload, 1, 0, 0, 0), (28, .goto 15, 3, 0, 0, 0), (31, .aload_n 0, 1, 0, 0, 0), (32, .getfield 33, 3, 8, 3, 270), (35, .getfield 199, 3, 3, 1, 195), (38, .getfield 210, 3, 0, 0, 188), (41, .iload_n 2, 1, 0, 0, 0), (42, .laload, 1, 0, 0, 0), (43, .l2i, 1, 0, 0, 0), (44, .ireturn, 1, 0, 0, 0)])
def xm_D_count : xiM := (("virtual", yX8_count, cX8_count), (2, some .int, 1), (3, 62, 0, 0), [(0, .iload_n 1, 1, 0, 0, 0), (1, .tableswitch 84 0 3 #[31, 39, 47, 76], 31, 0, 0, 0), (32, .aload_n 0, 1, 0, 0, 0), (33, .getfield 19, 3, 8, 1, 268), (36, .getfield 88, 3, 1, 0, 117), (39, .ireturn, 1, 0, 0, 0), (40, .aload_n 0, 1, 0, 0, 0), (41, .getfield 26, 3, 8, 2, 269), (44, .getfield 137, 3, 4, 0, 148), (47, .ireturn, 1, 0, 0, 0), (48, .aload_n 0, 1, 0, 0, 0), (49, .getfield 26, 3, 8, 2, 269), (52, .getfield 137, 3, 4, 0, 148), (55, .iconst 1, 1, 0, 0, 0), (56, .if_icmp .ne 13, 3, 0, 0, 0), (59, .aload_n 0, 1, 0, 0, 0), (60, .getfield 26, 3, 8, 2, 269), (63, .invokevirtual 213, 3, 40, 4, 668), (66, .goto 10, 3, 0, 0, 0), (69, .aload_n 0, 1, 0, 0, 0), (70, .getfield 26, 3, 8, 2, 269), (73, .getfield 216, 3, 4, 1, 150), (76, .ireturn, 1, 0, 0, 0), (77, .aload_n 0, 1, 0, 0, 0), (78, .getfield 10, 3, 8, 0, 267), (81, .invokevirtual 219, 3, 60, 6, 672), (84, .ireturn, 1, 0, 0, 0), (85, .aload_n 0, 1, 0, 0, 0), (86, .iload_n 1, 1, 0, 0, 0), (87, .invokevirtual 222, 3, 93, 8, 677), (90, .ireturn, 1, 0, 0, 0)])
def xm_D_countOfHeap : xiM := (("virtual", yX8_countOfHeap, cX8_countOfHeap), (2, some .int, 1), (2, 41, 0, 0), [(0, .iload_n 1, 1, 0, 0, 0), (1, .bipush 10, 2, 0, 0, 0), (3, .if_icmp .lt 21, 3, 0, 0, 0), (6, .iload_n 1, 1, 0, 0, 0), (7, .bipush 14, 2, 0, 0, 0), (9, .if_icmp .ge 15, 3, 0, 0, 0), (12, .aload_n 0, 1, 0, 0, 0), (13, .getfield 19, 3, 8, 1, 268), (16, .iload_n 1, 1, 0, 0, 0), (17, .bipush 10, 2, 0, 0, 0), (19, .isub, 1, 0, 0, 0), (20, .invokevirtual 95, 3, 19, 1, 361), (23, .ireturn, 1, 0, 0, 0), (24, .iload_n 1, 1, 0, 0, 0), (25, .bipush 20, 2, 0, 0, 0), (27, .if_icmp .lt 22, 3, 0, 0, 0), (30, .iload_n 1, 1, 0, 0, 0), (31, .bipush 24, 2, 0, 0, 0), (33, .if_icmp .ge 16, 3, 0, 0, 0), (36, .aload_n 0, 1, 0, 0, 0), (37, .getfield 26, 3, 8, 2, 269), (40, .getfield 98, 3, 4, 2, 152), (43, .iload_n 1, 1, 0, 0, 0), (44, .bipush 20, 2, 0, 0, 0), (46, .isub, 1, 0, 0, 0), (47, .iaload, 1, 0, 0, 0), (48, .ireturn, 1, 0, 0, 0), (49, .iconst (-1), 1, 0, 0, 0), (50, .ireturn, 1, 0, 0, 0)])
def xm_D_isSlot : xiM := (("static", yX8_isSlot, cX8_isSlot), (1, some .boolean, 1), (0, 0, 0, 0), [(0, .iload_n 0, 1, 0, 0, 0), (1, .ifCond .lt 13, 3, 0, 0, 0), (4, .iload_n 0, 1, 0, 0, 0), (5, .bipush 8, 2, 0, 0, 0), (7, .if_icmp .ge 7, 3, 0, 0, 0), (10, .iconst 1, 1, 0, 0, 0), (11, .goto 4, 3, 0, 0, 0), (14, .iconst 0, 1, 0, 0, 0), (15, .ireturn, 1, 0, 0, 0)])
def xm_D_isHeap : xiM := (("static", yX8_isHeap, cX8_isHeap), (1, some .boolean, 1), (0, 0, 0, 0), [(0, .iload_n 0, 1, 0, 0, 0), (1, .ifCond .lt 12, 3, 0, 0, 0), (4, .iload_n 0, 1, 0, 0, 0), (5, .iconst 4, 1, 0, 0, 0), (6, .if_icmp .ge 7, 3, 0, 0, 0), (9, .iconst 1, 1, 0, 0, 0), (10, .goto 4, 3, 0, 0, 0), (13, .iconst 0, 1, 0, 0, 0), (14, .ireturn, 1, 0, 0, 0)])
def xm_D_isName : xiM := (("virtual", yX8_isName, cX8_isName), (2, some .boolean, 1), (0, 0, 0, 0), [(0, .iload_n 1, 1, 0, 0, 0), (1, .ifCond .lt 18, 3, 0, 0, 0), (4, .iload_n 1, 1, 0, 0, 0), (5, .aload_n 0, 1, 0, 0, 0), (6, .getfield 19, 3, 8, 1, 268), (9, .getfield 88, 3, 1, 0, 117), (12, .if_icmp .ge 7, 3, 0, 0, 0), (15, .iconst 1, 1, 0, 0, 0), (16, .goto 4, 3, 0, 0, 0), (19, .iconst 0, 1, 0, 0, 0), (20, .ireturn, 1, 0, 0, 0)])
def xm_D_isSet : xiM := (("virtual", yX8_isSet, cX8_isSet), (2, some .boolean, 1), (1, 20, 0, 0), [(0, .iload_n 1, 1, 0, 0, 0), (1, .ifCond .lt 18, 3, 0, 0, 0), (4, .iload_n 1, 1, 0, 0, 0), (5, .aload_n 0, 1, 0, 0, 0), (6, .getfield 19, 3, 8, 1, 268), (9, .invokevirtual 148, 3, 18, 1, 506), (12, .if_icmp .ge 7, 3, 0, 0, 0), (15, .iconst 1, 1, 0, 0, 0), (16, .goto 4, 3, 0, 0, 0), (19, .iconst 0, 1, 0, 0, 0), (20, .ireturn, 1, 0, 0, 0)])
def xm_D_canStep : xiM := (("virtual", yX8_canStep, cX8_canStep), (4, some .boolean, 1), (1, 22, 0, 0), [(0, .iload_n 1, 1, 0, 0, 0), (1, .iconst 1, 1, 0, 0, 0), (2, .if_icmp .ge 5, 3, 0, 0, 0), (5, .iconst 0, 1, 0, 0, 0), (6, .ireturn, 1, 0, 0, 0), (7, .aload_n 0, 1, 0, 0, 0), (8, .getfield 19, 3, 8, 1, 268), (11, .invokevirtual 225, 3, 21, 1, 379), (14, .istore_n 2, 1, 0, 0, 0), (15, .iconst 0, 1, 0, 0, 0), (16, .istore_n 3, 1, 0, 0, 0), (17, .iload_n 3, 1, 0, 0, 0), (18, .aload_n 0, 1, 0, 0, 0), (19, .getfield 19, 3, 8, 1, 268), (22, .getfield 88, 3, 1, 0, 117), (25, .if_icmp .ge 26, 3, 0, 0, 0), (28, .aload_n 0, 1, 0, 0, 0), (29, .getfield 19, 3, 8, 1, 268), (32, .getfield 228, 3, 1, 2, 125), (35, .iload_n 3, 1, 0, 0, 0), (36, .iaload, 1, 0, 0, 0), (37, .iload_n 1, 1, 0, 0, 0), (38, .imul, 1, 0, 0, 0), (39, .iload_n 2, 1, 0, 0, 0), (40, .if_icmp .le 5, 3, 0, 0, 0), (43, .iconst 0, 1, 0, 0, 0), (44, .ireturn, 1, 0, 0, 0), (45, .iinc 3 1, 3, 0, 0, 0), (48, .goto (-31), 3, 0, 0, 0), (51, .iconst 1, 1, 0, 0, 0), (52, .ireturn, 1, 0, 0, 0)])
def xm_D_canShareOut : xiM := (("virtual", yX8_canShareOut, cX8_canShareOut), (2, some .boolean, 1), (1, 22, 0, 0), [(0, .iload_n 1, 1, 0, 0, 0), (1, .aload_n 0, 1, 0, 0, 0), (2, .getfield 19, 3, 8, 1, 268), (5, .invokevirtual 231, 3, 20, 1, 594), (8, .if_icmp .lt 18, 3, 0, 0, 0), (11, .iload_n 1, 1, 0, 0, 0), (12, .aload_n 0, 1, 0, 0, 0), (13, .getfield 19, 3, 8, 1, 268), (16, .getfield 88, 3, 1, 0, 117), (19, .if_icmp .gt 7, 3, 0, 0, 0), (22, .iconst 1, 1, 0, 0, 0), (23, .goto 4, 3, 0, 0, 0), (26, .iconst 0, 1, 0, 0, 0), (27, .ireturn, 1, 0, 0, 0)])
def xm_D_tellOwnChance : xiM := (("virtual", yX8_tellOwnChance, cX8_tellOwnChance), (4, none, 1), (3, 84, 0, 0), [(0, .aload_n 0, 1, 0, 0, 0), (1, .getfield 33, 3, 8, 3, 270), (4, .getfield 199, 3, 3, 1, 195), (7, .lconst 1, 1, 0, 0, 0), (8, .invokevirtual 234, 3, 9, 0, 510), (11, .iconst 0, 1, 0, 0, 0), (12, .istore_n 2, 1, 0, 0, 0), (13, .iload_n 2, 1, 0, 0, 0), (14, .aload_n 0, 1, 0, 0, 0), (15, .getfield 19, 3, 8, 1, 268), (18, .getfield 88, 3, 1, 0, 117), (21, .if_icmp .ge 48, 3, 0, 0, 0), (24, .aload_n 0, 1, 0, 0, 0), (25, .getfield 19, 3, 8, 1, 268), (28, .getfield 238, 3, 1, 3, 128), (31, .iload_n 2, 1, 0, 0, 0), (32, .iaload, 1, 0, 0, 0), (33, .istore_n 3, 1, 0, 0, 0), (34, .aload_n 0, 1, 0, 0, 0), (35, .getfield 33, 3, 8, 3, 270), (38, .getfield 199, 3, 3, 1, 195), (41, .iload_n 1, 1, 0, 0, 0), (42, .iload_n 2, 1, 0, 0, 0), (43, .ishr, 1, 0, 0, 0), (44, .iconst 1, 1, 0, 0, 0), (45, .iand, 1, 0, 0, 0), (46, .iconst 1, 1, 0, 0, 0), (47, .if_icmp .ne 8, 3, 0, 0, 0), (50, .iload_n 3, 1, 0, 0, 0), (51, .i2l, 1, 0, 0, 0), (52, .goto 8, 3, 0, 0, 0), (55, .bipush 100, 2, 0, 0, 0), (57, .iload_n 3, 1, 0, 0, 0), (58, .isub, 1, 0, 0, 0), (59, .i2l, 1, 0, 0, 0), (60, .invokevirtual 241, 3, 10, 0, 511), (63, .iinc 2 1, 3, 0, 0, 0), (66, .goto (-53), 3, 0, 0, 0), (69, .aload_n 0, 1, 0, 0, 0), (70, .getfield 33, 3, 8, 3, 270), (73, .invokevirtual 244, 3, 34, 3, 512), (76, .iconst 0, 1, 0, 0, 0), (77, .istore_n 2, 1, 0, 0, 0), (78, .iload_n 2, 1, 0, 0, 0), (79, .aload_n 0, 1, 0, 0, 0), (80, .getfield 19, 3, 8, 1, 268), (83, .getfield 88, 3, 1, 0, 117), (86, .if_icmp .ge 19, 3, 0, 0, 0), (89, .aload_n 0, 1, 0, 0, 0), (90, .getfield 33, 3, 8, 3, 270), (93, .ldc2_w 247, 3, 100, 0, 513), (96, .invokevirtual 249, 3, 35, 3, 514), (99, .iinc 2 1, 3, 0, 0, 0), (102, .goto (-24), 3, 0, 0, 0), (105, .return_, 1, 0, 0, 0)])
def xm_D_tellSum : xiM := (("virtual", yX8_tellSum, cX8_tellSum), (3, none, 1), (4, 106, 0, 0), [(0, .aload_n 0, 1, 0, 0, 0), (1, .getfield 40, 3, 8, 4, 271), (4, .invokevirtual 252, 3, 68, 7, 534), (7, .iconst 0, 1, 0, 0, 0), (8, .istore_n 2, 1, 0, 0, 0), (9, .iload_n 2, 1, 0, 0, 0), (10, .aload_n 0, 1, 0, 0, 0), (11, .getfield 19, 3, 8, 1, 268), (14, .getfield 88, 3, 1, 0, 117), (17, .if_icmp .ge 56, 3, 0, 0, 0), (20, .iload_n 1, 1, 0, 0, 0), (21, .iload_n 2, 1, 0, 0, 0), (22, .ishr, 1, 0, 0, 0), (23, .iconst 1, 1, 0, 0, 0), (24, .iand, 1, 0, 0, 0), (25, .iconst 1, 1, 0, 0, 0), (26, .if_icmp .ne 41, 3, 0, 0, 0), (29, .aload_n 0, 1, 0, 0, 0), (30, .getfield 26, 3, 8, 2, 269), (33, .iload_n 2, 1, 0, 0, 0), (34, .invokevirtual 152, 3, 41, 4, 523), (37, .lconst 0, 1, 0, 0, 0), (38, .lcmp, 1, 0, 0, 0), (39, .ifCond .le 28, 3, 0, 0, 0), (42, .aload_n 0, 1, 0, 0, 0), (43, .getfield 40, 3, 8, 4, 271), (46, .aload_n 0, 1, 0, 0, 0), (47, .getfield 19, 3, 8, 1, 268), (50, .getfield 255, 3, 1, 1, 121), (53, .iload_n 2, 1, 0, 0, 0), (54, .iaload, 1, 0, 0, 0), (55, .i2l, 1, 0, 0, 0), (56, .aload_n 0, 1, 0, 0, 0), (57, .getfield 26, 3, 8, 2, 269), (60, .iload_n 2, 1, 0, 0, 0), (61, .invokevirtual 152, 3, 41, 4, 523), (64, .invokevirtual 258, 3, 69, 7, 539), (67, .iinc 2 1, 3, 0, 0, 0), (70, .goto (-61), 3, 0, 0, 0), (73, .aload_n 0, 1, 0, 0, 0), (74, .getfield 33, 3, 8, 3, 270), (77, .getfield 199, 3, 3, 1, 195), (80, .lconst 0, 1, 0, 0, 0), (81, .invokevirtual 234, 3, 9, 0, 510), (84, .aload_n 0, 1, 0, 0, 0), (85, .getfield 33, 3, 8, 3, 270), (88, .getfield 199, 3, 3, 1, 195), (91, .aload_n 0, 1, 0, 0, 0), (92, .getfield 40, 3, 8, 4, 271), (95, .getfield 261, 3, 7, 0, 215), (98, .aload_n 0, 1, 0, 0, 0), (99, .getfield 26, 3, 8, 2, 269), (102, .getfield 127, 3, 4, 6, 159), (105, .invokevirtual 262, 3, 11, 0, 548), (108, .aload_n 0, 1, 0, 0, 0), (109, .getfield 33, 3, 8, 3, 270), (112, .invokevirtual 244, 3, 34, 3, 512), (115, .aload_n 0, 1, 0, 0, 0), (116, .iload_n 1, 1, 0, 0, 0), (117, .invokevirtual 266, 3, 102, 8, 549), (120, .return_, 1, 0, 0, 0)])
def xm_D_divideByNames : xiM := (("virtual", yX8_divideByNames, cX8_divideByNames), (3, none, 1), (3, 84, 0, 0), [(0, .iconst 0, 1, 0, 0, 0), (1, .istore_n 2, 1, 0, 0, 0), (2, .iload_n 2, 1, 0, 0, 0), (3, .aload_n 0, 1, 0, 0, 0), (4, .getfield 19, 3, 8, 1, 268), (7, .getfield 88, 3, 1, 0, 117), (10, .if_icmp .ge 46, 3, 0, 0, 0), (13, .iload_n 1, 1, 0, 0, 0), (14, .iload_n 2, 1, 0, 0, 0), (15, .ishr, 1, 0, 0, 0), (16, .iconst 1, 1, 0, 0, 0), (17, .iand, 1, 0, 0, 0), (18, .iconst 1, 1, 0, 0, 0), (19, .if_icmp .ne 31, 3, 0, 0, 0), (22, .aload_n 0, 1, 0, 0, 0), (23, .getfield 26, 3, 8, 2, 269), (26, .iload_n 2, 1, 0, 0, 0), (27, .invokevirtual 152, 3, 41, 4, 523), (30, .lconst 0, 1, 0, 0, 0), (31, .lcmp, 1, 0, 0, 0), (32, .ifCond .le 18, 3, 0, 0, 0), (35, .aload_n 0, 1, 0, 0, 0), (36, .getfield 33, 3, 8, 3, 270), (39, .aload_n 0, 1, 0, 0, 0), (40, .getfield 26, 3, 8, 2, 269), (43, .iload_n 2, 1, 0, 0, 0), (44, .invokevirtual 152, 3, 41, 4, 523), (47, .invokevirtual 249, 3, 35, 3, 514), (50, .iinc 2 1, 3, 0, 0, 0), (53, .goto (-51), 3, 0, 0, 0), (56, .return_, 1, 0, 0, 0)])
def xm_D_worthThatMayBeDrawn : xiM := (("virtual", yX8_worthThatMayBeDrawn, cX8_worthThatMayBeDrawn), (3, some .int, 0), (1, 21, 0, 0), [(0, .iconst 0, 1, 0, 0, 0), (1, .istore_n 1, 1, 0, 0, 0), (2, .iconst 0, 1, 0, 0, 0), (3, .istore_n 2, 1, 0, 0, 0), (4, .iload_n 2, 1, 0, 0, 0), (5, .aload_n 0, 1, 0, 0, 0), (6, .getfield 19, 3, 8, 1, 268), (9, .getfield 88, 3, 1, 0, 117), (12, .if_icmp .ge 34, 3, 0, 0, 0), (15, .aload_n 0, 1, 0, 0, 0), (16, .getfield 26, 3, 8, 2, 269), (19, .iload_n 2, 1, 0, 0, 0), (20, .invokevirtual 152, 3, 41, 4, 523), (23, .lconst 0, 1, 0, 0, 0), (24, .lcmp, 1, 0, 0, 0), (25, .ifCond .le 15, 3, 0, 0, 0), (28, .iload_n 1, 1, 0, 0, 0), (29, .aload_n 0, 1, 0, 0, 0), (30, .getfield 19, 3, 8, 1, 268), (33, .getfield 255, 3, 1, 1, 121), (36, .iload_n 2, 1, 0, 0, 0), (37, .iaload, 1, 0, 0, 0), (38, .iadd, 1, 0, 0, 0), (39, .istore_n 1, 1, 0, 0, 0), (40, .iinc 2 1, 3, 0, 0, 0), (43, .goto (-39), 3, 0, 0, 0), (46, .iload_n 1, 1, 0, 0, 0), (47, .ireturn, 1, 0, 0, 0)])
def xm_D_tellSpread : xiM := (("virtual", yX8_tellSpread, cX8_tellSpread), (5, none, 0), (4, 109, 0, 0), [(0, .aload_n 0, 1, 0, 0, 0), (1, .getfield 33, 3, 8, 3, 270), (4, .getfield 199, 3, 3, 1, 195), (7, .astore_n 1, 1, 0, 0, 0), (8, .aload_n 1, 1, 0, 0, 0), (9, .lconst 0, 1, 0, 0, 0), (10, .invokevirtual 234, 3, 9, 0, 510), (13, .iconst 0, 1, 0, 0, 0), (14, .istore_n 2, 1, 0, 0, 0), (15, .iload_n 2, 1, 0, 0, 0), (16, .aload_n 0, 1, 0, 0, 0), (17, .getfield 19, 3, 8, 1, 268), (20, .getfield 88, 3, 1, 0, 117), (23, .if_icmp .ge 80, 3, 0, 0, 0), (26, .aload_n 0, 1, 0, 0, 0), (27, .getfield 26, 3, 8, 2, 269), (30, .iload_n 2, 1, 0, 0, 0), (31, .invokevirtual 152, 3, 41, 4, 523), (34, .lconst 0, 1, 0, 0, 0), (35, .lcmp, 1, 0, 0, 0), (36, .ifCond .le 61, 3, 0, 0, 0), (39, .aload_n 0, 1, 0, 0, 0), (40, .iload_n 2, 1, 0, 0, 0), (41, .invokevirtual 269, 3, 105, 8, 566), (44, .aload_n 0, 1, 0, 0, 0), (45, .getfield 19, 3, 8, 1, 268), (48, .getfield 255, 3, 1, 1, 121), (51, .iload_n 2, 1, 0, 0, 0), (52, .iaload, 1, 0, 0, 0), (53, .i2l, 1, 0, 0, 0), (54, .lstore_n 3, 1, 0, 0, 0), (55, .aload_n 1, 1, 0, 0, 0), (56, .aload_n 0, 1, 0, 0, 0), (57, .getfield 26, 3, 8, 2, 269), (60, .iload_n 2, 1, 0, 0, 0), (61, .invokevirtual 152, 3, 41, 4, 523), (64, .invokevirtual 241, 3, 10, 0, 511), (67, .aload_n 1, 1, 0, 0, 0), (68, .aload_n 0, 1, 0, 0, 0), (69, .getfield 40, 3, 8, 4, 271), (72, .getfield 272, 3, 7, 1, 217), (75, .lload_n 3, 1, 0, 0, 0), (76, .lload_n 3, 1, 0, 0, 0), (77, .lmul, 1, 0, 0, 0), (78, .invokevirtual 262, 3, 11, 0, 548), (81, .aload_n 1, 1, 0, 0, 0), (82, .aload_n 0, 1, 0, 0, 0), (83, .getfield 40, 3, 8, 4, 271), (86, .getfield 261, 3, 7, 0, 215), (89, .ldc2_w 273, 3, 2, 0, 569), (92, .lload_n 3, 1, 0, 0, 0), (93, .lmul, 1, 0, 0, 0), (94, .invokevirtual 262, 3, 11, 0, 548), (97, .iinc 2 1, 3, 0, 0, 0), (100, .goto (-85), 3, 0, 0, 0), (103, .aload_n 1, 1, 0, 0, 0), (104, .aload_n 0, 1, 0, 0, 0), (105, .getfield 26, 3, 8, 2, 269), (108, .getfield 127, 3, 4, 6, 159), (111, .invokevirtual 241, 3, 10, 0, 511), (114, .aload_n 0, 1, 0, 0, 0), (115, .invokevirtual 275, 3, 106, 8, 570), (118, .aload_n 1, 1, 0, 0, 0), (119, .aload_n 0, 1, 0, 0, 0), (120, .getfield 40, 3, 8, 4, 271), (123, .getfield 261, 3, 7, 0, 215), (126, .aload_n 0, 1, 0, 0, 0), (127, .invokevirtual 159, 3, 103, 8, 556), (130, .ineg, 1, 0, 0, 0), (131, .i2l, 1, 0, 0, 0), (132, .invokevirtual 262, 3, 11, 0, 548), (135, .aload_n 0, 1, 0, 0, 0), (136, .getfield 33, 3, 8, 3, 270), (139, .invokevirtual 244, 3, 34, 3, 512), (142, .aload_n 0, 1, 0, 0, 0), (143, .aload_n 0, 1, 0, 0, 0), (144, .getfield 19, 3, 8, 1, 268), (147, .invokevirtual 148, 3, 18, 1, 506), (150, .iconst 1, 1, 0, 0, 0), (151, .isub, 1, 0, 0, 0), (152, .invokevirtual 266, 3, 102, 8, 549), (155, .return_, 1, 0, 0, 0)])
def xm_D_tallyPairsBefore : xiM := (("virtual", yX8_tallyPairsBefore, cX8_tallyPairsBefore), (5, none, 1), (3, 85, 0, 0), [(0, .aload_n 0, 1, 0, 0, 0), (1, .getfield 40, 3, 8, 4, 271), (4, .invokevirtual 252, 3, 68, 7, 534), (7, .iconst 0, 1, 0, 0, 0), (8, .istore_n 2, 1, 0, 0, 0), (9, .iload_n 2, 1, 0, 0, 0), (10, .iload_n 1, 1, 0, 0, 0), (11, .if_icmp .ge 52, 3, 0, 0, 0), (14, .aload_n 0, 1, 0, 0, 0), (15, .getfield 26, 3, 8, 2, 269), (18, .iload_n 2, 1, 0, 0, 0), (19, .invokevirtual 152, 3, 41, 4, 523), (22, .lstore_n 3, 1, 0, 0, 0), (23, .lload_n 3, 1, 0, 0, 0), (24, .lconst 0, 1, 0, 0, 0), (25, .lcmp, 1, 0, 0, 0), (26, .ifCond .le 31, 3, 0, 0, 0), (29, .aload_n 0, 1, 0, 0, 0), (30, .getfield 40, 3, 8, 4, 271), (33, .aload_n 0, 1, 0, 0, 0), (34, .getfield 19, 3, 8, 1, 268), (37, .getfield 255, 3, 1, 1, 121), (40, .iload_n 2, 1, 0, 0, 0), (41, .iaload, 1, 0, 0, 0), (42, .i2l, 1, 0, 0, 0), (43, .aload_n 0, 1, 0, 0, 0), (44, .getfield 26, 3, 8, 2, 269), (47, .iload_n 1, 1, 0, 0, 0), (48, .iload_n 2, 1, 0, 0, 0), (49, .invokevirtual 123, 3, 42, 4, 438), (52, .lmul, 1, 0, 0, 0), (53, .lload_n 3, 1, 0, 0, 0), (54, .invokevirtual 258, 3, 69, 7, 539), (57, .iinc 2 1, 3, 0, 0, 0), (60, .goto (-51), 3, 0, 0, 0), (63, .return_, 1, 0, 0, 0)])
def xm_D_tallyMean : xiM := (("virtual", yX8_tallyMean, cX8_tallyMean), (4, none, 0), (3, 85, 0, 0), [(0, .aload_n 0, 1, 0, 0, 0), (1, .getfield 40, 3, 8, 4, 271), (4, .invokevirtual 252, 3, 68, 7, 534), (7, .iconst 0, 1, 0, 0, 0), (8, .istore_n 1, 1, 0, 0, 0), (9, .iload_n 1, 1, 0, 0, 0), (10, .aload_n 0, 1, 0, 0, 0), (11, .getfield 19, 3, 8, 1, 268), (14, .getfield 88, 3, 1, 0, 117), (17, .if_icmp .ge 44, 3, 0, 0, 0), (20, .aload_n 0, 1, 0, 0, 0), (21, .getfield 26, 3, 8, 2, 269), (24, .iload_n 1, 1, 0, 0, 0), (25, .invokevirtual 152, 3, 41, 4, 523), (28, .lstore_n 2, 1, 0, 0, 0), (29, .lload_n 2, 1, 0, 0, 0), (30, .lconst 0, 1, 0, 0, 0), (31, .lcmp, 1, 0, 0, 0), (32, .ifCond .le 23, 3, 0, 0, 0), (35, .aload_n 0, 1, 0, 0, 0), (36, .getfield 40, 3, 8, 4, 271), (39, .aload_n 0, 1, 0, 0, 0), (40, .getfield 19, 3, 8, 1, 268), (43, .getfield 255, 3, 1, 1, 121), (46, .iload_n 1, 1, 0, 0, 0), (47, .iaload, 1, 0, 0, 0), (48, .i2l, 1, 0, 0, 0), (49, .lload_n 2, 1, 0, 0, 0), (50, .lmul, 1, 0, 0, 0), (51, .lload_n 2, 1, 0, 0, 0), (52, .invokevirtual 258, 3, 69, 7, 539), (55, .iinc 1 1, 3, 0, 0, 0), (58, .goto (-49), 3, 0, 0, 0), (61, .return_, 1, 0, 0, 0)])
def xm_M_init : xiM := (("init", yX9_init, cX9_init), (1, none, 0), (3, 73, 15, 47675), [(0, .aload_n 0, 1, 0, 0, 0), (1, .invokespecial 3, 3, 0, 1, 685), (4, .aload_n 0, 1, 0, 0, 0), (5, .ldc 9, 2, 46948, 0, 686), (7, .newarray .long, 2, 0, 0, 0), (9, .putfield 10, 3, 9, 0, 696), (12, .aload_n 0, 1, 0, 0, 0), (13, .bipush 8, 2, 0, 0, 0), (15, .newarray .int, 2, 0, 0, 0), (17, .putfield 14, 3, 9, 2, 698), (20, .aload_n 0, 1, 0, 0, 0), (21, .bipush 8, 2, 0, 0, 0), (23, .newarray .int, 2, 0, 0, 0), (25, .putfield 18, 3, 9, 3, 699), (28, .aload_n 0, 1, 0, 0, 0), (29, .sipush 480, 3, 0, 0, 0), (32, .newarray .long, 2, 0, 0, 0), (34, .putfield 21, 3, 9, 4, 700), (37, .aload_n 0, 1, 0, 0, 0), (38, .iconst 1, 1, 0, 0, 0), (39, .putfield 24, 3, 9, 5, 701), (42, .aload_n 0, 1, 0, 0, 0), (43, .bipush 10, 2, 0, 0, 0), (45, .newarray .int, 2, 0, 0, 0), (47, .putfield 28, 3, 9, 6, 702), (50, .aload_n 0, 1, 0, 0, 0), (51, .bipush 10, 2, 0, 0, 0), (53, .newarray .int, 2, 0, 0, 0), (55, .dup, 1, 0, 0, 0), (56, .iconst 0, 1, 0, 0, 0), (57, .iconst 1, 1, 0, 0, 0), (58, .iastore, 1, 0, 0, 0), (59, .dup, 1, 0, 0, 0), (60, .iconst 1, 1, 0, 0, 0), (61, .iconst 0, 1, 0, 0, 0), (62, .iastore, 1, 0, 0, 0), (63, .dup, 1, 0, 0, 0), (64, .iconst 2, 1, 0, 0, 0), (65, .iconst 0, 1, 0, 0, 0), (66, .iastore, 1, 0, 0, 0), (67, .dup, 1, 0, 0, 0), (68, .iconst 3, 1, 0, 0, 0), (69, .iconst 0, 1, 0, 0, 0), (70, .iastore, 1, 0, 0, 0), (71, .dup, 1, 0, 0, 0), (72, .iconst 4, 1, 0, 0, 0), (73, .iconst 0, 1, 0, 0, 0), (74, .iastore, 1, 0, 0, 0), (75, .dup, 1, 0, 0, 0), (76, .iconst 5, 1, 0, 0, 0), (77, .iconst 0, 1, 0, 0, 0), (78, .iastore, 1, 0, 0, 0), (79, .dup, 1, 0, 0, 0), (80, .bipush 6, 2, 0, 0, 0), (82, .iconst 0, 1, 0, 0, 0), (83, .iastore, 1, 0, 0, 0), (84, .dup, 1, 0, 0, 0), (85, .bipush 7, 2, 0, 0, 0), (87, .iconst 0, 1, 0, 0, 0), (88, .iastore, 1, 0, 0, 0), (89, .dup, 1, 0, 0, 0), (90, .bipush 8, 2, 0, 0, 0), (92, .iconst 0, 1, 0, 0, 0), (93, .iastore, 1, 0, 0, 0), (94, .dup, 1, 0, 0, 0), (95, .bipush 9, 2, 0, 0, 0), (97, .iconst 0, 1, 0, 0, 0), (98, .iastore, 1, 0, 0, 0), (99, .putfield 31, 3, 9, 7, 703), (102, .aload_n 0, 1, 0, 0, 0), (103, .bipush 10, 2, 0, 0, 0), (105, .newarray .int, 2, 0, 0, 0), (107, .putfield 34, 3, 9, 8, 704), (110, .aload_n 0, 1, 0, 0, 0), (111, .bipush 10, 2, 0, 0, 0), (113, .newarray .int, 2, 0, 0, 0), (115, .putfield 37, 3, 9, 9, 705), (118, .aload_n 0, 1, 0, 0, 0), (119, .iconst 4, 1, 0, 0, 0), (120, .newarray .int, 2, 0, 0, 0), (122, .putfield 40, 3, 9, 10, 706), (125, .aload_n 0, 1, 0, 0, 0), (126, .iconst 1, 1, 0, 0, 0), (127, .putfield 43, 3, 9, 12, 708), (130, .aload_n 0, 1, 0, 0, 0), (131, .bipush 44, 2, 0, 0, 0), (133, .newarray .long, 2, 0, 0, 0), (135, .putfield 46, 3, 9, 13, 709), (138, .aload_n 0, 1, 0, 0, 0), (139, .bipush 44, 2, 0, 0, 0), (141, .newarray .long, 2, 0, 0, 0), (143, .putfield 49, 3, 9, 14, 710), (146, .aload_n 0, 1, 0, 0, 0), (147, .bipush 44, 2, 0, 0, 0), (149, .newarray .long, 2, 0, 0, 0), (151, .putfield 52, 3, 9, 15, 711), (154, .aload_n 0, 1, 0, 0, 0), (155, .bipush 41, 2, 0, 0, 0), (157, .newarray .int, 2, 0, 0, 0), (159, .putfield 55, 3, 9, 16, 712), (162, .aload_n 0, 1, 0, 0, 0), (163, .iconst 4, 1, 0, 0, 0), (164, .newarray .int, 2, 0, 0, 0), (166, .putfield 58, 3, 9, 17, 713), (169, .aload_n 0, 1, 0, 0, 0), (170, .bipush 10, 2, 0, 0, 0), (172, .newarray .int, 2, 0, 0, 0), (174, .putfield 61, 3, 9, 19, 715), (177, .aload_n 0, 1, 0, 0, 0), (178, .iconst 0, 1, 0, 0, 0), (179, .lconst 0, 1, 0, 0, 0), (180, .invokevirtual 64, 3, 109, 9, 687), (183, .aload_n 0, 1, 0, 0, 0), (184, .iconst 1, 1, 0, 0, 0), (185, .lconst 1, 1, 0, 0, 0), (186, .invokevirtual 64, 3, 109, 9, 687), (189, .return_, 1, 0, 0, 0)])
def xm_M_carry : xiM := (("virtual", yX9_carry, cX9_carry), (5, none, 1), (1, 25, 0, 0), [(0, .iconst 0, 1, 0, 0, 0), (1, .istore_n 2, 1, 0, 0, 0), (2, .iload_n 2, 1, 0, 0, 0), (3, .bipush 43, 2, 0, 0, 0), (5, .if_icmp .ge 62, 3, 0, 0, 0), (8, .aload_n 0, 1, 0, 0, 0), (9, .getfield 10, 3, 9, 0, 696), (12, .bipush 44, 2, 0, 0, 0), (14, .iload_n 1, 1, 0, 0, 0), (15, .imul, 1, 0, 0, 0), (16, .iload_n 2, 1, 0, 0, 0), (17, .iadd, 1, 0, 0, 0), (18, .laload, 1, 0, 0, 0), (19, .lstore_n 3, 1, 0, 0, 0), (20, .aload_n 0, 1, 0, 0, 0), (21, .getfield 10, 3, 9, 0, 696), (24, .bipush 44, 2, 0, 0, 0), (26, .iload_n 1, 1, 0, 0, 0), (27, .imul, 1, 0, 0, 0), (28, .iload_n 2, 1, 0, 0, 0), (29, .iadd, 1, 0, 0, 0), (30, .lload_n 3, 1, 0, 0, 0), (31, .ldc2_w 68, 3, 1000000000, 0, 693), (34, .invokestatic 70, 3, 3, 0, 694), (37, .lastore, 1, 0, 0, 0), (38, .aload_n 0, 1, 0, 0, 0), (39, .getfield 10, 3, 9, 0, 696), (42, .bipush 44, 2, 0, 0, 0), (44, .iload_n 1, 1, 0, 0, 0), (45, .imul, 1, 0, 0, 0), (46, .iload_n 2, 1, 0, 0, 0), (47, .iadd, 1, 0, 0, 0), (48, .iconst 1, 1, 0, 0, 0), (49, .iadd, 1, 0, 0, 0), (50, .dup2, 1, 0, 0, 0), (51, .laload, 1, 0, 0, 0), (52, .lload_n 3, 1, 0, 0, 0), (53, .ldc2_w 68, 3, 1000000000, 0, 693), (56, .invokestatic 76, 3, 1, 0, 695), (59, .ladd, 1, 0, 0, 0), (60, .lastore, 1, 0, 0, 0), (61, .iinc 2 1, 3, 0, 0, 0), (64, .goto (-62), 3, 0, 0, 0), (67, .return_, 1, 0, 0, 0)])
def xm_M_put : xiM := (("virtual", yX9_put, cX9_put), (5, none, 2), (2, 49, 0, 0), [(0, .iconst 0, 1, 0, 0, 0), (1, .istore 4, 2, 0, 0, 0), (3, .iload 4, 2, 0, 0, 0), (5, .bipush 44, 2, 0, 0, 0), (7, .if_icmp .ge 31, 3, 0, 0, 0), (10, .aload_n 0, 1, 0, 0, 0), (11, .getfield 10, 3, 9, 0, 696), (14, .bipush 44, 2, 0, 0, 0), (16, .iload_n 1, 1, 0, 0, 0), (17, .imul, 1, 0, 0, 0), (18, .iload 4, 2, 0, 0, 0), (20, .iadd, 1, 0, 0, 0), (21, .iload 4, 2, 0, 0, 0), (23, .ifCond .ne 7, 3, 0, 0, 0), (26, .lload_n 2, 1, 0, 0, 0), (27, .goto 4, 3, 0, 0, 0), (30, .lconst 0, 1, 0, 0, 0), (31, .lastore, 1, 0, 0, 0), (32, .iinc 4 1, 3, 0, 0, 0), (35, .goto (-32), 3, 0, 0, 0), (38, .aload_n 0, 1, 0, 0, 0), (39, .iload_n 1, 1, 0, 0, 0), (40, .invokevirtual 79, 3, 108, 9, 690), (43, .return_, 1, 0, 0, 0)])
def xm_M_copy : xiM := (("virtual", yX9_copy, cX9_copy), (4, none, 2), (0, 0, 0, 0), [(0, .iconst 0, 1, 0, 0, 0), (1, .istore_n 3, 1, 0, 0, 0), (2, .iload_n 3, 1, 0, 0, 0), (3, .bipush 44, 2, 0, 0, 0), (5, .if_icmp .ge 31, 3, 0, 0, 0), (8, .aload_n 0, 1, 0, 0, 0), (9, .getfield 10, 3, 9, 0, 696), (12, .bipush 44, 2, 0, 0, 0), (14, .iload_n 1, 1, 0, 0, 0), (15, .imul, 1, 0, 0, 0), (16, .iload_n 3, 1, 0, 0, 0), (17, .iadd, 1, 0, 0, 0), (18, .aload_n 0, 1, 0, 0, 0), (19, .getfield 10, 3, 9, 0, 696), (22, .bipush 44, 2, 0, 0, 0), (24, .iload_n 2, 1, 0, 0, 0), (25, .imul, 1, 0, 0, 0), (26, .iload_n 3, 1, 0, 0, 0), (27, .iadd, 1, 0, 0, 0), (28, .laload, 1, 0, 0, 0), (29, .lastore, 1, 0, 0, 0), (30, .iinc 3 1, 3, 0, 0, 0), (33, .goto (-31), 3, 0, 0, 0), (36, .return_, 1, 0, 0, 0)])
def xm_M_more : xiM := (("virtual", yX9_more, cX9_more), (6, none, 3), (2, 49, 0, 0), [(0, .iconst 0, 1, 0, 0, 0), (1, .istore 5, 2, 0, 0, 0), (3, .iload 5, 2, 0, 0, 0), (5, .bipush 44, 2, 0, 0, 0), (7, .if_icmp .ge 38, 3, 0, 0, 0), (10, .aload_n 0, 1, 0, 0, 0), (11, .getfield 10, 3, 9, 0, 696), (14, .bipush 44, 2, 0, 0, 0), (16, .iload_n 1, 1, 0, 0, 0), (17, .imul, 1, 0, 0, 0), (18, .iload 5, 2, 0, 0, 0), (20, .iadd, 1, 0, 0, 0), (21, .dup2, 1, 0, 0, 0), (22, .laload, 1, 0, 0, 0), (23, .aload_n 0, 1, 0, 0, 0), (24, .getfield 10, 3, 9, 0, 696), (27, .bipush 44, 2, 0, 0, 0), (29, .iload_n 2, 1, 0, 0, 0), (30, .imul, 1, 0, 0, 0), (31, .iload 5, 2, 0, 0, 0), (33, .iadd, 1, 0, 0, 0), (34, .laload, 1, 0, 0, 0), (35, .lload_n 3, 1, 0, 0, 0), (36, .lmul, 1, 0, 0, 0), (37, .ladd, 1, 0, 0, 0), (38, .lastore, 1, 0, 0, 0), (39, .iinc 5 1, 3, 0, 0, 0), (42, .goto (-39), 3, 0, 0, 0), (45, .aload_n 0, 1, 0, 0, 0), (46, .iload_n 1, 1, 0, 0, 0), (47, .invokevirtual 79, 3, 108, 9, 690), (50, .return_, 1, 0, 0, 0)])
def xm_M_isBelow : xiM := (("virtual", yX9_isBelow, cX9_isBelow), (2, some .boolean, 1), (0, 0, 0, 0), [(0, .aload_n 0, 1, 0, 0, 0), (1, .getfield 10, 3, 9, 0, 696), (4, .bipush 44, 2, 0, 0, 0), (6, .iload_n 1, 1, 0, 0, 0), (7, .imul, 1, 0, 0, 0), (8, .bipush 44, 2, 0, 0, 0), (10, .iadd, 1, 0, 0, 0), (11, .iconst 1, 1, 0, 0, 0), (12, .isub, 1, 0, 0, 0), (13, .laload, 1, 0, 0, 0), (14, .lconst 0, 1, 0, 0, 0), (15, .lcmp, 1, 0, 0, 0), (16, .ifCond .ge 7, 3, 0, 0, 0), (19, .iconst 1, 1, 0, 0, 0), (20, .goto 4, 3, 0, 0, 0), (23, .iconst 0, 1, 0, 0, 0), (24, .ireturn, 1, 0, 0, 0)])
def xm_M_isZero : xiM := (("virtual", yX9_isZero, cX9_isZero), (3, some .boolean, 1), (0, 0, 0, 0), [(0, .iconst 0, 1, 0, 0, 0), (1, .istore_n 2, 1, 0, 0, 0), (2, .iload_n 2, 1, 0, 0, 0), (3, .bipush 44, 2, 0, 0, 0), (5, .if_icmp .ge 27, 3, 0, 0, 0), (8, .aload_n 0, 1, 0, 0, 0), (9, .getfield 10, 3, 9, 0, 696), (12, .bipush 44, 2, 0, 0, 0), (14, .iload_n 1, 1, 0, 0, 0), (15, .imul, 1, 0, 0, 0), (16, .iload_n 2, 1, 0, 0, 0), (17, .iadd, 1, 0, 0, 0), (18, .laload, 1, 0, 0, 0), (19, .lconst 0, 1, 0, 0, 0), (20, .lcmp, 1, 0, 0, 0), (21, .ifCond .eq 5, 3, 0, 0, 0), (24, .iconst 0, 1, 0, 0, 0), (25, .ireturn, 1, 0, 0, 0), (26, .iinc 2 1, 3, 0, 0, 0), (29, .goto (-27), 3, 0, 0, 0), (32, .iconst 1, 1, 0, 0, 0), (33, .ireturn, 1, 0, 0, 0)])
def xm_M_turn : xiM := (("virtual", yX9_turn, cX9_turn), (3, none, 1), (2, 49, 0, 0), [(0, .iconst 0, 1, 0, 0, 0), (1, .istore_n 2, 1, 0, 0, 0), (2, .iload_n 2, 1, 0, 0, 0), (3, .bipush 44, 2, 0, 0, 0), (5, .if_icmp .ge 32, 3, 0, 0, 0), (8, .aload_n 0, 1, 0, 0, 0), (9, .getfield 10, 3, 9, 0, 696), (12, .bipush 44, 2, 0, 0, 0), (14, .iload_n 1, 1, 0, 0, 0), (15, .imul, 1, 0, 0, 0), (16, .iload_n 2, 1, 0, 0, 0), (17, .iadd, 1, 0, 0, 0), (18, .aload_n 0, 1, 0, 0, 0), (19, .getfield 10, 3, 9, 0, 696), (22, .bipush 44, 2, 0, 0, 0), (24, .iload_n 1, 1, 0, 0, 0), (25, .imul, 1, 0, 0, 0), (26, .iload_n 2, 1, 0, 0, 0), (27, .iadd, 1, 0, 0, 0), (28, .laload, 1, 0, 0, 0), (29, .lneg, 1, 0, 0, 0), (30, .lastore, 1, 0, 0, 0), (31, .iinc 2 1, 3, 0, 0, 0), (34, .goto (-32), 3, 0, 0, 0), (37, .aload_n 0, 1, 0, 0, 0), (38, .iload_n 1, 1, 0, 0, 0), (39, .invokevirtual 79, 3, 108, 9, 690), (42, .return_, 1, 0, 0, 0)])
def xm_M_sign : xiM := (("virtual", yX9_sign, cX9_sign), (2, some .int, 1), (1, 22, 0, 0), [(0, .aload_n 0, 1, 0, 0, 0), (1, .iload_n 1, 1, 0, 0, 0), (2, .invokevirtual 83, 3, 113, 9, 860), (5, .ifCond .eq 7, 3, 0, 0, 0), (8, .iconst 0, 1, 0, 0, 0), (9, .goto 16, 3, 0, 0, 0), (12, .aload_n 0, 1, 0, 0, 0), (13, .iload_n 1, 1, 0, 0, 0), (14, .invokevirtual 87, 3, 112, 9, 839), (17, .ifCond .eq 7, 3, 0, 0, 0), (20, .iconst (-1), 1, 0, 0, 0), (21, .goto 4, 3, 0, 0, 0), (24, .iconst 1, 1, 0, 0, 0), (25, .ireturn, 1, 0, 0, 0)])
def xm_M_bare : xiM := (("virtual", yX9_bare, cX9_bare), (5, none, 2), (3, 71, 0, 0), [(0, .aload_n 0, 1, 0, 0, 0), (1, .iload_n 1, 1, 0, 0, 0), (2, .invokevirtual 87, 3, 112, 9, 839), (5, .istore_n 3, 1, 0, 0, 0), (6, .iload_n 3, 1, 0, 0, 0), (7, .ifCond .eq 8, 3, 0, 0, 0), (10, .aload_n 0, 1, 0, 0, 0), (11, .iload_n 1, 1, 0, 0, 0), (12, .invokevirtual 90, 3, 114, 9, 845), (15, .iconst 0, 1, 0, 0, 0), (16, .istore 4, 2, 0, 0, 0), (18, .iload 4, 2, 0, 0, 0), (20, .bipush 44, 2, 0, 0, 0), (22, .if_icmp .ge 25, 3, 0, 0, 0), (25, .aload_n 2, 1, 0, 0, 0), (26, .iload 4, 2, 0, 0, 0), (28, .aload_n 0, 1, 0, 0, 0), (29, .getfield 10, 3, 9, 0, 696), (32, .bipush 44, 2, 0, 0, 0), (34, .iload_n 1, 1, 0, 0, 0), (35, .imul, 1, 0, 0, 0), (36, .iload 4, 2, 0, 0, 0), (38, .iadd, 1, 0, 0, 0), (39, .laload, 1, 0, 0, 0), (40, .lastore, 1, 0, 0, 0), (41, .iinc 4 1, 3, 0, 0, 0), (44, .goto (-26), 3, 0, 0, 0), (47, .iload_n 3, 1, 0, 0, 0), (48, .ifCond .eq 8, 3, 0, 0, 0), (51, .aload_n 0, 1, 0, 0, 0), (52, .iload_n 1, 1, 0, 0, 0), (53, .invokevirtual 90, 3, 114, 9, 845), (56, .return_, 1, 0, 0, 0)])
def xm_M_length : xiM := (("static", yX9_length, cX9_length), (2, some .int, 1), (0, 0, 0, 0), [(0, .bipush 44, 2, 0, 0, 0), (2, .istore_n 1, 1, 0, 0, 0), (3, .iload_n 1, 1, 0, 0, 0), (4, .ifCond .le 19, 3, 0, 0, 0), (7, .aload_n 0, 1, 0, 0, 0), (8, .iload_n 1, 1, 0, 0, 0), (9, .iconst 1, 1, 0, 0, 0), (10, .isub, 1, 0, 0, 0), (11, .laload, 1, 0, 0, 0), (12, .lconst 0, 1, 0, 0, 0), (13, .lcmp, 1, 0, 0, 0), (14, .ifCond .ne 9, 3, 0, 0, 0), (17, .iinc 1 (-1), 3, 0, 0, 0), (20, .goto (-17), 3, 0, 0, 0), (23, .iload_n 1, 1, 0, 0, 0), (24, .ireturn, 1, 0, 0, 0)])
def xm_M_times : xiM := (("virtual", yX9_times, cX9_times), (13, none, 3), (4, 95, 0, 0), [(0, .aload_n 0, 1, 0, 0, 0), (1, .iload_n 2, 1, 0, 0, 0), (2, .invokevirtual 87, 3, 112, 9, 839), (5, .aload_n 0, 1, 0, 0, 0), (6, .iload_n 3, 1, 0, 0, 0), (7, .invokevirtual 87, 3, 112, 9, 839), (10, .if_icmp .eq 7, 3, 0, 0, 0), (13, .iconst 1, 1, 0, 0, 0), (14, .goto 4, 3, 0, 0, 0), (17, .iconst 0, 1, 0, 0, 0), (18, .istore 4, 2, 0, 0, 0), (20, .aload_n 0, 1, 0, 0, 0), (21, .iload_n 2, 1, 0, 0, 0), (22, .aload_n 0, 1, 0, 0, 0), (23, .getfield 46, 3, 9, 13, 709), (26, .invokevirtual 93, 3, 116, 9, 842), (29, .aload_n 0, 1, 0, 0, 0), (30, .iload_n 3, 1, 0, 0, 0), (31, .aload_n 0, 1, 0, 0, 0), (32, .getfield 49, 3, 9, 14, 710), (35, .invokevirtual 93, 3, 116, 9, 842), (38, .iconst 0, 1, 0, 0, 0), (39, .istore 5, 2, 0, 0, 0), (41, .iload 5, 2, 0, 0, 0), (43, .bipush 44, 2, 0, 0, 0), (45, .if_icmp .ge 17, 3, 0, 0, 0), (48, .aload_n 0, 1, 0, 0, 0), (49, .getfield 52, 3, 9, 15, 711), (52, .iload 5, 2, 0, 0, 0), (54, .lconst 0, 1, 0, 0, 0), (55, .lastore, 1, 0, 0, 0), (56, .iinc 5 1, 3, 0, 0, 0), (59, .goto (-18), 3, 0, 0, 0), (62, .aload_n 0, 1, 0, 0, 0), (63, .getfield 46, 3, 9, 13, 709), (66, .invokestatic 97, 3, 117, 0, 848), (69, .istore 5, 2, 0, 0, 0), (71, .aload_n 0, 1, 0, 0, 0), (72, .getfield 49, 3, 9, 14, 710), (75, .invokestatic 97, 3, 117, 0, 848), (78, .istore 6, 2, 0, 0, 0), (80, .iconst 0, 1, 0, 0, 0), (81, .istore 7, 2, 0, 0, 0), (83, .iload 7, 2, 0, 0, 0), (85, .iload 5, 2, 0, 0, 0), (87, .if_icmp .ge 100, 3, 0, 0, 0), (90, .lconst 0, 1, 0, 0, 0), (91, .lstore 8, 2, 0, 0, 0), (93, .iconst 0, 1, 0, 0, 0), (94, .istore 10, 2, 0, 0, 0), (96, .iload 7, 2, 0, 0, 0), (98, .iload 10, 2, 0, 0, 0), (100, .iadd, 1, 0, 0, 0), (101, .bipush 44, 2, 0, 0, 0), (103, .if_icmp .ge 78, 3, 0, 0, 0), (106, .iload 10, 2, 0, 0, 0), (108, .iload 6, 2, 0, 0, 0), (110, .if_icmp .lt 10, 3, 0, 0, 0), (113, .lload 8, 2, 0, 0, 0), (115, .lconst 0, 1, 0, 0, 0), (116, .lcmp, 1, 0, 0, 0), (117, .ifCond .le 64, 3, 0, 0, 0), (120, .aload_n 0, 1, 0, 0, 0), (121, .getfield 52, 3, 9, 15, 711), (124, .iload 7, 2, 0, 0, 0), (126, .iload 10, 2, 0, 0, 0), (128, .iadd, 1, 0, 0, 0), (129, .laload, 1, 0, 0, 0), (130, .aload_n 0, 1, 0, 0, 0), (131, .getfield 46, 3, 9, 13, 709), (134, .iload 7, 2, 0, 0, 0), (136, .laload, 1, 0, 0, 0), (137, .aload_n 0, 1, 0, 0, 0), (138, .getfield 49, 3, 9, 14, 710), (141, .iload 10, 2, 0, 0, 0), (143, .laload, 1, 0, 0, 0), (144, .lmul, 1, 0, 0, 0), (145, .ladd, 1, 0, 0, 0), (146, .lload 8, 2, 0, 0, 0), (148, .ladd, 1, 0, 0, 0), (149, .lstore 11, 2, 0, 0, 0), (151, .aload_n 0, 1, 0, 0, 0), (152, .getfield 52, 3, 9, 15, 711), (155, .iload 7, 2, 0, 0, 0), (157, .iload 10, 2, 0, 0, 0), (159, .iadd, 1, 0, 0, 0), (160, .lload 11, 2, 0, 0, 0), (162, .ldc2_w 68, 3, 1000000000, 0, 693), (165, .lrem, 1, 0, 0, 0), (166, .lastore, 1, 0, 0, 0), (167, .lload 11, 2, 0, 0, 0), (169, .ldc2_w 68, 3, 1000000000, 0, 693), (172, .ldiv, 1, 0, 0, 0), (173, .lstore 8, 2, 0, 0, 0), (175, .iinc 10 1, 3, 0, 0, 0), (178, .goto (-82), 3, 0, 0, 0), (181, .iinc 7 1, 3, 0, 0, 0), (184, .goto (-101), 3, 0, 0, 0), (187, .iconst 0, 1, 0, 0, 0), (188, .istore 7, 2, 0, 0, 0), (190, .iload 7, 2, 0, 0, 0), (192, .bipush 44, 2, 0, 0, 0), (194, .if_icmp .ge 28, 3, 0, 0, 0), (197, .aload_n 0, 1, 0, 0, 0), (198, .getfield 10, 3, 9, 0, 696), (201, .bipush 44, 2, 0, 0, 0), (203, .iload_n 1, 1, 0, 0, 0), (204, .imul, 1, 0, 0, 0), (205, .iload 7, 2, 0, 0, 0), (207, .iadd, 1, 0, 0, 0), (208, .aload_n 0, 1, 0, 0, 0), (209, .getfield 52, 3, 9, 15, 711), (212, .iload 7, 2, 0, 0, 0), (214, .laload, 1, 0, 0, 0), (215, .lastore, 1, 0, 0, 0), (216, .iinc 7 1, 3, 0, 0, 0), (219, .goto (-29), 3, 0, 0, 0), (222, .iload 4, 2, 0, 0, 0), (224, .ifCond .eq 8, 3, 0, 0, 0), (227, .aload_n 0, 1, 0, 0, 0), (228, .iload_n 1, 1, 0, 0, 0), (229, .invokevirtual 90, 3, 114, 9, 845), (232, .return_, 1, 0, 0, 0)])
def xm_M_parts : xiM := (("virtual", yX9_parts, cX9_parts), (16, none, 2), (4, 95, 0, 0), [(0, .aload_n 0, 1, 0, 0, 0), (1, .iload_n 1, 1, 0, 0, 0), (2, .invokevirtual 87, 3, 112, 9, 839), (5, .aload_n 0, 1, 0, 0, 0), (6, .iload_n 2, 1, 0, 0, 0), (7, .invokevirtual 87, 3, 112, 9, 839), (10, .if_icmp .eq 15, 3, 0, 0, 0), (13, .aload_n 0, 1, 0, 0, 0), (14, .iload_n 1, 1, 0, 0, 0), (15, .invokevirtual 83, 3, 113, 9, 860), (18, .ifCond .ne 7, 3, 0, 0, 0), (21, .iconst 1, 1, 0, 0, 0), (22, .goto 4, 3, 0, 0, 0), (25, .iconst 0, 1, 0, 0, 0), (26, .istore_n 3, 1, 0, 0, 0), (27, .aload_n 0, 1, 0, 0, 0), (28, .iload_n 1, 1, 0, 0, 0), (29, .aload_n 0, 1, 0, 0, 0), (30, .getfield 46, 3, 9, 13, 709), (33, .invokevirtual 93, 3, 116, 9, 842), (36, .aload_n 0, 1, 0, 0, 0), (37, .iload_n 2, 1, 0, 0, 0), (38, .aload_n 0, 1, 0, 0, 0), (39, .getfield 49, 3, 9, 14, 710), (42, .invokevirtual 93, 3, 116, 9, 842), (45, .aload_n 0, 1, 0, 0, 0), (46, .getfield 49, 3, 9, 14, 710), (49, .invokestatic 97, 3, 117, 0, 848), (52, .istore 4, 2, 0, 0, 0), (54, .aload_n 0, 1, 0, 0, 0), (55, .getfield 46, 3, 9, 13, 709), (58, .invokestatic 97, 3, 117, 0, 848), (61, .istore 5, 2, 0, 0, 0), (63, .iconst 0, 1, 0, 0, 0), (64, .istore 6, 2, 0, 0, 0), (66, .iload 6, 2, 0, 0, 0), (68, .bipush 44, 2, 0, 0, 0), (70, .if_icmp .ge 17, 3, 0, 0, 0), (73, .aload_n 0, 1, 0, 0, 0), (74, .getfield 52, 3, 9, 15, 711), (77, .iload 6, 2, 0, 0, 0), (79, .lconst 0, 1, 0, 0, 0), (80, .lastore, 1, 0, 0, 0), (81, .iinc 6 1, 3, 0, 0, 0), (84, .goto (-18), 3, 0, 0, 0), (87, .iload 5, 2, 0, 0, 0), (89, .iload 4, 2, 0, 0, 0), (91, .isub, 1, 0, 0, 0), (92, .istore 6, 2, 0, 0, 0), (94, .iload 6, 2, 0, 0, 0), (96, .ifCond .lt 167, 3, 0, 0, 0), (99, .lconst 0, 1, 0, 0, 0), (100, .lstore 7, 2, 0, 0, 0), (102, .ldc2_w 101, 3, 999999999, 0, 877), (105, .lstore 9, 2, 0, 0, 0), (107, .lload 7, 2, 0, 0, 0), (109, .lload 9, 2, 0, 0, 0), (111, .lcmp, 1, 0, 0, 0), (112, .ifCond .ge 45, 3, 0, 0, 0), (115, .lload 7, 2, 0, 0, 0), (117, .lload 9, 2, 0, 0, 0), (119, .ladd, 1, 0, 0, 0), (120, .lconst 1, 1, 0, 0, 0), (121, .ladd, 1, 0, 0, 0), (122, .ldc2_w 103, 3, 2, 0, 866), (125, .ldiv, 1, 0, 0, 0), (126, .lstore 11, 2, 0, 0, 0), (128, .aload_n 0, 1, 0, 0, 0), (129, .lload 11, 2, 0, 0, 0), (131, .iload 6, 2, 0, 0, 0), (133, .iload 4, 2, 0, 0, 0), (135, .invokevirtual 105, 3, 120, 9, 878), (138, .ifCond .eq 10, 3, 0, 0, 0), (141, .lload 11, 2, 0, 0, 0), (143, .lstore 7, 2, 0, 0, 0), (145, .goto 9, 3, 0, 0, 0), (148, .lload 11, 2, 0, 0, 0), (150, .lconst 1, 1, 0, 0, 0), (151, .lsub, 1, 0, 0, 0), (152, .lstore 9, 2, 0, 0, 0), (154, .goto (-47), 3, 0, 0, 0), (157, .aload_n 0, 1, 0, 0, 0), (158, .getfield 52, 3, 9, 15, 711), (161, .iload 6, 2, 0, 0, 0), (163, .lload 7, 2, 0, 0, 0), (165, .lastore, 1, 0, 0, 0), (166, .lconst 0, 1, 0, 0, 0), (167, .lstore 11, 2, 0, 0, 0), (169, .iconst 0, 1, 0, 0, 0), (170, .istore 13, 2, 0, 0, 0), (172, .iload 13, 2, 0, 0, 0), (174, .iload 6, 2, 0, 0, 0), (176, .iadd, 1, 0, 0, 0), (177, .bipush 44, 2, 0, 0, 0), (179, .if_icmp .ge 78, 3, 0, 0, 0), (182, .iload 13, 2, 0, 0, 0), (184, .iload 4, 2, 0, 0, 0), (186, .if_icmp .lt 10, 3, 0, 0, 0), (189, .lload 11, 2, 0, 0, 0), (191, .lconst 0, 1, 0, 0, 0), (192, .lcmp, 1, 0, 0, 0), (193, .ifCond .eq 64, 3, 0, 0, 0), (196, .aload_n 0, 1, 0, 0, 0), (197, .getfield 46, 3, 9, 13, 709), (200, .iload 13, 2, 0, 0, 0), (202, .iload 6, 2, 0, 0, 0), (204, .iadd, 1, 0, 0, 0), (205, .laload, 1, 0, 0, 0), (206, .lload 7, 2, 0, 0, 0), (208, .aload_n 0, 1, 0, 0, 0), (209, .getfield 49, 3, 9, 14, 710), (212, .iload 13, 2, 0, 0, 0), (214, .laload, 1, 0, 0, 0), (215, .lmul, 1, 0, 0, 0), (216, .lsub, 1, 0, 0, 0), (217, .lload 11, 2, 0, 0, 0), (219, .lsub, 1, 0, 0, 0), (220, .lstore 14, 2, 0, 0, 0), (222, .lload 14, 2, 0, 0, 0), (224, .ldc2_w 68, 3, 1000000000, 0, 693), (227, .invokestatic 76, 3, 1, 0, 695), (230, .lneg, 1, 0, 0, 0), (231, .lstore 11, 2, 0, 0, 0), (233, .aload_n 0, 1, 0, 0, 0), (234, .getfield 46, 3, 9, 13, 709), (237, .iload 13, 2, 0, 0, 0), (239, .iload 6, 2, 0, 0, 0), (241, .iadd, 1, 0, 0, 0), (242, .lload 14, 2, 0, 0, 0), (244, .ldc2_w 68, 3, 1000000000, 0, 693), (247, .invokestatic 70, 3, 3, 0, 694), (250, .lastore, 1, 0, 0, 0), (251, .iinc 13 1, 3, 0, 0, 0), (254, .goto (-82), 3, 0, 0, 0), (257, .iinc 6 (-1), 3, 0, 0, 0), (260, .goto (-166), 3, 0, 0, 0), (263, .iconst 0, 1, 0, 0, 0), (264, .istore 6, 2, 0, 0, 0), (266, .iload 6, 2, 0, 0, 0), (268, .bipush 44, 2, 0, 0, 0), (270, .if_icmp .ge 28, 3, 0, 0, 0), (273, .aload_n 0, 1, 0, 0, 0), (274, .getfield 10, 3, 9, 0, 696), (277, .bipush 44, 2, 0, 0, 0), (279, .iload_n 1, 1, 0, 0, 0), (280, .imul, 1, 0, 0, 0), (281, .iload 6, 2, 0, 0, 0), (283, .iadd, 1, 0, 0, 0), (284, .aload_n 0, 1, 0, 0, 0), (285, .getfield 52, 3, 9, 15, 711), (288, .iload 6, 2, 0, 0, 0), (290, .laload, 1, 0, 0, 0), (291, .lastore, 1, 0, 0, 0), (292, .iinc 6 1, 3, 0, 0, 0), (295, .goto (-29), 3, 0, 0, 0), (298, .iload_n 3, 1, 0, 0, 0), (299, .ifCond .eq 8, 3, 0, 0, 0), (302, .aload_n 0, 1, 0, 0, 0), (303, .iload_n 1, 1, 0, 0, 0), (304, .invokevirtual 90, 3, 114, 9, 845), (307, .return_, 1, 0, 0, 0)])
def xm_M_goesInto : xiM := (("virtual", yX9_goesInto, cX9_goesInto), (10, some .boolean, 3), (1, 25, 0, 0), [(0, .lconst 0, 1, 0, 0, 0), (1, .lstore 5, 2, 0, 0, 0), (3, .iconst 0, 1, 0, 0, 0), (4, .istore 7, 2, 0, 0, 0), (6, .iload 7, 2, 0, 0, 0), (8, .iload_n 3, 1, 0, 0, 0), (9, .iadd, 1, 0, 0, 0), (10, .bipush 44, 2, 0, 0, 0), (12, .if_icmp .ge 58, 3, 0, 0, 0), (15, .iload 7, 2, 0, 0, 0), (17, .iload 4, 2, 0, 0, 0), (19, .if_icmp .lt 10, 3, 0, 0, 0), (22, .lload 5, 2, 0, 0, 0), (24, .lconst 0, 1, 0, 0, 0), (25, .lcmp, 1, 0, 0, 0), (26, .ifCond .eq 44, 3, 0, 0, 0), (29, .aload_n 0, 1, 0, 0, 0), (30, .getfield 46, 3, 9, 13, 709), (33, .iload 7, 2, 0, 0, 0), (35, .iload_n 3, 1, 0, 0, 0), (36, .iadd, 1, 0, 0, 0), (37, .laload, 1, 0, 0, 0), (38, .lload_n 1, 1, 0, 0, 0), (39, .aload_n 0, 1, 0, 0, 0), (40, .getfield 49, 3, 9, 14, 710), (43, .iload 7, 2, 0, 0, 0), (45, .laload, 1, 0, 0, 0), (46, .lmul, 1, 0, 0, 0), (47, .lsub, 1, 0, 0, 0), (48, .lload 5, 2, 0, 0, 0), (50, .lsub, 1, 0, 0, 0), (51, .lstore 8, 2, 0, 0, 0), (53, .lload 8, 2, 0, 0, 0), (55, .ldc2_w 68, 3, 1000000000, 0, 693), (58, .invokestatic 76, 3, 1, 0, 695), (61, .lneg, 1, 0, 0, 0), (62, .lstore 5, 2, 0, 0, 0), (64, .iinc 7 1, 3, 0, 0, 0), (67, .goto (-61), 3, 0, 0, 0), (70, .lload 5, 2, 0, 0, 0), (72, .lconst 0, 1, 0, 0, 0), (73, .lcmp, 1, 0, 0, 0), (74, .ifCond .ne 7, 3, 0, 0, 0), (77, .iconst 1, 1, 0, 0, 0), (78, .goto 4, 3, 0, 0, 0), (81, .iconst 0, 1, 0, 0, 0), (82, .ireturn, 1, 0, 0, 0)])
def xm_M_isEven : xiM := (("virtual", yX9_isEven, cX9_isEven), (2, some .boolean, 1), (0, 0, 0, 0), [(0, .aload_n 0, 1, 0, 0, 0), (1, .getfield 10, 3, 9, 0, 696), (4, .bipush 44, 2, 0, 0, 0), (6, .iload_n 1, 1, 0, 0, 0), (7, .imul, 1, 0, 0, 0), (8, .laload, 1, 0, 0, 0), (9, .ldc2_w 103, 3, 2, 0, 866), (12, .lrem, 1, 0, 0, 0), (13, .lconst 0, 1, 0, 0, 0), (14, .lcmp, 1, 0, 0, 0), (15, .ifCond .ne 7, 3, 0, 0, 0), (18, .iconst 1, 1, 0, 0, 0), (19, .goto 4, 3, 0, 0, 0), (22, .iconst 0, 1, 0, 0, 0), (23, .ireturn, 1, 0, 0, 0)])
def xm_M_half : xiM := (("virtual", yX9_half, cX9_half), (7, none, 1), (0, 0, 0, 0), [(0, .lconst 0, 1, 0, 0, 0), (1, .lstore_n 2, 1, 0, 0, 0), (2, .bipush 43, 2, 0, 0, 0), (4, .istore 4, 2, 0, 0, 0), (6, .iload 4, 2, 0, 0, 0), (8, .ifCond .lt 54, 3, 0, 0, 0), (11, .lload_n 2, 1, 0, 0, 0), (12, .ldc2_w 68, 3, 1000000000, 0, 693), (15, .lmul, 1, 0, 0, 0), (16, .aload_n 0, 1, 0, 0, 0), (17, .getfield 10, 3, 9, 0, 696), (20, .bipush 44, 2, 0, 0, 0), (22, .iload_n 1, 1, 0, 0, 0), (23, .imul, 1, 0, 0, 0), (24, .iload 4, 2, 0, 0, 0), (26, .iadd, 1, 0, 0, 0), (27, .laload, 1, 0, 0, 0), (28, .ladd, 1, 0, 0, 0), (29, .lstore 5, 2, 0, 0, 0), (31, .aload_n 0, 1, 0, 0, 0), (32, .getfield 10, 3, 9, 0, 696), (35, .bipush 44, 2, 0, 0, 0), (37, .iload_n 1, 1, 0, 0, 0), (38, .imul, 1, 0, 0, 0), (39, .iload 4, 2, 0, 0, 0), (41, .iadd, 1, 0, 0, 0), (42, .lload 5, 2, 0, 0, 0), (44, .ldc2_w 103, 3, 2, 0, 866), (47, .ldiv, 1, 0, 0, 0), (48, .lastore, 1, 0, 0, 0), (49, .lload 5, 2, 0, 0, 0), (51, .ldc2_w 103, 3, 2, 0, 866), (54, .lrem, 1, 0, 0, 0), (55, .lstore_n 2, 1, 0, 0, 0), (56, .iinc 4 (-1), 3, 0, 0, 0), (59, .goto (-53), 3, 0, 0, 0), (62, .return_, 1, 0, 0, 0)])
def xm_M_isLess : xiM := (("virtual", yX9_isLess, cX9_isLess), (8, some .boolean, 2), (0, 0, 0, 0), [(0, .bipush 43, 2, 0, 0, 0), (2, .istore_n 3, 1, 0, 0, 0), (3, .iload_n 3, 1, 0, 0, 0), (4, .ifCond .lt 57, 3, 0, 0, 0), (7, .aload_n 0, 1, 0, 0, 0), (8, .getfield 10, 3, 9, 0, 696), (11, .bipush 44, 2, 0, 0, 0), (13, .iload_n 1, 1, 0, 0, 0), (14, .imul, 1, 0, 0, 0), (15, .iload_n 3, 1, 0, 0, 0), (16, .iadd, 1, 0, 0, 0), (17, .laload, 1, 0, 0, 0), (18, .lstore 4, 2, 0, 0, 0), (20, .aload_n 0, 1, 0, 0, 0), (21, .getfield 10, 3, 9, 0, 696), (24, .bipush 44, 2, 0, 0, 0), (26, .iload_n 2, 1, 0, 0, 0), (27, .imul, 1, 0, 0, 0), (28, .iload_n 3, 1, 0, 0, 0), (29, .iadd, 1, 0, 0, 0), (30, .laload, 1, 0, 0, 0), (31, .lstore 6, 2, 0, 0, 0), (33, .lload 4, 2, 0, 0, 0), (35, .lload 6, 2, 0, 0, 0), (37, .lcmp, 1, 0, 0, 0), (38, .ifCond .eq 17, 3, 0, 0, 0), (41, .lload 4, 2, 0, 0, 0), (43, .lload 6, 2, 0, 0, 0), (45, .lcmp, 1, 0, 0, 0), (46, .ifCond .ge 7, 3, 0, 0, 0), (49, .iconst 1, 1, 0, 0, 0), (50, .goto 4, 3, 0, 0, 0), (53, .iconst 0, 1, 0, 0, 0), (54, .ireturn, 1, 0, 0, 0), (55, .iinc 3 (-1), 3, 0, 0, 0), (58, .goto (-55), 3, 0, 0, 0), (61, .iconst 0, 1, 0, 0, 0), (62, .ireturn, 1, 0, 0, 0)])
def xm_M_result : xiM := (("virtual", yX9_result, cX9_result), (6, none, 2), (5, 130, 0, 0), [(0, .aload_n 0, 1, 0, 0, 0), (1, .iload_n 1, 1, 0, 0, 0), (2, .invokevirtual 87, 3, 112, 9, 839), (5, .aload_n 0, 1, 0, 0, 0), (6, .iload_n 2, 1, 0, 0, 0), (7, .invokevirtual 87, 3, 112, 9, 839), (10, .if_icmp .eq 7, 3, 0, 0, 0), (13, .iconst 1, 1, 0, 0, 0), (14, .goto 4, 3, 0, 0, 0), (17, .iconst 0, 1, 0, 0, 0), (18, .istore_n 3, 1, 0, 0, 0), (19, .aload_n 0, 1, 0, 0, 0), (20, .iconst 0, 1, 0, 0, 0), (21, .iload_n 1, 1, 0, 0, 0), (22, .invokevirtual 109, 3, 110, 9, 851), (25, .aload_n 0, 1, 0, 0, 0), (26, .iconst 1, 1, 0, 0, 0), (27, .iload_n 2, 1, 0, 0, 0), (28, .invokevirtual 109, 3, 110, 9, 851), (31, .aload_n 0, 1, 0, 0, 0), (32, .iconst 0, 1, 0, 0, 0), (33, .invokevirtual 87, 3, 112, 9, 839), (36, .ifCond .eq 8, 3, 0, 0, 0), (39, .aload_n 0, 1, 0, 0, 0), (40, .iconst 0, 1, 0, 0, 0), (41, .invokevirtual 90, 3, 114, 9, 845), (44, .aload_n 0, 1, 0, 0, 0), (45, .iconst 1, 1, 0, 0, 0), (46, .invokevirtual 87, 3, 112, 9, 839), (49, .ifCond .eq 8, 3, 0, 0, 0), (52, .aload_n 0, 1, 0, 0, 0), (53, .iconst 1, 1, 0, 0, 0), (54, .invokevirtual 90, 3, 114, 9, 845), (57, .aload_n 0, 1, 0, 0, 0), (58, .iconst 0, 1, 0, 0, 0), (59, .invokevirtual 83, 3, 113, 9, 860), (62, .ifCond .eq 10, 3, 0, 0, 0), (65, .aload_n 0, 1, 0, 0, 0), (66, .iconst 1, 1, 0, 0, 0), (67, .lconst 1, 1, 0, 0, 0), (68, .invokevirtual 64, 3, 109, 9, 687), (71, .return_, 1, 0, 0, 0), (72, .aload_n 0, 1, 0, 0, 0), (73, .iconst 2, 1, 0, 0, 0), (74, .iconst 0, 1, 0, 0, 0), (75, .invokevirtual 109, 3, 110, 9, 851), (78, .aload_n 0, 1, 0, 0, 0), (79, .iconst 3, 1, 0, 0, 0), (80, .iconst 1, 1, 0, 0, 0), (81, .invokevirtual 109, 3, 110, 9, 851), (84, .iconst 0, 1, 0, 0, 0), (85, .istore 4, 2, 0, 0, 0), (87, .aload_n 0, 1, 0, 0, 0), (88, .iconst 2, 1, 0, 0, 0), (89, .invokevirtual 113, 3, 121, 9, 863), (92, .ifCond .eq 27, 3, 0, 0, 0), (95, .aload_n 0, 1, 0, 0, 0), (96, .iconst 3, 1, 0, 0, 0), (97, .invokevirtual 113, 3, 121, 9, 863), (100, .ifCond .eq 19, 3, 0, 0, 0), (103, .aload_n 0, 1, 0, 0, 0), (104, .iconst 2, 1, 0, 0, 0), (105, .invokevirtual 116, 3, 122, 9, 867), (108, .aload_n 0, 1, 0, 0, 0), (109, .iconst 3, 1, 0, 0, 0), (110, .invokevirtual 116, 3, 122, 9, 867), (113, .iinc 4 1, 3, 0, 0, 0), (116, .goto (-29), 3, 0, 0, 0), (119, .aload_n 0, 1, 0, 0, 0), (120, .iconst 2, 1, 0, 0, 0), (121, .invokevirtual 83, 3, 113, 9, 860), (124, .ifCond .ne 68, 3, 0, 0, 0), (127, .aload_n 0, 1, 0, 0, 0), (128, .iconst 2, 1, 0, 0, 0), (129, .invokevirtual 113, 3, 121, 9, 863), (132, .ifCond .eq 11, 3, 0, 0, 0), (135, .aload_n 0, 1, 0, 0, 0), (136, .iconst 2, 1, 0, 0, 0), (137, .invokevirtual 116, 3, 122, 9, 867), (140, .goto (-13), 3, 0, 0, 0), (143, .aload_n 0, 1, 0, 0, 0), (144, .iconst 3, 1, 0, 0, 0), (145, .invokevirtual 113, 3, 121, 9, 863), (148, .ifCond .eq 11, 3, 0, 0, 0), (151, .aload_n 0, 1, 0, 0, 0), (152, .iconst 3, 1, 0, 0, 0), (153, .invokevirtual 116, 3, 122, 9, 867), (156, .goto (-13), 3, 0, 0, 0), (159, .aload_n 0, 1, 0, 0, 0), (160, .iconst 2, 1, 0, 0, 0), (161, .iconst 3, 1, 0, 0, 0), (162, .invokevirtual 119, 3, 123, 9, 870), (165, .ifCond .eq 15, 3, 0, 0, 0), (168, .aload_n 0, 1, 0, 0, 0), (169, .iconst 3, 1, 0, 0, 0), (170, .iconst 2, 1, 0, 0, 0), (171, .ldc2_w 123, 3, 18446744073709551615, 0, 873), (174, .invokevirtual 125, 3, 111, 9, 824), (177, .goto (-58), 3, 0, 0, 0), (180, .aload_n 0, 1, 0, 0, 0), (181, .iconst 2, 1, 0, 0, 0), (182, .iconst 3, 1, 0, 0, 0), (183, .ldc2_w 123, 3, 18446744073709551615, 0, 873), (186, .invokevirtual 125, 3, 111, 9, 824), (189, .goto (-70), 3, 0, 0, 0), (192, .iconst 0, 1, 0, 0, 0), (193, .istore 5, 2, 0, 0, 0), (195, .iload 5, 2, 0, 0, 0), (197, .iload 4, 2, 0, 0, 0), (199, .if_icmp .ge 22, 3, 0, 0, 0), (202, .aload_n 0, 1, 0, 0, 0), (203, .iconst 4, 1, 0, 0, 0), (204, .iconst 3, 1, 0, 0, 0), (205, .invokevirtual 109, 3, 110, 9, 851), (208, .aload_n 0, 1, 0, 0, 0), (209, .iconst 3, 1, 0, 0, 0), (210, .iconst 4, 1, 0, 0, 0), (211, .lconst 1, 1, 0, 0, 0), (212, .invokevirtual 125, 3, 111, 9, 824), (215, .iinc 5 1, 3, 0, 0, 0), (218, .goto (-23), 3, 0, 0, 0), (221, .aload_n 0, 1, 0, 0, 0), (222, .iconst 0, 1, 0, 0, 0), (223, .iconst 3, 1, 0, 0, 0), (224, .invokevirtual 129, 3, 119, 9, 874), (227, .aload_n 0, 1, 0, 0, 0), (228, .iconst 1, 1, 0, 0, 0), (229, .iconst 3, 1, 0, 0, 0), (230, .invokevirtual 129, 3, 119, 9, 874), (233, .iload_n 3, 1, 0, 0, 0), (234, .ifCond .eq 8, 3, 0, 0, 0), (237, .aload_n 0, 1, 0, 0, 0), (238, .iconst 0, 1, 0, 0, 0), (239, .invokevirtual 90, 3, 114, 9, 845), (242, .return_, 1, 0, 0, 0)])
def xm_M_isSlot : xiM := (("static", yX9_isSlot, cX9_isSlot), (1, some .boolean, 1), (0, 0, 0, 0), [(0, .iload_n 0, 1, 0, 0, 0), (1, .ifCond .lt 13, 3, 0, 0, 0), (4, .iload_n 0, 1, 0, 0, 0), (5, .bipush 7, 2, 0, 0, 0), (7, .if_icmp .gt 7, 3, 0, 0, 0), (10, .iconst 1, 1, 0, 0, 0), (11, .goto 4, 3, 0, 0, 0), (14, .iconst 0, 1, 0, 0, 0), (15, .ireturn, 1, 0, 0, 0)])
def xm_M_row : xiM := (("virtual", yX9_row, cX9_row), (5, some .int, 3), (1, 20, 0, 0), [(0, .iload_n 1, 1, 0, 0, 0), (1, .invokestatic 132, 3, 125, 0, 767), (4, .ifCond .eq 18, 3, 0, 0, 0), (7, .iload_n 2, 1, 0, 0, 0), (8, .ifCond .lt 14, 3, 0, 0, 0), (11, .iload_n 2, 1, 0, 0, 0), (12, .iconst 3, 1, 0, 0, 0), (13, .if_icmp .gt 9, 3, 0, 0, 0), (16, .iload_n 3, 1, 0, 0, 0), (17, .bipush 60, 2, 0, 0, 0), (19, .if_icmp .le 6, 3, 0, 0, 0), (22, .bipush (-2), 2, 0, 0, 0), (24, .ireturn, 1, 0, 0, 0), (25, .iload_n 3, 1, 0, 0, 0), (26, .ifCond .ge 6, 3, 0, 0, 0), (29, .bipush (-3), 2, 0, 0, 0), (31, .ireturn, 1, 0, 0, 0), (32, .aload_n 0, 1, 0, 0, 0), (33, .getfield 14, 3, 9, 2, 698), (36, .iload_n 1, 1, 0, 0, 0), (37, .iload_n 3, 1, 0, 0, 0), (38, .iconst 1, 1, 0, 0, 0), (39, .iadd, 1, 0, 0, 0), (40, .iastore, 1, 0, 0, 0), (41, .aload_n 0, 1, 0, 0, 0), (42, .getfield 18, 3, 9, 3, 699), (45, .iload_n 1, 1, 0, 0, 0), (46, .iload_n 2, 1, 0, 0, 0), (47, .iastore, 1, 0, 0, 0), (48, .iconst 0, 1, 0, 0, 0), (49, .istore 4, 2, 0, 0, 0), (51, .iload 4, 2, 0, 0, 0), (53, .iload_n 3, 1, 0, 0, 0), (54, .if_icmp .ge 22, 3, 0, 0, 0), (57, .aload_n 0, 1, 0, 0, 0), (58, .getfield 21, 3, 9, 4, 700), (61, .bipush 60, 2, 0, 0, 0), (63, .iload_n 1, 1, 0, 0, 0), (64, .imul, 1, 0, 0, 0), (65, .iload 4, 2, 0, 0, 0), (67, .iadd, 1, 0, 0, 0), (68, .lconst 0, 1, 0, 0, 0), (69, .lastore, 1, 0, 0, 0), (70, .iinc 4 1, 3, 0, 0, 0), (73, .goto (-22), 3, 0, 0, 0), (76, .iconst 0, 1, 0, 0, 0), (77, .ireturn, 1, 0, 0, 0)])
def xm_M_tear : xiM := (("virtual", yX9_tear, cX9_tear), (2, some .boolean, 1), (1, 20, 0, 0), [(0, .iload_n 1, 1, 0, 0, 0), (1, .invokestatic 132, 3, 125, 0, 767), (4, .ifCond .eq 12, 3, 0, 0, 0), (7, .aload_n 0, 1, 0, 0, 0), (8, .getfield 14, 3, 9, 2, 698), (11, .iload_n 1, 1, 0, 0, 0), (12, .iaload, 1, 0, 0, 0), (13, .ifCond .ne 5, 3, 0, 0, 0), (16, .iconst 0, 1, 0, 0, 0), (17, .ireturn, 1, 0, 0, 0), (18, .aload_n 0, 1, 0, 0, 0), (19, .getfield 14, 3, 9, 2, 698), (22, .iload_n 1, 1, 0, 0, 0), (23, .iconst 0, 1, 0, 0, 0), (24, .iastore, 1, 0, 0, 0), (25, .iconst 1, 1, 0, 0, 0), (26, .ireturn, 1, 0, 0, 0)])
def xm_M_write : xiM := (("virtual", yX9_write, cX9_write), (6, some .int, 3), (1, 20, 0, 0), [(0, .iload_n 1, 1, 0, 0, 0), (1, .invokestatic 132, 3, 125, 0, 767), (4, .ifCond .ne 6, 3, 0, 0, 0), (7, .bipush (-2), 2, 0, 0, 0), (9, .ireturn, 1, 0, 0, 0), (10, .aload_n 0, 1, 0, 0, 0), (11, .getfield 14, 3, 9, 2, 698), (14, .iload_n 1, 1, 0, 0, 0), (15, .iaload, 1, 0, 0, 0), (16, .ifCond .ne 6, 3, 0, 0, 0), (19, .bipush (-5), 2, 0, 0, 0), (21, .ireturn, 1, 0, 0, 0), (22, .iload_n 2, 1, 0, 0, 0), (23, .ifCond .lt 15, 3, 0, 0, 0), (26, .iload_n 2, 1, 0, 0, 0), (27, .aload_n 0, 1, 0, 0, 0), (28, .getfield 14, 3, 9, 2, 698), (31, .iload_n 1, 1, 0, 0, 0), (32, .iaload, 1, 0, 0, 0), (33, .iconst 1, 1, 0, 0, 0), (34, .isub, 1, 0, 0, 0), (35, .if_icmp .lt 6, 3, 0, 0, 0), (38, .bipush (-6), 2, 0, 0, 0), (40, .ireturn, 1, 0, 0, 0), (41, .aload_n 0, 1, 0, 0, 0), (42, .getfield 18, 3, 9, 3, 699), (45, .iload_n 1, 1, 0, 0, 0), (46, .iaload, 1, 0, 0, 0), (47, .istore 5, 2, 0, 0, 0), (49, .aload_n 0, 1, 0, 0, 0), (50, .getfield 21, 3, 9, 4, 700), (53, .bipush 60, 2, 0, 0, 0), (55, .iload_n 1, 1, 0, 0, 0), (56, .imul, 1, 0, 0, 0), (57, .iload_n 2, 1, 0, 0, 0), (58, .iadd, 1, 0, 0, 0), (59, .iload 5, 2, 0, 0, 0), (61, .ifCond .ne 10, 3, 0, 0, 0), (64, .lload_n 3, 1, 0, 0, 0), (65, .l2i, 1, 0, 0, 0), (66, .i2b, 1, 0, 0, 0), (67, .i2l, 1, 0, 0, 0), (68, .goto 29, 3, 0, 0, 0), (71, .iload 5, 2, 0, 0, 0), (73, .iconst 1, 1, 0, 0, 0), (74, .if_icmp .ne 10, 3, 0, 0, 0), (77, .lload_n 3, 1, 0, 0, 0), (78, .l2i, 1, 0, 0, 0), (79, .i2s, 1, 0, 0, 0), (80, .i2l, 1, 0, 0, 0), (81, .goto 16, 3, 0, 0, 0), (84, .iload 5, 2, 0, 0, 0), (86, .iconst 2, 1, 0, 0, 0), (87, .if_icmp .ne 9, 3, 0, 0, 0), (90, .lload_n 3, 1, 0, 0, 0), (91, .l2i, 1, 0, 0, 0), (92, .i2l, 1, 0, 0, 0), (93, .goto 4, 3, 0, 0, 0), (96, .lload_n 3, 1, 0, 0, 0), (97, .lastore, 1, 0, 0, 0), (98, .iconst 0, 1, 0, 0, 0), (99, .ireturn, 1, 0, 0, 0)])
def xm_M_crowd : xiM := (("virtual", yX9_crowd, cX9_crowd), (9, some .int, 1), (1, 20, 0, 0), [(0, .iload_n 1, 1, 0, 0, 0), (1, .invokestatic 132, 3, 125, 0, 767), (4, .ifCond .ne 6, 3, 0, 0, 0), (7, .bipush (-2), 2, 0, 0, 0), (9, .ireturn, 1, 0, 0, 0), (10, .aload_n 0, 1, 0, 0, 0), (11, .getfield 14, 3, 9, 2, 698), (14, .iload_n 1, 1, 0, 0, 0), (15, .iaload, 1, 0, 0, 0), (16, .ifCond .ne 6, 3, 0, 0, 0), (19, .bipush (-5), 2, 0, 0, 0), (21, .ireturn, 1, 0, 0, 0), (22, .aload_n 0, 1, 0, 0, 0), (23, .getfield 14, 3, 9, 2, 698), (26, .iload_n 1, 1, 0, 0, 0), (27, .iaload, 1, 0, 0, 0), (28, .iconst 1, 1, 0, 0, 0), (29, .isub, 1, 0, 0, 0), (30, .istore_n 2, 1, 0, 0, 0), (31, .iconst 1, 1, 0, 0, 0), (32, .istore_n 3, 1, 0, 0, 0), (33, .iconst 0, 1, 0, 0, 0), (34, .istore 4, 2, 0, 0, 0), (36, .iload 4, 2, 0, 0, 0), (38, .iload_n 3, 1, 0, 0, 0), (39, .if_icmp .ge 220, 3, 0, 0, 0), (42, .iload 4, 2, 0, 0, 0), (44, .iload_n 2, 1, 0, 0, 0), (45, .if_icmp .lt 6, 3, 0, 0, 0), (48, .bipush (-6), 2, 0, 0, 0), (50, .ireturn, 1, 0, 0, 0), (51, .aload_n 0, 1, 0, 0, 0), (52, .getfield 21, 3, 9, 4, 700), (55, .bipush 60, 2, 0, 0, 0), (57, .iload_n 1, 1, 0, 0, 0), (58, .imul, 1, 0, 0, 0), (59, .iload 4, 2, 0, 0, 0), (61, .iadd, 1, 0, 0, 0), (62, .laload, 1, 0, 0, 0), (63, .lstore 5, 2, 0, 0, 0), (65, .iload 4, 2, 0, 0, 0), (67, .ifCond .ne 46, 3, 0, 0, 0), (70, .lload 5, 2, 0, 0, 0), (72, .lconst 1, 1, 0, 0, 0), (73, .lcmp, 1, 0, 0, 0), (74, .ifCond .lt 16, 3, 0, 0, 0), (77, .lload 5, 2, 0, 0, 0), (79, .ldc2_w 135, 3, 10, 0, 782), (82, .lcmp, 1, 0, 0, 0), (83, .ifCond .gt 7, 3, 0, 0, 0), (86, .iconst 1, 1, 0, 0, 0), (87, .goto 4, 3, 0, 0, 0), (90, .iconst 0, 1, 0, 0, 0), (91, .istore 7, 2, 0, 0, 0), (93, .iload 7, 2, 0, 0, 0), (95, .ifCond .eq 13, 3, 0, 0, 0), (98, .iconst 1, 1, 0, 0, 0), (99, .iconst 4, 1, 0, 0, 0), (100, .lload 5, 2, 0, 0, 0), (102, .l2i, 1, 0, 0, 0), (103, .imul, 1, 0, 0, 0), (104, .iadd, 1, 0, 0, 0), (105, .goto 4, 3, 0, 0, 0), (108, .iconst 1, 1, 0, 0, 0), (109, .istore_n 3, 1, 0, 0, 0), (110, .goto 125, 3, 0, 0, 0), (113, .iload 4, 2, 0, 0, 0), (115, .iconst 1, 1, 0, 0, 0), (116, .isub, 1, 0, 0, 0), (117, .iconst 4, 1, 0, 0, 0), (118, .irem, 1, 0, 0, 0), (119, .istore 8, 2, 0, 0, 0), (121, .iload 8, 2, 0, 0, 0), (123, .ifCond .ne 29, 3, 0, 0, 0), (126, .lload 5, 2, 0, 0, 0), (128, .ldc2_w 137, 3, 18446744073709551516, 0, 783), (131, .lcmp, 1, 0, 0, 0), (132, .ifCond .lt 16, 3, 0, 0, 0), (135, .lload 5, 2, 0, 0, 0), (137, .ldc2_w 139, 3, 100, 0, 784), (140, .lcmp, 1, 0, 0, 0), (141, .ifCond .gt 7, 3, 0, 0, 0), (144, .iconst 1, 1, 0, 0, 0), (145, .goto 88, 3, 0, 0, 0), (148, .iconst 0, 1, 0, 0, 0), (149, .goto 84, 3, 0, 0, 0), (152, .iload 8, 2, 0, 0, 0), (154, .iconst 1, 1, 0, 0, 0), (155, .if_icmp .ne 27, 3, 0, 0, 0), (158, .lload 5, 2, 0, 0, 0), (160, .lconst 1, 1, 0, 0, 0), (161, .lcmp, 1, 0, 0, 0), (162, .ifCond .lt 16, 3, 0, 0, 0), (165, .lload 5, 2, 0, 0, 0), (167, .ldc2_w 141, 3, 50, 0, 785), (170, .lcmp, 1, 0, 0, 0), (171, .ifCond .gt 7, 3, 0, 0, 0), (174, .iconst 1, 1, 0, 0, 0), (175, .goto 58, 3, 0, 0, 0), (178, .iconst 0, 1, 0, 0, 0), (179, .goto 54, 3, 0, 0, 0), (182, .iload 8, 2, 0, 0, 0), (184, .iconst 2, 1, 0, 0, 0), (185, .if_icmp .ne 27, 3, 0, 0, 0), (188, .lload 5, 2, 0, 0, 0), (190, .lconst 0, 1, 0, 0, 0), (191, .lcmp, 1, 0, 0, 0), (192, .ifCond .lt 16, 3, 0, 0, 0), (195, .lload 5, 2, 0, 0, 0), (197, .ldc2_w 143, 3, 3, 0, 786), (200, .lcmp, 1, 0, 0, 0), (201, .ifCond .gt 7, 3, 0, 0, 0), (204, .iconst 1, 1, 0, 0, 0), (205, .goto 28, 3, 0, 0, 0), (208, .iconst 0, 1, 0, 0, 0), (209, .goto 24, 3, 0, 0, 0), (212, .lload 5, 2, 0, 0, 0), (214, .lconst 0, 1, 0, 0, 0), (215, .lcmp, 1, 0, 0, 0), (216, .ifCond .lt 16, 3, 0, 0, 0), (219, .lload 5, 2, 0, 0, 0), (221, .ldc2_w 139, 3, 100, 0, 784), (224, .lcmp, 1, 0, 0, 0), (225, .ifCond .gt 7, 3, 0, 0, 0), (228, .iconst 1, 1, 0, 0, 0), (229, .goto 4, 3, 0, 0, 0), (232, .iconst 0, 1, 0, 0, 0), (233, .istore 7, 2, 0, 0, 0), (235, .iload 7, 2, 0, 0, 0), (237, .ifCond .ne 6, 3, 0, 0, 0), (240, .bipush (-4), 2, 0, 0, 0), (242, .ireturn, 1, 0, 0, 0), (243, .aload_n 0, 1, 0, 0, 0), (244, .getfield 55, 3, 9, 16, 712), (247, .iload 4, 2, 0, 0, 0), (249, .lload 5, 2, 0, 0, 0), (251, .l2i, 1, 0, 0, 0), (252, .iastore, 1, 0, 0, 0), (253, .iinc 4 1, 3, 0, 0, 0), (256, .goto (-220), 3, 0, 0, 0), (259, .aload_n 0, 1, 0, 0, 0), (260, .aload_n 0, 1, 0, 0, 0), (261, .getfield 55, 3, 9, 16, 712), (264, .iconst 0, 1, 0, 0, 0), (265, .iaload, 1, 0, 0, 0), (266, .putfield 24, 3, 9, 5, 701), (269, .iconst 0, 1, 0, 0, 0), (270, .istore 4, 2, 0, 0, 0), (272, .iload 4, 2, 0, 0, 0), (274, .aload_n 0, 1, 0, 0, 0), (275, .getfield 24, 3, 9, 5, 701), (278, .if_icmp .ge 81, 3, 0, 0, 0), (281, .aload_n 0, 1, 0, 0, 0), (282, .getfield 28, 3, 9, 6, 702), (285, .iload 4, 2, 0, 0, 0), (287, .aload_n 0, 1, 0, 0, 0), (288, .getfield 55, 3, 9, 16, 712), (291, .iconst 1, 1, 0, 0, 0), (292, .iconst 4, 1, 0, 0, 0), (293, .iload 4, 2, 0, 0, 0), (295, .imul, 1, 0, 0, 0), (296, .iadd, 1, 0, 0, 0), (297, .iaload, 1, 0, 0, 0), (298, .iastore, 1, 0, 0, 0), (299, .aload_n 0, 1, 0, 0, 0), (300, .getfield 31, 3, 9, 7, 703), (303, .iload 4, 2, 0, 0, 0), (305, .aload_n 0, 1, 0, 0, 0), (306, .getfield 55, 3, 9, 16, 712), (309, .iconst 2, 1, 0, 0, 0), (310, .iconst 4, 1, 0, 0, 0), (311, .iload 4, 2, 0, 0, 0), (313, .imul, 1, 0, 0, 0), (314, .iadd, 1, 0, 0, 0), (315, .iaload, 1, 0, 0, 0), (316, .iastore, 1, 0, 0, 0), (317, .aload_n 0, 1, 0, 0, 0), (318, .getfield 34, 3, 9, 8, 704), (321, .iload 4, 2, 0, 0, 0), (323, .aload_n 0, 1, 0, 0, 0), (324, .getfield 55, 3, 9, 16, 712), (327, .iconst 3, 1, 0, 0, 0), (328, .iconst 4, 1, 0, 0, 0), (329, .iload 4, 2, 0, 0, 0), (331, .imul, 1, 0, 0, 0), (332, .iadd, 1, 0, 0, 0), (333, .iaload, 1, 0, 0, 0), (334, .iastore, 1, 0, 0, 0), (335, .aload_n 0, 1, 0, 0, 0), (336, .getfield 37, 3, 9, 9, 705), (339, .iload 4, 2, 0, 0, 0), (341, .aload_n 0, 1, 0, 0, 0), (342, .getfield 55, 3, 9, 16, 712), (345, .iconst 4, 1, 0, 0, 0), (346, .iconst 4, 1, 0, 0, 0), (347, .iload 4, 2, 0, 0, 0), (349, .imul, 1, 0, 0, 0), (350, .iadd, 1, 0, 0, 0), (351, .iaload, 1, 0, 0, 0), (352, .iastore, 1, 0, 0, 0), (353, .iinc 4 1, 3, 0, 0, 0), (356, .goto (-84), 3, 0, 0, 0), (359, .iconst 0, 1, 0, 0, 0), (360, .istore 4, 2, 0, 0, 0), (362, .iload 4, 2, 0, 0, 0), (364, .iconst 4, 1, 0, 0, 0), (365, .if_icmp .ge 17, 3, 0, 0, 0), (368, .aload_n 0, 1, 0, 0, 0), (369, .getfield 40, 3, 9, 10, 706), (372, .iload 4, 2, 0, 0, 0), (374, .iconst 0, 1, 0, 0, 0), (375, .iastore, 1, 0, 0, 0), (376, .iinc 4 1, 3, 0, 0, 0), (379, .goto (-17), 3, 0, 0, 0), (382, .aload_n 0, 1, 0, 0, 0), (383, .iconst 0, 1, 0, 0, 0), (384, .putfield 145, 3, 9, 11, 707), (387, .aload_n 0, 1, 0, 0, 0), (388, .iconst 1, 1, 0, 0, 0), (389, .putfield 43, 3, 9, 12, 708), (392, .aload_n 0, 1, 0, 0, 0), (393, .iconst 0, 1, 0, 0, 0), (394, .putfield 148, 3, 9, 1, 697), (397, .aload_n 0, 1, 0, 0, 0), (398, .getfield 24, 3, 9, 5, 701), (401, .ireturn, 1, 0, 0, 0)])
def xm_M_namesOf : xiM := (("virtual", yX9_namesOf, cX9_namesOf), (4, some .int, 1), (0, 0, 0, 0), [(0, .iconst 0, 1, 0, 0, 0), (1, .istore_n 2, 1, 0, 0, 0), (2, .iconst 0, 1, 0, 0, 0), (3, .istore_n 3, 1, 0, 0, 0), (4, .iload_n 3, 1, 0, 0, 0), (5, .aload_n 0, 1, 0, 0, 0), (6, .getfield 24, 3, 9, 5, 701), (9, .if_icmp .ge 27, 3, 0, 0, 0), (12, .iload_n 2, 1, 0, 0, 0), (13, .aload_n 0, 1, 0, 0, 0), (14, .getfield 34, 3, 9, 8, 704), (17, .iload_n 3, 1, 0, 0, 0), (18, .iaload, 1, 0, 0, 0), (19, .iload_n 1, 1, 0, 0, 0), (20, .if_icmp .ne 7, 3, 0, 0, 0), (23, .iconst 1, 1, 0, 0, 0), (24, .goto 4, 3, 0, 0, 0), (27, .iconst 0, 1, 0, 0, 0), (28, .iadd, 1, 0, 0, 0), (29, .istore_n 2, 1, 0, 0, 0), (30, .iinc 3 1, 3, 0, 0, 0), (33, .goto (-29), 3, 0, 0, 0), (36, .iload_n 2, 1, 0, 0, 0), (37, .ireturn, 1, 0, 0, 0)])
def xm_M_isHeap : xiM := (("static", yX9_isHeap, cX9_isHeap), (1, some .boolean, 1), (0, 0, 0, 0), [(0, .iload_n 0, 1, 0, 0, 0), (1, .ifCond .lt 12, 3, 0, 0, 0), (4, .iload_n 0, 1, 0, 0, 0), (5, .iconst 3, 1, 0, 0, 0), (6, .if_icmp .gt 7, 3, 0, 0, 0), (9, .iconst 1, 1, 0, 0, 0), (10, .goto 4, 3, 0, 0, 0), (13, .iconst 0, 1, 0, 0, 0), (14, .ireturn, 1, 0, 0, 0)])
def xm_M_isName : xiM := (("virtual", yX9_isName, cX9_isName), (2, some .boolean, 1), (0, 0, 0, 0), [(0, .iload_n 1, 1, 0, 0, 0), (1, .ifCond .lt 15, 3, 0, 0, 0), (4, .iload_n 1, 1, 0, 0, 0), (5, .aload_n 0, 1, 0, 0, 0), (6, .getfield 24, 3, 9, 5, 701), (9, .if_icmp .ge 7, 3, 0, 0, 0), (12, .iconst 1, 1, 0, 0, 0), (13, .goto 4, 3, 0, 0, 0), (16, .iconst 0, 1, 0, 0, 0), (17, .ireturn, 1, 0, 0, 0)])
def xm_M_drawn : xiM := (("virtual", yX9_drawn, cX9_drawn), (3, some .int, 2), (1, 23, 0, 0), [(0, .iload_n 1, 1, 0, 0, 0), (1, .invokestatic 152, 3, 131, 0, 791), (4, .ifCond .ne 6, 3, 0, 0, 0), (7, .bipush (-2), 2, 0, 0, 0), (9, .ireturn, 1, 0, 0, 0), (10, .iload_n 2, 1, 0, 0, 0), (11, .ifCond .lt 12, 3, 0, 0, 0), (14, .iload_n 2, 1, 0, 0, 0), (15, .aload_n 0, 1, 0, 0, 0), (16, .iload_n 1, 1, 0, 0, 0), (17, .invokevirtual 155, 3, 130, 9, 794), (20, .if_icmp .le 6, 3, 0, 0, 0), (23, .bipush (-4), 2, 0, 0, 0), (25, .ireturn, 1, 0, 0, 0), (26, .aload_n 0, 1, 0, 0, 0), (27, .getfield 40, 3, 9, 10, 706), (30, .iload_n 1, 1, 0, 0, 0), (31, .iload_n 2, 1, 0, 0, 0), (32, .iastore, 1, 0, 0, 0), (33, .aload_n 0, 1, 0, 0, 0), (34, .iconst 0, 1, 0, 0, 0), (35, .putfield 148, 3, 9, 1, 697), (38, .iconst 0, 1, 0, 0, 0), (39, .ireturn, 1, 0, 0, 0)])
def xm_M_sizes : xiM := (("virtual", yX9_sizes, cX9_sizes), (3, some .int, 0), (0, 0, 0, 0), [(0, .iconst 0, 1, 0, 0, 0), (1, .istore_n 1, 1, 0, 0, 0), (2, .iconst 0, 1, 0, 0, 0), (3, .istore_n 2, 1, 0, 0, 0), (4, .iload_n 2, 1, 0, 0, 0), (5, .aload_n 0, 1, 0, 0, 0), (6, .getfield 24, 3, 9, 5, 701), (9, .if_icmp .ge 18, 3, 0, 0, 0), (12, .iload_n 1, 1, 0, 0, 0), (13, .aload_n 0, 1, 0, 0, 0), (14, .getfield 31, 3, 9, 7, 703), (17, .iload_n 2, 1, 0, 0, 0), (18, .iaload, 1, 0, 0, 0), (19, .iadd, 1, 0, 0, 0), (20, .istore_n 1, 1, 0, 0, 0), (21, .iinc 2 1, 3, 0, 0, 0), (24, .goto (-20), 3, 0, 0, 0), (27, .iload_n 1, 1, 0, 0, 0), (28, .ireturn, 1, 0, 0, 0)])
def xm_M_draw : xiM := (("virtual", yX9_draw, cX9_draw), (5, some .int, 2), (1, 22, 0, 0), [(0, .iload_n 1, 1, 0, 0, 0), (1, .ifCond .lt 8, 3, 0, 0, 0), (4, .iload_n 1, 1, 0, 0, 0), (5, .iconst 4, 1, 0, 0, 0), (6, .if_icmp .le 6, 3, 0, 0, 0), (9, .bipush (-2), 2, 0, 0, 0), (11, .ireturn, 1, 0, 0, 0), (12, .iload_n 1, 1, 0, 0, 0), (13, .iconst 1, 1, 0, 0, 0), (14, .if_icmp .eq 12, 3, 0, 0, 0), (17, .iload_n 1, 1, 0, 0, 0), (18, .iconst 3, 1, 0, 0, 0), (19, .if_icmp .eq 7, 3, 0, 0, 0), (22, .iconst 1, 1, 0, 0, 0), (23, .goto 4, 3, 0, 0, 0), (26, .iconst 0, 1, 0, 0, 0), (27, .istore_n 3, 1, 0, 0, 0), (28, .iload_n 3, 1, 0, 0, 0), (29, .ifCond .eq 28, 3, 0, 0, 0), (32, .iload_n 2, 1, 0, 0, 0), (33, .iload_n 1, 1, 0, 0, 0), (34, .iconst 2, 1, 0, 0, 0), (35, .if_icmp .ne 7, 3, 0, 0, 0), (38, .iconst 1, 1, 0, 0, 0), (39, .goto 4, 3, 0, 0, 0), (42, .iconst 0, 1, 0, 0, 0), (43, .if_icmp .lt 11, 3, 0, 0, 0), (46, .iload_n 2, 1, 0, 0, 0), (47, .aload_n 0, 1, 0, 0, 0), (48, .getfield 24, 3, 9, 5, 701), (51, .if_icmp .le 6, 3, 0, 0, 0), (54, .bipush (-4), 2, 0, 0, 0), (56, .ireturn, 1, 0, 0, 0), (57, .iconst 0, 1, 0, 0, 0), (58, .istore 4, 2, 0, 0, 0), (60, .iload 4, 2, 0, 0, 0), (62, .aload_n 0, 1, 0, 0, 0), (63, .getfield 24, 3, 9, 5, 701), (66, .if_icmp .ge 33, 3, 0, 0, 0), (69, .iload_n 1, 1, 0, 0, 0), (70, .iconst 2, 1, 0, 0, 0), (71, .if_icmp .ne 28, 3, 0, 0, 0), (74, .aload_n 0, 1, 0, 0, 0), (75, .getfield 31, 3, 9, 7, 703), (78, .iload 4, 2, 0, 0, 0), (80, .iaload, 1, 0, 0, 0), (81, .iload_n 2, 1, 0, 0, 0), (82, .imul, 1, 0, 0, 0), (83, .aload_n 0, 1, 0, 0, 0), (84, .invokevirtual 159, 3, 134, 9, 801), (87, .if_icmp .le 6, 3, 0, 0, 0), (90, .bipush (-4), 2, 0, 0, 0), (92, .ireturn, 1, 0, 0, 0), (93, .iinc 4 1, 3, 0, 0, 0), (96, .goto (-36), 3, 0, 0, 0), (99, .aload_n 0, 1, 0, 0, 0), (100, .iload_n 1, 1, 0, 0, 0), (101, .putfield 145, 3, 9, 11, 707), (104, .aload_n 0, 1, 0, 0, 0), (105, .iload_n 3, 1, 0, 0, 0), (106, .ifCond .eq 7, 3, 0, 0, 0), (109, .iload_n 2, 1, 0, 0, 0), (110, .goto 4, 3, 0, 0, 0), (113, .iconst 0, 1, 0, 0, 0), (114, .putfield 43, 3, 9, 12, 708), (117, .aload_n 0, 1, 0, 0, 0), (118, .iconst 0, 1, 0, 0, 0), (119, .putfield 148, 3, 9, 1, 697), (122, .iconst 0, 1, 0, 0, 0), (123, .ireturn, 1, 0, 0, 0)])
def xm_M_bits : xiM := (("static", yX9_bits, cX9_bits), (3, some .int, 1), (0, 0, 0, 0), [(0, .iconst 0, 1, 0, 0, 0), (1, .istore_n 1, 1, 0, 0, 0), (2, .iconst 0, 1, 0, 0, 0), (3, .istore_n 2, 1, 0, 0, 0), (4, .iload_n 2, 1, 0, 0, 0), (5, .bipush 10, 2, 0, 0, 0), (7, .if_icmp .ge 17, 3, 0, 0, 0), (10, .iload_n 1, 1, 0, 0, 0), (11, .iload_n 0, 1, 0, 0, 0), (12, .iload_n 2, 1, 0, 0, 0), (13, .ishr, 1, 0, 0, 0), (14, .iconst 1, 1, 0, 0, 0), (15, .iand, 1, 0, 0, 0), (16, .iadd, 1, 0, 0, 0), (17, .istore_n 1, 1, 0, 0, 0), (18, .iinc 2 1, 3, 0, 0, 0), (21, .goto (-17), 3, 0, 0, 0), (24, .iload_n 1, 1, 0, 0, 0), (25, .ireturn, 1, 0, 0, 0)])
def xm_M_isByHeaps : xiM := (("virtual", yX9_isByHeaps, cX9_isByHeaps), (5, some .boolean, 1), (0, 0, 0, 0), [(0, .iconst 0, 1, 0, 0, 0), (1, .istore_n 2, 1, 0, 0, 0), (2, .iload_n 2, 1, 0, 0, 0), (3, .iconst 4, 1, 0, 0, 0), (4, .if_icmp .ge 65, 3, 0, 0, 0), (7, .iconst 0, 1, 0, 0, 0), (8, .istore_n 3, 1, 0, 0, 0), (9, .iconst 0, 1, 0, 0, 0), (10, .istore 4, 2, 0, 0, 0), (12, .iload 4, 2, 0, 0, 0), (14, .aload_n 0, 1, 0, 0, 0), (15, .getfield 24, 3, 9, 5, 701), (18, .if_icmp .ge 33, 3, 0, 0, 0), (21, .iload_n 3, 1, 0, 0, 0), (22, .aload_n 0, 1, 0, 0, 0), (23, .getfield 34, 3, 9, 8, 704), (26, .iload 4, 2, 0, 0, 0), (28, .iaload, 1, 0, 0, 0), (29, .iload_n 2, 1, 0, 0, 0), (30, .if_icmp .ne 12, 3, 0, 0, 0), (33, .iload_n 1, 1, 0, 0, 0), (34, .iload 4, 2, 0, 0, 0), (36, .ishr, 1, 0, 0, 0), (37, .iconst 1, 1, 0, 0, 0), (38, .iand, 1, 0, 0, 0), (39, .goto 4, 3, 0, 0, 0), (42, .iconst 0, 1, 0, 0, 0), (43, .iadd, 1, 0, 0, 0), (44, .istore_n 3, 1, 0, 0, 0), (45, .iinc 4 1, 3, 0, 0, 0), (48, .goto (-36), 3, 0, 0, 0), (51, .iload_n 3, 1, 0, 0, 0), (52, .aload_n 0, 1, 0, 0, 0), (53, .getfield 40, 3, 9, 10, 706), (56, .iload_n 2, 1, 0, 0, 0), (57, .iaload, 1, 0, 0, 0), (58, .if_icmp .eq 5, 3, 0, 0, 0), (61, .iconst 0, 1, 0, 0, 0), (62, .ireturn, 1, 0, 0, 0), (63, .iinc 2 1, 3, 0, 0, 0), (66, .goto (-64), 3, 0, 0, 0), (69, .iconst 1, 1, 0, 0, 0), (70, .ireturn, 1, 0, 0, 0)])
def xm_M_standsAt : xiM := (("virtual", yX9_standsAt, cX9_standsAt), (4, some .int, 1), (0, 0, 0, 0), [(0, .iconst 0, 1, 0, 0, 0), (1, .istore_n 2, 1, 0, 0, 0), (2, .aload_n 0, 1, 0, 0, 0), (3, .getfield 43, 3, 9, 12, 708), (6, .aload_n 0, 1, 0, 0, 0), (7, .getfield 31, 3, 9, 7, 703), (10, .iconst 0, 1, 0, 0, 0), (11, .iaload, 1, 0, 0, 0), (12, .imul, 1, 0, 0, 0), (13, .istore_n 3, 1, 0, 0, 0), (14, .iload_n 3, 1, 0, 0, 0), (15, .iload_n 1, 1, 0, 0, 0), (16, .if_icmp .gt 23, 3, 0, 0, 0), (19, .iinc 2 1, 3, 0, 0, 0), (22, .iload_n 3, 1, 0, 0, 0), (23, .aload_n 0, 1, 0, 0, 0), (24, .getfield 43, 3, 9, 12, 708), (27, .aload_n 0, 1, 0, 0, 0), (28, .getfield 31, 3, 9, 7, 703), (31, .iload_n 2, 1, 0, 0, 0), (32, .iaload, 1, 0, 0, 0), (33, .imul, 1, 0, 0, 0), (34, .iadd, 1, 0, 0, 0), (35, .istore_n 3, 1, 0, 0, 0), (36, .goto (-22), 3, 0, 0, 0), (39, .iload_n 2, 1, 0, 0, 0), (40, .ireturn, 1, 0, 0, 0)])
def xm_M_one : xiM := (("virtual", yX9_one, cX9_one), (4, none, 2), (3, 74, 0, 0), [(0, .aload_n 0, 1, 0, 0, 0), (1, .iconst 5, 1, 0, 0, 0), (2, .lload_n 2, 1, 0, 0, 0), (3, .invokevirtual 64, 3, 109, 9, 687), (6, .aload_n 0, 1, 0, 0, 0), (7, .iload_n 1, 1, 0, 0, 0), (8, .iconst 5, 1, 0, 0, 0), (9, .lconst 1, 1, 0, 0, 0), (10, .invokevirtual 125, 3, 111, 9, 824), (13, .return_, 1, 0, 0, 0)])
def xm_M_weigh : xiM := (("virtual", yX9_weigh, cX9_weigh), (3, none, 1), (5, 127, 0, 0), [(0, .aload_n 0, 1, 0, 0, 0), (1, .bipush 6, 2, 0, 0, 0), (3, .lconst 1, 1, 0, 0, 0), (4, .invokevirtual 64, 3, 109, 9, 687), (7, .aload_n 0, 1, 0, 0, 0), (8, .getfield 145, 3, 9, 11, 707), (11, .ifCond .ne 28, 3, 0, 0, 0), (14, .aload_n 0, 1, 0, 0, 0), (15, .bipush 6, 2, 0, 0, 0), (17, .iload_n 1, 1, 0, 0, 0), (18, .invokestatic 163, 3, 136, 0, 830), (21, .aload_n 0, 1, 0, 0, 0), (22, .getfield 43, 3, 9, 12, 708), (25, .if_icmp .ne 7, 3, 0, 0, 0), (28, .lconst 1, 1, 0, 0, 0), (29, .goto 4, 3, 0, 0, 0), (32, .lconst 0, 1, 0, 0, 0), (33, .invokevirtual 64, 3, 109, 9, 687), (36, .goto 175, 3, 0, 0, 0), (39, .aload_n 0, 1, 0, 0, 0), (40, .getfield 145, 3, 9, 11, 707), (43, .iconst 1, 1, 0, 0, 0), (44, .if_icmp .ne 25, 3, 0, 0, 0), (47, .aload_n 0, 1, 0, 0, 0), (48, .bipush 6, 2, 0, 0, 0), (50, .aload_n 0, 1, 0, 0, 0), (51, .iload_n 1, 1, 0, 0, 0), (52, .invokevirtual 166, 3, 137, 9, 833), (55, .ifCond .eq 7, 3, 0, 0, 0), (58, .lconst 1, 1, 0, 0, 0), (59, .goto 4, 3, 0, 0, 0), (62, .lconst 0, 1, 0, 0, 0), (63, .invokevirtual 64, 3, 109, 9, 687), (66, .goto 145, 3, 0, 0, 0), (69, .aload_n 0, 1, 0, 0, 0), (70, .getfield 145, 3, 9, 11, 707), (73, .iconst 3, 1, 0, 0, 0), (74, .if_icmp .ne 65, 3, 0, 0, 0), (77, .iconst 0, 1, 0, 0, 0), (78, .istore_n 2, 1, 0, 0, 0), (79, .iload_n 2, 1, 0, 0, 0), (80, .aload_n 0, 1, 0, 0, 0), (81, .getfield 24, 3, 9, 5, 701), (84, .if_icmp .ge 52, 3, 0, 0, 0), (87, .aload_n 0, 1, 0, 0, 0), (88, .iconst 5, 1, 0, 0, 0), (89, .iload_n 1, 1, 0, 0, 0), (90, .iload_n 2, 1, 0, 0, 0), (91, .ishr, 1, 0, 0, 0), (92, .iconst 1, 1, 0, 0, 0), (93, .iand, 1, 0, 0, 0), (94, .iconst 1, 1, 0, 0, 0), (95, .if_icmp .ne 13, 3, 0, 0, 0), (98, .aload_n 0, 1, 0, 0, 0), (99, .getfield 37, 3, 9, 9, 705), (102, .iload_n 2, 1, 0, 0, 0), (103, .iaload, 1, 0, 0, 0), (104, .i2l, 1, 0, 0, 0), (105, .goto 13, 3, 0, 0, 0), (108, .bipush 100, 2, 0, 0, 0), (110, .aload_n 0, 1, 0, 0, 0), (111, .getfield 37, 3, 9, 9, 705), (114, .iload_n 2, 1, 0, 0, 0), (115, .iaload, 1, 0, 0, 0), (116, .isub, 1, 0, 0, 0), (117, .i2l, 1, 0, 0, 0), (118, .invokevirtual 64, 3, 109, 9, 687), (121, .aload_n 0, 1, 0, 0, 0), (122, .bipush 6, 2, 0, 0, 0), (124, .bipush 6, 2, 0, 0, 0), (126, .iconst 5, 1, 0, 0, 0), (127, .invokevirtual 169, 3, 118, 9, 836), (130, .iinc 2 1, 3, 0, 0, 0), (133, .goto (-54), 3, 0, 0, 0), (136, .goto 75, 3, 0, 0, 0), (139, .aload_n 0, 1, 0, 0, 0), (140, .bipush 6, 2, 0, 0, 0), (142, .iload_n 1, 1, 0, 0, 0), (143, .invokestatic 163, 3, 136, 0, 830), (146, .aload_n 0, 1, 0, 0, 0), (147, .getfield 43, 3, 9, 12, 708), (150, .if_icmp .ne 7, 3, 0, 0, 0), (153, .lconst 1, 1, 0, 0, 0), (154, .goto 4, 3, 0, 0, 0), (157, .lconst 0, 1, 0, 0, 0), (158, .invokevirtual 64, 3, 109, 9, 687), (161, .iconst 0, 1, 0, 0, 0), (162, .istore_n 2, 1, 0, 0, 0), (163, .iload_n 2, 1, 0, 0, 0), (164, .aload_n 0, 1, 0, 0, 0), (165, .getfield 24, 3, 9, 5, 701), (168, .if_icmp .ge 43, 3, 0, 0, 0), (171, .aload_n 0, 1, 0, 0, 0), (172, .iconst 5, 1, 0, 0, 0), (173, .iload_n 1, 1, 0, 0, 0), (174, .iload_n 2, 1, 0, 0, 0), (175, .ishr, 1, 0, 0, 0), (176, .iconst 1, 1, 0, 0, 0), (177, .iand, 1, 0, 0, 0), (178, .iconst 1, 1, 0, 0, 0), (179, .if_icmp .ne 13, 3, 0, 0, 0), (182, .aload_n 0, 1, 0, 0, 0), (183, .getfield 31, 3, 9, 7, 703), (186, .iload_n 2, 1, 0, 0, 0), (187, .iaload, 1, 0, 0, 0), (188, .i2l, 1, 0, 0, 0), (189, .goto 4, 3, 0, 0, 0), (192, .lconst 1, 1, 0, 0, 0), (193, .invokevirtual 64, 3, 109, 9, 687), (196, .aload_n 0, 1, 0, 0, 0), (197, .bipush 6, 2, 0, 0, 0), (199, .bipush 6, 2, 0, 0, 0), (201, .iconst 5, 1, 0, 0, 0), (202, .invokevirtual 169, 3, 118, 9, 836), (205, .iinc 2 1, 3, 0, 0, 0), (208, .goto (-45), 3, 0, 0, 0), (211, .return_, 1, 0, 0, 0)])
def xm_M_know : xiM := (("virtual", yX9_know, cX9_know), (5, none, 0), (7, 177, 0, 0), [(0, .aload_n 0, 1, 0, 0, 0), (1, .getfield 148, 3, 9, 1, 697), (4, .ifCond .eq 4, 3, 0, 0, 0), (7, .return_, 1, 0, 0, 0), (8, .aload_n 0, 1, 0, 0, 0), (9, .iconst 1, 1, 0, 0, 0), (10, .putfield 148, 3, 9, 1, 697), (13, .aload_n 0, 1, 0, 0, 0), (14, .bipush 11, 2, 0, 0, 0), (16, .lconst 0, 1, 0, 0, 0), (17, .invokevirtual 64, 3, 109, 9, 687), (20, .iconst 0, 1, 0, 0, 0), (21, .istore_n 1, 1, 0, 0, 0), (22, .iload_n 1, 1, 0, 0, 0), (23, .iconst 1, 1, 0, 0, 0), (24, .aload_n 0, 1, 0, 0, 0), (25, .getfield 24, 3, 9, 5, 701), (28, .ishl, 1, 0, 0, 0), (29, .if_icmp .ge 18, 3, 0, 0, 0), (32, .aload_n 0, 1, 0, 0, 0), (33, .bipush 43, 2, 0, 0, 0), (35, .iload_n 1, 1, 0, 0, 0), (36, .iadd, 1, 0, 0, 0), (37, .lconst 0, 1, 0, 0, 0), (38, .invokevirtual 64, 3, 109, 9, 687), (41, .iinc 1 1, 3, 0, 0, 0), (44, .goto (-22), 3, 0, 0, 0), (47, .aload_n 0, 1, 0, 0, 0), (48, .getfield 145, 3, 9, 11, 707), (51, .iconst 2, 1, 0, 0, 0), (52, .if_icmp .ne 76, 3, 0, 0, 0), (55, .aload_n 0, 1, 0, 0, 0), (56, .invokevirtual 159, 3, 134, 9, 801), (59, .istore_n 1, 1, 0, 0, 0), (60, .iconst 0, 1, 0, 0, 0), (61, .istore_n 2, 1, 0, 0, 0), (62, .iload_n 2, 1, 0, 0, 0), (63, .iload_n 1, 1, 0, 0, 0), (64, .if_icmp .ge 53, 3, 0, 0, 0), (67, .iconst 0, 1, 0, 0, 0), (68, .istore_n 3, 1, 0, 0, 0), (69, .iconst 0, 1, 0, 0, 0), (70, .istore 4, 2, 0, 0, 0), (72, .iload 4, 2, 0, 0, 0), (74, .aload_n 0, 1, 0, 0, 0), (75, .getfield 43, 3, 9, 12, 708), (78, .if_icmp .ge 24, 3, 0, 0, 0), (81, .iload_n 3, 1, 0, 0, 0), (82, .iconst 1, 1, 0, 0, 0), (83, .aload_n 0, 1, 0, 0, 0), (84, .iload_n 2, 1, 0, 0, 0), (85, .iload 4, 2, 0, 0, 0), (87, .iload_n 1, 1, 0, 0, 0), (88, .imul, 1, 0, 0, 0), (89, .iadd, 1, 0, 0, 0), (90, .invokevirtual 173, 3, 138, 9, 818), (93, .ishl, 1, 0, 0, 0), (94, .ior, 1, 0, 0, 0), (95, .istore_n 3, 1, 0, 0, 0), (96, .iinc 4 1, 3, 0, 0, 0), (99, .goto (-27), 3, 0, 0, 0), (102, .aload_n 0, 1, 0, 0, 0), (103, .bipush 43, 2, 0, 0, 0), (105, .iload_n 3, 1, 0, 0, 0), (106, .iadd, 1, 0, 0, 0), (107, .lconst 1, 1, 0, 0, 0), (108, .invokevirtual 176, 3, 139, 9, 821), (111, .iinc 2 1, 3, 0, 0, 0), (114, .goto (-52), 3, 0, 0, 0), (117, .aload_n 0, 1, 0, 0, 0), (118, .bipush 11, 2, 0, 0, 0), (120, .iload_n 1, 1, 0, 0, 0), (121, .i2l, 1, 0, 0, 0), (122, .invokevirtual 64, 3, 109, 9, 687), (125, .goto 45, 3, 0, 0, 0), (128, .iconst 0, 1, 0, 0, 0), (129, .istore_n 1, 1, 0, 0, 0), (130, .iload_n 1, 1, 0, 0, 0), (131, .iconst 1, 1, 0, 0, 0), (132, .aload_n 0, 1, 0, 0, 0), (133, .getfield 24, 3, 9, 5, 701), (136, .ishl, 1, 0, 0, 0), (137, .if_icmp .ge 33, 3, 0, 0, 0), (140, .aload_n 0, 1, 0, 0, 0), (141, .iload_n 1, 1, 0, 0, 0), (142, .invokevirtual 179, 3, 140, 9, 827), (145, .aload_n 0, 1, 0, 0, 0), (146, .bipush 43, 2, 0, 0, 0), (148, .iload_n 1, 1, 0, 0, 0), (149, .iadd, 1, 0, 0, 0), (150, .bipush 6, 2, 0, 0, 0), (152, .invokevirtual 109, 3, 110, 9, 851), (155, .aload_n 0, 1, 0, 0, 0), (156, .bipush 11, 2, 0, 0, 0), (158, .bipush 6, 2, 0, 0, 0), (160, .lconst 1, 1, 0, 0, 0), (161, .invokevirtual 125, 3, 111, 9, 824), (164, .iinc 1 1, 3, 0, 0, 0), (167, .goto (-37), 3, 0, 0, 0), (170, .aload_n 0, 1, 0, 0, 0), (171, .bipush 12, 2, 0, 0, 0), (173, .lconst 1, 1, 0, 0, 0), (174, .invokevirtual 64, 3, 109, 9, 687), (177, .iconst 0, 1, 0, 0, 0), (178, .istore_n 1, 1, 0, 0, 0), (179, .iload_n 1, 1, 0, 0, 0), (180, .aload_n 0, 1, 0, 0, 0), (181, .getfield 24, 3, 9, 5, 701), (184, .if_icmp .ge 136, 3, 0, 0, 0), (187, .aload_n 0, 1, 0, 0, 0), (188, .bipush 7, 2, 0, 0, 0), (190, .lconst 0, 1, 0, 0, 0), (191, .invokevirtual 64, 3, 109, 9, 687), (194, .iconst 0, 1, 0, 0, 0), (195, .istore_n 2, 1, 0, 0, 0), (196, .iload_n 2, 1, 0, 0, 0), (197, .iconst 1, 1, 0, 0, 0), (198, .aload_n 0, 1, 0, 0, 0), (199, .getfield 24, 3, 9, 5, 701), (202, .ishl, 1, 0, 0, 0), (203, .if_icmp .ge 29, 3, 0, 0, 0), (206, .iload_n 2, 1, 0, 0, 0), (207, .iload_n 1, 1, 0, 0, 0), (208, .ishr, 1, 0, 0, 0), (209, .iconst 1, 1, 0, 0, 0), (210, .iand, 1, 0, 0, 0), (211, .iconst 1, 1, 0, 0, 0), (212, .if_icmp .ne 14, 3, 0, 0, 0), (215, .aload_n 0, 1, 0, 0, 0), (216, .bipush 7, 2, 0, 0, 0), (218, .bipush 43, 2, 0, 0, 0), (220, .iload_n 2, 1, 0, 0, 0), (221, .iadd, 1, 0, 0, 0), (222, .lconst 1, 1, 0, 0, 0), (223, .invokevirtual 125, 3, 111, 9, 824), (226, .iinc 2 1, 3, 0, 0, 0), (229, .goto (-33), 3, 0, 0, 0), (232, .aload_n 0, 1, 0, 0, 0), (233, .bipush 13, 2, 0, 0, 0), (235, .iload_n 1, 1, 0, 0, 0), (236, .iadd, 1, 0, 0, 0), (237, .bipush 7, 2, 0, 0, 0), (239, .invokevirtual 109, 3, 110, 9, 851), (242, .aload_n 0, 1, 0, 0, 0), (243, .bipush 23, 2, 0, 0, 0), (245, .iload_n 1, 1, 0, 0, 0), (246, .iadd, 1, 0, 0, 0), (247, .bipush 11, 2, 0, 0, 0), (249, .invokevirtual 109, 3, 110, 9, 851), (252, .aload_n 0, 1, 0, 0, 0), (253, .bipush 13, 2, 0, 0, 0), (255, .iload_n 1, 1, 0, 0, 0), (256, .iadd, 1, 0, 0, 0), (257, .bipush 23, 2, 0, 0, 0), (259, .iload_n 1, 1, 0, 0, 0), (260, .iadd, 1, 0, 0, 0), (261, .invokevirtual 182, 3, 142, 9, 854), (264, .aload_n 0, 1, 0, 0, 0), (265, .bipush 13, 2, 0, 0, 0), (267, .iload_n 1, 1, 0, 0, 0), (268, .iadd, 1, 0, 0, 0), (269, .invokevirtual 83, 3, 113, 9, 860), (272, .ifCond .eq 6, 3, 0, 0, 0), (275, .goto 39, 3, 0, 0, 0), (278, .aload_n 0, 1, 0, 0, 0), (279, .bipush 7, 2, 0, 0, 0), (281, .bipush 12, 2, 0, 0, 0), (283, .invokevirtual 109, 3, 110, 9, 851), (286, .aload_n 0, 1, 0, 0, 0), (287, .bipush 8, 2, 0, 0, 0), (289, .bipush 13, 2, 0, 0, 0), (291, .iload_n 1, 1, 0, 0, 0), (292, .iadd, 1, 0, 0, 0), (293, .invokevirtual 109, 3, 110, 9, 851), (296, .aload_n 0, 1, 0, 0, 0), (297, .bipush 7, 2, 0, 0, 0), (299, .bipush 8, 2, 0, 0, 0), (301, .invokevirtual 182, 3, 142, 9, 854), (304, .aload_n 0, 1, 0, 0, 0), (305, .bipush 12, 2, 0, 0, 0), (307, .bipush 12, 2, 0, 0, 0), (309, .bipush 8, 2, 0, 0, 0), (311, .invokevirtual 169, 3, 118, 9, 836), (314, .iinc 1 1, 3, 0, 0, 0), (317, .goto (-138), 3, 0, 0, 0), (320, .iconst 0, 1, 0, 0, 0), (321, .istore_n 1, 1, 0, 0, 0), (322, .iload_n 1, 1, 0, 0, 0), (323, .aload_n 0, 1, 0, 0, 0), (324, .getfield 24, 3, 9, 5, 701), (327, .if_icmp .ge 79, 3, 0, 0, 0), (330, .aload_n 0, 1, 0, 0, 0), (331, .bipush 33, 2, 0, 0, 0), (333, .iload_n 1, 1, 0, 0, 0), (334, .iadd, 1, 0, 0, 0), (335, .lconst 0, 1, 0, 0, 0), (336, .invokevirtual 64, 3, 109, 9, 687), (339, .aload_n 0, 1, 0, 0, 0), (340, .bipush 13, 2, 0, 0, 0), (342, .iload_n 1, 1, 0, 0, 0), (343, .iadd, 1, 0, 0, 0), (344, .invokevirtual 83, 3, 113, 9, 860), (347, .ifCond .eq 6, 3, 0, 0, 0), (350, .goto 50, 3, 0, 0, 0), (353, .aload_n 0, 1, 0, 0, 0), (354, .bipush 7, 2, 0, 0, 0), (356, .bipush 12, 2, 0, 0, 0), (358, .invokevirtual 109, 3, 110, 9, 851), (361, .aload_n 0, 1, 0, 0, 0), (362, .bipush 7, 2, 0, 0, 0), (364, .bipush 13, 2, 0, 0, 0), (366, .iload_n 1, 1, 0, 0, 0), (367, .iadd, 1, 0, 0, 0), (368, .invokevirtual 129, 3, 119, 9, 874), (371, .aload_n 0, 1, 0, 0, 0), (372, .bipush 7, 2, 0, 0, 0), (374, .bipush 7, 2, 0, 0, 0), (376, .bipush 23, 2, 0, 0, 0), (378, .iload_n 1, 1, 0, 0, 0), (379, .iadd, 1, 0, 0, 0), (380, .invokevirtual 169, 3, 118, 9, 836), (383, .aload_n 0, 1, 0, 0, 0), (384, .bipush 33, 2, 0, 0, 0), (386, .iload_n 1, 1, 0, 0, 0), (387, .iadd, 1, 0, 0, 0), (388, .bipush 7, 2, 0, 0, 0), (390, .aload_n 0, 1, 0, 0, 0), (391, .getfield 28, 3, 9, 6, 702), (394, .iload_n 1, 1, 0, 0, 0), (395, .iaload, 1, 0, 0, 0), (396, .i2l, 1, 0, 0, 0), (397, .invokevirtual 125, 3, 111, 9, 824), (400, .iinc 1 1, 3, 0, 0, 0), (403, .goto (-81), 3, 0, 0, 0), (406, .return_, 1, 0, 0, 0)])
def xm_M_reduce : xiM := (("virtual", yX9_reduce, cX9_reduce), (3, none, 2), (6, 155, 0, 0), [(0, .aload_n 0, 1, 0, 0, 0), (1, .bipush 9, 2, 0, 0, 0), (3, .iconst 0, 1, 0, 0, 0), (4, .invokevirtual 109, 3, 110, 9, 851), (7, .aload_n 0, 1, 0, 0, 0), (8, .bipush 10, 2, 0, 0, 0), (10, .iconst 1, 1, 0, 0, 0), (11, .invokevirtual 109, 3, 110, 9, 851), (14, .aload_n 0, 1, 0, 0, 0), (15, .iload_n 1, 1, 0, 0, 0), (16, .iload_n 2, 1, 0, 0, 0), (17, .invokevirtual 185, 3, 124, 9, 857), (20, .aload_n 0, 1, 0, 0, 0), (21, .iload_n 1, 1, 0, 0, 0), (22, .iconst 0, 1, 0, 0, 0), (23, .invokevirtual 109, 3, 110, 9, 851), (26, .aload_n 0, 1, 0, 0, 0), (27, .iload_n 2, 1, 0, 0, 0), (28, .iconst 1, 1, 0, 0, 0), (29, .invokevirtual 109, 3, 110, 9, 851), (32, .aload_n 0, 1, 0, 0, 0), (33, .iconst 0, 1, 0, 0, 0), (34, .bipush 9, 2, 0, 0, 0), (36, .invokevirtual 109, 3, 110, 9, 851), (39, .aload_n 0, 1, 0, 0, 0), (40, .iconst 1, 1, 0, 0, 0), (41, .bipush 10, 2, 0, 0, 0), (43, .invokevirtual 109, 3, 110, 9, 851), (46, .return_, 1, 0, 0, 0)])
def xm_M_chance : xiM := (("virtual", yX9_chance, cX9_chance), (2, some .boolean, 1), (9, 224, 0, 0), [(0, .aload_n 0, 1, 0, 0, 0), (1, .iload_n 1, 1, 0, 0, 0), (2, .iload_n 1, 1, 0, 0, 0), (3, .invokevirtual 188, 3, 144, 9, 808), (6, .ireturn, 1, 0, 0, 0)])
def xm_M_both : xiM := (("virtual", yX9_both, cX9_both), (4, some .boolean, 2), (8, 201, 0, 0), [(0, .aload_n 0, 1, 0, 0, 0), (1, .iload_n 1, 1, 0, 0, 0), (2, .invokevirtual 190, 3, 132, 9, 812), (5, .ifCond .eq 11, 3, 0, 0, 0), (8, .aload_n 0, 1, 0, 0, 0), (9, .iload_n 2, 1, 0, 0, 0), (10, .invokevirtual 190, 3, 132, 9, 812), (13, .ifCond .ne 5, 3, 0, 0, 0), (16, .iconst 0, 1, 0, 0, 0), (17, .ireturn, 1, 0, 0, 0), (18, .aload_n 0, 1, 0, 0, 0), (19, .invokevirtual 193, 3, 141, 9, 815), (22, .aload_n 0, 1, 0, 0, 0), (23, .bipush 7, 2, 0, 0, 0), (25, .lconst 0, 1, 0, 0, 0), (26, .invokevirtual 64, 3, 109, 9, 687), (29, .iconst 0, 1, 0, 0, 0), (30, .istore_n 3, 1, 0, 0, 0), (31, .iload_n 3, 1, 0, 0, 0), (32, .iconst 1, 1, 0, 0, 0), (33, .aload_n 0, 1, 0, 0, 0), (34, .getfield 24, 3, 9, 5, 701), (37, .ishl, 1, 0, 0, 0), (38, .if_icmp .ge 33, 3, 0, 0, 0), (41, .iload_n 3, 1, 0, 0, 0), (42, .iload_n 1, 1, 0, 0, 0), (43, .ishr, 1, 0, 0, 0), (44, .iload_n 3, 1, 0, 0, 0), (45, .iload_n 2, 1, 0, 0, 0), (46, .ishr, 1, 0, 0, 0), (47, .iand, 1, 0, 0, 0), (48, .iconst 1, 1, 0, 0, 0), (49, .iand, 1, 0, 0, 0), (50, .iconst 1, 1, 0, 0, 0), (51, .if_icmp .ne 14, 3, 0, 0, 0), (54, .aload_n 0, 1, 0, 0, 0), (55, .bipush 7, 2, 0, 0, 0), (57, .bipush 43, 2, 0, 0, 0), (59, .iload_n 3, 1, 0, 0, 0), (60, .iadd, 1, 0, 0, 0), (61, .lconst 1, 1, 0, 0, 0), (62, .invokevirtual 125, 3, 111, 9, 824), (65, .iinc 3 1, 3, 0, 0, 0), (68, .goto (-37), 3, 0, 0, 0), (71, .aload_n 0, 1, 0, 0, 0), (72, .bipush 7, 2, 0, 0, 0), (74, .bipush 11, 2, 0, 0, 0), (76, .invokevirtual 185, 3, 124, 9, 857), (79, .iconst 1, 1, 0, 0, 0), (80, .ireturn, 1, 0, 0, 0)])
def xm_M_isSet : xiM := (("virtual", yX9_isSet, cX9_isSet), (2, some .boolean, 1), (0, 0, 0, 0), [(0, .iload_n 1, 1, 0, 0, 0), (1, .ifCond .lt 17, 3, 0, 0, 0), (4, .iload_n 1, 1, 0, 0, 0), (5, .iconst 1, 1, 0, 0, 0), (6, .aload_n 0, 1, 0, 0, 0), (7, .getfield 24, 3, 9, 5, 701), (10, .ishl, 1, 0, 0, 0), (11, .if_icmp .ge 7, 3, 0, 0, 0), (14, .iconst 1, 1, 0, 0, 0), (15, .goto 4, 3, 0, 0, 0), (18, .iconst 0, 1, 0, 0, 0), (19, .ireturn, 1, 0, 0, 0)])
def xm_M_set : xiM := (("virtual", yX9_set, cX9_set), (2, some .boolean, 1), (8, 201, 0, 0), [(0, .aload_n 0, 1, 0, 0, 0), (1, .iload_n 1, 1, 0, 0, 0), (2, .invokevirtual 196, 3, 145, 9, 886), (5, .ifCond .ne 5, 3, 0, 0, 0), (8, .iconst 0, 1, 0, 0, 0), (9, .ireturn, 1, 0, 0, 0), (10, .aload_n 0, 1, 0, 0, 0), (11, .invokevirtual 193, 3, 141, 9, 815), (14, .aload_n 0, 1, 0, 0, 0), (15, .bipush 43, 2, 0, 0, 0), (17, .iload_n 1, 1, 0, 0, 0), (18, .iadd, 1, 0, 0, 0), (19, .bipush 11, 2, 0, 0, 0), (21, .invokevirtual 185, 3, 124, 9, 857), (24, .iconst 1, 1, 0, 0, 0), (25, .ireturn, 1, 0, 0, 0)])
def xm_M_sets : xiM := (("virtual", yX9_sets, cX9_sets), (3, some .int, 0), (8, 201, 0, 0), [(0, .aload_n 0, 1, 0, 0, 0), (1, .invokevirtual 193, 3, 141, 9, 815), (4, .iconst 0, 1, 0, 0, 0), (5, .istore_n 1, 1, 0, 0, 0), (6, .iconst 0, 1, 0, 0, 0), (7, .istore_n 2, 1, 0, 0, 0), (8, .iload_n 2, 1, 0, 0, 0), (9, .iconst 1, 1, 0, 0, 0), (10, .aload_n 0, 1, 0, 0, 0), (11, .getfield 24, 3, 9, 5, 701), (14, .ishl, 1, 0, 0, 0), (15, .if_icmp .ge 28, 3, 0, 0, 0), (18, .iload_n 1, 1, 0, 0, 0), (19, .aload_n 0, 1, 0, 0, 0), (20, .bipush 43, 2, 0, 0, 0), (22, .iload_n 2, 1, 0, 0, 0), (23, .iadd, 1, 0, 0, 0), (24, .invokevirtual 83, 3, 113, 9, 860), (27, .ifCond .eq 7, 3, 0, 0, 0), (30, .iconst 0, 1, 0, 0, 0), (31, .goto 4, 3, 0, 0, 0), (34, .iconst 1, 1, 0, 0, 0), (35, .iadd, 1, 0, 0, 0), (36, .istore_n 1, 1, 0, 0, 0), (37, .iinc 2 1, 3, 0, 0, 0), (40, .goto (-32), 3, 0, 0, 0), (43, .iload_n 1, 1, 0, 0, 0), (44, .ireturn, 1, 0, 0, 0)])
def xm_M_many : xiM := (("virtual", yX9_many, cX9_many), (2, none, 0), (8, 201, 0, 0), [(0, .aload_n 0, 1, 0, 0, 0), (1, .invokevirtual 193, 3, 141, 9, 815), (4, .aload_n 0, 1, 0, 0, 0), (5, .bipush 7, 2, 0, 0, 0), (7, .lconst 0, 1, 0, 0, 0), (8, .invokevirtual 64, 3, 109, 9, 687), (11, .iconst 0, 1, 0, 0, 0), (12, .istore_n 1, 1, 0, 0, 0), (13, .iload_n 1, 1, 0, 0, 0), (14, .iconst 1, 1, 0, 0, 0), (15, .aload_n 0, 1, 0, 0, 0), (16, .getfield 24, 3, 9, 5, 701), (19, .ishl, 1, 0, 0, 0), (20, .if_icmp .ge 24, 3, 0, 0, 0), (23, .aload_n 0, 1, 0, 0, 0), (24, .bipush 7, 2, 0, 0, 0), (26, .bipush 43, 2, 0, 0, 0), (28, .iload_n 1, 1, 0, 0, 0), (29, .iadd, 1, 0, 0, 0), (30, .iload_n 1, 1, 0, 0, 0), (31, .invokestatic 163, 3, 136, 0, 830), (34, .i2l, 1, 0, 0, 0), (35, .invokevirtual 125, 3, 111, 9, 824), (38, .iinc 1 1, 3, 0, 0, 0), (41, .goto (-28), 3, 0, 0, 0), (44, .aload_n 0, 1, 0, 0, 0), (45, .bipush 7, 2, 0, 0, 0), (47, .bipush 11, 2, 0, 0, 0), (49, .invokevirtual 185, 3, 124, 9, 857), (52, .return_, 1, 0, 0, 0)])
def xm_M_toldSum : xiM := (("virtual", yX9_toldSum, cX9_toldSum), (3, none, 1), (3, 74, 0, 0), [(0, .aload_n 0, 1, 0, 0, 0), (1, .bipush 6, 2, 0, 0, 0), (3, .lconst 0, 1, 0, 0, 0), (4, .invokevirtual 64, 3, 109, 9, 687), (7, .iconst 0, 1, 0, 0, 0), (8, .istore_n 2, 1, 0, 0, 0), (9, .iload_n 2, 1, 0, 0, 0), (10, .aload_n 0, 1, 0, 0, 0), (11, .getfield 24, 3, 9, 5, 701), (14, .if_icmp .ge 29, 3, 0, 0, 0), (17, .iload_n 1, 1, 0, 0, 0), (18, .iload_n 2, 1, 0, 0, 0), (19, .ishr, 1, 0, 0, 0), (20, .iconst 1, 1, 0, 0, 0), (21, .iand, 1, 0, 0, 0), (22, .iconst 1, 1, 0, 0, 0), (23, .if_icmp .ne 14, 3, 0, 0, 0), (26, .aload_n 0, 1, 0, 0, 0), (27, .bipush 6, 2, 0, 0, 0), (29, .bipush 33, 2, 0, 0, 0), (31, .iload_n 2, 1, 0, 0, 0), (32, .iadd, 1, 0, 0, 0), (33, .lconst 1, 1, 0, 0, 0), (34, .invokevirtual 125, 3, 111, 9, 824), (37, .iinc 2 1, 3, 0, 0, 0), (40, .goto (-31), 3, 0, 0, 0), (43, .return_, 1, 0, 0, 0)])
def xm_M_sum : xiM := (("virtual", yX9_sum, cX9_sum), (2, some .boolean, 1), (8, 201, 0, 0), [(0, .aload_n 0, 1, 0, 0, 0), (1, .iload_n 1, 1, 0, 0, 0), (2, .invokevirtual 196, 3, 145, 9, 886), (5, .ifCond .ne 5, 3, 0, 0, 0), (8, .iconst 0, 1, 0, 0, 0), (9, .ireturn, 1, 0, 0, 0), (10, .aload_n 0, 1, 0, 0, 0), (11, .invokevirtual 193, 3, 141, 9, 815), (14, .aload_n 0, 1, 0, 0, 0), (15, .iload_n 1, 1, 0, 0, 0), (16, .invokevirtual 199, 3, 149, 9, 901), (19, .aload_n 0, 1, 0, 0, 0), (20, .bipush 6, 2, 0, 0, 0), (22, .bipush 12, 2, 0, 0, 0), (24, .invokevirtual 185, 3, 124, 9, 857), (27, .iconst 1, 1, 0, 0, 0), (28, .ireturn, 1, 0, 0, 0)])
def xm_M_sums : xiM := (("virtual", yX9_sums, cX9_sums), (2, none, 0), (8, 201, 0, 0), [(0, .aload_n 0, 1, 0, 0, 0), (1, .invokevirtual 193, 3, 141, 9, 815), (4, .aload_n 0, 1, 0, 0, 0), (5, .bipush 7, 2, 0, 0, 0), (7, .lconst 0, 1, 0, 0, 0), (8, .invokevirtual 64, 3, 109, 9, 687), (11, .aload_n 0, 1, 0, 0, 0), (12, .bipush 8, 2, 0, 0, 0), (14, .lconst 0, 1, 0, 0, 0), (15, .invokevirtual 64, 3, 109, 9, 687), (18, .iconst 0, 1, 0, 0, 0), (19, .istore_n 1, 1, 0, 0, 0), (20, .iload_n 1, 1, 0, 0, 0), (21, .iconst 1, 1, 0, 0, 0), (22, .aload_n 0, 1, 0, 0, 0), (23, .getfield 24, 3, 9, 5, 701), (26, .ishl, 1, 0, 0, 0), (27, .if_icmp .ge 63, 3, 0, 0, 0), (30, .aload_n 0, 1, 0, 0, 0), (31, .bipush 43, 2, 0, 0, 0), (33, .iload_n 1, 1, 0, 0, 0), (34, .iadd, 1, 0, 0, 0), (35, .invokevirtual 83, 3, 113, 9, 860), (38, .ifCond .eq 6, 3, 0, 0, 0), (41, .goto 43, 3, 0, 0, 0), (44, .aload_n 0, 1, 0, 0, 0), (45, .iload_n 1, 1, 0, 0, 0), (46, .invokevirtual 199, 3, 149, 9, 901), (49, .aload_n 0, 1, 0, 0, 0), (50, .iconst 5, 1, 0, 0, 0), (51, .bipush 6, 2, 0, 0, 0), (53, .bipush 43, 2, 0, 0, 0), (55, .iload_n 1, 1, 0, 0, 0), (56, .iadd, 1, 0, 0, 0), (57, .invokevirtual 169, 3, 118, 9, 836), (60, .aload_n 0, 1, 0, 0, 0), (61, .bipush 7, 2, 0, 0, 0), (63, .iconst 5, 1, 0, 0, 0), (64, .lconst 1, 1, 0, 0, 0), (65, .invokevirtual 125, 3, 111, 9, 824), (68, .aload_n 0, 1, 0, 0, 0), (69, .iconst 5, 1, 0, 0, 0), (70, .iconst 5, 1, 0, 0, 0), (71, .bipush 6, 2, 0, 0, 0), (73, .invokevirtual 169, 3, 118, 9, 836), (76, .aload_n 0, 1, 0, 0, 0), (77, .bipush 8, 2, 0, 0, 0), (79, .iconst 5, 1, 0, 0, 0), (80, .lconst 1, 1, 0, 0, 0), (81, .invokevirtual 125, 3, 111, 9, 824), (84, .iinc 1 1, 3, 0, 0, 0), (87, .goto (-67), 3, 0, 0, 0), (90, .return_, 1, 0, 0, 0)])
def xm_M_mean : xiM := (("virtual", yX9_mean, cX9_mean), (1, none, 0), (9, 222, 0, 0), [(0, .aload_n 0, 1, 0, 0, 0), (1, .invokevirtual 202, 3, 151, 9, 908), (4, .aload_n 0, 1, 0, 0, 0), (5, .iconst 5, 1, 0, 0, 0), (6, .bipush 11, 2, 0, 0, 0), (8, .bipush 12, 2, 0, 0, 0), (10, .invokevirtual 169, 3, 118, 9, 836), (13, .aload_n 0, 1, 0, 0, 0), (14, .bipush 7, 2, 0, 0, 0), (16, .iconst 5, 1, 0, 0, 0), (17, .invokevirtual 185, 3, 124, 9, 857), (20, .return_, 1, 0, 0, 0)])
def xm_M_spread : xiM := (("virtual", yX9_spread, cX9_spread), (1, none, 0), (9, 222, 0, 0), [(0, .aload_n 0, 1, 0, 0, 0), (1, .invokevirtual 202, 3, 151, 9, 908), (4, .aload_n 0, 1, 0, 0, 0), (5, .bipush 8, 2, 0, 0, 0), (7, .bipush 8, 2, 0, 0, 0), (9, .bipush 11, 2, 0, 0, 0), (11, .invokevirtual 169, 3, 118, 9, 836), (14, .aload_n 0, 1, 0, 0, 0), (15, .bipush 7, 2, 0, 0, 0), (17, .bipush 7, 2, 0, 0, 0), (19, .bipush 7, 2, 0, 0, 0), (21, .invokevirtual 169, 3, 118, 9, 836), (24, .aload_n 0, 1, 0, 0, 0), (25, .bipush 8, 2, 0, 0, 0), (27, .bipush 7, 2, 0, 0, 0), (29, .ldc2_w 123, 3, 18446744073709551615, 0, 873), (32, .invokevirtual 125, 3, 111, 9, 824), (35, .aload_n 0, 1, 0, 0, 0), (36, .iconst 5, 1, 0, 0, 0), (37, .bipush 11, 2, 0, 0, 0), (39, .bipush 12, 2, 0, 0, 0), (41, .invokevirtual 169, 3, 118, 9, 836), (44, .aload_n 0, 1, 0, 0, 0), (45, .iconst 5, 1, 0, 0, 0), (46, .iconst 5, 1, 0, 0, 0), (47, .iconst 5, 1, 0, 0, 0), (48, .invokevirtual 169, 3, 118, 9, 836), (51, .aload_n 0, 1, 0, 0, 0), (52, .bipush 8, 2, 0, 0, 0), (54, .iconst 5, 1, 0, 0, 0), (55, .invokevirtual 185, 3, 124, 9, 857), (58, .return_, 1, 0, 0, 0)])
def xm_M_off : xiM := (("virtual", yX9_off, cX9_off), (7, some .long, 1), (1, 22, 0, 0), [(0, .lconst 0, 1, 0, 0, 0), (1, .lstore_n 2, 1, 0, 0, 0), (2, .lconst 0, 1, 0, 0, 0), (3, .lstore 4, 2, 0, 0, 0), (5, .iconst 0, 1, 0, 0, 0), (6, .istore 6, 2, 0, 0, 0), (8, .iload 6, 2, 0, 0, 0), (10, .aload_n 0, 1, 0, 0, 0), (11, .getfield 24, 3, 9, 5, 701), (14, .if_icmp .ge 52, 3, 0, 0, 0), (17, .iload_n 1, 1, 0, 0, 0), (18, .iload 6, 2, 0, 0, 0), (20, .ishr, 1, 0, 0, 0), (21, .iconst 1, 1, 0, 0, 0), (22, .iand, 1, 0, 0, 0), (23, .iconst 1, 1, 0, 0, 0), (24, .if_icmp .ne 36, 3, 0, 0, 0), (27, .lload_n 2, 1, 0, 0, 0), (28, .aload_n 0, 1, 0, 0, 0), (29, .getfield 28, 3, 9, 6, 702), (32, .iload 6, 2, 0, 0, 0), (34, .iaload, 1, 0, 0, 0), (35, .i2l, 1, 0, 0, 0), (36, .aload_n 0, 1, 0, 0, 0), (37, .getfield 28, 3, 9, 6, 702), (40, .iload 6, 2, 0, 0, 0), (42, .iaload, 1, 0, 0, 0), (43, .i2l, 1, 0, 0, 0), (44, .lmul, 1, 0, 0, 0), (45, .ladd, 1, 0, 0, 0), (46, .lstore_n 2, 1, 0, 0, 0), (47, .lload 4, 2, 0, 0, 0), (49, .aload_n 0, 1, 0, 0, 0), (50, .getfield 28, 3, 9, 6, 702), (53, .iload 6, 2, 0, 0, 0), (55, .iaload, 1, 0, 0, 0), (56, .i2l, 1, 0, 0, 0), (57, .ladd, 1, 0, 0, 0), (58, .lstore 4, 2, 0, 0, 0), (60, .iinc 6 1, 3, 0, 0, 0), (63, .goto (-55), 3, 0, 0, 0), (66, .iload_n 1, 1, 0, 0, 0), (67, .invokestatic 163, 3, 136, 0, 830), (70, .i2l, 1, 0, 0, 0), (71, .lload_n 2, 1, 0, 0, 0), (72, .lmul, 1, 0, 0, 0), (73, .lload 4, 2, 0, 0, 0), (75, .lload 4, 2, 0, 0, 0), (77, .lmul, 1, 0, 0, 0), (78, .lsub, 1, 0, 0, 0), (79, .lreturn, 1, 0, 0, 0)])
def xm_M_setOf : xiM := (("virtual", yX9_setOf, cX9_setOf), (4, some .int, 1), (0, 0, 0, 0), [(0, .iconst 0, 1, 0, 0, 0), (1, .istore_n 2, 1, 0, 0, 0), (2, .iconst 0, 1, 0, 0, 0), (3, .istore_n 3, 1, 0, 0, 0), (4, .iload_n 3, 1, 0, 0, 0), (5, .aload_n 0, 1, 0, 0, 0), (6, .getfield 24, 3, 9, 5, 701), (9, .if_icmp .ge 29, 3, 0, 0, 0), (12, .iload_n 2, 1, 0, 0, 0), (13, .aload_n 0, 1, 0, 0, 0), (14, .getfield 34, 3, 9, 8, 704), (17, .iload_n 3, 1, 0, 0, 0), (18, .iaload, 1, 0, 0, 0), (19, .iload_n 1, 1, 0, 0, 0), (20, .if_icmp .ne 9, 3, 0, 0, 0), (23, .iconst 1, 1, 0, 0, 0), (24, .iload_n 3, 1, 0, 0, 0), (25, .ishl, 1, 0, 0, 0), (26, .goto 4, 3, 0, 0, 0), (29, .iconst 0, 1, 0, 0, 0), (30, .ior, 1, 0, 0, 0), (31, .istore_n 2, 1, 0, 0, 0), (32, .iinc 3 1, 3, 0, 0, 0), (35, .goto (-31), 3, 0, 0, 0), (38, .iload_n 2, 1, 0, 0, 0), (39, .ireturn, 1, 0, 0, 0)])
def xm_M_v : xiM := (("virtual", yX9_v, cX9_v), (3, some .long, 1), (2, 48, 0, 0), [(0, .aload_n 0, 1, 0, 0, 0), (1, .iload_n 1, 1, 0, 0, 0), (2, .invokevirtual 155, 3, 130, 9, 794), (5, .istore_n 2, 1, 0, 0, 0), (6, .iload_n 2, 1, 0, 0, 0), (7, .iconst 2, 1, 0, 0, 0), (8, .if_icmp .ge 7, 3, 0, 0, 0), (11, .lconst 0, 1, 0, 0, 0), (12, .goto 24, 3, 0, 0, 0), (15, .iload_n 2, 1, 0, 0, 0), (16, .i2l, 1, 0, 0, 0), (17, .aload_n 0, 1, 0, 0, 0), (18, .aload_n 0, 1, 0, 0, 0), (19, .iload_n 1, 1, 0, 0, 0), (20, .invokevirtual 205, 3, 155, 9, 922), (23, .invokevirtual 208, 3, 154, 9, 925), (26, .lmul, 1, 0, 0, 0), (27, .ldc2_w 212, 3, 2520, 0, 928), (30, .iload_n 2, 1, 0, 0, 0), (31, .iconst 1, 1, 0, 0, 0), (32, .isub, 1, 0, 0, 0), (33, .i2l, 1, 0, 0, 0), (34, .ldiv, 1, 0, 0, 0), (35, .lmul, 1, 0, 0, 0), (36, .lreturn, 1, 0, 0, 0)])
def xm_M_told : xiM := (("virtual", yX9_told, cX9_told), (5, none, 2), (6, 155, 0, 0), [(0, .aload_n 0, 1, 0, 0, 0), (1, .iconst 5, 1, 0, 0, 0), (2, .lload_n 1, 1, 0, 0, 0), (3, .invokevirtual 64, 3, 109, 9, 687), (6, .aload_n 0, 1, 0, 0, 0), (7, .bipush 6, 2, 0, 0, 0), (9, .lload_n 3, 1, 0, 0, 0), (10, .invokevirtual 64, 3, 109, 9, 687), (13, .aload_n 0, 1, 0, 0, 0), (14, .iconst 5, 1, 0, 0, 0), (15, .bipush 6, 2, 0, 0, 0), (17, .invokevirtual 185, 3, 124, 9, 857), (20, .return_, 1, 0, 0, 0)])
def xm_M_heap : xiM := (("virtual", yX9_heap, cX9_heap), (2, some .boolean, 1), (7, 179, 0, 0), [(0, .iload_n 1, 1, 0, 0, 0), (1, .invokestatic 152, 3, 131, 0, 791), (4, .ifCond .ne 5, 3, 0, 0, 0), (7, .iconst 0, 1, 0, 0, 0), (8, .ireturn, 1, 0, 0, 0), (9, .aload_n 0, 1, 0, 0, 0), (10, .aload_n 0, 1, 0, 0, 0), (11, .iload_n 1, 1, 0, 0, 0), (12, .invokevirtual 214, 3, 156, 9, 919), (15, .ldc2_w 212, 3, 2520, 0, 928), (18, .invokevirtual 217, 3, 157, 9, 929), (21, .iconst 1, 1, 0, 0, 0), (22, .ireturn, 1, 0, 0, 0)])
def xm_M_adds : xiM := (("virtual", yX9_adds, cX9_adds), (3, some .long, 2), (3, 70, 0, 0), [(0, .iload_n 2, 1, 0, 0, 0), (1, .ifCond .ne 7, 3, 0, 0, 0), (4, .lconst 0, 1, 0, 0, 0), (5, .goto 15, 3, 0, 0, 0), (8, .aload_n 0, 1, 0, 0, 0), (9, .iload_n 1, 1, 0, 0, 0), (10, .invokevirtual 214, 3, 156, 9, 919), (13, .ldc2_w 212, 3, 2520, 0, 928), (16, .iload_n 2, 1, 0, 0, 0), (17, .i2l, 1, 0, 0, 0), (18, .ldiv, 1, 0, 0, 0), (19, .lmul, 1, 0, 0, 0), (20, .lreturn, 1, 0, 0, 0)])
def xm_M_some : xiM := (("static", yX9_some, cX9_some), (1, some .int, 1), (0, 0, 0, 0), [(0, .iload_n 0, 1, 0, 0, 0), (1, .ifCond .ne 7, 3, 0, 0, 0), (4, .iconst 0, 1, 0, 0, 0), (5, .goto 4, 3, 0, 0, 0), (8, .iconst 1, 1, 0, 0, 0), (9, .ireturn, 1, 0, 0, 0)])
def xm_M_isShared : xiM := (("virtual", yX9_isShared, cX9_isShared), (13, some .boolean, 1), (4, 92, 0, 0), [(0, .iconst 0, 1, 0, 0, 0), (1, .istore_n 2, 1, 0, 0, 0), (2, .iconst 0, 1, 0, 0, 0), (3, .istore_n 3, 1, 0, 0, 0), (4, .iload_n 3, 1, 0, 0, 0), (5, .iconst 4, 1, 0, 0, 0), (6, .if_icmp .ge 20, 3, 0, 0, 0), (9, .iload_n 2, 1, 0, 0, 0), (10, .aload_n 0, 1, 0, 0, 0), (11, .iload_n 3, 1, 0, 0, 0), (12, .invokevirtual 155, 3, 130, 9, 794), (15, .invokestatic 221, 3, 160, 0, 939), (18, .iadd, 1, 0, 0, 0), (19, .istore_n 2, 1, 0, 0, 0), (20, .iinc 3 1, 3, 0, 0, 0), (23, .goto (-19), 3, 0, 0, 0), (26, .iload_n 1, 1, 0, 0, 0), (27, .iload_n 2, 1, 0, 0, 0), (28, .if_icmp .lt 11, 3, 0, 0, 0), (31, .iload_n 1, 1, 0, 0, 0), (32, .aload_n 0, 1, 0, 0, 0), (33, .getfield 24, 3, 9, 5, 701), (36, .if_icmp .le 5, 3, 0, 0, 0), (39, .iconst 0, 1, 0, 0, 0), (40, .ireturn, 1, 0, 0, 0), (41, .aload_n 0, 1, 0, 0, 0), (42, .ldc2_w 123, 3, 18446744073709551615, 0, 873), (45, .putfield 224, 3, 9, 18, 714), (48, .aload_n 0, 1, 0, 0, 0), (49, .iconst 0, 1, 0, 0, 0), (50, .invokevirtual 155, 3, 130, 9, 794), (53, .istore_n 3, 1, 0, 0, 0), (54, .aload_n 0, 1, 0, 0, 0), (55, .iconst 1, 1, 0, 0, 0), (56, .invokevirtual 155, 3, 130, 9, 794), (59, .istore 4, 2, 0, 0, 0), (61, .aload_n 0, 1, 0, 0, 0), (62, .iconst 2, 1, 0, 0, 0), (63, .invokevirtual 155, 3, 130, 9, 794), (66, .istore 5, 2, 0, 0, 0), (68, .aload_n 0, 1, 0, 0, 0), (69, .iconst 3, 1, 0, 0, 0), (70, .invokevirtual 155, 3, 130, 9, 794), (73, .istore 6, 2, 0, 0, 0), (75, .iload_n 3, 1, 0, 0, 0), (76, .istore 7, 2, 0, 0, 0), (78, .iload 7, 2, 0, 0, 0), (80, .iload_n 3, 1, 0, 0, 0), (81, .invokestatic 221, 3, 160, 0, 939), (84, .if_icmp .lt 173, 3, 0, 0, 0), (87, .iload 4, 2, 0, 0, 0), (89, .istore 8, 2, 0, 0, 0), (91, .iload 8, 2, 0, 0, 0), (93, .iload 4, 2, 0, 0, 0), (95, .invokestatic 221, 3, 160, 0, 939), (98, .if_icmp .lt 153, 3, 0, 0, 0), (101, .iload 5, 2, 0, 0, 0), (103, .istore 9, 2, 0, 0, 0), (105, .iload 9, 2, 0, 0, 0), (107, .iload 5, 2, 0, 0, 0), (109, .invokestatic 221, 3, 160, 0, 939), (112, .if_icmp .lt 133, 3, 0, 0, 0), (115, .iload_n 1, 1, 0, 0, 0), (116, .iload 7, 2, 0, 0, 0), (118, .isub, 1, 0, 0, 0), (119, .iload 8, 2, 0, 0, 0), (121, .isub, 1, 0, 0, 0), (122, .iload 9, 2, 0, 0, 0), (124, .isub, 1, 0, 0, 0), (125, .istore 10, 2, 0, 0, 0), (127, .iload 10, 2, 0, 0, 0), (129, .iload 6, 2, 0, 0, 0), (131, .invokestatic 221, 3, 160, 0, 939), (134, .if_icmp .lt 105, 3, 0, 0, 0), (137, .iload 10, 2, 0, 0, 0), (139, .iload 6, 2, 0, 0, 0), (141, .if_icmp .le 6, 3, 0, 0, 0), (144, .goto 95, 3, 0, 0, 0), (147, .aload_n 0, 1, 0, 0, 0), (148, .iconst 0, 1, 0, 0, 0), (149, .iload 7, 2, 0, 0, 0), (151, .invokevirtual 228, 3, 159, 9, 942), (154, .aload_n 0, 1, 0, 0, 0), (155, .iconst 1, 1, 0, 0, 0), (156, .iload 8, 2, 0, 0, 0), (158, .invokevirtual 228, 3, 159, 9, 942), (161, .ladd, 1, 0, 0, 0), (162, .aload_n 0, 1, 0, 0, 0), (163, .iconst 2, 1, 0, 0, 0), (164, .iload 9, 2, 0, 0, 0), (166, .invokevirtual 228, 3, 159, 9, 942), (169, .ladd, 1, 0, 0, 0), (170, .aload_n 0, 1, 0, 0, 0), (171, .iconst 3, 1, 0, 0, 0), (172, .iload 10, 2, 0, 0, 0), (174, .invokevirtual 228, 3, 159, 9, 942), (177, .ladd, 1, 0, 0, 0), (178, .lstore 11, 2, 0, 0, 0), (180, .aload_n 0, 1, 0, 0, 0), (181, .getfield 224, 3, 9, 18, 714), (184, .ldc2_w 123, 3, 18446744073709551615, 0, 873), (187, .lcmp, 1, 0, 0, 0), (188, .ifCond .eq 13, 3, 0, 0, 0), (191, .lload 11, 2, 0, 0, 0), (193, .aload_n 0, 1, 0, 0, 0), (194, .getfield 224, 3, 9, 18, 714), (197, .lcmp, 1, 0, 0, 0), (198, .ifCond .ge 41, 3, 0, 0, 0), (201, .aload_n 0, 1, 0, 0, 0), (202, .lload 11, 2, 0, 0, 0), (204, .putfield 224, 3, 9, 18, 714), (207, .aload_n 0, 1, 0, 0, 0), (208, .getfield 58, 3, 9, 17, 713), (211, .iconst 0, 1, 0, 0, 0), (212, .iload 7, 2, 0, 0, 0), (214, .iastore, 1, 0, 0, 0), (215, .aload_n 0, 1, 0, 0, 0), (216, .getfield 58, 3, 9, 17, 713), (219, .iconst 1, 1, 0, 0, 0), (220, .iload 8, 2, 0, 0, 0), (222, .iastore, 1, 0, 0, 0), (223, .aload_n 0, 1, 0, 0, 0), (224, .getfield 58, 3, 9, 17, 713), (227, .iconst 2, 1, 0, 0, 0), (228, .iload 9, 2, 0, 0, 0), (230, .iastore, 1, 0, 0, 0), (231, .aload_n 0, 1, 0, 0, 0), (232, .getfield 58, 3, 9, 17, 713), (235, .iconst 3, 1, 0, 0, 0), (236, .iload 10, 2, 0, 0, 0), (238, .iastore, 1, 0, 0, 0), (239, .iinc 9 (-1), 3, 0, 0, 0), (242, .goto (-137), 3, 0, 0, 0), (245, .iinc 8 (-1), 3, 0, 0, 0), (248, .goto (-157), 3, 0, 0, 0), (251, .iinc 7 (-1), 3, 0, 0, 0), (254, .goto (-176), 3, 0, 0, 0), (257, .iconst 1, 1, 0, 0, 0), (258, .ireturn, 1, 0, 0, 0)])
def xm_M_share : xiM := (("virtual", yX9_share, cX9_share), (3, some .int, 2), (5, 124, 0, 0), [(0, .iload_n 2, 1, 0, 0, 0), (1, .invokestatic 152, 3, 131, 0, 791), (4, .ifCond .ne 6, 3, 0, 0, 0), (7, .bipush (-2), 2, 0, 0, 0), (9, .ireturn, 1, 0, 0, 0), (10, .aload_n 0, 1, 0, 0, 0), (11, .iload_n 1, 1, 0, 0, 0), (12, .invokevirtual 232, 3, 161, 9, 936), (15, .ifCond .eq 12, 3, 0, 0, 0), (18, .aload_n 0, 1, 0, 0, 0), (19, .getfield 58, 3, 9, 17, 713), (22, .iload_n 2, 1, 0, 0, 0), (23, .iaload, 1, 0, 0, 0), (24, .goto 5, 3, 0, 0, 0), (27, .bipush (-4), 2, 0, 0, 0), (29, .ireturn, 1, 0, 0, 0)])
def xm_M_orders : xiM := (("virtual", yX9_orders, cX9_orders), (3, none, 0), (0, 0, 0, 0), [(0, .iconst 0, 1, 0, 0, 0), (1, .istore_n 1, 1, 0, 0, 0), (2, .iload_n 1, 1, 0, 0, 0), (3, .aload_n 0, 1, 0, 0, 0), (4, .getfield 24, 3, 9, 5, 701), (7, .if_icmp .ge 64, 3, 0, 0, 0), (10, .iload_n 1, 1, 0, 0, 0), (11, .istore_n 2, 1, 0, 0, 0), (12, .iload_n 2, 1, 0, 0, 0), (13, .ifCond .le 45, 3, 0, 0, 0), (16, .aload_n 0, 1, 0, 0, 0), (17, .getfield 31, 3, 9, 7, 703), (20, .aload_n 0, 1, 0, 0, 0), (21, .getfield 61, 3, 9, 19, 715), (24, .iload_n 2, 1, 0, 0, 0), (25, .iconst 1, 1, 0, 0, 0), (26, .isub, 1, 0, 0, 0), (27, .iaload, 1, 0, 0, 0), (28, .iaload, 1, 0, 0, 0), (29, .aload_n 0, 1, 0, 0, 0), (30, .getfield 31, 3, 9, 7, 703), (33, .iload_n 1, 1, 0, 0, 0), (34, .iaload, 1, 0, 0, 0), (35, .if_icmp .le 23, 3, 0, 0, 0), (38, .aload_n 0, 1, 0, 0, 0), (39, .getfield 61, 3, 9, 19, 715), (42, .iload_n 2, 1, 0, 0, 0), (43, .aload_n 0, 1, 0, 0, 0), (44, .getfield 61, 3, 9, 19, 715), (47, .iload_n 2, 1, 0, 0, 0), (48, .iconst 1, 1, 0, 0, 0), (49, .isub, 1, 0, 0, 0), (50, .iaload, 1, 0, 0, 0), (51, .iastore, 1, 0, 0, 0), (52, .iinc 2 (-1), 3, 0, 0, 0), (55, .goto (-43), 3, 0, 0, 0), (58, .aload_n 0, 1, 0, 0, 0), (59, .getfield 61, 3, 9, 19, 715), (62, .iload_n 2, 1, 0, 0, 0), (63, .iload_n 1, 1, 0, 0, 0), (64, .iastore, 1, 0, 0, 0), (65, .iinc 1 1, 3, 0, 0, 0), (68, .goto (-66), 3, 0, 0, 0), (71, .return_, 1, 0, 0, 0)])
def xm_M_isCut : xiM := (("virtual", yX9_isCut, cX9_isCut), (7, some .boolean, 1), (2, 48, 0, 0), [(0, .iload_n 1, 1, 0, 0, 0), (1, .iconst 1, 1, 0, 0, 0), (2, .if_icmp .lt 11, 3, 0, 0, 0), (5, .iload_n 1, 1, 0, 0, 0), (6, .aload_n 0, 1, 0, 0, 0), (7, .getfield 24, 3, 9, 5, 701), (10, .if_icmp .le 5, 3, 0, 0, 0), (13, .iconst 0, 1, 0, 0, 0), (14, .ireturn, 1, 0, 0, 0), (15, .aload_n 0, 1, 0, 0, 0), (16, .invokevirtual 235, 3, 163, 9, 952), (19, .aload_n 0, 1, 0, 0, 0), (20, .ldc2_w 123, 3, 18446744073709551615, 0, 873), (23, .putfield 238, 3, 9, 21, 717), (26, .iconst 0, 1, 0, 0, 0), (27, .istore_n 2, 1, 0, 0, 0), (28, .iload_n 2, 1, 0, 0, 0), (29, .iconst 1, 1, 0, 0, 0), (30, .aload_n 0, 1, 0, 0, 0), (31, .getfield 24, 3, 9, 5, 701), (34, .iconst 1, 1, 0, 0, 0), (35, .isub, 1, 0, 0, 0), (36, .ishl, 1, 0, 0, 0), (37, .if_icmp .ge 142, 3, 0, 0, 0), (40, .iload_n 2, 1, 0, 0, 0), (41, .invokestatic 163, 3, 136, 0, 830), (44, .iload_n 1, 1, 0, 0, 0), (45, .iconst 1, 1, 0, 0, 0), (46, .isub, 1, 0, 0, 0), (47, .if_icmp .eq 6, 3, 0, 0, 0), (50, .goto 123, 3, 0, 0, 0), (53, .lconst 0, 1, 0, 0, 0), (54, .lstore_n 3, 1, 0, 0, 0), (55, .iconst 0, 1, 0, 0, 0), (56, .istore 5, 2, 0, 0, 0), (58, .iconst 0, 1, 0, 0, 0), (59, .istore 6, 2, 0, 0, 0), (61, .iload 6, 2, 0, 0, 0), (63, .aload_n 0, 1, 0, 0, 0), (64, .getfield 24, 3, 9, 5, 701), (67, .if_icmp .ge 56, 3, 0, 0, 0), (70, .iload 5, 2, 0, 0, 0), (72, .iconst 1, 1, 0, 0, 0), (73, .aload_n 0, 1, 0, 0, 0), (74, .getfield 61, 3, 9, 19, 715), (77, .iload 6, 2, 0, 0, 0), (79, .iaload, 1, 0, 0, 0), (80, .ishl, 1, 0, 0, 0), (81, .ior, 1, 0, 0, 0), (82, .istore 5, 2, 0, 0, 0), (84, .iload 6, 2, 0, 0, 0), (86, .aload_n 0, 1, 0, 0, 0), (87, .getfield 24, 3, 9, 5, 701), (90, .iconst 1, 1, 0, 0, 0), (91, .isub, 1, 0, 0, 0), (92, .if_icmp .eq 13, 3, 0, 0, 0), (95, .iload_n 2, 1, 0, 0, 0), (96, .iload 6, 2, 0, 0, 0), (98, .ishr, 1, 0, 0, 0), (99, .iconst 1, 1, 0, 0, 0), (100, .iand, 1, 0, 0, 0), (101, .iconst 1, 1, 0, 0, 0), (102, .if_icmp .ne 15, 3, 0, 0, 0), (105, .lload_n 3, 1, 0, 0, 0), (106, .aload_n 0, 1, 0, 0, 0), (107, .iload 5, 2, 0, 0, 0), (109, .invokevirtual 208, 3, 154, 9, 925), (112, .ladd, 1, 0, 0, 0), (113, .lstore_n 3, 1, 0, 0, 0), (114, .iconst 0, 1, 0, 0, 0), (115, .istore 5, 2, 0, 0, 0), (117, .iinc 6 1, 3, 0, 0, 0), (120, .goto (-59), 3, 0, 0, 0), (123, .aload_n 0, 1, 0, 0, 0), (124, .getfield 238, 3, 9, 21, 717), (127, .ldc2_w 123, 3, 18446744073709551615, 0, 873), (130, .lcmp, 1, 0, 0, 0), (131, .ifCond .eq 32, 3, 0, 0, 0), (134, .lload_n 3, 1, 0, 0, 0), (135, .aload_n 0, 1, 0, 0, 0), (136, .getfield 238, 3, 9, 21, 717), (139, .lcmp, 1, 0, 0, 0), (140, .ifCond .lt 23, 3, 0, 0, 0), (143, .lload_n 3, 1, 0, 0, 0), (144, .aload_n 0, 1, 0, 0, 0), (145, .getfield 238, 3, 9, 21, 717), (148, .lcmp, 1, 0, 0, 0), (149, .ifCond .ne 24, 3, 0, 0, 0), (152, .iload_n 2, 1, 0, 0, 0), (153, .aload_n 0, 1, 0, 0, 0), (154, .getfield 241, 3, 9, 20, 716), (157, .invokestatic 244, 3, 165, 0, 955), (160, .ifCond .eq 13, 3, 0, 0, 0), (163, .aload_n 0, 1, 0, 0, 0), (164, .lload_n 3, 1, 0, 0, 0), (165, .putfield 238, 3, 9, 21, 717), (168, .aload_n 0, 1, 0, 0, 0), (169, .iload_n 2, 1, 0, 0, 0), (170, .putfield 241, 3, 9, 20, 716), (173, .iinc 2 1, 3, 0, 0, 0), (176, .goto (-148), 3, 0, 0, 0), (179, .iconst 1, 1, 0, 0, 0), (180, .ireturn, 1, 0, 0, 0)])
def xm_M_isShorter : xiM := (("static", yX9_isShorter, cX9_isShorter), (3, some .boolean, 2), (0, 0, 0, 0), [(0, .iload_n 0, 1, 0, 0, 0), (1, .iload_n 1, 1, 0, 0, 0), (2, .ixor, 1, 0, 0, 0), (3, .istore_n 2, 1, 0, 0, 0), (4, .iload_n 0, 1, 0, 0, 0), (5, .iload_n 2, 1, 0, 0, 0), (6, .iand, 1, 0, 0, 0), (7, .iload_n 2, 1, 0, 0, 0), (8, .ineg, 1, 0, 0, 0), (9, .iand, 1, 0, 0, 0), (10, .ifCond .eq 7, 3, 0, 0, 0), (13, .iconst 1, 1, 0, 0, 0), (14, .goto 4, 3, 0, 0, 0), (17, .iconst 0, 1, 0, 0, 0), (18, .ireturn, 1, 0, 0, 0)])
def xm_M_bands : xiM := (("virtual", yX9_bands, cX9_bands), (2, some .int, 1), (3, 74, 0, 0), [(0, .aload_n 0, 1, 0, 0, 0), (1, .iload_n 1, 1, 0, 0, 0), (2, .invokevirtual 247, 3, 164, 9, 949), (5, .ifCond .eq 11, 3, 0, 0, 0), (8, .aload_n 0, 1, 0, 0, 0), (9, .getfield 238, 3, 9, 21, 717), (12, .l2i, 1, 0, 0, 0), (13, .goto 4, 3, 0, 0, 0), (16, .iconst (-1), 1, 0, 0, 0), (17, .ireturn, 1, 0, 0, 0)])
def xm_M_band : xiM := (("virtual", yX9_band, cX9_band), (5, some .int, 2), (3, 74, 0, 0), [(0, .aload_n 0, 1, 0, 0, 0), (1, .iload_n 2, 1, 0, 0, 0), (2, .invokevirtual 190, 3, 132, 9, 812), (5, .ifCond .eq 11, 3, 0, 0, 0), (8, .aload_n 0, 1, 0, 0, 0), (9, .iload_n 1, 1, 0, 0, 0), (10, .invokevirtual 247, 3, 164, 9, 949), (13, .ifCond .ne 5, 3, 0, 0, 0), (16, .iconst (-1), 1, 0, 0, 0), (17, .ireturn, 1, 0, 0, 0), (18, .iconst 0, 1, 0, 0, 0), (19, .istore_n 3, 1, 0, 0, 0), (20, .iconst 0, 1, 0, 0, 0), (21, .istore 4, 2, 0, 0, 0), (23, .aload_n 0, 1, 0, 0, 0), (24, .getfield 61, 3, 9, 19, 715), (27, .iload 4, 2, 0, 0, 0), (29, .iaload, 1, 0, 0, 0), (30, .iload_n 2, 1, 0, 0, 0), (31, .if_icmp .eq 21, 3, 0, 0, 0), (34, .iload_n 3, 1, 0, 0, 0), (35, .aload_n 0, 1, 0, 0, 0), (36, .getfield 241, 3, 9, 20, 716), (39, .iload 4, 2, 0, 0, 0), (41, .ishr, 1, 0, 0, 0), (42, .iconst 1, 1, 0, 0, 0), (43, .iand, 1, 0, 0, 0), (44, .iadd, 1, 0, 0, 0), (45, .istore_n 3, 1, 0, 0, 0), (46, .iinc 4 1, 3, 0, 0, 0), (49, .goto (-26), 3, 0, 0, 0), (52, .iload_n 3, 1, 0, 0, 0), (53, .ireturn, 1, 0, 0, 0)])
def xm_M_manyParts : xiM := (("virtual", yX9_manyParts, cX9_manyParts), (3, some .int, 1), (1, 21, 0, 0), [(0, .aload_n 1, 1, 0, 0, 0), (1, .invokestatic 97, 3, 117, 0, 848), (4, .istore_n 2, 1, 0, 0, 0), (5, .iload_n 2, 1, 0, 0, 0), (6, .ifCond .ne 7, 3, 0, 0, 0), (9, .iconst 1, 1, 0, 0, 0), (10, .goto 4, 3, 0, 0, 0), (13, .iload_n 2, 1, 0, 0, 0), (14, .ireturn, 1, 0, 0, 0)])
def xm_M_look : xiM := (("virtual", yX9_look, cX9_look), (2, some .int, 1), (4, 95, 0, 0), [(0, .iload_n 1, 1, 0, 0, 0), (1, .ifCond .ne 9, 3, 0, 0, 0), (4, .aload_n 0, 1, 0, 0, 0), (5, .iconst 0, 1, 0, 0, 0), (6, .invokevirtual 250, 3, 115, 9, 966), (9, .ireturn, 1, 0, 0, 0), (10, .iload_n 1, 1, 0, 0, 0), (11, .iconst 1, 1, 0, 0, 0), (12, .if_icmp .eq 10, 3, 0, 0, 0), (15, .iload_n 1, 1, 0, 0, 0), (16, .iconst 2, 1, 0, 0, 0), (17, .if_icmp .eq 5, 3, 0, 0, 0), (20, .iconst (-1), 1, 0, 0, 0), (21, .ireturn, 1, 0, 0, 0), (22, .aload_n 0, 1, 0, 0, 0), (23, .iload_n 1, 1, 0, 0, 0), (24, .iconst 1, 1, 0, 0, 0), (25, .if_icmp .ne 7, 3, 0, 0, 0), (28, .iconst 0, 1, 0, 0, 0), (29, .goto 4, 3, 0, 0, 0), (32, .iconst 1, 1, 0, 0, 0), (33, .aload_n 0, 1, 0, 0, 0), (34, .getfield 46, 3, 9, 13, 709), (37, .invokevirtual 93, 3, 116, 9, 842), (40, .aload_n 0, 1, 0, 0, 0), (41, .aload_n 0, 1, 0, 0, 0), (42, .getfield 46, 3, 9, 13, 709), (45, .invokevirtual 253, 3, 168, 9, 969), (48, .ireturn, 1, 0, 0, 0)])
def xm_M_part : xiM := (("virtual", yX9_part, cX9_part), (3, some .int, 2), (4, 95, 0, 0), [(0, .aload_n 0, 1, 0, 0, 0), (1, .iload_n 1, 1, 0, 0, 0), (2, .ifCond .eq 7, 3, 0, 0, 0), (5, .iconst 1, 1, 0, 0, 0), (6, .goto 4, 3, 0, 0, 0), (9, .iconst 0, 1, 0, 0, 0), (10, .aload_n 0, 1, 0, 0, 0), (11, .getfield 46, 3, 9, 13, 709), (14, .invokevirtual 93, 3, 116, 9, 842), (17, .iload_n 2, 1, 0, 0, 0), (18, .ifCond .lt 9, 3, 0, 0, 0), (21, .iload_n 2, 1, 0, 0, 0), (22, .bipush 44, 2, 0, 0, 0), (24, .if_icmp .lt 7, 3, 0, 0, 0), (27, .iconst 0, 1, 0, 0, 0), (28, .goto 10, 3, 0, 0, 0), (31, .aload_n 0, 1, 0, 0, 0), (32, .getfield 46, 3, 9, 13, 709), (35, .iload_n 2, 1, 0, 0, 0), (36, .laload, 1, 0, 0, 0), (37, .l2i, 1, 0, 0, 0), (38, .ireturn, 1, 0, 0, 0)])
def xm_M_least : xiM := (("virtual", yX9_least, cX9_least), (2, some .boolean, 1), (7, 179, 0, 0), [(0, .aload_n 0, 1, 0, 0, 0), (1, .iload_n 1, 1, 0, 0, 0), (2, .invokevirtual 232, 3, 161, 9, 936), (5, .ifCond .ne 5, 3, 0, 0, 0), (8, .iconst 0, 1, 0, 0, 0), (9, .ireturn, 1, 0, 0, 0), (10, .aload_n 0, 1, 0, 0, 0), (11, .aload_n 0, 1, 0, 0, 0), (12, .getfield 224, 3, 9, 18, 714), (15, .ldc2_w 256, 3, 6350400, 0, 980), (18, .invokevirtual 217, 3, 157, 9, 929), (21, .iconst 1, 1, 0, 0, 0), (22, .ireturn, 1, 0, 0, 0)])
def xm_M_count : xiM := (("virtual", yX9_count, cX9_count), (4, some .int, 1), (1, 23, 0, 0), [(0, .iload_n 1, 1, 0, 0, 0), (1, .tableswitch 119 0 3 #[31, 36, 41, 84], 31, 0, 0, 0), (32, .aload_n 0, 1, 0, 0, 0), (33, .getfield 24, 3, 9, 5, 701), (36, .ireturn, 1, 0, 0, 0), (37, .aload_n 0, 1, 0, 0, 0), (38, .getfield 145, 3, 9, 11, 707), (41, .ireturn, 1, 0, 0, 0), (42, .aload_n 0, 1, 0, 0, 0), (43, .getfield 145, 3, 9, 11, 707), (46, .iconst 1, 1, 0, 0, 0), (47, .if_icmp .ne 33, 3, 0, 0, 0), (50, .aload_n 0, 1, 0, 0, 0), (51, .getfield 40, 3, 9, 10, 706), (54, .iconst 0, 1, 0, 0, 0), (55, .iaload, 1, 0, 0, 0), (56, .aload_n 0, 1, 0, 0, 0), (57, .getfield 40, 3, 9, 10, 706), (60, .iconst 1, 1, 0, 0, 0), (61, .iaload, 1, 0, 0, 0), (62, .iadd, 1, 0, 0, 0), (63, .aload_n 0, 1, 0, 0, 0), (64, .getfield 40, 3, 9, 10, 706), (67, .iconst 2, 1, 0, 0, 0), (68, .iaload, 1, 0, 0, 0), (69, .iadd, 1, 0, 0, 0), (70, .aload_n 0, 1, 0, 0, 0), (71, .getfield 40, 3, 9, 10, 706), (74, .iconst 3, 1, 0, 0, 0), (75, .iaload, 1, 0, 0, 0), (76, .iadd, 1, 0, 0, 0), (77, .goto 7, 3, 0, 0, 0), (80, .aload_n 0, 1, 0, 0, 0), (81, .getfield 43, 3, 9, 12, 708), (84, .ireturn, 1, 0, 0, 0), (85, .iconst 0, 1, 0, 0, 0), (86, .istore_n 2, 1, 0, 0, 0), (87, .iconst 0, 1, 0, 0, 0), (88, .istore_n 3, 1, 0, 0, 0), (89, .iload_n 3, 1, 0, 0, 0), (90, .bipush 8, 2, 0, 0, 0), (92, .if_icmp .ge 26, 3, 0, 0, 0), (95, .iload_n 2, 1, 0, 0, 0), (96, .aload_n 0, 1, 0, 0, 0), (97, .getfield 14, 3, 9, 2, 698), (100, .iload_n 3, 1, 0, 0, 0), (101, .iaload, 1, 0, 0, 0), (102, .ifCond .ne 7, 3, 0, 0, 0), (105, .iconst 0, 1, 0, 0, 0), (106, .goto 4, 3, 0, 0, 0), (109, .iconst 1, 1, 0, 0, 0), (110, .iadd, 1, 0, 0, 0), (111, .istore_n 2, 1, 0, 0, 0), (112, .iinc 3 1, 3, 0, 0, 0), (115, .goto (-26), 3, 0, 0, 0), (118, .iload_n 2, 1, 0, 0, 0), (119, .ireturn, 1, 0, 0, 0), (120, .iload_n 1, 1, 0, 0, 0), (121, .bipush 10, 2, 0, 0, 0), (123, .if_icmp .lt 20, 3, 0, 0, 0), (126, .iload_n 1, 1, 0, 0, 0), (127, .bipush 13, 2, 0, 0, 0), (129, .if_icmp .gt 14, 3, 0, 0, 0), (132, .aload_n 0, 1, 0, 0, 0), (133, .iload_n 1, 1, 0, 0, 0), (134, .bipush 10, 2, 0, 0, 0), (136, .isub, 1, 0, 0, 0), (137, .invokevirtual 155, 3, 130, 9, 794), (140, .goto 28, 3, 0, 0, 0), (143, .iload_n 1, 1, 0, 0, 0), (144, .bipush 20, 2, 0, 0, 0), (146, .if_icmp .lt 21, 3, 0, 0, 0), (149, .iload_n 1, 1, 0, 0, 0), (150, .bipush 23, 2, 0, 0, 0), (152, .if_icmp .gt 15, 3, 0, 0, 0), (155, .aload_n 0, 1, 0, 0, 0), (156, .getfield 40, 3, 9, 10, 706), (159, .iload_n 1, 1, 0, 0, 0), (160, .bipush 20, 2, 0, 0, 0), (162, .isub, 1, 0, 0, 0), (163, .iaload, 1, 0, 0, 0), (164, .goto 4, 3, 0, 0, 0), (167, .iconst (-1), 1, 0, 0, 0), (168, .ireturn, 1, 0, 0, 0)])
def xm_Law_law : xiM := (("law", yL_law, code), (4, some .boolean, 1), (10, 245, 600000, 7302250), [(0, .new 7, 3, 8, 0, 79), (3, .dup, 1, 0, 0, 0), (4, .invokespecial 9, 3, 70, 0, 81), (7, .astore_n 1, 1, 0, 0, 0), (8, .new 10, 3, 9, 0, 680), (11, .dup, 1, 0, 0, 0), (12, .invokespecial 12, 3, 107, 0, 682), (15, .astore_n 2, 1, 0, 0, 0), (16, .iconst 0, 1, 0, 0, 0), (17, .istore_n 3, 1, 0, 0, 0), (18, .iload_n 3, 1, 0, 0, 0), (19, .aload_n 0, 1, 0, 0, 0), (20, .arraylength, 1, 0, 0, 0), (21, .iconst 5, 1, 0, 0, 0), (22, .isub, 1, 0, 0, 0), (23, .if_icmp .gt 725, 3, 0, 0, 0), (26, .aload_n 0, 1, 0, 0, 0), (27, .iload_n 3, 1, 0, 0, 0), (28, .iaload, 1, 0, 0, 0), (29, .bipush 31, 2, 0, 0, 0), (31, .iand, 1, 0, 0, 0), (32, .tableswitch 710 0 21 #[104, 147, 170, 243, 266, 299, 332, 355, 388, 411, 424, 435, 458, 469, 480, 503, 536, 559, 582, 615, 638, 687], 104, 0, 0, 0), (136, .aload_n 1, 1, 0, 0, 0), (137, .aload_n 0, 1, 0, 0, 0), (138, .iload_n 3, 1, 0, 0, 0), (139, .iconst 1, 1, 0, 0, 0), (140, .iadd, 1, 0, 0, 0), (141, .iaload, 1, 0, 0, 0), (142, .aload_n 0, 1, 0, 0, 0), (143, .iload_n 3, 1, 0, 0, 0), (144, .iconst 2, 1, 0, 0, 0), (145, .iadd, 1, 0, 0, 0), (146, .iaload, 1, 0, 0, 0), (147, .aload_n 0, 1, 0, 0, 0), (148, .iload_n 3, 1, 0, 0, 0), (149, .iconst 3, 1, 0, 0, 0), (150, .iadd, 1, 0, 0, 0), (151, .iaload, 1, 0, 0, 0), (152, .invokevirtual 13, 3, 71, 8, 289), (155, .aload_n 2, 1, 0, 0, 0), (156, .aload_n 0, 1, 0, 0, 0), (157, .iload_n 3, 1, 0, 0, 0), (158, .iconst 1, 1, 0, 0, 0), (159, .iadd, 1, 0, 0, 0), (160, .iaload, 1, 0, 0, 0), (161, .aload_n 0, 1, 0, 0, 0), (162, .iload_n 3, 1, 0, 0, 0), (163, .iconst 2, 1, 0, 0, 0), (164, .iadd, 1, 0, 0, 0), (165, .iaload, 1, 0, 0, 0), (166, .aload_n 0, 1, 0, 0, 0), (167, .iload_n 3, 1, 0, 0, 0), (168, .iconst 3, 1, 0, 0, 0), (169, .iadd, 1, 0, 0, 0), (170, .iaload, 1, 0, 0, 0), (171, .invokevirtual 17, 3, 126, 9, 763), (174, .if_icmp .eq 568, 3, 0, 0, 0), (177, .iconst 0, 1, 0, 0, 0), (178, .ireturn, 1, 0, 0, 0), (179, .aload_n 1, 1, 0, 0, 0), (180, .aload_n 0, 1, 0, 0, 0), (181, .iload_n 3, 1, 0, 0, 0), (182, .iconst 1, 1, 0, 0, 0), (183, .iadd, 1, 0, 0, 0), (184, .iaload, 1, 0, 0, 0), (185, .invokevirtual 18, 3, 72, 8, 300), (188, .aload_n 2, 1, 0, 0, 0), (189, .aload_n 0, 1, 0, 0, 0), (190, .iload_n 3, 1, 0, 0, 0), (191, .iconst 1, 1, 0, 0, 0), (192, .iadd, 1, 0, 0, 0), (193, .iaload, 1, 0, 0, 0), (194, .invokevirtual 22, 3, 127, 9, 770), (197, .if_icmp .eq 545, 3, 0, 0, 0), (200, .iconst 0, 1, 0, 0, 0), (201, .ireturn, 1, 0, 0, 0), (202, .aload_n 1, 1, 0, 0, 0), (203, .aload_n 0, 1, 0, 0, 0), (204, .iload_n 3, 1, 0, 0, 0), (205, .iconst 1, 1, 0, 0, 0), (206, .iadd, 1, 0, 0, 0), (207, .iaload, 1, 0, 0, 0), (208, .aload_n 0, 1, 0, 0, 0), (209, .iload_n 3, 1, 0, 0, 0), (210, .iconst 2, 1, 0, 0, 0), (211, .iadd, 1, 0, 0, 0), (212, .iaload, 1, 0, 0, 0), (213, .aload_n 0, 1, 0, 0, 0), (214, .iload_n 3, 1, 0, 0, 0), (215, .iconst 3, 1, 0, 0, 0), (216, .iadd, 1, 0, 0, 0), (217, .iaload, 1, 0, 0, 0), (218, .i2l, 1, 0, 0, 0), (219, .bipush 32, 2, 0, 0, 0), (221, .lshl, 1, 0, 0, 0), (222, .aload_n 0, 1, 0, 0, 0), (223, .iload_n 3, 1, 0, 0, 0), (224, .iconst 4, 1, 0, 0, 0), (225, .iadd, 1, 0, 0, 0), (226, .iaload, 1, 0, 0, 0), (227, .i2l, 1, 0, 0, 0), (228, .ldc2_w 23, 3, 4294967295, 0, 985), (231, .land, 1, 0, 0, 0), (232, .lor, 1, 0, 0, 0), (233, .invokevirtual 25, 3, 73, 8, 308), (236, .aload_n 2, 1, 0, 0, 0), (237, .aload_n 0, 1, 0, 0, 0), (238, .iload_n 3, 1, 0, 0, 0), (239, .iconst 1, 1, 0, 0, 0), (240, .iadd, 1, 0, 0, 0), (241, .iaload, 1, 0, 0, 0), (242, .aload_n 0, 1, 0, 0, 0), (243, .iload_n 3, 1, 0, 0, 0), (244, .iconst 2, 1, 0, 0, 0), (245, .iadd, 1, 0, 0, 0), (246, .iaload, 1, 0, 0, 0), (247, .aload_n 0, 1, 0, 0, 0), (248, .iload_n 3, 1, 0, 0, 0), (249, .iconst 3, 1, 0, 0, 0), (250, .iadd, 1, 0, 0, 0), (251, .iaload, 1, 0, 0, 0), (252, .i2l, 1, 0, 0, 0), (253, .bipush 32, 2, 0, 0, 0), (255, .lshl, 1, 0, 0, 0), (256, .aload_n 0, 1, 0, 0, 0), (257, .iload_n 3, 1, 0, 0, 0), (258, .iconst 4, 1, 0, 0, 0), (259, .iadd, 1, 0, 0, 0), (260, .iaload, 1, 0, 0, 0), (261, .i2l, 1, 0, 0, 0), (262, .ldc2_w 23, 3, 4294967295, 0, 985), (265, .land, 1, 0, 0, 0), (266, .lor, 1, 0, 0, 0), (267, .invokevirtual 29, 3, 128, 9, 774), (270, .if_icmp .eq 472, 3, 0, 0, 0), (273, .iconst 0, 1, 0, 0, 0), (274, .ireturn, 1, 0, 0, 0), (275, .aload_n 1, 1, 0, 0, 0), (276, .aload_n 0, 1, 0, 0, 0), (277, .iload_n 3, 1, 0, 0, 0), (278, .iconst 1, 1, 0, 0, 0), (279, .iadd, 1, 0, 0, 0), (280, .iaload, 1, 0, 0, 0), (281, .invokevirtual 30, 3, 74, 8, 319), (284, .aload_n 2, 1, 0, 0, 0), (285, .aload_n 0, 1, 0, 0, 0), (286, .iload_n 3, 1, 0, 0, 0), (287, .iconst 1, 1, 0, 0, 0), (288, .iadd, 1, 0, 0, 0), (289, .iaload, 1, 0, 0, 0), (290, .invokevirtual 34, 3, 129, 9, 778), (293, .if_icmp .eq 449, 3, 0, 0, 0), (296, .iconst 0, 1, 0, 0, 0), (297, .ireturn, 1, 0, 0, 0), (298, .aload_n 1, 1, 0, 0, 0), (299, .aload_n 0, 1, 0, 0, 0), (300, .iload_n 3, 1, 0, 0, 0), (301, .iconst 1, 1, 0, 0, 0), (302, .iadd, 1, 0, 0, 0), (303, .iaload, 1, 0, 0, 0), (304, .aload_n 0, 1, 0, 0, 0), (305, .iload_n 3, 1, 0, 0, 0), (306, .iconst 2, 1, 0, 0, 0), (307, .iadd, 1, 0, 0, 0), (308, .iaload, 1, 0, 0, 0), (309, .invokevirtual 35, 3, 75, 8, 354), (312, .aload_n 2, 1, 0, 0, 0), (313, .aload_n 0, 1, 0, 0, 0), (314, .iload_n 3, 1, 0, 0, 0), (315, .iconst 1, 1, 0, 0, 0), (316, .iadd, 1, 0, 0, 0), (317, .iaload, 1, 0, 0, 0), (318, .aload_n 0, 1, 0, 0, 0), (319, .iload_n 3, 1, 0, 0, 0), (320, .iconst 2, 1, 0, 0, 0), (321, .iadd, 1, 0, 0, 0), (322, .iaload, 1, 0, 0, 0), (323, .invokevirtual 39, 3, 133, 9, 787), (326, .if_icmp .eq 416, 3, 0, 0, 0), (329, .iconst 0, 1, 0, 0, 0), (330, .ireturn, 1, 0, 0, 0), (331, .aload_n 1, 1, 0, 0, 0), (332, .aload_n 0, 1, 0, 0, 0), (333, .iload_n 3, 1, 0, 0, 0), (334, .iconst 1, 1, 0, 0, 0), (335, .iadd, 1, 0, 0, 0), (336, .iaload, 1, 0, 0, 0), (337, .aload_n 0, 1, 0, 0, 0), (338, .iload_n 3, 1, 0, 0, 0), (339, .iconst 2, 1, 0, 0, 0), (340, .iadd, 1, 0, 0, 0), (341, .iaload, 1, 0, 0, 0), (342, .invokevirtual 40, 3, 76, 8, 371), (345, .aload_n 2, 1, 0, 0, 0), (346, .aload_n 0, 1, 0, 0, 0), (347, .iload_n 3, 1, 0, 0, 0), (348, .iconst 1, 1, 0, 0, 0), (349, .iadd, 1, 0, 0, 0), (350, .iaload, 1, 0, 0, 0), (351, .aload_n 0, 1, 0, 0, 0), (352, .iload_n 3, 1, 0, 0, 0), (353, .iconst 2, 1, 0, 0, 0), (354, .iadd, 1, 0, 0, 0), (355, .iaload, 1, 0, 0, 0), (356, .invokevirtual 43, 3, 135, 9, 797), (359, .if_icmp .eq 383, 3, 0, 0, 0), (362, .iconst 0, 1, 0, 0, 0), (363, .ireturn, 1, 0, 0, 0), (364, .aload_n 1, 1, 0, 0, 0), (365, .aload_n 0, 1, 0, 0, 0), (366, .iload_n 3, 1, 0, 0, 0), (367, .iconst 1, 1, 0, 0, 0), (368, .iadd, 1, 0, 0, 0), (369, .iaload, 1, 0, 0, 0), (370, .invokevirtual 44, 3, 77, 8, 383), (373, .aload_n 2, 1, 0, 0, 0), (374, .aload_n 0, 1, 0, 0, 0), (375, .iload_n 3, 1, 0, 0, 0), (376, .iconst 1, 1, 0, 0, 0), (377, .iadd, 1, 0, 0, 0), (378, .iaload, 1, 0, 0, 0), (379, .invokevirtual 47, 3, 143, 9, 804), (382, .if_icmp .eq 360, 3, 0, 0, 0), (385, .iconst 0, 1, 0, 0, 0), (386, .ireturn, 1, 0, 0, 0), (387, .aload_n 1, 1, 0, 0, 0), (388, .aload_n 0, 1, 0, 0, 0), (389, .iload_n 3, 1, 0, 0, 0), (390, .iconst 1, 1, 0, 0, 0), (391, .iadd, 1, 0, 0, 0), (392, .iaload, 1, 0, 0, 0), (393, .aload_n 0, 1, 0, 0, 0), (394, .iload_n 3, 1, 0, 0, 0), (395, .iconst 2, 1, 0, 0, 0), (396, .iadd, 1, 0, 0, 0), (397, .iaload, 1, 0, 0, 0), (398, .invokevirtual 48, 3, 78, 8, 498), (401, .aload_n 2, 1, 0, 0, 0), (402, .aload_n 0, 1, 0, 0, 0), (403, .iload_n 3, 1, 0, 0, 0), (404, .iconst 1, 1, 0, 0, 0), (405, .iadd, 1, 0, 0, 0), (406, .iaload, 1, 0, 0, 0), (407, .aload_n 0, 1, 0, 0, 0), (408, .iload_n 3, 1, 0, 0, 0), (409, .iconst 2, 1, 0, 0, 0), (410, .iadd, 1, 0, 0, 0), (411, .iaload, 1, 0, 0, 0), (412, .invokevirtual 52, 3, 144, 9, 881), (415, .if_icmp .eq 327, 3, 0, 0, 0), (418, .iconst 0, 1, 0, 0, 0), (419, .ireturn, 1, 0, 0, 0), (420, .aload_n 1, 1, 0, 0, 0), (421, .aload_n 0, 1, 0, 0, 0), (422, .iload_n 3, 1, 0, 0, 0), (423, .iconst 1, 1, 0, 0, 0), (424, .iadd, 1, 0, 0, 0), (425, .iaload, 1, 0, 0, 0), (426, .invokevirtual 53, 3, 79, 8, 499), (429, .aload_n 2, 1, 0, 0, 0), (430, .aload_n 0, 1, 0, 0, 0), (431, .iload_n 3, 1, 0, 0, 0), (432, .iconst 1, 1, 0, 0, 0), (433, .iadd, 1, 0, 0, 0), (434, .iaload, 1, 0, 0, 0), (435, .invokevirtual 56, 3, 146, 9, 882), (438, .if_icmp .eq 304, 3, 0, 0, 0), (441, .iconst 0, 1, 0, 0, 0), (442, .ireturn, 1, 0, 0, 0), (443, .aload_n 1, 1, 0, 0, 0), (444, .invokevirtual 57, 3, 80, 8, 515), (447, .aload_n 2, 1, 0, 0, 0), (448, .invokevirtual 61, 3, 147, 9, 889), (451, .if_icmp .eq 291, 3, 0, 0, 0), (454, .iconst 0, 1, 0, 0, 0), (455, .ireturn, 1, 0, 0, 0), (456, .aload_n 1, 1, 0, 0, 0), (457, .invokevirtual 62, 3, 81, 8, 519), (460, .aload_n 2, 1, 0, 0, 0), (461, .invokevirtual 65, 3, 148, 9, 893), (464, .goto 278, 3, 0, 0, 0), (467, .aload_n 1, 1, 0, 0, 0), (468, .aload_n 0, 1, 0, 0, 0), (469, .iload_n 3, 1, 0, 0, 0), (470, .iconst 1, 1, 0, 0, 0), (471, .iadd, 1, 0, 0, 0), (472, .iaload, 1, 0, 0, 0), (473, .invokevirtual 66, 3, 82, 8, 527), (476, .aload_n 2, 1, 0, 0, 0), (477, .aload_n 0, 1, 0, 0, 0), (478, .iload_n 3, 1, 0, 0, 0), (479, .iconst 1, 1, 0, 0, 0), (480, .iadd, 1, 0, 0, 0), (481, .iaload, 1, 0, 0, 0), (482, .invokevirtual 69, 3, 150, 9, 897), (485, .if_icmp .eq 257, 3, 0, 0, 0), (488, .iconst 0, 1, 0, 0, 0), (489, .ireturn, 1, 0, 0, 0), (490, .aload_n 1, 1, 0, 0, 0), (491, .invokevirtual 70, 3, 83, 8, 552), (494, .aload_n 2, 1, 0, 0, 0), (495, .invokevirtual 73, 3, 152, 9, 904), (498, .goto 244, 3, 0, 0, 0), (501, .aload_n 1, 1, 0, 0, 0), (502, .invokevirtual 74, 3, 84, 8, 559), (505, .aload_n 2, 1, 0, 0, 0), (506, .invokevirtual 77, 3, 153, 9, 911), (509, .goto 233, 3, 0, 0, 0), (512, .aload_n 1, 1, 0, 0, 0), (513, .aload_n 0, 1, 0, 0, 0), (514, .iload_n 3, 1, 0, 0, 0), (515, .iconst 1, 1, 0, 0, 0), (516, .iadd, 1, 0, 0, 0), (517, .iaload, 1, 0, 0, 0), (518, .invokevirtual 78, 3, 85, 8, 573), (521, .aload_n 2, 1, 0, 0, 0), (522, .aload_n 0, 1, 0, 0, 0), (523, .iload_n 3, 1, 0, 0, 0), (524, .iconst 1, 1, 0, 0, 0), (525, .iadd, 1, 0, 0, 0), (526, .iaload, 1, 0, 0, 0), (527, .invokevirtual 81, 3, 158, 9, 915), (530, .if_icmp .eq 212, 3, 0, 0, 0), (533, .iconst 0, 1, 0, 0, 0), (534, .ireturn, 1, 0, 0, 0), (535, .aload_n 1, 1, 0, 0, 0), (536, .aload_n 0, 1, 0, 0, 0), (537, .iload_n 3, 1, 0, 0, 0), (538, .iconst 1, 1, 0, 0, 0), (539, .iadd, 1, 0, 0, 0), (540, .iaload, 1, 0, 0, 0), (541, .aload_n 0, 1, 0, 0, 0), (542, .iload_n 3, 1, 0, 0, 0), (543, .iconst 2, 1, 0, 0, 0), (544, .iadd, 1, 0, 0, 0), (545, .iaload, 1, 0, 0, 0), (546, .invokevirtual 82, 3, 86, 8, 587), (549, .aload_n 2, 1, 0, 0, 0), (550, .aload_n 0, 1, 0, 0, 0), (551, .iload_n 3, 1, 0, 0, 0), (552, .iconst 1, 1, 0, 0, 0), (553, .iadd, 1, 0, 0, 0), (554, .iaload, 1, 0, 0, 0), (555, .aload_n 0, 1, 0, 0, 0), (556, .iload_n 3, 1, 0, 0, 0), (557, .iconst 2, 1, 0, 0, 0), (558, .iadd, 1, 0, 0, 0), (559, .iaload, 1, 0, 0, 0), (560, .invokevirtual 85, 3, 162, 9, 932), (563, .if_icmp .eq 179, 3, 0, 0, 0), (566, .iconst 0, 1, 0, 0, 0), (567, .ireturn, 1, 0, 0, 0), (568, .aload_n 1, 1, 0, 0, 0), (569, .aload_n 0, 1, 0, 0, 0), (570, .iload_n 3, 1, 0, 0, 0), (571, .iconst 1, 1, 0, 0, 0), (572, .iadd, 1, 0, 0, 0), (573, .iaload, 1, 0, 0, 0), (574, .invokevirtual 86, 3, 87, 8, 617), (577, .aload_n 2, 1, 0, 0, 0), (578, .aload_n 0, 1, 0, 0, 0), (579, .iload_n 3, 1, 0, 0, 0), (580, .iconst 1, 1, 0, 0, 0), (581, .iadd, 1, 0, 0, 0), (582, .iaload, 1, 0, 0, 0), (583, .invokevirtual 89, 3, 171, 9, 976), (586, .if_icmp .eq 156, 3, 0, 0, 0), (589, .iconst 0, 1, 0, 0, 0), (590, .ireturn, 1, 0, 0, 0), (591, .aload_n 1, 1, 0, 0, 0), (592, .aload_n 0, 1, 0, 0, 0), (593, .iload_n 3, 1, 0, 0, 0), (594, .iconst 1, 1, 0, 0, 0), (595, .iadd, 1, 0, 0, 0), (596, .iaload, 1, 0, 0, 0), (597, .invokevirtual 90, 3, 88, 8, 622), (600, .aload_n 2, 1, 0, 0, 0), (601, .aload_n 0, 1, 0, 0, 0), (602, .iload_n 3, 1, 0, 0, 0), (603, .iconst 1, 1, 0, 0, 0), (604, .iadd, 1, 0, 0, 0), (605, .iaload, 1, 0, 0, 0), (606, .invokevirtual 93, 3, 166, 9, 945), (609, .if_icmp .eq 133, 3, 0, 0, 0), (612, .iconst 0, 1, 0, 0, 0), (613, .ireturn, 1, 0, 0, 0), (614, .aload_n 1, 1, 0, 0, 0), (615, .aload_n 0, 1, 0, 0, 0), (616, .iload_n 3, 1, 0, 0, 0), (617, .iconst 1, 1, 0, 0, 0), (618, .iadd, 1, 0, 0, 0), (619, .iaload, 1, 0, 0, 0), (620, .aload_n 0, 1, 0, 0, 0), (621, .iload_n 3, 1, 0, 0, 0), (622, .iconst 2, 1, 0, 0, 0), (623, .iadd, 1, 0, 0, 0), (624, .iaload, 1, 0, 0, 0), (625, .invokevirtual 94, 3, 89, 8, 647), (628, .aload_n 2, 1, 0, 0, 0), (629, .aload_n 0, 1, 0, 0, 0), (630, .iload_n 3, 1, 0, 0, 0), (631, .iconst 1, 1, 0, 0, 0), (632, .iadd, 1, 0, 0, 0), (633, .iaload, 1, 0, 0, 0), (634, .aload_n 0, 1, 0, 0, 0), (635, .iload_n 3, 1, 0, 0, 0), (636, .iconst 2, 1, 0, 0, 0), (637, .iadd, 1, 0, 0, 0), (638, .iaload, 1, 0, 0, 0), (639, .invokevirtual 97, 3, 167, 9, 958), (642, .if_icmp .eq 100, 3, 0, 0, 0), (645, .iconst 0, 1, 0, 0, 0), (646, .ireturn, 1, 0, 0, 0), (647, .aload_n 1, 1, 0, 0, 0), (648, .aload_n 0, 1, 0, 0, 0), (649, .iload_n 3, 1, 0, 0, 0), (650, .iconst 1, 1, 0, 0, 0), (651, .iadd, 1, 0, 0, 0), (652, .iaload, 1, 0, 0, 0), (653, .invokevirtual 98, 3, 90, 8, 655), (656, .aload_n 2, 1, 0, 0, 0), (657, .aload_n 0, 1, 0, 0, 0), (658, .iload_n 3, 1, 0, 0, 0), (659, .iconst 1, 1, 0, 0, 0), (660, .iadd, 1, 0, 0, 0), (661, .iaload, 1, 0, 0, 0), (662, .invokevirtual 101, 3, 169, 9, 962), (665, .if_icmp .eq 77, 3, 0, 0, 0), (668, .iconst 0, 1, 0, 0, 0), (669, .ireturn, 1, 0, 0, 0), (670, .aload_n 1, 1, 0, 0, 0), (671, .aload_n 0, 1, 0, 0, 0), (672, .iload_n 3, 1, 0, 0, 0), (673, .iconst 1, 1, 0, 0, 0), (674, .iadd, 1, 0, 0, 0), (675, .iaload, 1, 0, 0, 0), (676, .ifCond .eq 7, 3, 0, 0, 0), (679, .iconst 1, 1, 0, 0, 0), (680, .goto 4, 3, 0, 0, 0), (683, .iconst 0, 1, 0, 0, 0), (684, .aload_n 0, 1, 0, 0, 0), (685, .iload_n 3, 1, 0, 0, 0), (686, .iconst 2, 1, 0, 0, 0), (687, .iadd, 1, 0, 0, 0), (688, .iaload, 1, 0, 0, 0), (689, .invokevirtual 102, 3, 91, 8, 660), (692, .aload_n 2, 1, 0, 0, 0), (693, .aload_n 0, 1, 0, 0, 0), (694, .iload_n 3, 1, 0, 0, 0), (695, .iconst 1, 1, 0, 0, 0), (696, .iadd, 1, 0, 0, 0), (697, .iaload, 1, 0, 0, 0), (698, .ifCond .eq 7, 3, 0, 0, 0), (701, .iconst 1, 1, 0, 0, 0), (702, .goto 4, 3, 0, 0, 0), (705, .iconst 0, 1, 0, 0, 0), (706, .aload_n 0, 1, 0, 0, 0), (707, .iload_n 3, 1, 0, 0, 0), (708, .iconst 2, 1, 0, 0, 0), (709, .iadd, 1, 0, 0, 0), (710, .iaload, 1, 0, 0, 0), (711, .invokevirtual 106, 3, 170, 9, 972), (714, .if_icmp .eq 28, 3, 0, 0, 0), (717, .iconst 0, 1, 0, 0, 0), (718, .ireturn, 1, 0, 0, 0), (719, .aload_n 1, 1, 0, 0, 0), (720, .aload_n 0, 1, 0, 0, 0), (721, .iload_n 3, 1, 0, 0, 0), (722, .iconst 1, 1, 0, 0, 0), (723, .iadd, 1, 0, 0, 0), (724, .iaload, 1, 0, 0, 0), (725, .invokevirtual 107, 3, 92, 8, 664), (728, .aload_n 2, 1, 0, 0, 0), (729, .aload_n 0, 1, 0, 0, 0), (730, .iload_n 3, 1, 0, 0, 0), (731, .iconst 1, 1, 0, 0, 0), (732, .iadd, 1, 0, 0, 0), (733, .iaload, 1, 0, 0, 0), (734, .invokevirtual 110, 3, 172, 9, 981), (737, .if_icmp .eq 5, 3, 0, 0, 0), (740, .iconst 0, 1, 0, 0, 0), (741, .ireturn, 1, 0, 0, 0), (742, .iinc 3 5, 3, 0, 0, 0), (745, .goto (-727), 3, 0, 0, 0), (748, .iconst 1, 1, 0, 0, 0), (749, .ireturn, 1, 0, 0, 0)])
def xMs : List xiM := [xm_Int_bitCount, xm_Math_floorDivL, xm_Math_floorModI, xm_Math_floorModL, xm_Math_max, xm_Math_min, xm_Arr_fillL, xm_Arr_fillI, xm_Big_init, xm_Big_become, xm_Big_multiply, xm_Big_addProduct, xm_Big_isBelowZero, xm_Big_length, xm_Big_isZero, xm_Big_divide, xm_Crowd_init, xm_Crowd_take, xm_Crowd_setCount, xm_Crowd_heapNames, xm_Crowd_heapsWithNames, xm_Crowd_allSizes, xm_Crowd_spreadTop, xm_Crowd_spreadBottom, xm_Cutting_init, xm_Cutting_leastOf, xm_Cutting_cut, xm_Cutting_order, xm_Cutting_cost, xm_Cutting_cutFirst, xm_Cutting_choose, xm_Cutting_bandOf, xm_Fraction_init, xm_Fraction_put, xm_Fraction_takeTop, xm_Fraction_divide, xm_Fraction_gcd, xm_Lots_init, xm_Lots_forget, xm_Lots_choose, xm_Lots_fromAllHeaps, xm_Lots_weightOfName, xm_Lots_weightOfPair, xm_Lots_prepare, xm_Lots_weigh, xm_Lots_fitsHeaps, xm_Lots_fitsShares, xm_Lots_product, xm_Lots_weighStarts, xm_Lots_setFrom, xm_Lots_pairOwn, xm_Lots_pairByWeights, xm_Lots_addToPairs, xm_Sharing_init, xm_Sharing_shareOut, xm_Sharing_measure, xm_Sharing_offer, xm_Sharing_cost, xm_Slots_init, xm_Slots_isLaid, xm_Slots_laid, xm_Slots_lay, xm_Slots_at, xm_Slots_put, xm_Slots_cutTo, xm_Slots_tellsCrowd, xm_Slots_fact, xm_Tally_init, xm_Tally_clear, xm_Tally_add, xm_D_init, xm_D_row, xm_D_tear, xm_D_write, xm_D_crowd, xm_D_drawn, xm_D_draw, xm_D_chance, xm_D_both, xm_D_set, xm_D_sets, xm_D_many, xm_D_sum, xm_D_mean, xm_D_spread, xm_D_heap, xm_D_share, xm_D_least, xm_D_bands, xm_D_band, xm_D_look, xm_D_part, xm_D_count, xm_D_countOfHeap, xm_D_isSlot, xm_D_isHeap, xm_D_isName, xm_D_isSet, xm_D_canStep, xm_D_canShareOut, xm_D_tellOwnChance, xm_D_tellSum, xm_D_divideByNames, xm_D_worthThatMayBeDrawn, xm_D_tellSpread, xm_D_tallyPairsBefore, xm_D_tallyMean, xm_M_init, xm_M_carry, xm_M_put, xm_M_copy, xm_M_more, xm_M_isBelow, xm_M_isZero, xm_M_turn, xm_M_sign, xm_M_bare, xm_M_length, xm_M_times, xm_M_parts, xm_M_goesInto, xm_M_isEven, xm_M_half, xm_M_isLess, xm_M_result, xm_M_isSlot, xm_M_row, xm_M_tear, xm_M_write, xm_M_crowd, xm_M_namesOf, xm_M_isHeap, xm_M_isName, xm_M_drawn, xm_M_sizes, xm_M_draw, xm_M_bits, xm_M_isByHeaps, xm_M_standsAt, xm_M_one, xm_M_weigh, xm_M_know, xm_M_reduce, xm_M_chance, xm_M_both, xm_M_isSet, xm_M_set, xm_M_sets, xm_M_many, xm_M_toldSum, xm_M_sum, xm_M_sums, xm_M_mean, xm_M_spread, xm_M_off, xm_M_setOf, xm_M_v, xm_M_told, xm_M_heap, xm_M_adds, xm_M_some, xm_M_isShared, xm_M_share, xm_M_orders, xm_M_isCut, xm_M_isShorter, xm_M_bands, xm_M_band, xm_M_manyParts, xm_M_look, xm_M_part, xm_M_least, xm_M_count, xm_Law_law]
def xFk : List (List Nat) := [[3], [0, 3, 3, 3, 3], [3, 3, 3, 3, 3], [0, 3, 3, 3], [0, 0, 3, 1, 3, 3, 2], [3, 2, 3, 3, 3], [3, 3, 3], [3, 3], [3, 3, 3, 3, 3, 3, 3], [3, 1, 3, 3, 3, 0, 3, 3, 3, 3, 3, 0, 0, 3, 3, 3, 3, 3, 2, 3, 0, 2]]
def xLow : Nat → Int32 := fun j => match j with
  | 0 => -100
  | 1 => 1
  | _ => 0
def xHigh : Nat → Int32 := fun j => match j with
  | 0 => 100
  | 1 => 50
  | 2 => 3
  | _ => 100
def xG (L : Nat) (xs : Nat → Int32) : xiG := (xMs, xFk, [(L, xs), (4, xLow), (4, xHigh)])
def xSH : List (Nat × Nat) := [(0, 8), (0, 6), (2, 480), (1, 8), (1, 8), (0, 1), (1, 10), (1, 10), (1, 10), (1, 4), (0, 4), (1, 4), (2, 1024), (2, 100), (0, 3), (0, 0), (2, 20), (0, 0), (2, 20), (0, 0), (2, 20), (0, 7), (0, 0), (2, 20), (0, 0), (2, 20), (0, 5), (1, 4), (1, 4), (1, 4), (2, 4), (0, 2), (1, 10), (1, 11), (1, 11), (1, 121), (1, 121), (0, 9), (2, 46948), (1, 8), (1, 8), (2, 480), (1, 10), (1, 10), (1, 10), (1, 10), (1, 4), (2, 44), (2, 44), (2, 44), (1, 41), (1, 4), (1, 10)]
def xRFl : List (List Nat) := [[2, 6, 11, 15, 22, 27, 32], [3, 4, 5], [], [], [], [0, 7, 8, 9, 10], [], [], [], [], [0, 0, 12, 0, 13, 14, 0], [], [], [], [0, 16, 18, 20], [17], [], [19], [], [21], [], [23, 25], [24], [], [26], [], [28, 0, 29, 30, 31], [], [], [], [], [33, 34, 35, 36, 37], [], [], [], [], [], [39, 0, 40, 41, 42, 0, 43, 44, 45, 46, 47, 0, 0, 48, 49, 50, 51, 52, 0, 53, 0, 0], [], [], [], [], [], [], [], [], [], [], [], [], [], [], []]
def xRF : Nat → Nat → Nat := fun k j => (xRFl.getD k []).getD j 0
end
section
/-! every table is right: by the kernel -/
def xZs : xiZ := ([("DrawBench$Slots", "LOWEST_FACT", "[I"), ("DrawBench$Slots", "HIGHEST_FACT", "[I")], [("DrawBench", 25, ⟨"DrawBench$Lots", "<init>", "()V"⟩, "DrawBench"), ("DrawBench$Fraction", 11, ⟨"DrawBench$Big", "<init>", "()V"⟩, "DrawBench"), ("DrawBench", 39, ⟨"DrawBench$Tally", "<init>", "()V"⟩, "DrawBench"), ("DrawBench$Tally", 9, ⟨"DrawBench$Big", "<init>", "()V"⟩, "DrawBench"), ("DrawBench", 46, ⟨"DrawBench$Sharing", "<init>", "()V"⟩, "DrawBench"), ("DrawBench", 53, ⟨"DrawBench$Cutting", "<init>", "()V"⟩, "DrawBench")])
def xG0 : xiG := xG 0 (fun _ => 0)
def xT : List Cond := k2_sels lw_privs ++ tables_1.filter goodWord
theorem xk_T : ∀ w ∈ xT, goodWord w = true := fun w hw => (List.mem_append.mp hw).elim (fun h => by obtain ⟨q, -, rfl⟩ := List.mem_map.mp h; rfl) (fun h => (List.mem_filter.mp h).2)
theorem xk_T2 : ∀ w ∈ xT, w ∈ lw_tbl := fun w hw => (List.mem_append.mp hw).elim (fun h => List.mem_append_left _ h) (fun h => List.mem_append_right _ (List.mem_filter.mp h).1)
theorem xk_c0 : ∀ w ∈ u_ws RX0 TX0 1, w ∈ xT := by decide +kernel
theorem xk_c1 : ∀ w ∈ u_ws RX1 TX1 5, w ∈ xT := by decide +kernel
theorem xk_c2 : ∀ w ∈ u_ws RX2 TX2 5, w ∈ xT := by decide +kernel
theorem xk_c3 : ∀ w ∈ u_ws RX3 TX3 4, w ∈ xT := by decide +kernel
theorem xk_c4 : ∀ w ∈ u_ws RX4 TX4 7, w ∈ xT := by decide +kernel
theorem xk_c5 : ∀ w ∈ u_ws RX5 TX5 5, w ∈ xT := by decide +kernel
theorem xk_c6 : ∀ w ∈ u_ws RX6 TX6 3, w ∈ xT := by decide +kernel
theorem xk_c7 : ∀ w ∈ u_ws RX7 TX7 2, w ∈ xT := by decide +kernel
theorem xk_c8 : ∀ w ∈ u_ws RX8 TX8 7, w ∈ xT := by decide +kernel
theorem xk_c9 : ∀ w ∈ u_ws RX9 TX9 22, w ∈ xT := by decide +kernel
def xi_okP (T : List Cond) (md : xiM) (p1 p2 p3 p4 : Nat) : Bool :=
  plainFor md.1.2.1 && decide (T[p1]? = some (Cond.code md.1.2.1 md.1.2.2 md.2.1.1 md.2.1.2.1)) && decide (T[p2]? = some (Cond.initialized md.1.2.1.cls)) && decide (md.1.2.1.cls ≠ "java/lang/invoke/MethodHandle") && decide (md.1.2.1.cls ≠ "java/lang/invoke/VarHandle") && decide ((parseMethodDescriptor md.1.2.1.desc).map (fun d => d.parameters.length) = some md.2.1.2.2) &&
  (match decide (md.1.1 = "static") with
  | true => decide (T[p3]? = some (Cond.static md.1.2.1))
  | false => match decide (md.1.1 = "virtual") with
    | true => decide (T[p3]? = some (Cond.instanceMethod md.1.2.1)) && decide (T[p4]? = some (Cond.selects md.1.2.1.cls md.1.2.1 md.1.2.1))
    | false => decide (md.1.1 = "init") && decide (T[p3]? = some (Cond.instanceMethod md.1.2.1)) && decide (md.1.2.1.name = "<init>") && decide (md.2.1.2.1 = none))
theorem xi_okM_P {T : List Cond} {md : xiM} (p1 p2 p3 p4 : Nat) (h : xi_okP T md p1 p2 p3 p4 = true) : xi_okM T md = true := by
  unfold xi_okP at h
  unfold xi_okM
  simp only [Bool.and_eq_true, decide_eq_true_eq] at h ⊢
  obtain ⟨⟨⟨⟨⟨⟨h1, h2⟩, h3⟩, h4⟩, h5⟩, h6⟩, h7⟩ := h
  refine ⟨⟨⟨⟨⟨⟨h1, List.mem_of_getElem? h2⟩, List.mem_of_getElem? h3⟩, h4⟩, h5⟩, h6⟩, ?_⟩
  revert h7
  cases decide (md.1.1 = "static") with
  | true => intro h7; exact decide_eq_true (List.mem_of_getElem? (of_decide_eq_true h7))
  | false =>
    cases decide (md.1.1 = "virtual") with
    | true =>
      intro h7
      simp only [Bool.and_eq_true, decide_eq_true_eq] at h7 ⊢
      exact ⟨List.mem_of_getElem? h7.1, List.mem_of_getElem? h7.2⟩
    | false =>
      intro h7
      simp only [Bool.and_eq_true, decide_eq_true_eq] at h7 ⊢
      exact ⟨⟨⟨h7.1.1.1, List.mem_of_getElem? h7.1.1.2⟩, h7.1.2⟩, h7.2⟩
theorem xk_m_Int_bitCount : xi_okM xT xm_Int_bitCount = true := xi_okM_P 367 78 366 0 (by decide +kernel)
set_option maxRecDepth 20000 in
theorem xk_e_Int_bitCount : xm_Int_bitCount.2.2.2.all (xi_okE xT xCl xZs xG0 xm_Int_bitCount) = true := by decide +kernel
theorem xk_m_Math_floorDivL : xi_okM xT xm_Math_floorDivL = true := xi_okM_P 462 77 461 0 (by decide +kernel)
set_option maxRecDepth 20000 in
theorem xk_e_Math_floorDivL : xm_Math_floorDivL.2.2.2.all (xi_okE xT xCl xZs xG0 xm_Math_floorDivL) = true := by decide +kernel
theorem xk_m_Math_floorModI : xi_okM xT xm_Math_floorModI = true := xi_okM_P 424 77 423 0 (by decide +kernel)
set_option maxRecDepth 20000 in
theorem xk_e_Math_floorModI : xm_Math_floorModI.2.2.2.all (xi_okE xT xCl xZs xG0 xm_Math_floorModI) = true := by decide +kernel
theorem xk_m_Math_floorModL : xi_okM xT xm_Math_floorModL = true := xi_okM_P 459 77 458 0 (by decide +kernel)
set_option maxRecDepth 20000 in
theorem xk_e_Math_floorModL : xm_Math_floorModL.2.2.2.all (xi_okE xT xCl xZs xG0 xm_Math_floorModL) = true := by decide +kernel
theorem xk_m_Math_max : xi_okM xT xm_Math_max = true := xi_okM_P 444 77 443 0 (by decide +kernel)
set_option maxRecDepth 20000 in
theorem xk_e_Math_max : xm_Math_max.2.2.2.all (xi_okE xT xCl xZs xG0 xm_Math_max) = true := by decide +kernel
theorem xk_m_Math_min : xi_okM xT xm_Math_min = true := xi_okM_P 447 77 446 0 (by decide +kernel)
set_option maxRecDepth 20000 in
theorem xk_e_Math_min : xm_Math_min.2.2.2.all (xi_okE xT xCl xZs xG0 xm_Math_min) = true := by decide +kernel
theorem xk_m_Arr_fillL : xi_okM xT xm_Arr_fillL = true := xi_okM_P 434 68 433 0 (by decide +kernel)
set_option maxRecDepth 20000 in
theorem xk_e_Arr_fillL : xm_Arr_fillL.2.2.2.all (xi_okE xT xCl xZs xG0 xm_Arr_fillL) = true := by decide +kernel
theorem xk_m_Arr_fillI : xi_okM xT xm_Arr_fillI = true := xi_okM_P 95 68 94 0 (by decide +kernel)
set_option maxRecDepth 20000 in
theorem xk_e_Arr_fillI : xm_Arr_fillI.2.2.2.all (xi_okE xT xCl xZs xG0 xm_Arr_fillI) = true := by decide +kernel
theorem xk_m_Big_init : xi_okM xT xm_Big_init = true := xi_okM_P 184 72 183 0 (by decide +kernel)
set_option maxRecDepth 20000 in
theorem xk_e_Big_init : xm_Big_init.2.2.2.all (xi_okE xT xCl xZs xG0 xm_Big_init) = true := by decide +kernel
theorem xk_m_Big_become : xi_okM xT xm_Big_become = true := xi_okM_P 455 72 453 454 (by decide +kernel)
set_option maxRecDepth 20000 in
theorem xk_e_Big_become : xm_Big_become.2.2.2.all (xi_okE xT xCl xZs xG0 xm_Big_become) = true := by decide +kernel
theorem xk_m_Big_multiply : xi_okM xT xm_Big_multiply = true := xi_okM_P 484 72 482 483 (by decide +kernel)
set_option maxRecDepth 20000 in
theorem xk_e_Big_multiply : xm_Big_multiply.2.2.2.all (xi_okE xT xCl xZs xG0 xm_Big_multiply) = true := by decide +kernel
theorem xk_m_Big_addProduct : xi_okM xT xm_Big_addProduct = true := xi_okM_P 547 72 545 546 (by decide +kernel)
set_option maxRecDepth 20000 in
theorem xk_e_Big_addProduct : xm_Big_addProduct.2.2.2.all (xi_okE xT xCl xZs xG0 xm_Big_addProduct) = true := by decide +kernel
theorem xk_m_Big_isBelowZero : xi_okM xT xm_Big_isBelowZero = true := xi_okM_P 478 72 476 477 (by decide +kernel)
set_option maxRecDepth 20000 in
theorem xk_e_Big_isBelowZero : xm_Big_isBelowZero.2.2.2.all (xi_okE xT xCl xZs xG0 xm_Big_isBelowZero) = true := by decide +kernel
theorem xk_m_Big_length : xi_okM xT xm_Big_length = true := xi_okM_P 474 72 472 473 (by decide +kernel)
set_option maxRecDepth 20000 in
theorem xk_e_Big_length : xm_Big_length.2.2.2.all (xi_okE xT xCl xZs xG0 xm_Big_length) = true := by decide +kernel
theorem xk_m_Big_isZero : xi_okM xT xm_Big_isZero = true := xi_okM_P 470 72 468 469 (by decide +kernel)
set_option maxRecDepth 20000 in
theorem xk_e_Big_isZero : xm_Big_isZero.2.2.2.all (xi_okE xT xCl xZs xG0 xm_Big_isZero) = true := by decide +kernel
theorem xk_m_Big_divide : xi_okM xT xm_Big_divide = true := xi_okM_P 492 72 490 491 (by decide +kernel)
set_option maxRecDepth 20000 in
theorem xk_e_Big_divide : xm_Big_divide.2.2.2.all (xi_okE xT xCl xZs xG0 xm_Big_divide) = true := by decide +kernel
theorem xk_m_Crowd_init : xi_okM xT xm_Crowd_init = true := xi_okM_P 113 69 112 0 (by decide +kernel)
set_option maxRecDepth 20000 in
theorem xk_e_Crowd_init : xm_Crowd_init.2.2.2.all (xi_okE xT xCl xZs xG0 xm_Crowd_init) = true := by decide +kernel
theorem xk_m_Crowd_take : xi_okM xT xm_Crowd_take = true := xi_okM_P 338 69 336 337 (by decide +kernel)
set_option maxRecDepth 20000 in
theorem xk_e_Crowd_take : xm_Crowd_take.2.2.2.all (xi_okE xT xCl xZs xG0 xm_Crowd_take) = true := by decide +kernel
theorem xk_m_Crowd_setCount : xi_okM xT xm_Crowd_setCount = true := xi_okM_P 401 69 399 400 (by decide +kernel)
set_option maxRecDepth 20000 in
theorem xk_e_Crowd_setCount : xm_Crowd_setCount.2.2.2.all (xi_okE xT xCl xZs xG0 xm_Crowd_setCount) = true := by decide +kernel
theorem xk_m_Crowd_heapNames : xi_okM xT xm_Crowd_heapNames = true := xi_okM_P 364 69 362 363 (by decide +kernel)
set_option maxRecDepth 20000 in
theorem xk_e_Crowd_heapNames : xm_Crowd_heapNames.2.2.2.all (xi_okE xT xCl xZs xG0 xm_Crowd_heapNames) = true := by decide +kernel
theorem xk_m_Crowd_heapsWithNames : xi_okM xT xm_Crowd_heapsWithNames = true := xi_okM_P 597 69 595 596 (by decide +kernel)
set_option maxRecDepth 20000 in
theorem xk_e_Crowd_heapsWithNames : xm_Crowd_heapsWithNames.2.2.2.all (xi_okE xT xCl xZs xG0 xm_Crowd_heapsWithNames) = true := by decide +kernel
theorem xk_m_Crowd_allSizes : xi_okM xT xm_Crowd_allSizes = true := xi_okM_P 382 69 380 381 (by decide +kernel)
set_option maxRecDepth 20000 in
theorem xk_e_Crowd_allSizes : xm_Crowd_allSizes.2.2.2.all (xi_okE xT xCl xZs xG0 xm_Crowd_allSizes) = true := by decide +kernel
theorem xk_m_Crowd_spreadTop : xi_okM xT xm_Crowd_spreadTop = true := xi_okM_P 580 69 578 579 (by decide +kernel)
set_option maxRecDepth 20000 in
theorem xk_e_Crowd_spreadTop : xm_Crowd_spreadTop.2.2.2.all (xi_okE xT xCl xZs xG0 xm_Crowd_spreadTop) = true := by decide +kernel
theorem xk_m_Crowd_spreadBottom : xi_okM xT xm_Crowd_spreadBottom = true := xi_okM_P 585 69 583 584 (by decide +kernel)
set_option maxRecDepth 20000 in
theorem xk_e_Crowd_spreadBottom : xm_Crowd_spreadBottom.2.2.2.all (xi_okE xT xCl xZs xG0 xm_Crowd_spreadBottom) = true := by decide +kernel
theorem xk_m_Cutting_init : xi_okM xT xm_Cutting_init = true := xi_okM_P 249 75 248 0 (by decide +kernel)
set_option maxRecDepth 20000 in
theorem xk_e_Cutting_init : xm_Cutting_init.2.2.2.all (xi_okE xT xCl xZs xG0 xm_Cutting_init) = true := by decide +kernel
theorem xk_m_Cutting_leastOf : xi_okM xT xm_Cutting_leastOf = true := xi_okM_P 645 75 643 644 (by decide +kernel)
set_option maxRecDepth 20000 in
theorem xk_e_Cutting_leastOf : xm_Cutting_leastOf.2.2.2.all (xi_okE xT xCl xZs xG0 xm_Cutting_leastOf) = true := by decide +kernel
theorem xk_m_Cutting_cut : xi_okM xT xm_Cutting_cut = true := xi_okM_P 629 75 627 628 (by decide +kernel)
set_option maxRecDepth 20000 in
theorem xk_e_Cutting_cut : xm_Cutting_cut.2.2.2.all (xi_okE xT xCl xZs xG0 xm_Cutting_cut) = true := by decide +kernel
theorem xk_m_Cutting_order : xi_okM xT xm_Cutting_order = true := xi_okM_P 632 75 631 23 (by decide +kernel)
set_option maxRecDepth 20000 in
theorem xk_e_Cutting_order : xm_Cutting_order.2.2.2.all (xi_okE xT xCl xZs xG0 xm_Cutting_order) = true := by decide +kernel
theorem xk_m_Cutting_cost : xi_okM xT xm_Cutting_cost = true := xi_okM_P 635 75 634 24 (by decide +kernel)
set_option maxRecDepth 20000 in
theorem xk_e_Cutting_cost : xm_Cutting_cost.2.2.2.all (xi_okE xT xCl xZs xG0 xm_Cutting_cost) = true := by decide +kernel
theorem xk_m_Cutting_cutFirst : xi_okM xT xm_Cutting_cutFirst = true := xi_okM_P 641 75 640 26 (by decide +kernel)
set_option maxRecDepth 20000 in
theorem xk_e_Cutting_cutFirst : xm_Cutting_cutFirst.2.2.2.all (xi_okE xT xCl xZs xG0 xm_Cutting_cutFirst) = true := by decide +kernel
theorem xk_m_Cutting_choose : xi_okM xT xm_Cutting_choose = true := xi_okM_P 638 75 637 25 (by decide +kernel)
set_option maxRecDepth 20000 in
theorem xk_e_Cutting_choose : xm_Cutting_choose.2.2.2.all (xi_okE xT xCl xZs xG0 xm_Cutting_choose) = true := by decide +kernel
theorem xk_m_Cutting_bandOf : xi_okM xT xm_Cutting_bandOf = true := xi_okM_P 654 75 652 653 (by decide +kernel)
set_option maxRecDepth 20000 in
theorem xk_e_Cutting_bandOf : xm_Cutting_bandOf.2.2.2.all (xi_okE xT xCl xZs xG0 xm_Cutting_bandOf) = true := by decide +kernel
theorem xk_m_Fraction_init : xi_okM xT xm_Fraction_init = true := xi_okM_P 179 71 178 0 (by decide +kernel)
set_option maxRecDepth 20000 in
theorem xk_e_Fraction_init : xm_Fraction_init.2.2.2.all (xi_okE xT xCl xZs xG0 xm_Fraction_init) = true := by decide +kernel
theorem xk_m_Fraction_put : xi_okM xT xm_Fraction_put = true := xi_okM_P 451 71 449 450 (by decide +kernel)
set_option maxRecDepth 20000 in
theorem xk_e_Fraction_put : xm_Fraction_put.2.2.2.all (xi_okE xT xCl xZs xG0 xm_Fraction_put) = true := by decide +kernel
theorem xk_m_Fraction_takeTop : xi_okM xT xm_Fraction_takeTop = true := xi_okM_P 466 71 464 465 (by decide +kernel)
set_option maxRecDepth 20000 in
theorem xk_e_Fraction_takeTop : xm_Fraction_takeTop.2.2.2.all (xi_okE xT xCl xZs xG0 xm_Fraction_takeTop) = true := by decide +kernel
theorem xk_m_Fraction_divide : xi_okM xT xm_Fraction_divide = true := xi_okM_P 488 71 486 487 (by decide +kernel)
set_option maxRecDepth 20000 in
theorem xk_e_Fraction_divide : xm_Fraction_divide.2.2.2.all (xi_okE xT xCl xZs xG0 xm_Fraction_divide) = true := by decide +kernel
theorem xk_m_Fraction_gcd : xi_okM xT xm_Fraction_gcd = true := xi_okM_P 497 71 496 0 (by decide +kernel)
set_option maxRecDepth 20000 in
theorem xk_e_Fraction_gcd : xm_Fraction_gcd.2.2.2.all (xi_okE xT xCl xZs xG0 xm_Fraction_gcd) = true := by decide +kernel
theorem xk_m_Lots_init : xi_okM xT xm_Lots_init = true := xi_okM_P 145 70 144 0 (by decide +kernel)
set_option maxRecDepth 20000 in
theorem xk_e_Lots_init : xm_Lots_init.2.2.2.all (xi_okE xT xCl xZs xG0 xm_Lots_init) = true := by decide +kernel
theorem xk_m_Lots_forget : xi_okM xT xm_Lots_forget = true := xi_okM_P 348 70 346 347 (by decide +kernel)
set_option maxRecDepth 20000 in
theorem xk_e_Lots_forget : xm_Lots_forget.2.2.2.all (xi_okE xT xCl xZs xG0 xm_Lots_forget) = true := by decide +kernel
theorem xk_m_Lots_choose : xi_okM xT xm_Lots_choose = true := xi_okM_P 353 70 351 352 (by decide +kernel)
set_option maxRecDepth 20000 in
theorem xk_e_Lots_choose : xm_Lots_choose.2.2.2.all (xi_okE xT xCl xZs xG0 xm_Lots_choose) = true := by decide +kernel
theorem xk_m_Lots_fromAllHeaps : xi_okM xT xm_Lots_fromAllHeaps = true := xi_okM_P 671 70 669 670 (by decide +kernel)
set_option maxRecDepth 20000 in
theorem xk_e_Lots_fromAllHeaps : xm_Lots_fromAllHeaps.2.2.2.all (xi_okE xT xCl xZs xG0 xm_Lots_fromAllHeaps) = true := by decide +kernel
theorem xk_m_Lots_weightOfName : xi_okM xT xm_Lots_weightOfName = true := xi_okM_P 526 70 524 525 (by decide +kernel)
set_option maxRecDepth 20000 in
theorem xk_e_Lots_weightOfName : xm_Lots_weightOfName.2.2.2.all (xi_okE xT xCl xZs xG0 xm_Lots_weightOfName) = true := by decide +kernel
theorem xk_m_Lots_weightOfPair : xi_okM xT xm_Lots_weightOfPair = true := xi_okM_P 441 70 439 440 (by decide +kernel)
set_option maxRecDepth 20000 in
theorem xk_e_Lots_weightOfPair : xm_Lots_weightOfPair.2.2.2.all (xi_okE xT xCl xZs xG0 xm_Lots_weightOfPair) = true := by decide +kernel
theorem xk_m_Lots_prepare : xi_okM xT xm_Lots_prepare = true := xi_okM_P 397 70 395 396 (by decide +kernel)
set_option maxRecDepth 20000 in
theorem xk_e_Lots_prepare : xm_Lots_prepare.2.2.2.all (xi_okE xT xCl xZs xG0 xm_Lots_prepare) = true := by decide +kernel
theorem xk_m_Lots_weigh : xi_okM xT xm_Lots_weigh = true := xi_okM_P 404 70 403 2 (by decide +kernel)
set_option maxRecDepth 20000 in
theorem xk_e_Lots_weigh : xm_Lots_weigh.2.2.2.all (xi_okE xT xCl xZs xG0 xm_Lots_weigh) = true := by decide +kernel
theorem xk_m_Lots_fitsHeaps : xi_okM xT xm_Lots_fitsHeaps = true := xi_okM_P 408 70 407 3 (by decide +kernel)
set_option maxRecDepth 20000 in
theorem xk_e_Lots_fitsHeaps : xm_Lots_fitsHeaps.2.2.2.all (xi_okE xT xCl xZs xG0 xm_Lots_fitsHeaps) = true := by decide +kernel
theorem xk_m_Lots_fitsShares : xi_okM xT xm_Lots_fitsShares = true := xi_okM_P 411 70 410 4 (by decide +kernel)
set_option maxRecDepth 20000 in
theorem xk_e_Lots_fitsShares : xm_Lots_fitsShares.2.2.2.all (xi_okE xT xCl xZs xG0 xm_Lots_fitsShares) = true := by decide +kernel
theorem xk_m_Lots_product : xi_okM xT xm_Lots_product = true := xi_okM_P 414 70 413 5 (by decide +kernel)
set_option maxRecDepth 20000 in
theorem xk_e_Lots_product : xm_Lots_product.2.2.2.all (xi_okE xT xCl xZs xG0 xm_Lots_product) = true := by decide +kernel
theorem xk_m_Lots_weighStarts : xi_okM xT xm_Lots_weighStarts = true := xi_okM_P 417 70 416 6 (by decide +kernel)
set_option maxRecDepth 20000 in
theorem xk_e_Lots_weighStarts : xm_Lots_weighStarts.2.2.2.all (xi_okE xT xCl xZs xG0 xm_Lots_weighStarts) = true := by decide +kernel
theorem xk_m_Lots_setFrom : xi_okM xT xm_Lots_setFrom = true := xi_okM_P 421 70 420 7 (by decide +kernel)
set_option maxRecDepth 20000 in
theorem xk_e_Lots_setFrom : xm_Lots_setFrom.2.2.2.all (xi_okE xT xCl xZs xG0 xm_Lots_setFrom) = true := by decide +kernel
theorem xk_m_Lots_pairOwn : xi_okM xT xm_Lots_pairOwn = true := xi_okM_P 427 70 426 8 (by decide +kernel)
set_option maxRecDepth 20000 in
theorem xk_e_Lots_pairOwn : xm_Lots_pairOwn.2.2.2.all (xi_okE xT xCl xZs xG0 xm_Lots_pairOwn) = true := by decide +kernel
theorem xk_m_Lots_pairByWeights : xi_okM xT xm_Lots_pairByWeights = true := xi_okM_P 431 70 430 9 (by decide +kernel)
set_option maxRecDepth 20000 in
theorem xk_e_Lots_pairByWeights : xm_Lots_pairByWeights.2.2.2.all (xi_okE xT xCl xZs xG0 xm_Lots_pairByWeights) = true := by decide +kernel
theorem xk_m_Lots_addToPairs : xi_okM xT xm_Lots_addToPairs = true := xi_okM_P 437 70 436 10 (by decide +kernel)
set_option maxRecDepth 20000 in
theorem xk_e_Lots_addToPairs : xm_Lots_addToPairs.2.2.2.all (xi_okE xT xCl xZs xG0 xm_Lots_addToPairs) = true := by decide +kernel
theorem xk_m_Sharing_init : xi_okM xT xm_Sharing_init = true := xi_okM_P 226 74 225 0 (by decide +kernel)
set_option maxRecDepth 20000 in
theorem xk_e_Sharing_init : xm_Sharing_init.2.2.2.all (xi_okE xT xCl xZs xG0 xm_Sharing_init) = true := by decide +kernel
theorem xk_m_Sharing_shareOut : xi_okM xT xm_Sharing_shareOut = true := xi_okM_P 601 74 599 600 (by decide +kernel)
set_option maxRecDepth 20000 in
theorem xk_e_Sharing_shareOut : xm_Sharing_shareOut.2.2.2.all (xi_okE xT xCl xZs xG0 xm_Sharing_shareOut) = true := by decide +kernel
theorem xk_m_Sharing_measure : xi_okM xT xm_Sharing_measure = true := xi_okM_P 604 74 603 20 (by decide +kernel)
set_option maxRecDepth 20000 in
theorem xk_e_Sharing_measure : xm_Sharing_measure.2.2.2.all (xi_okE xT xCl xZs xG0 xm_Sharing_measure) = true := by decide +kernel
theorem xk_m_Sharing_offer : xi_okM xT xm_Sharing_offer = true := xi_okM_P 613 74 612 21 (by decide +kernel)
set_option maxRecDepth 20000 in
theorem xk_e_Sharing_offer : xm_Sharing_offer.2.2.2.all (xi_okE xT xCl xZs xG0 xm_Sharing_offer) = true := by decide +kernel
theorem xk_m_Sharing_cost : xi_okM xT xm_Sharing_cost = true := xi_okM_P 616 74 615 22 (by decide +kernel)
set_option maxRecDepth 20000 in
theorem xk_e_Sharing_cost : xm_Sharing_cost.2.2.2.all (xi_okE xT xCl xZs xG0 xm_Sharing_cost) = true := by decide +kernel
theorem xk_m_Slots_init : xi_okM xT xm_Slots_init = true := xi_okM_P 91 67 90 0 (by decide +kernel)
set_option maxRecDepth 20000 in
theorem xk_e_Slots_init : xm_Slots_init.2.2.2.all (xi_okE xT xCl xZs xG0 xm_Slots_init) = true := by decide +kernel
theorem xk_m_Slots_isLaid : xi_okM xT xm_Slots_isLaid = true := xi_okM_P 307 67 305 306 (by decide +kernel)
set_option maxRecDepth 20000 in
theorem xk_e_Slots_isLaid : xm_Slots_isLaid.2.2.2.all (xi_okE xT xCl xZs xG0 xm_Slots_isLaid) = true := by decide +kernel
theorem xk_m_Slots_laid : xi_okM xT xm_Slots_laid = true := xi_okM_P 675 67 673 674 (by decide +kernel)
set_option maxRecDepth 20000 in
theorem xk_e_Slots_laid : xm_Slots_laid.2.2.2.all (xi_okE xT xCl xZs xG0 xm_Slots_laid) = true := by decide +kernel
theorem xk_m_Slots_lay : xi_okM xT xm_Slots_lay = true := xi_okM_P 299 67 297 298 (by decide +kernel)
set_option maxRecDepth 20000 in
theorem xk_e_Slots_lay : xm_Slots_lay.2.2.2.all (xi_okE xT xCl xZs xG0 xm_Slots_lay) = true := by decide +kernel
theorem xk_m_Slots_at : xi_okM xT xm_Slots_at = true := xi_okM_P 330 67 328 329 (by decide +kernel)
set_option maxRecDepth 20000 in
theorem xk_e_Slots_at : xm_Slots_at.2.2.2.all (xi_okE xT xCl xZs xG0 xm_Slots_at) = true := by decide +kernel
theorem xk_m_Slots_put : xi_okM xT xm_Slots_put = true := xi_okM_P 315 67 313 314 (by decide +kernel)
set_option maxRecDepth 20000 in
theorem xk_e_Slots_put : xm_Slots_put.2.2.2.all (xi_okE xT xCl xZs xG0 xm_Slots_put) = true := by decide +kernel
theorem xk_m_Slots_cutTo : xi_okM xT xm_Slots_cutTo = true := xi_okM_P 318 67 317 0 (by decide +kernel)
set_option maxRecDepth 20000 in
theorem xk_e_Slots_cutTo : xm_Slots_cutTo.2.2.2.all (xi_okE xT xCl xZs xG0 xm_Slots_cutTo) = true := by decide +kernel
theorem xk_m_Slots_tellsCrowd : xi_okM xT xm_Slots_tellsCrowd = true := xi_okM_P 326 67 324 325 (by decide +kernel)
set_option maxRecDepth 20000 in
theorem xk_e_Slots_tellsCrowd : xm_Slots_tellsCrowd.2.2.2.all (xi_okE xT xCl xZs xG0 xm_Slots_tellsCrowd) = true := by decide +kernel
theorem xk_m_Slots_fact : xi_okM xT xm_Slots_fact = true := xi_okM_P 344 67 342 343 (by decide +kernel)
set_option maxRecDepth 20000 in
theorem xk_e_Slots_fact : xm_Slots_fact.2.2.2.all (xi_okE xT xCl xZs xG0 xm_Slots_fact) = true := by decide +kernel
theorem xk_m_Tally_init : xi_okM xT xm_Tally_init = true := xi_okM_P 211 73 210 0 (by decide +kernel)
set_option maxRecDepth 20000 in
theorem xk_e_Tally_init : xm_Tally_init.2.2.2.all (xi_okE xT xCl xZs xG0 xm_Tally_init) = true := by decide +kernel
theorem xk_m_Tally_clear : xi_okM xT xm_Tally_clear = true := xi_okM_P 537 73 535 536 (by decide +kernel)
set_option maxRecDepth 20000 in
theorem xk_e_Tally_clear : xm_Tally_clear.2.2.2.all (xi_okE xT xCl xZs xG0 xm_Tally_clear) = true := by decide +kernel
theorem xk_m_Tally_add : xi_okM xT xm_Tally_add = true := xi_okM_P 542 73 540 541 (by decide +kernel)
set_option maxRecDepth 20000 in
theorem xk_e_Tally_add : xm_Tally_add.2.2.2.all (xi_okE xT xCl xZs xG0 xm_Tally_add) = true := by decide +kernel
theorem xk_m_D_init : xi_okM xT xm_D_init = true := xi_okM_P 83 66 82 0 (by decide +kernel)
set_option maxRecDepth 20000 in
theorem xk_e_D_init : xm_D_init.2.2.2.all (xi_okE xT xCl xZs xG0 xm_D_init) = true := by decide +kernel
theorem xk_m_D_row : xi_okM xT xm_D_row = true := xi_okM_P 292 66 290 291 (by decide +kernel)
set_option maxRecDepth 20000 in
theorem xk_e_D_row : xm_D_row.2.2.2.all (xi_okE xT xCl xZs xG0 xm_D_row) = true := by decide +kernel
theorem xk_m_D_tear : xi_okM xT xm_D_tear = true := xi_okM_P 303 66 301 302 (by decide +kernel)
set_option maxRecDepth 20000 in
theorem xk_e_D_tear : xm_D_tear.2.2.2.all (xi_okE xT xCl xZs xG0 xm_D_tear) = true := by decide +kernel
theorem xk_m_D_write : xi_okM xT xm_D_write = true := xi_okM_P 311 66 309 310 (by decide +kernel)
set_option maxRecDepth 20000 in
theorem xk_e_D_write : xm_D_write.2.2.2.all (xi_okE xT xCl xZs xG0 xm_D_write) = true := by decide +kernel
theorem xk_m_D_crowd : xi_okM xT xm_D_crowd = true := xi_okM_P 322 66 320 321 (by decide +kernel)
set_option maxRecDepth 20000 in
theorem xk_e_D_crowd : xm_D_crowd.2.2.2.all (xi_okE xT xCl xZs xG0 xm_D_crowd) = true := by decide +kernel
theorem xk_m_D_drawn : xi_okM xT xm_D_drawn = true := xi_okM_P 357 66 355 356 (by decide +kernel)
set_option maxRecDepth 20000 in
theorem xk_e_D_drawn : xm_D_drawn.2.2.2.all (xi_okE xT xCl xZs xG0 xm_D_drawn) = true := by decide +kernel
theorem xk_m_D_draw : xi_okM xT xm_D_draw = true := xi_okM_P 374 66 372 373 (by decide +kernel)
set_option maxRecDepth 20000 in
theorem xk_e_D_draw : xm_D_draw.2.2.2.all (xi_okE xT xCl xZs xG0 xm_D_draw) = true := by decide +kernel
theorem xk_m_D_chance : xi_okM xT xm_D_chance = true := xi_okM_P 386 66 384 385 (by decide +kernel)
set_option maxRecDepth 20000 in
theorem xk_e_D_chance : xm_D_chance.2.2.2.all (xi_okE xT xCl xZs xG0 xm_D_chance) = true := by decide +kernel
theorem xk_m_D_both : xi_okM xT xm_D_both = true := xi_okM_P 390 66 388 389 (by decide +kernel)
set_option maxRecDepth 20000 in
theorem xk_e_D_both : xm_D_both.2.2.2.all (xi_okE xT xCl xZs xG0 xm_D_both) = true := by decide +kernel
theorem xk_m_D_set : xi_okM xT xm_D_set = true := xi_okM_P 502 66 500 501 (by decide +kernel)
set_option maxRecDepth 20000 in
theorem xk_e_D_set : xm_D_set.2.2.2.all (xi_okE xT xCl xZs xG0 xm_D_set) = true := by decide +kernel
theorem xk_m_D_sets : xi_okM xT xm_D_sets = true := xi_okM_P 518 66 516 517 (by decide +kernel)
set_option maxRecDepth 20000 in
theorem xk_e_D_sets : xm_D_sets.2.2.2.all (xi_okE xT xCl xZs xG0 xm_D_sets) = true := by decide +kernel
theorem xk_m_D_many : xi_okM xT xm_D_many = true := xi_okM_P 522 66 520 521 (by decide +kernel)
set_option maxRecDepth 20000 in
theorem xk_e_D_many : xm_D_many.2.2.2.all (xi_okE xT xCl xZs xG0 xm_D_many) = true := by decide +kernel
theorem xk_m_D_sum : xi_okM xT xm_D_sum = true := xi_okM_P 530 66 528 529 (by decide +kernel)
set_option maxRecDepth 20000 in
theorem xk_e_D_sum : xm_D_sum.2.2.2.all (xi_okE xT xCl xZs xG0 xm_D_sum) = true := by decide +kernel
theorem xk_m_D_mean : xi_okM xT xm_D_mean = true := xi_okM_P 555 66 553 554 (by decide +kernel)
set_option maxRecDepth 20000 in
theorem xk_e_D_mean : xm_D_mean.2.2.2.all (xi_okE xT xCl xZs xG0 xm_D_mean) = true := by decide +kernel
theorem xk_m_D_spread : xi_okM xT xm_D_spread = true := xi_okM_P 562 66 560 561 (by decide +kernel)
set_option maxRecDepth 20000 in
theorem xk_e_D_spread : xm_D_spread.2.2.2.all (xi_okE xT xCl xZs xG0 xm_D_spread) = true := by decide +kernel
theorem xk_m_D_heap : xi_okM xT xm_D_heap = true := xi_okM_P 576 66 574 575 (by decide +kernel)
set_option maxRecDepth 20000 in
theorem xk_e_D_heap : xm_D_heap.2.2.2.all (xi_okE xT xCl xZs xG0 xm_D_heap) = true := by decide +kernel
theorem xk_m_D_share : xi_okM xT xm_D_share = true := xi_okM_P 590 66 588 589 (by decide +kernel)
set_option maxRecDepth 20000 in
theorem xk_e_D_share : xm_D_share.2.2.2.all (xi_okE xT xCl xZs xG0 xm_D_share) = true := by decide +kernel
theorem xk_m_D_least : xi_okM xT xm_D_least = true := xi_okM_P 620 66 618 619 (by decide +kernel)
set_option maxRecDepth 20000 in
theorem xk_e_D_least : xm_D_least.2.2.2.all (xi_okE xT xCl xZs xG0 xm_D_least) = true := by decide +kernel
theorem xk_m_D_bands : xi_okM xT xm_D_bands = true := xi_okM_P 625 66 623 624 (by decide +kernel)
set_option maxRecDepth 20000 in
theorem xk_e_D_bands : xm_D_bands.2.2.2.all (xi_okE xT xCl xZs xG0 xm_D_bands) = true := by decide +kernel
theorem xk_m_D_band : xi_okM xT xm_D_band = true := xi_okM_P 650 66 648 649 (by decide +kernel)
set_option maxRecDepth 20000 in
theorem xk_e_D_band : xm_D_band.2.2.2.all (xi_okE xT xCl xZs xG0 xm_D_band) = true := by decide +kernel
theorem xk_m_D_look : xi_okM xT xm_D_look = true := xi_okM_P 658 66 656 657 (by decide +kernel)
set_option maxRecDepth 20000 in
theorem xk_e_D_look : xm_D_look.2.2.2.all (xi_okE xT xCl xZs xG0 xm_D_look) = true := by decide +kernel
theorem xk_m_D_part : xi_okM xT xm_D_part = true := xi_okM_P 663 66 661 662 (by decide +kernel)
set_option maxRecDepth 20000 in
theorem xk_e_D_part : xm_D_part.2.2.2.all (xi_okE xT xCl xZs xG0 xm_D_part) = true := by decide +kernel
theorem xk_m_D_count : xi_okM xT xm_D_count = true := xi_okM_P 667 66 665 666 (by decide +kernel)
set_option maxRecDepth 20000 in
theorem xk_e_D_count : xm_D_count.2.2.2.all (xi_okE xT xCl xZs xG0 xm_D_count) = true := by decide +kernel
theorem xk_m_D_countOfHeap : xi_okM xT xm_D_countOfHeap = true := xi_okM_P 679 66 678 27 (by decide +kernel)
set_option maxRecDepth 20000 in
theorem xk_e_D_countOfHeap : xm_D_countOfHeap.2.2.2.all (xi_okE xT xCl xZs xG0 xm_D_countOfHeap) = true := by decide +kernel
theorem xk_m_D_isSlot : xi_okM xT xm_D_isSlot = true := xi_okM_P 295 66 294 0 (by decide +kernel)
set_option maxRecDepth 20000 in
theorem xk_e_D_isSlot : xm_D_isSlot.2.2.2.all (xi_okE xT xCl xZs xG0 xm_D_isSlot) = true := by decide +kernel
theorem xk_m_D_isHeap : xi_okM xT xm_D_isHeap = true := xi_okM_P 360 66 359 0 (by decide +kernel)
set_option maxRecDepth 20000 in
theorem xk_e_D_isHeap : xm_D_isHeap.2.2.2.all (xi_okE xT xCl xZs xG0 xm_D_isHeap) = true := by decide +kernel
theorem xk_m_D_isName : xi_okM xT xm_D_isName = true := xi_okM_P 393 66 392 1 (by decide +kernel)
set_option maxRecDepth 20000 in
theorem xk_e_D_isName : xm_D_isName.2.2.2.all (xi_okE xT xCl xZs xG0 xm_D_isName) = true := by decide +kernel
theorem xk_m_D_isSet : xi_okM xT xm_D_isSet = true := xi_okM_P 505 66 504 11 (by decide +kernel)
set_option maxRecDepth 20000 in
theorem xk_e_D_isSet : xm_D_isSet.2.2.2.all (xi_okE xT xCl xZs xG0 xm_D_isSet) = true := by decide +kernel
theorem xk_m_D_canStep : xi_okM xT xm_D_canStep = true := xi_okM_P 378 66 377 0 (by decide +kernel)
set_option maxRecDepth 20000 in
theorem xk_e_D_canStep : xm_D_canStep.2.2.2.all (xi_okE xT xCl xZs xG0 xm_D_canStep) = true := by decide +kernel
theorem xk_m_D_canShareOut : xi_okM xT xm_D_canShareOut = true := xi_okM_P 593 66 592 19 (by decide +kernel)
set_option maxRecDepth 20000 in
theorem xk_e_D_canShareOut : xm_D_canShareOut.2.2.2.all (xi_okE xT xCl xZs xG0 xm_D_canShareOut) = true := by decide +kernel
theorem xk_m_D_tellOwnChance : xi_okM xT xm_D_tellOwnChance = true := xi_okM_P 509 66 508 12 (by decide +kernel)
set_option maxRecDepth 20000 in
theorem xk_e_D_tellOwnChance : xm_D_tellOwnChance.2.2.2.all (xi_okE xT xCl xZs xG0 xm_D_tellOwnChance) = true := by decide +kernel
theorem xk_m_D_tellSum : xi_okM xT xm_D_tellSum = true := xi_okM_P 533 66 532 13 (by decide +kernel)
set_option maxRecDepth 20000 in
theorem xk_e_D_tellSum : xm_D_tellSum.2.2.2.all (xi_okE xT xCl xZs xG0 xm_D_tellSum) = true := by decide +kernel
theorem xk_m_D_divideByNames : xi_okM xT xm_D_divideByNames = true := xi_okM_P 551 66 550 14 (by decide +kernel)
set_option maxRecDepth 20000 in
theorem xk_e_D_divideByNames : xm_D_divideByNames.2.2.2.all (xi_okE xT xCl xZs xG0 xm_D_divideByNames) = true := by decide +kernel
theorem xk_m_D_worthThatMayBeDrawn : xi_okM xT xm_D_worthThatMayBeDrawn = true := xi_okM_P 558 66 557 15 (by decide +kernel)
set_option maxRecDepth 20000 in
theorem xk_e_D_worthThatMayBeDrawn : xm_D_worthThatMayBeDrawn.2.2.2.all (xi_okE xT xCl xZs xG0 xm_D_worthThatMayBeDrawn) = true := by decide +kernel
theorem xk_m_D_tellSpread : xi_okM xT xm_D_tellSpread = true := xi_okM_P 565 66 564 16 (by decide +kernel)
set_option maxRecDepth 20000 in
theorem xk_e_D_tellSpread : xm_D_tellSpread.2.2.2.all (xi_okE xT xCl xZs xG0 xm_D_tellSpread) = true := by decide +kernel
theorem xk_m_D_tallyPairsBefore : xi_okM xT xm_D_tallyPairsBefore = true := xi_okM_P 568 66 567 17 (by decide +kernel)
set_option maxRecDepth 20000 in
theorem xk_e_D_tallyPairsBefore : xm_D_tallyPairsBefore.2.2.2.all (xi_okE xT xCl xZs xG0 xm_D_tallyPairsBefore) = true := by decide +kernel
theorem xk_m_D_tallyMean : xi_okM xT xm_D_tallyMean = true := xi_okM_P 572 66 571 18 (by decide +kernel)
set_option maxRecDepth 20000 in
theorem xk_e_D_tallyMean : xm_D_tallyMean.2.2.2.all (xi_okE xT xCl xZs xG0 xm_D_tallyMean) = true := by decide +kernel
theorem xk_m_M_init : xi_okM xT xm_M_init = true := xi_okM_P 684 76 683 0 (by decide +kernel)
set_option maxRecDepth 20000 in
theorem xk_e_M_init : xm_M_init.2.2.2.all (xi_okE xT xCl xZs xG0 xm_M_init) = true := by decide +kernel
theorem xk_m_M_carry : xi_okM xT xm_M_carry = true := xi_okM_P 692 76 691 29 (by decide +kernel)
set_option maxRecDepth 20000 in
theorem xk_e_M_carry : xm_M_carry.2.2.2.all (xi_okE xT xCl xZs xG0 xm_M_carry) = true := by decide +kernel
theorem xk_m_M_put : xi_okM xT xm_M_put = true := xi_okM_P 689 76 688 28 (by decide +kernel)
set_option maxRecDepth 20000 in
theorem xk_e_M_put : xm_M_put.2.2.2.all (xi_okE xT xCl xZs xG0 xm_M_put) = true := by decide +kernel
theorem xk_m_M_copy : xi_okM xT xm_M_copy = true := xi_okM_P 853 76 852 43 (by decide +kernel)
set_option maxRecDepth 20000 in
theorem xk_e_M_copy : xm_M_copy.2.2.2.all (xi_okE xT xCl xZs xG0 xm_M_copy) = true := by decide +kernel
theorem xk_m_M_more : xi_okM xT xm_M_more = true := xi_okM_P 826 76 825 36 (by decide +kernel)
set_option maxRecDepth 20000 in
theorem xk_e_M_more : xm_M_more.2.2.2.all (xi_okE xT xCl xZs xG0 xm_M_more) = true := by decide +kernel
theorem xk_m_M_isBelow : xi_okM xT xm_M_isBelow = true := xi_okM_P 841 76 840 40 (by decide +kernel)
set_option maxRecDepth 20000 in
theorem xk_e_M_isBelow : xm_M_isBelow.2.2.2.all (xi_okE xT xCl xZs xG0 xm_M_isBelow) = true := by decide +kernel
theorem xk_m_M_isZero : xi_okM xT xm_M_isZero = true := xi_okM_P 862 76 861 46 (by decide +kernel)
set_option maxRecDepth 20000 in
theorem xk_e_M_isZero : xm_M_isZero.2.2.2.all (xi_okE xT xCl xZs xG0 xm_M_isZero) = true := by decide +kernel
theorem xk_m_M_turn : xi_okM xT xm_M_turn = true := xi_okM_P 847 76 846 42 (by decide +kernel)
set_option maxRecDepth 20000 in
theorem xk_e_M_turn : xm_M_turn.2.2.2.all (xi_okE xT xCl xZs xG0 xm_M_turn) = true := by decide +kernel
theorem xk_m_M_sign : xi_okM xT xm_M_sign = true := xi_okM_P 968 76 967 63 (by decide +kernel)
set_option maxRecDepth 20000 in
theorem xk_e_M_sign : xm_M_sign.2.2.2.all (xi_okE xT xCl xZs xG0 xm_M_sign) = true := by decide +kernel
theorem xk_m_M_bare : xi_okM xT xm_M_bare = true := xi_okM_P 844 76 843 41 (by decide +kernel)
set_option maxRecDepth 20000 in
theorem xk_e_M_bare : xm_M_bare.2.2.2.all (xi_okE xT xCl xZs xG0 xm_M_bare) = true := by decide +kernel
theorem xk_m_M_length : xi_okM xT xm_M_length = true := xi_okM_P 850 76 849 0 (by decide +kernel)
set_option maxRecDepth 20000 in
theorem xk_e_M_length : xm_M_length.2.2.2.all (xi_okE xT xCl xZs xG0 xm_M_length) = true := by decide +kernel
theorem xk_m_M_times : xi_okM xT xm_M_times = true := xi_okM_P 838 76 837 39 (by decide +kernel)
set_option maxRecDepth 20000 in
theorem xk_e_M_times : xm_M_times.2.2.2.all (xi_okE xT xCl xZs xG0 xm_M_times) = true := by decide +kernel
theorem xk_m_M_parts : xi_okM xT xm_M_parts = true := xi_okM_P 876 76 875 50 (by decide +kernel)
set_option maxRecDepth 20000 in
theorem xk_e_M_parts : xm_M_parts.2.2.2.all (xi_okE xT xCl xZs xG0 xm_M_parts) = true := by decide +kernel
theorem xk_m_M_goesInto : xi_okM xT xm_M_goesInto = true := xi_okM_P 880 76 879 51 (by decide +kernel)
set_option maxRecDepth 20000 in
theorem xk_e_M_goesInto : xm_M_goesInto.2.2.2.all (xi_okE xT xCl xZs xG0 xm_M_goesInto) = true := by decide +kernel
theorem xk_m_M_isEven : xi_okM xT xm_M_isEven = true := xi_okM_P 865 76 864 47 (by decide +kernel)
set_option maxRecDepth 20000 in
theorem xk_e_M_isEven : xm_M_isEven.2.2.2.all (xi_okE xT xCl xZs xG0 xm_M_isEven) = true := by decide +kernel
theorem xk_m_M_half : xi_okM xT xm_M_half = true := xi_okM_P 869 76 868 48 (by decide +kernel)
set_option maxRecDepth 20000 in
theorem xk_e_M_half : xm_M_half.2.2.2.all (xi_okE xT xCl xZs xG0 xm_M_half) = true := by decide +kernel
theorem xk_m_M_isLess : xi_okM xT xm_M_isLess = true := xi_okM_P 872 76 871 49 (by decide +kernel)
set_option maxRecDepth 20000 in
theorem xk_e_M_isLess : xm_M_isLess.2.2.2.all (xi_okE xT xCl xZs xG0 xm_M_isLess) = true := by decide +kernel
theorem xk_m_M_result : xi_okM xT xm_M_result = true := xi_okM_P 859 76 858 45 (by decide +kernel)
set_option maxRecDepth 20000 in
theorem xk_e_M_result : xm_M_result.2.2.2.all (xi_okE xT xCl xZs xG0 xm_M_result) = true := by decide +kernel
theorem xk_m_M_isSlot : xi_okM xT xm_M_isSlot = true := xi_okM_P 769 76 768 0 (by decide +kernel)
set_option maxRecDepth 20000 in
theorem xk_e_M_isSlot : xm_M_isSlot.2.2.2.all (xi_okE xT xCl xZs xG0 xm_M_isSlot) = true := by decide +kernel
theorem xk_m_M_row : xi_okM xT xm_M_row = true := xi_okM_P 766 76 764 765 (by decide +kernel)
set_option maxRecDepth 20000 in
theorem xk_e_M_row : xm_M_row.2.2.2.all (xi_okE xT xCl xZs xG0 xm_M_row) = true := by decide +kernel
theorem xk_m_M_tear : xi_okM xT xm_M_tear = true := xi_okM_P 773 76 771 772 (by decide +kernel)
set_option maxRecDepth 20000 in
theorem xk_e_M_tear : xm_M_tear.2.2.2.all (xi_okE xT xCl xZs xG0 xm_M_tear) = true := by decide +kernel
theorem xk_m_M_write : xi_okM xT xm_M_write = true := xi_okM_P 777 76 775 776 (by decide +kernel)
set_option maxRecDepth 20000 in
theorem xk_e_M_write : xm_M_write.2.2.2.all (xi_okE xT xCl xZs xG0 xm_M_write) = true := by decide +kernel
theorem xk_m_M_crowd : xi_okM xT xm_M_crowd = true := xi_okM_P 781 76 779 780 (by decide +kernel)
set_option maxRecDepth 20000 in
theorem xk_e_M_crowd : xm_M_crowd.2.2.2.all (xi_okE xT xCl xZs xG0 xm_M_crowd) = true := by decide +kernel
theorem xk_m_M_namesOf : xi_okM xT xm_M_namesOf = true := xi_okM_P 796 76 795 30 (by decide +kernel)
set_option maxRecDepth 20000 in
theorem xk_e_M_namesOf : xm_M_namesOf.2.2.2.all (xi_okE xT xCl xZs xG0 xm_M_namesOf) = true := by decide +kernel
theorem xk_m_M_isHeap : xi_okM xT xm_M_isHeap = true := xi_okM_P 793 76 792 0 (by decide +kernel)
set_option maxRecDepth 20000 in
theorem xk_e_M_isHeap : xm_M_isHeap.2.2.2.all (xi_okE xT xCl xZs xG0 xm_M_isHeap) = true := by decide +kernel
theorem xk_m_M_isName : xi_okM xT xm_M_isName = true := xi_okM_P 814 76 813 32 (by decide +kernel)
set_option maxRecDepth 20000 in
theorem xk_e_M_isName : xm_M_isName.2.2.2.all (xi_okE xT xCl xZs xG0 xm_M_isName) = true := by decide +kernel
theorem xk_m_M_drawn : xi_okM xT xm_M_drawn = true := xi_okM_P 790 76 788 789 (by decide +kernel)
set_option maxRecDepth 20000 in
theorem xk_e_M_drawn : xm_M_drawn.2.2.2.all (xi_okE xT xCl xZs xG0 xm_M_drawn) = true := by decide +kernel
theorem xk_m_M_sizes : xi_okM xT xm_M_sizes = true := xi_okM_P 803 76 802 31 (by decide +kernel)
set_option maxRecDepth 20000 in
theorem xk_e_M_sizes : xm_M_sizes.2.2.2.all (xi_okE xT xCl xZs xG0 xm_M_sizes) = true := by decide +kernel
theorem xk_m_M_draw : xi_okM xT xm_M_draw = true := xi_okM_P 800 76 798 799 (by decide +kernel)
set_option maxRecDepth 20000 in
theorem xk_e_M_draw : xm_M_draw.2.2.2.all (xi_okE xT xCl xZs xG0 xm_M_draw) = true := by decide +kernel
theorem xk_m_M_bits : xi_okM xT xm_M_bits = true := xi_okM_P 832 76 831 0 (by decide +kernel)
set_option maxRecDepth 20000 in
theorem xk_e_M_bits : xm_M_bits.2.2.2.all (xi_okE xT xCl xZs xG0 xm_M_bits) = true := by decide +kernel
theorem xk_m_M_isByHeaps : xi_okM xT xm_M_isByHeaps = true := xi_okM_P 835 76 834 38 (by decide +kernel)
set_option maxRecDepth 20000 in
theorem xk_e_M_isByHeaps : xm_M_isByHeaps.2.2.2.all (xi_okE xT xCl xZs xG0 xm_M_isByHeaps) = true := by decide +kernel
theorem xk_m_M_standsAt : xi_okM xT xm_M_standsAt = true := xi_okM_P 820 76 819 34 (by decide +kernel)
set_option maxRecDepth 20000 in
theorem xk_e_M_standsAt : xm_M_standsAt.2.2.2.all (xi_okE xT xCl xZs xG0 xm_M_standsAt) = true := by decide +kernel
theorem xk_m_M_one : xi_okM xT xm_M_one = true := xi_okM_P 823 76 822 35 (by decide +kernel)
set_option maxRecDepth 20000 in
theorem xk_e_M_one : xm_M_one.2.2.2.all (xi_okE xT xCl xZs xG0 xm_M_one) = true := by decide +kernel
theorem xk_m_M_weigh : xi_okM xT xm_M_weigh = true := xi_okM_P 829 76 828 37 (by decide +kernel)
set_option maxRecDepth 20000 in
theorem xk_e_M_weigh : xm_M_weigh.2.2.2.all (xi_okE xT xCl xZs xG0 xm_M_weigh) = true := by decide +kernel
theorem xk_m_M_know : xi_okM xT xm_M_know = true := xi_okM_P 817 76 816 33 (by decide +kernel)
set_option maxRecDepth 20000 in
theorem xk_e_M_know : xm_M_know.2.2.2.all (xi_okE xT xCl xZs xG0 xm_M_know) = true := by decide +kernel
theorem xk_m_M_reduce : xi_okM xT xm_M_reduce = true := xi_okM_P 856 76 855 44 (by decide +kernel)
set_option maxRecDepth 20000 in
theorem xk_e_M_reduce : xm_M_reduce.2.2.2.all (xi_okE xT xCl xZs xG0 xm_M_reduce) = true := by decide +kernel
theorem xk_m_M_chance : xi_okM xT xm_M_chance = true := xi_okM_P 807 76 805 806 (by decide +kernel)
set_option maxRecDepth 20000 in
theorem xk_e_M_chance : xm_M_chance.2.2.2.all (xi_okE xT xCl xZs xG0 xm_M_chance) = true := by decide +kernel
theorem xk_m_M_both : xi_okM xT xm_M_both = true := xi_okM_P 811 76 809 810 (by decide +kernel)
set_option maxRecDepth 20000 in
theorem xk_e_M_both : xm_M_both.2.2.2.all (xi_okE xT xCl xZs xG0 xm_M_both) = true := by decide +kernel
theorem xk_m_M_isSet : xi_okM xT xm_M_isSet = true := xi_okM_P 888 76 887 52 (by decide +kernel)
set_option maxRecDepth 20000 in
theorem xk_e_M_isSet : xm_M_isSet.2.2.2.all (xi_okE xT xCl xZs xG0 xm_M_isSet) = true := by decide +kernel
theorem xk_m_M_set : xi_okM xT xm_M_set = true := xi_okM_P 885 76 883 884 (by decide +kernel)
set_option maxRecDepth 20000 in
theorem xk_e_M_set : xm_M_set.2.2.2.all (xi_okE xT xCl xZs xG0 xm_M_set) = true := by decide +kernel
theorem xk_m_M_sets : xi_okM xT xm_M_sets = true := xi_okM_P 892 76 890 891 (by decide +kernel)
set_option maxRecDepth 20000 in
theorem xk_e_M_sets : xm_M_sets.2.2.2.all (xi_okE xT xCl xZs xG0 xm_M_sets) = true := by decide +kernel
theorem xk_m_M_many : xi_okM xT xm_M_many = true := xi_okM_P 896 76 894 895 (by decide +kernel)
set_option maxRecDepth 20000 in
theorem xk_e_M_many : xm_M_many.2.2.2.all (xi_okE xT xCl xZs xG0 xm_M_many) = true := by decide +kernel
theorem xk_m_M_toldSum : xi_okM xT xm_M_toldSum = true := xi_okM_P 903 76 902 53 (by decide +kernel)
set_option maxRecDepth 20000 in
theorem xk_e_M_toldSum : xm_M_toldSum.2.2.2.all (xi_okE xT xCl xZs xG0 xm_M_toldSum) = true := by decide +kernel
theorem xk_m_M_sum : xi_okM xT xm_M_sum = true := xi_okM_P 900 76 898 899 (by decide +kernel)
set_option maxRecDepth 20000 in
theorem xk_e_M_sum : xm_M_sum.2.2.2.all (xi_okE xT xCl xZs xG0 xm_M_sum) = true := by decide +kernel
theorem xk_m_M_sums : xi_okM xT xm_M_sums = true := xi_okM_P 910 76 909 54 (by decide +kernel)
set_option maxRecDepth 20000 in
theorem xk_e_M_sums : xm_M_sums.2.2.2.all (xi_okE xT xCl xZs xG0 xm_M_sums) = true := by decide +kernel
theorem xk_m_M_mean : xi_okM xT xm_M_mean = true := xi_okM_P 907 76 905 906 (by decide +kernel)
set_option maxRecDepth 20000 in
theorem xk_e_M_mean : xm_M_mean.2.2.2.all (xi_okE xT xCl xZs xG0 xm_M_mean) = true := by decide +kernel
theorem xk_m_M_spread : xi_okM xT xm_M_spread = true := xi_okM_P 914 76 912 913 (by decide +kernel)
set_option maxRecDepth 20000 in
theorem xk_e_M_spread : xm_M_spread.2.2.2.all (xi_okE xT xCl xZs xG0 xm_M_spread) = true := by decide +kernel
theorem xk_m_M_off : xi_okM xT xm_M_off = true := xi_okM_P 927 76 926 57 (by decide +kernel)
set_option maxRecDepth 20000 in
theorem xk_e_M_off : xm_M_off.2.2.2.all (xi_okE xT xCl xZs xG0 xm_M_off) = true := by decide +kernel
theorem xk_m_M_setOf : xi_okM xT xm_M_setOf = true := xi_okM_P 924 76 923 56 (by decide +kernel)
set_option maxRecDepth 20000 in
theorem xk_e_M_setOf : xm_M_setOf.2.2.2.all (xi_okE xT xCl xZs xG0 xm_M_setOf) = true := by decide +kernel
theorem xk_m_M_v : xi_okM xT xm_M_v = true := xi_okM_P 921 76 920 55 (by decide +kernel)
set_option maxRecDepth 20000 in
theorem xk_e_M_v : xm_M_v.2.2.2.all (xi_okE xT xCl xZs xG0 xm_M_v) = true := by decide +kernel
theorem xk_m_M_told : xi_okM xT xm_M_told = true := xi_okM_P 931 76 930 58 (by decide +kernel)
set_option maxRecDepth 20000 in
theorem xk_e_M_told : xm_M_told.2.2.2.all (xi_okE xT xCl xZs xG0 xm_M_told) = true := by decide +kernel
theorem xk_m_M_heap : xi_okM xT xm_M_heap = true := xi_okM_P 918 76 916 917 (by decide +kernel)
set_option maxRecDepth 20000 in
theorem xk_e_M_heap : xm_M_heap.2.2.2.all (xi_okE xT xCl xZs xG0 xm_M_heap) = true := by decide +kernel
theorem xk_m_M_adds : xi_okM xT xm_M_adds = true := xi_okM_P 944 76 943 60 (by decide +kernel)
set_option maxRecDepth 20000 in
theorem xk_e_M_adds : xm_M_adds.2.2.2.all (xi_okE xT xCl xZs xG0 xm_M_adds) = true := by decide +kernel
theorem xk_m_M_some : xi_okM xT xm_M_some = true := xi_okM_P 941 76 940 0 (by decide +kernel)
set_option maxRecDepth 20000 in
theorem xk_e_M_some : xm_M_some.2.2.2.all (xi_okE xT xCl xZs xG0 xm_M_some) = true := by decide +kernel
theorem xk_m_M_isShared : xi_okM xT xm_M_isShared = true := xi_okM_P 938 76 937 59 (by decide +kernel)
set_option maxRecDepth 20000 in
theorem xk_e_M_isShared : xm_M_isShared.2.2.2.all (xi_okE xT xCl xZs xG0 xm_M_isShared) = true := by decide +kernel
theorem xk_m_M_share : xi_okM xT xm_M_share = true := xi_okM_P 935 76 933 934 (by decide +kernel)
set_option maxRecDepth 20000 in
theorem xk_e_M_share : xm_M_share.2.2.2.all (xi_okE xT xCl xZs xG0 xm_M_share) = true := by decide +kernel
theorem xk_m_M_orders : xi_okM xT xm_M_orders = true := xi_okM_P 954 76 953 62 (by decide +kernel)
set_option maxRecDepth 20000 in
theorem xk_e_M_orders : xm_M_orders.2.2.2.all (xi_okE xT xCl xZs xG0 xm_M_orders) = true := by decide +kernel
theorem xk_m_M_isCut : xi_okM xT xm_M_isCut = true := xi_okM_P 951 76 950 61 (by decide +kernel)
set_option maxRecDepth 20000 in
theorem xk_e_M_isCut : xm_M_isCut.2.2.2.all (xi_okE xT xCl xZs xG0 xm_M_isCut) = true := by decide +kernel
theorem xk_m_M_isShorter : xi_okM xT xm_M_isShorter = true := xi_okM_P 957 76 956 0 (by decide +kernel)
set_option maxRecDepth 20000 in
theorem xk_e_M_isShorter : xm_M_isShorter.2.2.2.all (xi_okE xT xCl xZs xG0 xm_M_isShorter) = true := by decide +kernel
theorem xk_m_M_bands : xi_okM xT xm_M_bands = true := xi_okM_P 948 76 946 947 (by decide +kernel)
set_option maxRecDepth 20000 in
theorem xk_e_M_bands : xm_M_bands.2.2.2.all (xi_okE xT xCl xZs xG0 xm_M_bands) = true := by decide +kernel
theorem xk_m_M_band : xi_okM xT xm_M_band = true := xi_okM_P 961 76 959 960 (by decide +kernel)
set_option maxRecDepth 20000 in
theorem xk_e_M_band : xm_M_band.2.2.2.all (xi_okE xT xCl xZs xG0 xm_M_band) = true := by decide +kernel
theorem xk_m_M_manyParts : xi_okM xT xm_M_manyParts = true := xi_okM_P 971 76 970 64 (by decide +kernel)
set_option maxRecDepth 20000 in
theorem xk_e_M_manyParts : xm_M_manyParts.2.2.2.all (xi_okE xT xCl xZs xG0 xm_M_manyParts) = true := by decide +kernel
theorem xk_m_M_look : xi_okM xT xm_M_look = true := xi_okM_P 965 76 963 964 (by decide +kernel)
set_option maxRecDepth 20000 in
theorem xk_e_M_look : xm_M_look.2.2.2.all (xi_okE xT xCl xZs xG0 xm_M_look) = true := by decide +kernel
theorem xk_m_M_part : xi_okM xT xm_M_part = true := xi_okM_P 975 76 973 974 (by decide +kernel)
set_option maxRecDepth 20000 in
theorem xk_e_M_part : xm_M_part.2.2.2.all (xi_okE xT xCl xZs xG0 xm_M_part) = true := by decide +kernel
theorem xk_m_M_least : xi_okM xT xm_M_least = true := xi_okM_P 979 76 977 978 (by decide +kernel)
set_option maxRecDepth 20000 in
theorem xk_e_M_least : xm_M_least.2.2.2.all (xi_okE xT xCl xZs xG0 xm_M_least) = true := by decide +kernel
theorem xk_m_M_count : xi_okM xT xm_M_count = true := xi_okM_P 984 76 982 983 (by decide +kernel)
set_option maxRecDepth 20000 in
theorem xk_e_M_count : xm_M_count.2.2.2.all (xi_okE xT xCl xZs xG0 xm_M_count) = true := by decide +kernel
set_option maxRecDepth 20000 in
theorem xk_e_Law_law : xm_Law_law.2.2.2.all (xi_okE xT xCl xZs xG0 xm_Law_law) = true := by decide +kernel
end
section
/-! all tables together, and the claim out of the abstract machine's promise for the law -/
theorem xi_okE_G {T : List Cond} {cl : List vw_C} {zs : xiZ} {G G2 : xiG} (h : G.1 = G2.1) : xi_okE T cl zs G = xi_okE T cl zs G2 := by
  funext md q
  unfold xi_okE
  rw [h]
def xTf : Nat → Nat → FieldType := fun ci => match ci with
  | 0 => tyX0
  | 1 => tyX1
  | 2 => tyX2
  | 3 => tyX3
  | 4 => tyX4
  | 5 => tyX5
  | 6 => tyX6
  | 7 => tyX7
  | 8 => tyX8
  | _ => tyX9
theorem xg_c (ci : Nat) (q : vw_C) (hq : xCl[ci]? = some q) : xi_okC xT xFk xTf ci q := by
  match ci, hq with
  | 0, hq => cases hq; exact ⟨xk_c0, rfl, nmX0, tyX0_ok, by decide +kernel⟩
  | 1, hq => cases hq; exact ⟨xk_c1, rfl, nmX1, tyX1_ok, by decide +kernel⟩
  | 2, hq => cases hq; exact ⟨xk_c2, rfl, nmX2, tyX2_ok, by decide +kernel⟩
  | 3, hq => cases hq; exact ⟨xk_c3, rfl, nmX3, tyX3_ok, by decide +kernel⟩
  | 4, hq => cases hq; exact ⟨xk_c4, rfl, nmX4, tyX4_ok, by decide +kernel⟩
  | 5, hq => cases hq; exact ⟨xk_c5, rfl, nmX5, tyX5_ok, by decide +kernel⟩
  | 6, hq => cases hq; exact ⟨xk_c6, rfl, nmX6, tyX6_ok, by decide +kernel⟩
  | 7, hq => cases hq; exact ⟨xk_c7, rfl, nmX7, tyX7_ok, by decide +kernel⟩
  | 8, hq => cases hq; exact ⟨xk_c8, rfl, nmX8, tyX8_ok, by decide +kernel⟩
  | 9, hq => cases hq; exact ⟨xk_c9, rfl, nmX9, tyX9_ok, by decide +kernel⟩
  | k + 10, hq => simp [xCl] at hq
def xg_P (md : xiM) : Prop := (md.1.1 ≠ "law" → xi_okM xT md = true) ∧ ∀ q ∈ md.2.2.2, xi_okE xT xCl xZs xG0 md q = true
theorem xg_Int_bitCount : xg_P xm_Int_bitCount := ⟨fun _ => xk_m_Int_bitCount, List.all_eq_true.mp xk_e_Int_bitCount⟩
theorem xg_Math_floorDivL : xg_P xm_Math_floorDivL := ⟨fun _ => xk_m_Math_floorDivL, List.all_eq_true.mp xk_e_Math_floorDivL⟩
theorem xg_Math_floorModI : xg_P xm_Math_floorModI := ⟨fun _ => xk_m_Math_floorModI, List.all_eq_true.mp xk_e_Math_floorModI⟩
theorem xg_Math_floorModL : xg_P xm_Math_floorModL := ⟨fun _ => xk_m_Math_floorModL, List.all_eq_true.mp xk_e_Math_floorModL⟩
theorem xg_Math_max : xg_P xm_Math_max := ⟨fun _ => xk_m_Math_max, List.all_eq_true.mp xk_e_Math_max⟩
theorem xg_Math_min : xg_P xm_Math_min := ⟨fun _ => xk_m_Math_min, List.all_eq_true.mp xk_e_Math_min⟩
theorem xg_Arr_fillL : xg_P xm_Arr_fillL := ⟨fun _ => xk_m_Arr_fillL, List.all_eq_true.mp xk_e_Arr_fillL⟩
theorem xg_Arr_fillI : xg_P xm_Arr_fillI := ⟨fun _ => xk_m_Arr_fillI, List.all_eq_true.mp xk_e_Arr_fillI⟩
theorem xg_Big_init : xg_P xm_Big_init := ⟨fun _ => xk_m_Big_init, List.all_eq_true.mp xk_e_Big_init⟩
theorem xg_Big_become : xg_P xm_Big_become := ⟨fun _ => xk_m_Big_become, List.all_eq_true.mp xk_e_Big_become⟩
theorem xg_Big_multiply : xg_P xm_Big_multiply := ⟨fun _ => xk_m_Big_multiply, List.all_eq_true.mp xk_e_Big_multiply⟩
theorem xg_Big_addProduct : xg_P xm_Big_addProduct := ⟨fun _ => xk_m_Big_addProduct, List.all_eq_true.mp xk_e_Big_addProduct⟩
theorem xg_Big_isBelowZero : xg_P xm_Big_isBelowZero := ⟨fun _ => xk_m_Big_isBelowZero, List.all_eq_true.mp xk_e_Big_isBelowZero⟩
theorem xg_Big_length : xg_P xm_Big_length := ⟨fun _ => xk_m_Big_length, List.all_eq_true.mp xk_e_Big_length⟩
theorem xg_Big_isZero : xg_P xm_Big_isZero := ⟨fun _ => xk_m_Big_isZero, List.all_eq_true.mp xk_e_Big_isZero⟩
theorem xg_Big_divide : xg_P xm_Big_divide := ⟨fun _ => xk_m_Big_divide, List.all_eq_true.mp xk_e_Big_divide⟩
theorem xg_Crowd_init : xg_P xm_Crowd_init := ⟨fun _ => xk_m_Crowd_init, List.all_eq_true.mp xk_e_Crowd_init⟩
theorem xg_Crowd_take : xg_P xm_Crowd_take := ⟨fun _ => xk_m_Crowd_take, List.all_eq_true.mp xk_e_Crowd_take⟩
theorem xg_Crowd_setCount : xg_P xm_Crowd_setCount := ⟨fun _ => xk_m_Crowd_setCount, List.all_eq_true.mp xk_e_Crowd_setCount⟩
theorem xg_Crowd_heapNames : xg_P xm_Crowd_heapNames := ⟨fun _ => xk_m_Crowd_heapNames, List.all_eq_true.mp xk_e_Crowd_heapNames⟩
theorem xg_Crowd_heapsWithNames : xg_P xm_Crowd_heapsWithNames := ⟨fun _ => xk_m_Crowd_heapsWithNames, List.all_eq_true.mp xk_e_Crowd_heapsWithNames⟩
theorem xg_Crowd_allSizes : xg_P xm_Crowd_allSizes := ⟨fun _ => xk_m_Crowd_allSizes, List.all_eq_true.mp xk_e_Crowd_allSizes⟩
theorem xg_Crowd_spreadTop : xg_P xm_Crowd_spreadTop := ⟨fun _ => xk_m_Crowd_spreadTop, List.all_eq_true.mp xk_e_Crowd_spreadTop⟩
theorem xg_Crowd_spreadBottom : xg_P xm_Crowd_spreadBottom := ⟨fun _ => xk_m_Crowd_spreadBottom, List.all_eq_true.mp xk_e_Crowd_spreadBottom⟩
theorem xg_Cutting_init : xg_P xm_Cutting_init := ⟨fun _ => xk_m_Cutting_init, List.all_eq_true.mp xk_e_Cutting_init⟩
theorem xg_Cutting_leastOf : xg_P xm_Cutting_leastOf := ⟨fun _ => xk_m_Cutting_leastOf, List.all_eq_true.mp xk_e_Cutting_leastOf⟩
theorem xg_Cutting_cut : xg_P xm_Cutting_cut := ⟨fun _ => xk_m_Cutting_cut, List.all_eq_true.mp xk_e_Cutting_cut⟩
theorem xg_Cutting_order : xg_P xm_Cutting_order := ⟨fun _ => xk_m_Cutting_order, List.all_eq_true.mp xk_e_Cutting_order⟩
theorem xg_Cutting_cost : xg_P xm_Cutting_cost := ⟨fun _ => xk_m_Cutting_cost, List.all_eq_true.mp xk_e_Cutting_cost⟩
theorem xg_Cutting_cutFirst : xg_P xm_Cutting_cutFirst := ⟨fun _ => xk_m_Cutting_cutFirst, List.all_eq_true.mp xk_e_Cutting_cutFirst⟩
theorem xg_Cutting_choose : xg_P xm_Cutting_choose := ⟨fun _ => xk_m_Cutting_choose, List.all_eq_true.mp xk_e_Cutting_choose⟩
theorem xg_Cutting_bandOf : xg_P xm_Cutting_bandOf := ⟨fun _ => xk_m_Cutting_bandOf, List.all_eq_true.mp xk_e_Cutting_bandOf⟩
theorem xg_Fraction_init : xg_P xm_Fraction_init := ⟨fun _ => xk_m_Fraction_init, List.all_eq_true.mp xk_e_Fraction_init⟩
theorem xg_Fraction_put : xg_P xm_Fraction_put := ⟨fun _ => xk_m_Fraction_put, List.all_eq_true.mp xk_e_Fraction_put⟩
theorem xg_Fraction_takeTop : xg_P xm_Fraction_takeTop := ⟨fun _ => xk_m_Fraction_takeTop, List.all_eq_true.mp xk_e_Fraction_takeTop⟩
theorem xg_Fraction_divide : xg_P xm_Fraction_divide := ⟨fun _ => xk_m_Fraction_divide, List.all_eq_true.mp xk_e_Fraction_divide⟩
theorem xg_Fraction_gcd : xg_P xm_Fraction_gcd := ⟨fun _ => xk_m_Fraction_gcd, List.all_eq_true.mp xk_e_Fraction_gcd⟩
theorem xg_Lots_init : xg_P xm_Lots_init := ⟨fun _ => xk_m_Lots_init, List.all_eq_true.mp xk_e_Lots_init⟩
theorem xg_Lots_forget : xg_P xm_Lots_forget := ⟨fun _ => xk_m_Lots_forget, List.all_eq_true.mp xk_e_Lots_forget⟩
theorem xg_Lots_choose : xg_P xm_Lots_choose := ⟨fun _ => xk_m_Lots_choose, List.all_eq_true.mp xk_e_Lots_choose⟩
theorem xg_Lots_fromAllHeaps : xg_P xm_Lots_fromAllHeaps := ⟨fun _ => xk_m_Lots_fromAllHeaps, List.all_eq_true.mp xk_e_Lots_fromAllHeaps⟩
theorem xg_Lots_weightOfName : xg_P xm_Lots_weightOfName := ⟨fun _ => xk_m_Lots_weightOfName, List.all_eq_true.mp xk_e_Lots_weightOfName⟩
theorem xg_Lots_weightOfPair : xg_P xm_Lots_weightOfPair := ⟨fun _ => xk_m_Lots_weightOfPair, List.all_eq_true.mp xk_e_Lots_weightOfPair⟩
theorem xg_Lots_prepare : xg_P xm_Lots_prepare := ⟨fun _ => xk_m_Lots_prepare, List.all_eq_true.mp xk_e_Lots_prepare⟩
theorem xg_Lots_weigh : xg_P xm_Lots_weigh := ⟨fun _ => xk_m_Lots_weigh, List.all_eq_true.mp xk_e_Lots_weigh⟩
theorem xg_Lots_fitsHeaps : xg_P xm_Lots_fitsHeaps := ⟨fun _ => xk_m_Lots_fitsHeaps, List.all_eq_true.mp xk_e_Lots_fitsHeaps⟩
theorem xg_Lots_fitsShares : xg_P xm_Lots_fitsShares := ⟨fun _ => xk_m_Lots_fitsShares, List.all_eq_true.mp xk_e_Lots_fitsShares⟩
theorem xg_Lots_product : xg_P xm_Lots_product := ⟨fun _ => xk_m_Lots_product, List.all_eq_true.mp xk_e_Lots_product⟩
theorem xg_Lots_weighStarts : xg_P xm_Lots_weighStarts := ⟨fun _ => xk_m_Lots_weighStarts, List.all_eq_true.mp xk_e_Lots_weighStarts⟩
theorem xg_Lots_setFrom : xg_P xm_Lots_setFrom := ⟨fun _ => xk_m_Lots_setFrom, List.all_eq_true.mp xk_e_Lots_setFrom⟩
theorem xg_Lots_pairOwn : xg_P xm_Lots_pairOwn := ⟨fun _ => xk_m_Lots_pairOwn, List.all_eq_true.mp xk_e_Lots_pairOwn⟩
theorem xg_Lots_pairByWeights : xg_P xm_Lots_pairByWeights := ⟨fun _ => xk_m_Lots_pairByWeights, List.all_eq_true.mp xk_e_Lots_pairByWeights⟩
theorem xg_Lots_addToPairs : xg_P xm_Lots_addToPairs := ⟨fun _ => xk_m_Lots_addToPairs, List.all_eq_true.mp xk_e_Lots_addToPairs⟩
theorem xg_Sharing_init : xg_P xm_Sharing_init := ⟨fun _ => xk_m_Sharing_init, List.all_eq_true.mp xk_e_Sharing_init⟩
theorem xg_Sharing_shareOut : xg_P xm_Sharing_shareOut := ⟨fun _ => xk_m_Sharing_shareOut, List.all_eq_true.mp xk_e_Sharing_shareOut⟩
theorem xg_Sharing_measure : xg_P xm_Sharing_measure := ⟨fun _ => xk_m_Sharing_measure, List.all_eq_true.mp xk_e_Sharing_measure⟩
theorem xg_Sharing_offer : xg_P xm_Sharing_offer := ⟨fun _ => xk_m_Sharing_offer, List.all_eq_true.mp xk_e_Sharing_offer⟩
theorem xg_Sharing_cost : xg_P xm_Sharing_cost := ⟨fun _ => xk_m_Sharing_cost, List.all_eq_true.mp xk_e_Sharing_cost⟩
theorem xg_Slots_init : xg_P xm_Slots_init := ⟨fun _ => xk_m_Slots_init, List.all_eq_true.mp xk_e_Slots_init⟩
theorem xg_Slots_isLaid : xg_P xm_Slots_isLaid := ⟨fun _ => xk_m_Slots_isLaid, List.all_eq_true.mp xk_e_Slots_isLaid⟩
theorem xg_Slots_laid : xg_P xm_Slots_laid := ⟨fun _ => xk_m_Slots_laid, List.all_eq_true.mp xk_e_Slots_laid⟩
theorem xg_Slots_lay : xg_P xm_Slots_lay := ⟨fun _ => xk_m_Slots_lay, List.all_eq_true.mp xk_e_Slots_lay⟩
theorem xg_Slots_at : xg_P xm_Slots_at := ⟨fun _ => xk_m_Slots_at, List.all_eq_true.mp xk_e_Slots_at⟩
theorem xg_Slots_put : xg_P xm_Slots_put := ⟨fun _ => xk_m_Slots_put, List.all_eq_true.mp xk_e_Slots_put⟩
theorem xg_Slots_cutTo : xg_P xm_Slots_cutTo := ⟨fun _ => xk_m_Slots_cutTo, List.all_eq_true.mp xk_e_Slots_cutTo⟩
theorem xg_Slots_tellsCrowd : xg_P xm_Slots_tellsCrowd := ⟨fun _ => xk_m_Slots_tellsCrowd, List.all_eq_true.mp xk_e_Slots_tellsCrowd⟩
theorem xg_Slots_fact : xg_P xm_Slots_fact := ⟨fun _ => xk_m_Slots_fact, List.all_eq_true.mp xk_e_Slots_fact⟩
theorem xg_Tally_init : xg_P xm_Tally_init := ⟨fun _ => xk_m_Tally_init, List.all_eq_true.mp xk_e_Tally_init⟩
theorem xg_Tally_clear : xg_P xm_Tally_clear := ⟨fun _ => xk_m_Tally_clear, List.all_eq_true.mp xk_e_Tally_clear⟩
theorem xg_Tally_add : xg_P xm_Tally_add := ⟨fun _ => xk_m_Tally_add, List.all_eq_true.mp xk_e_Tally_add⟩
theorem xg_D_init : xg_P xm_D_init := ⟨fun _ => xk_m_D_init, List.all_eq_true.mp xk_e_D_init⟩
theorem xg_D_row : xg_P xm_D_row := ⟨fun _ => xk_m_D_row, List.all_eq_true.mp xk_e_D_row⟩
theorem xg_D_tear : xg_P xm_D_tear := ⟨fun _ => xk_m_D_tear, List.all_eq_true.mp xk_e_D_tear⟩
theorem xg_D_write : xg_P xm_D_write := ⟨fun _ => xk_m_D_write, List.all_eq_true.mp xk_e_D_write⟩
theorem xg_D_crowd : xg_P xm_D_crowd := ⟨fun _ => xk_m_D_crowd, List.all_eq_true.mp xk_e_D_crowd⟩
theorem xg_D_drawn : xg_P xm_D_drawn := ⟨fun _ => xk_m_D_drawn, List.all_eq_true.mp xk_e_D_drawn⟩
theorem xg_D_draw : xg_P xm_D_draw := ⟨fun _ => xk_m_D_draw, List.all_eq_true.mp xk_e_D_draw⟩
theorem xg_D_chance : xg_P xm_D_chance := ⟨fun _ => xk_m_D_chance, List.all_eq_true.mp xk_e_D_chance⟩
theorem xg_D_both : xg_P xm_D_both := ⟨fun _ => xk_m_D_both, List.all_eq_true.mp xk_e_D_both⟩
theorem xg_D_set : xg_P xm_D_set := ⟨fun _ => xk_m_D_set, List.all_eq_true.mp xk_e_D_set⟩
theorem xg_D_sets : xg_P xm_D_sets := ⟨fun _ => xk_m_D_sets, List.all_eq_true.mp xk_e_D_sets⟩
theorem xg_D_many : xg_P xm_D_many := ⟨fun _ => xk_m_D_many, List.all_eq_true.mp xk_e_D_many⟩
theorem xg_D_sum : xg_P xm_D_sum := ⟨fun _ => xk_m_D_sum, List.all_eq_true.mp xk_e_D_sum⟩
theorem xg_D_mean : xg_P xm_D_mean := ⟨fun _ => xk_m_D_mean, List.all_eq_true.mp xk_e_D_mean⟩
theorem xg_D_spread : xg_P xm_D_spread := ⟨fun _ => xk_m_D_spread, List.all_eq_true.mp xk_e_D_spread⟩
theorem xg_D_heap : xg_P xm_D_heap := ⟨fun _ => xk_m_D_heap, List.all_eq_true.mp xk_e_D_heap⟩
theorem xg_D_share : xg_P xm_D_share := ⟨fun _ => xk_m_D_share, List.all_eq_true.mp xk_e_D_share⟩
theorem xg_D_least : xg_P xm_D_least := ⟨fun _ => xk_m_D_least, List.all_eq_true.mp xk_e_D_least⟩
theorem xg_D_bands : xg_P xm_D_bands := ⟨fun _ => xk_m_D_bands, List.all_eq_true.mp xk_e_D_bands⟩
theorem xg_D_band : xg_P xm_D_band := ⟨fun _ => xk_m_D_band, List.all_eq_true.mp xk_e_D_band⟩
theorem xg_D_look : xg_P xm_D_look := ⟨fun _ => xk_m_D_look, List.all_eq_true.mp xk_e_D_look⟩
theorem xg_D_part : xg_P xm_D_part := ⟨fun _ => xk_m_D_part, List.all_eq_true.mp xk_e_D_part⟩
theorem xg_D_count : xg_P xm_D_count := ⟨fun _ => xk_m_D_count, List.all_eq_true.mp xk_e_D_count⟩
theorem xg_D_countOfHeap : xg_P xm_D_countOfHeap := ⟨fun _ => xk_m_D_countOfHeap, List.all_eq_true.mp xk_e_D_countOfHeap⟩
theorem xg_D_isSlot : xg_P xm_D_isSlot := ⟨fun _ => xk_m_D_isSlot, List.all_eq_true.mp xk_e_D_isSlot⟩
theorem xg_D_isHeap : xg_P xm_D_isHeap := ⟨fun _ => xk_m_D_isHeap, List.all_eq_true.mp xk_e_D_isHeap⟩
theorem xg_D_isName : xg_P xm_D_isName := ⟨fun _ => xk_m_D_isName, List.all_eq_true.mp xk_e_D_isName⟩
theorem xg_D_isSet : xg_P xm_D_isSet := ⟨fun _ => xk_m_D_isSet, List.all_eq_true.mp xk_e_D_isSet⟩
theorem xg_D_canStep : xg_P xm_D_canStep := ⟨fun _ => xk_m_D_canStep, List.all_eq_true.mp xk_e_D_canStep⟩
theorem xg_D_canShareOut : xg_P xm_D_canShareOut := ⟨fun _ => xk_m_D_canShareOut, List.all_eq_true.mp xk_e_D_canShareOut⟩
theorem xg_D_tellOwnChance : xg_P xm_D_tellOwnChance := ⟨fun _ => xk_m_D_tellOwnChance, List.all_eq_true.mp xk_e_D_tellOwnChance⟩
theorem xg_D_tellSum : xg_P xm_D_tellSum := ⟨fun _ => xk_m_D_tellSum, List.all_eq_true.mp xk_e_D_tellSum⟩
theorem xg_D_divideByNames : xg_P xm_D_divideByNames := ⟨fun _ => xk_m_D_divideByNames, List.all_eq_true.mp xk_e_D_divideByNames⟩
theorem xg_D_worthThatMayBeDrawn : xg_P xm_D_worthThatMayBeDrawn := ⟨fun _ => xk_m_D_worthThatMayBeDrawn, List.all_eq_true.mp xk_e_D_worthThatMayBeDrawn⟩
theorem xg_D_tellSpread : xg_P xm_D_tellSpread := ⟨fun _ => xk_m_D_tellSpread, List.all_eq_true.mp xk_e_D_tellSpread⟩
theorem xg_D_tallyPairsBefore : xg_P xm_D_tallyPairsBefore := ⟨fun _ => xk_m_D_tallyPairsBefore, List.all_eq_true.mp xk_e_D_tallyPairsBefore⟩
theorem xg_D_tallyMean : xg_P xm_D_tallyMean := ⟨fun _ => xk_m_D_tallyMean, List.all_eq_true.mp xk_e_D_tallyMean⟩
theorem xg_M_init : xg_P xm_M_init := ⟨fun _ => xk_m_M_init, List.all_eq_true.mp xk_e_M_init⟩
theorem xg_M_carry : xg_P xm_M_carry := ⟨fun _ => xk_m_M_carry, List.all_eq_true.mp xk_e_M_carry⟩
theorem xg_M_put : xg_P xm_M_put := ⟨fun _ => xk_m_M_put, List.all_eq_true.mp xk_e_M_put⟩
theorem xg_M_copy : xg_P xm_M_copy := ⟨fun _ => xk_m_M_copy, List.all_eq_true.mp xk_e_M_copy⟩
theorem xg_M_more : xg_P xm_M_more := ⟨fun _ => xk_m_M_more, List.all_eq_true.mp xk_e_M_more⟩
theorem xg_M_isBelow : xg_P xm_M_isBelow := ⟨fun _ => xk_m_M_isBelow, List.all_eq_true.mp xk_e_M_isBelow⟩
theorem xg_M_isZero : xg_P xm_M_isZero := ⟨fun _ => xk_m_M_isZero, List.all_eq_true.mp xk_e_M_isZero⟩
theorem xg_M_turn : xg_P xm_M_turn := ⟨fun _ => xk_m_M_turn, List.all_eq_true.mp xk_e_M_turn⟩
theorem xg_M_sign : xg_P xm_M_sign := ⟨fun _ => xk_m_M_sign, List.all_eq_true.mp xk_e_M_sign⟩
theorem xg_M_bare : xg_P xm_M_bare := ⟨fun _ => xk_m_M_bare, List.all_eq_true.mp xk_e_M_bare⟩
theorem xg_M_length : xg_P xm_M_length := ⟨fun _ => xk_m_M_length, List.all_eq_true.mp xk_e_M_length⟩
theorem xg_M_times : xg_P xm_M_times := ⟨fun _ => xk_m_M_times, List.all_eq_true.mp xk_e_M_times⟩
theorem xg_M_parts : xg_P xm_M_parts := ⟨fun _ => xk_m_M_parts, List.all_eq_true.mp xk_e_M_parts⟩
theorem xg_M_goesInto : xg_P xm_M_goesInto := ⟨fun _ => xk_m_M_goesInto, List.all_eq_true.mp xk_e_M_goesInto⟩
theorem xg_M_isEven : xg_P xm_M_isEven := ⟨fun _ => xk_m_M_isEven, List.all_eq_true.mp xk_e_M_isEven⟩
theorem xg_M_half : xg_P xm_M_half := ⟨fun _ => xk_m_M_half, List.all_eq_true.mp xk_e_M_half⟩
theorem xg_M_isLess : xg_P xm_M_isLess := ⟨fun _ => xk_m_M_isLess, List.all_eq_true.mp xk_e_M_isLess⟩
theorem xg_M_result : xg_P xm_M_result := ⟨fun _ => xk_m_M_result, List.all_eq_true.mp xk_e_M_result⟩
theorem xg_M_isSlot : xg_P xm_M_isSlot := ⟨fun _ => xk_m_M_isSlot, List.all_eq_true.mp xk_e_M_isSlot⟩
theorem xg_M_row : xg_P xm_M_row := ⟨fun _ => xk_m_M_row, List.all_eq_true.mp xk_e_M_row⟩
theorem xg_M_tear : xg_P xm_M_tear := ⟨fun _ => xk_m_M_tear, List.all_eq_true.mp xk_e_M_tear⟩
theorem xg_M_write : xg_P xm_M_write := ⟨fun _ => xk_m_M_write, List.all_eq_true.mp xk_e_M_write⟩
theorem xg_M_crowd : xg_P xm_M_crowd := ⟨fun _ => xk_m_M_crowd, List.all_eq_true.mp xk_e_M_crowd⟩
theorem xg_M_namesOf : xg_P xm_M_namesOf := ⟨fun _ => xk_m_M_namesOf, List.all_eq_true.mp xk_e_M_namesOf⟩
theorem xg_M_isHeap : xg_P xm_M_isHeap := ⟨fun _ => xk_m_M_isHeap, List.all_eq_true.mp xk_e_M_isHeap⟩
theorem xg_M_isName : xg_P xm_M_isName := ⟨fun _ => xk_m_M_isName, List.all_eq_true.mp xk_e_M_isName⟩
theorem xg_M_drawn : xg_P xm_M_drawn := ⟨fun _ => xk_m_M_drawn, List.all_eq_true.mp xk_e_M_drawn⟩
theorem xg_M_sizes : xg_P xm_M_sizes := ⟨fun _ => xk_m_M_sizes, List.all_eq_true.mp xk_e_M_sizes⟩
theorem xg_M_draw : xg_P xm_M_draw := ⟨fun _ => xk_m_M_draw, List.all_eq_true.mp xk_e_M_draw⟩
theorem xg_M_bits : xg_P xm_M_bits := ⟨fun _ => xk_m_M_bits, List.all_eq_true.mp xk_e_M_bits⟩
theorem xg_M_isByHeaps : xg_P xm_M_isByHeaps := ⟨fun _ => xk_m_M_isByHeaps, List.all_eq_true.mp xk_e_M_isByHeaps⟩
theorem xg_M_standsAt : xg_P xm_M_standsAt := ⟨fun _ => xk_m_M_standsAt, List.all_eq_true.mp xk_e_M_standsAt⟩
theorem xg_M_one : xg_P xm_M_one := ⟨fun _ => xk_m_M_one, List.all_eq_true.mp xk_e_M_one⟩
theorem xg_M_weigh : xg_P xm_M_weigh := ⟨fun _ => xk_m_M_weigh, List.all_eq_true.mp xk_e_M_weigh⟩
theorem xg_M_know : xg_P xm_M_know := ⟨fun _ => xk_m_M_know, List.all_eq_true.mp xk_e_M_know⟩
theorem xg_M_reduce : xg_P xm_M_reduce := ⟨fun _ => xk_m_M_reduce, List.all_eq_true.mp xk_e_M_reduce⟩
theorem xg_M_chance : xg_P xm_M_chance := ⟨fun _ => xk_m_M_chance, List.all_eq_true.mp xk_e_M_chance⟩
theorem xg_M_both : xg_P xm_M_both := ⟨fun _ => xk_m_M_both, List.all_eq_true.mp xk_e_M_both⟩
theorem xg_M_isSet : xg_P xm_M_isSet := ⟨fun _ => xk_m_M_isSet, List.all_eq_true.mp xk_e_M_isSet⟩
theorem xg_M_set : xg_P xm_M_set := ⟨fun _ => xk_m_M_set, List.all_eq_true.mp xk_e_M_set⟩
theorem xg_M_sets : xg_P xm_M_sets := ⟨fun _ => xk_m_M_sets, List.all_eq_true.mp xk_e_M_sets⟩
theorem xg_M_many : xg_P xm_M_many := ⟨fun _ => xk_m_M_many, List.all_eq_true.mp xk_e_M_many⟩
theorem xg_M_toldSum : xg_P xm_M_toldSum := ⟨fun _ => xk_m_M_toldSum, List.all_eq_true.mp xk_e_M_toldSum⟩
theorem xg_M_sum : xg_P xm_M_sum := ⟨fun _ => xk_m_M_sum, List.all_eq_true.mp xk_e_M_sum⟩
theorem xg_M_sums : xg_P xm_M_sums := ⟨fun _ => xk_m_M_sums, List.all_eq_true.mp xk_e_M_sums⟩
theorem xg_M_mean : xg_P xm_M_mean := ⟨fun _ => xk_m_M_mean, List.all_eq_true.mp xk_e_M_mean⟩
theorem xg_M_spread : xg_P xm_M_spread := ⟨fun _ => xk_m_M_spread, List.all_eq_true.mp xk_e_M_spread⟩
theorem xg_M_off : xg_P xm_M_off := ⟨fun _ => xk_m_M_off, List.all_eq_true.mp xk_e_M_off⟩
theorem xg_M_setOf : xg_P xm_M_setOf := ⟨fun _ => xk_m_M_setOf, List.all_eq_true.mp xk_e_M_setOf⟩
theorem xg_M_v : xg_P xm_M_v := ⟨fun _ => xk_m_M_v, List.all_eq_true.mp xk_e_M_v⟩
theorem xg_M_told : xg_P xm_M_told := ⟨fun _ => xk_m_M_told, List.all_eq_true.mp xk_e_M_told⟩
theorem xg_M_heap : xg_P xm_M_heap := ⟨fun _ => xk_m_M_heap, List.all_eq_true.mp xk_e_M_heap⟩
theorem xg_M_adds : xg_P xm_M_adds := ⟨fun _ => xk_m_M_adds, List.all_eq_true.mp xk_e_M_adds⟩
theorem xg_M_some : xg_P xm_M_some := ⟨fun _ => xk_m_M_some, List.all_eq_true.mp xk_e_M_some⟩
theorem xg_M_isShared : xg_P xm_M_isShared := ⟨fun _ => xk_m_M_isShared, List.all_eq_true.mp xk_e_M_isShared⟩
theorem xg_M_share : xg_P xm_M_share := ⟨fun _ => xk_m_M_share, List.all_eq_true.mp xk_e_M_share⟩
theorem xg_M_orders : xg_P xm_M_orders := ⟨fun _ => xk_m_M_orders, List.all_eq_true.mp xk_e_M_orders⟩
theorem xg_M_isCut : xg_P xm_M_isCut := ⟨fun _ => xk_m_M_isCut, List.all_eq_true.mp xk_e_M_isCut⟩
theorem xg_M_isShorter : xg_P xm_M_isShorter := ⟨fun _ => xk_m_M_isShorter, List.all_eq_true.mp xk_e_M_isShorter⟩
theorem xg_M_bands : xg_P xm_M_bands := ⟨fun _ => xk_m_M_bands, List.all_eq_true.mp xk_e_M_bands⟩
theorem xg_M_band : xg_P xm_M_band := ⟨fun _ => xk_m_M_band, List.all_eq_true.mp xk_e_M_band⟩
theorem xg_M_manyParts : xg_P xm_M_manyParts := ⟨fun _ => xk_m_M_manyParts, List.all_eq_true.mp xk_e_M_manyParts⟩
theorem xg_M_look : xg_P xm_M_look := ⟨fun _ => xk_m_M_look, List.all_eq_true.mp xk_e_M_look⟩
theorem xg_M_part : xg_P xm_M_part := ⟨fun _ => xk_m_M_part, List.all_eq_true.mp xk_e_M_part⟩
theorem xg_M_least : xg_P xm_M_least := ⟨fun _ => xk_m_M_least, List.all_eq_true.mp xk_e_M_least⟩
theorem xg_M_count : xg_P xm_M_count := ⟨fun _ => xk_m_M_count, List.all_eq_true.mp xk_e_M_count⟩
theorem xg_Law_law : xg_P xm_Law_law := ⟨fun h => absurd rfl h, List.all_eq_true.mp xk_e_Law_law⟩
theorem xg_ch0 : ∀ md ∈ ([xm_Int_bitCount, xm_Math_floorDivL, xm_Math_floorModI, xm_Math_floorModL, xm_Math_max, xm_Math_min, xm_Arr_fillL, xm_Arr_fillI, xm_Big_init, xm_Big_become, xm_Big_multiply, xm_Big_addProduct, xm_Big_isBelowZero, xm_Big_length, xm_Big_isZero, xm_Big_divide, xm_Crowd_init, xm_Crowd_take, xm_Crowd_setCount, xm_Crowd_heapNames, xm_Crowd_heapsWithNames, xm_Crowd_allSizes, xm_Crowd_spreadTop, xm_Crowd_spreadBottom, xm_Cutting_init, xm_Cutting_leastOf, xm_Cutting_cut, xm_Cutting_order, xm_Cutting_cost, xm_Cutting_cutFirst] : List xiM), xg_P md := by
  intro md h
  simp only [List.mem_cons, List.not_mem_nil, or_false] at h
  rcases h with rfl | rfl | rfl | rfl | rfl | rfl | rfl | rfl | rfl | rfl | rfl | rfl | rfl | rfl | rfl | rfl | rfl | rfl | rfl | rfl | rfl | rfl | rfl | rfl | rfl | rfl | rfl | rfl | rfl | rfl
  · exact xg_Int_bitCount
  · exact xg_Math_floorDivL
  · exact xg_Math_floorModI
  · exact xg_Math_floorModL
  · exact xg_Math_max
  · exact xg_Math_min
  · exact xg_Arr_fillL
  · exact xg_Arr_fillI
  · exact xg_Big_init
  · exact xg_Big_become
  · exact xg_Big_multiply
  · exact xg_Big_addProduct
  · exact xg_Big_isBelowZero
  · exact xg_Big_length
  · exact xg_Big_isZero
  · exact xg_Big_divide
  · exact xg_Crowd_init
  · exact xg_Crowd_take
  · exact xg_Crowd_setCount
  · exact xg_Crowd_heapNames
  · exact xg_Crowd_heapsWithNames
  · exact xg_Crowd_allSizes
  · exact xg_Crowd_spreadTop
  · exact xg_Crowd_spreadBottom
  · exact xg_Cutting_init
  · exact xg_Cutting_leastOf
  · exact xg_Cutting_cut
  · exact xg_Cutting_order
  · exact xg_Cutting_cost
  · exact xg_Cutting_cutFirst
theorem xg_ch1 : ∀ md ∈ ([xm_Cutting_choose, xm_Cutting_bandOf, xm_Fraction_init, xm_Fraction_put, xm_Fraction_takeTop, xm_Fraction_divide, xm_Fraction_gcd, xm_Lots_init, xm_Lots_forget, xm_Lots_choose, xm_Lots_fromAllHeaps, xm_Lots_weightOfName, xm_Lots_weightOfPair, xm_Lots_prepare, xm_Lots_weigh, xm_Lots_fitsHeaps, xm_Lots_fitsShares, xm_Lots_product, xm_Lots_weighStarts, xm_Lots_setFrom, xm_Lots_pairOwn, xm_Lots_pairByWeights, xm_Lots_addToPairs, xm_Sharing_init, xm_Sharing_shareOut, xm_Sharing_measure, xm_Sharing_offer, xm_Sharing_cost, xm_Slots_init, xm_Slots_isLaid] : List xiM), xg_P md := by
  intro md h
  simp only [List.mem_cons, List.not_mem_nil, or_false] at h
  rcases h with rfl | rfl | rfl | rfl | rfl | rfl | rfl | rfl | rfl | rfl | rfl | rfl | rfl | rfl | rfl | rfl | rfl | rfl | rfl | rfl | rfl | rfl | rfl | rfl | rfl | rfl | rfl | rfl | rfl | rfl
  · exact xg_Cutting_choose
  · exact xg_Cutting_bandOf
  · exact xg_Fraction_init
  · exact xg_Fraction_put
  · exact xg_Fraction_takeTop
  · exact xg_Fraction_divide
  · exact xg_Fraction_gcd
  · exact xg_Lots_init
  · exact xg_Lots_forget
  · exact xg_Lots_choose
  · exact xg_Lots_fromAllHeaps
  · exact xg_Lots_weightOfName
  · exact xg_Lots_weightOfPair
  · exact xg_Lots_prepare
  · exact xg_Lots_weigh
  · exact xg_Lots_fitsHeaps
  · exact xg_Lots_fitsShares
  · exact xg_Lots_product
  · exact xg_Lots_weighStarts
  · exact xg_Lots_setFrom
  · exact xg_Lots_pairOwn
  · exact xg_Lots_pairByWeights
  · exact xg_Lots_addToPairs
  · exact xg_Sharing_init
  · exact xg_Sharing_shareOut
  · exact xg_Sharing_measure
  · exact xg_Sharing_offer
  · exact xg_Sharing_cost
  · exact xg_Slots_init
  · exact xg_Slots_isLaid
theorem xg_ch2 : ∀ md ∈ ([xm_Slots_laid, xm_Slots_lay, xm_Slots_at, xm_Slots_put, xm_Slots_cutTo, xm_Slots_tellsCrowd, xm_Slots_fact, xm_Tally_init, xm_Tally_clear, xm_Tally_add, xm_D_init, xm_D_row, xm_D_tear, xm_D_write, xm_D_crowd, xm_D_drawn, xm_D_draw, xm_D_chance, xm_D_both, xm_D_set, xm_D_sets, xm_D_many, xm_D_sum, xm_D_mean, xm_D_spread, xm_D_heap, xm_D_share, xm_D_least, xm_D_bands, xm_D_band] : List xiM), xg_P md := by
  intro md h
  simp only [List.mem_cons, List.not_mem_nil, or_false] at h
  rcases h with rfl | rfl | rfl | rfl | rfl | rfl | rfl | rfl | rfl | rfl | rfl | rfl | rfl | rfl | rfl | rfl | rfl | rfl | rfl | rfl | rfl | rfl | rfl | rfl | rfl | rfl | rfl | rfl | rfl | rfl
  · exact xg_Slots_laid
  · exact xg_Slots_lay
  · exact xg_Slots_at
  · exact xg_Slots_put
  · exact xg_Slots_cutTo
  · exact xg_Slots_tellsCrowd
  · exact xg_Slots_fact
  · exact xg_Tally_init
  · exact xg_Tally_clear
  · exact xg_Tally_add
  · exact xg_D_init
  · exact xg_D_row
  · exact xg_D_tear
  · exact xg_D_write
  · exact xg_D_crowd
  · exact xg_D_drawn
  · exact xg_D_draw
  · exact xg_D_chance
  · exact xg_D_both
  · exact xg_D_set
  · exact xg_D_sets
  · exact xg_D_many
  · exact xg_D_sum
  · exact xg_D_mean
  · exact xg_D_spread
  · exact xg_D_heap
  · exact xg_D_share
  · exact xg_D_least
  · exact xg_D_bands
  · exact xg_D_band
theorem xg_ch3 : ∀ md ∈ ([xm_D_look, xm_D_part, xm_D_count, xm_D_countOfHeap, xm_D_isSlot, xm_D_isHeap, xm_D_isName, xm_D_isSet, xm_D_canStep, xm_D_canShareOut, xm_D_tellOwnChance, xm_D_tellSum, xm_D_divideByNames, xm_D_worthThatMayBeDrawn, xm_D_tellSpread, xm_D_tallyPairsBefore, xm_D_tallyMean, xm_M_init, xm_M_carry, xm_M_put, xm_M_copy, xm_M_more, xm_M_isBelow, xm_M_isZero, xm_M_turn, xm_M_sign, xm_M_bare, xm_M_length, xm_M_times, xm_M_parts] : List xiM), xg_P md := by
  intro md h
  simp only [List.mem_cons, List.not_mem_nil, or_false] at h
  rcases h with rfl | rfl | rfl | rfl | rfl | rfl | rfl | rfl | rfl | rfl | rfl | rfl | rfl | rfl | rfl | rfl | rfl | rfl | rfl | rfl | rfl | rfl | rfl | rfl | rfl | rfl | rfl | rfl | rfl | rfl
  · exact xg_D_look
  · exact xg_D_part
  · exact xg_D_count
  · exact xg_D_countOfHeap
  · exact xg_D_isSlot
  · exact xg_D_isHeap
  · exact xg_D_isName
  · exact xg_D_isSet
  · exact xg_D_canStep
  · exact xg_D_canShareOut
  · exact xg_D_tellOwnChance
  · exact xg_D_tellSum
  · exact xg_D_divideByNames
  · exact xg_D_worthThatMayBeDrawn
  · exact xg_D_tellSpread
  · exact xg_D_tallyPairsBefore
  · exact xg_D_tallyMean
  · exact xg_M_init
  · exact xg_M_carry
  · exact xg_M_put
  · exact xg_M_copy
  · exact xg_M_more
  · exact xg_M_isBelow
  · exact xg_M_isZero
  · exact xg_M_turn
  · exact xg_M_sign
  · exact xg_M_bare
  · exact xg_M_length
  · exact xg_M_times
  · exact xg_M_parts
theorem xg_ch4 : ∀ md ∈ ([xm_M_goesInto, xm_M_isEven, xm_M_half, xm_M_isLess, xm_M_result, xm_M_isSlot, xm_M_row, xm_M_tear, xm_M_write, xm_M_crowd, xm_M_namesOf, xm_M_isHeap, xm_M_isName, xm_M_drawn, xm_M_sizes, xm_M_draw, xm_M_bits, xm_M_isByHeaps, xm_M_standsAt, xm_M_one, xm_M_weigh, xm_M_know, xm_M_reduce, xm_M_chance, xm_M_both, xm_M_isSet, xm_M_set, xm_M_sets, xm_M_many, xm_M_toldSum] : List xiM), xg_P md := by
  intro md h
  simp only [List.mem_cons, List.not_mem_nil, or_false] at h
  rcases h with rfl | rfl | rfl | rfl | rfl | rfl | rfl | rfl | rfl | rfl | rfl | rfl | rfl | rfl | rfl | rfl | rfl | rfl | rfl | rfl | rfl | rfl | rfl | rfl | rfl | rfl | rfl | rfl | rfl | rfl
  · exact xg_M_goesInto
  · exact xg_M_isEven
  · exact xg_M_half
  · exact xg_M_isLess
  · exact xg_M_result
  · exact xg_M_isSlot
  · exact xg_M_row
  · exact xg_M_tear
  · exact xg_M_write
  · exact xg_M_crowd
  · exact xg_M_namesOf
  · exact xg_M_isHeap
  · exact xg_M_isName
  · exact xg_M_drawn
  · exact xg_M_sizes
  · exact xg_M_draw
  · exact xg_M_bits
  · exact xg_M_isByHeaps
  · exact xg_M_standsAt
  · exact xg_M_one
  · exact xg_M_weigh
  · exact xg_M_know
  · exact xg_M_reduce
  · exact xg_M_chance
  · exact xg_M_both
  · exact xg_M_isSet
  · exact xg_M_set
  · exact xg_M_sets
  · exact xg_M_many
  · exact xg_M_toldSum
theorem xg_ch5 : ∀ md ∈ ([xm_M_sum, xm_M_sums, xm_M_mean, xm_M_spread, xm_M_off, xm_M_setOf, xm_M_v, xm_M_told, xm_M_heap, xm_M_adds, xm_M_some, xm_M_isShared, xm_M_share, xm_M_orders, xm_M_isCut, xm_M_isShorter, xm_M_bands, xm_M_band, xm_M_manyParts, xm_M_look, xm_M_part, xm_M_least, xm_M_count, xm_Law_law] : List xiM), xg_P md := by
  intro md h
  simp only [List.mem_cons, List.not_mem_nil, or_false] at h
  rcases h with rfl | rfl | rfl | rfl | rfl | rfl | rfl | rfl | rfl | rfl | rfl | rfl | rfl | rfl | rfl | rfl | rfl | rfl | rfl | rfl | rfl | rfl | rfl | rfl
  · exact xg_M_sum
  · exact xg_M_sums
  · exact xg_M_mean
  · exact xg_M_spread
  · exact xg_M_off
  · exact xg_M_setOf
  · exact xg_M_v
  · exact xg_M_told
  · exact xg_M_heap
  · exact xg_M_adds
  · exact xg_M_some
  · exact xg_M_isShared
  · exact xg_M_share
  · exact xg_M_orders
  · exact xg_M_isCut
  · exact xg_M_isShorter
  · exact xg_M_bands
  · exact xg_M_band
  · exact xg_M_manyParts
  · exact xg_M_look
  · exact xg_M_part
  · exact xg_M_least
  · exact xg_M_count
  · exact xg_Law_law
theorem xg_all : ∀ md ∈ xMs, xg_P md := by
  intro md h
  have e : xMs = [xm_Int_bitCount, xm_Math_floorDivL, xm_Math_floorModI, xm_Math_floorModL, xm_Math_max, xm_Math_min, xm_Arr_fillL, xm_Arr_fillI, xm_Big_init, xm_Big_become, xm_Big_multiply, xm_Big_addProduct, xm_Big_isBelowZero, xm_Big_length, xm_Big_isZero, xm_Big_divide, xm_Crowd_init, xm_Crowd_take, xm_Crowd_setCount, xm_Crowd_heapNames, xm_Crowd_heapsWithNames, xm_Crowd_allSizes, xm_Crowd_spreadTop, xm_Crowd_spreadBottom, xm_Cutting_init, xm_Cutting_leastOf, xm_Cutting_cut, xm_Cutting_order, xm_Cutting_cost, xm_Cutting_cutFirst] ++ ([xm_Cutting_choose, xm_Cutting_bandOf, xm_Fraction_init, xm_Fraction_put, xm_Fraction_takeTop, xm_Fraction_divide, xm_Fraction_gcd, xm_Lots_init, xm_Lots_forget, xm_Lots_choose, xm_Lots_fromAllHeaps, xm_Lots_weightOfName, xm_Lots_weightOfPair, xm_Lots_prepare, xm_Lots_weigh, xm_Lots_fitsHeaps, xm_Lots_fitsShares, xm_Lots_product, xm_Lots_weighStarts, xm_Lots_setFrom, xm_Lots_pairOwn, xm_Lots_pairByWeights, xm_Lots_addToPairs, xm_Sharing_init, xm_Sharing_shareOut, xm_Sharing_measure, xm_Sharing_offer, xm_Sharing_cost, xm_Slots_init, xm_Slots_isLaid] ++ ([xm_Slots_laid, xm_Slots_lay, xm_Slots_at, xm_Slots_put, xm_Slots_cutTo, xm_Slots_tellsCrowd, xm_Slots_fact, xm_Tally_init, xm_Tally_clear, xm_Tally_add, xm_D_init, xm_D_row, xm_D_tear, xm_D_write, xm_D_crowd, xm_D_drawn, xm_D_draw, xm_D_chance, xm_D_both, xm_D_set, xm_D_sets, xm_D_many, xm_D_sum, xm_D_mean, xm_D_spread, xm_D_heap, xm_D_share, xm_D_least, xm_D_bands, xm_D_band] ++ ([xm_D_look, xm_D_part, xm_D_count, xm_D_countOfHeap, xm_D_isSlot, xm_D_isHeap, xm_D_isName, xm_D_isSet, xm_D_canStep, xm_D_canShareOut, xm_D_tellOwnChance, xm_D_tellSum, xm_D_divideByNames, xm_D_worthThatMayBeDrawn, xm_D_tellSpread, xm_D_tallyPairsBefore, xm_D_tallyMean, xm_M_init, xm_M_carry, xm_M_put, xm_M_copy, xm_M_more, xm_M_isBelow, xm_M_isZero, xm_M_turn, xm_M_sign, xm_M_bare, xm_M_length, xm_M_times, xm_M_parts] ++ ([xm_M_goesInto, xm_M_isEven, xm_M_half, xm_M_isLess, xm_M_result, xm_M_isSlot, xm_M_row, xm_M_tear, xm_M_write, xm_M_crowd, xm_M_namesOf, xm_M_isHeap, xm_M_isName, xm_M_drawn, xm_M_sizes, xm_M_draw, xm_M_bits, xm_M_isByHeaps, xm_M_standsAt, xm_M_one, xm_M_weigh, xm_M_know, xm_M_reduce, xm_M_chance, xm_M_both, xm_M_isSet, xm_M_set, xm_M_sets, xm_M_many, xm_M_toldSum] ++ ([xm_M_sum, xm_M_sums, xm_M_mean, xm_M_spread, xm_M_off, xm_M_setOf, xm_M_v, xm_M_told, xm_M_heap, xm_M_adds, xm_M_some, xm_M_isShared, xm_M_share, xm_M_orders, xm_M_isCut, xm_M_isShorter, xm_M_bands, xm_M_band, xm_M_manyParts, xm_M_look, xm_M_part, xm_M_least, xm_M_count, xm_Law_law]))))) := rfl
  rw [e] at h
  rcases List.mem_append.mp h with h | h
  · exact xg_ch0 md h
  rcases List.mem_append.mp h with h | h
  · exact xg_ch1 md h
  rcases List.mem_append.mp h with h | h
  · exact xg_ch2 md h
  rcases List.mem_append.mp h with h | h
  · exact xg_ch3 md h
  rcases List.mem_append.mp h with h | h
  · exact xg_ch4 md h
  exact xg_ch5 md h
theorem x_good (L : Nat) (xs : Nat → Int32) : xi_good xT xCl xZs xTf (xG L xs) := by
  refine ⟨xk_T, xg_c, fun μ md hmd => ?_⟩
  have h := xg_all md (List.mem_of_getElem? hmd)
  exact ⟨h.1, fun q hq => by rw [xi_okE_G (G := xG L xs) (G2 := xG0) rfl]; exact h.2 q hq⟩
theorem xk_nest : ∀ q ∈ xZs.2, Cond.methodLinkNest q.1 q.2.1 q.2.2.1 q.2.2.2 ∈ lw_tbl := by decide +kernel
/-! THE CLAIM OUT OF ONE WALK OF THE LAW'S BODY. Your part is whole_start (and what it stands on); all else here is the same for every law, but numbers. -/
def R_law : String := "DrawBenchLaw"
def lw_P (b : Addr) (xs : List Int32) (args : Array Value) (s : State) : Prop := args = #[.ref b] ∧ s.IntsAt b xs ∧ xs.length ≤ 2560 ∧ (Jvm.Cond.and given_1 narrow_1).before args s = true
def lw_Q (_ : Array Value) (s : State) (o : Outcome) (t : State) : Prop := o = .returned (some (.int 1)) ∧ Framed s o t [] 600000 7302250
def lw_Z (below : List Frame) (a : Array Value) (s : State) : State → Prop := fun t => ∃ o, t.status = .running ∧ Ended t below o ∧ lw_Q a s o t
/-- the law's own end, with 1 on the stack, nothing written that was there before, its room as the claim has it -/
theorem lw_ret {p : Program} {l : Launch} {e : Env} {s : State} {m : MethodId} {below : List Frame} {meth : Method} {c : Code} {b : Nat} (hx : p.tables.exec = Jvm.exec) (hb : c.code = code) (hr : meth.sig.returnType = ret) (hlocks : meth.locks = false) {pc : Nat} {H : Heap} {ls : Array Slot} (hdg : decode code pc = .ok (.ireturn, 1)) : W p l e room_1 s m #[Value.ref b] below meth c H [] 600000 7302250 (lw_Z below #[Value.ref b] s) (F0 m pc ls [.int 1]) := by
  intro T hT X
  obtain ⟨fs, hret, hrun, hended, hW, hframe⟩ := X.leave (v := some (.int 1)) (hlocks := hlocks) (fun h => by rw [hr] at h; cases h)
  have hmeth' : T.vm.method? m = some meth := X.method'
  refine ⟨T.setFrames fs, ?_, .returned (some (.int 1)), hrun, hended, rfl, ⟨_, rfl⟩, hW, hframe⟩
  jvm_step X.here [X.here.top, hx, hb, hdg, hmeth', hr, ret, narrow_b1]
  (try refine ⟨rfl, ?_⟩); (try refine ⟨rfl, ?_⟩)
  first | (intro acts; rw [hret _ acts rfl rfl rfl]) | rw [hret _ _ rfl rfl rfl]
  exact Steps.refl _
/-- what holds at the law's entry: the machine, the code, the tables' words (any of lw_tbl by 'hts w (by decide +kernel)'), the script of L ints xs at the cell b, what the Statement gives of the start (any of its parts by flat_of_before) -/
def lw_At (p : Program) (s : State) (m : MethodId) (meth : Method) (c : Code) (b L : Nat) (xs : Nat → Int32) : Prop :=
  p.tables.exec = Jvm.exec ∧ c.code = code ∧ meth.sig.returnType = ret ∧ c.maxLocals = 4 ∧ s.vm.findClass R_law = some m.cls ∧ (∀ w ∈ lw_tbl, w.before #[Value.ref b] s = true) ∧ va_X b L xs s s.heap ∧ b < s.heap.size ∧ meth.locks = false ∧ (Jvm.Cond.and given_1 narrow_1).before #[Value.ref b] s = true

set_option maxHeartbeats 4000000 in
set_option maxRecDepth 100000 in
/-- the law, from its entry, out of the abstract machine's promise -/
theorem whole_of {p : Program} {e : Env} {s : State} {m : MethodId} {below : List Frame} {meth : Method} {c : Code} (l : Launch) {b L : Nat} {xs : Nat → Int32} (hL : L ≤ 2560) (C0 : lw_At p s m meth c b L xs)
    (hV : xi_V (xG L xs) 173 0 [some (.ref 1000000), none, none, none] [] ([], fun _ _ => 0, fun _ _ => 0, fun _ _ => 0) 0 0 (fun r _ => r = some (.int 1))) : W p l e room_1 s m #[Value.ref b] below meth c s.heap [] 0 0 (lw_Z below #[Value.ref b] s) (entryFrame m ([Value.ref b] : List Value).toArray 4) := by
  obtain ⟨hx, hb, hr, hml, hown, hts, hX, hbl, hlocks, hgv⟩ := id C0
  have hs := flat_of_before _ hgv
  have hA0 : ∀ a : Nat, a < s.heap.size → ¬ (fun q : Nat => s.heap.size ≤ q) a := fun a h => Nat.not_le.mpr h
  obtain ⟨c0, iS0, hKn0⟩ := u_known (C := RX0) (T := TX0) (N := 1) (n := 1) hts (fun w h => xk_T2 w (xk_c0 w h)) (hts (.instantiable RX0 1) (by decide +kernel))
  obtain ⟨c1, iS1, hKn1⟩ := u_known (C := RX1) (T := TX1) (N := 5) (n := 5) hts (fun w h => xk_T2 w (xk_c1 w h)) (hts (.instantiable RX1 5) (by decide +kernel))
  obtain ⟨c2, iS2, hKn2⟩ := u_known (C := RX2) (T := TX2) (N := 5) (n := 5) hts (fun w h => xk_T2 w (xk_c2 w h)) (hts (.instantiable RX2 5) (by decide +kernel))
  obtain ⟨c3, iS3, hKn3⟩ := u_known (C := RX3) (T := TX3) (N := 4) (n := 4) hts (fun w h => xk_T2 w (xk_c3 w h)) (hts (.instantiable RX3 4) (by decide +kernel))
  obtain ⟨c4, iS4, hKn4⟩ := u_known (C := RX4) (T := TX4) (N := 7) (n := 7) hts (fun w h => xk_T2 w (xk_c4 w h)) (hts (.instantiable RX4 7) (by decide +kernel))
  obtain ⟨c5, iS5, hKn5⟩ := u_known (C := RX5) (T := TX5) (N := 5) (n := 5) hts (fun w h => xk_T2 w (xk_c5 w h)) (hts (.instantiable RX5 5) (by decide +kernel))
  obtain ⟨c6, iS6, hKn6⟩ := u_known (C := RX6) (T := TX6) (N := 3) (n := 3) hts (fun w h => xk_T2 w (xk_c6 w h)) (hts (.instantiable RX6 3) (by decide +kernel))
  obtain ⟨c7, iS7, hKn7⟩ := u_known (C := RX7) (T := TX7) (N := 2) (n := 2) hts (fun w h => xk_T2 w (xk_c7 w h)) (hts (.instantiable RX7 2) (by decide +kernel))
  obtain ⟨c8, iS8, hKn8⟩ := u_known (C := RX8) (T := TX8) (N := 7) (n := 7) hts (fun w h => xk_T2 w (xk_c8 w h)) (hts (.instantiable RX8 7) (by decide +kernel))
  obtain ⟨c9, iS9, hKn9⟩ := u_known (C := RX9) (T := TX9) (N := 22) (n := 22) hts (fun w h => xk_T2 w (xk_c9 w h)) (hts (.instantiable RX9 22) (by decide +kernel))
  obtain ⟨dC, dI, hKc⟩ : ∃ (dC : Nat → ClassId) (dI : Nat → Nat → Nat), ∀ (k : Nat) (q : vw_C), xCl[k]? = some q → u_Kn s q.1 q.2.1 q.2.2 (dC k) (dI k) := by
    refine ⟨fun k => if k = 0 then c0 else if k = 1 then c1 else if k = 2 then c2 else if k = 3 then c3 else if k = 4 then c4 else if k = 5 then c5 else if k = 6 then c6 else if k = 7 then c7 else if k = 8 then c8 else c9, fun k => if k = 0 then iS0 else if k = 1 then iS1 else if k = 2 then iS2 else if k = 3 then iS3 else if k = 4 then iS4 else if k = 5 then iS5 else if k = 6 then iS6 else if k = 7 then iS7 else if k = 8 then iS8 else iS9, ?_⟩
    intro k q hq
    match k, hq with
    | 0, hq => cases hq; exact hKn0
    | 1, hq => cases hq; exact hKn1
    | 2, hq => cases hq; exact hKn2
    | 3, hq => cases hq; exact hKn3
    | 4, hq => cases hq; exact hKn4
    | 5, hq => cases hq; exact hKn5
    | 6, hq => cases hq; exact hKn6
    | 7, hq => cases hq; exact hKn7
    | 8, hq => cases hq; exact hKn8
    | 9, hq => cases hq; exact hKn9
    | k + 10, hq => simp [xCl] at hq
  obtain ⟨t1, h1, hT1⟩ := va_Tof (tm := .static "DrawBench$Slots" "LOWEST_FACT" "[I") (ty := .int) (N := 4) (f := fun j => .int (xLow j)) (A := fun q : Nat => s.heap.size ≤ q) (by decide) (hs _ (by decide +kernel)) (va_eqt (hs (Cond.eq (Term.length (.static "DrawBench$Slots" "LOWEST_FACT" "[I")) (Term.int 4)) (by decide +kernel))) (fun j hj => by
    rcases (show j = 0 ∨ j = 1 ∨ j = 2 ∨ j = 3 by omega) with rfl | rfl | rfl | rfl
    · exact va_eqt (hs (Cond.eq (Term.elem (.static "DrawBench$Slots" "LOWEST_FACT" "[I") (Term.int 0)) (Term.int (-100))) (by decide +kernel))
    · exact va_eqt (hs (Cond.eq (Term.elem (.static "DrawBench$Slots" "LOWEST_FACT" "[I") (Term.int 1)) (Term.int 1)) (by decide +kernel))
    · exact va_eqt (hs (Cond.eq (Term.elem (.static "DrawBench$Slots" "LOWEST_FACT" "[I") (Term.int 2)) (Term.int 0)) (by decide +kernel))
    · exact va_eqt (hs (Cond.eq (Term.elem (.static "DrawBench$Slots" "LOWEST_FACT" "[I") (Term.int 3)) (Term.int 0)) (by decide +kernel))) hA0
  obtain ⟨t2, h2, hT2⟩ := va_Tof (tm := .static "DrawBench$Slots" "HIGHEST_FACT" "[I") (ty := .int) (N := 4) (f := fun j => .int (xHigh j)) (A := fun q : Nat => s.heap.size ≤ q) (by decide) (hs _ (by decide +kernel)) (va_eqt (hs (Cond.eq (Term.length (.static "DrawBench$Slots" "HIGHEST_FACT" "[I")) (Term.int 4)) (by decide +kernel))) (fun j hj => by
    rcases (show j = 0 ∨ j = 1 ∨ j = 2 ∨ j = 3 by omega) with rfl | rfl | rfl | rfl
    · exact va_eqt (hs (Cond.eq (Term.elem (.static "DrawBench$Slots" "HIGHEST_FACT" "[I") (Term.int 0)) (Term.int 100)) (by decide +kernel))
    · exact va_eqt (hs (Cond.eq (Term.elem (.static "DrawBench$Slots" "HIGHEST_FACT" "[I") (Term.int 1)) (Term.int 50)) (by decide +kernel))
    · exact va_eqt (hs (Cond.eq (Term.elem (.static "DrawBench$Slots" "HIGHEST_FACT" "[I") (Term.int 2)) (Term.int 3)) (by decide +kernel))
    · exact va_eqt (hs (Cond.eq (Term.elem (.static "DrawBench$Slots" "HIGHEST_FACT" "[I") (Term.int 3)) (Term.int 100)) (by decide +kernel))) hA0
  have hZ1 := va_Zref (A := fun q : Nat => s.heap.size ≤ q) (hts (.laysStatic "DrawBench$Slots" "LOWEST_FACT" "[I") (by decide +kernel)) (hts (.initialized "DrawBench$Slots") (by decide +kernel)) h1 hA0
  have hZ2 := va_Zref (A := fun q : Nat => s.heap.size ≤ q) (hts (.laysStatic "DrawBench$Slots" "HIGHEST_FACT" "[I") (by decide +kernel)) (hts (.initialized "DrawBench$Slots") (by decide +kernel)) h2 hA0
  have hT0 : va_T .int b L (fun t => .int (xs t)) (fun q : Nat => s.heap.size ≤ q) s s.heap := by
    obtain ⟨scr, x1, x2, x3, x4, x5⟩ := hX
    exact ⟨scr, x1, x2, x3, Nat.le_of_eq x4.symm, by rw [x4], x5, Nat.not_le.mpr hbl⟩
  have hl := lv_entry ([.ref b]) (n := 4) (Nat.le_of_ble_eq_true rfl)
  rw [lg_entry_eq]
  generalize (lg_sl ([.ref b]) ++ List.replicate (4 - (lg_sl ([.ref b])).length) Slot.unset).toArray = ls at hl ⊢
  obtain ⟨ad, had⟩ : ∃ ad : Nat → Nat, ad = fun k => if k = 1000000 then b else if k = 1000001 then t1 else t2 := ⟨_, rfl⟩
  have a0 : ad 1000000 = b := by rw [had]; rfl
  have a1 : ad 1000001 = t1 := by rw [had]; rfl
  have a2 : ad 1000002 = t2 := by rw [had]; rfl
  have hl2 : lv_has ls 4 (xi_l ad [some (.ref 1000000), none, none, none]) := by
    refine xi_has hl fun q hq => ?_
    obtain ⟨v, hv, hq2⟩ := xi_l_mem.mp hq
    match hk : q.1, hv with
    | 0, hv =>
      cases hv
      have : q = (0, .ref b) := by rw [← a0]; exact Prod.ext hk hq2
      rw [this]
      exact List.mem_cons_self
    | 1, hv => cases hv
    | 2, hv => cases hv
    | 3, hv => cases hv
    | k + 4, hv => simp at hv
  have hOK := hV (xi_OK xT xCl xZs l (xG L xs)) (xi_closed (x_good L xs))
  refine hOK xm_Law_law rfl p e s m #[Value.ref b] below meth c room_1 (lw_Z below #[Value.ref b] s) (dC, dI) (fun q => s.heap.size ≤ q) ad (fun _ => c0) s.heap [] ls ⟨hx, hb, hml, hown, fun w hw => hts w (xk_T2 w hw), fun q hq => hq, hKc, Nat.le_of_ble_eq_true rfl, Nat.le_of_ble_eq_true rfl, Nat.le_of_ble_eq_true rfl, Nat.le_of_ble_eq_true rfl, fun h => absurd h (by decide)⟩ ⟨?_, ?_, ?_⟩ ⟨?_, ?_, va_S.rf, ?_, ?_⟩ hl2 ?_
  · intro j q hq
    match j, hq with
    | 0, hq => cases hq; rw [show xi_o + 0 = 1000000 from rfl, a0]; exact hT0
    | 1, hq => cases hq; rw [show xi_o + 1 = 1000001 from rfl, a1]; exact hT1
    | 2, hq => cases hq; rw [show xi_o + 2 = 1000002 from rfl, a2]; exact hT2
    | k + 3, hq => simp [xG] at hq
  · intro j z hz
    match j, hz with
    | 0, hz => cases hz; rw [show xi_o + (0 + 1) = 1000001 from rfl, a1]; exact hZ1
    | 1, hz => cases hz; rw [show xi_o + (1 + 1) = 1000002 from rfl, a2]; exact hZ2
    | k + 2, hz => simp [xZs] at hz
  · intro q hq
    exact va_Nw.of rfl (hts _ (xk_nest q hq))
  · intro k q hk; cases hk
  · refine ⟨?_, ?_⟩
    · intro i j p q h; cases h
    · intro k q h; cases h
  · intro k d hk; cases hk
  · exact ⟨fun k j q hk => absurd hk (Nat.not_lt_zero _), by decide⟩
  · intro r σ' ad' ca' H' locs' nc' ns' pc' lsA' hQ hR hA hnc hns hre
    subst hQ
    refine W.widen hnc hns (va_forget (fun q hq => hR.2.2.1.2.2 q hq) ?_)
    exact lw_ret hx hb hr hlocks hre.1
end
