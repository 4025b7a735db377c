section
-- ===== PART A: goes FIRST, ahead of the names: the tables' words, and 'selects' of the private methods out of them =====
/-- a private method of a class that the tables say can be made, by its rows of tables_1 -/
def lw_okq (q : MethodName × Nat) : Prop := (q.1.cls ≠ "java/lang/invoke/MethodHandle" ∧ q.1.cls ≠ "java/lang/invoke/VarHandle") ∧ Cond.instantiable q.1.cls q.2 ∈ tables_1 ∧ Cond.privateMethod q.1 ∈ tables_1 ∧ Cond.instanceMethod q.1 ∈ tables_1
theorem lw_p0 : lw_okq (⟨"DrawBench", "canStep", "(I)Z"⟩, 7) := ⟨⟨by decide +kernel, by decide +kernel⟩, List.mem_of_getElem? (i := 15) (by decide +kernel), List.mem_of_getElem? (i := 320) (by decide +kernel), List.mem_of_getElem? (i := 321) (by decide +kernel)⟩
theorem lw_p1 : lw_okq (⟨"DrawBench", "isName", "(I)Z"⟩, 7) := ⟨⟨by decide +kernel, by decide +kernel⟩, List.mem_of_getElem? (i := 15) (by decide +kernel), List.mem_of_getElem? (i := 336) (by decide +kernel), List.mem_of_getElem? (i := 337) (by decide +kernel)⟩
theorem lw_p2 : lw_okq (⟨"DrawBench$Lots", "weigh", "(LDrawBench$Crowd;I)J"⟩, 7) := ⟨⟨by decide +kernel, by decide +kernel⟩, List.mem_of_getElem? (i := 78) (by decide +kernel), List.mem_of_getElem? (i := 348) (by decide +kernel), List.mem_of_getElem? (i := 349) (by decide +kernel)⟩
theorem lw_p3 : lw_okq (⟨"DrawBench$Lots", "fitsHeaps", "(LDrawBench$Crowd;I)Z"⟩, 7) := ⟨⟨by decide +kernel, by decide +kernel⟩, List.mem_of_getElem? (i := 78) (by decide +kernel), List.mem_of_getElem? (i := 353) (by decide +kernel), List.mem_of_getElem? (i := 354) (by decide +kernel)⟩
theorem lw_p4 : lw_okq (⟨"DrawBench$Lots", "fitsShares", "(LDrawBench$Crowd;I)Z"⟩, 7) := ⟨⟨by decide +kernel, by decide +kernel⟩, List.mem_of_getElem? (i := 78) (by decide +kernel), List.mem_of_getElem? (i := 357) (by decide +kernel), List.mem_of_getElem? (i := 358) (by decide +kernel)⟩
theorem lw_p5 : lw_okq (⟨"DrawBench$Lots", "product", "(LDrawBench$Crowd;I)J"⟩, 7) := ⟨⟨by decide +kernel, by decide +kernel⟩, List.mem_of_getElem? (i := 78) (by decide +kernel), List.mem_of_getElem? (i := 361) (by decide +kernel), List.mem_of_getElem? (i := 362) (by decide +kernel)⟩
theorem lw_p6 : lw_okq (⟨"DrawBench$Lots", "weighStarts", "(LDrawBench$Crowd;)V"⟩, 7) := ⟨⟨by decide +kernel, by decide +kernel⟩, List.mem_of_getElem? (i := 78) (by decide +kernel), List.mem_of_getElem? (i := 365) (by decide +kernel), List.mem_of_getElem? (i := 366) (by decide +kernel)⟩
theorem lw_p7 : lw_okq (⟨"DrawBench$Lots", "setFrom", "(LDrawBench$Crowd;II)I"⟩, 7) := ⟨⟨by decide +kernel, by decide +kernel⟩, List.mem_of_getElem? (i := 78) (by decide +kernel), List.mem_of_getElem? (i := 370) (by decide +kernel), List.mem_of_getElem? (i := 371) (by decide +kernel)⟩
theorem lw_p8 : lw_okq (⟨"DrawBench$Lots", "pairOwn", "(LDrawBench$Crowd;)V"⟩, 7) := ⟨⟨by decide +kernel, by decide +kernel⟩, List.mem_of_getElem? (i := 78) (by decide +kernel), List.mem_of_getElem? (i := 377) (by decide +kernel), List.mem_of_getElem? (i := 378) (by decide +kernel)⟩
theorem lw_p9 : lw_okq (⟨"DrawBench$Lots", "pairByWeights", "(LDrawBench$Crowd;)V"⟩, 7) := ⟨⟨by decide +kernel, by decide +kernel⟩, List.mem_of_getElem? (i := 78) (by decide +kernel), List.mem_of_getElem? (i := 382) (by decide +kernel), List.mem_of_getElem? (i := 383) (by decide +kernel)⟩
theorem lw_p10 : lw_okq (⟨"DrawBench$Lots", "addToPairs", "(LDrawBench$Crowd;I)V"⟩, 7) := ⟨⟨by decide +kernel, by decide +kernel⟩, List.mem_of_getElem? (i := 78) (by decide +kernel), List.mem_of_getElem? (i := 389) (by decide +kernel), List.mem_of_getElem? (i := 390) (by decide +kernel)⟩
theorem lw_p11 : lw_okq (⟨"DrawBench", "isSet", "(I)Z"⟩, 7) := ⟨⟨by decide +kernel, by decide +kernel⟩, List.mem_of_getElem? (i := 15) (by decide +kernel), List.mem_of_getElem? (i := 458) (by decide +kernel), List.mem_of_getElem? (i := 459) (by decide +kernel)⟩
theorem lw_p12 : lw_okq (⟨"DrawBench", "tellOwnChance", "(I)V"⟩, 7) := ⟨⟨by decide +kernel, by decide +kernel⟩, List.mem_of_getElem? (i := 15) (by decide +kernel), List.mem_of_getElem? (i := 463) (by decide +kernel), List.mem_of_getElem? (i := 464) (by decide +kernel)⟩
theorem lw_p13 : lw_okq (⟨"DrawBench", "tellSum", "(I)V"⟩, 7) := ⟨⟨by decide +kernel, by decide +kernel⟩, List.mem_of_getElem? (i := 15) (by decide +kernel), List.mem_of_getElem? (i := 488) (by decide +kernel), List.mem_of_getElem? (i := 489) (by decide +kernel)⟩
theorem lw_p14 : lw_okq (⟨"DrawBench", "divideByNames", "(I)V"⟩, 7) := ⟨⟨by decide +kernel, by decide +kernel⟩, List.mem_of_getElem? (i := 15) (by decide +kernel), List.mem_of_getElem? (i := 507) (by decide +kernel), List.mem_of_getElem? (i := 508) (by decide +kernel)⟩
theorem lw_p15 : lw_okq (⟨"DrawBench", "worthThatMayBeDrawn", "()I"⟩, 7) := ⟨⟨by decide +kernel, by decide +kernel⟩, List.mem_of_getElem? (i := 15) (by decide +kernel), List.mem_of_getElem? (i := 515) (by decide +kernel), List.mem_of_getElem? (i := 516) (by decide +kernel)⟩
def lw_privs_1 : List (MethodName × Nat) := [(⟨"DrawBench", "canStep", "(I)Z"⟩, 7), (⟨"DrawBench", "isName", "(I)Z"⟩, 7), (⟨"DrawBench$Lots", "weigh", "(LDrawBench$Crowd;I)J"⟩, 7), (⟨"DrawBench$Lots", "fitsHeaps", "(LDrawBench$Crowd;I)Z"⟩, 7), (⟨"DrawBench$Lots", "fitsShares", "(LDrawBench$Crowd;I)Z"⟩, 7), (⟨"DrawBench$Lots", "product", "(LDrawBench$Crowd;I)J"⟩, 7), (⟨"DrawBench$Lots", "weighStarts", "(LDrawBench$Crowd;)V"⟩, 7), (⟨"DrawBench$Lots", "setFrom", "(LDrawBench$Crowd;II)I"⟩, 7), (⟨"DrawBench$Lots", "pairOwn", "(LDrawBench$Crowd;)V"⟩, 7), (⟨"DrawBench$Lots", "pairByWeights", "(LDrawBench$Crowd;)V"⟩, 7), (⟨"DrawBench$Lots", "addToPairs", "(LDrawBench$Crowd;I)V"⟩, 7), (⟨"DrawBench", "isSet", "(I)Z"⟩, 7), (⟨"DrawBench", "tellOwnChance", "(I)V"⟩, 7), (⟨"DrawBench", "tellSum", "(I)V"⟩, 7), (⟨"DrawBench", "divideByNames", "(I)V"⟩, 7), (⟨"DrawBench", "worthThatMayBeDrawn", "()I"⟩, 7)]
theorem lw_r1 : ∀ q ∈ lw_privs_1, lw_okq q := List.forall_mem_cons.mpr ⟨lw_p0, List.forall_mem_cons.mpr ⟨lw_p1, List.forall_mem_cons.mpr ⟨lw_p2, List.forall_mem_cons.mpr ⟨lw_p3, List.forall_mem_cons.mpr ⟨lw_p4, List.forall_mem_cons.mpr ⟨lw_p5, List.forall_mem_cons.mpr ⟨lw_p6, List.forall_mem_cons.mpr ⟨lw_p7, List.forall_mem_cons.mpr ⟨lw_p8, List.forall_mem_cons.mpr ⟨lw_p9, List.forall_mem_cons.mpr ⟨lw_p10, List.forall_mem_cons.mpr ⟨lw_p11, List.forall_mem_cons.mpr ⟨lw_p12, List.forall_mem_cons.mpr ⟨lw_p13, List.forall_mem_cons.mpr ⟨lw_p14, List.forall_mem_cons.mpr ⟨lw_p15, fun _ h => absurd h List.not_mem_nil⟩⟩⟩⟩⟩⟩⟩⟩⟩⟩⟩⟩⟩⟩⟩⟩
theorem lw_p16 : lw_okq (⟨"DrawBench", "tellSpread", "()V"⟩, 7) := ⟨⟨by decide +kernel, by decide +kernel⟩, List.mem_of_getElem? (i := 15) (by decide +kernel), List.mem_of_getElem? (i := 523) (by decide +kernel), List.mem_of_getElem? (i := 524) (by decide +kernel)⟩
theorem lw_p17 : lw_okq (⟨"DrawBench", "tallyPairsBefore", "(I)V"⟩, 7) := ⟨⟨by decide +kernel, by decide +kernel⟩, List.mem_of_getElem? (i := 15) (by decide +kernel), List.mem_of_getElem? (i := 527) (by decide +kernel), List.mem_of_getElem? (i := 528) (by decide +kernel)⟩
theorem lw_p18 : lw_okq (⟨"DrawBench", "tallyMean", "()V"⟩, 7) := ⟨⟨by decide +kernel, by decide +kernel⟩, List.mem_of_getElem? (i := 15) (by decide +kernel), List.mem_of_getElem? (i := 532) (by decide +kernel), List.mem_of_getElem? (i := 533) (by decide +kernel)⟩
theorem lw_p19 : lw_okq (⟨"DrawBench", "canShareOut", "(I)Z"⟩, 7) := ⟨⟨by decide +kernel, by decide +kernel⟩, List.mem_of_getElem? (i := 15) (by decide +kernel), List.mem_of_getElem? (i := 554) (by decide +kernel), List.mem_of_getElem? (i := 555) (by decide +kernel)⟩
theorem lw_p20 : lw_okq (⟨"DrawBench$Sharing", "measure", "(LDrawBench$Crowd;)V"⟩, 5) := ⟨⟨by decide +kernel, by decide +kernel⟩, List.mem_of_getElem? (i := 163) (by decide +kernel), List.mem_of_getElem? (i := 566) (by decide +kernel), List.mem_of_getElem? (i := 567) (by decide +kernel)⟩
theorem lw_p21 : lw_okq (⟨"DrawBench$Sharing", "offer", "(IIII)V"⟩, 5) := ⟨⟨by decide +kernel, by decide +kernel⟩, List.mem_of_getElem? (i := 163) (by decide +kernel), List.mem_of_getElem? (i := 576) (by decide +kernel), List.mem_of_getElem? (i := 577) (by decide +kernel)⟩
theorem lw_p22 : lw_okq (⟨"DrawBench$Sharing", "cost", "(II)J"⟩, 5) := ⟨⟨by decide +kernel, by decide +kernel⟩, List.mem_of_getElem? (i := 163) (by decide +kernel), List.mem_of_getElem? (i := 580) (by decide +kernel), List.mem_of_getElem? (i := 581) (by decide +kernel)⟩
theorem lw_p23 : lw_okq (⟨"DrawBench$Cutting", "order", "(LDrawBench$Crowd;)V"⟩, 5) := ⟨⟨by decide +kernel, by decide +kernel⟩, List.mem_of_getElem? (i := 187) (by decide +kernel), List.mem_of_getElem? (i := 597) (by decide +kernel), List.mem_of_getElem? (i := 598) (by decide +kernel)⟩
theorem lw_p24 : lw_okq (⟨"DrawBench$Cutting", "cost", "(II)I"⟩, 5) := ⟨⟨by decide +kernel, by decide +kernel⟩, List.mem_of_getElem? (i := 187) (by decide +kernel), List.mem_of_getElem? (i := 601) (by decide +kernel), List.mem_of_getElem? (i := 602) (by decide +kernel)⟩
theorem lw_p25 : lw_okq (⟨"DrawBench$Cutting", "choose", "(IIII)V"⟩, 5) := ⟨⟨by decide +kernel, by decide +kernel⟩, List.mem_of_getElem? (i := 187) (by decide +kernel), List.mem_of_getElem? (i := 605) (by decide +kernel), List.mem_of_getElem? (i := 606) (by decide +kernel)⟩
theorem lw_p26 : lw_okq (⟨"DrawBench$Cutting", "cutFirst", "(III)V"⟩, 5) := ⟨⟨by decide +kernel, by decide +kernel⟩, List.mem_of_getElem? (i := 187) (by decide +kernel), List.mem_of_getElem? (i := 609) (by decide +kernel), List.mem_of_getElem? (i := 610) (by decide +kernel)⟩
theorem lw_p27 : lw_okq (⟨"DrawBench", "countOfHeap", "(I)I"⟩, 7) := ⟨⟨by decide +kernel, by decide +kernel⟩, List.mem_of_getElem? (i := 15) (by decide +kernel), List.mem_of_getElem? (i := 648) (by decide +kernel), List.mem_of_getElem? (i := 649) (by decide +kernel)⟩
theorem lw_p28 : lw_okq (⟨"DrawBenchModel", "put", "(IJ)V"⟩, 22) := ⟨⟨by decide +kernel, by decide +kernel⟩, List.mem_of_getElem? (i := 652) (by decide +kernel), List.mem_of_getElem? (i := 659) (by decide +kernel), List.mem_of_getElem? (i := 660) (by decide +kernel)⟩
theorem lw_p29 : lw_okq (⟨"DrawBenchModel", "carry", "(I)V"⟩, 22) := ⟨⟨by decide +kernel, by decide +kernel⟩, List.mem_of_getElem? (i := 652) (by decide +kernel), List.mem_of_getElem? (i := 663) (by decide +kernel), List.mem_of_getElem? (i := 664) (by decide +kernel)⟩
theorem lw_p30 : lw_okq (⟨"DrawBenchModel", "namesOf", "(I)I"⟩, 22) := ⟨⟨by decide +kernel, by decide +kernel⟩, List.mem_of_getElem? (i := 652) (by decide +kernel), List.mem_of_getElem? (i := 768) (by decide +kernel), List.mem_of_getElem? (i := 769) (by decide +kernel)⟩
theorem lw_p31 : lw_okq (⟨"DrawBenchModel", "sizes", "()I"⟩, 22) := ⟨⟨by decide +kernel, by decide +kernel⟩, List.mem_of_getElem? (i := 652) (by decide +kernel), List.mem_of_getElem? (i := 776) (by decide +kernel), List.mem_of_getElem? (i := 777) (by decide +kernel)⟩
def lw_privs_2 : List (MethodName × Nat) := [(⟨"DrawBench", "tellSpread", "()V"⟩, 7), (⟨"DrawBench", "tallyPairsBefore", "(I)V"⟩, 7), (⟨"DrawBench", "tallyMean", "()V"⟩, 7), (⟨"DrawBench", "canShareOut", "(I)Z"⟩, 7), (⟨"DrawBench$Sharing", "measure", "(LDrawBench$Crowd;)V"⟩, 5), (⟨"DrawBench$Sharing", "offer", "(IIII)V"⟩, 5), (⟨"DrawBench$Sharing", "cost", "(II)J"⟩, 5), (⟨"DrawBench$Cutting", "order", "(LDrawBench$Crowd;)V"⟩, 5), (⟨"DrawBench$Cutting", "cost", "(II)I"⟩, 5), (⟨"DrawBench$Cutting", "choose", "(IIII)V"⟩, 5), (⟨"DrawBench$Cutting", "cutFirst", "(III)V"⟩, 5), (⟨"DrawBench", "countOfHeap", "(I)I"⟩, 7), (⟨"DrawBenchModel", "put", "(IJ)V"⟩, 22), (⟨"DrawBenchModel", "carry", "(I)V"⟩, 22), (⟨"DrawBenchModel", "namesOf", "(I)I"⟩, 22), (⟨"DrawBenchModel", "sizes", "()I"⟩, 22)]
theorem lw_r2 : ∀ q ∈ lw_privs_2, lw_okq q := List.forall_mem_cons.mpr ⟨lw_p16, List.forall_mem_cons.mpr ⟨lw_p17, List.forall_mem_cons.mpr ⟨lw_p18, List.forall_mem_cons.mpr ⟨lw_p19, List.forall_mem_cons.mpr ⟨lw_p20, List.forall_mem_cons.mpr ⟨lw_p21, List.forall_mem_cons.mpr ⟨lw_p22, List.forall_mem_cons.mpr ⟨lw_p23, List.forall_mem_cons.mpr ⟨lw_p24, List.forall_mem_cons.mpr ⟨lw_p25, List.forall_mem_cons.mpr ⟨lw_p26, List.forall_mem_cons.mpr ⟨lw_p27, List.forall_mem_cons.mpr ⟨lw_p28, List.forall_mem_cons.mpr ⟨lw_p29, List.forall_mem_cons.mpr ⟨lw_p30, List.forall_mem_cons.mpr ⟨lw_p31, fun _ h => absurd h List.not_mem_nil⟩⟩⟩⟩⟩⟩⟩⟩⟩⟩⟩⟩⟩⟩⟩⟩
theorem lw_p32 : lw_okq (⟨"DrawBenchModel", "isName", "(I)Z"⟩, 22) := ⟨⟨by decide +kernel, by decide +kernel⟩, List.mem_of_getElem? (i := 652) (by decide +kernel), List.mem_of_getElem? (i := 788) (by decide +kernel), List.mem_of_getElem? (i := 789) (by decide +kernel)⟩
theorem lw_p33 : lw_okq (⟨"DrawBenchModel", "know", "()V"⟩, 22) := ⟨⟨by decide +kernel, by decide +kernel⟩, List.mem_of_getElem? (i := 652) (by decide +kernel), List.mem_of_getElem? (i := 792) (by decide +kernel), List.mem_of_getElem? (i := 793) (by decide +kernel)⟩
theorem lw_p34 : lw_okq (⟨"DrawBenchModel", "standsAt", "(I)I"⟩, 22) := ⟨⟨by decide +kernel, by decide +kernel⟩, List.mem_of_getElem? (i := 652) (by decide +kernel), List.mem_of_getElem? (i := 796) (by decide +kernel), List.mem_of_getElem? (i := 797) (by decide +kernel)⟩
theorem lw_p35 : lw_okq (⟨"DrawBenchModel", "one", "(IJ)V"⟩, 22) := ⟨⟨by decide +kernel, by decide +kernel⟩, List.mem_of_getElem? (i := 652) (by decide +kernel), List.mem_of_getElem? (i := 800) (by decide +kernel), List.mem_of_getElem? (i := 801) (by decide +kernel)⟩
theorem lw_p36 : lw_okq (⟨"DrawBenchModel", "more", "(IIJ)V"⟩, 22) := ⟨⟨by decide +kernel, by decide +kernel⟩, List.mem_of_getElem? (i := 652) (by decide +kernel), List.mem_of_getElem? (i := 804) (by decide +kernel), List.mem_of_getElem? (i := 805) (by decide +kernel)⟩
theorem lw_p37 : lw_okq (⟨"DrawBenchModel", "weigh", "(I)V"⟩, 22) := ⟨⟨by decide +kernel, by decide +kernel⟩, List.mem_of_getElem? (i := 652) (by decide +kernel), List.mem_of_getElem? (i := 808) (by decide +kernel), List.mem_of_getElem? (i := 809) (by decide +kernel)⟩
theorem lw_p38 : lw_okq (⟨"DrawBenchModel", "isByHeaps", "(I)Z"⟩, 22) := ⟨⟨by decide +kernel, by decide +kernel⟩, List.mem_of_getElem? (i := 652) (by decide +kernel), List.mem_of_getElem? (i := 815) (by decide +kernel), List.mem_of_getElem? (i := 816) (by decide +kernel)⟩
theorem lw_p39 : lw_okq (⟨"DrawBenchModel", "times", "(III)V"⟩, 22) := ⟨⟨by decide +kernel, by decide +kernel⟩, List.mem_of_getElem? (i := 652) (by decide +kernel), List.mem_of_getElem? (i := 819) (by decide +kernel), List.mem_of_getElem? (i := 820) (by decide +kernel)⟩
theorem lw_p40 : lw_okq (⟨"DrawBenchModel", "isBelow", "(I)Z"⟩, 22) := ⟨⟨by decide +kernel, by decide +kernel⟩, List.mem_of_getElem? (i := 652) (by decide +kernel), List.mem_of_getElem? (i := 823) (by decide +kernel), List.mem_of_getElem? (i := 824) (by decide +kernel)⟩
theorem lw_p41 : lw_okq (⟨"DrawBenchModel", "bare", "(I[J)V"⟩, 22) := ⟨⟨by decide +kernel, by decide +kernel⟩, List.mem_of_getElem? (i := 652) (by decide +kernel), List.mem_of_getElem? (i := 827) (by decide +kernel), List.mem_of_getElem? (i := 828) (by decide +kernel)⟩
theorem lw_p42 : lw_okq (⟨"DrawBenchModel", "turn", "(I)V"⟩, 22) := ⟨⟨by decide +kernel, by decide +kernel⟩, List.mem_of_getElem? (i := 652) (by decide +kernel), List.mem_of_getElem? (i := 831) (by decide +kernel), List.mem_of_getElem? (i := 832) (by decide +kernel)⟩
theorem lw_p43 : lw_okq (⟨"DrawBenchModel", "copy", "(II)V"⟩, 22) := ⟨⟨by decide +kernel, by decide +kernel⟩, List.mem_of_getElem? (i := 652) (by decide +kernel), List.mem_of_getElem? (i := 838) (by decide +kernel), List.mem_of_getElem? (i := 839) (by decide +kernel)⟩
theorem lw_p44 : lw_okq (⟨"DrawBenchModel", "reduce", "(II)V"⟩, 22) := ⟨⟨by decide +kernel, by decide +kernel⟩, List.mem_of_getElem? (i := 652) (by decide +kernel), List.mem_of_getElem? (i := 842) (by decide +kernel), List.mem_of_getElem? (i := 843) (by decide +kernel)⟩
theorem lw_p45 : lw_okq (⟨"DrawBenchModel", "result", "(II)V"⟩, 22) := ⟨⟨by decide +kernel, by decide +kernel⟩, List.mem_of_getElem? (i := 652) (by decide +kernel), List.mem_of_getElem? (i := 846) (by decide +kernel), List.mem_of_getElem? (i := 847) (by decide +kernel)⟩
theorem lw_p46 : lw_okq (⟨"DrawBenchModel", "isZero", "(I)Z"⟩, 22) := ⟨⟨by decide +kernel, by decide +kernel⟩, List.mem_of_getElem? (i := 652) (by decide +kernel), List.mem_of_getElem? (i := 850) (by decide +kernel), List.mem_of_getElem? (i := 851) (by decide +kernel)⟩
theorem lw_p47 : lw_okq (⟨"DrawBenchModel", "isEven", "(I)Z"⟩, 22) := ⟨⟨by decide +kernel, by decide +kernel⟩, List.mem_of_getElem? (i := 652) (by decide +kernel), List.mem_of_getElem? (i := 854) (by decide +kernel), List.mem_of_getElem? (i := 855) (by decide +kernel)⟩
def lw_privs_3 : List (MethodName × Nat) := [(⟨"DrawBenchModel", "isName", "(I)Z"⟩, 22), (⟨"DrawBenchModel", "know", "()V"⟩, 22), (⟨"DrawBenchModel", "standsAt", "(I)I"⟩, 22), (⟨"DrawBenchModel", "one", "(IJ)V"⟩, 22), (⟨"DrawBenchModel", "more", "(IIJ)V"⟩, 22), (⟨"DrawBenchModel", "weigh", "(I)V"⟩, 22), (⟨"DrawBenchModel", "isByHeaps", "(I)Z"⟩, 22), (⟨"DrawBenchModel", "times", "(III)V"⟩, 22), (⟨"DrawBenchModel", "isBelow", "(I)Z"⟩, 22), (⟨"DrawBenchModel", "bare", "(I[J)V"⟩, 22), (⟨"DrawBenchModel", "turn", "(I)V"⟩, 22), (⟨"DrawBenchModel", "copy", "(II)V"⟩, 22), (⟨"DrawBenchModel", "reduce", "(II)V"⟩, 22), (⟨"DrawBenchModel", "result", "(II)V"⟩, 22), (⟨"DrawBenchModel", "isZero", "(I)Z"⟩, 22), (⟨"DrawBenchModel", "isEven", "(I)Z"⟩, 22)]
theorem lw_r3 : ∀ q ∈ lw_privs_3, lw_okq q := List.forall_mem_cons.mpr ⟨lw_p32, List.forall_mem_cons.mpr ⟨lw_p33, List.forall_mem_cons.mpr ⟨lw_p34, List.forall_mem_cons.mpr ⟨lw_p35, List.forall_mem_cons.mpr ⟨lw_p36, List.forall_mem_cons.mpr ⟨lw_p37, List.forall_mem_cons.mpr ⟨lw_p38, List.forall_mem_cons.mpr ⟨lw_p39, List.forall_mem_cons.mpr ⟨lw_p40, List.forall_mem_cons.mpr ⟨lw_p41, List.forall_mem_cons.mpr ⟨lw_p42, List.forall_mem_cons.mpr ⟨lw_p43, List.forall_mem_cons.mpr ⟨lw_p44, List.forall_mem_cons.mpr ⟨lw_p45, List.forall_mem_cons.mpr ⟨lw_p46, List.forall_mem_cons.mpr ⟨lw_p47, fun _ h => absurd h List.not_mem_nil⟩⟩⟩⟩⟩⟩⟩⟩⟩⟩⟩⟩⟩⟩⟩⟩
theorem lw_p48 : lw_okq (⟨"DrawBenchModel", "half", "(I)V"⟩, 22) := ⟨⟨by decide +kernel, by decide +kernel⟩, List.mem_of_getElem? (i := 652) (by decide +kernel), List.mem_of_getElem? (i := 859) (by decide +kernel), List.mem_of_getElem? (i := 860) (by decide +kernel)⟩
theorem lw_p49 : lw_okq (⟨"DrawBenchModel", "isLess", "(II)Z"⟩, 22) := ⟨⟨by decide +kernel, by decide +kernel⟩, List.mem_of_getElem? (i := 652) (by decide +kernel), List.mem_of_getElem? (i := 863) (by decide +kernel), List.mem_of_getElem? (i := 864) (by decide +kernel)⟩
theorem lw_p50 : lw_okq (⟨"DrawBenchModel", "parts", "(II)V"⟩, 22) := ⟨⟨by decide +kernel, by decide +kernel⟩, List.mem_of_getElem? (i := 652) (by decide +kernel), List.mem_of_getElem? (i := 868) (by decide +kernel), List.mem_of_getElem? (i := 869) (by decide +kernel)⟩
theorem lw_p51 : lw_okq (⟨"DrawBenchModel", "goesInto", "(JII)Z"⟩, 22) := ⟨⟨by decide +kernel, by decide +kernel⟩, List.mem_of_getElem? (i := 652) (by decide +kernel), List.mem_of_getElem? (i := 873) (by decide +kernel), List.mem_of_getElem? (i := 874) (by decide +kernel)⟩
theorem lw_p52 : lw_okq (⟨"DrawBenchModel", "isSet", "(I)Z"⟩, 22) := ⟨⟨by decide +kernel, by decide +kernel⟩, List.mem_of_getElem? (i := 652) (by decide +kernel), List.mem_of_getElem? (i := 882) (by decide +kernel), List.mem_of_getElem? (i := 883) (by decide +kernel)⟩
theorem lw_p53 : lw_okq (⟨"DrawBenchModel", "toldSum", "(I)V"⟩, 22) := ⟨⟨by decide +kernel, by decide +kernel⟩, List.mem_of_getElem? (i := 652) (by decide +kernel), List.mem_of_getElem? (i := 898) (by decide +kernel), List.mem_of_getElem? (i := 899) (by decide +kernel)⟩
theorem lw_p54 : lw_okq (⟨"DrawBenchModel", "sums", "()V"⟩, 22) := ⟨⟨by decide +kernel, by decide +kernel⟩, List.mem_of_getElem? (i := 652) (by decide +kernel), List.mem_of_getElem? (i := 906) (by decide +kernel), List.mem_of_getElem? (i := 907) (by decide +kernel)⟩
theorem lw_p55 : lw_okq (⟨"DrawBenchModel", "v", "(I)J"⟩, 22) := ⟨⟨by decide +kernel, by decide +kernel⟩, List.mem_of_getElem? (i := 652) (by decide +kernel), List.mem_of_getElem? (i := 918) (by decide +kernel), List.mem_of_getElem? (i := 919) (by decide +kernel)⟩
theorem lw_p56 : lw_okq (⟨"DrawBenchModel", "setOf", "(I)I"⟩, 22) := ⟨⟨by decide +kernel, by decide +kernel⟩, List.mem_of_getElem? (i := 652) (by decide +kernel), List.mem_of_getElem? (i := 922) (by decide +kernel), List.mem_of_getElem? (i := 923) (by decide +kernel)⟩
theorem lw_p57 : lw_okq (⟨"DrawBenchModel", "off", "(I)J"⟩, 22) := ⟨⟨by decide +kernel, by decide +kernel⟩, List.mem_of_getElem? (i := 652) (by decide +kernel), List.mem_of_getElem? (i := 926) (by decide +kernel), List.mem_of_getElem? (i := 927) (by decide +kernel)⟩
theorem lw_p58 : lw_okq (⟨"DrawBenchModel", "told", "(JJ)V"⟩, 22) := ⟨⟨by decide +kernel, by decide +kernel⟩, List.mem_of_getElem? (i := 652) (by decide +kernel), List.mem_of_getElem? (i := 931) (by decide +kernel), List.mem_of_getElem? (i := 932) (by decide +kernel)⟩
theorem lw_p59 : lw_okq (⟨"DrawBenchModel", "isShared", "(I)Z"⟩, 22) := ⟨⟨by decide +kernel, by decide +kernel⟩, List.mem_of_getElem? (i := 652) (by decide +kernel), List.mem_of_getElem? (i := 939) (by decide +kernel), List.mem_of_getElem? (i := 940) (by decide +kernel)⟩
theorem lw_p60 : lw_okq (⟨"DrawBenchModel", "adds", "(II)J"⟩, 22) := ⟨⟨by decide +kernel, by decide +kernel⟩, List.mem_of_getElem? (i := 652) (by decide +kernel), List.mem_of_getElem? (i := 946) (by decide +kernel), List.mem_of_getElem? (i := 947) (by decide +kernel)⟩
theorem lw_p61 : lw_okq (⟨"DrawBenchModel", "isCut", "(I)Z"⟩, 22) := ⟨⟨by decide +kernel, by decide +kernel⟩, List.mem_of_getElem? (i := 652) (by decide +kernel), List.mem_of_getElem? (i := 954) (by decide +kernel), List.mem_of_getElem? (i := 955) (by decide +kernel)⟩
theorem lw_p62 : lw_okq (⟨"DrawBenchModel", "orders", "()V"⟩, 22) := ⟨⟨by decide +kernel, by decide +kernel⟩, List.mem_of_getElem? (i := 652) (by decide +kernel), List.mem_of_getElem? (i := 958) (by decide +kernel), List.mem_of_getElem? (i := 959) (by decide +kernel)⟩
theorem lw_p63 : lw_okq (⟨"DrawBenchModel", "sign", "(I)I"⟩, 22) := ⟨⟨by decide +kernel, by decide +kernel⟩, List.mem_of_getElem? (i := 652) (by decide +kernel), List.mem_of_getElem? (i := 973) (by decide +kernel), List.mem_of_getElem? (i := 974) (by decide +kernel)⟩
def lw_privs_4 : List (MethodName × Nat) := [(⟨"DrawBenchModel", "half", "(I)V"⟩, 22), (⟨"DrawBenchModel", "isLess", "(II)Z"⟩, 22), (⟨"DrawBenchModel", "parts", "(II)V"⟩, 22), (⟨"DrawBenchModel", "goesInto", "(JII)Z"⟩, 22), (⟨"DrawBenchModel", "isSet", "(I)Z"⟩, 22), (⟨"DrawBenchModel", "toldSum", "(I)V"⟩, 22), (⟨"DrawBenchModel", "sums", "()V"⟩, 22), (⟨"DrawBenchModel", "v", "(I)J"⟩, 22), (⟨"DrawBenchModel", "setOf", "(I)I"⟩, 22), (⟨"DrawBenchModel", "off", "(I)J"⟩, 22), (⟨"DrawBenchModel", "told", "(JJ)V"⟩, 22), (⟨"DrawBenchModel", "isShared", "(I)Z"⟩, 22), (⟨"DrawBenchModel", "adds", "(II)J"⟩, 22), (⟨"DrawBenchModel", "isCut", "(I)Z"⟩, 22), (⟨"DrawBenchModel", "orders", "()V"⟩, 22), (⟨"DrawBenchModel", "sign", "(I)I"⟩, 22)]
theorem lw_r4 : ∀ q ∈ lw_privs_4, lw_okq q := List.forall_mem_cons.mpr ⟨lw_p48, List.forall_mem_cons.mpr ⟨lw_p49, List.forall_mem_cons.mpr ⟨lw_p50, List.forall_mem_cons.mpr ⟨lw_p51, List.forall_mem_cons.mpr ⟨lw_p52, List.forall_mem_cons.mpr ⟨lw_p53, List.forall_mem_cons.mpr ⟨lw_p54, List.forall_mem_cons.mpr ⟨lw_p55, List.forall_mem_cons.mpr ⟨lw_p56, List.forall_mem_cons.mpr ⟨lw_p57, List.forall_mem_cons.mpr ⟨lw_p58, List.forall_mem_cons.mpr ⟨lw_p59, List.forall_mem_cons.mpr ⟨lw_p60, List.forall_mem_cons.mpr ⟨lw_p61, List.forall_mem_cons.mpr ⟨lw_p62, List.forall_mem_cons.mpr ⟨lw_p63, fun _ h => absurd h List.not_mem_nil⟩⟩⟩⟩⟩⟩⟩⟩⟩⟩⟩⟩⟩⟩⟩⟩
theorem lw_p64 : lw_okq (⟨"DrawBenchModel", "manyParts", "([J)I"⟩, 22) := ⟨⟨by decide +kernel, by decide +kernel⟩, List.mem_of_getElem? (i := 652) (by decide +kernel), List.mem_of_getElem? (i := 977) (by decide +kernel), List.mem_of_getElem? (i := 978) (by decide +kernel)⟩
def lw_privs_5 : List (MethodName × Nat) := [(⟨"DrawBenchModel", "manyParts", "([J)I"⟩, 22)]
theorem lw_r5 : ∀ q ∈ lw_privs_5, lw_okq q := List.forall_mem_cons.mpr ⟨lw_p64, fun _ h => absurd h List.not_mem_nil⟩
def lw_privs : List (MethodName × Nat) := lw_privs_1 ++ (lw_privs_2 ++ (lw_privs_3 ++ (lw_privs_4 ++ (lw_privs_5))))
def lw_tbl : List Cond := k2_sels lw_privs ++ tables_1
theorem lw_privs_ok : ∀ q ∈ lw_privs, lw_okq q := by
  show ∀ q ∈ lw_privs_1 ++ (lw_privs_2 ++ (lw_privs_3 ++ (lw_privs_4 ++ (lw_privs_5)))), lw_okq q
  exact List.forall_mem_append.mpr ⟨lw_r1, List.forall_mem_append.mpr ⟨lw_r2, List.forall_mem_append.mpr ⟨lw_r3, List.forall_mem_append.mpr ⟨lw_r4, lw_r5⟩⟩⟩⟩
end
section
/-! XI: an abstract machine over numbered cells. A state: the kinds of the cells ((0, class), (1, n) ints, (2, n) longs), what their reference slots hold (0 null, k + 1 cell k), their int slots, their long slots. -/
abbrev xiS : Type := List (Nat × Nat) × (Nat → Nat → Nat) × (Nat → Nat → Int32) × (Nat → Nat → Int64)
abbrev xiE : Type := Nat × Instr × Nat × (Nat × Nat × Nat)
abbrev xiM : Type := (String × MethodName × ByteArray) × (Nat × Option FieldType × Nat) × (Nat × Nat × Nat × Nat) × List xiE
abbrev xiQ : Type := Option Value → xiS → Prop
abbrev xiX : Type := Nat → Nat → List (Option Value) → List Value → xiS → Nat → Nat → xiQ → Prop
/-- what a program is: words, methods, kinds of fields of each class, outer rows that are only read -/
abbrev xiG : Type := List xiM × List (List Nat) × List (Nat × (Nat → Int32))
def xi_o : Nat := 1000000
def xi_u {α : Type} (I : Nat → Nat → α) (k j : Nat) (x : α) : Nat → Nat → α := fun a b => if a = k then (if b = j then x else I k b) else I a b
def xi_z {α : Type} (I : Nat → Nat → α) (k : Nat) (x : α) : Nat → Nat → α := fun a b => if a = k then x else I a b
def xi_look : List xiE → Nat → Option (Instr × Nat × (Nat × Nat × Nat))
  | [], _ => none
  | q :: t, pc => match Nat.beq q.1 pc with
    | true => some q.2
    | false => xi_look t pc
def xi_is2 : Option (Option Value) → Bool
  | some (some (.long _)) => true
  | some (some (.double _)) => true
  | _ => false
def xi_kill (ls : List (Option Value)) : Nat → List (Option Value)
  | 0 => ls
  | j + 1 => match xi_is2 ls[j]? with
    | true => ls.set j none
    | false => ls
def xi_s1 (ls : List (Option Value)) (i : Nat) (v : Value) : List (Option Value) := (xi_kill ls i).set i (some v)
def xi_s2 (ls : List (Option Value)) (i : Nat) (v : Value) : List (Option Value) := ((xi_kill ls i).set i (some v)).set (i + 1) none
def xi_fld (fk : List (List Nat)) (σ : xiS) (o ci j : Nat) : Value := match (fk.getD ci []).getD j 9 with
  | 0 => .int (σ.2.2.1 o j)
  | 1 => .int (σ.2.2.1 o j)
  | 2 => .long (σ.2.2.2 o j)
  | _ => match σ.2.1 o j with
    | 0 => .null
    | q + 1 => .ref q
def xi_ent1 : List Value → List (Option Value)
  | [] => []
  | .long x :: t => some (.long x) :: none :: xi_ent1 t
  | .double x :: t => some (.double x) :: none :: xi_ent1 t
  | v :: t => some v :: xi_ent1 t
def xi_ent (vs : List Value) (n : Nat) : List (Option Value) := xi_ent1 vs ++ List.replicate (n - (xi_ent1 vs).length) none
def xi_wf1 (n : Nat) : Value → Bool
  | .ref k => Nat.blt k n || Nat.ble xi_o k
  | _ => true
def xi_wfl (n : Nat) : List (Option Value) → Bool
  | [] => true
  | none :: t => xi_wfl n t
  | some v :: t => match xi_wf1 n v with
    | true => xi_wfl n t
    | false => false
def xi_wfs (n : Nat) : List Value → Bool
  | [] => true
  | v :: t => match xi_wf1 n v with
    | true => xi_wfs n t
    | false => false
def xi_w8 : List Value → Nat
  | [] => 0
  | v :: t => v.category + xi_w8 t
def xi_b (b : Bool) (P : Prop) : Prop := match b with
  | true => P
  | false => False
def xi_tgt (pc : Nat) (off : Int) : Nat := match off with
  | .ofNat k => pc + k
  | .negSucc k => pc - (k + 1)
def xi_sw (K : Nat → Prop) (pc : Nat) (x : Int32) : Int → List Int → Prop
  | _, [] => True
  | k, off :: t => (x.toInt = k → K (xi_tgt pc off)) ∧ xi_sw K pc x (k + 1) t
/-- a call of method ν with these arguments: what is left on the stack -/
def xi_call (G : xiG) (X : xiX) (md : xiM) (μ pc : Nat) (ls : List (Option Value)) (σ : xiS) (nc ns : Nat) (Q : xiQ) (ν : Nat) (mn : xiM) (vs rest : List Value) : Prop :=
  xi_b (Nat.ble (mn.2.2.1.1 + 1) md.2.2.1.1 && Nat.ble (8 + (mn.2.1.1 + 11) + mn.2.2.1.2.1) md.2.2.1.2.1 && Nat.ble (nc + mn.2.2.1.2.2.1) md.2.2.1.2.2.1 && Nat.ble (ns + mn.2.2.1.2.2.2) md.2.2.1.2.2.2 && Nat.ble (xi_w8 rest) 8 && Nat.ble (xi_ent1 vs).length mn.2.1.1 && xi_wfl σ.1.length ls && xi_wfs σ.1.length rest)
    (X ν 0 (xi_ent vs mn.2.1.1) [] σ 0 0 (fun r σ' => X μ (pc + 3) ls (r.toList ++ rest) σ' (nc + mn.2.2.1.2.2.1) (ns + mn.2.2.1.2.2.2) Q))
def xi_put (fk : List (List Nat)) (K : xiS → Prop) (σ : xiS) (o ci j : Nat) (v : Value) : Prop := match (fk.getD ci []).getD j 9, v with
  | 0, .int x => K (σ.1, σ.2.1, xi_u σ.2.2.1 o j x, σ.2.2.2)
  | 1, .int x => (x = 0 ∨ x = 1) ∧ K (σ.1, σ.2.1, xi_u σ.2.2.1 o j x, σ.2.2.2)
  | 2, .long x => K (σ.1, σ.2.1, σ.2.2.1, xi_u σ.2.2.2 o j x)
  | 3, .ref q => xi_b (Nat.blt q σ.1.length) (K (σ.1, xi_u σ.2.1 o j (q + 1), σ.2.2.1, σ.2.2.2))
  | _, _ => False
def xi_if (c : Jvm.ClassFile.Cond) (x y : Int32) (K1 K2 : Prop) : Prop := match c with
  | .eq => (x = y → K1) ∧ (¬ x = y → K2)
  | .ne => (¬ x = y → K1) ∧ (x = y → K2)
  | .lt => (x < y → K1) ∧ (¬ x < y → K2)
  | .ge => (y ≤ x → K1) ∧ (¬ y ≤ x → K2)
  | .gt => (y < x → K1) ∧ (¬ y < x → K2)
  | .le => (x ≤ y → K1) ∧ (¬ x ≤ y → K2)
def xi_ld (K : Value → Prop) (ls : List (Option Value)) (i : Nat) : Prop := match ls[i]? with
  | some (some v) => K v
  | _ => False
def xi_I2 (K : Int32 → Int32 → List Value → Prop) (st : List Value) : Prop := match st with
  | .int y :: .int x :: t => K x y t
  | _ => False
def xi_I1 (K : Int32 → List Value → Prop) (st : List Value) : Prop := match st with
  | .int x :: t => K x t
  | _ => False
def xi_L2 (K : Int64 → Int64 → List Value → Prop) (st : List Value) : Prop := match st with
  | .long y :: .long x :: t => K x y t
  | _ => False
def xi_L1 (K : Int64 → List Value → Prop) (st : List Value) : Prop := match st with
  | .long x :: t => K x t
  | _ => False
/-- one instruction -/
def xi_step (G : xiG) (X : xiX) (μ pc : Nat) (ls : List (Option Value)) (st : List Value) (σ : xiS) (nc ns : Nat) (Q : xiQ) : Prop :=
  match G.1[μ]? with
  | none => False
  | some md => match xi_look md.2.2.2 pc with
    | none => False
    | some (ins, _, ra, rb, _) => match ins with
      | .iconst n => X μ (pc + 1) ls (.int (Int32.ofInt n) :: st) σ nc ns Q
      | .bipush n => X μ (pc + 2) ls (.int (Int8.ofInt n).toInt32 :: st) σ nc ns Q
      | .sipush n => X μ (pc + 3) ls (.int (Int16.ofInt n).toInt32 :: st) σ nc ns Q
      | .lconst n => X μ (pc + 1) ls (.long (Int64.ofNat (n : Nat)) :: st) σ nc ns Q
      | .ldc _ => X μ (pc + 2) ls (.int (Int32.ofNat ra) :: st) σ nc ns Q
      | .ldc_w _ => X μ (pc + 3) ls (.int (Int32.ofNat ra) :: st) σ nc ns Q
      | .ldc2_w _ => X μ (pc + 3) ls (.long (Int64.ofNat ra) :: st) σ nc ns Q
      | .iload_n k => xi_ld (fun v => match v with | .int x => X μ (pc + 1) ls (.int x :: st) σ nc ns Q | _ => False) ls (k : Nat)
      | .iload k => xi_ld (fun v => match v with | .int x => X μ (pc + 2) ls (.int x :: st) σ nc ns Q | _ => False) ls k
      | .lload_n k => xi_ld (fun v => match v with | .long x => X μ (pc + 1) ls (.long x :: st) σ nc ns Q | _ => False) ls (k : Nat)
      | .lload k => xi_ld (fun v => match v with | .long x => X μ (pc + 2) ls (.long x :: st) σ nc ns Q | _ => False) ls k
      | .aload_n k => xi_ld (fun v => match v with | .ref x => X μ (pc + 1) ls (.ref x :: st) σ nc ns Q | _ => False) ls (k : Nat)
      | .aload k => xi_ld (fun v => match v with | .ref x => X μ (pc + 2) ls (.ref x :: st) σ nc ns Q | _ => False) ls k
      | .istore_n k => xi_I1 (fun x t => xi_b (Nat.blt (k : Nat) md.2.1.1) (X μ (pc + 1) (xi_s1 ls (k : Nat) (.int x)) t σ nc ns Q)) st
      | .istore k => xi_I1 (fun x t => xi_b (Nat.blt k md.2.1.1) (X μ (pc + 2) (xi_s1 ls k (.int x)) t σ nc ns Q)) st
      | .lstore_n k => xi_L1 (fun x t => xi_b (Nat.blt ((k : Nat) + 1) md.2.1.1) (X μ (pc + 1) (xi_s2 ls (k : Nat) (.long x)) t σ nc ns Q)) st
      | .lstore k => xi_L1 (fun x t => xi_b (Nat.blt (k + 1) md.2.1.1) (X μ (pc + 2) (xi_s2 ls k (.long x)) t σ nc ns Q)) st
      | .astore_n k => match st with
        | .ref x :: t => xi_b (Nat.blt (k : Nat) md.2.1.1) (X μ (pc + 1) (xi_s1 ls (k : Nat) (.ref x)) t σ nc ns Q)
        | _ => False
      | .iinc k n => xi_ld (fun v => match v with | .int x => xi_b (Nat.blt k md.2.1.1) (X μ (pc + 3) (xi_s1 ls k (.int (x + Int32.ofInt n))) st σ nc ns Q) | _ => False) ls k
      | .iadd => xi_I2 (fun x y t => X μ (pc + 1) ls (.int (x + y) :: t) σ nc ns Q) st
      | .isub => xi_I2 (fun x y t => X μ (pc + 1) ls (.int (x - y) :: t) σ nc ns Q) st
      | .imul => xi_I2 (fun x y t => X μ (pc + 1) ls (.int (x * y) :: t) σ nc ns Q) st
      | .iand => xi_I2 (fun x y t => X μ (pc + 1) ls (.int (x &&& y) :: t) σ nc ns Q) st
      | .ior => xi_I2 (fun x y t => X μ (pc + 1) ls (.int (x ||| y) :: t) σ nc ns Q) st
      | .ixor => xi_I2 (fun x y t => X μ (pc + 1) ls (.int (x ^^^ y) :: t) σ nc ns Q) st
      | .irem => xi_I2 (fun x y t => ¬ y = 0 ∧ X μ (pc + 1) ls (.int (x - x / y * y) :: t) σ nc ns Q) st
      | .ishl => xi_I2 (fun x y t => X μ (pc + 1) ls (.int (x <<< (y &&& 31)) :: t) σ nc ns Q) st
      | .ishr => xi_I2 (fun x y t => X μ (pc + 1) ls (.int (x >>> (y &&& 31)) :: t) σ nc ns Q) st
      | .iushr => xi_I2 (fun x y t => X μ (pc + 1) ls (.int (x.toUInt32 >>> (y.toUInt32 &&& Int32.toUInt32 31)).toInt32 :: t) σ nc ns Q) st
      | .ineg => xi_I1 (fun x t => X μ (pc + 1) ls (.int (-x) :: t) σ nc ns Q) st
      | .i2l => xi_I1 (fun x t => X μ (pc + 1) ls (.long x.toInt64 :: t) σ nc ns Q) st
      | .i2b => xi_I1 (fun x t => X μ (pc + 1) ls (.int x.toInt8.toInt32 :: t) σ nc ns Q) st
      | .i2s => xi_I1 (fun x t => X μ (pc + 1) ls (.int x.toInt16.toInt32 :: t) σ nc ns Q) st
      | .l2i => xi_L1 (fun x t => X μ (pc + 1) ls (.int x.toInt32 :: t) σ nc ns Q) st
      | .lneg => xi_L1 (fun x t => X μ (pc + 1) ls (.long (-x) :: t) σ nc ns Q) st
      | .ladd => xi_L2 (fun x y t => X μ (pc + 1) ls (.long (x + y) :: t) σ nc ns Q) st
      | .lsub => xi_L2 (fun x y t => X μ (pc + 1) ls (.long (x - y) :: t) σ nc ns Q) st
      | .lmul => xi_L2 (fun x y t => X μ (pc + 1) ls (.long (x * y) :: t) σ nc ns Q) st
      | .land => xi_L2 (fun x y t => X μ (pc + 1) ls (.long (x &&& y) :: t) σ nc ns Q) st
      | .lor => xi_L2 (fun x y t => X μ (pc + 1) ls (.long (x ||| y) :: t) σ nc ns Q) st
      | .lxor => xi_L2 (fun x y t => X μ (pc + 1) ls (.long (x ^^^ y) :: t) σ nc ns Q) st
      | .ldiv => xi_L2 (fun x y t => ¬ y = 0 ∧ X μ (pc + 1) ls (.long (x / y) :: t) σ nc ns Q) st
      | .lrem => xi_L2 (fun x y t => ¬ y = 0 ∧ X μ (pc + 1) ls (.long (x - x / y * y) :: t) σ nc ns Q) st
      | .lcmp => xi_L2 (fun x y t => X μ (pc + 1) ls (.int (lg_cmp x y) :: t) σ nc ns Q) st
      | .lshl => match st with
        | .int y :: .long x :: t => X μ (pc + 1) ls (.long (x <<< (y.toInt64 &&& 63)) :: t) σ nc ns Q
        | _ => False
      | .dup => match st with
        | v :: t => xi_b (Nat.beq v.category 1) (X μ (pc + 1) ls (v :: v :: t) σ nc ns Q)
        | _ => False
      | .dup2 => match st with
        | va :: vb :: t => xi_b (Nat.beq va.category 1 && Nat.beq vb.category 1) (X μ (pc + 1) ls (va :: vb :: va :: vb :: t) σ nc ns Q)
        | _ => False
      | .pop2 => match st with
        | va :: t => xi_b (Nat.beq va.category 2) (X μ (pc + 1) ls t σ nc ns Q)
        | _ => False
      | .ifCond c off => xi_I1 (fun x t => xi_if c x 0 (X μ (xi_tgt pc off) ls t σ nc ns Q) (X μ (pc + 3) ls t σ nc ns Q)) st
      | .if_icmp c off => xi_I2 (fun x y t => xi_if c x y (X μ (xi_tgt pc off) ls t σ nc ns Q) (X μ (pc + 3) ls t σ nc ns Q)) st
      | .goto off => X μ (xi_tgt pc off) ls st σ nc ns Q
      | .tableswitch d lo hi offs => xi_I1 (fun x t => ((x.toInt < lo ∨ hi < x.toInt) → X μ (xi_tgt pc d) ls t σ nc ns Q) ∧ xi_sw (fun g => X μ g ls t σ nc ns Q) pc x lo offs.toList) st
      | .getfield _ => match st with
        | .ref o :: t => match σ.1[o]? with
          | some (0, ci) => xi_b (Nat.beq ci ra) (X μ (pc + 3) ls (xi_fld G.2.1 σ o ra rb :: t) σ nc ns Q)
          | _ => False
        | _ => False
      | .putfield _ => match st with
        | v :: .ref o :: t => match σ.1[o]? with
          | some (0, ci) => xi_b (Nat.beq ci ra) (xi_put G.2.1 (fun σ' => X μ (pc + 3) ls t σ' nc ns Q) σ o ra rb v)
          | _ => False
        | _ => False
      | .getstatic _ => X μ (pc + 3) ls (.ref (xi_o + ra) :: st) σ nc ns Q
      | .iaload => match st with
        | .int j :: .ref a :: t => match σ.1[a]? with
          | some (1, n) => vp_in j n ∧ X μ (pc + 1) ls (.int (σ.2.2.1 a j.toNatClampNeg) :: t) σ nc ns Q
          | none => xi_b (Nat.ble xi_o a) (match G.2.2[a - xi_o]? with
            | some (n, f) => vp_in j n ∧ X μ (pc + 1) ls (.int (f j.toNatClampNeg) :: t) σ nc ns Q
            | none => False)
          | _ => False
        | _ => False
      | .laload => match st with
        | .int j :: .ref a :: t => match σ.1[a]? with
          | some (2, n) => vp_in j n ∧ X μ (pc + 1) ls (.long (σ.2.2.2 a j.toNatClampNeg) :: t) σ nc ns Q
          | _ => False
        | _ => False
      | .iastore => match st with
        | .int x :: .int j :: .ref a :: t => match σ.1[a]? with
          | some (1, n) => vp_in j n ∧ X μ (pc + 1) ls t (σ.1, σ.2.1, xi_u σ.2.2.1 a j.toNatClampNeg x, σ.2.2.2) nc ns Q
          | _ => False
        | _ => False
      | .lastore => match st with
        | .long x :: .int j :: .ref a :: t => match σ.1[a]? with
          | some (2, n) => vp_in j n ∧ X μ (pc + 1) ls t (σ.1, σ.2.1, σ.2.2.1, xi_u σ.2.2.2 a j.toNatClampNeg x) nc ns Q
          | _ => False
        | _ => False
      | .arraylength => match st with
        | .ref a :: t => match σ.1[a]? with
          | some (1, n) => X μ (pc + 1) ls (.int (Int32.ofNat n) :: t) σ nc ns Q
          | some (2, n) => X μ (pc + 1) ls (.int (Int32.ofNat n) :: t) σ nc ns Q
          | none => xi_b (Nat.ble xi_o a) (match G.2.2[a - xi_o]? with
            | some (n, _) => X μ (pc + 1) ls (.int (Int32.ofNat n) :: t) σ nc ns Q
            | none => False)
          | _ => False
        | _ => False
      | .newarray ty => match st with
        | .int n :: t => xi_b (Nat.ble (nc + 1) md.2.2.1.2.2.1 && Nat.ble (ns + n.toNatClampNeg) md.2.2.1.2.2.2 && Nat.ble n.toNatClampNeg 65536 && Nat.blt (σ.1.length + 1) xi_o && xi_wfl σ.1.length ls && xi_wfs σ.1.length t) (¬ n < 0 ∧ (match ty with
          | .int => X μ (pc + 2) ls (.ref σ.1.length :: t) (σ.1 ++ [(1, n.toNatClampNeg)], xi_z σ.2.1 σ.1.length 0, xi_z σ.2.2.1 σ.1.length 0, xi_z σ.2.2.2 σ.1.length 0) (nc + 1) (ns + n.toNatClampNeg) Q
          | .long => X μ (pc + 2) ls (.ref σ.1.length :: t) (σ.1 ++ [(2, n.toNatClampNeg)], xi_z σ.2.1 σ.1.length 0, xi_z σ.2.2.1 σ.1.length 0, xi_z σ.2.2.2 σ.1.length 0) (nc + 1) (ns + n.toNatClampNeg) Q
          | _ => False))
        | _ => False
      | .new _ => xi_b (Nat.ble (nc + 1) md.2.2.1.2.2.1 && Nat.ble (ns + (G.2.1.getD ra []).length) md.2.2.1.2.2.2 && Nat.blt (σ.1.length + 1) xi_o && xi_wfl σ.1.length ls && xi_wfs σ.1.length st)
          (X μ (pc + 3) ls (.ref σ.1.length :: st) (σ.1 ++ [(0, ra)], xi_z σ.2.1 σ.1.length 0, xi_z σ.2.2.1 σ.1.length 0, xi_z σ.2.2.2 σ.1.length 0) (nc + 1) (ns + (G.2.1.getD ra []).length) Q)
      | .invokestatic _ => match G.1[ra]? with
        | some mn => xi_b (Nat.ble mn.2.1.2.2 st.length) (xi_call G X md μ pc ls σ nc ns Q ra mn (st.take mn.2.1.2.2).reverse (st.drop mn.2.1.2.2))
        | none => False
      | .invokevirtual _ => match G.1[ra]? with
        | some mn => match st.drop mn.2.1.2.2 with
          | .ref o :: t => match σ.1[o]? with
            | some (0, ci) => xi_b (Nat.beq ci rb) (xi_call G X md μ pc ls σ nc ns Q ra mn (.ref o :: (st.take mn.2.1.2.2).reverse) t)
            | _ => False
          | _ => False
        | none => False
      | .invokespecial _ => match rb with
        | 0 => match G.1[ra]? with
          | some mn => match st.drop mn.2.1.2.2 with
            | .ref o :: t => xi_call G X md μ pc ls σ nc ns Q ra mn (.ref o :: (st.take mn.2.1.2.2).reverse) t
            | _ => False
          | none => False
        | _ => match st with
          | .ref _ :: t => xi_b (Nat.ble 1 md.2.2.1.1 && Nat.ble (xi_w8 t + 12) md.2.2.1.2.1) (X μ (pc + 3) ls t σ nc ns Q)
          | _ => False
      | .ireturn => match st with
        | [.int v] => xi_b (Nat.ble nc md.2.2.1.2.2.1 && Nat.ble ns md.2.2.1.2.2.2) (match md.2.1.2.1 with
          | some .int => Q (some (.int v)) σ
          | some .boolean => (v = 0 ∨ v = 1) ∧ Q (some (.int v)) σ
          | _ => False)
        | _ => False
      | .lreturn => match st with
        | [.long v] => xi_b (Nat.ble nc md.2.2.1.2.2.1 && Nat.ble ns md.2.2.1.2.2.2) (match md.2.1.2.1 with
          | some .long => Q (some (.long v)) σ
          | _ => False)
        | _ => False
      | .return_ => match st with
        | [] => xi_b (Nat.ble nc md.2.2.1.2.2.1 && Nat.ble ns md.2.2.1.2.2.2) (match md.2.1.2.1 with
          | none => Q none σ
          | _ => False)
        | _ => False
      | _ => False
/-- fewer locals known -/
def xi_fg : List Nat → List (Option Value) → List (Option Value)
  | [], ls => ls
  | i :: t, ls => xi_fg t (ls.set i none)
/-- what the abstract machine promises: the least that every step keeps -/
def xi_cl (G : xiG) (X : xiX) : Prop := ∀ X' : xiX, (∀ μ pc ls st σ nc ns Q, X' μ pc ls st σ nc ns Q → X μ pc ls st σ nc ns Q) → ∀ μ pc ls st σ nc ns Q, (xi_step G X' μ pc ls st σ nc ns Q ∨ ∃ is : List Nat, X' μ pc (xi_fg is ls) st σ nc ns Q) → X μ pc ls st σ nc ns Q
def xi_V (G : xiG) : xiX := fun μ pc ls st σ nc ns Q => ∀ X : xiX, xi_cl G X → X μ pc ls st σ nc ns Q
def xi_stop : List (Nat × List Nat) → Nat → Option (List Nat)
  | [], _ => none
  | q :: t, pc => match Nat.beq q.1 pc with
    | true => some q.2
    | false => xi_stop t pc
/-- n steps of method M, but for the places where it stops -/
def xi_run (G : xiG) (M : Nat) (stops : List (Nat × List Nat)) : Nat → xiX
  | 0 => xi_V G
  | n + 1 => fun μ pc ls st σ nc ns Q => match Nat.beq μ M with
    | true => match xi_stop stops pc with
      | some is => xi_V G μ pc (xi_fg is ls) st σ nc ns Q
      | none => xi_step G (xi_run G M stops n) μ pc ls st σ nc ns Q
    | false => xi_V G μ pc ls st σ nc ns Q
theorem xi_V_step {G : xiG} {X' : xiX} (hX' : ∀ μ pc ls st σ nc ns Q, X' μ pc ls st σ nc ns Q → xi_V G μ pc ls st σ nc ns Q) {μ pc : Nat} {ls : List (Option Value)} {st : List Value} {σ : xiS} {nc ns : Nat} {Q : xiQ} (h : xi_step G X' μ pc ls st σ nc ns Q) : xi_V G μ pc ls st σ nc ns Q := by
  intro X hX
  exact hX X' (fun μ pc ls st σ nc ns Q h => hX' μ pc ls st σ nc ns Q h X hX) μ pc ls st σ nc ns Q (Or.inl h)
theorem xi_V_fg {G : xiG} (is : List Nat) {μ pc : Nat} {ls : List (Option Value)} {st : List Value} {σ : xiS} {nc ns : Nat} {Q : xiQ} (h : xi_V G μ pc (xi_fg is ls) st σ nc ns Q) : xi_V G μ pc ls st σ nc ns Q := by
  intro X hX
  exact hX (xi_V G) (fun μ pc ls st σ nc ns Q h => h X hX) μ pc ls st σ nc ns Q (Or.inr ⟨is, h⟩)
theorem xi_run_V {G : xiG} {M : Nat} {stops : List (Nat × List Nat)} : ∀ (n μ pc : Nat) (ls : List (Option Value)) (st : List Value) (σ : xiS) (nc ns : Nat) (Q : xiQ), xi_run G M stops n μ pc ls st σ nc ns Q → xi_V G μ pc ls st σ nc ns Q
  | 0, _, _, _, _, _, _, _, _, h => h
  | n + 1, μ, pc, ls, st, σ, nc, ns, Q, h => by
    unfold xi_run at h
    split at h
    · split at h
      · exact xi_V_fg _ h
      · exact xi_V_step (xi_run_V n) h
    · exact h
theorem xi_go {G : xiG} (M : Nat) (stops : List (Nat × List Nat)) (n : Nat) {pc : Nat} {ls : List (Option Value)} {st : List Value} {σ : xiS} {nc ns : Nat} {Q : xiQ} (h : xi_step G (xi_run G M stops n) M pc ls st σ nc ns Q) : xi_V G M pc ls st σ nc ns Q := xi_V_step (xi_run_V n) h
end
section
/-! XI: how an abstract state stands in the heap -/
def xi_v (ad : Nat → Nat) : Value → Value
  | .ref k => .ref (ad k)
  | v => v
theorem xi_v_cat (ad : Nat → Nat) (v : Value) : (xi_v ad v).category = v.category := by cases v <;> rfl
def xi_l (ad : Nat → Nat) (ls : List (Option Value)) : List (Nat × Value) := (List.range ls.length).filterMap (fun i => match ls[i]? with
  | some (some v) => some (i, xi_v ad v)
  | _ => none)
theorem xi_l_mem {ad : Nat → Nat} {ls : List (Option Value)} {q : Nat × Value} : q ∈ xi_l ad ls ↔ ∃ v, ls[q.1]? = some (some v) ∧ q.2 = xi_v ad v := by
  unfold xi_l
  rw [List.mem_filterMap]
  constructor
  · rintro ⟨i, hi, h⟩
    split at h
    · rename_i v hv
      cases h
      exact ⟨v, hv, rfl⟩
    · cases h
  · rintro ⟨v, hv, h2⟩
    refine ⟨q.1, List.mem_range.mpr (List.getElem?_eq_some_iff.mp hv).1, ?_⟩
    rw [hv]
    show some (q.1, xi_v ad v) = some q
    rw [← h2]
theorem xi_has {lsA : Array Slot} {nL : Nat} {l l' : List (Nat × Value)} (h : lv_has lsA nL l) (hs : ∀ q ∈ l', q ∈ l) : lv_has lsA nL l' := ⟨h.1, h.2.1, fun q hq => h.2.2 q (hs q hq)⟩
theorem xi_at {lsA : Array Slot} {nL : Nat} {ad : Nat → Nat} {ls : List (Option Value)} (h : lv_has lsA nL (xi_l ad ls)) {i : Nat} {v : Value} (hi : ls[i]? = some (some v)) : lsA[i]? = some (.val (xi_v ad v)) := h.2.2 (i, xi_v ad v) (xi_l_mem.mpr ⟨v, hi, rfl⟩)
theorem xi_is2_of {o : Option (Option Value)} (h : ¬ xi_is2 o = true) {v : Value} (hv : o = some (some v)) : v.category ≠ 2 := by
  subst hv
  cases v <;> simp_all [xi_is2, Value.category]
theorem xi_kill_at {ls : List (Option Value)} {i j : Nat} {v : Value} (h : (xi_kill ls i)[j]? = some (some v)) : ls[j]? = some (some v) ∧ ¬ (j + 1 = i ∧ v.category = 2) := by
  cases i with
  | zero => exact ⟨h, fun q => by omega⟩
  | succ k =>
    unfold xi_kill at h
    dsimp only at h
    split at h
    · rename_i h2
      rw [List.getElem?_set] at h
      split at h
      · split at h
        · cases h
        · cases h
      · exact ⟨h, fun q => by omega⟩
    · rename_i h2
      refine ⟨h, fun q => ?_⟩
      have e : j = k := by omega
      subst e
      exact xi_is2_of (by rw [h2]; decide) h q.2
theorem xi_kill_len (ls : List (Option Value)) (i : Nat) : (xi_kill ls i).length = ls.length := by
  cases i with
  | zero => rfl
  | succ k => unfold xi_kill; dsimp only; split <;> simp
theorem xi_store1 {lsA : Array Slot} {nL i : Nat} {ad : Nat → Nat} {ls : List (Option Value)} {v w : Value} (hw : w = xi_v ad v) (h : lv_has lsA nL ((i, w) :: (xi_l ad ls).filter (fun q => !(q.1 == i) && !(q.1 + 1 == i && q.2.category == 2)))) : lv_has lsA nL (xi_l ad (xi_s1 ls i v)) := by
  refine xi_has h fun q hq => ?_
  obtain ⟨u, hu, h2⟩ := xi_l_mem.mp hq
  unfold xi_s1 at hu
  rw [List.getElem?_set] at hu
  split at hu
  · rename_i e
    split at hu
    · cases hu
      refine List.mem_cons.mpr (Or.inl ?_)
      rw [hw, e, ← h2]
    · cases hu
  · rename_i e
    obtain ⟨a, b⟩ := xi_kill_at hu
    refine List.mem_cons.mpr (Or.inr (List.mem_filter.mpr ⟨xi_l_mem.mpr ⟨u, a, h2⟩, ?_⟩))
    have b2 : ¬ (q.1 + 1 = i ∧ q.2.category = 2) := by rw [h2, xi_v_cat]; exact b
    have e2 : ¬ q.1 = i := fun z => e z.symm
    simp [e2]
    exact Decidable.not_and_iff_or_not.mp b2
theorem xi_store2 {lsA : Array Slot} {nL i : Nat} {ad : Nat → Nat} {ls : List (Option Value)} {v w : Value} (hw : w = xi_v ad v) (h : lv_has lsA nL ((i, w) :: (xi_l ad ls).filter (fun q => !(q.1 == i) && (!(q.1 == i + 1) && !(q.1 + 1 == i && q.2.category == 2))))) : lv_has lsA nL (xi_l ad (xi_s2 ls i v)) := by
  refine xi_has h fun q hq => ?_
  obtain ⟨u, hu, h2⟩ := xi_l_mem.mp hq
  unfold xi_s2 at hu
  rw [List.getElem?_set] at hu
  split at hu
  · split at hu
    · cases hu
    · cases hu
  · rename_i e3
    rw [List.getElem?_set] at hu
    split at hu
    · rename_i e
      split at hu
      · cases hu
        refine List.mem_cons.mpr (Or.inl ?_)
        rw [hw, e, ← h2]
      · cases hu
    · rename_i e
      obtain ⟨a, b⟩ := xi_kill_at hu
      refine List.mem_cons.mpr (Or.inr (List.mem_filter.mpr ⟨xi_l_mem.mpr ⟨u, a, h2⟩, ?_⟩))
      have b2 : ¬ (q.1 + 1 = i ∧ q.2.category = 2) := by rw [h2, xi_v_cat]; exact b
      have e2 : ¬ q.1 = i := fun z => e z.symm
      have e4 : ¬ q.1 = i + 1 := fun z => e3 z.symm
      simp [e2, e4]
      exact Decidable.not_and_iff_or_not.mp b2
theorem xi_fg_mem {ad : Nat → Nat} : ∀ (is : List Nat) (ls : List (Option Value)) (q : Nat × Value), q ∈ xi_l ad (xi_fg is ls) → q ∈ xi_l ad ls
  | [], _, _, h => h
  | i :: t, ls, q, h => by
    obtain ⟨v, hv, h2⟩ := xi_l_mem.mp (xi_fg_mem t (ls.set i none) q h)
    rw [List.getElem?_set] at hv
    split at hv
    · split at hv <;> cases hv
    · exact xi_l_mem.mpr ⟨v, hv, h2⟩
theorem xi_ent_mem {ad : Nat → Nat} {n : Nat} : ∀ (vs : List Value) (k : Nat) (i : Nat) (v : Value), (xi_ent1 vs ++ List.replicate n none)[i]? = some (some v) → (k + i, xi_v ad v) ∈ lv_args k (vs.map (xi_v ad))
  | [], k, i, v, h => by
    simp only [xi_ent1, List.nil_append] at h
    rw [List.getElem?_replicate] at h
    split at h <;> cases h
  | w :: t, k, i, v, h => by
    have ih1 := xi_ent_mem (ad := ad) (n := n) t (k + 1)
    have ih2 := xi_ent_mem (ad := ad) (n := n) t (k + 2)
    cases w with
    | long x =>
      match i, h with
      | 0, h => simp [xi_ent1] at h; subst h; simp [lv_args, xi_v]
      | 1, h => simp [xi_ent1] at h
      | i + 2, h =>
        simp [xi_ent1] at h
        have := ih2 i v h
        simp only [List.map_cons, xi_v, lv_args, Value.category, List.mem_cons]
        right
        rw [show k + (i + 2) = k + 2 + i by omega]
        exact this
    | double x =>
      match i, h with
      | 0, h => simp [xi_ent1] at h; subst h; simp [lv_args, xi_v]
      | 1, h => simp [xi_ent1] at h
      | i + 2, h =>
        simp [xi_ent1] at h
        have := ih2 i v h
        simp only [List.map_cons, xi_v, lv_args, Value.category, List.mem_cons]
        right
        rw [show k + (i + 2) = k + 2 + i by omega]
        exact this
    | int x =>
      match i, h with
      | 0, h => simp [xi_ent1] at h; subst h; simp [lv_args, xi_v]
      | i + 1, h =>
        simp [xi_ent1] at h
        have := ih1 i v h
        simp only [List.map_cons, xi_v, lv_args, Value.category, List.mem_cons]
        right
        rw [show k + (i + 1) = k + 1 + i by omega]
        exact this
    | float x =>
      match i, h with
      | 0, h => simp [xi_ent1] at h; subst h; simp [lv_args, xi_v]
      | i + 1, h =>
        simp [xi_ent1] at h
        have := ih1 i v h
        simp only [List.map_cons, xi_v, lv_args, Value.category, List.mem_cons]
        right
        rw [show k + (i + 1) = k + 1 + i by omega]
        exact this
    | null =>
      match i, h with
      | 0, h => simp [xi_ent1] at h; subst h; simp [lv_args, xi_v]
      | i + 1, h =>
        simp [xi_ent1] at h
        have := ih1 i v h
        simp only [List.map_cons, xi_v, lv_args, Value.category, List.mem_cons]
        right
        rw [show k + (i + 1) = k + 1 + i by omega]
        exact this
    | ref x =>
      match i, h with
      | 0, h => simp [xi_ent1] at h; subst h; simp [lv_args, xi_v]
      | i + 1, h =>
        simp [xi_ent1] at h
        have := ih1 i v h
        simp only [List.map_cons, xi_v, lv_args, Value.category, List.mem_cons]
        right
        rw [show k + (i + 1) = k + 1 + i by omega]
        exact this
    | retAddr x =>
      match i, h with
      | 0, h => simp [xi_ent1] at h; subst h; simp [lv_args, xi_v]
      | i + 1, h =>
        simp [xi_ent1] at h
        have := ih1 i v h
        simp only [List.map_cons, xi_v, lv_args, Value.category, List.mem_cons]
        right
        rw [show k + (i + 1) = k + 1 + i by omega]
        exact this
theorem xi_ent_len (ad : Nat → Nat) : ∀ vs : List Value, (lg_sl (vs.map (xi_v ad))).length = (xi_ent1 vs).length
  | [] => rfl
  | w :: t => by
    have ih := xi_ent_len ad t
    have e : lg_sl (xi_v ad w :: t.map (xi_v ad)) = (lg_sl [xi_v ad w]) ++ lg_sl (t.map (xi_v ad)) := by simp [lg_sl]
    rw [List.map_cons, e, List.length_append, ih]
    cases w <;> simp [xi_ent1, lg_sl, xi_v, Value.category] <;> omega
/-- refs that are known: what another address map that agrees says of them -/
def xi_A (σ : xiS) (ad : Nat → Nat) (σ' : xiS) (ad' : Nat → Nat) : Prop := (∀ k, k < σ.1.length → ad' k = ad k) ∧ (∀ k, xi_o ≤ k → ad' k = ad k) ∧ σ.1.length ≤ σ'.1.length
theorem xi_A_rf {σ : xiS} {ad : Nat → Nat} : xi_A σ ad σ ad := ⟨fun _ _ => rfl, fun _ _ => rfl, Nat.le_refl _⟩
theorem xi_A_tr {σ σ1 σ2 : xiS} {ad ad1 ad2 : Nat → Nat} (h : xi_A σ ad σ1 ad1) (h2 : xi_A σ1 ad1 σ2 ad2) : xi_A σ ad σ2 ad2 :=
  ⟨fun k hk => (h2.1 k (Nat.lt_of_lt_of_le hk h.2.2)).trans (h.1 k hk), fun k hk => (h2.2.1 k hk).trans (h.2.1 k hk), Nat.le_trans h.2.2 h2.2.2⟩
theorem xi_wf1_v {σ σ' : xiS} {ad ad' : Nat → Nat} (h : xi_A σ ad σ' ad') {v : Value} (hv : xi_wf1 σ.1.length v = true) : xi_v ad' v = xi_v ad v := by
  cases v with
  | ref k =>
    simp only [xi_wf1, Bool.or_eq_true] at hv
    show Value.ref (ad' k) = Value.ref (ad k)
    rcases hv with hv | hv
    · rw [h.1 k (Nat.blt_eq.mp hv)]
    · rw [h.2.1 k (Nat.ble_eq.mp hv)]
  | _ => rfl
theorem xi_wfs_v {σ σ' : xiS} {ad ad' : Nat → Nat} (h : xi_A σ ad σ' ad') : ∀ (st : List Value), xi_wfs σ.1.length st = true → st.map (xi_v ad') = st.map (xi_v ad)
  | [], _ => rfl
  | v :: t, hs => by
    unfold xi_wfs at hs
    split at hs
    · rename_i h1
      rw [List.map_cons, List.map_cons, xi_wf1_v h h1, xi_wfs_v h t hs]
    · cases hs
theorem xi_wfl_at {n : Nat} : ∀ (ls : List (Option Value)), xi_wfl n ls = true → ∀ (i : Nat) (v : Value), ls[i]? = some (some v) → xi_wf1 n v = true
  | [], _, i, v, h => by cases h
  | none :: t, hs, i, v, h => by
    cases i with
    | zero => cases h
    | succ i => exact xi_wfl_at t hs i v h
  | some w :: t, hs, i, v, h => by
    unfold xi_wfl at hs
    split at hs
    · rename_i h1
      cases i with
      | zero => cases h; exact h1
      | succ i => exact xi_wfl_at t hs i v h
    · cases hs
theorem xi_wfl_v {σ σ' : xiS} {ad ad' : Nat → Nat} (h : xi_A σ ad σ' ad') {ls : List (Option Value)} (hs : xi_wfl σ.1.length ls = true) (q : Nat × Value) (hq : q ∈ xi_l ad' ls) : q ∈ xi_l ad ls := by
  obtain ⟨v, hv, h2⟩ := xi_l_mem.mp hq
  exact xi_l_mem.mpr ⟨v, hv, by rw [h2, xi_wf1_v h (xi_wfl_at ls hs _ _ hv)]⟩
end
section
/-! XI: the cells of an abstract state -/
def xi_cell (fk : List (List Nat)) (ad : Nat → Nat) (ca : Nat → ClassId) (σ : xiS) (k : Nat) (d : Nat × Nat) : va_E := match d.1 with
  | 0 => .inr (d.2, (List.range (fk.getD d.2 []).length).map (fun j => xi_v ad (xi_fld fk σ k d.2 j)))
  | 1 => .inl (ca k, d.2, .inl (σ.2.2.1 k))
  | _ => .inl (ca k, d.2, .inr (.inl (σ.2.2.2 k)))
def xi_ws (fk : List (List Nat)) (ad : Nat → Nat) (ca : Nat → ClassId) (σ : xiS) : va_W := σ.1.mapIdx (fun k d => (ad k, xi_cell fk ad ca σ k d))
theorem xi_ws_at {fk : List (List Nat)} {ad : Nat → Nat} {ca : Nat → ClassId} {σ : xiS} {k : Nat} {d : Nat × Nat} (h : σ.1[k]? = some d) : (xi_ws fk ad ca σ)[k]? = some (ad k, xi_cell fk ad ca σ k d) := by
  unfold xi_ws
  rw [List.getElem?_mapIdx, h]
  rfl
theorem xi_ws_of {fk : List (List Nat)} {ad : Nat → Nat} {ca : Nat → ClassId} {σ : xiS} {k : Nat} {q : Nat × va_E} (h : (xi_ws fk ad ca σ)[k]? = some q) : ∃ d, σ.1[k]? = some d ∧ q = (ad k, xi_cell fk ad ca σ k d) := by
  unfold xi_ws at h
  rw [List.getElem?_mapIdx] at h
  cases e : σ.1[k]? with
  | none => rw [e] at h; cases h
  | some d => rw [e] at h; cases h; exact ⟨d, rfl, rfl⟩
/-- one cell changed -/
theorem xi_ws_set {fk : List (List Nat)} {ad : Nat → Nat} {ca : Nat → ClassId} {σ σ' : xiS} {o : Nat} {d : Nat × Nat} (hs : σ'.1 = σ.1) (ho : σ.1[o]? = some d) (hr : ∀ k, k ≠ o → σ'.2.1 k = σ.2.1 k) (hi : ∀ k, k ≠ o → σ'.2.2.1 k = σ.2.2.1 k) (hl : ∀ k, k ≠ o → σ'.2.2.2 k = σ.2.2.2 k) : xi_ws fk ad ca σ' = (xi_ws fk ad ca σ).set o (ad o, xi_cell fk ad ca σ' o d) := by
  apply List.ext_getElem?
  intro k
  rw [List.getElem?_set]
  by_cases e : o = k
  · subst e
    rw [if_pos rfl]
    have h2 : σ'.1[o]? = some d := by rw [hs]; exact ho
    rw [xi_ws_at h2]
    have h3 := List.getElem?_eq_some_iff.mp (xi_ws_at (fk := fk) (ad := ad) (ca := ca) ho)
    rw [if_pos h3.1]
  · rw [if_neg e]
    have e' : k ≠ o := fun z => e z.symm
    cases e2 : σ.1[k]? with
    | none =>
      have n1 : (xi_ws fk ad ca σ)[k]? = none := by unfold xi_ws; rw [List.getElem?_mapIdx, e2]; rfl
      have n2 : (xi_ws fk ad ca σ')[k]? = none := by unfold xi_ws; rw [List.getElem?_mapIdx, hs, e2]; rfl
      rw [n1, n2]
    | some d2 =>
      have h2 : σ'.1[k]? = some d2 := by rw [hs]; exact e2
      rw [xi_ws_at e2, xi_ws_at h2]
      congr 2
      unfold xi_cell
      split
      · congr 2
        apply List.map_congr_left
        intro j _
        unfold xi_fld
        rw [hr k e', hi k e', hl k e']
      · rw [hi k e']
      · rw [hl k e']
theorem xi_cell_obj {fk : List (List Nat)} {ad : Nat → Nat} {ca : Nat → ClassId} {σ : xiS} {k ci : Nat} : xi_cell fk ad ca σ k (0, ci) = .inr (ci, (List.range (fk.getD ci []).length).map (fun j => xi_v ad (xi_fld fk σ k ci j))) := rfl
/-- a field's value put: the row of its values -/
theorem xi_fs_set {fk : List (List Nat)} {ad : Nat → Nat} {σ σ' : xiS} {o ci j : Nat} {v : Value} (hj : xi_fld fk σ' o ci j = v) (hk : ∀ k, k ≠ j → xi_fld fk σ' o ci k = xi_fld fk σ o ci k) : (List.range (fk.getD ci []).length).map (fun k => xi_v ad (xi_fld fk σ' o ci k)) = ((List.range (fk.getD ci []).length).map (fun k => xi_v ad (xi_fld fk σ o ci k))).set j (xi_v ad v) := by
  apply List.ext_getElem?
  intro k
  rw [List.getElem?_set]
  by_cases e : j = k
  · subst e
    rw [if_pos rfl, List.length_map, List.length_range]
    by_cases h : j < (fk.getD ci []).length
    · rw [if_pos h, List.getElem?_map, List.getElem?_range h]
      show some (xi_v ad (xi_fld fk σ' o ci j)) = _
      rw [hj]
    · rw [if_neg h, List.getElem?_map, List.getElem?_eq_none (by rw [List.length_range]; omega)]
      rfl
  · rw [if_neg e, List.getElem?_map, List.getElem?_map]
    by_cases h : k < (fk.getD ci []).length
    · rw [List.getElem?_range h]
      show some (xi_v ad (xi_fld fk σ' o ci k)) = some (xi_v ad (xi_fld fk σ o ci k))
      rw [hk k (fun z => e z.symm)]
    · rw [List.getElem?_eq_none (by rw [List.length_range]; omega)]
      rfl
/-- a state with one cell more -/
theorem xi_ws_push {fk : List (List Nat)} {ad ad' : Nat → Nat} {ca ca' : Nat → ClassId} {σ σ' : xiS} {d : Nat × Nat} (hs : σ'.1 = σ.1 ++ [d]) (hr : ∀ k, k < σ.1.length → σ'.2.1 k = σ.2.1 k) (hi : ∀ k, k < σ.1.length → σ'.2.2.1 k = σ.2.2.1 k) (hl : ∀ k, k < σ.1.length → σ'.2.2.2 k = σ.2.2.2 k) (ha : ∀ k, k < σ.1.length → ad' k = ad k) (hc : ∀ k, k < σ.1.length → ca' k = ca k) (hw : ∀ k j q, k < σ.1.length → σ.2.1 k j = q + 1 → q < σ.1.length) : xi_ws fk ad' ca' σ' = xi_ws fk ad ca σ ++ [(ad' σ.1.length, xi_cell fk ad' ca' σ' σ.1.length d)] := by
  apply List.ext_getElem?
  intro k
  have hlen : (xi_ws fk ad ca σ).length = σ.1.length := by unfold xi_ws; rw [List.length_mapIdx]
  rcases Nat.lt_trichotomy k σ.1.length with h | h | h
  · rw [List.getElem?_append_left (by rw [hlen]; exact h)]
    have e2 : σ.1[k]? = some σ.1[k] := List.getElem?_eq_getElem h
    have e3 : σ'.1[k]? = some σ.1[k] := by rw [hs, List.getElem?_append_left h]; exact e2
    rw [xi_ws_at e2, xi_ws_at e3, ha k h]
    congr 2
    unfold xi_cell
    split
    · congr 2
      apply List.map_congr_left
      intro j _
      unfold xi_fld
      rw [hr k h, hi k h, hl k h]
      split
      · rfl
      · rfl
      · rfl
      · split
        · rfl
        · rename_i q e
          show Value.ref (ad' q) = Value.ref (ad q)
          rw [ha q (hw k j q h e)]
    · rw [hi k h, hc k h]
    · rw [hl k h, hc k h]
  · subst h
    have e3 : σ'.1[σ.1.length]? = some d := by rw [hs]; simp
    rw [xi_ws_at e3, List.getElem?_append_right (by rw [hlen]; exact Nat.le_refl _), hlen]
    simp
  · have e3 : σ'.1[k]? = none := by rw [hs]; exact List.getElem?_eq_none (by simp; omega)
    have n2 : (xi_ws fk ad' ca' σ')[k]? = none := by unfold xi_ws; rw [List.getElem?_mapIdx, e3]; rfl
    rw [n2]
    symm
    apply List.getElem?_eq_none
    simp [hlen]
    omega
end
section
/-! XI: what is asked of the tables, what a frame knows, and what it is that the machine keeps an abstract promise -/
def xi_len : Instr → Nat
  | .iconst _ | .lconst _ | .iload_n _ | .lload_n _ | .aload_n _ | .istore_n _ | .lstore_n _ | .astore_n _ => 1
  | .bipush _ | .ldc _ | .iload _ | .lload _ | .aload _ | .istore _ | .lstore _ | .newarray _ => 2
  | .sipush _ | .ldc_w _ | .ldc2_w _ | .iinc _ _ | .ifCond _ _ | .if_icmp _ _ | .goto _ | .getfield _ | .putfield _ | .getstatic _ | .new _ | .invokestatic _ | .invokevirtual _ | .invokespecial _ => 3
  | _ => 1
/-- a target ahead of the method's beginning can't be -/
def xi_tg (pc : Nat) (off : Int) : Bool := decide (0 ≤ (pc : Int) + off)
def xi_kt (k : Nat) (ty : FieldType) : Bool := match k, ty with
  | 0, .int => true
  | 1, .boolean => true
  | 2, .long => true
  | 3, .object _ => true
  | 3, .array _ => true
  | _, _ => false
def xi_fin (md : xiM) (q : String × String × String × Bool) : Bool := match q.2.2.2 with
  | true => decide (md.1.1 = "init") && decide (q.1 = md.1.2.1.cls)
  | false => true
/-- an entry of a method's table is right: its bytes, its length, the words of what it is resolved to -/
def xi_okE (T : List Cond) (cl : List vw_C) (zs : List (String × String × String)) (G : xiG) (md : xiM) (q : xiE) : Bool :=
  decide (decode md.1.2.2 q.1 = .ok (q.2.1, q.2.2.1)) && (match q with
  | (pc, ins, len, ra, rb, rc) => match ins with
    | .ifCond _ off => Nat.beq len 3 && xi_tg pc off
    | .if_icmp _ off => Nat.beq len 3 && xi_tg pc off
    | .goto off => Nat.beq len 3 && xi_tg pc off
    | .getfield i => Nat.beq len 3 && (match cl[ra]? with
      | some (_, t, n) => Nat.blt rb n && decide (T[rc]? = some (.fieldLink md.1.2.1.cls i (t rb).1 (t rb).2.1 (t rb).2.2.1))
      | none => false)
    | .putfield i => Nat.beq len 3 && (match cl[ra]? with
      | some (_, t, n) => Nat.blt rb n && decide (T[rc]? = some (.fieldLink md.1.2.1.cls i (t rb).1 (t rb).2.1 (t rb).2.2.1)) && xi_fin md (t rb)
      | none => false)
    | .getstatic i => Nat.beq len 3 && (match ra with
      | 0 => false
      | j + 1 => match zs[j]? with
        | some z => decide (T[rc]? = some (.fieldLink md.1.2.1.cls i z.1 z.2.1 z.2.2))
        | none => false)
    | .ldc i => Nat.beq len 2 && decide (T[rc]? = some (.constant md.1.2.1.cls i (Int32.ofNat ra)))
    | .ldc_w i => Nat.beq len 3 && decide (T[rc]? = some (.constant md.1.2.1.cls i (Int32.ofNat ra)))
    | .ldc2_w i => Nat.beq len 3 && decide (T[rc]? = some (.constantLong md.1.2.1.cls i (Int64.ofNat ra)))
    | .new i => Nat.beq len 3 && (match cl[ra]? with
      | some (c, _, n) => decide (T[rc]? = some (.classLink md.1.2.1.cls i c)) && decide (Cond.instantiable c n ∈ T) && decide (Cond.initialized c ∈ T)
      | none => false)
    | .newarray ty => Nat.beq len 2 && decide (Cond.arrayClass (newarray.typeOf ty) ∈ T)
    | .invokestatic i => Nat.beq len 3 && (match G.1[ra]? with
      | some mn => decide (T[rc]? = some (.methodLink md.1.2.1.cls i mn.1.2.1)) && decide (mn.1.1 = "static")
      | none => false)
    | .invokevirtual i => Nat.beq len 3 && (match G.1[ra]?, cl[rb]? with
      | some mn, some (c, _, _) => decide (T[rc]? = some (.methodLink md.1.2.1.cls i mn.1.2.1)) && decide (mn.1.1 = "virtual") && decide (mn.1.2.1.cls = c)
      | _, _ => false)
    | .invokespecial i => Nat.beq len 3 && (match rb with
      | 0 => match G.1[ra]? with
        | some mn => decide (mn.1.1 = "init") && (match T[rc]? with
          | some (.methodLink o j y) => decide (o = md.1.2.1.cls) && Nat.beq j i && decide (y = mn.1.2.1)
          | some (.methodLinkNest o j y _) => decide (o = md.1.2.1.cls) && Nat.beq j i && decide (y = mn.1.2.1)
          | _ => false)
        | none => false
      | _ => decide (T[rc]? = some (.methodLink md.1.2.1.cls i Lib.objectInit)) && decide (Cond.instanceMethod Lib.objectInit ∈ T) && decide (Cond.code Lib.objectInit ⟨#[0xb1]⟩ 1 none ∈ T))
    | .tableswitch d lo hi offs => Nat.beq offs.toList.length (hi - lo + 1).toNat && xi_tg pc d && offs.toList.all (xi_tg pc)
    | i => Nat.beq len (xi_len i))
/-- a method that is called: its words -/
def xi_okM (T : List Cond) (md : xiM) : Bool :=
  plainName md.1.2.1.cls && decide (Cond.code md.1.2.1 md.1.2.2 md.2.1.1 md.2.1.2.1 ∈ T) && decide (Cond.initialized md.1.2.1.cls ∈ T) && decide (md.1.2.1.cls ≠ "java/lang/invoke/MethodHandle") && decide (md.1.2.1.cls ≠ "java/lang/invoke/VarHandle") && decide ((parseMethodDescriptor md.1.2.1.desc).map (fun d => d.parameters.length) = some md.2.1.2.2) &&
  (match decide (md.1.1 = "static") with
  | true => decide (Cond.static md.1.2.1 ∈ T)
  | false => match decide (md.1.1 = "virtual") with
    | true => decide (Cond.instanceMethod md.1.2.1 ∈ T) && decide (Cond.selects md.1.2.1.cls md.1.2.1 md.1.2.1 ∈ T)
    | false => decide (md.1.1 = "init") && decide (Cond.instanceMethod md.1.2.1 ∈ T) && decide (md.1.2.1.name = "<init>") && decide (md.2.1.2.1 = none))
def xi_okC (T : List Cond) (fk : List (List Nat)) (tf : Nat → Nat → FieldType) (ci : Nat) (q : vw_C) : Prop :=
  (∀ w ∈ u_ws q.1 q.2.1 q.2.2, w ∈ T) ∧ q.2.2 = (fk.getD ci []).length ∧ (∀ a, a < q.2.2 → ∀ b, b < q.2.2 → a ≠ b → (q.2.1 a).2.1 ≠ (q.2.1 b).2.1) ∧ (∀ k, k < q.2.2 → parseFieldDescriptor (q.2.1 k).2.2.1 = some (tf ci k)) ∧ (∀ k, k < q.2.2 → xi_kt ((fk.getD ci []).getD k 9) (tf ci k) = true)
def xi_good (T : List Cond) (cl : List vw_C) (zs : List (String × String × String)) (tf : Nat → Nat → FieldType) (G : xiG) : Prop :=
  (∀ w ∈ T, goodWord w = true) ∧ (∀ (ci : Nat) (q : vw_C), cl[ci]? = some q → xi_okC T G.2.1 tf ci q) ∧ ∀ (μ : Nat) (md : xiM), G.1[μ]? = some md → (md.1.1 ≠ "law" → xi_okM T md = true) ∧ ∀ q ∈ md.2.2.2, xi_okE T cl zs G md q = true
theorem xi_look_mem {pc : Nat} {q : Instr × Nat × (Nat × Nat × Nat)} : ∀ (l : List xiE), xi_look l pc = some q → (pc, q) ∈ l
  | [], h => by cases h
  | a :: t, h => by
    unfold xi_look at h
    split at h
    · rename_i e
      cases h
      rw [← Nat.eq_of_beq_eq_true e]
      exact List.mem_cons_self
    · exact List.mem_cons_of_mem _ (xi_look_mem t h)
theorem xi_b_of {b : Bool} {P : Prop} (h : xi_b b P) : b = true ∧ P := by
  cases b with
  | true => exact ⟨rfl, h⟩
  | false => exact h.elim
theorem xi_I2_of {K : Int32 → Int32 → List Value → Prop} {st : List Value} (h : xi_I2 K st) : ∃ x y t, st = .int y :: .int x :: t ∧ K x y t := by
  unfold xi_I2 at h
  split at h
  · exact ⟨_, _, _, rfl, h⟩
  · exact h.elim
theorem xi_I1_of {K : Int32 → List Value → Prop} {st : List Value} (h : xi_I1 K st) : ∃ x t, st = .int x :: t ∧ K x t := by
  unfold xi_I1 at h
  split at h
  · exact ⟨_, _, rfl, h⟩
  · exact h.elim
theorem xi_L2_of {K : Int64 → Int64 → List Value → Prop} {st : List Value} (h : xi_L2 K st) : ∃ x y t, st = .long y :: .long x :: t ∧ K x y t := by
  unfold xi_L2 at h
  split at h
  · exact ⟨_, _, _, rfl, h⟩
  · exact h.elim
theorem xi_L1_of {K : Int64 → List Value → Prop} {st : List Value} (h : xi_L1 K st) : ∃ x t, st = .long x :: t ∧ K x t := by
  unfold xi_L1 at h
  split at h
  · exact ⟨_, _, rfl, h⟩
  · exact h.elim
theorem xi_ld_of {K : Value → Prop} {ls : List (Option Value)} {i : Nat} (h : xi_ld K ls i) : ∃ v, ls[i]? = some (some v) ∧ K v := by
  unfold xi_ld at h
  split at h
  · rename_i v e
    exact ⟨v, e, h⟩
  · exact h.elim
/-- what a frame knows from its beginning on -/
def xi_C (T : List Cond) (cl : List vw_C) (G : xiG) (D : va_G) (p : Program) (s : State) (m : MethodId) (args : Array Value) (meth : Method) (c : Code) (R : Room) (md : xiM) (A : Nat → Prop) : Prop :=
  p.tables.exec = Jvm.exec ∧ c.code = md.1.2.2 ∧ c.maxLocals = md.2.1.1 ∧ s.vm.findClass md.1.2.1.cls = some m.cls ∧ (∀ w ∈ T, w.before args s = true) ∧ (∀ q, s.heap.size ≤ q → A q) ∧ (∀ (c : Nat) (q : vw_C), cl[c]? = some q → u_Kn s q.1 q.2.1 q.2.2 (D.1 c) (D.2 c)) ∧
  md.2.2.1.1 ≤ R.frames ∧ md.2.2.1.2.1 ≤ R.locals ∧ md.2.2.1.2.2.1 ≤ R.cells ∧ md.2.2.1.2.2.2 ≤ R.slots ∧ (md.1.1 = "init" → meth.name = "<init>")
/-- rows that are read alone, and the statics that hold them -/
def xi_O (zs : List (String × String × String)) (G : xiG) (A : Nat → Prop) (ad : Nat → Nat) (U : State) (H : Heap) : Prop :=
  (∀ (j : Nat) (q : Nat × (Nat → Int32)), G.2.2[j]? = some q → va_T .int (ad (xi_o + j)) q.1 (fun t => .int (q.2 t)) A U H) ∧ ∀ (j : Nat) (z : String × String × String), zs[j]? = some z → va_Z z.1 z.2.1 z.2.2 (.ref (ad (xi_o + (j + 1)))) A U H
/-- the classes of the arrays -/
def xi_T (ca : Nat → ClassId) (σ : xiS) (U : State) : Prop := ∀ (k : Nat) (d : Nat × Nat), σ.1[k]? = some d → (d.1 = 1 → ArrOfT U (ca k) .int ∧ va_RA U (ca k) .int) ∧ (d.1 = 2 → ArrOfT U (ca k) .long ∧ va_RA U (ca k) .long)
def xi_F (σ : xiS) : Prop := (∀ k j q, k < σ.1.length → σ.2.1 k j = q + 1 → q < σ.1.length) ∧ σ.1.length < xi_o
def xi_R (cl : List vw_C) (G : xiG) (D : va_G) (s : State) (A : Nat → Prop) (ad : Nat → Nat) (ca : Nat → ClassId) (σ : xiS) (H : Heap) (locs : List Loc) : Prop :=
  va_P D cl (xi_ws G.2.1 ad ca σ) H ∧ va_D A (xi_ws G.2.1 ad ca σ) ∧ va_S A s.heap H locs ∧ xi_T ca σ s ∧ xi_F σ
def xi_ret (md : xiM) (pc : Nat) (r : Option Value) : Prop := match r with
  | none => decode md.1.2.2 pc = .ok (.return_, 1) ∧ md.2.1.2.1 = none
  | some (.int v) => decode md.1.2.2 pc = .ok (.ireturn, 1) ∧ (md.2.1.2.1 = some .int ∨ (md.2.1.2.1 = some .boolean ∧ (v = 0 ∨ v = 1)))
  | some (.long _) => decode md.1.2.2 pc = .ok (.lreturn, 1) ∧ md.2.1.2.1 = some .long
  | _ => False
/-- the machine keeps it: from every heap that holds the state, if every end that keeps Q goes on, this goes on -/
def xi_OK (T : List Cond) (cl : List vw_C) (zs : List (String × String × String)) (l : Launch) (G : xiG) : xiX := fun μ pc ls st σ nc ns Q =>
  ∀ (md : xiM), G.1[μ]? = some md → ∀ (p : Program) (e : Env) (s : State) (m : MethodId) (args : Array Value) (below : List Frame) (meth : Method) (c : Code) (R : Room) (Z : State → Prop) (D : va_G) (A : Nat → Prop) (ad : Nat → Nat) (ca : Nat → ClassId) (H : Heap) (locs : List Loc) (lsA : Array Slot),
    xi_C T cl G D p s m args meth c R md A → xi_O zs G A ad s s.heap → xi_R cl G D s A ad ca σ H locs → lv_has lsA md.2.1.1 (xi_l ad ls) →
    (∀ (r : Option Value) (σ' : xiS) (ad' : Nat → Nat) (ca' : Nat → ClassId) (H' : Heap) (locs' : List Loc) (nc' ns' pc' : Nat) (lsA' : Array Slot), Q r σ' → xi_R cl G D s A ad' ca' σ' H' locs' → xi_A σ ad σ' ad' → nc' ≤ md.2.2.1.2.2.1 → ns' ≤ md.2.2.1.2.2.2 → xi_ret md pc' r →
      W p l e R s m args below meth c H' locs' nc' ns' Z (F0 m pc' lsA' (r.toList.map (xi_v ad')))) →
    W p l e R s m args below meth c H locs nc ns Z (F0 m pc lsA (st.map (xi_v ad)))
end
section
/-! XI: the machine keeps each step -/
section XIS
variable {T : List Cond} {cl : List vw_C} {zs : List (String × String × String)} {tf : Nat → Nat → FieldType} {l : Launch} {G : xiG}
theorem xi_tgt_eq {pc : Nat} {off : Int} {tgt : Nat} (h : xi_tgt pc off = tgt) (hp : 0 ≤ (pc : Int) + off) : (pc : Int) + off = (tgt : Int) := by
  subst h
  unfold xi_tgt
  cases off with
  | ofNat k => simp
  | negSucc k => simp only; omega
theorem xi_sw_at {K : Nat → Prop} {pc : Nat} {x : Int32} : ∀ (offs : List Int) (k : Int), xi_sw K pc x k offs → ∀ (n : Nat) (off : Int), offs[n]? = some off → x.toInt = k + n → K (xi_tgt pc off)
  | [], _, _, n, off, h, _ => by cases h
  | o :: t, k, hs, n, off, h, hx => by
    cases n with
    | zero => cases h; exact hs.1 (by simpa using hx)
    | succ n => exact xi_sw_at t (k + 1) hs.2 n off h (by rw [hx]; simp; omega)
theorem xi_fits {k : Nat} {ty : FieldType} (h : xi_kt k ty = true) : (k = 0 ∧ ty = .int) ∨ (k = 1 ∧ ty = .boolean) ∨ (k = 2 ∧ ty = .long) ∨ (k = 3 ∧ ((∃ n, ty = .object n) ∨ ∃ t, ty = .array t)) := by
  unfold xi_kt at h
  split at h
  · exact Or.inl ⟨rfl, rfl⟩
  · exact Or.inr (Or.inl ⟨rfl, rfl⟩)
  · exact Or.inr (Or.inr (Or.inl ⟨rfl, rfl⟩))
  · exact Or.inr (Or.inr (Or.inr ⟨rfl, Or.inl ⟨_, rfl⟩⟩))
  · exact Or.inr (Or.inr (Or.inr ⟨rfl, Or.inr ⟨_, rfl⟩⟩))
  · cases h
theorem xi_bool {v : Int32} (h : v = 0 ∨ v = 1) : narrow .boolean (.int v) = .int v ∧ fits .boolean (.int v) = true := by
  rcases h with rfl | rfl <;> exact ⟨by decide, by decide⟩
theorem xi_getD {fk : List (List Nat)} {ad : Nat → Nat} {σ : xiS} {o ci j : Nat} (h : j < (fk.getD ci []).length) : ((List.range (fk.getD ci []).length).map (fun k => xi_v ad (xi_fld fk σ o ci k)))[j]? = some (xi_v ad (xi_fld fk σ o ci j)) := by
  rw [List.getElem?_map, List.getElem?_range h]
  rfl
theorem xi_K1 {D : va_G} {s : State} {cA : ClassId} {ty : FieldType} (h : ∀ (c : Nat) (q : vw_C), cl[c]? = some q → u_Kn s q.1 q.2.1 q.2.2 (D.1 c) (D.2 c)) (h2 : ArrOfT s cA ty ∧ va_RA s cA ty) : va_K D cl [(cA, ty)] s := by
  refine ⟨h, fun k q hq => ?_⟩
  cases k with
  | zero => cases hq; exact h2
  | succ k => cases hq
theorem xi_K0 {D : va_G} {s : State} (h : ∀ (c : Nat) (q : vw_C), cl[c]? = some q → u_Kn s q.1 q.2.1 q.2.2 (D.1 c) (D.2 c)) : va_K D cl [] s := ⟨h, fun k q hq => by cases hq⟩
theorem xi_upd {f : Nat → Nat → Int32} {a k : Nat} {x : Int32} : (xi_u f a k x) a = upd (f a) k x := by
  funext b
  simp [xi_u, upd]
theorem xi_updL {f : Nat → Nat → Int64} {a k : Nat} {x : Int64} : (xi_u f a k x) a = vp_updL (f a) k x := by
  funext b
  simp [xi_u, vp_updL]
theorem xi_une {α : Type} {f : Nat → Nat → α} {a b k : Nat} {x : α} (h : b ≠ a) : (xi_u f a k x) b = f b := by
  funext c
  simp [xi_u, h]
theorem xi_zne {α : Type} {f : Nat → Nat → α} {a b : Nat} {x : α} (h : b ≠ a) : (xi_z f a x) b = f b := by
  funext c
  simp [xi_z, h]
theorem xi_zeq {α : Type} {f : Nat → Nat → α} {a : Nat} {x : α} : (xi_z f a x) a = fun _ => x := by
  funext c
  simp [xi_z]
/-- the straight rows: no cell is touched -/
theorem xi_keep {X' : xiX} (hX' : ∀ μ pc ls st σ nc ns Q, X' μ pc ls st σ nc ns Q → xi_OK T cl zs l G μ pc ls st σ nc ns Q) {μ : Nat} {σ : xiS} {nc ns : Nat} {Q : xiQ} {md : xiM} (hmd : G.1[μ]? = some md) {p : Program} {e : Env} {s : State} {m : MethodId} {args : Array Value} {below : List Frame} {meth : Method} {c : Code} {R : Room} {Z : State → Prop} {D : va_G} {A : Nat → Prop} {ad : Nat → Nat} {ca : Nat → ClassId} {H : Heap} {locs : List Loc}
    (hC : xi_C T cl G D p s m args meth c R md A) (hO : xi_O zs G A ad s s.heap) (hR : xi_R cl G D s A ad ca σ H locs)
    (hret : ∀ (r : Option Value) (σ' : xiS) (ad' : Nat → Nat) (ca' : Nat → ClassId) (H' : Heap) (locs' : List Loc) (nc' ns' pc' : Nat) (lsA' : Array Slot), Q r σ' → xi_R cl G D s A ad' ca' σ' H' locs' → xi_A σ ad σ' ad' → nc' ≤ md.2.2.1.2.2.1 → ns' ≤ md.2.2.1.2.2.2 → xi_ret md pc' r →
      W p l e R s m args below meth c H' locs' nc' ns' Z (F0 m pc' lsA' (r.toList.map (xi_v ad'))))
    (pc : Nat) (ls : List (Option Value)) (st : List Value) (h : X' μ pc ls st σ nc ns Q) (lsA : Array Slot) (hl : lv_has lsA md.2.1.1 (xi_l ad ls)) : W p l e R s m args below meth c H locs nc ns Z (F0 m pc lsA (st.map (xi_v ad))) :=
  hX' μ pc ls st σ nc ns Q h md hmd p e s m args below meth c R Z D A ad ca H locs lsA hC hO hR hl hret
end XIS
end
section
section XIS2
variable {T : List Cond} {cl : List vw_C} {zs : List (String × String × String)} {tf : Nat → Nat → FieldType} {l : Launch} {G : xiG}
theorem xi_s_iconst {X' : xiX} (hX' : ∀ μ pc ls st σ nc ns Q, X' μ pc ls st σ nc ns Q → xi_OK T cl zs l G μ pc ls st σ nc ns Q) {μ pc : Nat} {ls : List (Option Value)} {st : List Value} {σ : xiS} {nc ns : Nat} {Q : xiQ} {md : xiM} (hmd : G.1[μ]? = some md) {p : Program} {e : Env} {s : State} {m : MethodId} {args : Array Value} {below : List Frame} {meth : Method} {c : Code} {R : Room} {Z : State → Prop} {D : va_G} {A : Nat → Prop} {ad : Nat → Nat} {ca : Nat → ClassId} {H : Heap} {locs : List Loc} {lsA : Array Slot}
    (hC : xi_C T cl G D p s m args meth c R md A) (hO : xi_O zs G A ad s s.heap) (hR : xi_R cl G D s A ad ca σ H locs) (hl : lv_has lsA md.2.1.1 (xi_l ad ls))
    (hret : ∀ (r : Option Value) (σ' : xiS) (ad' : Nat → Nat) (ca' : Nat → ClassId) (H' : Heap) (locs' : List Loc) (nc' ns' pc' : Nat) (lsA' : Array Slot), Q r σ' → xi_R cl G D s A ad' ca' σ' H' locs' → xi_A σ ad σ' ad' → nc' ≤ md.2.2.1.2.2.1 → ns' ≤ md.2.2.1.2.2.2 → xi_ret md pc' r →
      W p l e R s m args below meth c H' locs' nc' ns' Z (F0 m pc' lsA' (r.toList.map (xi_v ad'))))
    {n : Int} (hd : decode md.1.2.2 pc = .ok (.iconst n, 1)) (h : X' μ (pc + 1) ls (.int (Int32.ofInt n) :: st) σ nc ns Q) : W p l e R s m args below meth c H locs nc ns Z (F0 m pc lsA (st.map (xi_v ad))) := by
  obtain ⟨hx, hb, hml, hown, hts, hA, hKc, hfr, hlo, hce, hsl, hin⟩ := id hC
  exact lv_iconst hx hb hd rfl (xi_keep hX' hmd hC hO hR hret _ _ _ h _ hl)
theorem xi_s_bipush {X' : xiX} (hX' : ∀ μ pc ls st σ nc ns Q, X' μ pc ls st σ nc ns Q → xi_OK T cl zs l G μ pc ls st σ nc ns Q) {μ pc : Nat} {ls : List (Option Value)} {st : List Value} {σ : xiS} {nc ns : Nat} {Q : xiQ} {md : xiM} (hmd : G.1[μ]? = some md) {p : Program} {e : Env} {s : State} {m : MethodId} {args : Array Value} {below : List Frame} {meth : Method} {c : Code} {R : Room} {Z : State → Prop} {D : va_G} {A : Nat → Prop} {ad : Nat → Nat} {ca : Nat → ClassId} {H : Heap} {locs : List Loc} {lsA : Array Slot}
    (hC : xi_C T cl G D p s m args meth c R md A) (hO : xi_O zs G A ad s s.heap) (hR : xi_R cl G D s A ad ca σ H locs) (hl : lv_has lsA md.2.1.1 (xi_l ad ls))
    (hret : ∀ (r : Option Value) (σ' : xiS) (ad' : Nat → Nat) (ca' : Nat → ClassId) (H' : Heap) (locs' : List Loc) (nc' ns' pc' : Nat) (lsA' : Array Slot), Q r σ' → xi_R cl G D s A ad' ca' σ' H' locs' → xi_A σ ad σ' ad' → nc' ≤ md.2.2.1.2.2.1 → ns' ≤ md.2.2.1.2.2.2 → xi_ret md pc' r →
      W p l e R s m args below meth c H' locs' nc' ns' Z (F0 m pc' lsA' (r.toList.map (xi_v ad'))))
    {n : Int} (hd : decode md.1.2.2 pc = .ok (.bipush n, 2)) (h : X' μ (pc + 2) ls (.int (Int8.ofInt n).toInt32 :: st) σ nc ns Q) : W p l e R s m args below meth c H locs nc ns Z (F0 m pc lsA (st.map (xi_v ad))) := by
  obtain ⟨hx, hb, hml, hown, hts, hA, hKc, hfr, hlo, hce, hsl, hin⟩ := id hC
  exact lv_bipush hx hb hd rfl (xi_keep hX' hmd hC hO hR hret _ _ _ h _ hl)
theorem xi_s_sipush {X' : xiX} (hX' : ∀ μ pc ls st σ nc ns Q, X' μ pc ls st σ nc ns Q → xi_OK T cl zs l G μ pc ls st σ nc ns Q) {μ pc : Nat} {ls : List (Option Value)} {st : List Value} {σ : xiS} {nc ns : Nat} {Q : xiQ} {md : xiM} (hmd : G.1[μ]? = some md) {p : Program} {e : Env} {s : State} {m : MethodId} {args : Array Value} {below : List Frame} {meth : Method} {c : Code} {R : Room} {Z : State → Prop} {D : va_G} {A : Nat → Prop} {ad : Nat → Nat} {ca : Nat → ClassId} {H : Heap} {locs : List Loc} {lsA : Array Slot}
    (hC : xi_C T cl G D p s m args meth c R md A) (hO : xi_O zs G A ad s s.heap) (hR : xi_R cl G D s A ad ca σ H locs) (hl : lv_has lsA md.2.1.1 (xi_l ad ls))
    (hret : ∀ (r : Option Value) (σ' : xiS) (ad' : Nat → Nat) (ca' : Nat → ClassId) (H' : Heap) (locs' : List Loc) (nc' ns' pc' : Nat) (lsA' : Array Slot), Q r σ' → xi_R cl G D s A ad' ca' σ' H' locs' → xi_A σ ad σ' ad' → nc' ≤ md.2.2.1.2.2.1 → ns' ≤ md.2.2.1.2.2.2 → xi_ret md pc' r →
      W p l e R s m args below meth c H' locs' nc' ns' Z (F0 m pc' lsA' (r.toList.map (xi_v ad'))))
    {n : Int} (hd : decode md.1.2.2 pc = .ok (.sipush n, 3)) (h : X' μ (pc + 3) ls (.int (Int16.ofInt n).toInt32 :: st) σ nc ns Q) : W p l e R s m args below meth c H locs nc ns Z (F0 m pc lsA (st.map (xi_v ad))) := by
  obtain ⟨hx, hb, hml, hown, hts, hA, hKc, hfr, hlo, hce, hsl, hin⟩ := id hC
  exact lv_sipush hx hb hd rfl (xi_keep hX' hmd hC hO hR hret _ _ _ h _ hl)
theorem xi_s_lconst {X' : xiX} (hX' : ∀ μ pc ls st σ nc ns Q, X' μ pc ls st σ nc ns Q → xi_OK T cl zs l G μ pc ls st σ nc ns Q) {μ pc : Nat} {ls : List (Option Value)} {st : List Value} {σ : xiS} {nc ns : Nat} {Q : xiQ} {md : xiM} (hmd : G.1[μ]? = some md) {p : Program} {e : Env} {s : State} {m : MethodId} {args : Array Value} {below : List Frame} {meth : Method} {c : Code} {R : Room} {Z : State → Prop} {D : va_G} {A : Nat → Prop} {ad : Nat → Nat} {ca : Nat → ClassId} {H : Heap} {locs : List Loc} {lsA : Array Slot}
    (hC : xi_C T cl G D p s m args meth c R md A) (hO : xi_O zs G A ad s s.heap) (hR : xi_R cl G D s A ad ca σ H locs) (hl : lv_has lsA md.2.1.1 (xi_l ad ls))
    (hret : ∀ (r : Option Value) (σ' : xiS) (ad' : Nat → Nat) (ca' : Nat → ClassId) (H' : Heap) (locs' : List Loc) (nc' ns' pc' : Nat) (lsA' : Array Slot), Q r σ' → xi_R cl G D s A ad' ca' σ' H' locs' → xi_A σ ad σ' ad' → nc' ≤ md.2.2.1.2.2.1 → ns' ≤ md.2.2.1.2.2.2 → xi_ret md pc' r →
      W p l e R s m args below meth c H' locs' nc' ns' Z (F0 m pc' lsA' (r.toList.map (xi_v ad'))))
    {n : Fin 2} (hd : decode md.1.2.2 pc = .ok (.lconst n, 1)) (h : X' μ (pc + 1) ls (.long (Int64.ofNat (n : Nat)) :: st) σ nc ns Q) : W p l e R s m args below meth c H locs nc ns Z (F0 m pc lsA (st.map (xi_v ad))) := by
  obtain ⟨hx, hb, hml, hown, hts, hA, hKc, hfr, hlo, hce, hsl, hin⟩ := id hC
  exact lv_lconst hx hb hd rfl (xi_keep hX' hmd hC hO hR hret _ _ _ h _ hl)
theorem xi_s_ldc {X' : xiX} (hX' : ∀ μ pc ls st σ nc ns Q, X' μ pc ls st σ nc ns Q → xi_OK T cl zs l G μ pc ls st σ nc ns Q) {μ pc : Nat} {ls : List (Option Value)} {st : List Value} {σ : xiS} {nc ns : Nat} {Q : xiQ} {md : xiM} (hmd : G.1[μ]? = some md) {p : Program} {e : Env} {s : State} {m : MethodId} {args : Array Value} {below : List Frame} {meth : Method} {c : Code} {R : Room} {Z : State → Prop} {D : va_G} {A : Nat → Prop} {ad : Nat → Nat} {ca : Nat → ClassId} {H : Heap} {locs : List Loc} {lsA : Array Slot}
    (hC : xi_C T cl G D p s m args meth c R md A) (hO : xi_O zs G A ad s s.heap) (hR : xi_R cl G D s A ad ca σ H locs) (hl : lv_has lsA md.2.1.1 (xi_l ad ls))
    (hret : ∀ (r : Option Value) (σ' : xiS) (ad' : Nat → Nat) (ca' : Nat → ClassId) (H' : Heap) (locs' : List Loc) (nc' ns' pc' : Nat) (lsA' : Array Slot), Q r σ' → xi_R cl G D s A ad' ca' σ' H' locs' → xi_A σ ad σ' ad' → nc' ≤ md.2.2.1.2.2.1 → ns' ≤ md.2.2.1.2.2.2 → xi_ret md pc' r →
      W p l e R s m args below meth c H' locs' nc' ns' Z (F0 m pc' lsA' (r.toList.map (xi_v ad'))))
    {i : Nat} {x : Int32} (hd : decode md.1.2.2 pc = .ok (.ldc i, 2)) (hw : Cond.constant md.1.2.1.cls i x ∈ T) (h : X' μ (pc + 2) ls (.int x :: st) σ nc ns Q) : W p l e R s m args below meth c H locs nc ns Z (F0 m pc lsA (st.map (xi_v ad))) := by
  obtain ⟨hx, hb, hml, hown, hts, hA, hKc, hfr, hlo, hce, hsl, hin⟩ := id hC
  exact lv_ldc hx hb hown (hts _ hw) hd (xi_keep hX' hmd hC hO hR hret _ _ _ h _ hl)
theorem xi_s_ldcw {X' : xiX} (hX' : ∀ μ pc ls st σ nc ns Q, X' μ pc ls st σ nc ns Q → xi_OK T cl zs l G μ pc ls st σ nc ns Q) {μ pc : Nat} {ls : List (Option Value)} {st : List Value} {σ : xiS} {nc ns : Nat} {Q : xiQ} {md : xiM} (hmd : G.1[μ]? = some md) {p : Program} {e : Env} {s : State} {m : MethodId} {args : Array Value} {below : List Frame} {meth : Method} {c : Code} {R : Room} {Z : State → Prop} {D : va_G} {A : Nat → Prop} {ad : Nat → Nat} {ca : Nat → ClassId} {H : Heap} {locs : List Loc} {lsA : Array Slot}
    (hC : xi_C T cl G D p s m args meth c R md A) (hO : xi_O zs G A ad s s.heap) (hR : xi_R cl G D s A ad ca σ H locs) (hl : lv_has lsA md.2.1.1 (xi_l ad ls))
    (hret : ∀ (r : Option Value) (σ' : xiS) (ad' : Nat → Nat) (ca' : Nat → ClassId) (H' : Heap) (locs' : List Loc) (nc' ns' pc' : Nat) (lsA' : Array Slot), Q r σ' → xi_R cl G D s A ad' ca' σ' H' locs' → xi_A σ ad σ' ad' → nc' ≤ md.2.2.1.2.2.1 → ns' ≤ md.2.2.1.2.2.2 → xi_ret md pc' r →
      W p l e R s m args below meth c H' locs' nc' ns' Z (F0 m pc' lsA' (r.toList.map (xi_v ad'))))
    {i : Nat} {x : Int32} (hd : decode md.1.2.2 pc = .ok (.ldc_w i, 3)) (hw : Cond.constant md.1.2.1.cls i x ∈ T) (h : X' μ (pc + 3) ls (.int x :: st) σ nc ns Q) : W p l e R s m args below meth c H locs nc ns Z (F0 m pc lsA (st.map (xi_v ad))) := by
  obtain ⟨hx, hb, hml, hown, hts, hA, hKc, hfr, hlo, hce, hsl, hin⟩ := id hC
  exact lv_ldcw hx hb hown (hts _ hw) hd (xi_keep hX' hmd hC hO hR hret _ _ _ h _ hl)
theorem xi_s_ldc2 {X' : xiX} (hX' : ∀ μ pc ls st σ nc ns Q, X' μ pc ls st σ nc ns Q → xi_OK T cl zs l G μ pc ls st σ nc ns Q) {μ pc : Nat} {ls : List (Option Value)} {st : List Value} {σ : xiS} {nc ns : Nat} {Q : xiQ} {md : xiM} (hmd : G.1[μ]? = some md) {p : Program} {e : Env} {s : State} {m : MethodId} {args : Array Value} {below : List Frame} {meth : Method} {c : Code} {R : Room} {Z : State → Prop} {D : va_G} {A : Nat → Prop} {ad : Nat → Nat} {ca : Nat → ClassId} {H : Heap} {locs : List Loc} {lsA : Array Slot}
    (hC : xi_C T cl G D p s m args meth c R md A) (hO : xi_O zs G A ad s s.heap) (hR : xi_R cl G D s A ad ca σ H locs) (hl : lv_has lsA md.2.1.1 (xi_l ad ls))
    (hret : ∀ (r : Option Value) (σ' : xiS) (ad' : Nat → Nat) (ca' : Nat → ClassId) (H' : Heap) (locs' : List Loc) (nc' ns' pc' : Nat) (lsA' : Array Slot), Q r σ' → xi_R cl G D s A ad' ca' σ' H' locs' → xi_A σ ad σ' ad' → nc' ≤ md.2.2.1.2.2.1 → ns' ≤ md.2.2.1.2.2.2 → xi_ret md pc' r →
      W p l e R s m args below meth c H' locs' nc' ns' Z (F0 m pc' lsA' (r.toList.map (xi_v ad'))))
    {i : Nat} {x : Int64} (hd : decode md.1.2.2 pc = .ok (.ldc2_w i, 3)) (hw : Cond.constantLong md.1.2.1.cls i x ∈ T) (h : X' μ (pc + 3) ls (.long x :: st) σ nc ns Q) : W p l e R s m args below meth c H locs nc ns Z (F0 m pc lsA (st.map (xi_v ad))) := by
  obtain ⟨hx, hb, hml, hown, hts, hA, hKc, hfr, hlo, hce, hsl, hin⟩ := id hC
  exact lv_ldc2 hx hb hown (hts _ hw) hd (xi_keep hX' hmd hC hO hR hret _ _ _ h _ hl)
theorem xi_s_iload_n {X' : xiX} (hX' : ∀ μ pc ls st σ nc ns Q, X' μ pc ls st σ nc ns Q → xi_OK T cl zs l G μ pc ls st σ nc ns Q) {μ pc : Nat} {ls : List (Option Value)} {st : List Value} {σ : xiS} {nc ns : Nat} {Q : xiQ} {md : xiM} (hmd : G.1[μ]? = some md) {p : Program} {e : Env} {s : State} {m : MethodId} {args : Array Value} {below : List Frame} {meth : Method} {c : Code} {R : Room} {Z : State → Prop} {D : va_G} {A : Nat → Prop} {ad : Nat → Nat} {ca : Nat → ClassId} {H : Heap} {locs : List Loc} {lsA : Array Slot}
    (hC : xi_C T cl G D p s m args meth c R md A) (hO : xi_O zs G A ad s s.heap) (hR : xi_R cl G D s A ad ca σ H locs) (hl : lv_has lsA md.2.1.1 (xi_l ad ls))
    (hret : ∀ (r : Option Value) (σ' : xiS) (ad' : Nat → Nat) (ca' : Nat → ClassId) (H' : Heap) (locs' : List Loc) (nc' ns' pc' : Nat) (lsA' : Array Slot), Q r σ' → xi_R cl G D s A ad' ca' σ' H' locs' → xi_A σ ad σ' ad' → nc' ≤ md.2.2.1.2.2.1 → ns' ≤ md.2.2.1.2.2.2 → xi_ret md pc' r →
      W p l e R s m args below meth c H' locs' nc' ns' Z (F0 m pc' lsA' (r.toList.map (xi_v ad'))))
    {k : Fin 4} (hd : decode md.1.2.2 pc = .ok (.iload_n k, 1)) (h : xi_ld (fun v => match v with | .int x => X' μ (pc + 1) ls (.int x :: st) σ nc ns Q | _ => False) ls (k : Nat)) : W p l e R s m args below meth c H locs nc ns Z (F0 m pc lsA (st.map (xi_v ad))) := by
  obtain ⟨hx, hb, hml, hown, hts, hA, hKc, hfr, hlo, hce, hsl, hin⟩ := id hC
  obtain ⟨v, hv, h⟩ := xi_ld_of h
  split at h
  · exact lv_iload_n hx hb hd rfl (xi_at hl hv) (xi_keep hX' hmd hC hO hR hret _ _ _ h _ hl)
  · exact h.elim
theorem xi_s_iload {X' : xiX} (hX' : ∀ μ pc ls st σ nc ns Q, X' μ pc ls st σ nc ns Q → xi_OK T cl zs l G μ pc ls st σ nc ns Q) {μ pc : Nat} {ls : List (Option Value)} {st : List Value} {σ : xiS} {nc ns : Nat} {Q : xiQ} {md : xiM} (hmd : G.1[μ]? = some md) {p : Program} {e : Env} {s : State} {m : MethodId} {args : Array Value} {below : List Frame} {meth : Method} {c : Code} {R : Room} {Z : State → Prop} {D : va_G} {A : Nat → Prop} {ad : Nat → Nat} {ca : Nat → ClassId} {H : Heap} {locs : List Loc} {lsA : Array Slot}
    (hC : xi_C T cl G D p s m args meth c R md A) (hO : xi_O zs G A ad s s.heap) (hR : xi_R cl G D s A ad ca σ H locs) (hl : lv_has lsA md.2.1.1 (xi_l ad ls))
    (hret : ∀ (r : Option Value) (σ' : xiS) (ad' : Nat → Nat) (ca' : Nat → ClassId) (H' : Heap) (locs' : List Loc) (nc' ns' pc' : Nat) (lsA' : Array Slot), Q r σ' → xi_R cl G D s A ad' ca' σ' H' locs' → xi_A σ ad σ' ad' → nc' ≤ md.2.2.1.2.2.1 → ns' ≤ md.2.2.1.2.2.2 → xi_ret md pc' r →
      W p l e R s m args below meth c H' locs' nc' ns' Z (F0 m pc' lsA' (r.toList.map (xi_v ad'))))
    {k : Nat} (hd : decode md.1.2.2 pc = .ok (.iload k, 2)) (h : xi_ld (fun v => match v with | .int x => X' μ (pc + 2) ls (.int x :: st) σ nc ns Q | _ => False) ls k) : W p l e R s m args below meth c H locs nc ns Z (F0 m pc lsA (st.map (xi_v ad))) := by
  obtain ⟨hx, hb, hml, hown, hts, hA, hKc, hfr, hlo, hce, hsl, hin⟩ := id hC
  obtain ⟨v, hv, h⟩ := xi_ld_of h
  split at h
  · exact lv_iload hx hb hd (xi_at hl hv) (xi_keep hX' hmd hC hO hR hret _ _ _ h _ hl)
  · exact h.elim
theorem xi_s_lload_n {X' : xiX} (hX' : ∀ μ pc ls st σ nc ns Q, X' μ pc ls st σ nc ns Q → xi_OK T cl zs l G μ pc ls st σ nc ns Q) {μ pc : Nat} {ls : List (Option Value)} {st : List Value} {σ : xiS} {nc ns : Nat} {Q : xiQ} {md : xiM} (hmd : G.1[μ]? = some md) {p : Program} {e : Env} {s : State} {m : MethodId} {args : Array Value} {below : List Frame} {meth : Method} {c : Code} {R : Room} {Z : State → Prop} {D : va_G} {A : Nat → Prop} {ad : Nat → Nat} {ca : Nat → ClassId} {H : Heap} {locs : List Loc} {lsA : Array Slot}
    (hC : xi_C T cl G D p s m args meth c R md A) (hO : xi_O zs G A ad s s.heap) (hR : xi_R cl G D s A ad ca σ H locs) (hl : lv_has lsA md.2.1.1 (xi_l ad ls))
    (hret : ∀ (r : Option Value) (σ' : xiS) (ad' : Nat → Nat) (ca' : Nat → ClassId) (H' : Heap) (locs' : List Loc) (nc' ns' pc' : Nat) (lsA' : Array Slot), Q r σ' → xi_R cl G D s A ad' ca' σ' H' locs' → xi_A σ ad σ' ad' → nc' ≤ md.2.2.1.2.2.1 → ns' ≤ md.2.2.1.2.2.2 → xi_ret md pc' r →
      W p l e R s m args below meth c H' locs' nc' ns' Z (F0 m pc' lsA' (r.toList.map (xi_v ad'))))
    {k : Fin 4} (hd : decode md.1.2.2 pc = .ok (.lload_n k, 1)) (h : xi_ld (fun v => match v with | .long x => X' μ (pc + 1) ls (.long x :: st) σ nc ns Q | _ => False) ls (k : Nat)) : W p l e R s m args below meth c H locs nc ns Z (F0 m pc lsA (st.map (xi_v ad))) := by
  obtain ⟨hx, hb, hml, hown, hts, hA, hKc, hfr, hlo, hce, hsl, hin⟩ := id hC
  obtain ⟨v, hv, h⟩ := xi_ld_of h
  split at h
  · exact lv_lload_n hx hb hd rfl (xi_at hl hv) (xi_keep hX' hmd hC hO hR hret _ _ _ h _ hl)
  · exact h.elim
theorem xi_s_lload {X' : xiX} (hX' : ∀ μ pc ls st σ nc ns Q, X' μ pc ls st σ nc ns Q → xi_OK T cl zs l G μ pc ls st σ nc ns Q) {μ pc : Nat} {ls : List (Option Value)} {st : List Value} {σ : xiS} {nc ns : Nat} {Q : xiQ} {md : xiM} (hmd : G.1[μ]? = some md) {p : Program} {e : Env} {s : State} {m : MethodId} {args : Array Value} {below : List Frame} {meth : Method} {c : Code} {R : Room} {Z : State → Prop} {D : va_G} {A : Nat → Prop} {ad : Nat → Nat} {ca : Nat → ClassId} {H : Heap} {locs : List Loc} {lsA : Array Slot}
    (hC : xi_C T cl G D p s m args meth c R md A) (hO : xi_O zs G A ad s s.heap) (hR : xi_R cl G D s A ad ca σ H locs) (hl : lv_has lsA md.2.1.1 (xi_l ad ls))
    (hret : ∀ (r : Option Value) (σ' : xiS) (ad' : Nat → Nat) (ca' : Nat → ClassId) (H' : Heap) (locs' : List Loc) (nc' ns' pc' : Nat) (lsA' : Array Slot), Q r σ' → xi_R cl G D s A ad' ca' σ' H' locs' → xi_A σ ad σ' ad' → nc' ≤ md.2.2.1.2.2.1 → ns' ≤ md.2.2.1.2.2.2 → xi_ret md pc' r →
      W p l e R s m args below meth c H' locs' nc' ns' Z (F0 m pc' lsA' (r.toList.map (xi_v ad'))))
    {k : Nat} (hd : decode md.1.2.2 pc = .ok (.lload k, 2)) (h : xi_ld (fun v => match v with | .long x => X' μ (pc + 2) ls (.long x :: st) σ nc ns Q | _ => False) ls k) : W p l e R s m args below meth c H locs nc ns Z (F0 m pc lsA (st.map (xi_v ad))) := by
  obtain ⟨hx, hb, hml, hown, hts, hA, hKc, hfr, hlo, hce, hsl, hin⟩ := id hC
  obtain ⟨v, hv, h⟩ := xi_ld_of h
  split at h
  · exact lv_lload hx hb hd (xi_at hl hv) (xi_keep hX' hmd hC hO hR hret _ _ _ h _ hl)
  · exact h.elim
theorem xi_s_aload_n {X' : xiX} (hX' : ∀ μ pc ls st σ nc ns Q, X' μ pc ls st σ nc ns Q → xi_OK T cl zs l G μ pc ls st σ nc ns Q) {μ pc : Nat} {ls : List (Option Value)} {st : List Value} {σ : xiS} {nc ns : Nat} {Q : xiQ} {md : xiM} (hmd : G.1[μ]? = some md) {p : Program} {e : Env} {s : State} {m : MethodId} {args : Array Value} {below : List Frame} {meth : Method} {c : Code} {R : Room} {Z : State → Prop} {D : va_G} {A : Nat → Prop} {ad : Nat → Nat} {ca : Nat → ClassId} {H : Heap} {locs : List Loc} {lsA : Array Slot}
    (hC : xi_C T cl G D p s m args meth c R md A) (hO : xi_O zs G A ad s s.heap) (hR : xi_R cl G D s A ad ca σ H locs) (hl : lv_has lsA md.2.1.1 (xi_l ad ls))
    (hret : ∀ (r : Option Value) (σ' : xiS) (ad' : Nat → Nat) (ca' : Nat → ClassId) (H' : Heap) (locs' : List Loc) (nc' ns' pc' : Nat) (lsA' : Array Slot), Q r σ' → xi_R cl G D s A ad' ca' σ' H' locs' → xi_A σ ad σ' ad' → nc' ≤ md.2.2.1.2.2.1 → ns' ≤ md.2.2.1.2.2.2 → xi_ret md pc' r →
      W p l e R s m args below meth c H' locs' nc' ns' Z (F0 m pc' lsA' (r.toList.map (xi_v ad'))))
    {k : Fin 4} (hd : decode md.1.2.2 pc = .ok (.aload_n k, 1)) (h : xi_ld (fun v => match v with | .ref x => X' μ (pc + 1) ls (.ref x :: st) σ nc ns Q | _ => False) ls (k : Nat)) : W p l e R s m args below meth c H locs nc ns Z (F0 m pc lsA (st.map (xi_v ad))) := by
  obtain ⟨hx, hb, hml, hown, hts, hA, hKc, hfr, hlo, hce, hsl, hin⟩ := id hC
  obtain ⟨v, hv, h⟩ := xi_ld_of h
  split at h
  · exact lv_aload_n hx hb hd rfl (xi_at hl hv) (xi_keep hX' hmd hC hO hR hret _ _ _ h _ hl)
  · exact h.elim
theorem xi_s_aload {X' : xiX} (hX' : ∀ μ pc ls st σ nc ns Q, X' μ pc ls st σ nc ns Q → xi_OK T cl zs l G μ pc ls st σ nc ns Q) {μ pc : Nat} {ls : List (Option Value)} {st : List Value} {σ : xiS} {nc ns : Nat} {Q : xiQ} {md : xiM} (hmd : G.1[μ]? = some md) {p : Program} {e : Env} {s : State} {m : MethodId} {args : Array Value} {below : List Frame} {meth : Method} {c : Code} {R : Room} {Z : State → Prop} {D : va_G} {A : Nat → Prop} {ad : Nat → Nat} {ca : Nat → ClassId} {H : Heap} {locs : List Loc} {lsA : Array Slot}
    (hC : xi_C T cl G D p s m args meth c R md A) (hO : xi_O zs G A ad s s.heap) (hR : xi_R cl G D s A ad ca σ H locs) (hl : lv_has lsA md.2.1.1 (xi_l ad ls))
    (hret : ∀ (r : Option Value) (σ' : xiS) (ad' : Nat → Nat) (ca' : Nat → ClassId) (H' : Heap) (locs' : List Loc) (nc' ns' pc' : Nat) (lsA' : Array Slot), Q r σ' → xi_R cl G D s A ad' ca' σ' H' locs' → xi_A σ ad σ' ad' → nc' ≤ md.2.2.1.2.2.1 → ns' ≤ md.2.2.1.2.2.2 → xi_ret md pc' r →
      W p l e R s m args below meth c H' locs' nc' ns' Z (F0 m pc' lsA' (r.toList.map (xi_v ad'))))
    {k : Nat} (hd : decode md.1.2.2 pc = .ok (.aload k, 2)) (h : xi_ld (fun v => match v with | .ref x => X' μ (pc + 2) ls (.ref x :: st) σ nc ns Q | _ => False) ls k) : W p l e R s m args below meth c H locs nc ns Z (F0 m pc lsA (st.map (xi_v ad))) := by
  obtain ⟨hx, hb, hml, hown, hts, hA, hKc, hfr, hlo, hce, hsl, hin⟩ := id hC
  obtain ⟨v, hv, h⟩ := xi_ld_of h
  split at h
  · exact lv_aload hx hb hd (xi_at hl hv) (xi_keep hX' hmd hC hO hR hret _ _ _ h _ hl)
  · exact h.elim
theorem xi_s_istore_n {X' : xiX} (hX' : ∀ μ pc ls st σ nc ns Q, X' μ pc ls st σ nc ns Q → xi_OK T cl zs l G μ pc ls st σ nc ns Q) {μ pc : Nat} {ls : List (Option Value)} {st : List Value} {σ : xiS} {nc ns : Nat} {Q : xiQ} {md : xiM} (hmd : G.1[μ]? = some md) {p : Program} {e : Env} {s : State} {m : MethodId} {args : Array Value} {below : List Frame} {meth : Method} {c : Code} {R : Room} {Z : State → Prop} {D : va_G} {A : Nat → Prop} {ad : Nat → Nat} {ca : Nat → ClassId} {H : Heap} {locs : List Loc} {lsA : Array Slot}
    (hC : xi_C T cl G D p s m args meth c R md A) (hO : xi_O zs G A ad s s.heap) (hR : xi_R cl G D s A ad ca σ H locs) (hl : lv_has lsA md.2.1.1 (xi_l ad ls))
    (hret : ∀ (r : Option Value) (σ' : xiS) (ad' : Nat → Nat) (ca' : Nat → ClassId) (H' : Heap) (locs' : List Loc) (nc' ns' pc' : Nat) (lsA' : Array Slot), Q r σ' → xi_R cl G D s A ad' ca' σ' H' locs' → xi_A σ ad σ' ad' → nc' ≤ md.2.2.1.2.2.1 → ns' ≤ md.2.2.1.2.2.2 → xi_ret md pc' r →
      W p l e R s m args below meth c H' locs' nc' ns' Z (F0 m pc' lsA' (r.toList.map (xi_v ad'))))
    {k : Fin 4} (hd : decode md.1.2.2 pc = .ok (.istore_n k, 1)) (h : xi_I1 (fun x t => xi_b (Nat.blt ((k : Nat)) md.2.1.1) (X' μ (pc + 1) (xi_s1 ls (k : Nat) (.int x)) t σ nc ns Q)) st) : W p l e R s m args below meth c H locs nc ns Z (F0 m pc lsA (st.map (xi_v ad))) := by
  obtain ⟨hx, hb, hml, hown, hts, hA, hKc, hfr, hlo, hce, hsl, hin⟩ := id hC
  obtain ⟨x, t, rfl, h⟩ := xi_I1_of h
  obtain ⟨hn, h⟩ := xi_b_of h
  exact lv_istore_n hx hb hd rfl hl (Nat.blt_eq.mp hn) rfl (fun ls2 hl2 => xi_keep hX' hmd hC hO hR hret _ _ _ h _ (xi_store1 rfl hl2))
theorem xi_s_istore {X' : xiX} (hX' : ∀ μ pc ls st σ nc ns Q, X' μ pc ls st σ nc ns Q → xi_OK T cl zs l G μ pc ls st σ nc ns Q) {μ pc : Nat} {ls : List (Option Value)} {st : List Value} {σ : xiS} {nc ns : Nat} {Q : xiQ} {md : xiM} (hmd : G.1[μ]? = some md) {p : Program} {e : Env} {s : State} {m : MethodId} {args : Array Value} {below : List Frame} {meth : Method} {c : Code} {R : Room} {Z : State → Prop} {D : va_G} {A : Nat → Prop} {ad : Nat → Nat} {ca : Nat → ClassId} {H : Heap} {locs : List Loc} {lsA : Array Slot}
    (hC : xi_C T cl G D p s m args meth c R md A) (hO : xi_O zs G A ad s s.heap) (hR : xi_R cl G D s A ad ca σ H locs) (hl : lv_has lsA md.2.1.1 (xi_l ad ls))
    (hret : ∀ (r : Option Value) (σ' : xiS) (ad' : Nat → Nat) (ca' : Nat → ClassId) (H' : Heap) (locs' : List Loc) (nc' ns' pc' : Nat) (lsA' : Array Slot), Q r σ' → xi_R cl G D s A ad' ca' σ' H' locs' → xi_A σ ad σ' ad' → nc' ≤ md.2.2.1.2.2.1 → ns' ≤ md.2.2.1.2.2.2 → xi_ret md pc' r →
      W p l e R s m args below meth c H' locs' nc' ns' Z (F0 m pc' lsA' (r.toList.map (xi_v ad'))))
    {k : Nat} (hd : decode md.1.2.2 pc = .ok (.istore k, 2)) (h : xi_I1 (fun x t => xi_b (Nat.blt (k) md.2.1.1) (X' μ (pc + 2) (xi_s1 ls k (.int x)) t σ nc ns Q)) st) : W p l e R s m args below meth c H locs nc ns Z (F0 m pc lsA (st.map (xi_v ad))) := by
  obtain ⟨hx, hb, hml, hown, hts, hA, hKc, hfr, hlo, hce, hsl, hin⟩ := id hC
  obtain ⟨x, t, rfl, h⟩ := xi_I1_of h
  obtain ⟨hn, h⟩ := xi_b_of h
  exact lv_istore hx hb hd hl (Nat.blt_eq.mp hn) rfl (fun ls2 hl2 => xi_keep hX' hmd hC hO hR hret _ _ _ h _ (xi_store1 rfl hl2))
theorem xi_s_lstore_n {X' : xiX} (hX' : ∀ μ pc ls st σ nc ns Q, X' μ pc ls st σ nc ns Q → xi_OK T cl zs l G μ pc ls st σ nc ns Q) {μ pc : Nat} {ls : List (Option Value)} {st : List Value} {σ : xiS} {nc ns : Nat} {Q : xiQ} {md : xiM} (hmd : G.1[μ]? = some md) {p : Program} {e : Env} {s : State} {m : MethodId} {args : Array Value} {below : List Frame} {meth : Method} {c : Code} {R : Room} {Z : State → Prop} {D : va_G} {A : Nat → Prop} {ad : Nat → Nat} {ca : Nat → ClassId} {H : Heap} {locs : List Loc} {lsA : Array Slot}
    (hC : xi_C T cl G D p s m args meth c R md A) (hO : xi_O zs G A ad s s.heap) (hR : xi_R cl G D s A ad ca σ H locs) (hl : lv_has lsA md.2.1.1 (xi_l ad ls))
    (hret : ∀ (r : Option Value) (σ' : xiS) (ad' : Nat → Nat) (ca' : Nat → ClassId) (H' : Heap) (locs' : List Loc) (nc' ns' pc' : Nat) (lsA' : Array Slot), Q r σ' → xi_R cl G D s A ad' ca' σ' H' locs' → xi_A σ ad σ' ad' → nc' ≤ md.2.2.1.2.2.1 → ns' ≤ md.2.2.1.2.2.2 → xi_ret md pc' r →
      W p l e R s m args below meth c H' locs' nc' ns' Z (F0 m pc' lsA' (r.toList.map (xi_v ad'))))
    {k : Fin 4} (hd : decode md.1.2.2 pc = .ok (.lstore_n k, 1)) (h : xi_L1 (fun x t => xi_b (Nat.blt ((k : Nat) + 1) md.2.1.1) (X' μ (pc + 1) (xi_s2 ls (k : Nat) (.long x)) t σ nc ns Q)) st) : W p l e R s m args below meth c H locs nc ns Z (F0 m pc lsA (st.map (xi_v ad))) := by
  obtain ⟨hx, hb, hml, hown, hts, hA, hKc, hfr, hlo, hce, hsl, hin⟩ := id hC
  obtain ⟨x, t, rfl, h⟩ := xi_L1_of h
  obtain ⟨hn, h⟩ := xi_b_of h
  exact lv_lstore_n hx hb hd rfl hl (Nat.blt_eq.mp hn) rfl (fun ls2 hl2 => xi_keep hX' hmd hC hO hR hret _ _ _ h _ (xi_store2 rfl hl2))
theorem xi_s_lstore {X' : xiX} (hX' : ∀ μ pc ls st σ nc ns Q, X' μ pc ls st σ nc ns Q → xi_OK T cl zs l G μ pc ls st σ nc ns Q) {μ pc : Nat} {ls : List (Option Value)} {st : List Value} {σ : xiS} {nc ns : Nat} {Q : xiQ} {md : xiM} (hmd : G.1[μ]? = some md) {p : Program} {e : Env} {s : State} {m : MethodId} {args : Array Value} {below : List Frame} {meth : Method} {c : Code} {R : Room} {Z : State → Prop} {D : va_G} {A : Nat → Prop} {ad : Nat → Nat} {ca : Nat → ClassId} {H : Heap} {locs : List Loc} {lsA : Array Slot}
    (hC : xi_C T cl G D p s m args meth c R md A) (hO : xi_O zs G A ad s s.heap) (hR : xi_R cl G D s A ad ca σ H locs) (hl : lv_has lsA md.2.1.1 (xi_l ad ls))
    (hret : ∀ (r : Option Value) (σ' : xiS) (ad' : Nat → Nat) (ca' : Nat → ClassId) (H' : Heap) (locs' : List Loc) (nc' ns' pc' : Nat) (lsA' : Array Slot), Q r σ' → xi_R cl G D s A ad' ca' σ' H' locs' → xi_A σ ad σ' ad' → nc' ≤ md.2.2.1.2.2.1 → ns' ≤ md.2.2.1.2.2.2 → xi_ret md pc' r →
      W p l e R s m args below meth c H' locs' nc' ns' Z (F0 m pc' lsA' (r.toList.map (xi_v ad'))))
    {k : Nat} (hd : decode md.1.2.2 pc = .ok (.lstore k, 2)) (h : xi_L1 (fun x t => xi_b (Nat.blt (k + 1) md.2.1.1) (X' μ (pc + 2) (xi_s2 ls k (.long x)) t σ nc ns Q)) st) : W p l e R s m args below meth c H locs nc ns Z (F0 m pc lsA (st.map (xi_v ad))) := by
  obtain ⟨hx, hb, hml, hown, hts, hA, hKc, hfr, hlo, hce, hsl, hin⟩ := id hC
  obtain ⟨x, t, rfl, h⟩ := xi_L1_of h
  obtain ⟨hn, h⟩ := xi_b_of h
  exact lv_lstore hx hb hd hl (Nat.blt_eq.mp hn) rfl (fun ls2 hl2 => xi_keep hX' hmd hC hO hR hret _ _ _ h _ (xi_store2 rfl hl2))
theorem xi_s_astore_n {X' : xiX} (hX' : ∀ μ pc ls st σ nc ns Q, X' μ pc ls st σ nc ns Q → xi_OK T cl zs l G μ pc ls st σ nc ns Q) {μ pc : Nat} {ls : List (Option Value)} {st : List Value} {σ : xiS} {nc ns : Nat} {Q : xiQ} {md : xiM} (hmd : G.1[μ]? = some md) {p : Program} {e : Env} {s : State} {m : MethodId} {args : Array Value} {below : List Frame} {meth : Method} {c : Code} {R : Room} {Z : State → Prop} {D : va_G} {A : Nat → Prop} {ad : Nat → Nat} {ca : Nat → ClassId} {H : Heap} {locs : List Loc} {lsA : Array Slot}
    (hC : xi_C T cl G D p s m args meth c R md A) (hO : xi_O zs G A ad s s.heap) (hR : xi_R cl G D s A ad ca σ H locs) (hl : lv_has lsA md.2.1.1 (xi_l ad ls))
    (hret : ∀ (r : Option Value) (σ' : xiS) (ad' : Nat → Nat) (ca' : Nat → ClassId) (H' : Heap) (locs' : List Loc) (nc' ns' pc' : Nat) (lsA' : Array Slot), Q r σ' → xi_R cl G D s A ad' ca' σ' H' locs' → xi_A σ ad σ' ad' → nc' ≤ md.2.2.1.2.2.1 → ns' ≤ md.2.2.1.2.2.2 → xi_ret md pc' r →
      W p l e R s m args below meth c H' locs' nc' ns' Z (F0 m pc' lsA' (r.toList.map (xi_v ad'))))
    {k : Fin 4} {x : Nat} {t : List Value} (hst : st = .ref x :: t) (hd : decode md.1.2.2 pc = .ok (.astore_n k, 1)) (h : xi_b (Nat.blt (k : Nat) md.2.1.1) (X' μ (pc + 1) (xi_s1 ls (k : Nat) (.ref x)) t σ nc ns Q)) : W p l e R s m args below meth c H locs nc ns Z (F0 m pc lsA (st.map (xi_v ad))) := by
  obtain ⟨hx, hb, hml, hown, hts, hA, hKc, hfr, hlo, hce, hsl, hin⟩ := id hC
  subst hst
  obtain ⟨hn, h⟩ := xi_b_of h
  exact lv_astore_n hx hb hd rfl hl (Nat.blt_eq.mp hn) rfl (fun ls2 hl2 => xi_keep hX' hmd hC hO hR hret _ _ _ h _ (xi_store1 rfl hl2))
theorem xi_s_iinc {X' : xiX} (hX' : ∀ μ pc ls st σ nc ns Q, X' μ pc ls st σ nc ns Q → xi_OK T cl zs l G μ pc ls st σ nc ns Q) {μ pc : Nat} {ls : List (Option Value)} {st : List Value} {σ : xiS} {nc ns : Nat} {Q : xiQ} {md : xiM} (hmd : G.1[μ]? = some md) {p : Program} {e : Env} {s : State} {m : MethodId} {args : Array Value} {below : List Frame} {meth : Method} {c : Code} {R : Room} {Z : State → Prop} {D : va_G} {A : Nat → Prop} {ad : Nat → Nat} {ca : Nat → ClassId} {H : Heap} {locs : List Loc} {lsA : Array Slot}
    (hC : xi_C T cl G D p s m args meth c R md A) (hO : xi_O zs G A ad s s.heap) (hR : xi_R cl G D s A ad ca σ H locs) (hl : lv_has lsA md.2.1.1 (xi_l ad ls))
    (hret : ∀ (r : Option Value) (σ' : xiS) (ad' : Nat → Nat) (ca' : Nat → ClassId) (H' : Heap) (locs' : List Loc) (nc' ns' pc' : Nat) (lsA' : Array Slot), Q r σ' → xi_R cl G D s A ad' ca' σ' H' locs' → xi_A σ ad σ' ad' → nc' ≤ md.2.2.1.2.2.1 → ns' ≤ md.2.2.1.2.2.2 → xi_ret md pc' r →
      W p l e R s m args below meth c H' locs' nc' ns' Z (F0 m pc' lsA' (r.toList.map (xi_v ad'))))
    {k : Nat} {n : Int} (hd : decode md.1.2.2 pc = .ok (.iinc k n, 3)) (h : xi_ld (fun v => match v with | .int x => xi_b (Nat.blt k md.2.1.1) (X' μ (pc + 3) (xi_s1 ls k (.int (x + Int32.ofInt n))) st σ nc ns Q) | _ => False) ls k) : W p l e R s m args below meth c H locs nc ns Z (F0 m pc lsA (st.map (xi_v ad))) := by
  obtain ⟨hx, hb, hml, hown, hts, hA, hKc, hfr, hlo, hce, hsl, hin⟩ := id hC
  obtain ⟨v, hv, h⟩ := xi_ld_of h
  split at h
  · rename_i x
    obtain ⟨hn, h⟩ := xi_b_of h
    obtain ⟨j, hj⟩ := List.getElem?_of_mem (xi_l_mem (ad := ad) (q := (k, .int x)).mpr ⟨.int x, hv, rfl⟩)
    exact lv_iinc hx hb hd hl hj rfl (Nat.blt_eq.mp hn) rfl (fun ls2 hl2 => xi_keep hX' hmd hC hO hR hret _ _ _ h _ (xi_store1 rfl hl2))
  · exact h.elim
theorem xi_s_iadd {X' : xiX} (hX' : ∀ μ pc ls st σ nc ns Q, X' μ pc ls st σ nc ns Q → xi_OK T cl zs l G μ pc ls st σ nc ns Q) {μ pc : Nat} {ls : List (Option Value)} {st : List Value} {σ : xiS} {nc ns : Nat} {Q : xiQ} {md : xiM} (hmd : G.1[μ]? = some md) {p : Program} {e : Env} {s : State} {m : MethodId} {args : Array Value} {below : List Frame} {meth : Method} {c : Code} {R : Room} {Z : State → Prop} {D : va_G} {A : Nat → Prop} {ad : Nat → Nat} {ca : Nat → ClassId} {H : Heap} {locs : List Loc} {lsA : Array Slot}
    (hC : xi_C T cl G D p s m args meth c R md A) (hO : xi_O zs G A ad s s.heap) (hR : xi_R cl G D s A ad ca σ H locs) (hl : lv_has lsA md.2.1.1 (xi_l ad ls))
    (hret : ∀ (r : Option Value) (σ' : xiS) (ad' : Nat → Nat) (ca' : Nat → ClassId) (H' : Heap) (locs' : List Loc) (nc' ns' pc' : Nat) (lsA' : Array Slot), Q r σ' → xi_R cl G D s A ad' ca' σ' H' locs' → xi_A σ ad σ' ad' → nc' ≤ md.2.2.1.2.2.1 → ns' ≤ md.2.2.1.2.2.2 → xi_ret md pc' r →
      W p l e R s m args below meth c H' locs' nc' ns' Z (F0 m pc' lsA' (r.toList.map (xi_v ad'))))
    (hd : decode md.1.2.2 pc = .ok (.iadd, 1)) (h : xi_I2 (fun x y t => X' μ (pc + 1) ls (.int (x + y) :: t) σ nc ns Q) st) : W p l e R s m args below meth c H locs nc ns Z (F0 m pc lsA (st.map (xi_v ad))) := by
  obtain ⟨hx, hb, hml, hown, hts, hA, hKc, hfr, hlo, hce, hsl, hin⟩ := id hC
  obtain ⟨x, y, t, rfl, h⟩ := xi_I2_of h
  exact lv_iadd hx hb hd (xi_keep hX' hmd hC hO hR hret _ _ _ h _ hl)
theorem xi_s_isub {X' : xiX} (hX' : ∀ μ pc ls st σ nc ns Q, X' μ pc ls st σ nc ns Q → xi_OK T cl zs l G μ pc ls st σ nc ns Q) {μ pc : Nat} {ls : List (Option Value)} {st : List Value} {σ : xiS} {nc ns : Nat} {Q : xiQ} {md : xiM} (hmd : G.1[μ]? = some md) {p : Program} {e : Env} {s : State} {m : MethodId} {args : Array Value} {below : List Frame} {meth : Method} {c : Code} {R : Room} {Z : State → Prop} {D : va_G} {A : Nat → Prop} {ad : Nat → Nat} {ca : Nat → ClassId} {H : Heap} {locs : List Loc} {lsA : Array Slot}
    (hC : xi_C T cl G D p s m args meth c R md A) (hO : xi_O zs G A ad s s.heap) (hR : xi_R cl G D s A ad ca σ H locs) (hl : lv_has lsA md.2.1.1 (xi_l ad ls))
    (hret : ∀ (r : Option Value) (σ' : xiS) (ad' : Nat → Nat) (ca' : Nat → ClassId) (H' : Heap) (locs' : List Loc) (nc' ns' pc' : Nat) (lsA' : Array Slot), Q r σ' → xi_R cl G D s A ad' ca' σ' H' locs' → xi_A σ ad σ' ad' → nc' ≤ md.2.2.1.2.2.1 → ns' ≤ md.2.2.1.2.2.2 → xi_ret md pc' r →
      W p l e R s m args below meth c H' locs' nc' ns' Z (F0 m pc' lsA' (r.toList.map (xi_v ad'))))
    (hd : decode md.1.2.2 pc = .ok (.isub, 1)) (h : xi_I2 (fun x y t => X' μ (pc + 1) ls (.int (x - y) :: t) σ nc ns Q) st) : W p l e R s m args below meth c H locs nc ns Z (F0 m pc lsA (st.map (xi_v ad))) := by
  obtain ⟨hx, hb, hml, hown, hts, hA, hKc, hfr, hlo, hce, hsl, hin⟩ := id hC
  obtain ⟨x, y, t, rfl, h⟩ := xi_I2_of h
  exact lv_isub hx hb hd (xi_keep hX' hmd hC hO hR hret _ _ _ h _ hl)
theorem xi_s_imul {X' : xiX} (hX' : ∀ μ pc ls st σ nc ns Q, X' μ pc ls st σ nc ns Q → xi_OK T cl zs l G μ pc ls st σ nc ns Q) {μ pc : Nat} {ls : List (Option Value)} {st : List Value} {σ : xiS} {nc ns : Nat} {Q : xiQ} {md : xiM} (hmd : G.1[μ]? = some md) {p : Program} {e : Env} {s : State} {m : MethodId} {args : Array Value} {below : List Frame} {meth : Method} {c : Code} {R : Room} {Z : State → Prop} {D : va_G} {A : Nat → Prop} {ad : Nat → Nat} {ca : Nat → ClassId} {H : Heap} {locs : List Loc} {lsA : Array Slot}
    (hC : xi_C T cl G D p s m args meth c R md A) (hO : xi_O zs G A ad s s.heap) (hR : xi_R cl G D s A ad ca σ H locs) (hl : lv_has lsA md.2.1.1 (xi_l ad ls))
    (hret : ∀ (r : Option Value) (σ' : xiS) (ad' : Nat → Nat) (ca' : Nat → ClassId) (H' : Heap) (locs' : List Loc) (nc' ns' pc' : Nat) (lsA' : Array Slot), Q r σ' → xi_R cl G D s A ad' ca' σ' H' locs' → xi_A σ ad σ' ad' → nc' ≤ md.2.2.1.2.2.1 → ns' ≤ md.2.2.1.2.2.2 → xi_ret md pc' r →
      W p l e R s m args below meth c H' locs' nc' ns' Z (F0 m pc' lsA' (r.toList.map (xi_v ad'))))
    (hd : decode md.1.2.2 pc = .ok (.imul, 1)) (h : xi_I2 (fun x y t => X' μ (pc + 1) ls (.int (x * y) :: t) σ nc ns Q) st) : W p l e R s m args below meth c H locs nc ns Z (F0 m pc lsA (st.map (xi_v ad))) := by
  obtain ⟨hx, hb, hml, hown, hts, hA, hKc, hfr, hlo, hce, hsl, hin⟩ := id hC
  obtain ⟨x, y, t, rfl, h⟩ := xi_I2_of h
  exact lv_imul hx hb hd (xi_keep hX' hmd hC hO hR hret _ _ _ h _ hl)
theorem xi_s_iand {X' : xiX} (hX' : ∀ μ pc ls st σ nc ns Q, X' μ pc ls st σ nc ns Q → xi_OK T cl zs l G μ pc ls st σ nc ns Q) {μ pc : Nat} {ls : List (Option Value)} {st : List Value} {σ : xiS} {nc ns : Nat} {Q : xiQ} {md : xiM} (hmd : G.1[μ]? = some md) {p : Program} {e : Env} {s : State} {m : MethodId} {args : Array Value} {below : List Frame} {meth : Method} {c : Code} {R : Room} {Z : State → Prop} {D : va_G} {A : Nat → Prop} {ad : Nat → Nat} {ca : Nat → ClassId} {H : Heap} {locs : List Loc} {lsA : Array Slot}
    (hC : xi_C T cl G D p s m args meth c R md A) (hO : xi_O zs G A ad s s.heap) (hR : xi_R cl G D s A ad ca σ H locs) (hl : lv_has lsA md.2.1.1 (xi_l ad ls))
    (hret : ∀ (r : Option Value) (σ' : xiS) (ad' : Nat → Nat) (ca' : Nat → ClassId) (H' : Heap) (locs' : List Loc) (nc' ns' pc' : Nat) (lsA' : Array Slot), Q r σ' → xi_R cl G D s A ad' ca' σ' H' locs' → xi_A σ ad σ' ad' → nc' ≤ md.2.2.1.2.2.1 → ns' ≤ md.2.2.1.2.2.2 → xi_ret md pc' r →
      W p l e R s m args below meth c H' locs' nc' ns' Z (F0 m pc' lsA' (r.toList.map (xi_v ad'))))
    (hd : decode md.1.2.2 pc = .ok (.iand, 1)) (h : xi_I2 (fun x y t => X' μ (pc + 1) ls (.int (x &&& y) :: t) σ nc ns Q) st) : W p l e R s m args below meth c H locs nc ns Z (F0 m pc lsA (st.map (xi_v ad))) := by
  obtain ⟨hx, hb, hml, hown, hts, hA, hKc, hfr, hlo, hce, hsl, hin⟩ := id hC
  obtain ⟨x, y, t, rfl, h⟩ := xi_I2_of h
  exact lv_iand hx hb hd (xi_keep hX' hmd hC hO hR hret _ _ _ h _ hl)
theorem xi_s_ior {X' : xiX} (hX' : ∀ μ pc ls st σ nc ns Q, X' μ pc ls st σ nc ns Q → xi_OK T cl zs l G μ pc ls st σ nc ns Q) {μ pc : Nat} {ls : List (Option Value)} {st : List Value} {σ : xiS} {nc ns : Nat} {Q : xiQ} {md : xiM} (hmd : G.1[μ]? = some md) {p : Program} {e : Env} {s : State} {m : MethodId} {args : Array Value} {below : List Frame} {meth : Method} {c : Code} {R : Room} {Z : State → Prop} {D : va_G} {A : Nat → Prop} {ad : Nat → Nat} {ca : Nat → ClassId} {H : Heap} {locs : List Loc} {lsA : Array Slot}
    (hC : xi_C T cl G D p s m args meth c R md A) (hO : xi_O zs G A ad s s.heap) (hR : xi_R cl G D s A ad ca σ H locs) (hl : lv_has lsA md.2.1.1 (xi_l ad ls))
    (hret : ∀ (r : Option Value) (σ' : xiS) (ad' : Nat → Nat) (ca' : Nat → ClassId) (H' : Heap) (locs' : List Loc) (nc' ns' pc' : Nat) (lsA' : Array Slot), Q r σ' → xi_R cl G D s A ad' ca' σ' H' locs' → xi_A σ ad σ' ad' → nc' ≤ md.2.2.1.2.2.1 → ns' ≤ md.2.2.1.2.2.2 → xi_ret md pc' r →
      W p l e R s m args below meth c H' locs' nc' ns' Z (F0 m pc' lsA' (r.toList.map (xi_v ad'))))
    (hd : decode md.1.2.2 pc = .ok (.ior, 1)) (h : xi_I2 (fun x y t => X' μ (pc + 1) ls (.int (x ||| y) :: t) σ nc ns Q) st) : W p l e R s m args below meth c H locs nc ns Z (F0 m pc lsA (st.map (xi_v ad))) := by
  obtain ⟨hx, hb, hml, hown, hts, hA, hKc, hfr, hlo, hce, hsl, hin⟩ := id hC
  obtain ⟨x, y, t, rfl, h⟩ := xi_I2_of h
  exact lv_ior hx hb hd (xi_keep hX' hmd hC hO hR hret _ _ _ h _ hl)
theorem xi_s_ixor {X' : xiX} (hX' : ∀ μ pc ls st σ nc ns Q, X' μ pc ls st σ nc ns Q → xi_OK T cl zs l G μ pc ls st σ nc ns Q) {μ pc : Nat} {ls : List (Option Value)} {st : List Value} {σ : xiS} {nc ns : Nat} {Q : xiQ} {md : xiM} (hmd : G.1[μ]? = some md) {p : Program} {e : Env} {s : State} {m : MethodId} {args : Array Value} {below : List Frame} {meth : Method} {c : Code} {R : Room} {Z : State → Prop} {D : va_G} {A : Nat → Prop} {ad : Nat → Nat} {ca : Nat → ClassId} {H : Heap} {locs : List Loc} {lsA : Array Slot}
    (hC : xi_C T cl G D p s m args meth c R md A) (hO : xi_O zs G A ad s s.heap) (hR : xi_R cl G D s A ad ca σ H locs) (hl : lv_has lsA md.2.1.1 (xi_l ad ls))
    (hret : ∀ (r : Option Value) (σ' : xiS) (ad' : Nat → Nat) (ca' : Nat → ClassId) (H' : Heap) (locs' : List Loc) (nc' ns' pc' : Nat) (lsA' : Array Slot), Q r σ' → xi_R cl G D s A ad' ca' σ' H' locs' → xi_A σ ad σ' ad' → nc' ≤ md.2.2.1.2.2.1 → ns' ≤ md.2.2.1.2.2.2 → xi_ret md pc' r →
      W p l e R s m args below meth c H' locs' nc' ns' Z (F0 m pc' lsA' (r.toList.map (xi_v ad'))))
    (hd : decode md.1.2.2 pc = .ok (.ixor, 1)) (h : xi_I2 (fun x y t => X' μ (pc + 1) ls (.int (x ^^^ y) :: t) σ nc ns Q) st) : W p l e R s m args below meth c H locs nc ns Z (F0 m pc lsA (st.map (xi_v ad))) := by
  obtain ⟨hx, hb, hml, hown, hts, hA, hKc, hfr, hlo, hce, hsl, hin⟩ := id hC
  obtain ⟨x, y, t, rfl, h⟩ := xi_I2_of h
  exact lv_ixor hx hb hd (xi_keep hX' hmd hC hO hR hret _ _ _ h _ hl)
theorem xi_s_ishl {X' : xiX} (hX' : ∀ μ pc ls st σ nc ns Q, X' μ pc ls st σ nc ns Q → xi_OK T cl zs l G μ pc ls st σ nc ns Q) {μ pc : Nat} {ls : List (Option Value)} {st : List Value} {σ : xiS} {nc ns : Nat} {Q : xiQ} {md : xiM} (hmd : G.1[μ]? = some md) {p : Program} {e : Env} {s : State} {m : MethodId} {args : Array Value} {below : List Frame} {meth : Method} {c : Code} {R : Room} {Z : State → Prop} {D : va_G} {A : Nat → Prop} {ad : Nat → Nat} {ca : Nat → ClassId} {H : Heap} {locs : List Loc} {lsA : Array Slot}
    (hC : xi_C T cl G D p s m args meth c R md A) (hO : xi_O zs G A ad s s.heap) (hR : xi_R cl G D s A ad ca σ H locs) (hl : lv_has lsA md.2.1.1 (xi_l ad ls))
    (hret : ∀ (r : Option Value) (σ' : xiS) (ad' : Nat → Nat) (ca' : Nat → ClassId) (H' : Heap) (locs' : List Loc) (nc' ns' pc' : Nat) (lsA' : Array Slot), Q r σ' → xi_R cl G D s A ad' ca' σ' H' locs' → xi_A σ ad σ' ad' → nc' ≤ md.2.2.1.2.2.1 → ns' ≤ md.2.2.1.2.2.2 → xi_ret md pc' r →
      W p l e R s m args below meth c H' locs' nc' ns' Z (F0 m pc' lsA' (r.toList.map (xi_v ad'))))
    (hd : decode md.1.2.2 pc = .ok (.ishl, 1)) (h : xi_I2 (fun x y t => X' μ (pc + 1) ls (.int (x <<< (y &&& 31)) :: t) σ nc ns Q) st) : W p l e R s m args below meth c H locs nc ns Z (F0 m pc lsA (st.map (xi_v ad))) := by
  obtain ⟨hx, hb, hml, hown, hts, hA, hKc, hfr, hlo, hce, hsl, hin⟩ := id hC
  obtain ⟨x, y, t, rfl, h⟩ := xi_I2_of h
  exact lv_ishl hx hb hd (xi_keep hX' hmd hC hO hR hret _ _ _ h _ hl)
theorem xi_s_ishr {X' : xiX} (hX' : ∀ μ pc ls st σ nc ns Q, X' μ pc ls st σ nc ns Q → xi_OK T cl zs l G μ pc ls st σ nc ns Q) {μ pc : Nat} {ls : List (Option Value)} {st : List Value} {σ : xiS} {nc ns : Nat} {Q : xiQ} {md : xiM} (hmd : G.1[μ]? = some md) {p : Program} {e : Env} {s : State} {m : MethodId} {args : Array Value} {below : List Frame} {meth : Method} {c : Code} {R : Room} {Z : State → Prop} {D : va_G} {A : Nat → Prop} {ad : Nat → Nat} {ca : Nat → ClassId} {H : Heap} {locs : List Loc} {lsA : Array Slot}
    (hC : xi_C T cl G D p s m args meth c R md A) (hO : xi_O zs G A ad s s.heap) (hR : xi_R cl G D s A ad ca σ H locs) (hl : lv_has lsA md.2.1.1 (xi_l ad ls))
    (hret : ∀ (r : Option Value) (σ' : xiS) (ad' : Nat → Nat) (ca' : Nat → ClassId) (H' : Heap) (locs' : List Loc) (nc' ns' pc' : Nat) (lsA' : Array Slot), Q r σ' → xi_R cl G D s A ad' ca' σ' H' locs' → xi_A σ ad σ' ad' → nc' ≤ md.2.2.1.2.2.1 → ns' ≤ md.2.2.1.2.2.2 → xi_ret md pc' r →
      W p l e R s m args below meth c H' locs' nc' ns' Z (F0 m pc' lsA' (r.toList.map (xi_v ad'))))
    (hd : decode md.1.2.2 pc = .ok (.ishr, 1)) (h : xi_I2 (fun x y t => X' μ (pc + 1) ls (.int (x >>> (y &&& 31)) :: t) σ nc ns Q) st) : W p l e R s m args below meth c H locs nc ns Z (F0 m pc lsA (st.map (xi_v ad))) := by
  obtain ⟨hx, hb, hml, hown, hts, hA, hKc, hfr, hlo, hce, hsl, hin⟩ := id hC
  obtain ⟨x, y, t, rfl, h⟩ := xi_I2_of h
  exact lv_ishr hx hb hd (xi_keep hX' hmd hC hO hR hret _ _ _ h _ hl)
theorem xi_s_iushr {X' : xiX} (hX' : ∀ μ pc ls st σ nc ns Q, X' μ pc ls st σ nc ns Q → xi_OK T cl zs l G μ pc ls st σ nc ns Q) {μ pc : Nat} {ls : List (Option Value)} {st : List Value} {σ : xiS} {nc ns : Nat} {Q : xiQ} {md : xiM} (hmd : G.1[μ]? = some md) {p : Program} {e : Env} {s : State} {m : MethodId} {args : Array Value} {below : List Frame} {meth : Method} {c : Code} {R : Room} {Z : State → Prop} {D : va_G} {A : Nat → Prop} {ad : Nat → Nat} {ca : Nat → ClassId} {H : Heap} {locs : List Loc} {lsA : Array Slot}
    (hC : xi_C T cl G D p s m args meth c R md A) (hO : xi_O zs G A ad s s.heap) (hR : xi_R cl G D s A ad ca σ H locs) (hl : lv_has lsA md.2.1.1 (xi_l ad ls))
    (hret : ∀ (r : Option Value) (σ' : xiS) (ad' : Nat → Nat) (ca' : Nat → ClassId) (H' : Heap) (locs' : List Loc) (nc' ns' pc' : Nat) (lsA' : Array Slot), Q r σ' → xi_R cl G D s A ad' ca' σ' H' locs' → xi_A σ ad σ' ad' → nc' ≤ md.2.2.1.2.2.1 → ns' ≤ md.2.2.1.2.2.2 → xi_ret md pc' r →
      W p l e R s m args below meth c H' locs' nc' ns' Z (F0 m pc' lsA' (r.toList.map (xi_v ad'))))
    (hd : decode md.1.2.2 pc = .ok (.iushr, 1)) (h : xi_I2 (fun x y t => X' μ (pc + 1) ls (.int (x.toUInt32 >>> (y.toUInt32 &&& Int32.toUInt32 31)).toInt32 :: t) σ nc ns Q) st) : W p l e R s m args below meth c H locs nc ns Z (F0 m pc lsA (st.map (xi_v ad))) := by
  obtain ⟨hx, hb, hml, hown, hts, hA, hKc, hfr, hlo, hce, hsl, hin⟩ := id hC
  obtain ⟨x, y, t, rfl, h⟩ := xi_I2_of h
  exact lv_iushr hx hb hd rfl (xi_keep hX' hmd hC hO hR hret _ _ _ h _ hl)
theorem xi_s_irem {X' : xiX} (hX' : ∀ μ pc ls st σ nc ns Q, X' μ pc ls st σ nc ns Q → xi_OK T cl zs l G μ pc ls st σ nc ns Q) {μ pc : Nat} {ls : List (Option Value)} {st : List Value} {σ : xiS} {nc ns : Nat} {Q : xiQ} {md : xiM} (hmd : G.1[μ]? = some md) {p : Program} {e : Env} {s : State} {m : MethodId} {args : Array Value} {below : List Frame} {meth : Method} {c : Code} {R : Room} {Z : State → Prop} {D : va_G} {A : Nat → Prop} {ad : Nat → Nat} {ca : Nat → ClassId} {H : Heap} {locs : List Loc} {lsA : Array Slot}
    (hC : xi_C T cl G D p s m args meth c R md A) (hO : xi_O zs G A ad s s.heap) (hR : xi_R cl G D s A ad ca σ H locs) (hl : lv_has lsA md.2.1.1 (xi_l ad ls))
    (hret : ∀ (r : Option Value) (σ' : xiS) (ad' : Nat → Nat) (ca' : Nat → ClassId) (H' : Heap) (locs' : List Loc) (nc' ns' pc' : Nat) (lsA' : Array Slot), Q r σ' → xi_R cl G D s A ad' ca' σ' H' locs' → xi_A σ ad σ' ad' → nc' ≤ md.2.2.1.2.2.1 → ns' ≤ md.2.2.1.2.2.2 → xi_ret md pc' r →
      W p l e R s m args below meth c H' locs' nc' ns' Z (F0 m pc' lsA' (r.toList.map (xi_v ad'))))
    (hd : decode md.1.2.2 pc = .ok (.irem, 1)) (h : xi_I2 (fun x y t => ¬ y = 0 ∧ X' μ (pc + 1) ls (.int (x - x / y * y) :: t) σ nc ns Q) st) : W p l e R s m args below meth c H locs nc ns Z (F0 m pc lsA (st.map (xi_v ad))) := by
  obtain ⟨hx, hb, hml, hown, hts, hA, hKc, hfr, hlo, hce, hsl, hin⟩ := id hC
  obtain ⟨x, y, t, rfl, hne, h⟩ := xi_I2_of h
  exact lv_irem hx hb hd hne (xi_keep hX' hmd hC hO hR hret _ _ _ h _ hl)
theorem xi_s_ineg {X' : xiX} (hX' : ∀ μ pc ls st σ nc ns Q, X' μ pc ls st σ nc ns Q → xi_OK T cl zs l G μ pc ls st σ nc ns Q) {μ pc : Nat} {ls : List (Option Value)} {st : List Value} {σ : xiS} {nc ns : Nat} {Q : xiQ} {md : xiM} (hmd : G.1[μ]? = some md) {p : Program} {e : Env} {s : State} {m : MethodId} {args : Array Value} {below : List Frame} {meth : Method} {c : Code} {R : Room} {Z : State → Prop} {D : va_G} {A : Nat → Prop} {ad : Nat → Nat} {ca : Nat → ClassId} {H : Heap} {locs : List Loc} {lsA : Array Slot}
    (hC : xi_C T cl G D p s m args meth c R md A) (hO : xi_O zs G A ad s s.heap) (hR : xi_R cl G D s A ad ca σ H locs) (hl : lv_has lsA md.2.1.1 (xi_l ad ls))
    (hret : ∀ (r : Option Value) (σ' : xiS) (ad' : Nat → Nat) (ca' : Nat → ClassId) (H' : Heap) (locs' : List Loc) (nc' ns' pc' : Nat) (lsA' : Array Slot), Q r σ' → xi_R cl G D s A ad' ca' σ' H' locs' → xi_A σ ad σ' ad' → nc' ≤ md.2.2.1.2.2.1 → ns' ≤ md.2.2.1.2.2.2 → xi_ret md pc' r →
      W p l e R s m args below meth c H' locs' nc' ns' Z (F0 m pc' lsA' (r.toList.map (xi_v ad'))))
    (hd : decode md.1.2.2 pc = .ok (.ineg, 1)) (h : xi_I1 (fun x t => X' μ (pc + 1) ls (.int (-x) :: t) σ nc ns Q) st) : W p l e R s m args below meth c H locs nc ns Z (F0 m pc lsA (st.map (xi_v ad))) := by
  obtain ⟨hx, hb, hml, hown, hts, hA, hKc, hfr, hlo, hce, hsl, hin⟩ := id hC
  obtain ⟨x, t, rfl, h⟩ := xi_I1_of h
  exact lv_ineg hx hb hd (xi_keep hX' hmd hC hO hR hret _ _ _ h _ hl)
theorem xi_s_i2l {X' : xiX} (hX' : ∀ μ pc ls st σ nc ns Q, X' μ pc ls st σ nc ns Q → xi_OK T cl zs l G μ pc ls st σ nc ns Q) {μ pc : Nat} {ls : List (Option Value)} {st : List Value} {σ : xiS} {nc ns : Nat} {Q : xiQ} {md : xiM} (hmd : G.1[μ]? = some md) {p : Program} {e : Env} {s : State} {m : MethodId} {args : Array Value} {below : List Frame} {meth : Method} {c : Code} {R : Room} {Z : State → Prop} {D : va_G} {A : Nat → Prop} {ad : Nat → Nat} {ca : Nat → ClassId} {H : Heap} {locs : List Loc} {lsA : Array Slot}
    (hC : xi_C T cl G D p s m args meth c R md A) (hO : xi_O zs G A ad s s.heap) (hR : xi_R cl G D s A ad ca σ H locs) (hl : lv_has lsA md.2.1.1 (xi_l ad ls))
    (hret : ∀ (r : Option Value) (σ' : xiS) (ad' : Nat → Nat) (ca' : Nat → ClassId) (H' : Heap) (locs' : List Loc) (nc' ns' pc' : Nat) (lsA' : Array Slot), Q r σ' → xi_R cl G D s A ad' ca' σ' H' locs' → xi_A σ ad σ' ad' → nc' ≤ md.2.2.1.2.2.1 → ns' ≤ md.2.2.1.2.2.2 → xi_ret md pc' r →
      W p l e R s m args below meth c H' locs' nc' ns' Z (F0 m pc' lsA' (r.toList.map (xi_v ad'))))
    (hd : decode md.1.2.2 pc = .ok (.i2l, 1)) (h : xi_I1 (fun x t => X' μ (pc + 1) ls (.long x.toInt64 :: t) σ nc ns Q) st) : W p l e R s m args below meth c H locs nc ns Z (F0 m pc lsA (st.map (xi_v ad))) := by
  obtain ⟨hx, hb, hml, hown, hts, hA, hKc, hfr, hlo, hce, hsl, hin⟩ := id hC
  obtain ⟨x, t, rfl, h⟩ := xi_I1_of h
  exact lv_i2l hx hb hd rfl (xi_keep hX' hmd hC hO hR hret _ _ _ h _ hl)
theorem xi_s_i2b {X' : xiX} (hX' : ∀ μ pc ls st σ nc ns Q, X' μ pc ls st σ nc ns Q → xi_OK T cl zs l G μ pc ls st σ nc ns Q) {μ pc : Nat} {ls : List (Option Value)} {st : List Value} {σ : xiS} {nc ns : Nat} {Q : xiQ} {md : xiM} (hmd : G.1[μ]? = some md) {p : Program} {e : Env} {s : State} {m : MethodId} {args : Array Value} {below : List Frame} {meth : Method} {c : Code} {R : Room} {Z : State → Prop} {D : va_G} {A : Nat → Prop} {ad : Nat → Nat} {ca : Nat → ClassId} {H : Heap} {locs : List Loc} {lsA : Array Slot}
    (hC : xi_C T cl G D p s m args meth c R md A) (hO : xi_O zs G A ad s s.heap) (hR : xi_R cl G D s A ad ca σ H locs) (hl : lv_has lsA md.2.1.1 (xi_l ad ls))
    (hret : ∀ (r : Option Value) (σ' : xiS) (ad' : Nat → Nat) (ca' : Nat → ClassId) (H' : Heap) (locs' : List Loc) (nc' ns' pc' : Nat) (lsA' : Array Slot), Q r σ' → xi_R cl G D s A ad' ca' σ' H' locs' → xi_A σ ad σ' ad' → nc' ≤ md.2.2.1.2.2.1 → ns' ≤ md.2.2.1.2.2.2 → xi_ret md pc' r →
      W p l e R s m args below meth c H' locs' nc' ns' Z (F0 m pc' lsA' (r.toList.map (xi_v ad'))))
    (hd : decode md.1.2.2 pc = .ok (.i2b, 1)) (h : xi_I1 (fun x t => X' μ (pc + 1) ls (.int x.toInt8.toInt32 :: t) σ nc ns Q) st) : W p l e R s m args below meth c H locs nc ns Z (F0 m pc lsA (st.map (xi_v ad))) := by
  obtain ⟨hx, hb, hml, hown, hts, hA, hKc, hfr, hlo, hce, hsl, hin⟩ := id hC
  obtain ⟨x, t, rfl, h⟩ := xi_I1_of h
  exact lv_i2b hx hb hd rfl (xi_keep hX' hmd hC hO hR hret _ _ _ h _ hl)
theorem xi_s_i2s {X' : xiX} (hX' : ∀ μ pc ls st σ nc ns Q, X' μ pc ls st σ nc ns Q → xi_OK T cl zs l G μ pc ls st σ nc ns Q) {μ pc : Nat} {ls : List (Option Value)} {st : List Value} {σ : xiS} {nc ns : Nat} {Q : xiQ} {md : xiM} (hmd : G.1[μ]? = some md) {p : Program} {e : Env} {s : State} {m : MethodId} {args : Array Value} {below : List Frame} {meth : Method} {c : Code} {R : Room} {Z : State → Prop} {D : va_G} {A : Nat → Prop} {ad : Nat → Nat} {ca : Nat → ClassId} {H : Heap} {locs : List Loc} {lsA : Array Slot}
    (hC : xi_C T cl G D p s m args meth c R md A) (hO : xi_O zs G A ad s s.heap) (hR : xi_R cl G D s A ad ca σ H locs) (hl : lv_has lsA md.2.1.1 (xi_l ad ls))
    (hret : ∀ (r : Option Value) (σ' : xiS) (ad' : Nat → Nat) (ca' : Nat → ClassId) (H' : Heap) (locs' : List Loc) (nc' ns' pc' : Nat) (lsA' : Array Slot), Q r σ' → xi_R cl G D s A ad' ca' σ' H' locs' → xi_A σ ad σ' ad' → nc' ≤ md.2.2.1.2.2.1 → ns' ≤ md.2.2.1.2.2.2 → xi_ret md pc' r →
      W p l e R s m args below meth c H' locs' nc' ns' Z (F0 m pc' lsA' (r.toList.map (xi_v ad'))))
    (hd : decode md.1.2.2 pc = .ok (.i2s, 1)) (h : xi_I1 (fun x t => X' μ (pc + 1) ls (.int x.toInt16.toInt32 :: t) σ nc ns Q) st) : W p l e R s m args below meth c H locs nc ns Z (F0 m pc lsA (st.map (xi_v ad))) := by
  obtain ⟨hx, hb, hml, hown, hts, hA, hKc, hfr, hlo, hce, hsl, hin⟩ := id hC
  obtain ⟨x, t, rfl, h⟩ := xi_I1_of h
  exact lv_i2s hx hb hd rfl (xi_keep hX' hmd hC hO hR hret _ _ _ h _ hl)
theorem xi_s_l2i {X' : xiX} (hX' : ∀ μ pc ls st σ nc ns Q, X' μ pc ls st σ nc ns Q → xi_OK T cl zs l G μ pc ls st σ nc ns Q) {μ pc : Nat} {ls : List (Option Value)} {st : List Value} {σ : xiS} {nc ns : Nat} {Q : xiQ} {md : xiM} (hmd : G.1[μ]? = some md) {p : Program} {e : Env} {s : State} {m : MethodId} {args : Array Value} {below : List Frame} {meth : Method} {c : Code} {R : Room} {Z : State → Prop} {D : va_G} {A : Nat → Prop} {ad : Nat → Nat} {ca : Nat → ClassId} {H : Heap} {locs : List Loc} {lsA : Array Slot}
    (hC : xi_C T cl G D p s m args meth c R md A) (hO : xi_O zs G A ad s s.heap) (hR : xi_R cl G D s A ad ca σ H locs) (hl : lv_has lsA md.2.1.1 (xi_l ad ls))
    (hret : ∀ (r : Option Value) (σ' : xiS) (ad' : Nat → Nat) (ca' : Nat → ClassId) (H' : Heap) (locs' : List Loc) (nc' ns' pc' : Nat) (lsA' : Array Slot), Q r σ' → xi_R cl G D s A ad' ca' σ' H' locs' → xi_A σ ad σ' ad' → nc' ≤ md.2.2.1.2.2.1 → ns' ≤ md.2.2.1.2.2.2 → xi_ret md pc' r →
      W p l e R s m args below meth c H' locs' nc' ns' Z (F0 m pc' lsA' (r.toList.map (xi_v ad'))))
    (hd : decode md.1.2.2 pc = .ok (.l2i, 1)) (h : xi_L1 (fun x t => X' μ (pc + 1) ls (.int x.toInt32 :: t) σ nc ns Q) st) : W p l e R s m args below meth c H locs nc ns Z (F0 m pc lsA (st.map (xi_v ad))) := by
  obtain ⟨hx, hb, hml, hown, hts, hA, hKc, hfr, hlo, hce, hsl, hin⟩ := id hC
  obtain ⟨x, t, rfl, h⟩ := xi_L1_of h
  exact lv_l2i hx hb hd rfl (xi_keep hX' hmd hC hO hR hret _ _ _ h _ hl)
theorem xi_s_lneg {X' : xiX} (hX' : ∀ μ pc ls st σ nc ns Q, X' μ pc ls st σ nc ns Q → xi_OK T cl zs l G μ pc ls st σ nc ns Q) {μ pc : Nat} {ls : List (Option Value)} {st : List Value} {σ : xiS} {nc ns : Nat} {Q : xiQ} {md : xiM} (hmd : G.1[μ]? = some md) {p : Program} {e : Env} {s : State} {m : MethodId} {args : Array Value} {below : List Frame} {meth : Method} {c : Code} {R : Room} {Z : State → Prop} {D : va_G} {A : Nat → Prop} {ad : Nat → Nat} {ca : Nat → ClassId} {H : Heap} {locs : List Loc} {lsA : Array Slot}
    (hC : xi_C T cl G D p s m args meth c R md A) (hO : xi_O zs G A ad s s.heap) (hR : xi_R cl G D s A ad ca σ H locs) (hl : lv_has lsA md.2.1.1 (xi_l ad ls))
    (hret : ∀ (r : Option Value) (σ' : xiS) (ad' : Nat → Nat) (ca' : Nat → ClassId) (H' : Heap) (locs' : List Loc) (nc' ns' pc' : Nat) (lsA' : Array Slot), Q r σ' → xi_R cl G D s A ad' ca' σ' H' locs' → xi_A σ ad σ' ad' → nc' ≤ md.2.2.1.2.2.1 → ns' ≤ md.2.2.1.2.2.2 → xi_ret md pc' r →
      W p l e R s m args below meth c H' locs' nc' ns' Z (F0 m pc' lsA' (r.toList.map (xi_v ad'))))
    (hd : decode md.1.2.2 pc = .ok (.lneg, 1)) (h : xi_L1 (fun x t => X' μ (pc + 1) ls (.long (-x) :: t) σ nc ns Q) st) : W p l e R s m args below meth c H locs nc ns Z (F0 m pc lsA (st.map (xi_v ad))) := by
  obtain ⟨hx, hb, hml, hown, hts, hA, hKc, hfr, hlo, hce, hsl, hin⟩ := id hC
  obtain ⟨x, t, rfl, h⟩ := xi_L1_of h
  exact lv_lneg hx hb hd (xi_keep hX' hmd hC hO hR hret _ _ _ h _ hl)
theorem xi_s_ladd {X' : xiX} (hX' : ∀ μ pc ls st σ nc ns Q, X' μ pc ls st σ nc ns Q → xi_OK T cl zs l G μ pc ls st σ nc ns Q) {μ pc : Nat} {ls : List (Option Value)} {st : List Value} {σ : xiS} {nc ns : Nat} {Q : xiQ} {md : xiM} (hmd : G.1[μ]? = some md) {p : Program} {e : Env} {s : State} {m : MethodId} {args : Array Value} {below : List Frame} {meth : Method} {c : Code} {R : Room} {Z : State → Prop} {D : va_G} {A : Nat → Prop} {ad : Nat → Nat} {ca : Nat → ClassId} {H : Heap} {locs : List Loc} {lsA : Array Slot}
    (hC : xi_C T cl G D p s m args meth c R md A) (hO : xi_O zs G A ad s s.heap) (hR : xi_R cl G D s A ad ca σ H locs) (hl : lv_has lsA md.2.1.1 (xi_l ad ls))
    (hret : ∀ (r : Option Value) (σ' : xiS) (ad' : Nat → Nat) (ca' : Nat → ClassId) (H' : Heap) (locs' : List Loc) (nc' ns' pc' : Nat) (lsA' : Array Slot), Q r σ' → xi_R cl G D s A ad' ca' σ' H' locs' → xi_A σ ad σ' ad' → nc' ≤ md.2.2.1.2.2.1 → ns' ≤ md.2.2.1.2.2.2 → xi_ret md pc' r →
      W p l e R s m args below meth c H' locs' nc' ns' Z (F0 m pc' lsA' (r.toList.map (xi_v ad'))))
    (hd : decode md.1.2.2 pc = .ok (.ladd, 1)) (h : xi_L2 (fun x y t => X' μ (pc + 1) ls (.long (x + y) :: t) σ nc ns Q) st) : W p l e R s m args below meth c H locs nc ns Z (F0 m pc lsA (st.map (xi_v ad))) := by
  obtain ⟨hx, hb, hml, hown, hts, hA, hKc, hfr, hlo, hce, hsl, hin⟩ := id hC
  obtain ⟨x, y, t, rfl, h⟩ := xi_L2_of h
  exact lv_ladd hx hb hd (xi_keep hX' hmd hC hO hR hret _ _ _ h _ hl)
theorem xi_s_lsub {X' : xiX} (hX' : ∀ μ pc ls st σ nc ns Q, X' μ pc ls st σ nc ns Q → xi_OK T cl zs l G μ pc ls st σ nc ns Q) {μ pc : Nat} {ls : List (Option Value)} {st : List Value} {σ : xiS} {nc ns : Nat} {Q : xiQ} {md : xiM} (hmd : G.1[μ]? = some md) {p : Program} {e : Env} {s : State} {m : MethodId} {args : Array Value} {below : List Frame} {meth : Method} {c : Code} {R : Room} {Z : State → Prop} {D : va_G} {A : Nat → Prop} {ad : Nat → Nat} {ca : Nat → ClassId} {H : Heap} {locs : List Loc} {lsA : Array Slot}
    (hC : xi_C T cl G D p s m args meth c R md A) (hO : xi_O zs G A ad s s.heap) (hR : xi_R cl G D s A ad ca σ H locs) (hl : lv_has lsA md.2.1.1 (xi_l ad ls))
    (hret : ∀ (r : Option Value) (σ' : xiS) (ad' : Nat → Nat) (ca' : Nat → ClassId) (H' : Heap) (locs' : List Loc) (nc' ns' pc' : Nat) (lsA' : Array Slot), Q r σ' → xi_R cl G D s A ad' ca' σ' H' locs' → xi_A σ ad σ' ad' → nc' ≤ md.2.2.1.2.2.1 → ns' ≤ md.2.2.1.2.2.2 → xi_ret md pc' r →
      W p l e R s m args below meth c H' locs' nc' ns' Z (F0 m pc' lsA' (r.toList.map (xi_v ad'))))
    (hd : decode md.1.2.2 pc = .ok (.lsub, 1)) (h : xi_L2 (fun x y t => X' μ (pc + 1) ls (.long (x - y) :: t) σ nc ns Q) st) : W p l e R s m args below meth c H locs nc ns Z (F0 m pc lsA (st.map (xi_v ad))) := by
  obtain ⟨hx, hb, hml, hown, hts, hA, hKc, hfr, hlo, hce, hsl, hin⟩ := id hC
  obtain ⟨x, y, t, rfl, h⟩ := xi_L2_of h
  exact lv_lsub hx hb hd (xi_keep hX' hmd hC hO hR hret _ _ _ h _ hl)
theorem xi_s_lmul {X' : xiX} (hX' : ∀ μ pc ls st σ nc ns Q, X' μ pc ls st σ nc ns Q → xi_OK T cl zs l G μ pc ls st σ nc ns Q) {μ pc : Nat} {ls : List (Option Value)} {st : List Value} {σ : xiS} {nc ns : Nat} {Q : xiQ} {md : xiM} (hmd : G.1[μ]? = some md) {p : Program} {e : Env} {s : State} {m : MethodId} {args : Array Value} {below : List Frame} {meth : Method} {c : Code} {R : Room} {Z : State → Prop} {D : va_G} {A : Nat → Prop} {ad : Nat → Nat} {ca : Nat → ClassId} {H : Heap} {locs : List Loc} {lsA : Array Slot}
    (hC : xi_C T cl G D p s m args meth c R md A) (hO : xi_O zs G A ad s s.heap) (hR : xi_R cl G D s A ad ca σ H locs) (hl : lv_has lsA md.2.1.1 (xi_l ad ls))
    (hret : ∀ (r : Option Value) (σ' : xiS) (ad' : Nat → Nat) (ca' : Nat → ClassId) (H' : Heap) (locs' : List Loc) (nc' ns' pc' : Nat) (lsA' : Array Slot), Q r σ' → xi_R cl G D s A ad' ca' σ' H' locs' → xi_A σ ad σ' ad' → nc' ≤ md.2.2.1.2.2.1 → ns' ≤ md.2.2.1.2.2.2 → xi_ret md pc' r →
      W p l e R s m args below meth c H' locs' nc' ns' Z (F0 m pc' lsA' (r.toList.map (xi_v ad'))))
    (hd : decode md.1.2.2 pc = .ok (.lmul, 1)) (h : xi_L2 (fun x y t => X' μ (pc + 1) ls (.long (x * y) :: t) σ nc ns Q) st) : W p l e R s m args below meth c H locs nc ns Z (F0 m pc lsA (st.map (xi_v ad))) := by
  obtain ⟨hx, hb, hml, hown, hts, hA, hKc, hfr, hlo, hce, hsl, hin⟩ := id hC
  obtain ⟨x, y, t, rfl, h⟩ := xi_L2_of h
  exact lv_lmul hx hb hd (xi_keep hX' hmd hC hO hR hret _ _ _ h _ hl)
theorem xi_s_land {X' : xiX} (hX' : ∀ μ pc ls st σ nc ns Q, X' μ pc ls st σ nc ns Q → xi_OK T cl zs l G μ pc ls st σ nc ns Q) {μ pc : Nat} {ls : List (Option Value)} {st : List Value} {σ : xiS} {nc ns : Nat} {Q : xiQ} {md : xiM} (hmd : G.1[μ]? = some md) {p : Program} {e : Env} {s : State} {m : MethodId} {args : Array Value} {below : List Frame} {meth : Method} {c : Code} {R : Room} {Z : State → Prop} {D : va_G} {A : Nat → Prop} {ad : Nat → Nat} {ca : Nat → ClassId} {H : Heap} {locs : List Loc} {lsA : Array Slot}
    (hC : xi_C T cl G D p s m args meth c R md A) (hO : xi_O zs G A ad s s.heap) (hR : xi_R cl G D s A ad ca σ H locs) (hl : lv_has lsA md.2.1.1 (xi_l ad ls))
    (hret : ∀ (r : Option Value) (σ' : xiS) (ad' : Nat → Nat) (ca' : Nat → ClassId) (H' : Heap) (locs' : List Loc) (nc' ns' pc' : Nat) (lsA' : Array Slot), Q r σ' → xi_R cl G D s A ad' ca' σ' H' locs' → xi_A σ ad σ' ad' → nc' ≤ md.2.2.1.2.2.1 → ns' ≤ md.2.2.1.2.2.2 → xi_ret md pc' r →
      W p l e R s m args below meth c H' locs' nc' ns' Z (F0 m pc' lsA' (r.toList.map (xi_v ad'))))
    (hd : decode md.1.2.2 pc = .ok (.land, 1)) (h : xi_L2 (fun x y t => X' μ (pc + 1) ls (.long (x &&& y) :: t) σ nc ns Q) st) : W p l e R s m args below meth c H locs nc ns Z (F0 m pc lsA (st.map (xi_v ad))) := by
  obtain ⟨hx, hb, hml, hown, hts, hA, hKc, hfr, hlo, hce, hsl, hin⟩ := id hC
  obtain ⟨x, y, t, rfl, h⟩ := xi_L2_of h
  exact lv_land hx hb hd (xi_keep hX' hmd hC hO hR hret _ _ _ h _ hl)
theorem xi_s_lor {X' : xiX} (hX' : ∀ μ pc ls st σ nc ns Q, X' μ pc ls st σ nc ns Q → xi_OK T cl zs l G μ pc ls st σ nc ns Q) {μ pc : Nat} {ls : List (Option Value)} {st : List Value} {σ : xiS} {nc ns : Nat} {Q : xiQ} {md : xiM} (hmd : G.1[μ]? = some md) {p : Program} {e : Env} {s : State} {m : MethodId} {args : Array Value} {below : List Frame} {meth : Method} {c : Code} {R : Room} {Z : State → Prop} {D : va_G} {A : Nat → Prop} {ad : Nat → Nat} {ca : Nat → ClassId} {H : Heap} {locs : List Loc} {lsA : Array Slot}
    (hC : xi_C T cl G D p s m args meth c R md A) (hO : xi_O zs G A ad s s.heap) (hR : xi_R cl G D s A ad ca σ H locs) (hl : lv_has lsA md.2.1.1 (xi_l ad ls))
    (hret : ∀ (r : Option Value) (σ' : xiS) (ad' : Nat → Nat) (ca' : Nat → ClassId) (H' : Heap) (locs' : List Loc) (nc' ns' pc' : Nat) (lsA' : Array Slot), Q r σ' → xi_R cl G D s A ad' ca' σ' H' locs' → xi_A σ ad σ' ad' → nc' ≤ md.2.2.1.2.2.1 → ns' ≤ md.2.2.1.2.2.2 → xi_ret md pc' r →
      W p l e R s m args below meth c H' locs' nc' ns' Z (F0 m pc' lsA' (r.toList.map (xi_v ad'))))
    (hd : decode md.1.2.2 pc = .ok (.lor, 1)) (h : xi_L2 (fun x y t => X' μ (pc + 1) ls (.long (x ||| y) :: t) σ nc ns Q) st) : W p l e R s m args below meth c H locs nc ns Z (F0 m pc lsA (st.map (xi_v ad))) := by
  obtain ⟨hx, hb, hml, hown, hts, hA, hKc, hfr, hlo, hce, hsl, hin⟩ := id hC
  obtain ⟨x, y, t, rfl, h⟩ := xi_L2_of h
  exact lv_lor hx hb hd (xi_keep hX' hmd hC hO hR hret _ _ _ h _ hl)
theorem xi_s_lxor {X' : xiX} (hX' : ∀ μ pc ls st σ nc ns Q, X' μ pc ls st σ nc ns Q → xi_OK T cl zs l G μ pc ls st σ nc ns Q) {μ pc : Nat} {ls : List (Option Value)} {st : List Value} {σ : xiS} {nc ns : Nat} {Q : xiQ} {md : xiM} (hmd : G.1[μ]? = some md) {p : Program} {e : Env} {s : State} {m : MethodId} {args : Array Value} {below : List Frame} {meth : Method} {c : Code} {R : Room} {Z : State → Prop} {D : va_G} {A : Nat → Prop} {ad : Nat → Nat} {ca : Nat → ClassId} {H : Heap} {locs : List Loc} {lsA : Array Slot}
    (hC : xi_C T cl G D p s m args meth c R md A) (hO : xi_O zs G A ad s s.heap) (hR : xi_R cl G D s A ad ca σ H locs) (hl : lv_has lsA md.2.1.1 (xi_l ad ls))
    (hret : ∀ (r : Option Value) (σ' : xiS) (ad' : Nat → Nat) (ca' : Nat → ClassId) (H' : Heap) (locs' : List Loc) (nc' ns' pc' : Nat) (lsA' : Array Slot), Q r σ' → xi_R cl G D s A ad' ca' σ' H' locs' → xi_A σ ad σ' ad' → nc' ≤ md.2.2.1.2.2.1 → ns' ≤ md.2.2.1.2.2.2 → xi_ret md pc' r →
      W p l e R s m args below meth c H' locs' nc' ns' Z (F0 m pc' lsA' (r.toList.map (xi_v ad'))))
    (hd : decode md.1.2.2 pc = .ok (.lxor, 1)) (h : xi_L2 (fun x y t => X' μ (pc + 1) ls (.long (x ^^^ y) :: t) σ nc ns Q) st) : W p l e R s m args below meth c H locs nc ns Z (F0 m pc lsA (st.map (xi_v ad))) := by
  obtain ⟨hx, hb, hml, hown, hts, hA, hKc, hfr, hlo, hce, hsl, hin⟩ := id hC
  obtain ⟨x, y, t, rfl, h⟩ := xi_L2_of h
  exact lv_lxor hx hb hd (xi_keep hX' hmd hC hO hR hret _ _ _ h _ hl)
theorem xi_s_ldiv {X' : xiX} (hX' : ∀ μ pc ls st σ nc ns Q, X' μ pc ls st σ nc ns Q → xi_OK T cl zs l G μ pc ls st σ nc ns Q) {μ pc : Nat} {ls : List (Option Value)} {st : List Value} {σ : xiS} {nc ns : Nat} {Q : xiQ} {md : xiM} (hmd : G.1[μ]? = some md) {p : Program} {e : Env} {s : State} {m : MethodId} {args : Array Value} {below : List Frame} {meth : Method} {c : Code} {R : Room} {Z : State → Prop} {D : va_G} {A : Nat → Prop} {ad : Nat → Nat} {ca : Nat → ClassId} {H : Heap} {locs : List Loc} {lsA : Array Slot}
    (hC : xi_C T cl G D p s m args meth c R md A) (hO : xi_O zs G A ad s s.heap) (hR : xi_R cl G D s A ad ca σ H locs) (hl : lv_has lsA md.2.1.1 (xi_l ad ls))
    (hret : ∀ (r : Option Value) (σ' : xiS) (ad' : Nat → Nat) (ca' : Nat → ClassId) (H' : Heap) (locs' : List Loc) (nc' ns' pc' : Nat) (lsA' : Array Slot), Q r σ' → xi_R cl G D s A ad' ca' σ' H' locs' → xi_A σ ad σ' ad' → nc' ≤ md.2.2.1.2.2.1 → ns' ≤ md.2.2.1.2.2.2 → xi_ret md pc' r →
      W p l e R s m args below meth c H' locs' nc' ns' Z (F0 m pc' lsA' (r.toList.map (xi_v ad'))))
    (hd : decode md.1.2.2 pc = .ok (.ldiv, 1)) (h : xi_L2 (fun x y t => ¬ y = 0 ∧ X' μ (pc + 1) ls (.long (x / y) :: t) σ nc ns Q) st) : W p l e R s m args below meth c H locs nc ns Z (F0 m pc lsA (st.map (xi_v ad))) := by
  obtain ⟨hx, hb, hml, hown, hts, hA, hKc, hfr, hlo, hce, hsl, hin⟩ := id hC
  obtain ⟨x, y, t, rfl, hne, h⟩ := xi_L2_of h
  exact lv_ldiv hx hb hd hne (xi_keep hX' hmd hC hO hR hret _ _ _ h _ hl)
theorem xi_s_lrem {X' : xiX} (hX' : ∀ μ pc ls st σ nc ns Q, X' μ pc ls st σ nc ns Q → xi_OK T cl zs l G μ pc ls st σ nc ns Q) {μ pc : Nat} {ls : List (Option Value)} {st : List Value} {σ : xiS} {nc ns : Nat} {Q : xiQ} {md : xiM} (hmd : G.1[μ]? = some md) {p : Program} {e : Env} {s : State} {m : MethodId} {args : Array Value} {below : List Frame} {meth : Method} {c : Code} {R : Room} {Z : State → Prop} {D : va_G} {A : Nat → Prop} {ad : Nat → Nat} {ca : Nat → ClassId} {H : Heap} {locs : List Loc} {lsA : Array Slot}
    (hC : xi_C T cl G D p s m args meth c R md A) (hO : xi_O zs G A ad s s.heap) (hR : xi_R cl G D s A ad ca σ H locs) (hl : lv_has lsA md.2.1.1 (xi_l ad ls))
    (hret : ∀ (r : Option Value) (σ' : xiS) (ad' : Nat → Nat) (ca' : Nat → ClassId) (H' : Heap) (locs' : List Loc) (nc' ns' pc' : Nat) (lsA' : Array Slot), Q r σ' → xi_R cl G D s A ad' ca' σ' H' locs' → xi_A σ ad σ' ad' → nc' ≤ md.2.2.1.2.2.1 → ns' ≤ md.2.2.1.2.2.2 → xi_ret md pc' r →
      W p l e R s m args below meth c H' locs' nc' ns' Z (F0 m pc' lsA' (r.toList.map (xi_v ad'))))
    (hd : decode md.1.2.2 pc = .ok (.lrem, 1)) (h : xi_L2 (fun x y t => ¬ y = 0 ∧ X' μ (pc + 1) ls (.long (x - x / y * y) :: t) σ nc ns Q) st) : W p l e R s m args below meth c H locs nc ns Z (F0 m pc lsA (st.map (xi_v ad))) := by
  obtain ⟨hx, hb, hml, hown, hts, hA, hKc, hfr, hlo, hce, hsl, hin⟩ := id hC
  obtain ⟨x, y, t, rfl, hne, h⟩ := xi_L2_of h
  exact lv_lrem hx hb hd hne (xi_keep hX' hmd hC hO hR hret _ _ _ h _ hl)
theorem xi_s_lcmp {X' : xiX} (hX' : ∀ μ pc ls st σ nc ns Q, X' μ pc ls st σ nc ns Q → xi_OK T cl zs l G μ pc ls st σ nc ns Q) {μ pc : Nat} {ls : List (Option Value)} {st : List Value} {σ : xiS} {nc ns : Nat} {Q : xiQ} {md : xiM} (hmd : G.1[μ]? = some md) {p : Program} {e : Env} {s : State} {m : MethodId} {args : Array Value} {below : List Frame} {meth : Method} {c : Code} {R : Room} {Z : State → Prop} {D : va_G} {A : Nat → Prop} {ad : Nat → Nat} {ca : Nat → ClassId} {H : Heap} {locs : List Loc} {lsA : Array Slot}
    (hC : xi_C T cl G D p s m args meth c R md A) (hO : xi_O zs G A ad s s.heap) (hR : xi_R cl G D s A ad ca σ H locs) (hl : lv_has lsA md.2.1.1 (xi_l ad ls))
    (hret : ∀ (r : Option Value) (σ' : xiS) (ad' : Nat → Nat) (ca' : Nat → ClassId) (H' : Heap) (locs' : List Loc) (nc' ns' pc' : Nat) (lsA' : Array Slot), Q r σ' → xi_R cl G D s A ad' ca' σ' H' locs' → xi_A σ ad σ' ad' → nc' ≤ md.2.2.1.2.2.1 → ns' ≤ md.2.2.1.2.2.2 → xi_ret md pc' r →
      W p l e R s m args below meth c H' locs' nc' ns' Z (F0 m pc' lsA' (r.toList.map (xi_v ad'))))
    (hd : decode md.1.2.2 pc = .ok (.lcmp, 1)) (h : xi_L2 (fun x y t => X' μ (pc + 1) ls (.int (lg_cmp x y) :: t) σ nc ns Q) st) : W p l e R s m args below meth c H locs nc ns Z (F0 m pc lsA (st.map (xi_v ad))) := by
  obtain ⟨hx, hb, hml, hown, hts, hA, hKc, hfr, hlo, hce, hsl, hin⟩ := id hC
  obtain ⟨x, y, t, rfl, h⟩ := xi_L2_of h
  exact W.lcmp hx hb hd (xi_keep hX' hmd hC hO hR hret _ _ _ h _ hl)
theorem xi_s_lshl {X' : xiX} (hX' : ∀ μ pc ls st σ nc ns Q, X' μ pc ls st σ nc ns Q → xi_OK T cl zs l G μ pc ls st σ nc ns Q) {μ pc : Nat} {ls : List (Option Value)} {st : List Value} {σ : xiS} {nc ns : Nat} {Q : xiQ} {md : xiM} (hmd : G.1[μ]? = some md) {p : Program} {e : Env} {s : State} {m : MethodId} {args : Array Value} {below : List Frame} {meth : Method} {c : Code} {R : Room} {Z : State → Prop} {D : va_G} {A : Nat → Prop} {ad : Nat → Nat} {ca : Nat → ClassId} {H : Heap} {locs : List Loc} {lsA : Array Slot}
    (hC : xi_C T cl G D p s m args meth c R md A) (hO : xi_O zs G A ad s s.heap) (hR : xi_R cl G D s A ad ca σ H locs) (hl : lv_has lsA md.2.1.1 (xi_l ad ls))
    (hret : ∀ (r : Option Value) (σ' : xiS) (ad' : Nat → Nat) (ca' : Nat → ClassId) (H' : Heap) (locs' : List Loc) (nc' ns' pc' : Nat) (lsA' : Array Slot), Q r σ' → xi_R cl G D s A ad' ca' σ' H' locs' → xi_A σ ad σ' ad' → nc' ≤ md.2.2.1.2.2.1 → ns' ≤ md.2.2.1.2.2.2 → xi_ret md pc' r →
      W p l e R s m args below meth c H' locs' nc' ns' Z (F0 m pc' lsA' (r.toList.map (xi_v ad'))))
    {x : Int64} {y : Int32} {t : List Value} (hst : st = .int y :: .long x :: t) (hd : decode md.1.2.2 pc = .ok (.lshl, 1)) (h : X' μ (pc + 1) ls (.long (x <<< (y.toInt64 &&& 63)) :: t) σ nc ns Q) : W p l e R s m args below meth c H locs nc ns Z (F0 m pc lsA (st.map (xi_v ad))) := by
  obtain ⟨hx, hb, hml, hown, hts, hA, hKc, hfr, hlo, hce, hsl, hin⟩ := id hC
  subst hst
  exact lv_lshl hx hb hd rfl (xi_keep hX' hmd hC hO hR hret _ _ _ h _ hl)
theorem xi_s_dup {X' : xiX} (hX' : ∀ μ pc ls st σ nc ns Q, X' μ pc ls st σ nc ns Q → xi_OK T cl zs l G μ pc ls st σ nc ns Q) {μ pc : Nat} {ls : List (Option Value)} {st : List Value} {σ : xiS} {nc ns : Nat} {Q : xiQ} {md : xiM} (hmd : G.1[μ]? = some md) {p : Program} {e : Env} {s : State} {m : MethodId} {args : Array Value} {below : List Frame} {meth : Method} {c : Code} {R : Room} {Z : State → Prop} {D : va_G} {A : Nat → Prop} {ad : Nat → Nat} {ca : Nat → ClassId} {H : Heap} {locs : List Loc} {lsA : Array Slot}
    (hC : xi_C T cl G D p s m args meth c R md A) (hO : xi_O zs G A ad s s.heap) (hR : xi_R cl G D s A ad ca σ H locs) (hl : lv_has lsA md.2.1.1 (xi_l ad ls))
    (hret : ∀ (r : Option Value) (σ' : xiS) (ad' : Nat → Nat) (ca' : Nat → ClassId) (H' : Heap) (locs' : List Loc) (nc' ns' pc' : Nat) (lsA' : Array Slot), Q r σ' → xi_R cl G D s A ad' ca' σ' H' locs' → xi_A σ ad σ' ad' → nc' ≤ md.2.2.1.2.2.1 → ns' ≤ md.2.2.1.2.2.2 → xi_ret md pc' r →
      W p l e R s m args below meth c H' locs' nc' ns' Z (F0 m pc' lsA' (r.toList.map (xi_v ad'))))
    {v : Value} {t : List Value} (hst : st = v :: t) (hd : decode md.1.2.2 pc = .ok (.dup, 1)) (h : xi_b (Nat.beq v.category 1) (X' μ (pc + 1) ls (v :: v :: t) σ nc ns Q)) : W p l e R s m args below meth c H locs nc ns Z (F0 m pc lsA (st.map (xi_v ad))) := by
  obtain ⟨hx, hb, hml, hown, hts, hA, hKc, hfr, hlo, hce, hsl, hin⟩ := id hC
  subst hst
  obtain ⟨hc, h⟩ := xi_b_of h
  exact lv_dup hx hb hd (by rw [xi_v_cat]; exact Nat.eq_of_beq_eq_true hc) (xi_keep hX' hmd hC hO hR hret _ _ _ h _ hl)
theorem xi_s_dup2 {X' : xiX} (hX' : ∀ μ pc ls st σ nc ns Q, X' μ pc ls st σ nc ns Q → xi_OK T cl zs l G μ pc ls st σ nc ns Q) {μ pc : Nat} {ls : List (Option Value)} {st : List Value} {σ : xiS} {nc ns : Nat} {Q : xiQ} {md : xiM} (hmd : G.1[μ]? = some md) {p : Program} {e : Env} {s : State} {m : MethodId} {args : Array Value} {below : List Frame} {meth : Method} {c : Code} {R : Room} {Z : State → Prop} {D : va_G} {A : Nat → Prop} {ad : Nat → Nat} {ca : Nat → ClassId} {H : Heap} {locs : List Loc} {lsA : Array Slot}
    (hC : xi_C T cl G D p s m args meth c R md A) (hO : xi_O zs G A ad s s.heap) (hR : xi_R cl G D s A ad ca σ H locs) (hl : lv_has lsA md.2.1.1 (xi_l ad ls))
    (hret : ∀ (r : Option Value) (σ' : xiS) (ad' : Nat → Nat) (ca' : Nat → ClassId) (H' : Heap) (locs' : List Loc) (nc' ns' pc' : Nat) (lsA' : Array Slot), Q r σ' → xi_R cl G D s A ad' ca' σ' H' locs' → xi_A σ ad σ' ad' → nc' ≤ md.2.2.1.2.2.1 → ns' ≤ md.2.2.1.2.2.2 → xi_ret md pc' r →
      W p l e R s m args below meth c H' locs' nc' ns' Z (F0 m pc' lsA' (r.toList.map (xi_v ad'))))
    {va vb : Value} {t : List Value} (hst : st = va :: vb :: t) (hd : decode md.1.2.2 pc = .ok (.dup2, 1)) (h : xi_b (Nat.beq va.category 1 && Nat.beq vb.category 1) (X' μ (pc + 1) ls (va :: vb :: va :: vb :: t) σ nc ns Q)) : W p l e R s m args below meth c H locs nc ns Z (F0 m pc lsA (st.map (xi_v ad))) := by
  obtain ⟨hx, hb, hml, hown, hts, hA, hKc, hfr, hlo, hce, hsl, hin⟩ := id hC
  subst hst
  obtain ⟨hc, h⟩ := xi_b_of h
  simp only [Bool.and_eq_true] at hc
  exact lv_dup2_11 hx hb hd (by rw [xi_v_cat]; exact Nat.eq_of_beq_eq_true hc.1) (by rw [xi_v_cat]; exact Nat.eq_of_beq_eq_true hc.2) (xi_keep hX' hmd hC hO hR hret _ _ _ h _ hl)
theorem xi_s_pop2 {X' : xiX} (hX' : ∀ μ pc ls st σ nc ns Q, X' μ pc ls st σ nc ns Q → xi_OK T cl zs l G μ pc ls st σ nc ns Q) {μ pc : Nat} {ls : List (Option Value)} {st : List Value} {σ : xiS} {nc ns : Nat} {Q : xiQ} {md : xiM} (hmd : G.1[μ]? = some md) {p : Program} {e : Env} {s : State} {m : MethodId} {args : Array Value} {below : List Frame} {meth : Method} {c : Code} {R : Room} {Z : State → Prop} {D : va_G} {A : Nat → Prop} {ad : Nat → Nat} {ca : Nat → ClassId} {H : Heap} {locs : List Loc} {lsA : Array Slot}
    (hC : xi_C T cl G D p s m args meth c R md A) (hO : xi_O zs G A ad s s.heap) (hR : xi_R cl G D s A ad ca σ H locs) (hl : lv_has lsA md.2.1.1 (xi_l ad ls))
    (hret : ∀ (r : Option Value) (σ' : xiS) (ad' : Nat → Nat) (ca' : Nat → ClassId) (H' : Heap) (locs' : List Loc) (nc' ns' pc' : Nat) (lsA' : Array Slot), Q r σ' → xi_R cl G D s A ad' ca' σ' H' locs' → xi_A σ ad σ' ad' → nc' ≤ md.2.2.1.2.2.1 → ns' ≤ md.2.2.1.2.2.2 → xi_ret md pc' r →
      W p l e R s m args below meth c H' locs' nc' ns' Z (F0 m pc' lsA' (r.toList.map (xi_v ad'))))
    {va : Value} {t : List Value} (hst : st = va :: t) (hd : decode md.1.2.2 pc = .ok (.pop2, 1)) (h : xi_b (Nat.beq va.category 2) (X' μ (pc + 1) ls t σ nc ns Q)) : W p l e R s m args below meth c H locs nc ns Z (F0 m pc lsA (st.map (xi_v ad))) := by
  obtain ⟨hx, hb, hml, hown, hts, hA, hKc, hfr, hlo, hce, hsl, hin⟩ := id hC
  subst hst
  obtain ⟨hc, h⟩ := xi_b_of h
  exact lv_pop2_2 hx hb hd (by rw [xi_v_cat]; exact Nat.eq_of_beq_eq_true hc) (xi_keep hX' hmd hC hO hR hret _ _ _ h _ hl)
theorem xi_s_ifCond {X' : xiX} (hX' : ∀ μ pc ls st σ nc ns Q, X' μ pc ls st σ nc ns Q → xi_OK T cl zs l G μ pc ls st σ nc ns Q) {μ pc : Nat} {ls : List (Option Value)} {st : List Value} {σ : xiS} {nc ns : Nat} {Q : xiQ} {md : xiM} (hmd : G.1[μ]? = some md) {p : Program} {e : Env} {s : State} {m : MethodId} {args : Array Value} {below : List Frame} {meth : Method} {c : Code} {R : Room} {Z : State → Prop} {D : va_G} {A : Nat → Prop} {ad : Nat → Nat} {ca : Nat → ClassId} {H : Heap} {locs : List Loc} {lsA : Array Slot}
    (hC : xi_C T cl G D p s m args meth c R md A) (hO : xi_O zs G A ad s s.heap) (hR : xi_R cl G D s A ad ca σ H locs) (hl : lv_has lsA md.2.1.1 (xi_l ad ls))
    (hret : ∀ (r : Option Value) (σ' : xiS) (ad' : Nat → Nat) (ca' : Nat → ClassId) (H' : Heap) (locs' : List Loc) (nc' ns' pc' : Nat) (lsA' : Array Slot), Q r σ' → xi_R cl G D s A ad' ca' σ' H' locs' → xi_A σ ad σ' ad' → nc' ≤ md.2.2.1.2.2.1 → ns' ≤ md.2.2.1.2.2.2 → xi_ret md pc' r →
      W p l e R s m args below meth c H' locs' nc' ns' Z (F0 m pc' lsA' (r.toList.map (xi_v ad'))))
    {cc : Jvm.ClassFile.Cond} {off : Int} (hd : decode md.1.2.2 pc = .ok (.ifCond cc off, 3)) (hg : xi_tg pc off = true) (h : xi_I1 (fun x t => xi_if cc x 0 (X' μ (xi_tgt pc off) ls t σ nc ns Q) (X' μ (pc + 3) ls t σ nc ns Q)) st) : W p l e R s m args below meth c H locs nc ns Z (F0 m pc lsA (st.map (xi_v ad))) := by
  obtain ⟨hx, hb, hml, hown, hts, hA, hKc, hfr, hlo, hce, hsl, hin⟩ := id hC
  obtain ⟨x, t, rfl, h⟩ := xi_I1_of h
  have htg : (pc : Int) + off = (xi_tgt pc off : Int) := xi_tgt_eq rfl (of_decide_eq_true hg)
  unfold xi_if at h
  cases cc <;> dsimp only at h
  · exact lv_if_eq hx hb hd htg (fun z => xi_keep hX' hmd hC hO hR hret _ _ _ (h.1 z) _ hl) (fun z => xi_keep hX' hmd hC hO hR hret _ _ _ (h.2 z) _ hl)
  · exact lv_if_ne hx hb hd htg (fun z => xi_keep hX' hmd hC hO hR hret _ _ _ (h.1 z) _ hl) (fun z => xi_keep hX' hmd hC hO hR hret _ _ _ (h.2 z) _ hl)
  · exact lv_if_lt hx hb hd htg (fun z => xi_keep hX' hmd hC hO hR hret _ _ _ (h.1 z) _ hl) (fun z => xi_keep hX' hmd hC hO hR hret _ _ _ (h.2 z) _ hl)
  · exact lv_if_ge hx hb hd htg (fun z => xi_keep hX' hmd hC hO hR hret _ _ _ (h.1 z) _ hl) (fun z => xi_keep hX' hmd hC hO hR hret _ _ _ (h.2 z) _ hl)
  · exact lv_if_gt hx hb hd htg (fun z => xi_keep hX' hmd hC hO hR hret _ _ _ (h.1 z) _ hl) (fun z => xi_keep hX' hmd hC hO hR hret _ _ _ (h.2 z) _ hl)
  · exact lv_if_le hx hb hd htg (fun z => xi_keep hX' hmd hC hO hR hret _ _ _ (h.1 z) _ hl) (fun z => xi_keep hX' hmd hC hO hR hret _ _ _ (h.2 z) _ hl)
theorem xi_s_if_icmp {X' : xiX} (hX' : ∀ μ pc ls st σ nc ns Q, X' μ pc ls st σ nc ns Q → xi_OK T cl zs l G μ pc ls st σ nc ns Q) {μ pc : Nat} {ls : List (Option Value)} {st : List Value} {σ : xiS} {nc ns : Nat} {Q : xiQ} {md : xiM} (hmd : G.1[μ]? = some md) {p : Program} {e : Env} {s : State} {m : MethodId} {args : Array Value} {below : List Frame} {meth : Method} {c : Code} {R : Room} {Z : State → Prop} {D : va_G} {A : Nat → Prop} {ad : Nat → Nat} {ca : Nat → ClassId} {H : Heap} {locs : List Loc} {lsA : Array Slot}
    (hC : xi_C T cl G D p s m args meth c R md A) (hO : xi_O zs G A ad s s.heap) (hR : xi_R cl G D s A ad ca σ H locs) (hl : lv_has lsA md.2.1.1 (xi_l ad ls))
    (hret : ∀ (r : Option Value) (σ' : xiS) (ad' : Nat → Nat) (ca' : Nat → ClassId) (H' : Heap) (locs' : List Loc) (nc' ns' pc' : Nat) (lsA' : Array Slot), Q r σ' → xi_R cl G D s A ad' ca' σ' H' locs' → xi_A σ ad σ' ad' → nc' ≤ md.2.2.1.2.2.1 → ns' ≤ md.2.2.1.2.2.2 → xi_ret md pc' r →
      W p l e R s m args below meth c H' locs' nc' ns' Z (F0 m pc' lsA' (r.toList.map (xi_v ad'))))
    {cc : Jvm.ClassFile.Cond} {off : Int} (hd : decode md.1.2.2 pc = .ok (.if_icmp cc off, 3)) (hg : xi_tg pc off = true) (h : xi_I2 (fun x y t => xi_if cc x y (X' μ (xi_tgt pc off) ls t σ nc ns Q) (X' μ (pc + 3) ls t σ nc ns Q)) st) : W p l e R s m args below meth c H locs nc ns Z (F0 m pc lsA (st.map (xi_v ad))) := by
  obtain ⟨hx, hb, hml, hown, hts, hA, hKc, hfr, hlo, hce, hsl, hin⟩ := id hC
  obtain ⟨x, y, t, rfl, h⟩ := xi_I2_of h
  have htg : (pc : Int) + off = (xi_tgt pc off : Int) := xi_tgt_eq rfl (of_decide_eq_true hg)
  unfold xi_if at h
  cases cc <;> dsimp only at h
  · exact lv_icmp_eq hx hb hd htg (fun z => xi_keep hX' hmd hC hO hR hret _ _ _ (h.1 z) _ hl) (fun z => xi_keep hX' hmd hC hO hR hret _ _ _ (h.2 z) _ hl)
  · exact lv_icmp_ne hx hb hd htg (fun z => xi_keep hX' hmd hC hO hR hret _ _ _ (h.1 z) _ hl) (fun z => xi_keep hX' hmd hC hO hR hret _ _ _ (h.2 z) _ hl)
  · exact lv_icmp_lt hx hb hd htg (fun z => xi_keep hX' hmd hC hO hR hret _ _ _ (h.1 z) _ hl) (fun z => xi_keep hX' hmd hC hO hR hret _ _ _ (h.2 z) _ hl)
  · exact lv_icmp_ge hx hb hd htg (fun z => xi_keep hX' hmd hC hO hR hret _ _ _ (h.1 z) _ hl) (fun z => xi_keep hX' hmd hC hO hR hret _ _ _ (h.2 z) _ hl)
  · exact lv_icmp_gt hx hb hd htg (fun z => xi_keep hX' hmd hC hO hR hret _ _ _ (h.1 z) _ hl) (fun z => xi_keep hX' hmd hC hO hR hret _ _ _ (h.2 z) _ hl)
  · exact lv_icmp_le hx hb hd htg (fun z => xi_keep hX' hmd hC hO hR hret _ _ _ (h.1 z) _ hl) (fun z => xi_keep hX' hmd hC hO hR hret _ _ _ (h.2 z) _ hl)
theorem xi_s_goto {X' : xiX} (hX' : ∀ μ pc ls st σ nc ns Q, X' μ pc ls st σ nc ns Q → xi_OK T cl zs l G μ pc ls st σ nc ns Q) {μ pc : Nat} {ls : List (Option Value)} {st : List Value} {σ : xiS} {nc ns : Nat} {Q : xiQ} {md : xiM} (hmd : G.1[μ]? = some md) {p : Program} {e : Env} {s : State} {m : MethodId} {args : Array Value} {below : List Frame} {meth : Method} {c : Code} {R : Room} {Z : State → Prop} {D : va_G} {A : Nat → Prop} {ad : Nat → Nat} {ca : Nat → ClassId} {H : Heap} {locs : List Loc} {lsA : Array Slot}
    (hC : xi_C T cl G D p s m args meth c R md A) (hO : xi_O zs G A ad s s.heap) (hR : xi_R cl G D s A ad ca σ H locs) (hl : lv_has lsA md.2.1.1 (xi_l ad ls))
    (hret : ∀ (r : Option Value) (σ' : xiS) (ad' : Nat → Nat) (ca' : Nat → ClassId) (H' : Heap) (locs' : List Loc) (nc' ns' pc' : Nat) (lsA' : Array Slot), Q r σ' → xi_R cl G D s A ad' ca' σ' H' locs' → xi_A σ ad σ' ad' → nc' ≤ md.2.2.1.2.2.1 → ns' ≤ md.2.2.1.2.2.2 → xi_ret md pc' r →
      W p l e R s m args below meth c H' locs' nc' ns' Z (F0 m pc' lsA' (r.toList.map (xi_v ad'))))
    {off : Int} (hd : decode md.1.2.2 pc = .ok (.goto off, 3)) (hg : xi_tg pc off = true) (h : X' μ (xi_tgt pc off) ls st σ nc ns Q) : W p l e R s m args below meth c H locs nc ns Z (F0 m pc lsA (st.map (xi_v ad))) := by
  obtain ⟨hx, hb, hml, hown, hts, hA, hKc, hfr, hlo, hce, hsl, hin⟩ := id hC
  exact lv_goto hx hb hd (xi_tgt_eq rfl (of_decide_eq_true hg)) (xi_keep hX' hmd hC hO hR hret _ _ _ h _ hl)
theorem xi_s_tableswitch {X' : xiX} (hX' : ∀ μ pc ls st σ nc ns Q, X' μ pc ls st σ nc ns Q → xi_OK T cl zs l G μ pc ls st σ nc ns Q) {μ pc : Nat} {ls : List (Option Value)} {st : List Value} {σ : xiS} {nc ns : Nat} {Q : xiQ} {md : xiM} (hmd : G.1[μ]? = some md) {p : Program} {e : Env} {s : State} {m : MethodId} {args : Array Value} {below : List Frame} {meth : Method} {c : Code} {R : Room} {Z : State → Prop} {D : va_G} {A : Nat → Prop} {ad : Nat → Nat} {ca : Nat → ClassId} {H : Heap} {locs : List Loc} {lsA : Array Slot}
    (hC : xi_C T cl G D p s m args meth c R md A) (hO : xi_O zs G A ad s s.heap) (hR : xi_R cl G D s A ad ca σ H locs) (hl : lv_has lsA md.2.1.1 (xi_l ad ls))
    (hret : ∀ (r : Option Value) (σ' : xiS) (ad' : Nat → Nat) (ca' : Nat → ClassId) (H' : Heap) (locs' : List Loc) (nc' ns' pc' : Nat) (lsA' : Array Slot), Q r σ' → xi_R cl G D s A ad' ca' σ' H' locs' → xi_A σ ad σ' ad' → nc' ≤ md.2.2.1.2.2.1 → ns' ≤ md.2.2.1.2.2.2 → xi_ret md pc' r →
      W p l e R s m args below meth c H' locs' nc' ns' Z (F0 m pc' lsA' (r.toList.map (xi_v ad'))))
    {d lo hi : Int} {offs : Array Int} {len : Nat} (hd : decode md.1.2.2 pc = .ok (.tableswitch d lo hi offs, len)) (hg : offs.toList.length = (hi - lo + 1).toNat) (hg1 : xi_tg pc d = true) (hg2 : offs.toList.all (xi_tg pc) = true) (h : xi_I1 (fun x t => ((x.toInt < lo ∨ hi < x.toInt) → X' μ (xi_tgt pc d) ls t σ nc ns Q) ∧ xi_sw (fun g => X' μ g ls t σ nc ns Q) pc x lo offs.toList) st) : W p l e R s m args below meth c H locs nc ns Z (F0 m pc lsA (st.map (xi_v ad))) := by
  obtain ⟨hx, hb, hml, hown, hts, hA, hKc, hfr, hlo, hce, hsl, hin⟩ := id hC
  obtain ⟨x, t, rfl, h1, h2⟩ := xi_I1_of h
  by_cases h3 : x.toInt < lo ∨ hi < x.toInt
  · exact lv_tableOut hx hb hd h3 (xi_tgt_eq rfl (of_decide_eq_true hg1)) (xi_keep hX' hmd hC hO hR hret _ _ _ (h1 h3) _ hl)
  · have a1 : ¬ x.toInt < lo := fun z => h3 (Or.inl z)
    have a2 : ¬ hi < x.toInt := fun z => h3 (Or.inr z)
    have a3 : (x.toInt - lo).toNat < offs.toList.length := by rw [hg]; omega
    have a4 : offs.toList[(x.toInt - lo).toNat]? = some offs.toList[(x.toInt - lo).toNat] := List.getElem?_eq_getElem a3
    have a5 := List.all_eq_true.mp hg2 _ (List.getElem_mem a3)
    exact lv_tableIn hx hb hd a1 a2 (by rw [← Array.getElem?_toList]; exact a4) (xi_tgt_eq rfl (of_decide_eq_true a5)) (xi_keep hX' hmd hC hO hR hret _ _ _ (xi_sw_at _ _ h2 _ _ a4 (by omega)) _ hl)
end XIS2
end
section
section XIS3
theorem xi_w8_eq (ad : Nat → Nat) : ∀ t : List Value, ((t.map (xi_v ad)).map fun v => v.category).sum = xi_w8 t
  | [] => rfl
  | v :: t => by
    have ih := xi_w8_eq ad t
    simp only [List.map_cons, List.sum_cons, xi_v_cat, xi_w8] at ih ⊢
    rw [ih]
variable {T : List Cond} {cl : List vw_C} {zs : List (String × String × String)} {tf : Nat → Nat → FieldType} {l : Launch} {G : xiG}
theorem xi_s_getfield {X' : xiX} (hX' : ∀ μ pc ls st σ nc ns Q, X' μ pc ls st σ nc ns Q → xi_OK T cl zs l G μ pc ls st σ nc ns Q) {μ pc : Nat} {ls : List (Option Value)} {st : List Value} {σ : xiS} {nc ns : Nat} {Q : xiQ} {md : xiM} (hmd : G.1[μ]? = some md) {p : Program} {e : Env} {s : State} {m : MethodId} {args : Array Value} {below : List Frame} {meth : Method} {c : Code} {R : Room} {Z : State → Prop} {D : va_G} {A : Nat → Prop} {ad : Nat → Nat} {ca : Nat → ClassId} {H : Heap} {locs : List Loc} {lsA : Array Slot}
    (hC : xi_C T cl G D p s m args meth c R md A) (hO : xi_O zs G A ad s s.heap) (hR : xi_R cl G D s A ad ca σ H locs) (hl : lv_has lsA md.2.1.1 (xi_l ad ls))
    (hret : ∀ (r : Option Value) (σ' : xiS) (ad' : Nat → Nat) (ca' : Nat → ClassId) (H' : Heap) (locs' : List Loc) (nc' ns' pc' : Nat) (lsA' : Array Slot), Q r σ' → xi_R cl G D s A ad' ca' σ' H' locs' → xi_A σ ad σ' ad' → nc' ≤ md.2.2.1.2.2.1 → ns' ≤ md.2.2.1.2.2.2 → xi_ret md pc' r →
      W p l e R s m args below meth c H' locs' nc' ns' Z (F0 m pc' lsA' (r.toList.map (xi_v ad'))))
    {i o ci j : Nat} {q : vw_C} {t : List Value} (hst : st = .ref o :: t) (hd : decode md.1.2.2 pc = .ok (.getfield i, 3)) (ho : σ.1[o]? = some (0, ci)) (hq : cl[ci]? = some q) (hok : xi_okC T G.2.1 tf ci q) (hj : j < q.2.2) (hw : Cond.fieldLink md.1.2.1.cls i (q.2.1 j).1 (q.2.1 j).2.1 (q.2.1 j).2.2.1 ∈ T) (h : X' μ (pc + 3) ls (xi_fld G.2.1 σ o ci j :: t) σ nc ns Q) : W p l e R s m args below meth c H locs nc ns Z (F0 m pc lsA (st.map (xi_v ad))) := by
  obtain ⟨hx, hb, hml, hown, hts, hA, hKc, hfr, hlo, hce, hsl, hin⟩ := id hC
  obtain ⟨hP, hD, hS, hT, hF⟩ := id hR
  subst hst
  obtain ⟨k1, k2, k3, k4, k5⟩ := hok
  exact va_get (C := q.1) (T := q.2.1) (N := q.2.2) hx hb hts k1 hown (xi_K0 hKc) hP o (xi_ws_at ho) hq j hj (hts _ hw) (fun _ z => z) (xi_getD (by rw [← k2]; exact hj)) hd (xi_keep hX' hmd hC hO hR hret _ _ _ h _ hl)
theorem xi_s_putfield {X' : xiX} (hX' : ∀ μ pc ls st σ nc ns Q, X' μ pc ls st σ nc ns Q → xi_OK T cl zs l G μ pc ls st σ nc ns Q) {μ pc : Nat} {ls : List (Option Value)} {st : List Value} {σ : xiS} {nc ns : Nat} {Q : xiQ} {md : xiM} (hmd : G.1[μ]? = some md) {p : Program} {e : Env} {s : State} {m : MethodId} {args : Array Value} {below : List Frame} {meth : Method} {c : Code} {R : Room} {Z : State → Prop} {D : va_G} {A : Nat → Prop} {ad : Nat → Nat} {ca : Nat → ClassId} {H : Heap} {locs : List Loc} {lsA : Array Slot}
    (hC : xi_C T cl G D p s m args meth c R md A) (hO : xi_O zs G A ad s s.heap) (hR : xi_R cl G D s A ad ca σ H locs) (hl : lv_has lsA md.2.1.1 (xi_l ad ls))
    (hret : ∀ (r : Option Value) (σ' : xiS) (ad' : Nat → Nat) (ca' : Nat → ClassId) (H' : Heap) (locs' : List Loc) (nc' ns' pc' : Nat) (lsA' : Array Slot), Q r σ' → xi_R cl G D s A ad' ca' σ' H' locs' → xi_A σ ad σ' ad' → nc' ≤ md.2.2.1.2.2.1 → ns' ≤ md.2.2.1.2.2.2 → xi_ret md pc' r →
      W p l e R s m args below meth c H' locs' nc' ns' Z (F0 m pc' lsA' (r.toList.map (xi_v ad'))))
    {i o ci j : Nat} {q : vw_C} {v : Value} {t : List Value} {σ' : xiS} (hst : st = v :: .ref o :: t) (hd : decode md.1.2.2 pc = .ok (.putfield i, 3)) (ho : σ.1[o]? = some (0, ci)) (hq : cl[ci]? = some q) (hok : xi_okC T G.2.1 tf ci q) (hj : j < q.2.2) (hw : Cond.fieldLink md.1.2.1.cls i (q.2.1 j).1 (q.2.1 j).2.1 (q.2.1 j).2.2.1 ∈ T) (hfin : xi_fin md (q.2.1 j) = true) (hnw : narrow (tf ci j) (xi_v ad v) = xi_v ad v) (hft : fits (tf ci j) (xi_v ad v) = true)
    (h1 : σ'.1 = σ.1) (h2 : ∀ k, k ≠ o → σ'.2.1 k = σ.2.1 k) (h3 : ∀ k, k ≠ o → σ'.2.2.1 k = σ.2.2.1 k) (h4 : ∀ k, k ≠ o → σ'.2.2.2 k = σ.2.2.2 k) (h5 : xi_fld G.2.1 σ' o ci j = v) (h6 : ∀ k, k ≠ j → xi_fld G.2.1 σ' o ci k = xi_fld G.2.1 σ o ci k) (h7 : xi_F σ') (h : X' μ (pc + 3) ls t σ' nc ns Q) : W p l e R s m args below meth c H locs nc ns Z (F0 m pc lsA (st.map (xi_v ad))) := by
  obtain ⟨hx, hb, hml, hown, hts, hA, hKc, hfr, hlo, hce, hsl, hin⟩ := id hC
  obtain ⟨hP, hD, hS, hT, hF⟩ := id hR
  subst hst
  obtain ⟨k1, k2, k3, k4, k5⟩ := hok
  have e1 := xi_ws_set (fk := G.2.1) (ad := ad) (ca := ca) h1 ho h2 h3 h4
  have e2 : xi_cell G.2.1 ad ca σ' o (0, ci) = .inr (ci, ((List.range (G.2.1.getD ci []).length).map (fun k => xi_v ad (xi_fld G.2.1 σ o ci k))).set j (xi_v ad v)) := by
    rw [xi_cell_obj, xi_fs_set h5 h6]
  rw [e2] at e1
  have hlen : j < ((List.range (G.2.1.getD ci []).length).map (fun k => xi_v ad (xi_fld G.2.1 σ o ci k))).length := by rw [List.length_map, List.length_range, ← k2]; exact hj
  have kk : ∀ (H1 : Heap) (locs1 : List Loc), va_P D cl ((xi_ws G.2.1 ad ca σ).set o (ad o, .inr (ci, ((List.range (G.2.1.getD ci []).length).map (fun k => xi_v ad (xi_fld G.2.1 σ o ci k))).set j (xi_v ad v)))) H1 → va_D A ((xi_ws G.2.1 ad ca σ).set o (ad o, .inr (ci, ((List.range (G.2.1.getD ci []).length).map (fun k => xi_v ad (xi_fld G.2.1 σ o ci k))).set j (xi_v ad v)))) → va_S A s.heap H1 locs1 → W p l e R s m args below meth c H1 locs1 nc ns Z (F0 m (pc + 3) lsA (t.map (xi_v ad))) := by
    intro H1 locs1 hP1 hD1 hS1
    rw [← e1] at hP1 hD1
    refine hX' _ _ _ _ _ _ _ _ h md hmd p e s m args below meth c R Z D A ad ca H1 locs1 lsA hC hO ⟨hP1, hD1, hS1, ?_, h7⟩ hl ?_
    · intro k d hk; rw [h1] at hk; exact hT k d hk
    · intro r σ2 ad2 ca2 H2 locs2 nc2 ns2 pc2 lsA2 hQ hR2 hA2; exact hret r σ2 ad2 ca2 H2 locs2 nc2 ns2 pc2 lsA2 hQ hR2 ⟨fun k hk => hA2.1 k (by rw [h1]; exact hk), hA2.2.1, by rw [← h1]; exact hA2.2.2⟩
  cases hff : (q.2.1 j).2.2.2 with
  | false => exact va_put (C := q.1) (T := q.2.1) (N := q.2.2) hx hb hts k1 (tf ci) k4 k3 hown (xi_K0 hKc) hP hD hS o (xi_ws_at ho) hq j hj (hts _ hw) (fun _ z => z) hff (k4 j hj) hnw hft hlen hd kk
  | true =>
    unfold xi_fin at hfin
    rw [hff] at hfin
    simp only [Bool.and_eq_true, decide_eq_true_eq] at hfin
    exact va_putF (C := q.1) (T := q.2.1) (N := q.2.2) hx hb hts k1 (tf ci) k4 k3 hown (xi_K0 hKc) hP hD hS o (xi_ws_at ho) hq j hj (hts _ hw) (fun _ z => z) hff (hin hfin.1) hfin.2 (k4 j hj) hnw hft hlen hd kk
theorem xi_s_getstatic {X' : xiX} (hX' : ∀ μ pc ls st σ nc ns Q, X' μ pc ls st σ nc ns Q → xi_OK T cl zs l G μ pc ls st σ nc ns Q) {μ pc : Nat} {ls : List (Option Value)} {st : List Value} {σ : xiS} {nc ns : Nat} {Q : xiQ} {md : xiM} (hmd : G.1[μ]? = some md) {p : Program} {e : Env} {s : State} {m : MethodId} {args : Array Value} {below : List Frame} {meth : Method} {c : Code} {R : Room} {Z : State → Prop} {D : va_G} {A : Nat → Prop} {ad : Nat → Nat} {ca : Nat → ClassId} {H : Heap} {locs : List Loc} {lsA : Array Slot}
    (hC : xi_C T cl G D p s m args meth c R md A) (hO : xi_O zs G A ad s s.heap) (hR : xi_R cl G D s A ad ca σ H locs) (hl : lv_has lsA md.2.1.1 (xi_l ad ls))
    (hret : ∀ (r : Option Value) (σ' : xiS) (ad' : Nat → Nat) (ca' : Nat → ClassId) (H' : Heap) (locs' : List Loc) (nc' ns' pc' : Nat) (lsA' : Array Slot), Q r σ' → xi_R cl G D s A ad' ca' σ' H' locs' → xi_A σ ad σ' ad' → nc' ≤ md.2.2.1.2.2.1 → ns' ≤ md.2.2.1.2.2.2 → xi_ret md pc' r →
      W p l e R s m args below meth c H' locs' nc' ns' Z (F0 m pc' lsA' (r.toList.map (xi_v ad'))))
    {i j : Nat} {z : String × String × String} (hd : decode md.1.2.2 pc = .ok (.getstatic i, 3)) (hz : zs[j]? = some z) (hw : Cond.fieldLink md.1.2.1.cls i z.1 z.2.1 z.2.2 ∈ T) (h : X' μ (pc + 3) ls (.ref (xi_o + (j + 1)) :: st) σ nc ns Q) : W p l e R s m args below meth c H locs nc ns Z (F0 m pc lsA (st.map (xi_v ad))) := by
  obtain ⟨hx, hb, hml, hown, hts, hA, hKc, hfr, hlo, hce, hsl, hin⟩ := id hC
  obtain ⟨hP, hD, hS, hT, hF⟩ := id hR
  exact va_gets hx hb (hO.2 j z hz) hS hown (hts _ hw) (fun _ z => z) hd (xi_keep hX' hmd hC hO hR hret _ _ _ h _ hl)
theorem xi_s_iaload {X' : xiX} (hX' : ∀ μ pc ls st σ nc ns Q, X' μ pc ls st σ nc ns Q → xi_OK T cl zs l G μ pc ls st σ nc ns Q) {μ pc : Nat} {ls : List (Option Value)} {st : List Value} {σ : xiS} {nc ns : Nat} {Q : xiQ} {md : xiM} (hmd : G.1[μ]? = some md) {p : Program} {e : Env} {s : State} {m : MethodId} {args : Array Value} {below : List Frame} {meth : Method} {c : Code} {R : Room} {Z : State → Prop} {D : va_G} {A : Nat → Prop} {ad : Nat → Nat} {ca : Nat → ClassId} {H : Heap} {locs : List Loc} {lsA : Array Slot}
    (hC : xi_C T cl G D p s m args meth c R md A) (hO : xi_O zs G A ad s s.heap) (hR : xi_R cl G D s A ad ca σ H locs) (hl : lv_has lsA md.2.1.1 (xi_l ad ls))
    (hret : ∀ (r : Option Value) (σ' : xiS) (ad' : Nat → Nat) (ca' : Nat → ClassId) (H' : Heap) (locs' : List Loc) (nc' ns' pc' : Nat) (lsA' : Array Slot), Q r σ' → xi_R cl G D s A ad' ca' σ' H' locs' → xi_A σ ad σ' ad' → nc' ≤ md.2.2.1.2.2.1 → ns' ≤ md.2.2.1.2.2.2 → xi_ret md pc' r →
      W p l e R s m args below meth c H' locs' nc' ns' Z (F0 m pc' lsA' (r.toList.map (xi_v ad'))))
    {a n : Nat} {j : Int32} {t : List Value} (hst : st = .int j :: .ref a :: t) (hd : decode md.1.2.2 pc = .ok (.iaload, 1)) (ha : σ.1[a]? = some (1, n)) (hj : vp_in j n) (h : X' μ (pc + 1) ls (.int (σ.2.2.1 a j.toNatClampNeg) :: t) σ nc ns Q) : W p l e R s m args below meth c H locs nc ns Z (F0 m pc lsA (st.map (xi_v ad))) := by
  obtain ⟨hx, hb, hml, hown, hts, hA, hKc, hfr, hlo, hce, hsl, hin⟩ := id hC
  obtain ⟨hP, hD, hS, hT, hF⟩ := id hR
  subst hst
  exact va_iald hx hb (xi_K1 hKc ((hT a _ ha).1 rfl)) hP a 0 (xi_ws_at ha) rfl hj hd (xi_keep hX' hmd hC hO hR hret _ _ _ h _ hl)
theorem xi_s_laload {X' : xiX} (hX' : ∀ μ pc ls st σ nc ns Q, X' μ pc ls st σ nc ns Q → xi_OK T cl zs l G μ pc ls st σ nc ns Q) {μ pc : Nat} {ls : List (Option Value)} {st : List Value} {σ : xiS} {nc ns : Nat} {Q : xiQ} {md : xiM} (hmd : G.1[μ]? = some md) {p : Program} {e : Env} {s : State} {m : MethodId} {args : Array Value} {below : List Frame} {meth : Method} {c : Code} {R : Room} {Z : State → Prop} {D : va_G} {A : Nat → Prop} {ad : Nat → Nat} {ca : Nat → ClassId} {H : Heap} {locs : List Loc} {lsA : Array Slot}
    (hC : xi_C T cl G D p s m args meth c R md A) (hO : xi_O zs G A ad s s.heap) (hR : xi_R cl G D s A ad ca σ H locs) (hl : lv_has lsA md.2.1.1 (xi_l ad ls))
    (hret : ∀ (r : Option Value) (σ' : xiS) (ad' : Nat → Nat) (ca' : Nat → ClassId) (H' : Heap) (locs' : List Loc) (nc' ns' pc' : Nat) (lsA' : Array Slot), Q r σ' → xi_R cl G D s A ad' ca' σ' H' locs' → xi_A σ ad σ' ad' → nc' ≤ md.2.2.1.2.2.1 → ns' ≤ md.2.2.1.2.2.2 → xi_ret md pc' r →
      W p l e R s m args below meth c H' locs' nc' ns' Z (F0 m pc' lsA' (r.toList.map (xi_v ad'))))
    {a n : Nat} {j : Int32} {t : List Value} (hst : st = .int j :: .ref a :: t) (hd : decode md.1.2.2 pc = .ok (.laload, 1)) (ha : σ.1[a]? = some (2, n)) (hj : vp_in j n) (h : X' μ (pc + 1) ls (.long (σ.2.2.2 a j.toNatClampNeg) :: t) σ nc ns Q) : W p l e R s m args below meth c H locs nc ns Z (F0 m pc lsA (st.map (xi_v ad))) := by
  obtain ⟨hx, hb, hml, hown, hts, hA, hKc, hfr, hlo, hce, hsl, hin⟩ := id hC
  obtain ⟨hP, hD, hS, hT, hF⟩ := id hR
  subst hst
  exact va_lald hx hb (xi_K1 hKc ((hT a _ ha).2 rfl)) hP a 0 (xi_ws_at ha) rfl hj hd (xi_keep hX' hmd hC hO hR hret _ _ _ h _ hl)
theorem xi_s_iastore {X' : xiX} (hX' : ∀ μ pc ls st σ nc ns Q, X' μ pc ls st σ nc ns Q → xi_OK T cl zs l G μ pc ls st σ nc ns Q) {μ pc : Nat} {ls : List (Option Value)} {st : List Value} {σ : xiS} {nc ns : Nat} {Q : xiQ} {md : xiM} (hmd : G.1[μ]? = some md) {p : Program} {e : Env} {s : State} {m : MethodId} {args : Array Value} {below : List Frame} {meth : Method} {c : Code} {R : Room} {Z : State → Prop} {D : va_G} {A : Nat → Prop} {ad : Nat → Nat} {ca : Nat → ClassId} {H : Heap} {locs : List Loc} {lsA : Array Slot}
    (hC : xi_C T cl G D p s m args meth c R md A) (hO : xi_O zs G A ad s s.heap) (hR : xi_R cl G D s A ad ca σ H locs) (hl : lv_has lsA md.2.1.1 (xi_l ad ls))
    (hret : ∀ (r : Option Value) (σ' : xiS) (ad' : Nat → Nat) (ca' : Nat → ClassId) (H' : Heap) (locs' : List Loc) (nc' ns' pc' : Nat) (lsA' : Array Slot), Q r σ' → xi_R cl G D s A ad' ca' σ' H' locs' → xi_A σ ad σ' ad' → nc' ≤ md.2.2.1.2.2.1 → ns' ≤ md.2.2.1.2.2.2 → xi_ret md pc' r →
      W p l e R s m args below meth c H' locs' nc' ns' Z (F0 m pc' lsA' (r.toList.map (xi_v ad'))))
    {a n : Nat} {j : Int32} {x : Int32} {t : List Value} (hst : st = .int x :: .int j :: .ref a :: t) (hd : decode md.1.2.2 pc = .ok (.iastore, 1)) (ha : σ.1[a]? = some (1, n)) (hj : vp_in j n) (h : X' μ (pc + 1) ls t (σ.1, σ.2.1, xi_u σ.2.2.1 a j.toNatClampNeg x, σ.2.2.2) nc ns Q) : W p l e R s m args below meth c H locs nc ns Z (F0 m pc lsA (st.map (xi_v ad))) := by
  obtain ⟨hx, hb, hml, hown, hts, hA, hKc, hfr, hlo, hce, hsl, hin⟩ := id hC
  obtain ⟨hP, hD, hS, hT, hF⟩ := id hR
  subst hst
  have e1 := xi_ws_set (fk := G.2.1) (ad := ad) (ca := ca) (σ := σ) (σ' := (σ.1, σ.2.1, xi_u σ.2.2.1 a j.toNatClampNeg x, σ.2.2.2)) (o := a) (d := (1, n)) rfl ha (fun k hk => rfl) (fun k hk => xi_une hk) (fun k hk => rfl)
  have e2 : xi_cell G.2.1 ad ca (σ.1, σ.2.1, xi_u σ.2.2.1 a j.toNatClampNeg x, σ.2.2.2) a (1, n) = .inl (ca a, n, .inl (upd (σ.2.2.1 a) j.toNatClampNeg x)) := by
    show Sum.inl (ca a, n, Sum.inl ((xi_u σ.2.2.1 a j.toNatClampNeg x) a)) = _
    rw [xi_upd]
  rw [e2] at e1
  refine va_iast hx hb (xi_K1 hKc ((hT a _ ha).1 rfl)) hP hD hS a 0 (xi_ws_at ha) rfl hj hd (fun H1 locs1 hP1 hD1 hS1 => ?_)
  have hP2 : va_P D cl (xi_ws G.2.1 ad ca (σ.1, σ.2.1, xi_u σ.2.2.1 a j.toNatClampNeg x, σ.2.2.2)) H1 := by rw [e1]; exact hP1
  have hD2 : va_D A (xi_ws G.2.1 ad ca (σ.1, σ.2.1, xi_u σ.2.2.1 a j.toNatClampNeg x, σ.2.2.2)) := by rw [e1]; exact hD1
  exact hX' _ _ _ _ _ _ _ _ h md hmd p e s m args below meth c R Z D A ad ca H1 locs1 lsA hC hO ⟨hP2, hD2, hS1, hT, hF⟩ hl hret
theorem xi_s_lastore {X' : xiX} (hX' : ∀ μ pc ls st σ nc ns Q, X' μ pc ls st σ nc ns Q → xi_OK T cl zs l G μ pc ls st σ nc ns Q) {μ pc : Nat} {ls : List (Option Value)} {st : List Value} {σ : xiS} {nc ns : Nat} {Q : xiQ} {md : xiM} (hmd : G.1[μ]? = some md) {p : Program} {e : Env} {s : State} {m : MethodId} {args : Array Value} {below : List Frame} {meth : Method} {c : Code} {R : Room} {Z : State → Prop} {D : va_G} {A : Nat → Prop} {ad : Nat → Nat} {ca : Nat → ClassId} {H : Heap} {locs : List Loc} {lsA : Array Slot}
    (hC : xi_C T cl G D p s m args meth c R md A) (hO : xi_O zs G A ad s s.heap) (hR : xi_R cl G D s A ad ca σ H locs) (hl : lv_has lsA md.2.1.1 (xi_l ad ls))
    (hret : ∀ (r : Option Value) (σ' : xiS) (ad' : Nat → Nat) (ca' : Nat → ClassId) (H' : Heap) (locs' : List Loc) (nc' ns' pc' : Nat) (lsA' : Array Slot), Q r σ' → xi_R cl G D s A ad' ca' σ' H' locs' → xi_A σ ad σ' ad' → nc' ≤ md.2.2.1.2.2.1 → ns' ≤ md.2.2.1.2.2.2 → xi_ret md pc' r →
      W p l e R s m args below meth c H' locs' nc' ns' Z (F0 m pc' lsA' (r.toList.map (xi_v ad'))))
    {a n : Nat} {j : Int32} {x : Int64} {t : List Value} (hst : st = .long x :: .int j :: .ref a :: t) (hd : decode md.1.2.2 pc = .ok (.lastore, 1)) (ha : σ.1[a]? = some (2, n)) (hj : vp_in j n) (h : X' μ (pc + 1) ls t (σ.1, σ.2.1, σ.2.2.1, xi_u σ.2.2.2 a j.toNatClampNeg x) nc ns Q) : W p l e R s m args below meth c H locs nc ns Z (F0 m pc lsA (st.map (xi_v ad))) := by
  obtain ⟨hx, hb, hml, hown, hts, hA, hKc, hfr, hlo, hce, hsl, hin⟩ := id hC
  obtain ⟨hP, hD, hS, hT, hF⟩ := id hR
  subst hst
  have e1 := xi_ws_set (fk := G.2.1) (ad := ad) (ca := ca) (σ := σ) (σ' := (σ.1, σ.2.1, σ.2.2.1, xi_u σ.2.2.2 a j.toNatClampNeg x)) (o := a) (d := (2, n)) rfl ha (fun k hk => rfl) (fun k hk => rfl) (fun k hk => xi_une hk)
  have e2 : xi_cell G.2.1 ad ca (σ.1, σ.2.1, σ.2.2.1, xi_u σ.2.2.2 a j.toNatClampNeg x) a (2, n) = .inl (ca a, n, .inr (.inl (vp_updL (σ.2.2.2 a) j.toNatClampNeg x))) := by
    show Sum.inl (ca a, n, Sum.inr (Sum.inl ((xi_u σ.2.2.2 a j.toNatClampNeg x) a))) = _
    rw [xi_updL]
  rw [e2] at e1
  refine va_last hx hb (xi_K1 hKc ((hT a _ ha).2 rfl)) hP hD hS a 0 (xi_ws_at ha) rfl hj hd (fun H1 locs1 hP1 hD1 hS1 => ?_)
  have hP2 : va_P D cl (xi_ws G.2.1 ad ca (σ.1, σ.2.1, σ.2.2.1, xi_u σ.2.2.2 a j.toNatClampNeg x)) H1 := by rw [e1]; exact hP1
  have hD2 : va_D A (xi_ws G.2.1 ad ca (σ.1, σ.2.1, σ.2.2.1, xi_u σ.2.2.2 a j.toNatClampNeg x)) := by rw [e1]; exact hD1
  exact hX' _ _ _ _ _ _ _ _ h md hmd p e s m args below meth c R Z D A ad ca H1 locs1 lsA hC hO ⟨hP2, hD2, hS1, hT, hF⟩ hl hret
theorem xi_s_aloadO {X' : xiX} (hX' : ∀ μ pc ls st σ nc ns Q, X' μ pc ls st σ nc ns Q → xi_OK T cl zs l G μ pc ls st σ nc ns Q) {μ pc : Nat} {ls : List (Option Value)} {st : List Value} {σ : xiS} {nc ns : Nat} {Q : xiQ} {md : xiM} (hmd : G.1[μ]? = some md) {p : Program} {e : Env} {s : State} {m : MethodId} {args : Array Value} {below : List Frame} {meth : Method} {c : Code} {R : Room} {Z : State → Prop} {D : va_G} {A : Nat → Prop} {ad : Nat → Nat} {ca : Nat → ClassId} {H : Heap} {locs : List Loc} {lsA : Array Slot}
    (hC : xi_C T cl G D p s m args meth c R md A) (hO : xi_O zs G A ad s s.heap) (hR : xi_R cl G D s A ad ca σ H locs) (hl : lv_has lsA md.2.1.1 (xi_l ad ls))
    (hret : ∀ (r : Option Value) (σ' : xiS) (ad' : Nat → Nat) (ca' : Nat → ClassId) (H' : Heap) (locs' : List Loc) (nc' ns' pc' : Nat) (lsA' : Array Slot), Q r σ' → xi_R cl G D s A ad' ca' σ' H' locs' → xi_A σ ad σ' ad' → nc' ≤ md.2.2.1.2.2.1 → ns' ≤ md.2.2.1.2.2.2 → xi_ret md pc' r →
      W p l e R s m args below meth c H' locs' nc' ns' Z (F0 m pc' lsA' (r.toList.map (xi_v ad'))))
    {j0 : Nat} {q : Nat × (Nat → Int32)} {j : Int32} {t : List Value} (hst : st = .int j :: .ref (xi_o + j0) :: t) (hd : decode md.1.2.2 pc = .ok (.iaload, 1)) (hq : G.2.2[j0]? = some q) (hj : vp_in j q.1) (h : X' μ (pc + 1) ls (.int (q.2 j.toNatClampNeg) :: t) σ nc ns Q) : W p l e R s m args below meth c H locs nc ns Z (F0 m pc lsA (st.map (xi_v ad))) := by
  obtain ⟨hx, hb, hml, hown, hts, hA, hKc, hfr, hlo, hce, hsl, hin⟩ := id hC
  obtain ⟨hP, hD, hS, hT, hF⟩ := id hR
  subst hst
  exact va_ti hx hb (hO.1 j0 q hq) hS hj rfl hd (xi_keep hX' hmd hC hO hR hret _ _ _ h _ hl)
theorem xi_s_alenO {X' : xiX} (hX' : ∀ μ pc ls st σ nc ns Q, X' μ pc ls st σ nc ns Q → xi_OK T cl zs l G μ pc ls st σ nc ns Q) {μ pc : Nat} {ls : List (Option Value)} {st : List Value} {σ : xiS} {nc ns : Nat} {Q : xiQ} {md : xiM} (hmd : G.1[μ]? = some md) {p : Program} {e : Env} {s : State} {m : MethodId} {args : Array Value} {below : List Frame} {meth : Method} {c : Code} {R : Room} {Z : State → Prop} {D : va_G} {A : Nat → Prop} {ad : Nat → Nat} {ca : Nat → ClassId} {H : Heap} {locs : List Loc} {lsA : Array Slot}
    (hC : xi_C T cl G D p s m args meth c R md A) (hO : xi_O zs G A ad s s.heap) (hR : xi_R cl G D s A ad ca σ H locs) (hl : lv_has lsA md.2.1.1 (xi_l ad ls))
    (hret : ∀ (r : Option Value) (σ' : xiS) (ad' : Nat → Nat) (ca' : Nat → ClassId) (H' : Heap) (locs' : List Loc) (nc' ns' pc' : Nat) (lsA' : Array Slot), Q r σ' → xi_R cl G D s A ad' ca' σ' H' locs' → xi_A σ ad σ' ad' → nc' ≤ md.2.2.1.2.2.1 → ns' ≤ md.2.2.1.2.2.2 → xi_ret md pc' r →
      W p l e R s m args below meth c H' locs' nc' ns' Z (F0 m pc' lsA' (r.toList.map (xi_v ad'))))
    {j0 : Nat} {q : Nat × (Nat → Int32)} {t : List Value} (hst : st = .ref (xi_o + j0) :: t) (hd : decode md.1.2.2 pc = .ok (.arraylength, 1)) (hq : G.2.2[j0]? = some q) (h : X' μ (pc + 1) ls (.int (Int32.ofNat q.1) :: t) σ nc ns Q) : W p l e R s m args below meth c H locs nc ns Z (F0 m pc lsA (st.map (xi_v ad))) := by
  obtain ⟨hx, hb, hml, hown, hts, hA, hKc, hfr, hlo, hce, hsl, hin⟩ := id hC
  obtain ⟨hP, hD, hS, hT, hF⟩ := id hR
  subst hst
  exact va_tlen hx hb (hO.1 j0 q hq) hS rfl hd (xi_keep hX' hmd hC hO hR hret _ _ _ h _ hl)
theorem xi_s_alen1 {X' : xiX} (hX' : ∀ μ pc ls st σ nc ns Q, X' μ pc ls st σ nc ns Q → xi_OK T cl zs l G μ pc ls st σ nc ns Q) {μ pc : Nat} {ls : List (Option Value)} {st : List Value} {σ : xiS} {nc ns : Nat} {Q : xiQ} {md : xiM} (hmd : G.1[μ]? = some md) {p : Program} {e : Env} {s : State} {m : MethodId} {args : Array Value} {below : List Frame} {meth : Method} {c : Code} {R : Room} {Z : State → Prop} {D : va_G} {A : Nat → Prop} {ad : Nat → Nat} {ca : Nat → ClassId} {H : Heap} {locs : List Loc} {lsA : Array Slot}
    (hC : xi_C T cl G D p s m args meth c R md A) (hO : xi_O zs G A ad s s.heap) (hR : xi_R cl G D s A ad ca σ H locs) (hl : lv_has lsA md.2.1.1 (xi_l ad ls))
    (hret : ∀ (r : Option Value) (σ' : xiS) (ad' : Nat → Nat) (ca' : Nat → ClassId) (H' : Heap) (locs' : List Loc) (nc' ns' pc' : Nat) (lsA' : Array Slot), Q r σ' → xi_R cl G D s A ad' ca' σ' H' locs' → xi_A σ ad σ' ad' → nc' ≤ md.2.2.1.2.2.1 → ns' ≤ md.2.2.1.2.2.2 → xi_ret md pc' r →
      W p l e R s m args below meth c H' locs' nc' ns' Z (F0 m pc' lsA' (r.toList.map (xi_v ad'))))
    {a n : Nat} {t : List Value} (hst : st = .ref a :: t) (hd : decode md.1.2.2 pc = .ok (.arraylength, 1)) (ha : σ.1[a]? = some (1, n)) (h : X' μ (pc + 1) ls (.int (Int32.ofNat n) :: t) σ nc ns Q) : W p l e R s m args below meth c H locs nc ns Z (F0 m pc lsA (st.map (xi_v ad))) := by
  obtain ⟨hx, hb, hml, hown, hts, hA, hKc, hfr, hlo, hce, hsl, hin⟩ := id hC
  obtain ⟨hP, hD, hS, hT, hF⟩ := id hR
  subst hst
  exact va_alen hx hb (xi_K1 hKc ((hT a _ ha).1 rfl)) hP a 0 (xi_ws_at ha) rfl rfl hd (xi_keep hX' hmd hC hO hR hret _ _ _ h _ hl)
theorem xi_s_alen2 {X' : xiX} (hX' : ∀ μ pc ls st σ nc ns Q, X' μ pc ls st σ nc ns Q → xi_OK T cl zs l G μ pc ls st σ nc ns Q) {μ pc : Nat} {ls : List (Option Value)} {st : List Value} {σ : xiS} {nc ns : Nat} {Q : xiQ} {md : xiM} (hmd : G.1[μ]? = some md) {p : Program} {e : Env} {s : State} {m : MethodId} {args : Array Value} {below : List Frame} {meth : Method} {c : Code} {R : Room} {Z : State → Prop} {D : va_G} {A : Nat → Prop} {ad : Nat → Nat} {ca : Nat → ClassId} {H : Heap} {locs : List Loc} {lsA : Array Slot}
    (hC : xi_C T cl G D p s m args meth c R md A) (hO : xi_O zs G A ad s s.heap) (hR : xi_R cl G D s A ad ca σ H locs) (hl : lv_has lsA md.2.1.1 (xi_l ad ls))
    (hret : ∀ (r : Option Value) (σ' : xiS) (ad' : Nat → Nat) (ca' : Nat → ClassId) (H' : Heap) (locs' : List Loc) (nc' ns' pc' : Nat) (lsA' : Array Slot), Q r σ' → xi_R cl G D s A ad' ca' σ' H' locs' → xi_A σ ad σ' ad' → nc' ≤ md.2.2.1.2.2.1 → ns' ≤ md.2.2.1.2.2.2 → xi_ret md pc' r →
      W p l e R s m args below meth c H' locs' nc' ns' Z (F0 m pc' lsA' (r.toList.map (xi_v ad'))))
    {a n : Nat} {t : List Value} (hst : st = .ref a :: t) (hd : decode md.1.2.2 pc = .ok (.arraylength, 1)) (ha : σ.1[a]? = some (2, n)) (h : X' μ (pc + 1) ls (.int (Int32.ofNat n) :: t) σ nc ns Q) : W p l e R s m args below meth c H locs nc ns Z (F0 m pc lsA (st.map (xi_v ad))) := by
  obtain ⟨hx, hb, hml, hown, hts, hA, hKc, hfr, hlo, hce, hsl, hin⟩ := id hC
  obtain ⟨hP, hD, hS, hT, hF⟩ := id hR
  subst hst
  exact va_alen hx hb (xi_K1 hKc ((hT a _ ha).2 rfl)) hP a 0 (xi_ws_at ha) rfl rfl hd (xi_keep hX' hmd hC hO hR hret _ _ _ h _ hl)
theorem xi_s_objInit {X' : xiX} (hX' : ∀ μ pc ls st σ nc ns Q, X' μ pc ls st σ nc ns Q → xi_OK T cl zs l G μ pc ls st σ nc ns Q) {μ pc : Nat} {ls : List (Option Value)} {st : List Value} {σ : xiS} {nc ns : Nat} {Q : xiQ} {md : xiM} (hmd : G.1[μ]? = some md) {p : Program} {e : Env} {s : State} {m : MethodId} {args : Array Value} {below : List Frame} {meth : Method} {c : Code} {R : Room} {Z : State → Prop} {D : va_G} {A : Nat → Prop} {ad : Nat → Nat} {ca : Nat → ClassId} {H : Heap} {locs : List Loc} {lsA : Array Slot}
    (hC : xi_C T cl G D p s m args meth c R md A) (hO : xi_O zs G A ad s s.heap) (hR : xi_R cl G D s A ad ca σ H locs) (hl : lv_has lsA md.2.1.1 (xi_l ad ls))
    (hret : ∀ (r : Option Value) (σ' : xiS) (ad' : Nat → Nat) (ca' : Nat → ClassId) (H' : Heap) (locs' : List Loc) (nc' ns' pc' : Nat) (lsA' : Array Slot), Q r σ' → xi_R cl G D s A ad' ca' σ' H' locs' → xi_A σ ad σ' ad' → nc' ≤ md.2.2.1.2.2.1 → ns' ≤ md.2.2.1.2.2.2 → xi_ret md pc' r →
      W p l e R s m args below meth c H' locs' nc' ns' Z (F0 m pc' lsA' (r.toList.map (xi_v ad'))))
    {i o : Nat} {t : List Value} (hst : st = .ref o :: t) (hd : decode md.1.2.2 pc = .ok (.invokespecial i, 3)) (hw : Cond.methodLink md.1.2.1.cls i Lib.objectInit ∈ T) (hw2 : Cond.instanceMethod Lib.objectInit ∈ T) (hw3 : Cond.code Lib.objectInit ⟨#[0xb1]⟩ 1 none ∈ T) (h : xi_b (Nat.ble 1 md.2.2.1.1 && Nat.ble (xi_w8 t + 12) md.2.2.1.2.1) (X' μ (pc + 3) ls t σ nc ns Q)) : W p l e R s m args below meth c H locs nc ns Z (F0 m pc lsA (st.map (xi_v ad))) := by
  obtain ⟨hx, hb, hml, hown, hts, hA, hKc, hfr, hlo, hce, hsl, hin⟩ := id hC
  obtain ⟨hP, hD, hS, hT, hF⟩ := id hR
  subst hst
  obtain ⟨hc, h⟩ := xi_b_of h
  simp only [Bool.and_eq_true, Nat.ble_eq] at hc
  refine W.objInit hx hb hown (hts _ hw) (hts _ hw2) (hts _ hw3) rfl (by rw [hml]; exact hl.1) rfl hd (Nat.le_trans hc.1 hfr) ?_ (xi_keep hX' hmd hC hO hR hret _ _ _ h _ hl)
  have e : ((t.map (xi_v ad)).map fun v => v.category).sum = xi_w8 t := xi_w8_eq ad t
  rw [e]
  have : 2 * (F0 m pc lsA ((Value.ref o :: t).map (xi_v ad))).monitorRoom = 0 := rfl
  omega
end XIS3
end
section
section XIS4
variable {T : List Cond} {cl : List vw_C} {zs : List (String × String × String)} {tf : Nat → Nat → FieldType} {l : Launch} {G : xiG}
/-- the address map and the classes with one cell more -/
theorem xi_up_ne {α : Type} {f : Nat → α} {n : Nat} {x : α} {k : Nat} (h : k ≠ n) : (fun j => if j = n then x else f j) k = f k := if_neg h
theorem xi_up_eq {α : Type} {f : Nat → α} {n : Nat} {x : α} : (fun j => if j = n then x else f j) n = x := if_pos rfl
theorem xi_A_push {σ σ' : xiS} {ad : Nat → Nat} {q : Nat} {d : Nat × Nat} (hs : σ'.1 = σ.1 ++ [d]) (hn : σ.1.length < xi_o) : xi_A σ ad σ' (fun j => if j = σ.1.length then q else ad j) :=
  ⟨fun k hk => if_neg (by omega), fun k hk => if_neg (by omega), by rw [hs]; simp⟩
theorem xi_O_ad {A : Nat → Prop} {ad ad' : Nat → Nat} {U : State} {H : Heap} (h : xi_O zs G A ad U H) (ha : ∀ k, xi_o ≤ k → ad' k = ad k) : xi_O zs G A ad' U H := by
  refine ⟨fun j q hq => ?_, fun j z hz => ?_⟩
  · rw [ha _ (Nat.le_add_right _ _)]; exact h.1 j q hq
  · rw [ha _ (Nat.le_add_right _ _)]; exact h.2 j z hz
theorem xi_F_push {σ σ' : xiS} {d : Nat × Nat} (hF : xi_F σ) (hs : σ'.1 = σ.1 ++ [d]) (hr : σ'.2.1 = xi_z σ.2.1 σ.1.length 0) (hn : σ.1.length + 1 < xi_o) : xi_F σ' := by
  have hl : σ'.1.length = σ.1.length + 1 := by rw [hs]; simp
  refine ⟨fun k j q hk hq => ?_, by omega⟩
  rw [hr] at hq
  by_cases e : k = σ.1.length
  · subst e
    rw [xi_zeq] at hq
    cases hq
  · rw [xi_zne e] at hq
    have := hF.1 k j q (by omega) hq
    omega
theorem xi_s_newa1 {X' : xiX} (hX' : ∀ μ pc ls st σ nc ns Q, X' μ pc ls st σ nc ns Q → xi_OK T cl zs l G μ pc ls st σ nc ns Q) {μ pc : Nat} {ls : List (Option Value)} {st : List Value} {σ : xiS} {nc ns : Nat} {Q : xiQ} {md : xiM} (hmd : G.1[μ]? = some md) {p : Program} {e : Env} {s : State} {m : MethodId} {args : Array Value} {below : List Frame} {meth : Method} {c : Code} {R : Room} {Z : State → Prop} {D : va_G} {A : Nat → Prop} {ad : Nat → Nat} {ca : Nat → ClassId} {H : Heap} {locs : List Loc} {lsA : Array Slot}
    (hC : xi_C T cl G D p s m args meth c R md A) (hO : xi_O zs G A ad s s.heap) (hR : xi_R cl G D s A ad ca σ H locs) (hl : lv_has lsA md.2.1.1 (xi_l ad ls))
    (hret : ∀ (r : Option Value) (σ' : xiS) (ad' : Nat → Nat) (ca' : Nat → ClassId) (H' : Heap) (locs' : List Loc) (nc' ns' pc' : Nat) (lsA' : Array Slot), Q r σ' → xi_R cl G D s A ad' ca' σ' H' locs' → xi_A σ ad σ' ad' → nc' ≤ md.2.2.1.2.2.1 → ns' ≤ md.2.2.1.2.2.2 → xi_ret md pc' r →
      W p l e R s m args below meth c H' locs' nc' ns' Z (F0 m pc' lsA' (r.toList.map (xi_v ad'))))
    {n : Int32} {t : List Value} (hst : st = .int n :: t) (hd : decode md.1.2.2 pc = .ok (.newarray .int, 2)) (hw : Cond.arrayClass (newarray.typeOf .int) ∈ T) (hn : ¬ n < 0) (h1 : nc + 1 ≤ md.2.2.1.2.2.1) (h2 : ns + n.toNatClampNeg ≤ md.2.2.1.2.2.2) (h3 : n.toNatClampNeg ≤ 65536) (h4 : σ.1.length + 1 < xi_o) (h5 : xi_wfl σ.1.length ls = true) (h6 : xi_wfs σ.1.length t = true) (h : X' μ (pc + 2) ls (.ref σ.1.length :: t) (σ.1 ++ [(1, n.toNatClampNeg)], xi_z σ.2.1 σ.1.length 0, xi_z σ.2.2.1 σ.1.length 0, xi_z σ.2.2.2 σ.1.length 0) (nc + 1) (ns + n.toNatClampNeg) Q) : W p l e R s m args below meth c H locs nc ns Z (F0 m pc lsA (st.map (xi_v ad))) := by
  obtain ⟨hx, hb, hml, hown, hts, hA, hKc, hfr, hlo, hce, hsl, hin⟩ := id hC
  obtain ⟨hP, hD, hS, hT, hF⟩ := id hR
  subst hst
  refine va_newa (ty := .int) (tys := []) (a0 := (n.toNatClampNeg, .inl (fun _ => 0))) hx hb (hts _ hw) rfl (xi_K0 hKc) hP hD hS hA (fun cA => rfl) hn rfl ?_ (Nat.le_trans h1 hce) (Nat.le_trans h2 hsl) hd (fun q cA H1 hK1 hP1 hD1 hS1 => ?_)
  · show n.toNatClampNeg * 4 ≤ 536870912; omega
  obtain ⟨ad', ead⟩ : ∃ f : Nat → Nat, f = fun j => if j = σ.1.length then q else ad j := ⟨_, rfl⟩
  obtain ⟨ca', eca⟩ : ∃ f : Nat → ClassId, f = fun j => if j = σ.1.length then cA else ca j := ⟨_, rfl⟩
  obtain ⟨σ', es⟩ : ∃ z : xiS, z = (σ.1 ++ [(1, n.toNatClampNeg)], xi_z σ.2.1 σ.1.length 0, xi_z σ.2.2.1 σ.1.length 0, xi_z σ.2.2.2 σ.1.length 0) := ⟨_, rfl⟩
  rw [← es] at h
  have s1 : σ'.1 = σ.1 ++ [(1, n.toNatClampNeg)] := by rw [es]
  have hA2 : xi_A σ ad σ' ad' := by rw [ead]; exact xi_A_push s1 (by omega)
  have e1 : xi_ws G.2.1 ad' ca' σ' = xi_ws G.2.1 ad ca σ ++ [(q, .inl (cA, (n.toNatClampNeg, .inl (fun _ => 0))))] := by
    rw [xi_ws_push (ad := ad) (ca := ca) (ad' := ad') (ca' := ca') s1 (fun k hk => by rw [es]; exact xi_zne (by omega)) (fun k hk => by rw [es]; exact xi_zne (by omega)) (fun k hk => by rw [es]; exact xi_zne (by omega)) hA2.1 (fun k hk => by rw [eca]; exact if_neg (by omega)) hF.1]
    have a1 : ad' σ.1.length = q := by rw [ead]; exact if_pos rfl
    have a2 : ca' σ.1.length = cA := by rw [eca]; exact if_pos rfl
    rw [a1]
    congr 3
    show Sum.inl (ca' σ.1.length, n.toNatClampNeg, Sum.inl (σ'.2.2.1 σ.1.length)) = _
    rw [a2, es]
    show Sum.inl (cA, n.toNatClampNeg, Sum.inl ((xi_z σ.2.2.1 σ.1.length 0) σ.1.length)) = _
    rw [xi_zeq]
  have hP2 : va_P D cl (xi_ws G.2.1 ad' ca' σ') H1 := by rw [e1]; exact hP1
  have hD2 : va_D A (xi_ws G.2.1 ad' ca' σ') := by rw [e1]; exact hD1
  have hT2 : xi_T ca' σ' s := by
    intro k d hk
    rw [s1] at hk
    by_cases e : k = σ.1.length
    · subst e
      have : d = (1, n.toNatClampNeg) := by simpa using hk.symm
      subst this
      have a2 : ca' σ.1.length = cA := by rw [eca]; exact if_pos rfl
      rw [a2]
      exact ⟨fun z => hK1.2 0 _ rfl, fun z => absurd (show (1 : Nat) = 2 from z) (by decide)⟩
    · have e2 : k < σ.1.length := by
        have := (List.getElem?_eq_some_iff.mp hk).1
        simp at this
        omega
      rw [List.getElem?_append_left e2] at hk
      have a2 : ca' k = ca k := by rw [eca]; exact if_neg e
      rw [a2]
      exact hT k d hk
  have hF2 : xi_F σ' := xi_F_push hF s1 (by rw [es]) h4
  have a1 : ad' σ.1.length = q := by rw [ead]; exact if_pos rfl
  have est : Value.ref q :: t.map (xi_v ad) = (Value.ref σ.1.length :: t).map (xi_v ad') := by
    rw [List.map_cons, xi_wfs_v hA2 t h6]
    show _ = Value.ref (ad' σ.1.length) :: _
    rw [a1]
  rw [show (Value.ref q :: List.map (xi_v ad) t) = (Value.ref σ.1.length :: t).map (xi_v ad') from est]
  exact hX' _ _ _ _ _ _ _ _ h md hmd p e s m args below meth c R Z D A ad' ca' H1 locs lsA hC (xi_O_ad hO hA2.2.1) ⟨hP2, hD2, hS1, hT2, hF2⟩ (xi_has hl (xi_wfl_v hA2 h5)) (fun r σ2 ad2 ca2 H2 locs2 nc2 ns2 pc2 lsA2 hQ hR2 hA3 => hret r σ2 ad2 ca2 H2 locs2 nc2 ns2 pc2 lsA2 hQ hR2 (xi_A_tr hA2 hA3))
theorem xi_s_newa2 {X' : xiX} (hX' : ∀ μ pc ls st σ nc ns Q, X' μ pc ls st σ nc ns Q → xi_OK T cl zs l G μ pc ls st σ nc ns Q) {μ pc : Nat} {ls : List (Option Value)} {st : List Value} {σ : xiS} {nc ns : Nat} {Q : xiQ} {md : xiM} (hmd : G.1[μ]? = some md) {p : Program} {e : Env} {s : State} {m : MethodId} {args : Array Value} {below : List Frame} {meth : Method} {c : Code} {R : Room} {Z : State → Prop} {D : va_G} {A : Nat → Prop} {ad : Nat → Nat} {ca : Nat → ClassId} {H : Heap} {locs : List Loc} {lsA : Array Slot}
    (hC : xi_C T cl G D p s m args meth c R md A) (hO : xi_O zs G A ad s s.heap) (hR : xi_R cl G D s A ad ca σ H locs) (hl : lv_has lsA md.2.1.1 (xi_l ad ls))
    (hret : ∀ (r : Option Value) (σ' : xiS) (ad' : Nat → Nat) (ca' : Nat → ClassId) (H' : Heap) (locs' : List Loc) (nc' ns' pc' : Nat) (lsA' : Array Slot), Q r σ' → xi_R cl G D s A ad' ca' σ' H' locs' → xi_A σ ad σ' ad' → nc' ≤ md.2.2.1.2.2.1 → ns' ≤ md.2.2.1.2.2.2 → xi_ret md pc' r →
      W p l e R s m args below meth c H' locs' nc' ns' Z (F0 m pc' lsA' (r.toList.map (xi_v ad'))))
    {n : Int32} {t : List Value} (hst : st = .int n :: t) (hd : decode md.1.2.2 pc = .ok (.newarray .long, 2)) (hw : Cond.arrayClass (newarray.typeOf .long) ∈ T) (hn : ¬ n < 0) (h1 : nc + 1 ≤ md.2.2.1.2.2.1) (h2 : ns + n.toNatClampNeg ≤ md.2.2.1.2.2.2) (h3 : n.toNatClampNeg ≤ 65536) (h4 : σ.1.length + 1 < xi_o) (h5 : xi_wfl σ.1.length ls = true) (h6 : xi_wfs σ.1.length t = true) (h : X' μ (pc + 2) ls (.ref σ.1.length :: t) (σ.1 ++ [(2, n.toNatClampNeg)], xi_z σ.2.1 σ.1.length 0, xi_z σ.2.2.1 σ.1.length 0, xi_z σ.2.2.2 σ.1.length 0) (nc + 1) (ns + n.toNatClampNeg) Q) : W p l e R s m args below meth c H locs nc ns Z (F0 m pc lsA (st.map (xi_v ad))) := by
  obtain ⟨hx, hb, hml, hown, hts, hA, hKc, hfr, hlo, hce, hsl, hin⟩ := id hC
  obtain ⟨hP, hD, hS, hT, hF⟩ := id hR
  subst hst
  refine va_newa (ty := .long) (tys := []) (a0 := (n.toNatClampNeg, .inr (.inl (fun _ => 0)))) hx hb (hts _ hw) rfl (xi_K0 hKc) hP hD hS hA (fun cA => rfl) hn rfl ?_ (Nat.le_trans h1 hce) (Nat.le_trans h2 hsl) hd (fun q cA H1 hK1 hP1 hD1 hS1 => ?_)
  · show n.toNatClampNeg * 8 ≤ 536870912; omega
  obtain ⟨ad', ead⟩ : ∃ f : Nat → Nat, f = fun j => if j = σ.1.length then q else ad j := ⟨_, rfl⟩
  obtain ⟨ca', eca⟩ : ∃ f : Nat → ClassId, f = fun j => if j = σ.1.length then cA else ca j := ⟨_, rfl⟩
  obtain ⟨σ', es⟩ : ∃ z : xiS, z = (σ.1 ++ [(2, n.toNatClampNeg)], xi_z σ.2.1 σ.1.length 0, xi_z σ.2.2.1 σ.1.length 0, xi_z σ.2.2.2 σ.1.length 0) := ⟨_, rfl⟩
  rw [← es] at h
  have s1 : σ'.1 = σ.1 ++ [(2, n.toNatClampNeg)] := by rw [es]
  have hA2 : xi_A σ ad σ' ad' := by rw [ead]; exact xi_A_push s1 (by omega)
  have e1 : xi_ws G.2.1 ad' ca' σ' = xi_ws G.2.1 ad ca σ ++ [(q, .inl (cA, (n.toNatClampNeg, .inr (.inl (fun _ => 0)))))] := by
    rw [xi_ws_push (ad := ad) (ca := ca) (ad' := ad') (ca' := ca') s1 (fun k hk => by rw [es]; exact xi_zne (by omega)) (fun k hk => by rw [es]; exact xi_zne (by omega)) (fun k hk => by rw [es]; exact xi_zne (by omega)) hA2.1 (fun k hk => by rw [eca]; exact if_neg (by omega)) hF.1]
    have a1 : ad' σ.1.length = q := by rw [ead]; exact if_pos rfl
    have a2 : ca' σ.1.length = cA := by rw [eca]; exact if_pos rfl
    rw [a1]
    congr 3
    show Sum.inl (ca' σ.1.length, n.toNatClampNeg, Sum.inr (Sum.inl (σ'.2.2.2 σ.1.length))) = _
    rw [a2, es]
    show Sum.inl (cA, n.toNatClampNeg, Sum.inr (Sum.inl ((xi_z σ.2.2.2 σ.1.length 0) σ.1.length))) = _
    rw [xi_zeq]
  have hP2 : va_P D cl (xi_ws G.2.1 ad' ca' σ') H1 := by rw [e1]; exact hP1
  have hD2 : va_D A (xi_ws G.2.1 ad' ca' σ') := by rw [e1]; exact hD1
  have hT2 : xi_T ca' σ' s := by
    intro k d hk
    rw [s1] at hk
    by_cases e : k = σ.1.length
    · subst e
      have : d = (2, n.toNatClampNeg) := by simpa using hk.symm
      subst this
      have a2 : ca' σ.1.length = cA := by rw [eca]; exact if_pos rfl
      rw [a2]
      exact ⟨fun z => absurd (show (2 : Nat) = 1 from z) (by decide), fun z => hK1.2 0 _ rfl⟩
    · have e2 : k < σ.1.length := by
        have := (List.getElem?_eq_some_iff.mp hk).1
        simp at this
        omega
      rw [List.getElem?_append_left e2] at hk
      have a2 : ca' k = ca k := by rw [eca]; exact if_neg e
      rw [a2]
      exact hT k d hk
  have hF2 : xi_F σ' := xi_F_push hF s1 (by rw [es]) h4
  have a1 : ad' σ.1.length = q := by rw [ead]; exact if_pos rfl
  have est : Value.ref q :: t.map (xi_v ad) = (Value.ref σ.1.length :: t).map (xi_v ad') := by
    rw [List.map_cons, xi_wfs_v hA2 t h6]
    show _ = Value.ref (ad' σ.1.length) :: _
    rw [a1]
  rw [show (Value.ref q :: List.map (xi_v ad) t) = (Value.ref σ.1.length :: t).map (xi_v ad') from est]
  exact hX' _ _ _ _ _ _ _ _ h md hmd p e s m args below meth c R Z D A ad' ca' H1 locs lsA hC (xi_O_ad hO hA2.2.1) ⟨hP2, hD2, hS1, hT2, hF2⟩ (xi_has hl (xi_wfl_v hA2 h5)) (fun r σ2 ad2 ca2 H2 locs2 nc2 ns2 pc2 lsA2 hQ hR2 hA3 => hret r σ2 ad2 ca2 H2 locs2 nc2 ns2 pc2 lsA2 hQ hR2 (xi_A_tr hA2 hA3))
theorem xi_s_new {X' : xiX} (hX' : ∀ μ pc ls st σ nc ns Q, X' μ pc ls st σ nc ns Q → xi_OK T cl zs l G μ pc ls st σ nc ns Q) {μ pc : Nat} {ls : List (Option Value)} {st : List Value} {σ : xiS} {nc ns : Nat} {Q : xiQ} {md : xiM} (hmd : G.1[μ]? = some md) {p : Program} {e : Env} {s : State} {m : MethodId} {args : Array Value} {below : List Frame} {meth : Method} {c : Code} {R : Room} {Z : State → Prop} {D : va_G} {A : Nat → Prop} {ad : Nat → Nat} {ca : Nat → ClassId} {H : Heap} {locs : List Loc} {lsA : Array Slot}
    (hC : xi_C T cl G D p s m args meth c R md A) (hO : xi_O zs G A ad s s.heap) (hR : xi_R cl G D s A ad ca σ H locs) (hl : lv_has lsA md.2.1.1 (xi_l ad ls))
    (hret : ∀ (r : Option Value) (σ' : xiS) (ad' : Nat → Nat) (ca' : Nat → ClassId) (H' : Heap) (locs' : List Loc) (nc' ns' pc' : Nat) (lsA' : Array Slot), Q r σ' → xi_R cl G D s A ad' ca' σ' H' locs' → xi_A σ ad σ' ad' → nc' ≤ md.2.2.1.2.2.1 → ns' ≤ md.2.2.1.2.2.2 → xi_ret md pc' r →
      W p l e R s m args below meth c H' locs' nc' ns' Z (F0 m pc' lsA' (r.toList.map (xi_v ad'))))
    {i ci : Nat} {q0 : vw_C} (hd : decode md.1.2.2 pc = .ok (.new i, 3)) (hq : cl[ci]? = some q0) (hok : xi_okC T G.2.1 tf ci q0) (hw1 : Cond.classLink md.1.2.1.cls i q0.1 ∈ T) (hw2 : Cond.instantiable q0.1 q0.2.2 ∈ T) (hw3 : Cond.initialized q0.1 ∈ T) (h1 : nc + 1 ≤ md.2.2.1.2.2.1) (h2 : ns + (G.2.1.getD ci []).length ≤ md.2.2.1.2.2.2) (h4 : σ.1.length + 1 < xi_o) (h5 : xi_wfl σ.1.length ls = true) (h6 : xi_wfs σ.1.length st = true) (h : X' μ (pc + 3) ls (.ref σ.1.length :: st) (σ.1 ++ [(0, ci)], xi_z σ.2.1 σ.1.length 0, xi_z σ.2.2.1 σ.1.length 0, xi_z σ.2.2.2 σ.1.length 0) (nc + 1) (ns + (G.2.1.getD ci []).length) Q) : W p l e R s m args below meth c H locs nc ns Z (F0 m pc lsA (st.map (xi_v ad))) := by
  obtain ⟨hx, hb, hml, hown, hts, hA, hKc, hfr, hlo, hce, hsl, hin⟩ := id hC
  obtain ⟨hP, hD, hS, hT, hF⟩ := id hR
  obtain ⟨k1, k2, k3, k4, k5⟩ := hok
  obtain ⟨σ', es⟩ : ∃ z : xiS, z = (σ.1 ++ [(0, ci)], xi_z σ.2.1 σ.1.length 0, xi_z σ.2.2.1 σ.1.length 0, xi_z σ.2.2.2 σ.1.length 0) := ⟨_, rfl⟩
  rw [← es] at h
  have s1 : σ'.1 = σ.1 ++ [(0, ci)] := by rw [es]
  have hfv : ∀ (g : Nat → Nat) (j : Nat), j < q0.2.2 → defaultValue (tf ci j) = xi_v g (xi_fld G.2.1 σ' σ.1.length ci j) := by
    intro g j hj
    have z1 : σ'.2.1 σ.1.length j = 0 := by rw [es]; show (xi_z σ.2.1 σ.1.length 0) σ.1.length j = 0; rw [xi_zeq]
    have z2 : σ'.2.2.1 σ.1.length j = 0 := by rw [es]; show (xi_z σ.2.2.1 σ.1.length 0) σ.1.length j = 0; rw [xi_zeq]
    have z3 : σ'.2.2.2 σ.1.length j = 0 := by rw [es]; show (xi_z σ.2.2.2 σ.1.length 0) σ.1.length j = 0; rw [xi_zeq]
    unfold xi_fld
    rcases xi_fits (k5 j hj) with ⟨e, et⟩ | ⟨e, et⟩ | ⟨e, et⟩ | ⟨e, ⟨w, et⟩ | ⟨w, et⟩⟩ <;> rw [e, et]
    · show _ = xi_v g (.int (σ'.2.2.1 σ.1.length j)); rw [z2]; rfl
    · show _ = xi_v g (.int (σ'.2.2.1 σ.1.length j)); rw [z2]; rfl
    · show _ = xi_v g (.long (σ'.2.2.2 σ.1.length j)); rw [z3]; rfl
    · show _ = xi_v g (match σ'.2.1 σ.1.length j with | 0 => .null | q + 1 => .ref q); rw [z1]; rfl
    · show _ = xi_v g (match σ'.2.1 σ.1.length j with | 0 => .null | q + 1 => .ref q); rw [z1]; rfl
  refine va_new (C := q0.1) (T := q0.2.1) (N := q0.2.2) (fs := (List.range (G.2.1.getD ci []).length).map (fun j => xi_v ad (xi_fld G.2.1 σ' σ.1.length ci j))) hx hb hts k1 (tf ci) k4 hown (hts _ hw1) (hts _ hw2) (hts _ hw3) (xi_K0 hKc) hP hD hS hA hq (fun j hj => ?_) (Nat.le_trans h1 hce) (by rw [k2]; exact Nat.le_trans h2 hsl) hd (fun q H1 hP1 hD1 hS1 => ?_)
  · rw [hfv ad j hj]
    unfold vp_V
    rw [List.getD_eq_getElem?_getD, xi_getD (by rw [← k2]; exact hj)]
    rfl
  obtain ⟨ad', ead⟩ : ∃ f : Nat → Nat, f = fun j => if j = σ.1.length then q else ad j := ⟨_, rfl⟩
  have hA2 : xi_A σ ad σ' ad' := by rw [ead]; exact xi_A_push s1 (by omega)
  have a1 : ad' σ.1.length = q := by rw [ead]; exact if_pos rfl
  have e1 : xi_ws G.2.1 ad' ca σ' = xi_ws G.2.1 ad ca σ ++ [(q, .inr (ci, (List.range (G.2.1.getD ci []).length).map (fun j => xi_v ad (xi_fld G.2.1 σ' σ.1.length ci j))))] := by
    rw [xi_ws_push (ad := ad) (ca := ca) (ad' := ad') (ca' := ca) s1 (fun k hk => by rw [es]; exact xi_zne (by omega)) (fun k hk => by rw [es]; exact xi_zne (by omega)) (fun k hk => by rw [es]; exact xi_zne (by omega)) hA2.1 (fun k hk => rfl) hF.1, a1, xi_cell_obj]
    congr 5
    apply List.map_congr_left
    intro j hj
    have hj2 : j < q0.2.2 := by rw [k2]; exact List.mem_range.mp hj
    rw [← hfv ad' j hj2, ← hfv ad j hj2]
  have hP2 : va_P D cl (xi_ws G.2.1 ad' ca σ') H1 := by rw [e1]; exact hP1
  have hD2 : va_D A (xi_ws G.2.1 ad' ca σ') := by rw [e1]; exact hD1
  have hT2 : xi_T ca σ' s := by
    intro k d hk
    rw [s1] at hk
    by_cases e : k = σ.1.length
    · subst e
      have : d = (0, ci) := by simpa using hk.symm
      subst this
      exact ⟨fun z => absurd (show (0 : Nat) = 1 from z) (by decide), fun z => absurd (show (0 : Nat) = 2 from z) (by decide)⟩
    · have e2 : k < σ.1.length := by
        have := (List.getElem?_eq_some_iff.mp hk).1
        simp at this
        omega
      rw [List.getElem?_append_left e2] at hk
      exact hT k d hk
  have hF2 : xi_F σ' := xi_F_push hF s1 (by rw [es]) h4
  have est : Value.ref q :: st.map (xi_v ad) = (Value.ref σ.1.length :: st).map (xi_v ad') := by
    rw [List.map_cons, xi_wfs_v hA2 st h6]
    show _ = Value.ref (ad' σ.1.length) :: _
    rw [a1]
  rw [show (Value.ref q :: List.map (xi_v ad) st) = (Value.ref σ.1.length :: st).map (xi_v ad') from est, k2]
  exact hX' _ _ _ _ _ _ _ _ h md hmd p e s m args below meth c R Z D A ad' ca H1 locs lsA hC (xi_O_ad hO hA2.2.1) ⟨hP2, hD2, hS1, hT2, hF2⟩ (xi_has hl (xi_wfl_v hA2 h5)) (fun r σ2 ad2 ca2 H2 locs2 nc2 ns2 pc2 lsA2 hQ hR2 hA3 => hret r σ2 ad2 ca2 H2 locs2 nc2 ns2 pc2 lsA2 hQ hR2 (xi_A_tr hA2 hA3))
end XIS4
end
section
section XIS5
variable {T : List Cond} {cl : List vw_C} {zs : List (String × String × String)} {tf : Nat → Nat → FieldType} {l : Launch} {G : xiG}
theorem xi_T_moved {ca : Nat → ClassId} {σ : xiS} {u U : State} (hvm : u.vm.Alike U.vm) (h : xi_T ca σ u) : xi_T ca σ U := fun k d hk => ⟨fun z => ⟨arrOfT_moved hvm ((h k d hk).1 z).1, ((h k d hk).1 z).2.moved hvm⟩, fun z => ⟨arrOfT_moved hvm ((h k d hk).2 z).1, ((h k d hk).2 z).2.moved hvm⟩⟩
theorem xi_O_moved {A : Nat → Prop} {ad : Nat → Nat} {u U : State} {H : Heap} (hvm : u.vm.Alike U.vm) (h : xi_O zs G A ad u H) : xi_O zs G A ad U H := ⟨fun j q hq => va_T.moved hvm (h.1 j q hq), fun j z hz => va_Z.moved hvm (h.2 j z hz)⟩
theorem xi_O_kept {A : Nat → Prop} {ad : Nat → Nat} {U : State} {H H1 : Heap} (h : xi_O zs G A ad U H) (hq : ∀ a : Nat, a < H.size → ¬ A a → H1[a]? = H[a]?) : xi_O zs G A ad U H1 := ⟨fun j q e => va_T.kept (h.1 j q e) hq, fun j z e => va_Z.kept (h.2 j z e) hq⟩
theorem xi_O_narrow {A B : Nat → Prop} {ad : Nat → Nat} {U : State} {H : Heap} (h : xi_O zs G A ad U H) (hAB : ∀ q, B q → A q) : xi_O zs G B ad U H := ⟨fun j q e => va_T.narrow (h.1 j q e) hAB, fun j z e => va_Z.narrow (h.2 j z e) hAB⟩
def xi_Pc (cl : List vw_C) (zs : List (String × String × String)) (G : xiG) (D : va_G) (ad : Nat → Nat) (ca : Nat → ClassId) (σ : xiS) (sz : Nat) (vs : List Value) : Array Value → State → Prop :=
  va_Pc (vs.map (xi_v ad)) (fun U => U.heap.size = sz ∧ va_P D cl (xi_ws G.2.1 ad ca σ) U.heap ∧ va_D (fun _ => True) (xi_ws G.2.1 ad ca σ) ∧ (∀ (c : Nat) (q : vw_C), cl[c]? = some q → u_Kn U q.1 q.2.1 q.2.2 (D.1 c) (D.2 c)) ∧ xi_T ca σ U ∧ xi_O zs G (va_A (xi_ws G.2.1 ad ca σ) sz) ad U U.heap)
def xi_Qc (cl : List vw_C) (G : xiG) (D : va_G) (ad : Nat → Nat) (σ : xiS) (A1 : Nat → Prop) (Q0 : xiQ) : Array Value → State → Outcome → State → Prop := fun _ st oc t =>
  (∃ (r : Option Value) (σ' : xiS) (ad' : Nat → Nat) (ca' : Nat → ClassId), oc = .returned (r.map (xi_v ad')) ∧ Q0 r σ' ∧ xi_A σ ad σ' ad' ∧ va_P D cl (xi_ws G.2.1 ad' ca' σ') t.heap ∧ va_D A1 (xi_ws G.2.1 ad' ca' σ') ∧ xi_T ca' σ' t ∧ xi_F σ') ∧ va_F A1 st t
def xi_rm (mn : xiM) : Room := { frames := mn.2.2.1.1, cells := mn.2.2.1.2.2.1, slots := mn.2.2.1.2.2.2, locals := mn.2.2.1.2.1 }
theorem xi_Pc_blind {D : va_G} {ad : Nat → Nat} {ca : Nat → ClassId} {σ : xiS} {sz : Nat} {vs : List Value} : FrameBlind (xi_Pc cl zs G D ad ca σ sz vs) := by
  intro a U g mk h
  obtain ⟨h1, h2, h3, h4, h5, h6, h7⟩ := h
  exact ⟨h1, h2, h3, h4, fun c q hq => u_Kn_moved (u := U) (U := U.calling g mk a) (Vm.Alike.refl U.vm) (h5 c q hq), xi_T_moved (u := U) (U := U.calling g mk a) (Vm.Alike.refl U.vm) h6, xi_O_moved (u := U) (U := U.calling g mk a) (Vm.Alike.refl U.vm) h7⟩
set_option maxHeartbeats 4000000 in
theorem xi_met {ν : Nat} {mn : xiM} (hmn : G.1[ν]? = some mn) (hpl : plainName mn.1.2.1.cls = true) (hnm : mn.1.1 = "init" → mn.1.2.1.name = "<init>") {vs : List Value} {σ : xiS} {Q0 : xiQ} {ad : Nat → Nat} {ca : Nat → ClassId} {D : va_G} {sz : Nat} (hlen : (xi_ent1 vs).length ≤ mn.2.1.1) (hF : xi_F σ) (h : xi_OK T cl zs l G ν 0 (xi_ent vs mn.2.1.1) [] σ 0 0 Q0) :
    Met l mn.1.2.1 (Cond.code mn.1.2.1 mn.1.2.2 mn.2.1.1 mn.2.1.2.1 :: T) (xi_rm mn) (xi_Pc cl zs G D ad ca σ sz vs) (xi_Qc cl G D ad σ (va_A (xi_ws G.2.1 ad ca σ) sz) Q0) mn.2.2.1.2.2.1 mn.2.2.1.2.2.2 (va_A (xi_ws G.2.1 ad ca σ) sz) := by
  refine Met.ofW (cc := mn.1.2.2) (maxL := mn.2.1.1) (ret := mn.2.1.2.1) hpl rfl ?_
  intro p e s m args below meth c s₁ B hml hv
  obtain ⟨rfl, hsz, hP, hD0, hKc, hT, hO⟩ := hv
  subst hsz
  have hts := atoms_spec (ws := Cond.code mn.1.2.1 mn.1.2.2 mn.2.1.1 mn.2.1.2.1 :: T) B.pre
  have hown : s.vm.findClass mn.1.2.1.cls = some m.cls := findClass_of_methodNamed B.named
  have hlocks := B.notSynchronized
  have hr := B.returns
  have hx := B.exec
  have hb := B.bytes
  have hl := lv_entry (vs.map (xi_v ad)) (n := mn.2.1.1) (by rw [xi_ent_len]; exact hlen)
  rw [lg_entry_eq]
  generalize (lg_sl (vs.map (xi_v ad)) ++ List.replicate (mn.2.1.1 - (lg_sl (vs.map (xi_v ad))).length) Slot.unset).toArray = ls at hl ⊢
  have hl2 : lv_has ls mn.2.1.1 (xi_l ad (xi_ent vs mn.2.1.1)) := by
    refine xi_has hl fun q hq => ?_
    obtain ⟨v, hv, h2⟩ := xi_l_mem.mp hq
    have := xi_ent_mem (ad := ad) vs 0 q.1 v hv
    rw [Nat.zero_add, ← h2] at this
    exact this
  refine h mn hmn p e s m _ below meth c (xi_rm mn) _ D (va_A (xi_ws G.2.1 ad ca σ) s.heap.size) ad ca s.heap [] ls ⟨hx, hb, hml, hown, fun w hw => hts w (List.mem_cons_of_mem _ hw), fun q hq => Or.inr hq, hKc, Nat.le_refl _, Nat.le_refl _, Nat.le_refl _, Nat.le_refl _, fun z => (name_of_methodNamed B.named B.method).1.trans (hnm z)⟩ hO ⟨hP, hD0.self, va_S.rf, hT, hF⟩ hl2 ?_
  intro r σ' ad' ca' H' locs' nc' ns' pc' lsA' hQ hR hA hnc hns hre
  refine W.widen hnc hns ?_
  have hf : ∀ q ∈ locs', (va_A (xi_ws G.2.1 ad ca σ) s.heap.size) q.base := hR.2.2.1.2.2
  have hq : ∀ t : State, t.heap = H' → s.WarmedH t.vm → xi_Qc cl G D ad σ (va_A (xi_ws G.2.1 ad ca σ) s.heap.size) Q0 (vs.map (xi_v ad)).toArray s (.returned (r.map (xi_v ad'))) t := fun t ht hW => ⟨⟨r, σ', ad', ca', rfl, hQ, hA, by rw [ht]; exact hR.1, hR.2.1, xi_T_moved hW.alike hR.2.2.2.1, hR.2.2.2.2⟩, hR.2.2.1.F ht⟩
  unfold xi_ret at hre
  split at hre
  · exact W.vret hx hb (hr.trans hre.2) hq hf hre.1
  · rename_i v
    rcases hre.2 with h1 | ⟨h1, h2⟩
    · exact W.iret hx hb (hr.trans h1) hq hf hre.1
    · exact W.zret hx hb (hr.trans h1) (xi_bool h2).1 hq hf hre.1
  · exact W.lret hx hb (hr.trans hre.2) hq hf hre.1
  · exact hre.elim
end XIS5
end
section
section XIS6
variable {T : List Cond} {cl : List vw_C} {zs : List (String × String × String)} {tf : Nat → Nat → FieldType} {l : Launch} {G : xiG}
theorem xi_after {X' : xiX} (hX' : ∀ μ pc ls st σ nc ns Q, X' μ pc ls st σ nc ns Q → xi_OK T cl zs l G μ pc ls st σ nc ns Q) {μ pc : Nat} {ls : List (Option Value)} {st : List Value} {σ : xiS} {nc ns : Nat} {Q : xiQ} {md : xiM} (hmd : G.1[μ]? = some md) {p : Program} {e : Env} {s : State} {m : MethodId} {args : Array Value} {below : List Frame} {meth : Method} {c : Code} {R : Room} {Z : State → Prop} {D : va_G} {A : Nat → Prop} {ad : Nat → Nat} {ca : Nat → ClassId} {H : Heap} {locs : List Loc} {lsA : Array Slot}
    (hC : xi_C T cl G D p s m args meth c R md A) (hO : xi_O zs G A ad s s.heap) (hR : xi_R cl G D s A ad ca σ H locs) (hl : lv_has lsA md.2.1.1 (xi_l ad ls))
    (hret : ∀ (r : Option Value) (σ' : xiS) (ad' : Nat → Nat) (ca' : Nat → ClassId) (H' : Heap) (locs' : List Loc) (nc' ns' pc' : Nat) (lsA' : Array Slot), Q r σ' → xi_R cl G D s A ad' ca' σ' H' locs' → xi_A σ ad σ' ad' → nc' ≤ md.2.2.1.2.2.1 → ns' ≤ md.2.2.1.2.2.2 → xi_ret md pc' r →
      W p l e R s m args below meth c H' locs' nc' ns' Z (F0 m pc' lsA' (r.toList.map (xi_v ad'))))
    {mn : xiM} {rest : List Value} {a : Array Value} (hw1 : xi_wfl σ.1.length ls = true) (hw2 : xi_wfs σ.1.length rest = true)
    (hr : va_Run p l e R s m args below meth c H locs nc ns mn.2.2.1.2.2.1 mn.2.2.1.2.2.2 (F0 m pc lsA (st.map (xi_v ad))) (rest.map (xi_v ad)) (xi_Qc cl G D ad σ (va_A (xi_ws G.2.1 ad ca σ) H.size) (fun r σ' => X' μ (pc + 3) ls (r.toList ++ rest) σ' (nc + mn.2.2.1.2.2.1) (ns + mn.2.2.1.2.2.2) Q) a) (va_A (xi_ws G.2.1 ad ca σ) H.size)) : W p l e R s m args below meth c H locs nc ns Z (F0 m pc lsA (st.map (xi_v ad))) := by
  obtain ⟨hx, hb, hml, hown, hts, hA, hKc, hfr, hlo, hce, hsl, hin⟩ := id hC
  obtain ⟨hP, hD, hS, hT, hF⟩ := id hR
  have hA1 : ∀ q, va_A (xi_ws G.2.1 ad ca σ) H.size q → A q := by
    intro q hq
    rcases hq with ⟨k, e, hk⟩ | hq
    · exact hD.2 k _ hk
    · exact hA q (Nat.le_trans hS.1 hq)
  intro T0 hT0 X0
  obtain ⟨v, st₀, t, T', L, h0, X1, hL, e1, e2, ⟨⟨r, σ', ad', ca', hv, hQ, hA2, hP1, hD1, hT1, hF1⟩, hz, hk⟩, stp⟩ := hr T0 hT0 X0
  cases hv
  rw [h0] at hz hk
  have hS1 : va_S A s.heap T'.heap (locs ++ L) := ⟨Nat.le_trans hS.1 (by rw [e1]; exact hz), fun q h1 h2 => by rw [e1, hk q (Nat.lt_of_lt_of_le h1 hS.1) (fun z => h2 (hA1 q z))]; exact hS.2.1 q h1 h2, fun q hq => by
      rcases List.mem_append.mp hq with h | h
      · exact hS.2.2 q h
      · exact hA1 _ (hL q h)⟩
  have hvm : s.vm.Alike t.vm := by rw [← e2]; exact X1.warmed.alike
  have K := hX' _ _ _ _ _ _ _ _ hQ md hmd p e s m args below meth c R Z D A ad' ca' T'.heap (locs ++ L) lsA hC (xi_O_ad hO hA2.2.1) ⟨by rw [e1]; exact hP1, hD1.weaken (fun _ _ _ z => hA1 _ z), hS1, xi_T_moved hvm.symm hT1, hF1⟩ (xi_has hl (xi_wfl_v hA2 hw1)) (fun r2 σ2 ad2 ca2 H2 locs2 nc2 ns2 pc2 lsA2 hQ2 hR2 hA3 => hret r2 σ2 ad2 ca2 H2 locs2 nc2 ns2 pc2 lsA2 hQ2 hR2 (xi_A_tr hA2 hA3))
  obtain ⟨t2, a1, b1⟩ := K T' rfl X1
  refine ⟨t2, stp t2 ?_, b1⟩
  have est : (r.map (xi_v ad')).toList ++ rest.map (xi_v ad) = (r.toList ++ rest).map (xi_v ad') := by
    rw [List.map_append, xi_wfs_v hA2 rest hw2]
    cases r <;> rfl
  rw [est]
  exact a1

/-- what the callee asks holds at the call -/
theorem xi_pre {σ : xiS} {p : Program} {s : State} {m : MethodId} {args : Array Value} {meth : Method} {c : Code} {R : Room} {md : xiM} {D : va_G} {A : Nat → Prop} {ad : Nat → Nat} {ca : Nat → ClassId} {H : Heap} {locs : List Loc}
    (hC : xi_C T cl G D p s m args meth c R md A) (hO : xi_O zs G A ad s s.heap) (hR : xi_R cl G D s A ad ca σ H locs) {vs : List Value} (U : State) (hU : U.heap = H) (hW : s.WarmedH U.vm) : xi_Pc cl zs G D ad ca σ H.size vs (vs.map (xi_v ad)).toArray U := by
  obtain ⟨hx, hb, hml, hown, hts, hA, hKc, hfr, hlo, hce, hsl, hin⟩ := id hC
  obtain ⟨hP, hD, hS, hT, hF⟩ := id hR
  have hA1 : ∀ q, va_A (xi_ws G.2.1 ad ca σ) H.size q → A q := by
    intro q hq
    rcases hq with ⟨k, e, hk⟩ | hq
    · exact hD.2 k _ hk
    · exact hA q (Nat.le_trans hS.1 hq)
  refine ⟨rfl, by rw [hU], by rw [hU]; exact hP, hD.weaken (fun _ _ _ _ => trivial), fun c q hq => u_Kn_moved hW.alike (hKc c q hq), xi_T_moved hW.alike hT, ?_⟩
  rw [hU]
  exact xi_O_moved hW.alike (xi_O_narrow (xi_O_kept hO hS.2.1) hA1)
theorem xi_goodIn {mn : xiM} (hg : ∀ w ∈ T, goodWord w = true) (hc : Cond.code mn.1.2.1 mn.1.2.2 mn.2.1.1 mn.2.1.2.1 ∈ T) : GoodIn T (Cond.code mn.1.2.1 mn.1.2.2 mn.2.1.1 mn.2.1.2.1 :: T) := fun w hw => by
  rcases List.mem_cons.mp hw with rfl | h
  · exact ⟨hc, good_of_word (hg _ hc)⟩
  · exact ⟨h, good_of_word (hg _ h)⟩
theorem xi_goodInN {mn : xiM} (hg : ∀ w ∈ T, goodWord w = true) (hc : Cond.code mn.1.2.1 mn.1.2.2 mn.2.1.1 none ∈ T) : GoodIn T (Cond.code mn.1.2.1 mn.1.2.2 mn.2.1.1 none :: T) := fun w hw => by
  rcases List.mem_cons.mp hw with rfl | h
  · exact ⟨hc, good_of_word (hg _ hc)⟩
  · exact ⟨h, good_of_word (hg _ h)⟩
theorem xi_okM_of {mn : xiM} (h : xi_okM T mn = true) : plainName mn.1.2.1.cls = true ∧ Cond.code mn.1.2.1 mn.1.2.2 mn.2.1.1 mn.2.1.2.1 ∈ T ∧ Cond.initialized mn.1.2.1.cls ∈ T ∧ mn.1.2.1.cls ≠ "java/lang/invoke/MethodHandle" ∧ mn.1.2.1.cls ≠ "java/lang/invoke/VarHandle" ∧ (parseMethodDescriptor mn.1.2.1.desc).map (fun d => d.parameters.length) = some mn.2.1.2.2 ∧ (mn.1.1 = "static" → Cond.static mn.1.2.1 ∈ T) ∧ (mn.1.1 = "virtual" → Cond.instanceMethod mn.1.2.1 ∈ T ∧ Cond.selects mn.1.2.1.cls mn.1.2.1 mn.1.2.1 ∈ T) ∧ (mn.1.1 = "init" → Cond.instanceMethod mn.1.2.1 ∈ T ∧ mn.1.2.1.name = "<init>" ∧ mn.2.1.2.1 = none) := by
  unfold xi_okM at h
  simp only [Bool.and_eq_true, decide_eq_true_eq] at h
  obtain ⟨⟨⟨⟨⟨⟨h1, h2⟩, h3⟩, h4⟩, h5⟩, h6⟩, h7⟩ := h
  refine ⟨h1, h2, h3, h4, h5, h6, fun z => ?_, fun z => ?_, fun z => ?_⟩
  · rw [z] at h7
    simpa using h7
  · rw [z] at h7
    simpa using h7
  · rw [z] at h7
    simp at h7
    exact ⟨h7.1.1, h7.1.2, h7.2⟩

set_option maxHeartbeats 4000000 in
theorem xi_s_static {X' : xiX} (hX' : ∀ μ pc ls st σ nc ns Q, X' μ pc ls st σ nc ns Q → xi_OK T cl zs l G μ pc ls st σ nc ns Q) {μ pc : Nat} {ls : List (Option Value)} {st : List Value} {σ : xiS} {nc ns : Nat} {Q : xiQ} {md : xiM} (hmd : G.1[μ]? = some md) {p : Program} {e : Env} {s : State} {m : MethodId} {args : Array Value} {below : List Frame} {meth : Method} {c : Code} {R : Room} {Z : State → Prop} {D : va_G} {A : Nat → Prop} {ad : Nat → Nat} {ca : Nat → ClassId} {H : Heap} {locs : List Loc} {lsA : Array Slot}
    (hC : xi_C T cl G D p s m args meth c R md A) (hO : xi_O zs G A ad s s.heap) (hR : xi_R cl G D s A ad ca σ H locs) (hl : lv_has lsA md.2.1.1 (xi_l ad ls))
    (hret : ∀ (r : Option Value) (σ' : xiS) (ad' : Nat → Nat) (ca' : Nat → ClassId) (H' : Heap) (locs' : List Loc) (nc' ns' pc' : Nat) (lsA' : Array Slot), Q r σ' → xi_R cl G D s A ad' ca' σ' H' locs' → xi_A σ ad σ' ad' → nc' ≤ md.2.2.1.2.2.1 → ns' ≤ md.2.2.1.2.2.2 → xi_ret md pc' r →
      W p l e R s m args below meth c H' locs' nc' ns' Z (F0 m pc' lsA' (r.toList.map (xi_v ad'))))
    (hg : ∀ w ∈ T, goodWord w = true) {i ν : Nat} {mn : xiM} (hmn : G.1[ν]? = some mn) (hok : xi_okM T mn = true) (hd : decode md.1.2.2 pc = .ok (.invokestatic i, 3)) (hk : mn.1.1 = "static") (hw : Cond.methodLink md.1.2.1.cls i mn.1.2.1 ∈ T) (hn : mn.2.1.2.2 ≤ st.length) (h : xi_call G X' md μ pc ls σ nc ns Q ν mn (st.take mn.2.1.2.2).reverse (st.drop mn.2.1.2.2)) : W p l e R s m args below meth c H locs nc ns Z (F0 m pc lsA (st.map (xi_v ad))) := by
  obtain ⟨hx, hb, hml, hown, hts, hA, hKc, hfr, hlo, hce, hsl, hin⟩ := id hC
  obtain ⟨hP, hD, hS, hT, hF⟩ := id hR
  unfold xi_call at h
  obtain ⟨hc, h⟩ := xi_b_of h
  simp only [Bool.and_eq_true, Nat.ble_eq] at hc
  obtain ⟨⟨⟨⟨⟨⟨⟨c1, c2⟩, c3⟩, c4⟩, c5⟩, c6⟩, c7⟩, c8⟩ := hc
  obtain ⟨o1, o2, o3, o4, o5, o6, o7, o8, o9⟩ := xi_okM_of hok
  have hM := xi_met (D := D) (ad := ad) (ca := ca) (sz := H.size) hmn o1 (fun z => (o9 z).2.1) c6 hF (hX' _ _ _ _ _ _ _ _ h)
  refine xi_after hX' hmd hC hO hR hl hret (mn := mn) (rest := st.drop mn.2.1.2.2) (a := ((st.take mn.2.1.2.2).reverse.map (xi_v ad)).toArray) c7 c8 ?_
  refine va_runS (As := (st.take mn.2.1.2.2).reverse.map (xi_v ad)) (n := mn.2.1.2.2) ⟨hx, hb, hml, hown, hts⟩ hM ⟨callB_of mn.2.1.2.2 hts (xi_goodIn hg o2) rfl rfl rfl (hts _ o3) (hts _ hw) ⟨o4, o5, o6⟩ ⟨Nat.le_trans c1 hfr, Nat.le_trans c2 hlo⟩, hts _ (o7 hk)⟩ ⟨xi_Pc_blind, fun U hU hW => xi_pre hC hO hR U hU hW⟩ rfl ?_ hl.1 ?_ ?_ hd ⟨Nat.le_trans c3 hce, Nat.le_trans c4 hsl⟩
  · rw [List.length_map, List.length_reverse, List.length_take]; omega
  · rw [← List.map_reverse, List.reverse_reverse, ← List.map_append, List.take_append_drop]
  · exact lv_room (by rw [xi_w8_eq]; exact c5)
set_option maxHeartbeats 4000000 in
theorem xi_s_virtual {X' : xiX} (hX' : ∀ μ pc ls st σ nc ns Q, X' μ pc ls st σ nc ns Q → xi_OK T cl zs l G μ pc ls st σ nc ns Q) {μ pc : Nat} {ls : List (Option Value)} {st : List Value} {σ : xiS} {nc ns : Nat} {Q : xiQ} {md : xiM} (hmd : G.1[μ]? = some md) {p : Program} {e : Env} {s : State} {m : MethodId} {args : Array Value} {below : List Frame} {meth : Method} {c : Code} {R : Room} {Z : State → Prop} {D : va_G} {A : Nat → Prop} {ad : Nat → Nat} {ca : Nat → ClassId} {H : Heap} {locs : List Loc} {lsA : Array Slot}
    (hC : xi_C T cl G D p s m args meth c R md A) (hO : xi_O zs G A ad s s.heap) (hR : xi_R cl G D s A ad ca σ H locs) (hl : lv_has lsA md.2.1.1 (xi_l ad ls))
    (hret : ∀ (r : Option Value) (σ' : xiS) (ad' : Nat → Nat) (ca' : Nat → ClassId) (H' : Heap) (locs' : List Loc) (nc' ns' pc' : Nat) (lsA' : Array Slot), Q r σ' → xi_R cl G D s A ad' ca' σ' H' locs' → xi_A σ ad σ' ad' → nc' ≤ md.2.2.1.2.2.1 → ns' ≤ md.2.2.1.2.2.2 → xi_ret md pc' r →
      W p l e R s m args below meth c H' locs' nc' ns' Z (F0 m pc' lsA' (r.toList.map (xi_v ad'))))
    (hg : ∀ w ∈ T, goodWord w = true) {i ν : Nat} {mn : xiM} (hmn : G.1[ν]? = some mn) (hok : xi_okM T mn = true) {o ci : Nat} {q : vw_C} {t : List Value} (hd : decode md.1.2.2 pc = .ok (.invokevirtual i, 3)) (hk : mn.1.1 = "virtual") (hw : Cond.methodLink md.1.2.1.cls i mn.1.2.1 ∈ T) (hdr : st.drop mn.2.1.2.2 = .ref o :: t) (ho : σ.1[o]? = some (0, ci)) (hq : cl[ci]? = some q) (hcl : mn.1.2.1.cls = q.1) (h : xi_call G X' md μ pc ls σ nc ns Q ν mn (.ref o :: (st.take mn.2.1.2.2).reverse) t) : W p l e R s m args below meth c H locs nc ns Z (F0 m pc lsA (st.map (xi_v ad))) := by
  obtain ⟨hx, hb, hml, hown, hts, hA, hKc, hfr, hlo, hce, hsl, hin⟩ := id hC
  obtain ⟨hP, hD, hS, hT, hF⟩ := id hR
  unfold xi_call at h
  obtain ⟨hc, h⟩ := xi_b_of h
  simp only [Bool.and_eq_true, Nat.ble_eq] at hc
  obtain ⟨⟨⟨⟨⟨⟨⟨c1, c2⟩, c3⟩, c4⟩, c5⟩, c6⟩, c7⟩, c8⟩ := hc
  obtain ⟨o1, o2, o3, o4, o5, o6, o7, o8, o9⟩ := xi_okM_of hok
  have hM := xi_met (D := D) (ad := ad) (ca := ca) (sz := H.size) hmn o1 (fun z => (o9 z).2.1) c6 hF (hX' _ _ _ _ _ _ _ _ h)
  have hlen : mn.2.1.2.2 ≤ st.length := by
    have := congrArg List.length hdr
    rw [List.length_drop] at this
    simp at this
    omega
  refine xi_after hX' hmd hC hO hR hl hret (mn := mn) (rest := t) (a := ((Value.ref o :: (st.take mn.2.1.2.2).reverse).map (xi_v ad)).toArray) c7 c8 ?_
  refine va_runV (C := q.1) (b := ad o) (As := (st.take mn.2.1.2.2).reverse.map (xi_v ad)) (n := mn.2.1.2.2) ⟨hx, hb, hml, hown, hts⟩ hM ⟨callB_of mn.2.1.2.2 hts (xi_goodIn hg o2) rfl rfl rfl (hts _ o3) (hts _ hw) ⟨o4, o5, o6⟩ ⟨Nat.le_trans c1 hfr, Nat.le_trans c2 hlo⟩, hts _ (o8 hk).1, by rw [← hcl]; exact hts _ (o8 hk).2⟩ ⟨xi_Pc_blind, va_recv (xi_K0 hKc) hP hq (xi_ws_at ho), fun U hU hW => xi_pre hC hO hR (vs := .ref o :: (st.take mn.2.1.2.2).reverse) U hU hW⟩ rfl ?_ hl.1 ?_ ?_ hd ⟨Nat.le_trans c3 hce, Nat.le_trans c4 hsl⟩
  · rw [List.length_map, List.length_reverse, List.length_take]; omega
  · show st.map (xi_v ad) = _
    have e : st = st.take mn.2.1.2.2 ++ (.ref o :: t) := by rw [← hdr, List.take_append_drop]
    rw [← List.map_reverse, List.reverse_reverse]
    conv => lhs; rw [e]
    rw [List.map_append]
    rfl
  · exact lv_room (by rw [xi_w8_eq]; exact c5)
set_option maxHeartbeats 4000000 in
theorem xi_s_special {X' : xiX} (hX' : ∀ μ pc ls st σ nc ns Q, X' μ pc ls st σ nc ns Q → xi_OK T cl zs l G μ pc ls st σ nc ns Q) {μ pc : Nat} {ls : List (Option Value)} {st : List Value} {σ : xiS} {nc ns : Nat} {Q : xiQ} {md : xiM} (hmd : G.1[μ]? = some md) {p : Program} {e : Env} {s : State} {m : MethodId} {args : Array Value} {below : List Frame} {meth : Method} {c : Code} {R : Room} {Z : State → Prop} {D : va_G} {A : Nat → Prop} {ad : Nat → Nat} {ca : Nat → ClassId} {H : Heap} {locs : List Loc} {lsA : Array Slot}
    (hC : xi_C T cl G D p s m args meth c R md A) (hO : xi_O zs G A ad s s.heap) (hR : xi_R cl G D s A ad ca σ H locs) (hl : lv_has lsA md.2.1.1 (xi_l ad ls))
    (hret : ∀ (r : Option Value) (σ' : xiS) (ad' : Nat → Nat) (ca' : Nat → ClassId) (H' : Heap) (locs' : List Loc) (nc' ns' pc' : Nat) (lsA' : Array Slot), Q r σ' → xi_R cl G D s A ad' ca' σ' H' locs' → xi_A σ ad σ' ad' → nc' ≤ md.2.2.1.2.2.1 → ns' ≤ md.2.2.1.2.2.2 → xi_ret md pc' r →
      W p l e R s m args below meth c H' locs' nc' ns' Z (F0 m pc' lsA' (r.toList.map (xi_v ad'))))
    (hg : ∀ w ∈ T, goodWord w = true) {i ν : Nat} {mn : xiM} (hmn : G.1[ν]? = some mn) (hok : xi_okM T mn = true) {o : Nat} {t : List Value} (hd : decode md.1.2.2 pc = .ok (.invokespecial i, 3)) (hk : mn.1.1 = "init") (hw : Cond.methodLink md.1.2.1.cls i mn.1.2.1 ∈ T) (hdr : st.drop mn.2.1.2.2 = .ref o :: t) (h : xi_call G X' md μ pc ls σ nc ns Q ν mn (.ref o :: (st.take mn.2.1.2.2).reverse) t) : W p l e R s m args below meth c H locs nc ns Z (F0 m pc lsA (st.map (xi_v ad))) := by
  obtain ⟨hx, hb, hml, hown, hts, hA, hKc, hfr, hlo, hce, hsl, hin⟩ := id hC
  obtain ⟨hP, hD, hS, hT, hF⟩ := id hR
  unfold xi_call at h
  obtain ⟨hc, h⟩ := xi_b_of h
  simp only [Bool.and_eq_true, Nat.ble_eq] at hc
  obtain ⟨⟨⟨⟨⟨⟨⟨c1, c2⟩, c3⟩, c4⟩, c5⟩, c6⟩, c7⟩, c8⟩ := hc
  obtain ⟨o1, o2, o3, o4, o5, o6, o7, o8, o9⟩ := xi_okM_of hok
  have hM := xi_met (D := D) (ad := ad) (ca := ca) (sz := H.size) hmn o1 (fun z => (o9 z).2.1) c6 hF (hX' _ _ _ _ _ _ _ _ h)
  have hlen : mn.2.1.2.2 ≤ st.length := by
    have := congrArg List.length hdr
    rw [List.length_drop] at this
    simp at this
    omega
  rw [(o9 hk).2.2] at hM o2
  refine xi_after hX' hmd hC hO hR hl hret (mn := mn) (rest := t) (a := ((Value.ref o :: (st.take mn.2.1.2.2).reverse).map (xi_v ad)).toArray) c7 c8 ?_
  refine va_runI (b := ad o) (As := (st.take mn.2.1.2.2).reverse.map (xi_v ad)) (n := mn.2.1.2.2) ⟨hx, hb, hml, hown, hts⟩ hM ⟨callB_of mn.2.1.2.2 hts (xi_goodInN hg o2) rfl rfl rfl (hts _ o3) (hts _ hw) ⟨o4, o5, o6⟩ ⟨Nat.le_trans c1 hfr, Nat.le_trans c2 hlo⟩, (o9 hk).2.1, hts _ (o9 hk).1⟩ ⟨xi_Pc_blind, fun U hU hW => xi_pre hC hO hR (vs := .ref o :: (st.take mn.2.1.2.2).reverse) U hU hW⟩ rfl ?_ hl.1 ?_ ?_ hd ⟨Nat.le_trans c3 hce, Nat.le_trans c4 hsl⟩
  · rw [List.length_map, List.length_reverse, List.length_take]; omega
  · show st.map (xi_v ad) = _
    have e : st = st.take mn.2.1.2.2 ++ (.ref o :: t) := by rw [← hdr, List.take_append_drop]
    rw [← List.map_reverse, List.reverse_reverse]
    conv => lhs; rw [e]
    rw [List.map_append]
    rfl
  · exact lv_room (by rw [xi_w8_eq]; exact c5)
set_option maxHeartbeats 4000000 in
theorem xi_s_specialN {X' : xiX} (hX' : ∀ μ pc ls st σ nc ns Q, X' μ pc ls st σ nc ns Q → xi_OK T cl zs l G μ pc ls st σ nc ns Q) {μ pc : Nat} {ls : List (Option Value)} {st : List Value} {σ : xiS} {nc ns : Nat} {Q : xiQ} {md : xiM} (hmd : G.1[μ]? = some md) {p : Program} {e : Env} {s : State} {m : MethodId} {args : Array Value} {below : List Frame} {meth : Method} {c : Code} {R : Room} {Z : State → Prop} {D : va_G} {A : Nat → Prop} {ad : Nat → Nat} {ca : Nat → ClassId} {H : Heap} {locs : List Loc} {lsA : Array Slot}
    (hC : xi_C T cl G D p s m args meth c R md A) (hO : xi_O zs G A ad s s.heap) (hR : xi_R cl G D s A ad ca σ H locs) (hl : lv_has lsA md.2.1.1 (xi_l ad ls))
    (hret : ∀ (r : Option Value) (σ' : xiS) (ad' : Nat → Nat) (ca' : Nat → ClassId) (H' : Heap) (locs' : List Loc) (nc' ns' pc' : Nat) (lsA' : Array Slot), Q r σ' → xi_R cl G D s A ad' ca' σ' H' locs' → xi_A σ ad σ' ad' → nc' ≤ md.2.2.1.2.2.1 → ns' ≤ md.2.2.1.2.2.2 → xi_ret md pc' r →
      W p l e R s m args below meth c H' locs' nc' ns' Z (F0 m pc' lsA' (r.toList.map (xi_v ad'))))
    (hg : ∀ w ∈ T, goodWord w = true) {i ν : Nat} {mn : xiM} (hmn : G.1[ν]? = some mn) (hok : xi_okM T mn = true) {o : Nat} {t : List Value} (hd : decode md.1.2.2 pc = .ok (.invokespecial i, 3)) (hk : mn.1.1 = "init") {host : String} (hw : Cond.methodLinkNest md.1.2.1.cls i mn.1.2.1 host ∈ T) (hdr : st.drop mn.2.1.2.2 = .ref o :: t) (h : xi_call G X' md μ pc ls σ nc ns Q ν mn (.ref o :: (st.take mn.2.1.2.2).reverse) t) : W p l e R s m args below meth c H locs nc ns Z (F0 m pc lsA (st.map (xi_v ad))) := by
  obtain ⟨hx, hb, hml, hown, hts, hA, hKc, hfr, hlo, hce, hsl, hin⟩ := id hC
  obtain ⟨hP, hD, hS, hT, hF⟩ := id hR
  unfold xi_call at h
  obtain ⟨hc, h⟩ := xi_b_of h
  simp only [Bool.and_eq_true, Nat.ble_eq] at hc
  obtain ⟨⟨⟨⟨⟨⟨⟨c1, c2⟩, c3⟩, c4⟩, c5⟩, c6⟩, c7⟩, c8⟩ := hc
  obtain ⟨o1, o2, o3, o4, o5, o6, o7, o8, o9⟩ := xi_okM_of hok
  have hM := xi_met (D := D) (ad := ad) (ca := ca) (sz := H.size) hmn o1 (fun z => (o9 z).2.1) c6 hF (hX' _ _ _ _ _ _ _ _ h)
  have hlen : mn.2.1.2.2 ≤ st.length := by
    have := congrArg List.length hdr
    rw [List.length_drop] at this
    simp at this
    omega
  rw [(o9 hk).2.2] at hM o2
  have hnw : va_Nw (.methodLinkNest md.1.2.1.cls i mn.1.2.1 host) s := word_at (a' := #[]) (U := s) (State.WarmedH.refl s) (good_of_word (hg _ hw)) (hts _ hw)
  refine xi_after hX' hmd hC hO hR hl hret (mn := mn) (rest := t) (a := ((Value.ref o :: (st.take mn.2.1.2.2).reverse).map (xi_v ad)).toArray) c7 c8 ?_
  refine va_runIN (host := host) (b := ad o) (As := (st.take mn.2.1.2.2).reverse.map (xi_v ad)) (n := mn.2.1.2.2) ⟨hx, hb, hml, hown, hts⟩ hM ⟨va_cnB mn.2.1.2.2 hts (xi_goodInN hg o2) rfl rfl rfl (hnw) (hts _ o3) ⟨o4, o5, o6⟩ ⟨Nat.le_trans c1 hfr, Nat.le_trans c2 hlo⟩, (o9 hk).2.1, hts _ (o9 hk).1⟩ ⟨xi_Pc_blind, fun U hU hW => xi_pre hC hO hR (vs := .ref o :: (st.take mn.2.1.2.2).reverse) U hU hW⟩ rfl ?_ hl.1 ?_ ?_ hd ⟨Nat.le_trans c3 hce, Nat.le_trans c4 hsl⟩
  · rw [List.length_map, List.length_reverse, List.length_take]; omega
  · show st.map (xi_v ad) = _
    have e : st = st.take mn.2.1.2.2 ++ (.ref o :: t) := by rw [← hdr, List.take_append_drop]
    rw [← List.map_reverse, List.reverse_reverse]
    conv => lhs; rw [e]
    rw [List.map_append]
    rfl
  · exact lv_room (by rw [xi_w8_eq]; exact c5)
end XIS6
end
section
section XIS7
variable {T : List Cond} {cl : List vw_C} {zs : List (String × String × String)} {tf : Nat → Nat → FieldType} {l : Launch} {G : xiG}
theorem xi_memT {rc : Nat} {w : Cond} (h : T[rc]? = some w) : w ∈ T := List.mem_of_getElem? h
set_option maxHeartbeats 8000000 in
theorem xi_closed (hG : xi_good T cl zs tf G) : xi_cl G (xi_OK T cl zs l G) := by
  obtain ⟨hgw, hgc, hgm⟩ := hG
  intro X' hX' μ pc ls st σ nc ns Q h md hmd p e s m args below meth c R Z D A ad ca H locs lsA hC hO hR hl hret
  have h' := h.symm
  clear h
  rcases h' with ⟨is, h⟩ | h
  · exact hX' _ _ _ _ _ _ _ _ h md hmd p e s m args below meth c R Z D A ad ca H locs lsA hC hO hR (xi_has hl (xi_fg_mem is ls)) hret
  unfold xi_step at h
  rw [hmd] at h
  dsimp only at h
  cases hlk : xi_look md.2.2.2 pc with
  | none => rw [hlk] at h; exact h.elim
  | some q =>
  obtain ⟨ins, len, ra, rb, rc⟩ := q
  rw [hlk] at h
  dsimp only at h
  have hE := (hgm μ md hmd).2 _ (xi_look_mem _ hlk)
  have hM : ∀ (ν : Nat) (mn : xiM), G.1[ν]? = some mn → mn.1.1 ≠ "law" → xi_okM T mn = true := fun ν mn hh => (hgm ν mn hh).1
  unfold xi_okE at hE
  rw [Bool.and_eq_true, decide_eq_true_eq] at hE
  obtain ⟨hd, hE⟩ := hE
  dsimp only at hd hE
  clear hlk
  cases ins <;> dsimp only at h hE <;> (try exact h.elim)
  case iconst n =>
    have e := Nat.eq_of_beq_eq_true hE
    simp only [xi_len] at e
    subst e
    exact xi_s_iconst hX' hmd hC hO hR hl hret hd h
  case bipush n =>
    have e := Nat.eq_of_beq_eq_true hE
    simp only [xi_len] at e
    subst e
    exact xi_s_bipush hX' hmd hC hO hR hl hret hd h
  case sipush n =>
    have e := Nat.eq_of_beq_eq_true hE
    simp only [xi_len] at e
    subst e
    exact xi_s_sipush hX' hmd hC hO hR hl hret hd h
  case lconst n =>
    have e := Nat.eq_of_beq_eq_true hE
    simp only [xi_len] at e
    subst e
    exact xi_s_lconst hX' hmd hC hO hR hl hret hd h
  case iload_n k =>
    have e := Nat.eq_of_beq_eq_true hE
    simp only [xi_len] at e
    subst e
    exact xi_s_iload_n hX' hmd hC hO hR hl hret hd h
  case iload k =>
    have e := Nat.eq_of_beq_eq_true hE
    simp only [xi_len] at e
    subst e
    exact xi_s_iload hX' hmd hC hO hR hl hret hd h
  case lload_n k =>
    have e := Nat.eq_of_beq_eq_true hE
    simp only [xi_len] at e
    subst e
    exact xi_s_lload_n hX' hmd hC hO hR hl hret hd h
  case lload k =>
    have e := Nat.eq_of_beq_eq_true hE
    simp only [xi_len] at e
    subst e
    exact xi_s_lload hX' hmd hC hO hR hl hret hd h
  case aload_n k =>
    have e := Nat.eq_of_beq_eq_true hE
    simp only [xi_len] at e
    subst e
    exact xi_s_aload_n hX' hmd hC hO hR hl hret hd h
  case aload k =>
    have e := Nat.eq_of_beq_eq_true hE
    simp only [xi_len] at e
    subst e
    exact xi_s_aload hX' hmd hC hO hR hl hret hd h
  case istore_n k =>
    have e := Nat.eq_of_beq_eq_true hE
    simp only [xi_len] at e
    subst e
    exact xi_s_istore_n hX' hmd hC hO hR hl hret hd h
  case istore k =>
    have e := Nat.eq_of_beq_eq_true hE
    simp only [xi_len] at e
    subst e
    exact xi_s_istore hX' hmd hC hO hR hl hret hd h
  case lstore_n k =>
    have e := Nat.eq_of_beq_eq_true hE
    simp only [xi_len] at e
    subst e
    exact xi_s_lstore_n hX' hmd hC hO hR hl hret hd h
  case lstore k =>
    have e := Nat.eq_of_beq_eq_true hE
    simp only [xi_len] at e
    subst e
    exact xi_s_lstore hX' hmd hC hO hR hl hret hd h
  case iinc k n =>
    have e := Nat.eq_of_beq_eq_true hE
    simp only [xi_len] at e
    subst e
    exact xi_s_iinc hX' hmd hC hO hR hl hret hd h
  case iadd =>
    have e := Nat.eq_of_beq_eq_true hE
    simp only [xi_len] at e
    subst e
    exact xi_s_iadd hX' hmd hC hO hR hl hret hd h
  case isub =>
    have e := Nat.eq_of_beq_eq_true hE
    simp only [xi_len] at e
    subst e
    exact xi_s_isub hX' hmd hC hO hR hl hret hd h
  case imul =>
    have e := Nat.eq_of_beq_eq_true hE
    simp only [xi_len] at e
    subst e
    exact xi_s_imul hX' hmd hC hO hR hl hret hd h
  case iand =>
    have e := Nat.eq_of_beq_eq_true hE
    simp only [xi_len] at e
    subst e
    exact xi_s_iand hX' hmd hC hO hR hl hret hd h
  case ior =>
    have e := Nat.eq_of_beq_eq_true hE
    simp only [xi_len] at e
    subst e
    exact xi_s_ior hX' hmd hC hO hR hl hret hd h
  case ixor =>
    have e := Nat.eq_of_beq_eq_true hE
    simp only [xi_len] at e
    subst e
    exact xi_s_ixor hX' hmd hC hO hR hl hret hd h
  case irem =>
    have e := Nat.eq_of_beq_eq_true hE
    simp only [xi_len] at e
    subst e
    exact xi_s_irem hX' hmd hC hO hR hl hret hd h
  case ishl =>
    have e := Nat.eq_of_beq_eq_true hE
    simp only [xi_len] at e
    subst e
    exact xi_s_ishl hX' hmd hC hO hR hl hret hd h
  case ishr =>
    have e := Nat.eq_of_beq_eq_true hE
    simp only [xi_len] at e
    subst e
    exact xi_s_ishr hX' hmd hC hO hR hl hret hd h
  case iushr =>
    have e := Nat.eq_of_beq_eq_true hE
    simp only [xi_len] at e
    subst e
    exact xi_s_iushr hX' hmd hC hO hR hl hret hd h
  case ineg =>
    have e := Nat.eq_of_beq_eq_true hE
    simp only [xi_len] at e
    subst e
    exact xi_s_ineg hX' hmd hC hO hR hl hret hd h
  case i2l =>
    have e := Nat.eq_of_beq_eq_true hE
    simp only [xi_len] at e
    subst e
    exact xi_s_i2l hX' hmd hC hO hR hl hret hd h
  case i2b =>
    have e := Nat.eq_of_beq_eq_true hE
    simp only [xi_len] at e
    subst e
    exact xi_s_i2b hX' hmd hC hO hR hl hret hd h
  case i2s =>
    have e := Nat.eq_of_beq_eq_true hE
    simp only [xi_len] at e
    subst e
    exact xi_s_i2s hX' hmd hC hO hR hl hret hd h
  case l2i =>
    have e := Nat.eq_of_beq_eq_true hE
    simp only [xi_len] at e
    subst e
    exact xi_s_l2i hX' hmd hC hO hR hl hret hd h
  case lneg =>
    have e := Nat.eq_of_beq_eq_true hE
    simp only [xi_len] at e
    subst e
    exact xi_s_lneg hX' hmd hC hO hR hl hret hd h
  case ladd =>
    have e := Nat.eq_of_beq_eq_true hE
    simp only [xi_len] at e
    subst e
    exact xi_s_ladd hX' hmd hC hO hR hl hret hd h
  case lsub =>
    have e := Nat.eq_of_beq_eq_true hE
    simp only [xi_len] at e
    subst e
    exact xi_s_lsub hX' hmd hC hO hR hl hret hd h
  case lmul =>
    have e := Nat.eq_of_beq_eq_true hE
    simp only [xi_len] at e
    subst e
    exact xi_s_lmul hX' hmd hC hO hR hl hret hd h
  case land =>
    have e := Nat.eq_of_beq_eq_true hE
    simp only [xi_len] at e
    subst e
    exact xi_s_land hX' hmd hC hO hR hl hret hd h
  case lor =>
    have e := Nat.eq_of_beq_eq_true hE
    simp only [xi_len] at e
    subst e
    exact xi_s_lor hX' hmd hC hO hR hl hret hd h
  case lxor =>
    have e := Nat.eq_of_beq_eq_true hE
    simp only [xi_len] at e
    subst e
    exact xi_s_lxor hX' hmd hC hO hR hl hret hd h
  case ldiv =>
    have e := Nat.eq_of_beq_eq_true hE
    simp only [xi_len] at e
    subst e
    exact xi_s_ldiv hX' hmd hC hO hR hl hret hd h
  case lrem =>
    have e := Nat.eq_of_beq_eq_true hE
    simp only [xi_len] at e
    subst e
    exact xi_s_lrem hX' hmd hC hO hR hl hret hd h
  case lcmp =>
    have e := Nat.eq_of_beq_eq_true hE
    simp only [xi_len] at e
    subst e
    exact xi_s_lcmp hX' hmd hC hO hR hl hret hd h
  case astore_n k =>
    have e := Nat.eq_of_beq_eq_true hE
    simp only [xi_len] at e
    subst e
    split at h
    · exact xi_s_astore_n hX' hmd hC hO hR hl hret rfl hd h
    · exact h.elim
  case lshl =>
    have e := Nat.eq_of_beq_eq_true hE
    simp only [xi_len] at e
    subst e
    split at h
    · exact xi_s_lshl hX' hmd hC hO hR hl hret rfl hd h
    · exact h.elim
  case dup =>
    have e := Nat.eq_of_beq_eq_true hE
    simp only [xi_len] at e
    subst e
    split at h
    · exact xi_s_dup hX' hmd hC hO hR hl hret rfl hd h
    · exact h.elim
  case dup2 =>
    have e := Nat.eq_of_beq_eq_true hE
    simp only [xi_len] at e
    subst e
    split at h
    · exact xi_s_dup2 hX' hmd hC hO hR hl hret rfl hd h
    · exact h.elim
  case pop2 =>
    have e := Nat.eq_of_beq_eq_true hE
    simp only [xi_len] at e
    subst e
    split at h
    · exact xi_s_pop2 hX' hmd hC hO hR hl hret rfl hd h
    · exact h.elim
  case ldc i =>
    rw [Bool.and_eq_true] at hE
    have e := Nat.eq_of_beq_eq_true hE.1
    subst e
    exact xi_s_ldc hX' hmd hC hO hR hl hret hd (xi_memT (of_decide_eq_true hE.2)) h
  case ldc_w i =>
    rw [Bool.and_eq_true] at hE
    have e := Nat.eq_of_beq_eq_true hE.1
    subst e
    exact xi_s_ldcw hX' hmd hC hO hR hl hret hd (xi_memT (of_decide_eq_true hE.2)) h
  case ldc2_w i =>
    rw [Bool.and_eq_true] at hE
    have e := Nat.eq_of_beq_eq_true hE.1
    subst e
    exact xi_s_ldc2 hX' hmd hC hO hR hl hret hd (xi_memT (of_decide_eq_true hE.2)) h
  case ifCond cc off =>
    rw [Bool.and_eq_true] at hE
    have e := Nat.eq_of_beq_eq_true hE.1
    subst e
    exact xi_s_ifCond hX' hmd hC hO hR hl hret hd hE.2 h
  case if_icmp cc off =>
    rw [Bool.and_eq_true] at hE
    have e := Nat.eq_of_beq_eq_true hE.1
    subst e
    exact xi_s_if_icmp hX' hmd hC hO hR hl hret hd hE.2 h
  case goto off =>
    rw [Bool.and_eq_true] at hE
    have e := Nat.eq_of_beq_eq_true hE.1
    subst e
    exact xi_s_goto hX' hmd hC hO hR hl hret hd hE.2 h
  case tableswitch d lo hi offs =>
    rw [Bool.and_eq_true, Bool.and_eq_true] at hE
    exact xi_s_tableswitch hX' hmd hC hO hR hl hret hd (Nat.eq_of_beq_eq_true hE.1.1) hE.1.2 hE.2 h
  case getfield i =>
    rw [Bool.and_eq_true] at hE
    have e := Nat.eq_of_beq_eq_true hE.1
    subst e
    split at h
    · split at h
      · rename_i ho
        have hb1 := (xi_b_of h).1
        replace h := (xi_b_of h).2
        have e2 := Nat.eq_of_beq_eq_true hb1
        subst e2
        replace hE := hE.2
        split at hE
        · rename_i qc qt qn hq
          rw [Bool.and_eq_true, decide_eq_true_eq] at hE
          exact xi_s_getfield (tf := tf) hX' hmd hC hO hR hl hret rfl hd ho hq (hgc _ _ hq) (Nat.blt_eq.mp hE.1) (xi_memT hE.2) h
        · cases hE
      · exact h.elim
    · exact h.elim
  case putfield i =>
    rw [Bool.and_eq_true] at hE
    have e := Nat.eq_of_beq_eq_true hE.1
    subst e
    split at h
    · rename_i v o t
      split at h
      · rename_i ci ho
        have hb1 := (xi_b_of h).1
        replace h := (xi_b_of h).2
        have e2 := Nat.eq_of_beq_eq_true hb1
        subst e2
        replace hE := hE.2
        split at hE
        · rename_i qc qt qn hq
          rw [Bool.and_eq_true, Bool.and_eq_true, decide_eq_true_eq] at hE
          have hj := Nat.blt_eq.mp hE.1.1
          have hkt := (hgc _ _ hq).2.2.2.2 rb hj
          have hoL := (List.getElem?_eq_some_iff.mp ho).1
          have hF := hR.2.2.2.2
          unfold xi_put at h
          split at h
          · rename_i x hk
            rw [hk] at hkt
            have hty : tf ci rb = .int := by rcases xi_fits hkt with ⟨_, z⟩ | ⟨z, _⟩ | ⟨z, _⟩ | ⟨z, _⟩ <;> first | exact z | cases z
            refine xi_s_putfield (tf := tf) (σ' := (σ.1, σ.2.1, xi_u σ.2.2.1 o rb x, σ.2.2.2)) hX' hmd hC hO hR hl hret rfl hd ho hq (hgc _ _ hq) hj (xi_memT hE.1.2) hE.2 (by rw [hty]; rfl) (by rw [hty]; rfl) rfl (fun k hk => rfl) (fun k hk => xi_une hk) (fun k hk => rfl) ?_ ?_ hF h
            · unfold xi_fld; rw [hk]; simp [xi_u]
            · intro k hk2; unfold xi_fld; simp [xi_u, hk2]
          · rename_i x hk
            rw [hk] at hkt
            have hty : tf ci rb = .boolean := by rcases xi_fits hkt with ⟨z, _⟩ | ⟨_, z⟩ | ⟨z, _⟩ | ⟨z, _⟩ <;> first | exact z | cases z
            refine xi_s_putfield (tf := tf) (σ' := (σ.1, σ.2.1, xi_u σ.2.2.1 o rb x, σ.2.2.2)) hX' hmd hC hO hR hl hret rfl hd ho hq (hgc _ _ hq) hj (xi_memT hE.1.2) hE.2 (by rw [hty]; exact (xi_bool h.1).1) (by rw [hty]; exact (xi_bool h.1).2) rfl (fun k hk => rfl) (fun k hk => xi_une hk) (fun k hk => rfl) ?_ ?_ hF h.2
            · unfold xi_fld; rw [hk]; simp [xi_u]
            · intro k hk2; unfold xi_fld; simp [xi_u, hk2]
          · rename_i x hk
            rw [hk] at hkt
            have hty : tf ci rb = .long := by rcases xi_fits hkt with ⟨z, _⟩ | ⟨z, _⟩ | ⟨_, z⟩ | ⟨z, _⟩ <;> first | exact z | cases z
            refine xi_s_putfield (tf := tf) (σ' := (σ.1, σ.2.1, σ.2.2.1, xi_u σ.2.2.2 o rb x)) hX' hmd hC hO hR hl hret rfl hd ho hq (hgc _ _ hq) hj (xi_memT hE.1.2) hE.2 (by rw [hty]; rfl) (by rw [hty]; rfl) rfl (fun k hk => rfl) (fun k hk => rfl) (fun k hk => xi_une hk) ?_ ?_ hF h
            · unfold xi_fld; rw [hk]; simp [xi_u]
            · intro k hk2; unfold xi_fld; simp [xi_u, hk2]
          · rename_i x hk
            rw [hk] at hkt
            have hx2 := (xi_b_of h).1
            replace h := (xi_b_of h).2
            have hty : (∃ n, tf ci rb = .object n) ∨ ∃ t, tf ci rb = .array t := by rcases xi_fits hkt with ⟨z, _⟩ | ⟨z, _⟩ | ⟨z, _⟩ | ⟨_, z⟩ <;> first | exact z | cases z
            refine xi_s_putfield (tf := tf) (σ' := (σ.1, xi_u σ.2.1 o rb (x + 1), σ.2.2.1, σ.2.2.2)) hX' hmd hC hO hR hl hret rfl hd ho hq (hgc _ _ hq) hj (xi_memT hE.1.2) hE.2 (by rcases hty with ⟨n, z⟩ | ⟨n, z⟩ <;> rw [z] <;> rfl) (by rcases hty with ⟨n, z⟩ | ⟨n, z⟩ <;> rw [z] <;> rfl) rfl (fun k hk => xi_une hk) (fun k hk => rfl) (fun k hk => rfl) ?_ ?_ ?_ h
            · unfold xi_fld; rw [hk]; simp [xi_u]
            · intro k hk2; unfold xi_fld; simp [xi_u, hk2]
            · refine ⟨fun k j q hk hq => ?_, hF.2⟩
              by_cases e1 : k = o
              · subst e1
                by_cases e2 : j = rb
                · subst e2
                  simp [xi_u] at hq
                  rw [← hq]
                  exact Nat.blt_eq.mp hx2
                · simp [xi_u, e2] at hq
                  exact hF.1 k j q hk hq
              · simp [xi_u, e1] at hq
                exact hF.1 k j q hk hq
          · exact h.elim
        · cases hE
      · exact h.elim
    · exact h.elim
  case getstatic i =>
    rw [Bool.and_eq_true] at hE
    have e := Nat.eq_of_beq_eq_true hE.1
    subst e
    replace hE := hE.2
    split at hE
    · cases hE
    · rename_i j
      split at hE
      · rename_i z hz
        exact xi_s_getstatic hX' hmd hC hO hR hl hret hd hz (xi_memT (of_decide_eq_true hE)) h
      · cases hE
  case iaload =>
    have e := Nat.eq_of_beq_eq_true hE
    simp only [xi_len] at e
    subst e
    split at h
    · rename_i j a t
      split at h
      · rename_i n ha
        exact xi_s_iaload hX' hmd hC hO hR hl hret rfl hd ha h.1 h.2
      · have hb1 := (xi_b_of h).1
        replace h := (xi_b_of h).2
        obtain ⟨j0, rfl⟩ : ∃ j0, a = xi_o + j0 := ⟨a - xi_o, (Nat.add_sub_cancel' (Nat.ble_eq.mp hb1)).symm⟩
        rw [Nat.add_sub_cancel_left] at h
        split at h
        · rename_i n f hq
          exact xi_s_aloadO hX' hmd hC hO hR hl hret rfl hd hq h.1 h.2
        · exact h.elim
      · exact h.elim
    · exact h.elim
  case laload =>
    have e := Nat.eq_of_beq_eq_true hE
    simp only [xi_len] at e
    subst e
    split at h
    · split at h
      · rename_i ha
        exact xi_s_laload hX' hmd hC hO hR hl hret rfl hd ha h.1 h.2
      · exact h.elim
    · exact h.elim
  case iastore =>
    have e := Nat.eq_of_beq_eq_true hE
    simp only [xi_len] at e
    subst e
    split at h
    · split at h
      · rename_i ha
        exact xi_s_iastore hX' hmd hC hO hR hl hret rfl hd ha h.1 h.2
      · exact h.elim
    · exact h.elim
  case lastore =>
    have e := Nat.eq_of_beq_eq_true hE
    simp only [xi_len] at e
    subst e
    split at h
    · split at h
      · rename_i ha
        exact xi_s_lastore hX' hmd hC hO hR hl hret rfl hd ha h.1 h.2
      · exact h.elim
    · exact h.elim
  case arraylength =>
    have e := Nat.eq_of_beq_eq_true hE
    simp only [xi_len] at e
    subst e
    split at h
    · rename_i a t
      split at h
      · rename_i n ha
        exact xi_s_alen1 hX' hmd hC hO hR hl hret rfl hd ha h
      · rename_i n ha
        exact xi_s_alen2 hX' hmd hC hO hR hl hret rfl hd ha h
      · have hb1 := (xi_b_of h).1
        replace h := (xi_b_of h).2
        obtain ⟨j0, rfl⟩ : ∃ j0, a = xi_o + j0 := ⟨a - xi_o, (Nat.add_sub_cancel' (Nat.ble_eq.mp hb1)).symm⟩
        rw [Nat.add_sub_cancel_left] at h
        split at h
        · rename_i n f hq
          exact xi_s_alenO hX' hmd hC hO hR hl hret rfl hd hq h
        · exact h.elim
      · exact h.elim
    · exact h.elim
  case newarray ty =>
    rw [Bool.and_eq_true] at hE
    have e := Nat.eq_of_beq_eq_true hE.1
    subst e
    split at h
    · obtain ⟨hc, hn, h⟩ := xi_b_of h
      simp only [Bool.and_eq_true, Nat.ble_eq, Nat.blt_eq] at hc
      obtain ⟨⟨⟨⟨⟨c1, c2⟩, c3⟩, c4⟩, c5⟩, c6⟩ := hc
      split at h
      · exact xi_s_newa1 hX' hmd hC hO hR hl hret rfl hd (of_decide_eq_true hE.2) hn c1 c2 c3 c4 c5 c6 h
      · exact xi_s_newa2 hX' hmd hC hO hR hl hret rfl hd (of_decide_eq_true hE.2) hn c1 c2 c3 c4 c5 c6 h
      · exact h.elim
    · exact h.elim
  case new i =>
    rw [Bool.and_eq_true] at hE
    have e := Nat.eq_of_beq_eq_true hE.1
    subst e
    have hc := (xi_b_of h).1
    replace h := (xi_b_of h).2
    simp only [Bool.and_eq_true, Nat.ble_eq, Nat.blt_eq] at hc
    obtain ⟨⟨⟨⟨c1, c2⟩, c4⟩, c5⟩, c6⟩ := hc
    replace hE := hE.2
    split at hE
    · rename_i qc qt qn hq
      rw [Bool.and_eq_true, Bool.and_eq_true, decide_eq_true_eq, decide_eq_true_eq, decide_eq_true_eq] at hE
      exact xi_s_new (tf := tf) hX' hmd hC hO hR hl hret hd hq (hgc _ _ hq) (xi_memT hE.1.1) hE.1.2 hE.2 c1 c2 c4 c5 c6 h
    · cases hE
  case invokestatic i =>
    rw [Bool.and_eq_true] at hE
    have e := Nat.eq_of_beq_eq_true hE.1
    subst e
    replace hE := hE.2
    cases hmn : G.1[ra]? with
    | none => rw [hmn] at h; exact h.elim
    | some mn =>
      rw [hmn] at h hE
      dsimp only at h hE
      rw [Bool.and_eq_true, decide_eq_true_eq, decide_eq_true_eq] at hE
      have hn := (xi_b_of h).1
      replace h := (xi_b_of h).2
      exact xi_s_static hX' hmd hC hO hR hl hret hgw hmn (hM _ _ hmn (by rw [hE.2]; decide)) hd hE.2 (xi_memT hE.1) (Nat.ble_eq.mp hn) h
  case invokevirtual i =>
    rw [Bool.and_eq_true] at hE
    have e := Nat.eq_of_beq_eq_true hE.1
    subst e
    replace hE := hE.2
    cases hmn : G.1[ra]? with
    | none => rw [hmn] at h; exact h.elim
    | some mn =>
      rw [hmn] at h hE
      dsimp only at h hE
      split at h
      · rename_i o t hdr
        split at h
        · rename_i ci ho
          have hb1 := (xi_b_of h).1
          replace h := (xi_b_of h).2
          have e2 := Nat.eq_of_beq_eq_true hb1
          subst e2
          cases hq : cl[ci]? with
          | none => rw [hq] at hE; cases hE
          | some q =>
            rw [hq] at hE
            obtain ⟨qc, qt, qn⟩ := q
            dsimp only at hE
            rw [Bool.and_eq_true, Bool.and_eq_true, decide_eq_true_eq, decide_eq_true_eq, decide_eq_true_eq] at hE
            exact xi_s_virtual hX' hmd hC hO hR hl hret hgw hmn (hM _ _ hmn (by rw [hE.1.2]; decide)) hd hE.1.2 (xi_memT hE.1.1) hdr ho hq hE.2 h
        · exact h.elim
      · exact h.elim
  case invokespecial i =>
    rw [Bool.and_eq_true] at hE
    have e := Nat.eq_of_beq_eq_true hE.1
    subst e
    replace hE := hE.2
    split at h
    · cases hmn : G.1[ra]? with
      | none => rw [hmn] at h; exact h.elim
      | some mn =>
        rw [hmn] at h hE
        dsimp only at h hE
        have hE2 := Bool.and_eq_true_iff.mp hE
        clear hE
        obtain ⟨hk, hE⟩ := hE2
        replace hk := of_decide_eq_true hk
        split at h
        · rename_i o t hdr
          split at hE
          · rename_i o2 j y hw
            rw [Bool.and_eq_true, Bool.and_eq_true, decide_eq_true_eq, decide_eq_true_eq] at hE
            obtain ⟨⟨rfl, e3⟩, rfl⟩ := hE
            have e3 := Nat.eq_of_beq_eq_true e3
            subst e3
            exact xi_s_special hX' hmd hC hO hR hl hret hgw hmn (hM _ _ hmn (by rw [hk]; decide)) hd hk (xi_memT hw) hdr h
          · rename_i o2 j y ho hw
            rw [Bool.and_eq_true, Bool.and_eq_true, decide_eq_true_eq, decide_eq_true_eq] at hE
            obtain ⟨⟨rfl, e3⟩, rfl⟩ := hE
            have e3 := Nat.eq_of_beq_eq_true e3
            subst e3
            exact xi_s_specialN hX' hmd hC hO hR hl hret hgw hmn (hM _ _ hmn (by rw [hk]; decide)) hd hk (xi_memT hw) hdr h
          · cases hE
        · exact h.elim
    · rename_i hrb
      split at hE
      · exact absurd rfl hrb
      · rw [Bool.and_eq_true, Bool.and_eq_true, decide_eq_true_eq, decide_eq_true_eq, decide_eq_true_eq] at hE
        split at h
        · exact xi_s_objInit hX' hmd hC hO hR hl hret rfl hd (xi_memT hE.1.1) hE.1.2 hE.2 h
        · exact h.elim
  case ireturn =>
    have e := Nat.eq_of_beq_eq_true hE
    simp only [xi_len] at e
    subst e
    split at h
    · rename_i v
      have hc := (xi_b_of h).1
      replace h := (xi_b_of h).2
      simp only [Bool.and_eq_true, Nat.ble_eq] at hc
      split at h
      · rename_i hr
        exact hret _ _ _ _ _ _ _ _ _ _ h hR xi_A_rf hc.1 hc.2 ⟨hd, Or.inl hr⟩
      · rename_i hr
        exact hret _ _ _ _ _ _ _ _ _ _ h.2 hR xi_A_rf hc.1 hc.2 ⟨hd, Or.inr ⟨hr, h.1⟩⟩
      · exact h.elim
    · exact h.elim
  case lreturn =>
    have e := Nat.eq_of_beq_eq_true hE
    simp only [xi_len] at e
    subst e
    split at h
    · rename_i v
      have hc := (xi_b_of h).1
      replace h := (xi_b_of h).2
      simp only [Bool.and_eq_true, Nat.ble_eq] at hc
      split at h
      · rename_i hr
        exact hret _ _ _ _ _ _ _ _ _ _ h hR xi_A_rf hc.1 hc.2 ⟨hd, hr⟩
      · exact h.elim
    · exact h.elim
  case return_ =>
    have e := Nat.eq_of_beq_eq_true hE
    simp only [xi_len] at e
    subst e
    split at h
    · have hc := (xi_b_of h).1
      replace h := (xi_b_of h).2
      simp only [Bool.and_eq_true, Nat.ble_eq] at hc
      split at h
      · rename_i hr
        exact hret _ _ _ _ _ _ _ _ _ _ h hR xi_A_rf hc.1 hc.2 ⟨hd, hr⟩
      · exact h.elim
    · exact h.elim
end XIS7
end
