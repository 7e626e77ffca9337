section
-- ===== PART A: goes FIRST, ahead of the names: the tables' words, and 'selects' of the private methods out of them =====
/-- a private method of a class that the tables say can be made, by its rows of tables_1 -/
def lw_okq (q : MethodName × Nat) : Prop := (q.1.cls ≠ "java/lang/invoke/MethodHandle" ∧ q.1.cls ≠ "java/lang/invoke/VarHandle") ∧ Cond.instantiable q.1.cls q.2 ∈ tables_1 ∧ Cond.privateMethod q.1 ∈ tables_1 ∧ Cond.instanceMethod q.1 ∈ tables_1
theorem lw_p0 : lw_okq (⟨"MeanCoats", "finding", "(I)I"⟩, 10) := ⟨⟨by decide +kernel, by decide +kernel⟩, List.mem_of_getElem? (i := 16) (by decide +kernel), List.mem_of_getElem? (i := 218) (by decide +kernel), List.mem_of_getElem? (i := 219) (by decide +kernel)⟩
theorem lw_p1 : lw_okq (⟨"MeanCoats$Town", "add", "(IIII)I"⟩, 13) := ⟨⟨by decide +kernel, by decide +kernel⟩, List.mem_of_getElem? (i := 24) (by decide +kernel), List.mem_of_getElem? (i := 223) (by decide +kernel), List.mem_of_getElem? (i := 224) (by decide +kernel)⟩
theorem lw_p2 : lw_okq (⟨"MeanCoats", "isBody", "(I)Z"⟩, 10) := ⟨⟨by decide +kernel, by decide +kernel⟩, List.mem_of_getElem? (i := 16) (by decide +kernel), List.mem_of_getElem? (i := 231) (by decide +kernel), List.mem_of_getElem? (i := 232) (by decide +kernel)⟩
theorem lw_p3 : lw_okq (⟨"MeanCoats$Town", "tell", "(II)I"⟩, 13) := ⟨⟨by decide +kernel, by decide +kernel⟩, List.mem_of_getElem? (i := 24) (by decide +kernel), List.mem_of_getElem? (i := 235) (by decide +kernel), List.mem_of_getElem? (i := 236) (by decide +kernel)⟩
theorem lw_p4 : lw_okq (⟨"MeanCoats$Town", "measuredOf", "(II)I"⟩, 13) := ⟨⟨by decide +kernel, by decide +kernel⟩, List.mem_of_getElem? (i := 24) (by decide +kernel), List.mem_of_getElem? (i := 239) (by decide +kernel), List.mem_of_getElem? (i := 240) (by decide +kernel)⟩
theorem lw_p5 : lw_okq (⟨"MeanCoats$Town", "widthAtBribe", "(II)I"⟩, 13) := ⟨⟨by decide +kernel, by decide +kernel⟩, List.mem_of_getElem? (i := 24) (by decide +kernel), List.mem_of_getElem? (i := 243) (by decide +kernel), List.mem_of_getElem? (i := 244) (by decide +kernel)⟩
theorem lw_p6 : lw_okq (⟨"MeanCoats$Town", "inchesOf", "(II)I"⟩, 13) := ⟨⟨by decide +kernel, by decide +kernel⟩, List.mem_of_getElem? (i := 24) (by decide +kernel), List.mem_of_getElem? (i := 247) (by decide +kernel), List.mem_of_getElem? (i := 248) (by decide +kernel)⟩
theorem lw_p7 : lw_okq (⟨"MeanCoats$Town", "isHere", "(I)Z"⟩, 13) := ⟨⟨by decide +kernel, by decide +kernel⟩, List.mem_of_getElem? (i := 24) (by decide +kernel), List.mem_of_getElem? (i := 256) (by decide +kernel), List.mem_of_getElem? (i := 257) (by decide +kernel)⟩
theorem lw_p8 : lw_okq (⟨"MeanCoats$Town", "timesOf", "(I)I"⟩, 13) := ⟨⟨by decide +kernel, by decide +kernel⟩, List.mem_of_getElem? (i := 24) (by decide +kernel), List.mem_of_getElem? (i := 263) (by decide +kernel), List.mem_of_getElem? (i := 264) (by decide +kernel)⟩
theorem lw_p9 : lw_okq (⟨"MeanCoats$Town", "put", "(III)V"⟩, 13) := ⟨⟨by decide +kernel, by decide +kernel⟩, List.mem_of_getElem? (i := 24) (by decide +kernel), List.mem_of_getElem? (i := 276) (by decide +kernel), List.mem_of_getElem? (i := 277) (by decide +kernel)⟩
theorem lw_p10 : lw_okq (⟨"MeanCoats$Town", "setInches", "(III)V"⟩, 13) := ⟨⟨by decide +kernel, by decide +kernel⟩, List.mem_of_getElem? (i := 24) (by decide +kernel), List.mem_of_getElem? (i := 280) (by decide +kernel), List.mem_of_getElem? (i := 281) (by decide +kernel)⟩
theorem lw_p11 : lw_okq (⟨"MeanCoats", "cutForAllHere", "()Z"⟩, 10) := ⟨⟨by decide +kernel, by decide +kernel⟩, List.mem_of_getElem? (i := 16) (by decide +kernel), List.mem_of_getElem? (i := 317) (by decide +kernel), List.mem_of_getElem? (i := 318) (by decide +kernel)⟩
theorem lw_p12 : lw_okq (⟨"MeanCoats$Tailor", "measureAll", "(LMeanCoats$Town;)V"⟩, 5) := ⟨⟨by decide +kernel, by decide +kernel⟩, List.mem_of_getElem? (i := 86) (by decide +kernel), List.mem_of_getElem? (i := 321) (by decide +kernel), List.mem_of_getElem? (i := 322) (by decide +kernel)⟩
theorem lw_p13 : lw_okq (⟨"MeanCoats$Tailor", "arrange", "(I)V"⟩, 5) := ⟨⟨by decide +kernel, by decide +kernel⟩, List.mem_of_getElem? (i := 86) (by decide +kernel), List.mem_of_getElem? (i := 327) (by decide +kernel), List.mem_of_getElem? (i := 328) (by decide +kernel)⟩
theorem lw_p14 : lw_okq (⟨"MeanCoats$Tailor", "cutAll", "(II)Z"⟩, 5) := ⟨⟨by decide +kernel, by decide +kernel⟩, List.mem_of_getElem? (i := 86) (by decide +kernel), List.mem_of_getElem? (i := 331) (by decide +kernel), List.mem_of_getElem? (i := 332) (by decide +kernel)⟩
theorem lw_p15 : lw_okq (⟨"MeanCoats$Tailor", "cutOne", "(III)I"⟩, 5) := ⟨⟨by decide +kernel, by decide +kernel⟩, List.mem_of_getElem? (i := 86) (by decide +kernel), List.mem_of_getElem? (i := 335) (by decide +kernel), List.mem_of_getElem? (i := 336) (by decide +kernel)⟩
def lw_privs_1 : List (MethodName × Nat) := [(⟨"MeanCoats", "finding", "(I)I"⟩, 10), (⟨"MeanCoats$Town", "add", "(IIII)I"⟩, 13), (⟨"MeanCoats", "isBody", "(I)Z"⟩, 10), (⟨"MeanCoats$Town", "tell", "(II)I"⟩, 13), (⟨"MeanCoats$Town", "measuredOf", "(II)I"⟩, 13), (⟨"MeanCoats$Town", "widthAtBribe", "(II)I"⟩, 13), (⟨"MeanCoats$Town", "inchesOf", "(II)I"⟩, 13), (⟨"MeanCoats$Town", "isHere", "(I)Z"⟩, 13), (⟨"MeanCoats$Town", "timesOf", "(I)I"⟩, 13), (⟨"MeanCoats$Town", "put", "(III)V"⟩, 13), (⟨"MeanCoats$Town", "setInches", "(III)V"⟩, 13), (⟨"MeanCoats", "cutForAllHere", "()Z"⟩, 10), (⟨"MeanCoats$Tailor", "measureAll", "(LMeanCoats$Town;)V"⟩, 5), (⟨"MeanCoats$Tailor", "arrange", "(I)V"⟩, 5), (⟨"MeanCoats$Tailor", "cutAll", "(II)Z"⟩, 5), (⟨"MeanCoats$Tailor", "cutOne", "(III)I"⟩, 5)]
theorem lw_r1 : ∀ q ∈ lw_privs_1, lw_okq q := List.forall_mem_cons.mpr ⟨lw_p0, List.forall_mem_cons.mpr ⟨lw_p1, List.forall_mem_cons.mpr ⟨lw_p2, List.forall_mem_cons.mpr ⟨lw_p3, List.forall_mem_cons.mpr ⟨lw_p4, List.forall_mem_cons.mpr ⟨lw_p5, List.forall_mem_cons.mpr ⟨lw_p6, List.forall_mem_cons.mpr ⟨lw_p7, List.forall_mem_cons.mpr ⟨lw_p8, List.forall_mem_cons.mpr ⟨lw_p9, List.forall_mem_cons.mpr ⟨lw_p10, List.forall_mem_cons.mpr ⟨lw_p11, List.forall_mem_cons.mpr ⟨lw_p12, List.forall_mem_cons.mpr ⟨lw_p13, List.forall_mem_cons.mpr ⟨lw_p14, List.forall_mem_cons.mpr ⟨lw_p15, fun _ h => absurd h List.not_mem_nil⟩⟩⟩⟩⟩⟩⟩⟩⟩⟩⟩⟩⟩⟩⟩⟩
theorem lw_p16 : lw_okq (⟨"MeanCoats$Tailor", "middleOf", "(II)I"⟩, 5) := ⟨⟨by decide +kernel, by decide +kernel⟩, List.mem_of_getElem? (i := 86) (by decide +kernel), List.mem_of_getElem? (i := 339) (by decide +kernel), List.mem_of_getElem? (i := 340) (by decide +kernel)⟩
theorem lw_p17 : lw_okq (⟨"MeanCoats$Tailor", "timesOf", "(I)I"⟩, 5) := ⟨⟨by decide +kernel, by decide +kernel⟩, List.mem_of_getElem? (i := 86) (by decide +kernel), List.mem_of_getElem? (i := 343) (by decide +kernel), List.mem_of_getElem? (i := 344) (by decide +kernel)⟩
theorem lw_p18 : lw_okq (⟨"MeanCoats$Tailor", "greatestOf", "(II)I"⟩, 5) := ⟨⟨by decide +kernel, by decide +kernel⟩, List.mem_of_getElem? (i := 86) (by decide +kernel), List.mem_of_getElem? (i := 348) (by decide +kernel), List.mem_of_getElem? (i := 349) (by decide +kernel)⟩
theorem lw_p19 : lw_okq (⟨"MeanCoats$Tailor", "cutMeanOf", "(II)I"⟩, 5) := ⟨⟨by decide +kernel, by decide +kernel⟩, List.mem_of_getElem? (i := 86) (by decide +kernel), List.mem_of_getElem? (i := 352) (by decide +kernel), List.mem_of_getElem? (i := 353) (by decide +kernel)⟩
theorem lw_p20 : lw_okq (⟨"MeanCoats$Tailor", "sumOf", "(II)I"⟩, 5) := ⟨⟨by decide +kernel, by decide +kernel⟩, List.mem_of_getElem? (i := 86) (by decide +kernel), List.mem_of_getElem? (i := 356) (by decide +kernel), List.mem_of_getElem? (i := 357) (by decide +kernel)⟩
theorem lw_p21 : lw_okq (⟨"MeanCoats$Tailor", "costOf", "(LMeanCoats$Town;I)I"⟩, 5) := ⟨⟨by decide +kernel, by decide +kernel⟩, List.mem_of_getElem? (i := 86) (by decide +kernel), List.mem_of_getElem? (i := 373) (by decide +kernel), List.mem_of_getElem? (i := 374) (by decide +kernel)⟩
theorem lw_p22 : lw_okq (⟨"MeanCoats$Tailor", "farOf", "(LMeanCoats$Town;I)I"⟩, 5) := ⟨⟨by decide +kernel, by decide +kernel⟩, List.mem_of_getElem? (i := 86) (by decide +kernel), List.mem_of_getElem? (i := 377) (by decide +kernel), List.mem_of_getElem? (i := 378) (by decide +kernel)⟩
theorem lw_p23 : lw_okq (⟨"MeanCoats$Tailor", "fitting", "(LMeanCoats$Town;I)I"⟩, 5) := ⟨⟨by decide +kernel, by decide +kernel⟩, List.mem_of_getElem? (i := 86) (by decide +kernel), List.mem_of_getElem? (i := 390) (by decide +kernel), List.mem_of_getElem? (i := 391) (by decide +kernel)⟩
theorem lw_p24 : lw_okq (⟨"MeanCoats$Tailor", "farOfPair", "(LMeanCoats$Town;II)I"⟩, 5) := ⟨⟨by decide +kernel, by decide +kernel⟩, List.mem_of_getElem? (i := 86) (by decide +kernel), List.mem_of_getElem? (i := 416) (by decide +kernel), List.mem_of_getElem? (i := 417) (by decide +kernel)⟩
theorem lw_p25 : lw_okq (⟨"MeanCoats", "fittingIfSent", "(I)I"⟩, 10) := ⟨⟨by decide +kernel, by decide +kernel⟩, List.mem_of_getElem? (i := 16) (by decide +kernel), List.mem_of_getElem? (i := 429) (by decide +kernel), List.mem_of_getElem? (i := 430) (by decide +kernel)⟩
theorem lw_p26 : lw_okq (⟨"MeanCoats", "fittingBy", "(II)I"⟩, 10) := ⟨⟨by decide +kernel, by decide +kernel⟩, List.mem_of_getElem? (i := 16) (by decide +kernel), List.mem_of_getElem? (i := 433) (by decide +kernel), List.mem_of_getElem? (i := 434) (by decide +kernel)⟩
theorem lw_p27 : lw_okq (⟨"MeanCoats", "coatIfSized", "(III)I"⟩, 10) := ⟨⟨by decide +kernel, by decide +kernel⟩, List.mem_of_getElem? (i := 16) (by decide +kernel), List.mem_of_getElem? (i := 455) (by decide +kernel), List.mem_of_getElem? (i := 456) (by decide +kernel)⟩
theorem lw_p28 : lw_okq (⟨"MeanCoats$Town", "bribesHere", "(I)Z"⟩, 13) := ⟨⟨by decide +kernel, by decide +kernel⟩, List.mem_of_getElem? (i := 24) (by decide +kernel), List.mem_of_getElem? (i := 468) (by decide +kernel), List.mem_of_getElem? (i := 469) (by decide +kernel)⟩
theorem lw_p29 : lw_okq (⟨"MeanCoats", "bestBribe", "(I)I"⟩, 10) := ⟨⟨by decide +kernel, by decide +kernel⟩, List.mem_of_getElem? (i := 16) (by decide +kernel), List.mem_of_getElem? (i := 472) (by decide +kernel), List.mem_of_getElem? (i := 473) (by decide +kernel)⟩
theorem lw_p30 : lw_okq (⟨"MeanCoats", "costAtBribe", "(II)I"⟩, 10) := ⟨⟨by decide +kernel, by decide +kernel⟩, List.mem_of_getElem? (i := 16) (by decide +kernel), List.mem_of_getElem? (i := 476) (by decide +kernel), List.mem_of_getElem? (i := 477) (by decide +kernel)⟩
theorem lw_p31 : lw_okq (⟨"MeanCoats$Tailor", "show", "(III)V"⟩, 5) := ⟨⟨by decide +kernel, by decide +kernel⟩, List.mem_of_getElem? (i := 86) (by decide +kernel), List.mem_of_getElem? (i := 481) (by decide +kernel), List.mem_of_getElem? (i := 482) (by decide +kernel)⟩
def lw_privs_2 : List (MethodName × Nat) := [(⟨"MeanCoats$Tailor", "middleOf", "(II)I"⟩, 5), (⟨"MeanCoats$Tailor", "timesOf", "(I)I"⟩, 5), (⟨"MeanCoats$Tailor", "greatestOf", "(II)I"⟩, 5), (⟨"MeanCoats$Tailor", "cutMeanOf", "(II)I"⟩, 5), (⟨"MeanCoats$Tailor", "sumOf", "(II)I"⟩, 5), (⟨"MeanCoats$Tailor", "costOf", "(LMeanCoats$Town;I)I"⟩, 5), (⟨"MeanCoats$Tailor", "farOf", "(LMeanCoats$Town;I)I"⟩, 5), (⟨"MeanCoats$Tailor", "fitting", "(LMeanCoats$Town;I)I"⟩, 5), (⟨"MeanCoats$Tailor", "farOfPair", "(LMeanCoats$Town;II)I"⟩, 5), (⟨"MeanCoats", "fittingIfSent", "(I)I"⟩, 10), (⟨"MeanCoats", "fittingBy", "(II)I"⟩, 10), (⟨"MeanCoats", "coatIfSized", "(III)I"⟩, 10), (⟨"MeanCoats$Town", "bribesHere", "(I)Z"⟩, 13), (⟨"MeanCoats", "bestBribe", "(I)I"⟩, 10), (⟨"MeanCoats", "costAtBribe", "(II)I"⟩, 10), (⟨"MeanCoats$Tailor", "show", "(III)V"⟩, 5)]
theorem lw_r2 : ∀ q ∈ lw_privs_2, lw_okq q := List.forall_mem_cons.mpr ⟨lw_p16, List.forall_mem_cons.mpr ⟨lw_p17, List.forall_mem_cons.mpr ⟨lw_p18, List.forall_mem_cons.mpr ⟨lw_p19, List.forall_mem_cons.mpr ⟨lw_p20, List.forall_mem_cons.mpr ⟨lw_p21, List.forall_mem_cons.mpr ⟨lw_p22, List.forall_mem_cons.mpr ⟨lw_p23, List.forall_mem_cons.mpr ⟨lw_p24, List.forall_mem_cons.mpr ⟨lw_p25, List.forall_mem_cons.mpr ⟨lw_p26, List.forall_mem_cons.mpr ⟨lw_p27, List.forall_mem_cons.mpr ⟨lw_p28, List.forall_mem_cons.mpr ⟨lw_p29, List.forall_mem_cons.mpr ⟨lw_p30, List.forall_mem_cons.mpr ⟨lw_p31, fun _ h => absurd h List.not_mem_nil⟩⟩⟩⟩⟩⟩⟩⟩⟩⟩⟩⟩⟩⟩⟩⟩
theorem lw_p32 : lw_okq (⟨"MeanCoats", "isSettled", "()Z"⟩, 10) := ⟨⟨by decide +kernel, by decide +kernel⟩, List.mem_of_getElem? (i := 16) (by decide +kernel), List.mem_of_getElem? (i := 489) (by decide +kernel), List.mem_of_getElem? (i := 490) (by decide +kernel)⟩
theorem lw_p33 : lw_okq (⟨"MeanCoats$Town", "readBribes", "([I)V"⟩, 13) := ⟨⟨by decide +kernel, by decide +kernel⟩, List.mem_of_getElem? (i := 24) (by decide +kernel), List.mem_of_getElem? (i := 497) (by decide +kernel), List.mem_of_getElem? (i := 498) (by decide +kernel)⟩
theorem lw_p34 : lw_okq (⟨"MeanCoats", "doRound", "()V"⟩, 10) := ⟨⟨by decide +kernel, by decide +kernel⟩, List.mem_of_getElem? (i := 16) (by decide +kernel), List.mem_of_getElem? (i := 504) (by decide +kernel), List.mem_of_getElem? (i := 505) (by decide +kernel)⟩
theorem lw_p35 : lw_okq (⟨"MeanCoats$Town", "writeBribes", "([I)V"⟩, 13) := ⟨⟨by decide +kernel, by decide +kernel⟩, List.mem_of_getElem? (i := 24) (by decide +kernel), List.mem_of_getElem? (i := 512) (by decide +kernel), List.mem_of_getElem? (i := 513) (by decide +kernel)⟩
theorem lw_p36 : lw_okq (⟨"MeanCoats$Town", "addSpring", "([I)I"⟩, 13) := ⟨⟨by decide +kernel, by decide +kernel⟩, List.mem_of_getElem? (i := 24) (by decide +kernel), List.mem_of_getElem? (i := 520) (by decide +kernel), List.mem_of_getElem? (i := 521) (by decide +kernel)⟩
theorem lw_p37 : lw_okq (⟨"MeanCoats", "isSpring", "(I)Z"⟩, 10) := ⟨⟨by decide +kernel, by decide +kernel⟩, List.mem_of_getElem? (i := 16) (by decide +kernel), List.mem_of_getElem? (i := 528) (by decide +kernel), List.mem_of_getElem? (i := 529) (by decide +kernel)⟩
theorem lw_p38 : lw_okq (⟨"MeanCoats$Town", "oldCoat", "(II)I"⟩, 13) := ⟨⟨by decide +kernel, by decide +kernel⟩, List.mem_of_getElem? (i := 24) (by decide +kernel), List.mem_of_getElem? (i := 532) (by decide +kernel), List.mem_of_getElem? (i := 533) (by decide +kernel)⟩
theorem lw_p39 : lw_okq (⟨"MeanCoats", "cutsAsIn", "(II)Z"⟩, 10) := ⟨⟨by decide +kernel, by decide +kernel⟩, List.mem_of_getElem? (i := 16) (by decide +kernel), List.mem_of_getElem? (i := 540) (by decide +kernel), List.mem_of_getElem? (i := 541) (by decide +kernel)⟩
theorem lw_p40 : lw_okq (⟨"MeanCoats", "slipAll", "()V"⟩, 10) := ⟨⟨by decide +kernel, by decide +kernel⟩, List.mem_of_getElem? (i := 16) (by decide +kernel), List.mem_of_getElem? (i := 553) (by decide +kernel), List.mem_of_getElem? (i := 554) (by decide +kernel)⟩
theorem lw_p41 : lw_okq (⟨"MeanCoats$Town", "draw", "()I"⟩, 13) := ⟨⟨by decide +kernel, by decide +kernel⟩, List.mem_of_getElem? (i := 24) (by decide +kernel), List.mem_of_getElem? (i := 557) (by decide +kernel), List.mem_of_getElem? (i := 558) (by decide +kernel)⟩
theorem lw_p42 : lw_okq (⟨"MeanCoats$Tailor", "slip", "(III)V"⟩, 5) := ⟨⟨by decide +kernel, by decide +kernel⟩, List.mem_of_getElem? (i := 86) (by decide +kernel), List.mem_of_getElem? (i := 562) (by decide +kernel), List.mem_of_getElem? (i := 563) (by decide +kernel)⟩
theorem lw_p43 : lw_okq (⟨"MeanCoats", "isCoatAsBefore", "()Z"⟩, 10) := ⟨⟨by decide +kernel, by decide +kernel⟩, List.mem_of_getElem? (i := 16) (by decide +kernel), List.mem_of_getElem? (i := 567) (by decide +kernel), List.mem_of_getElem? (i := 568) (by decide +kernel)⟩
theorem lw_p44 : lw_okq (⟨"MeanCoats$Tape", "add", "(I)V"⟩, 7) := ⟨⟨by decide +kernel, by decide +kernel⟩, List.mem_of_getElem? (i := 109) (by decide +kernel), List.mem_of_getElem? (i := 579) (by decide +kernel), List.mem_of_getElem? (i := 580) (by decide +kernel)⟩
theorem lw_p45 : lw_okq (⟨"MeanCoats$Reader", "readItems", "(LMeanCoats$Tape;LMeanCoats$Town;Z)I"⟩, 4) := ⟨⟨by decide +kernel, by decide +kernel⟩, List.mem_of_getElem? (i := 138) (by decide +kernel), List.mem_of_getElem? (i := 591) (by decide +kernel), List.mem_of_getElem? (i := 592) (by decide +kernel)⟩
theorem lw_p46 : lw_okq (⟨"MeanCoats$Tape", "split", "()V"⟩, 7) := ⟨⟨by decide +kernel, by decide +kernel⟩, List.mem_of_getElem? (i := 109) (by decide +kernel), List.mem_of_getElem? (i := 595) (by decide +kernel), List.mem_of_getElem? (i := 596) (by decide +kernel)⟩
theorem lw_p47 : lw_okq (⟨"MeanCoats$Tape", "lay", "(IIII)V"⟩, 7) := ⟨⟨by decide +kernel, by decide +kernel⟩, List.mem_of_getElem? (i := 109) (by decide +kernel), List.mem_of_getElem? (i := 603) (by decide +kernel), List.mem_of_getElem? (i := 604) (by decide +kernel)⟩
def lw_privs_3 : List (MethodName × Nat) := [(⟨"MeanCoats", "isSettled", "()Z"⟩, 10), (⟨"MeanCoats$Town", "readBribes", "([I)V"⟩, 13), (⟨"MeanCoats", "doRound", "()V"⟩, 10), (⟨"MeanCoats$Town", "writeBribes", "([I)V"⟩, 13), (⟨"MeanCoats$Town", "addSpring", "([I)I"⟩, 13), (⟨"MeanCoats", "isSpring", "(I)Z"⟩, 10), (⟨"MeanCoats$Town", "oldCoat", "(II)I"⟩, 13), (⟨"MeanCoats", "cutsAsIn", "(II)Z"⟩, 10), (⟨"MeanCoats", "slipAll", "()V"⟩, 10), (⟨"MeanCoats$Town", "draw", "()I"⟩, 13), (⟨"MeanCoats$Tailor", "slip", "(III)V"⟩, 5), (⟨"MeanCoats", "isCoatAsBefore", "()Z"⟩, 10), (⟨"MeanCoats$Tape", "add", "(I)V"⟩, 7), (⟨"MeanCoats$Reader", "readItems", "(LMeanCoats$Tape;LMeanCoats$Town;Z)I"⟩, 4), (⟨"MeanCoats$Tape", "split", "()V"⟩, 7), (⟨"MeanCoats$Tape", "lay", "(IIII)V"⟩, 7)]
theorem lw_r3 : ∀ q ∈ lw_privs_3, lw_okq q := List.forall_mem_cons.mpr ⟨lw_p32, List.forall_mem_cons.mpr ⟨lw_p33, List.forall_mem_cons.mpr ⟨lw_p34, List.forall_mem_cons.mpr ⟨lw_p35, List.forall_mem_cons.mpr ⟨lw_p36, List.forall_mem_cons.mpr ⟨lw_p37, List.forall_mem_cons.mpr ⟨lw_p38, List.forall_mem_cons.mpr ⟨lw_p39, List.forall_mem_cons.mpr ⟨lw_p40, List.forall_mem_cons.mpr ⟨lw_p41, List.forall_mem_cons.mpr ⟨lw_p42, List.forall_mem_cons.mpr ⟨lw_p43, List.forall_mem_cons.mpr ⟨lw_p44, List.forall_mem_cons.mpr ⟨lw_p45, List.forall_mem_cons.mpr ⟨lw_p46, List.forall_mem_cons.mpr ⟨lw_p47, fun _ h => absurd h List.not_mem_nil⟩⟩⟩⟩⟩⟩⟩⟩⟩⟩⟩⟩⟩⟩⟩⟩
theorem lw_p48 : lw_okq (⟨"MeanCoats$Reader", "readItem", "(LMeanCoats$Tape;LMeanCoats$Town;Z)Z"⟩, 4) := ⟨⟨by decide +kernel, by decide +kernel⟩, List.mem_of_getElem? (i := 138) (by decide +kernel), List.mem_of_getElem? (i := 607) (by decide +kernel), List.mem_of_getElem? (i := 608) (by decide +kernel)⟩
theorem lw_p49 : lw_okq (⟨"MeanCoats$Tape", "isWord", "(Ljava/lang/String;)Z"⟩, 7) := ⟨⟨by decide +kernel, by decide +kernel⟩, List.mem_of_getElem? (i := 109) (by decide +kernel), List.mem_of_getElem? (i := 624) (by decide +kernel), List.mem_of_getElem? (i := 625) (by decide +kernel)⟩
theorem lw_p50 : lw_okq (⟨"MeanCoats$Reader", "readBody", "(LMeanCoats$Tape;LMeanCoats$Town;IZ)Z"⟩, 4) := ⟨⟨by decide +kernel, by decide +kernel⟩, List.mem_of_getElem? (i := 138) (by decide +kernel), List.mem_of_getElem? (i := 676) (by decide +kernel), List.mem_of_getElem? (i := 677) (by decide +kernel)⟩
theorem lw_p51 : lw_okq (⟨"MeanCoats$Tape", "moveOn", "()V"⟩, 7) := ⟨⟨by decide +kernel, by decide +kernel⟩, List.mem_of_getElem? (i := 109) (by decide +kernel), List.mem_of_getElem? (i := 680) (by decide +kernel), List.mem_of_getElem? (i := 681) (by decide +kernel)⟩
theorem lw_p52 : lw_okq (⟨"MeanCoats$Reader", "readMeasures", "(LMeanCoats$Tape;)Z"⟩, 4) := ⟨⟨by decide +kernel, by decide +kernel⟩, List.mem_of_getElem? (i := 138) (by decide +kernel), List.mem_of_getElem? (i := 684) (by decide +kernel), List.mem_of_getElem? (i := 685) (by decide +kernel)⟩
theorem lw_p53 : lw_okq (⟨"MeanCoats$Tape", "numberWithin", "(II)I"⟩, 7) := ⟨⟨by decide +kernel, by decide +kernel⟩, List.mem_of_getElem? (i := 109) (by decide +kernel), List.mem_of_getElem? (i := 691) (by decide +kernel), List.mem_of_getElem? (i := 692) (by decide +kernel)⟩
theorem lw_p54 : lw_okq (⟨"MeanCoats$Reader", "readBribe", "(LMeanCoats$Tape;)Z"⟩, 4) := ⟨⟨by decide +kernel, by decide +kernel⟩, List.mem_of_getElem? (i := 138) (by decide +kernel), List.mem_of_getElem? (i := 698) (by decide +kernel), List.mem_of_getElem? (i := 699) (by decide +kernel)⟩
theorem lw_p55 : lw_okq (⟨"MeanCoats$Tape", "isSign", "(C)Z"⟩, 7) := ⟨⟨by decide +kernel, by decide +kernel⟩, List.mem_of_getElem? (i := 109) (by decide +kernel), List.mem_of_getElem? (i := 703) (by decide +kernel), List.mem_of_getElem? (i := 704) (by decide +kernel)⟩
theorem lw_p56 : lw_okq (⟨"MeanCoats$Reader", "readPins", "(LMeanCoats$Tape;)Z"⟩, 4) := ⟨⟨by decide +kernel, by decide +kernel⟩, List.mem_of_getElem? (i := 138) (by decide +kernel), List.mem_of_getElem? (i := 707) (by decide +kernel), List.mem_of_getElem? (i := 708) (by decide +kernel)⟩
theorem lw_p57 : lw_okq (⟨"MeanCoats$Reader", "readRule", "(LMeanCoats$Tape;LMeanCoats$Town;Z)Z"⟩, 4) := ⟨⟨by decide +kernel, by decide +kernel⟩, List.mem_of_getElem? (i := 138) (by decide +kernel), List.mem_of_getElem? (i := 715) (by decide +kernel), List.mem_of_getElem? (i := 716) (by decide +kernel)⟩
theorem lw_p58 : lw_okq (⟨"MeanCoats$Reader", "readEase", "(LMeanCoats$Tape;LMeanCoats$Town;Z)Z"⟩, 4) := ⟨⟨by decide +kernel, by decide +kernel⟩, List.mem_of_getElem? (i := 138) (by decide +kernel), List.mem_of_getElem? (i := 726) (by decide +kernel), List.mem_of_getElem? (i := 727) (by decide +kernel)⟩
theorem lw_p59 : lw_okq (⟨"MeanCoats$Reader", "readPrice", "(LMeanCoats$Tape;LMeanCoats$Town;Z)Z"⟩, 4) := ⟨⟨by decide +kernel, by decide +kernel⟩, List.mem_of_getElem? (i := 138) (by decide +kernel), List.mem_of_getElem? (i := 731) (by decide +kernel), List.mem_of_getElem? (i := 732) (by decide +kernel)⟩
theorem lw_p60 : lw_okq (⟨"MeanCoats$Tape", "begin", "()I"⟩, 7) := ⟨⟨by decide +kernel, by decide +kernel⟩, List.mem_of_getElem? (i := 109) (by decide +kernel), List.mem_of_getElem? (i := 735) (by decide +kernel), List.mem_of_getElem? (i := 736) (by decide +kernel)⟩
theorem lw_p61 : lw_okq (⟨"MeanCoats$Tape", "isEnd", "()Z"⟩, 7) := ⟨⟨by decide +kernel, by decide +kernel⟩, List.mem_of_getElem? (i := 109) (by decide +kernel), List.mem_of_getElem? (i := 739) (by decide +kernel), List.mem_of_getElem? (i := 740) (by decide +kernel)⟩
theorem lw_p62 : lw_okq (⟨"MeanCoats$Sheet", "lay", "(II)V"⟩, 3) := ⟨⟨by decide +kernel, by decide +kernel⟩, List.mem_of_getElem? (i := 158) (by decide +kernel), List.mem_of_getElem? (i := 763) (by decide +kernel), List.mem_of_getElem? (i := 764) (by decide +kernel)⟩
theorem lw_p63 : lw_okq (⟨"MeanCoats$Sheet", "isMissing", "()Z"⟩, 3) := ⟨⟨by decide +kernel, by decide +kernel⟩, List.mem_of_getElem? (i := 158) (by decide +kernel), List.mem_of_getElem? (i := 771) (by decide +kernel), List.mem_of_getElem? (i := 772) (by decide +kernel)⟩
def lw_privs_4 : List (MethodName × Nat) := [(⟨"MeanCoats$Reader", "readItem", "(LMeanCoats$Tape;LMeanCoats$Town;Z)Z"⟩, 4), (⟨"MeanCoats$Tape", "isWord", "(Ljava/lang/String;)Z"⟩, 7), (⟨"MeanCoats$Reader", "readBody", "(LMeanCoats$Tape;LMeanCoats$Town;IZ)Z"⟩, 4), (⟨"MeanCoats$Tape", "moveOn", "()V"⟩, 7), (⟨"MeanCoats$Reader", "readMeasures", "(LMeanCoats$Tape;)Z"⟩, 4), (⟨"MeanCoats$Tape", "numberWithin", "(II)I"⟩, 7), (⟨"MeanCoats$Reader", "readBribe", "(LMeanCoats$Tape;)Z"⟩, 4), (⟨"MeanCoats$Tape", "isSign", "(C)Z"⟩, 7), (⟨"MeanCoats$Reader", "readPins", "(LMeanCoats$Tape;)Z"⟩, 4), (⟨"MeanCoats$Reader", "readRule", "(LMeanCoats$Tape;LMeanCoats$Town;Z)Z"⟩, 4), (⟨"MeanCoats$Reader", "readEase", "(LMeanCoats$Tape;LMeanCoats$Town;Z)Z"⟩, 4), (⟨"MeanCoats$Reader", "readPrice", "(LMeanCoats$Tape;LMeanCoats$Town;Z)Z"⟩, 4), (⟨"MeanCoats$Tape", "begin", "()I"⟩, 7), (⟨"MeanCoats$Tape", "isEnd", "()Z"⟩, 7), (⟨"MeanCoats$Sheet", "lay", "(II)V"⟩, 3), (⟨"MeanCoats$Sheet", "isMissing", "()Z"⟩, 3)]
theorem lw_r4 : ∀ q ∈ lw_privs_4, lw_okq q := List.forall_mem_cons.mpr ⟨lw_p48, List.forall_mem_cons.mpr ⟨lw_p49, List.forall_mem_cons.mpr ⟨lw_p50, List.forall_mem_cons.mpr ⟨lw_p51, List.forall_mem_cons.mpr ⟨lw_p52, List.forall_mem_cons.mpr ⟨lw_p53, List.forall_mem_cons.mpr ⟨lw_p54, List.forall_mem_cons.mpr ⟨lw_p55, List.forall_mem_cons.mpr ⟨lw_p56, List.forall_mem_cons.mpr ⟨lw_p57, List.forall_mem_cons.mpr ⟨lw_p58, List.forall_mem_cons.mpr ⟨lw_p59, List.forall_mem_cons.mpr ⟨lw_p60, List.forall_mem_cons.mpr ⟨lw_p61, List.forall_mem_cons.mpr ⟨lw_p62, List.forall_mem_cons.mpr ⟨lw_p63, fun _ h => absurd h List.not_mem_nil⟩⟩⟩⟩⟩⟩⟩⟩⟩⟩⟩⟩⟩⟩⟩⟩
theorem lw_p64 : lw_okq (⟨"MeanCoats$Sheet", "put", "(II)V"⟩, 3) := ⟨⟨by decide +kernel, by decide +kernel⟩, List.mem_of_getElem? (i := 158) (by decide +kernel), List.mem_of_getElem? (i := 775) (by decide +kernel), List.mem_of_getElem? (i := 776) (by decide +kernel)⟩
theorem lw_p65 : lw_okq (⟨"MeanCoats$Sheet", "has", "(II)Z"⟩, 3) := ⟨⟨by decide +kernel, by decide +kernel⟩, List.mem_of_getElem? (i := 158) (by decide +kernel), List.mem_of_getElem? (i := 783) (by decide +kernel), List.mem_of_getElem? (i := 784) (by decide +kernel)⟩
theorem lw_p66 : lw_okq (⟨"MeanCoats$Sheet", "hasMeasures", "(I)Z"⟩, 3) := ⟨⟨by decide +kernel, by decide +kernel⟩, List.mem_of_getElem? (i := 158) (by decide +kernel), List.mem_of_getElem? (i := 791) (by decide +kernel), List.mem_of_getElem? (i := 792) (by decide +kernel)⟩
theorem lw_p67 : lw_okq (⟨"MeanCoats$Town", "become", "(LMeanCoats$Town;)V"⟩, 13) := ⟨⟨by decide +kernel, by decide +kernel⟩, List.mem_of_getElem? (i := 24) (by decide +kernel), List.mem_of_getElem? (i := 805) (by decide +kernel), List.mem_of_getElem? (i := 806) (by decide +kernel)⟩
theorem lw_p68 : lw_okq (⟨"MeanCoats$Town", "spotsHeld", "()I"⟩, 13) := ⟨⟨by decide +kernel, by decide +kernel⟩, List.mem_of_getElem? (i := 24) (by decide +kernel), List.mem_of_getElem? (i := 821) (by decide +kernel), List.mem_of_getElem? (i := 822) (by decide +kernel)⟩
theorem lw_p69 : lw_okq (⟨"MeanCoatsModel", "finding", "(I)I"⟩, 27) := ⟨⟨by decide +kernel, by decide +kernel⟩, List.mem_of_getElem? (i := 829) (by decide +kernel), List.mem_of_getElem? (i := 937) (by decide +kernel), List.mem_of_getElem? (i := 938) (by decide +kernel)⟩
theorem lw_p70 : lw_okq (⟨"MeanCoatsModel", "comes", "(IIII)I"⟩, 27) := ⟨⟨by decide +kernel, by decide +kernel⟩, List.mem_of_getElem? (i := 829) (by decide +kernel), List.mem_of_getElem? (i := 942) (by decide +kernel), List.mem_of_getElem? (i := 943) (by decide +kernel)⟩
theorem lw_p71 : lw_okq (⟨"MeanCoatsModel", "isBody", "(I)Z"⟩, 27) := ⟨⟨by decide +kernel, by decide +kernel⟩, List.mem_of_getElem? (i := 829) (by decide +kernel), List.mem_of_getElem? (i := 950) (by decide +kernel), List.mem_of_getElem? (i := 951) (by decide +kernel)⟩
theorem lw_p72 : lw_okq (⟨"MeanCoatsModel", "bodyIs", "(II)I"⟩, 27) := ⟨⟨by decide +kernel, by decide +kernel⟩, List.mem_of_getElem? (i := 829) (by decide +kernel), List.mem_of_getElem? (i := 954) (by decide +kernel), List.mem_of_getElem? (i := 955) (by decide +kernel)⟩
theorem lw_p73 : lw_okq (⟨"MeanCoatsModel", "countsOf", "(I)I"⟩, 27) := ⟨⟨by decide +kernel, by decide +kernel⟩, List.mem_of_getElem? (i := 829) (by decide +kernel), List.mem_of_getElem? (i := 958) (by decide +kernel), List.mem_of_getElem? (i := 959) (by decide +kernel)⟩
theorem lw_p74 : lw_okq (⟨"MeanCoatsModel", "measured", "(II)I"⟩, 27) := ⟨⟨by decide +kernel, by decide +kernel⟩, List.mem_of_getElem? (i := 829) (by decide +kernel), List.mem_of_getElem? (i := 962) (by decide +kernel), List.mem_of_getElem? (i := 963) (by decide +kernel)⟩
theorem lw_p75 : lw_okq (⟨"MeanCoatsModel", "become", "(II)I"⟩, 27) := ⟨⟨by decide +kernel, by decide +kernel⟩, List.mem_of_getElem? (i := 829) (by decide +kernel), List.mem_of_getElem? (i := 973) (by decide +kernel), List.mem_of_getElem? (i := 974) (by decide +kernel)⟩
theorem lw_p76 : lw_okq (⟨"MeanCoatsModel", "hereSet", "()I"⟩, 27) := ⟨⟨by decide +kernel, by decide +kernel⟩, List.mem_of_getElem? (i := 829) (by decide +kernel), List.mem_of_getElem? (i := 1005) (by decide +kernel), List.mem_of_getElem? (i := 1006) (by decide +kernel)⟩
theorem lw_p77 : lw_okq (⟨"MeanCoatsModel", "cutFor", "(II)I"⟩, 27) := ⟨⟨by decide +kernel, by decide +kernel⟩, List.mem_of_getElem? (i := 829) (by decide +kernel), List.mem_of_getElem? (i := 1010) (by decide +kernel), List.mem_of_getElem? (i := 1011) (by decide +kernel)⟩
theorem lw_p78 : lw_okq (⟨"MeanCoatsModel", "findRow", "(II)V"⟩, 27) := ⟨⟨by decide +kernel, by decide +kernel⟩, List.mem_of_getElem? (i := 829) (by decide +kernel), List.mem_of_getElem? (i := 1014) (by decide +kernel), List.mem_of_getElem? (i := 1015) (by decide +kernel)⟩
theorem lw_p79 : lw_okq (⟨"MeanCoatsModel", "rowSum", "()I"⟩, 27) := ⟨⟨by decide +kernel, by decide +kernel⟩, List.mem_of_getElem? (i := 829) (by decide +kernel), List.mem_of_getElem? (i := 1021) (by decide +kernel), List.mem_of_getElem? (i := 1022) (by decide +kernel)⟩
def lw_privs_5 : List (MethodName × Nat) := [(⟨"MeanCoats$Sheet", "put", "(II)V"⟩, 3), (⟨"MeanCoats$Sheet", "has", "(II)Z"⟩, 3), (⟨"MeanCoats$Sheet", "hasMeasures", "(I)Z"⟩, 3), (⟨"MeanCoats$Town", "become", "(LMeanCoats$Town;)V"⟩, 13), (⟨"MeanCoats$Town", "spotsHeld", "()I"⟩, 13), (⟨"MeanCoatsModel", "finding", "(I)I"⟩, 27), (⟨"MeanCoatsModel", "comes", "(IIII)I"⟩, 27), (⟨"MeanCoatsModel", "isBody", "(I)Z"⟩, 27), (⟨"MeanCoatsModel", "bodyIs", "(II)I"⟩, 27), (⟨"MeanCoatsModel", "countsOf", "(I)I"⟩, 27), (⟨"MeanCoatsModel", "measured", "(II)I"⟩, 27), (⟨"MeanCoatsModel", "become", "(II)I"⟩, 27), (⟨"MeanCoatsModel", "hereSet", "()I"⟩, 27), (⟨"MeanCoatsModel", "cutFor", "(II)I"⟩, 27), (⟨"MeanCoatsModel", "findRow", "(II)V"⟩, 27), (⟨"MeanCoatsModel", "rowSum", "()I"⟩, 27)]
theorem lw_r5 : ∀ q ∈ lw_privs_5, lw_okq q := List.forall_mem_cons.mpr ⟨lw_p64, List.forall_mem_cons.mpr ⟨lw_p65, List.forall_mem_cons.mpr ⟨lw_p66, List.forall_mem_cons.mpr ⟨lw_p67, List.forall_mem_cons.mpr ⟨lw_p68, List.forall_mem_cons.mpr ⟨lw_p69, List.forall_mem_cons.mpr ⟨lw_p70, List.forall_mem_cons.mpr ⟨lw_p71, List.forall_mem_cons.mpr ⟨lw_p72, List.forall_mem_cons.mpr ⟨lw_p73, List.forall_mem_cons.mpr ⟨lw_p74, List.forall_mem_cons.mpr ⟨lw_p75, List.forall_mem_cons.mpr ⟨lw_p76, List.forall_mem_cons.mpr ⟨lw_p77, List.forall_mem_cons.mpr ⟨lw_p78, List.forall_mem_cons.mpr ⟨lw_p79, fun _ h => absurd h List.not_mem_nil⟩⟩⟩⟩⟩⟩⟩⟩⟩⟩⟩⟩⟩⟩⟩⟩
theorem lw_p80 : lw_okq (⟨"MeanCoatsModel", "cut", "(I)V"⟩, 27) := ⟨⟨by decide +kernel, by decide +kernel⟩, List.mem_of_getElem? (i := 829) (by decide +kernel), List.mem_of_getElem? (i := 1036) (by decide +kernel), List.mem_of_getElem? (i := 1037) (by decide +kernel)⟩
theorem lw_p81 : lw_okq (⟨"MeanCoatsModel", "costOf", "(I)I"⟩, 27) := ⟨⟨by decide +kernel, by decide +kernel⟩, List.mem_of_getElem? (i := 829) (by decide +kernel), List.mem_of_getElem? (i := 1040) (by decide +kernel), List.mem_of_getElem? (i := 1041) (by decide +kernel)⟩
theorem lw_p82 : lw_okq (⟨"MeanCoatsModel", "distance", "(I)I"⟩, 27) := ⟨⟨by decide +kernel, by decide +kernel⟩, List.mem_of_getElem? (i := 829) (by decide +kernel), List.mem_of_getElem? (i := 1044) (by decide +kernel), List.mem_of_getElem? (i := 1045) (by decide +kernel)⟩
theorem lw_p83 : lw_okq (⟨"MeanCoatsModel", "fitOf", "(I)I"⟩, 27) := ⟨⟨by decide +kernel, by decide +kernel⟩, List.mem_of_getElem? (i := 829) (by decide +kernel), List.mem_of_getElem? (i := 1053) (by decide +kernel), List.mem_of_getElem? (i := 1054) (by decide +kernel)⟩
theorem lw_p84 : lw_okq (⟨"MeanCoatsModel", "together", "(II)I"⟩, 27) := ⟨⟨by decide +kernel, by decide +kernel⟩, List.mem_of_getElem? (i := 829) (by decide +kernel), List.mem_of_getElem? (i := 1077) (by decide +kernel), List.mem_of_getElem? (i := 1078) (by decide +kernel)⟩
theorem lw_p85 : lw_okq (⟨"MeanCoatsModel", "isAway", "(I)Z"⟩, 27) := ⟨⟨by decide +kernel, by decide +kernel⟩, List.mem_of_getElem? (i := 829) (by decide +kernel), List.mem_of_getElem? (i := 1104) (by decide +kernel), List.mem_of_getElem? (i := 1105) (by decide +kernel)⟩
theorem lw_p86 : lw_okq (⟨"MeanCoatsModel", "doesBribe", "(I)Z"⟩, 27) := ⟨⟨by decide +kernel, by decide +kernel⟩, List.mem_of_getElem? (i := 829) (by decide +kernel), List.mem_of_getElem? (i := 1118) (by decide +kernel), List.mem_of_getElem? (i := 1119) (by decide +kernel)⟩
theorem lw_p87 : lw_okq (⟨"MeanCoatsModel", "bribeOf", "(I)I"⟩, 27) := ⟨⟨by decide +kernel, by decide +kernel⟩, List.mem_of_getElem? (i := 829) (by decide +kernel), List.mem_of_getElem? (i := 1122) (by decide +kernel), List.mem_of_getElem? (i := 1123) (by decide +kernel)⟩
theorem lw_p88 : lw_okq (⟨"MeanCoatsModel", "costBy", "(II)I"⟩, 27) := ⟨⟨by decide +kernel, by decide +kernel⟩, List.mem_of_getElem? (i := 829) (by decide +kernel), List.mem_of_getElem? (i := 1126) (by decide +kernel), List.mem_of_getElem? (i := 1127) (by decide +kernel)⟩
theorem lw_p89 : lw_okq (⟨"MeanCoatsModel", "isSettled", "()Z"⟩, 27) := ⟨⟨by decide +kernel, by decide +kernel⟩, List.mem_of_getElem? (i := 829) (by decide +kernel), List.mem_of_getElem? (i := 1134) (by decide +kernel), List.mem_of_getElem? (i := 1135) (by decide +kernel)⟩
theorem lw_p90 : lw_okq (⟨"MeanCoatsModel", "keepBribes", "()V"⟩, 27) := ⟨⟨by decide +kernel, by decide +kernel⟩, List.mem_of_getElem? (i := 829) (by decide +kernel), List.mem_of_getElem? (i := 1142) (by decide +kernel), List.mem_of_getElem? (i := 1143) (by decide +kernel)⟩
theorem lw_p91 : lw_okq (⟨"MeanCoatsModel", "round", "()V"⟩, 27) := ⟨⟨by decide +kernel, by decide +kernel⟩, List.mem_of_getElem? (i := 829) (by decide +kernel), List.mem_of_getElem? (i := 1146) (by decide +kernel), List.mem_of_getElem? (i := 1147) (by decide +kernel)⟩
theorem lw_p92 : lw_okq (⟨"MeanCoatsModel", "isSpring", "(I)Z"⟩, 27) := ⟨⟨by decide +kernel, by decide +kernel⟩, List.mem_of_getElem? (i := 829) (by decide +kernel), List.mem_of_getElem? (i := 1162) (by decide +kernel), List.mem_of_getElem? (i := 1163) (by decide +kernel)⟩
theorem lw_p93 : lw_okq (⟨"MeanCoatsModel", "findLived", "(I)I"⟩, 27) := ⟨⟨by decide +kernel, by decide +kernel⟩, List.mem_of_getElem? (i := 829) (by decide +kernel), List.mem_of_getElem? (i := 1170) (by decide +kernel), List.mem_of_getElem? (i := 1171) (by decide +kernel)⟩
theorem lw_p94 : lw_okq (⟨"MeanCoatsModel", "slip", "()V"⟩, 27) := ⟨⟨by decide +kernel, by decide +kernel⟩, List.mem_of_getElem? (i := 829) (by decide +kernel), List.mem_of_getElem? (i := 1182) (by decide +kernel), List.mem_of_getElem? (i := 1183) (by decide +kernel)⟩
theorem lw_p95 : lw_okq (⟨"MeanCoatsModel", "drawn", "(I)I"⟩, 27) := ⟨⟨by decide +kernel, by decide +kernel⟩, List.mem_of_getElem? (i := 829) (by decide +kernel), List.mem_of_getElem? (i := 1186) (by decide +kernel), List.mem_of_getElem? (i := 1187) (by decide +kernel)⟩
def lw_privs_6 : List (MethodName × Nat) := [(⟨"MeanCoatsModel", "cut", "(I)V"⟩, 27), (⟨"MeanCoatsModel", "costOf", "(I)I"⟩, 27), (⟨"MeanCoatsModel", "distance", "(I)I"⟩, 27), (⟨"MeanCoatsModel", "fitOf", "(I)I"⟩, 27), (⟨"MeanCoatsModel", "together", "(II)I"⟩, 27), (⟨"MeanCoatsModel", "isAway", "(I)Z"⟩, 27), (⟨"MeanCoatsModel", "doesBribe", "(I)Z"⟩, 27), (⟨"MeanCoatsModel", "bribeOf", "(I)I"⟩, 27), (⟨"MeanCoatsModel", "costBy", "(II)I"⟩, 27), (⟨"MeanCoatsModel", "isSettled", "()Z"⟩, 27), (⟨"MeanCoatsModel", "keepBribes", "()V"⟩, 27), (⟨"MeanCoatsModel", "round", "()V"⟩, 27), (⟨"MeanCoatsModel", "isSpring", "(I)Z"⟩, 27), (⟨"MeanCoatsModel", "findLived", "(I)I"⟩, 27), (⟨"MeanCoatsModel", "slip", "()V"⟩, 27), (⟨"MeanCoatsModel", "drawn", "(I)I"⟩, 27)]
theorem lw_r6 : ∀ q ∈ lw_privs_6, lw_okq q := List.forall_mem_cons.mpr ⟨lw_p80, List.forall_mem_cons.mpr ⟨lw_p81, List.forall_mem_cons.mpr ⟨lw_p82, List.forall_mem_cons.mpr ⟨lw_p83, List.forall_mem_cons.mpr ⟨lw_p84, List.forall_mem_cons.mpr ⟨lw_p85, List.forall_mem_cons.mpr ⟨lw_p86, List.forall_mem_cons.mpr ⟨lw_p87, List.forall_mem_cons.mpr ⟨lw_p88, List.forall_mem_cons.mpr ⟨lw_p89, List.forall_mem_cons.mpr ⟨lw_p90, List.forall_mem_cons.mpr ⟨lw_p91, List.forall_mem_cons.mpr ⟨lw_p92, List.forall_mem_cons.mpr ⟨lw_p93, List.forall_mem_cons.mpr ⟨lw_p94, List.forall_mem_cons.mpr ⟨lw_p95, fun _ h => absurd h List.not_mem_nil⟩⟩⟩⟩⟩⟩⟩⟩⟩⟩⟩⟩⟩⟩⟩⟩
theorem lw_p96 : lw_okq (⟨"MeanCoatsModel", "next", "()V"⟩, 27) := ⟨⟨by decide +kernel, by decide +kernel⟩, List.mem_of_getElem? (i := 829) (by decide +kernel), List.mem_of_getElem? (i := 1207) (by decide +kernel), List.mem_of_getElem? (i := 1208) (by decide +kernel)⟩
theorem lw_p97 : lw_okq (⟨"MeanCoatsModel", "byteAt", "(I)I"⟩, 27) := ⟨⟨by decide +kernel, by decide +kernel⟩, List.mem_of_getElem? (i := 829) (by decide +kernel), List.mem_of_getElem? (i := 1211) (by decide +kernel), List.mem_of_getElem? (i := 1212) (by decide +kernel)⟩
theorem lw_p98 : lw_okq (⟨"MeanCoatsModel", "readItem", "()V"⟩, 27) := ⟨⟨by decide +kernel, by decide +kernel⟩, List.mem_of_getElem? (i := 829) (by decide +kernel), List.mem_of_getElem? (i := 1215) (by decide +kernel), List.mem_of_getElem? (i := 1216) (by decide +kernel)⟩
theorem lw_p99 : lw_okq (⟨"MeanCoatsModel", "which", "([Ljava/lang/String;)I"⟩, 27) := ⟨⟨by decide +kernel, by decide +kernel⟩, List.mem_of_getElem? (i := 829) (by decide +kernel), List.mem_of_getElem? (i := 1219) (by decide +kernel), List.mem_of_getElem? (i := 1220) (by decide +kernel)⟩
theorem lw_p100 : lw_okq (⟨"MeanCoatsModel", "isWord", "(Ljava/lang/String;)Z"⟩, 27) := ⟨⟨by decide +kernel, by decide +kernel⟩, List.mem_of_getElem? (i := 829) (by decide +kernel), List.mem_of_getElem? (i := 1223) (by decide +kernel), List.mem_of_getElem? (i := 1224) (by decide +kernel)⟩
theorem lw_p101 : lw_okq (⟨"MeanCoatsModel", "readBody", "(I)V"⟩, 27) := ⟨⟨by decide +kernel, by decide +kernel⟩, List.mem_of_getElem? (i := 829) (by decide +kernel), List.mem_of_getElem? (i := 1229) (by decide +kernel), List.mem_of_getElem? (i := 1230) (by decide +kernel)⟩
theorem lw_p102 : lw_okq (⟨"MeanCoatsModel", "must", "(Z)V"⟩, 27) := ⟨⟨by decide +kernel, by decide +kernel⟩, List.mem_of_getElem? (i := 829) (by decide +kernel), List.mem_of_getElem? (i := 1233) (by decide +kernel), List.mem_of_getElem? (i := 1234) (by decide +kernel)⟩
theorem lw_p103 : lw_okq (⟨"MeanCoatsModel", "number", "(II)I"⟩, 27) := ⟨⟨by decide +kernel, by decide +kernel⟩, List.mem_of_getElem? (i := 829) (by decide +kernel), List.mem_of_getElem? (i := 1237) (by decide +kernel), List.mem_of_getElem? (i := 1238) (by decide +kernel)⟩
theorem lw_p104 : lw_okq (⟨"MeanCoatsModel", "isSign", "(I)Z"⟩, 27) := ⟨⟨by decide +kernel, by decide +kernel⟩, List.mem_of_getElem? (i := 829) (by decide +kernel), List.mem_of_getElem? (i := 1242) (by decide +kernel), List.mem_of_getElem? (i := 1243) (by decide +kernel)⟩
theorem lw_p105 : lw_okq (⟨"MeanCoatsModel", "isSo", "(I)V"⟩, 27) := ⟨⟨by decide +kernel, by decide +kernel⟩, List.mem_of_getElem? (i := 829) (by decide +kernel), List.mem_of_getElem? (i := 1250) (by decide +kernel), List.mem_of_getElem? (i := 1251) (by decide +kernel)⟩
def lw_privs_7 : List (MethodName × Nat) := [(⟨"MeanCoatsModel", "next", "()V"⟩, 27), (⟨"MeanCoatsModel", "byteAt", "(I)I"⟩, 27), (⟨"MeanCoatsModel", "readItem", "()V"⟩, 27), (⟨"MeanCoatsModel", "which", "([Ljava/lang/String;)I"⟩, 27), (⟨"MeanCoatsModel", "isWord", "(Ljava/lang/String;)Z"⟩, 27), (⟨"MeanCoatsModel", "readBody", "(I)V"⟩, 27), (⟨"MeanCoatsModel", "must", "(Z)V"⟩, 27), (⟨"MeanCoatsModel", "number", "(II)I"⟩, 27), (⟨"MeanCoatsModel", "isSign", "(I)Z"⟩, 27), (⟨"MeanCoatsModel", "isSo", "(I)V"⟩, 27)]
theorem lw_r7 : ∀ q ∈ lw_privs_7, lw_okq q := List.forall_mem_cons.mpr ⟨lw_p96, List.forall_mem_cons.mpr ⟨lw_p97, List.forall_mem_cons.mpr ⟨lw_p98, List.forall_mem_cons.mpr ⟨lw_p99, List.forall_mem_cons.mpr ⟨lw_p100, List.forall_mem_cons.mpr ⟨lw_p101, List.forall_mem_cons.mpr ⟨lw_p102, List.forall_mem_cons.mpr ⟨lw_p103, List.forall_mem_cons.mpr ⟨lw_p104, List.forall_mem_cons.mpr ⟨lw_p105, fun _ h => absurd h List.not_mem_nil⟩⟩⟩⟩⟩⟩⟩⟩⟩⟩
def lw_privs : List (MethodName × Nat) := lw_privs_1 ++ (lw_privs_2 ++ (lw_privs_3 ++ (lw_privs_4 ++ (lw_privs_5 ++ (lw_privs_6 ++ (lw_privs_7))))))
def lw_tbl : List Cond := k2_sels lw_privs ++ tables_1
theorem lw_privs_ok : ∀ q ∈ lw_privs, lw_okq q := by
  show ∀ q ∈ lw_privs_1 ++ (lw_privs_2 ++ (lw_privs_3 ++ (lw_privs_4 ++ (lw_privs_5 ++ (lw_privs_6 ++ (lw_privs_7)))))), lw_okq q
  exact List.forall_mem_append.mpr ⟨lw_r1, List.forall_mem_append.mpr ⟨lw_r2, List.forall_mem_append.mpr ⟨lw_r3, List.forall_mem_append.mpr ⟨lw_r4, List.forall_mem_append.mpr ⟨lw_r5, List.forall_mem_append.mpr ⟨lw_r6, lw_r7⟩⟩⟩⟩⟩⟩
-- ===== end of PART A; then your names; then what follows =====
end
section
theorem goodIn_r {big : List Cond} (ws : List Cond) (ps : List Nat) (hp : ws = ps.filterMap (fun i => big[i]?)) (h : ws.all goodWord = true) : GoodIn big ws := by
  intro w hw
  have h1 := List.all_eq_true.mp h w hw
  rw [hp] at hw
  obtain ⟨i, -, hi⟩ := List.mem_filterMap.mp hw
  have hm : w ∈ big := by first | exact List.mem_of_getElem? hi | exact List.getElem?_mem hi
  exact ⟨hm, good_of_word h1⟩
theorem goodIn_app {big a b : List Cond} (ha : GoodIn big a) (hb : GoodIn big b) : GoodIn big (a ++ b) := fun w h => (List.mem_append.mp h).elim (ha w) (hb w)
theorem goodIn_ca {big a b : List Cond} {c : Cond} (ha : GoodIn big (c :: a)) (hb : GoodIn big b) : GoodIn big (c :: (a ++ b)) := fun w h => (List.mem_cons.mp h).elim (fun e => ha w (List.mem_cons.mpr (Or.inl e))) (fun h => (List.mem_append.mp h).elim (fun h => ha w (List.mem_cons.mpr (Or.inr h))) (hb w))
theorem goodIn_sub {big ws : List Cond} (hm : ∀ w ∈ ws, w ∈ big) (h : ws.all goodWord = true) : GoodIn big ws := fun w hw => ⟨hm w hw, good_of_word (List.all_eq_true.mp h w hw)⟩
def RX0 : String := "MeanCoats$Reader"
def TX0 : u_T := fun k => match k with
  | 0 => ("MeanCoats$Reader", "inches", "[I", true)
  | 1 => ("MeanCoats$Reader", "bribe", "I", false)
  | 2 => ("MeanCoats$Reader", "pinned", "I", false)
  | _ => ("MeanCoats$Reader", "room", "I", false)
def tyX0 : Nat → FieldType := fun k => match k with
  | 0 => .array .int
  | 1 => .int
  | 2 => .int
  | _ => .int
abbrev wsX00 : List Cond := u_ws RX0 TX0 4
theorem nmX0 : ∀ a, a < 4 → ∀ b, b < 4 → a ≠ b → (TX0 a).2.1 ≠ (TX0 b).2.1 := by decide +kernel
theorem tyX0_ok : ∀ k, k < 4 → parseFieldDescriptor (TX0 k).2.2.1 = some (tyX0 k) := by decide +kernel
abbrev cX0_init : ByteArray := prog_2_method_1_code
def yX0_init : MethodName := ⟨RX0, "<init>", "()V"⟩
abbrev cX0_readItems : ByteArray := prog_2_method_2_code
def yX0_readItems : MethodName := ⟨RX0, "readItems", "(LMeanCoats$Tape;LMeanCoats$Town;Z)I"⟩
abbrev cX0_readItem : ByteArray := prog_2_method_3_code
def yX0_readItem : MethodName := ⟨RX0, "readItem", "(LMeanCoats$Tape;LMeanCoats$Town;Z)Z"⟩
abbrev cX0_kindTold : ByteArray := prog_2_method_4_code
def yX0_kindTold : MethodName := ⟨RX0, "kindTold", "(LMeanCoats$Tape;)I"⟩
abbrev cX0_nameOf : ByteArray := prog_2_method_5_code
def yX0_nameOf : MethodName := ⟨RX0, "nameOf", "(I)Ljava/lang/String;"⟩
abbrev cX0_readBody : ByteArray := prog_2_method_6_code
def yX0_readBody : MethodName := ⟨RX0, "readBody", "(LMeanCoats$Tape;LMeanCoats$Town;IZ)Z"⟩
abbrev cX0_readMeasures : ByteArray := prog_2_method_7_code
def yX0_readMeasures : MethodName := ⟨RX0, "readMeasures", "(LMeanCoats$Tape;)Z"⟩
abbrev cX0_readBribe : ByteArray := prog_2_method_8_code
def yX0_readBribe : MethodName := ⟨RX0, "readBribe", "(LMeanCoats$Tape;)Z"⟩
abbrev cX0_readPins : ByteArray := prog_2_method_9_code
def yX0_readPins : MethodName := ⟨RX0, "readPins", "(LMeanCoats$Tape;)Z"⟩
abbrev cX0_readRule : ByteArray := prog_2_method_10_code
def yX0_readRule : MethodName := ⟨RX0, "readRule", "(LMeanCoats$Tape;LMeanCoats$Town;Z)Z"⟩
abbrev cX0_ruleTold : ByteArray := prog_2_method_11_code
def yX0_ruleTold : MethodName := ⟨RX0, "ruleTold", "(LMeanCoats$Tape;)I"⟩
abbrev cX0_readEase : ByteArray := prog_2_method_12_code
def yX0_readEase : MethodName := ⟨RX0, "readEase", "(LMeanCoats$Tape;LMeanCoats$Town;Z)Z"⟩
abbrev cX0_readPrice : ByteArray := prog_2_method_13_code
def yX0_readPrice : MethodName := ⟨RX0, "readPrice", "(LMeanCoats$Tape;LMeanCoats$Town;Z)Z"⟩
abbrev cX0_takeNumber : ByteArray := prog_2_method_14_code
def yX0_takeNumber : MethodName := ⟨RX0, "takeNumber", "(LMeanCoats$Tape;II)I"⟩
def RX1 : String := "MeanCoats$Sheet"
def TX1 : u_T := fun k => match k with
  | 0 => ("MeanCoats$Sheet", "numbers", "[I", true)
  | 1 => ("MeanCoats$Sheet", "bits", "I", false)
  | _ => ("MeanCoats$Sheet", "length", "I", false)
def tyX1 : Nat → FieldType := fun k => match k with
  | 0 => .array .int
  | 1 => .int
  | _ => .int
abbrev wsX10 : List Cond := u_ws RX1 TX1 3
theorem nmX1 : ∀ a, a < 3 → ∀ b, b < 3 → a ≠ b → (TX1 a).2.1 ≠ (TX1 b).2.1 := by decide +kernel
theorem tyX1_ok : ∀ k, k < 3 → parseFieldDescriptor (TX1 k).2.2.1 = some (tyX1 k) := by decide +kernel
abbrev cX1_init : ByteArray := prog_3_method_1_code
def yX1_init : MethodName := ⟨RX1, "<init>", "()V"⟩
abbrev cX1_isMissing : ByteArray := prog_3_method_2_code
def yX1_isMissing : MethodName := ⟨RX1, "isMissing", "()Z"⟩
abbrev cX1_lay : ByteArray := prog_3_method_3_code
def yX1_lay : MethodName := ⟨RX1, "lay", "(II)V"⟩
abbrev cX1_put : ByteArray := prog_3_method_4_code
def yX1_put : MethodName := ⟨RX1, "put", "(II)V"⟩
abbrev cX1_has : ByteArray := prog_3_method_5_code
def yX1_has : MethodName := ⟨RX1, "has", "(II)Z"⟩
abbrev cX1_hasMeasures : ByteArray := prog_3_method_6_code
def yX1_hasMeasures : MethodName := ⟨RX1, "hasMeasures", "(I)Z"⟩
def RX2 : String := "MeanCoats$Tailor"
def TX2 : u_T := fun k => match k with
  | 0 => ("MeanCoats$Tailor", "shown", "[I", true)
  | 1 => ("MeanCoats$Tailor", "rising", "[I", true)
  | 2 => ("MeanCoats$Tailor", "times", "[I", true)
  | 3 => ("MeanCoats$Tailor", "coat", "[I", true)
  | _ => ("MeanCoats$Tailor", "bodies", "I", false)
def tyX2 : Nat → FieldType := fun k => match k with
  | 0 => .array .int
  | 1 => .array .int
  | 2 => .array .int
  | 3 => .array .int
  | _ => .int
abbrev wsX20 : List Cond := u_ws RX2 TX2 5
theorem nmX2 : ∀ a, a < 5 → ∀ b, b < 5 → a ≠ b → (TX2 a).2.1 ≠ (TX2 b).2.1 := by decide +kernel
theorem tyX2_ok : ∀ k, k < 5 → parseFieldDescriptor (TX2 k).2.2.1 = some (tyX2 k) := by decide +kernel
abbrev cX2_init : ByteArray := prog_4_method_1_code
def yX2_init : MethodName := ⟨RX2, "<init>", "()V"⟩
abbrev cX2_measureAll : ByteArray := prog_4_method_2_code
def yX2_measureAll : MethodName := ⟨RX2, "measureAll", "(LMeanCoats$Town;)V"⟩
abbrev cX2_show : ByteArray := prog_4_method_3_code
def yX2_show : MethodName := ⟨RX2, "show", "(III)V"⟩
abbrev cX2_slip : ByteArray := prog_4_method_4_code
def yX2_slip : MethodName := ⟨RX2, "slip", "(III)V"⟩
abbrev cX2_arrange : ByteArray := prog_4_method_5_code
def yX2_arrange : MethodName := ⟨RX2, "arrange", "(I)V"⟩
abbrev cX2_cutAll : ByteArray := prog_4_method_6_code
def yX2_cutAll : MethodName := ⟨RX2, "cutAll", "(II)Z"⟩
abbrev cX2_cutOne : ByteArray := prog_4_method_7_code
def yX2_cutOne : MethodName := ⟨RX2, "cutOne", "(III)I"⟩
abbrev cX2_cutMeanOf : ByteArray := prog_4_method_8_code
def yX2_cutMeanOf : MethodName := ⟨RX2, "cutMeanOf", "(II)I"⟩
abbrev cX2_sumOf : ByteArray := prog_4_method_9_code
def yX2_sumOf : MethodName := ⟨RX2, "sumOf", "(II)I"⟩
abbrev cX2_timesOf : ByteArray := prog_4_method_10_code
def yX2_timesOf : MethodName := ⟨RX2, "timesOf", "(I)I"⟩
abbrev cX2_middleOf : ByteArray := prog_4_method_11_code
def yX2_middleOf : MethodName := ⟨RX2, "middleOf", "(II)I"⟩
abbrev cX2_greatestOf : ByteArray := prog_4_method_12_code
def yX2_greatestOf : MethodName := ⟨RX2, "greatestOf", "(II)I"⟩
abbrev cX2_farOf : ByteArray := prog_4_method_13_code
def yX2_farOf : MethodName := ⟨RX2, "farOf", "(LMeanCoats$Town;I)I"⟩
abbrev cX2_farOfPair : ByteArray := prog_4_method_14_code
def yX2_farOfPair : MethodName := ⟨RX2, "farOfPair", "(LMeanCoats$Town;II)I"⟩
abbrev cX2_costOf : ByteArray := prog_4_method_15_code
def yX2_costOf : MethodName := ⟨RX2, "costOf", "(LMeanCoats$Town;I)I"⟩
abbrev cX2_fitting : ByteArray := prog_4_method_16_code
def yX2_fitting : MethodName := ⟨RX2, "fitting", "(LMeanCoats$Town;I)I"⟩
def RX3 : String := "MeanCoats$Tape"
def TX3 : u_T := fun k => match k with
  | 0 => ("MeanCoats$Tape", "bytes", "[I", true)
  | 1 => ("MeanCoats$Tape", "begins", "[I", true)
  | 2 => ("MeanCoats$Tape", "ends", "[I", true)
  | 3 => ("MeanCoats$Tape", "sorts", "[I", true)
  | 4 => ("MeanCoats$Tape", "length", "I", false)
  | 5 => ("MeanCoats$Tape", "tokens", "I", false)
  | _ => ("MeanCoats$Tape", "at", "I", false)
def tyX3 : Nat → FieldType := fun k => match k with
  | 0 => .array .int
  | 1 => .array .int
  | 2 => .array .int
  | 3 => .array .int
  | 4 => .int
  | 5 => .int
  | _ => .int
abbrev wsX30 : List Cond := u_ws RX3 TX3 7
theorem nmX3 : ∀ a, a < 7 → ∀ b, b < 7 → a ≠ b → (TX3 a).2.1 ≠ (TX3 b).2.1 := by decide +kernel
theorem tyX3_ok : ∀ k, k < 7 → parseFieldDescriptor (TX3 k).2.2.1 = some (tyX3 k) := by decide +kernel
abbrev cX3_init : ByteArray := prog_5_method_1_code
def yX3_init : MethodName := ⟨RX3, "<init>", "()V"⟩
abbrev cX3_add : ByteArray := prog_5_method_2_code
def yX3_add : MethodName := ⟨RX3, "add", "(I)V"⟩
abbrev cX3_split : ByteArray := prog_5_method_3_code
def yX3_split : MethodName := ⟨RX3, "split", "()V"⟩
abbrev cX3_lay : ByteArray := prog_5_method_4_code
def yX3_lay : MethodName := ⟨RX3, "lay", "(IIII)V"⟩
abbrev cX3_sortOf : ByteArray := prog_5_method_5_code
def yX3_sortOf : MethodName := ⟨RX3, "sortOf", "(I)I"⟩
abbrev cX3_moveOn : ByteArray := prog_5_method_6_code
def yX3_moveOn : MethodName := ⟨RX3, "moveOn", "()V"⟩
abbrev cX3_begin : ByteArray := prog_5_method_7_code
def yX3_begin : MethodName := ⟨RX3, "begin", "()I"⟩
abbrev cX3_isEnd : ByteArray := prog_5_method_8_code
def yX3_isEnd : MethodName := ⟨RX3, "isEnd", "()Z"⟩
abbrev cX3_isSign : ByteArray := prog_5_method_9_code
def yX3_isSign : MethodName := ⟨RX3, "isSign", "(C)Z"⟩
abbrev cX3_isWord : ByteArray := prog_5_method_10_code
def yX3_isWord : MethodName := ⟨RX3, "isWord", "(Ljava/lang/String;)Z"⟩
abbrev cX3_numberWithin : ByteArray := prog_5_method_11_code
def yX3_numberWithin : MethodName := ⟨RX3, "numberWithin", "(II)I"⟩
def RX4 : String := "MeanCoats$Town"
def TX4 : u_T := fun k => match k with
  | 0 => ("MeanCoats$Town", "kinds", "[I", true)
  | 1 => ("MeanCoats$Town", "inches", "[I", true)
  | 2 => ("MeanCoats$Town", "bribes", "[I", true)
  | 3 => ("MeanCoats$Town", "pinned", "[I", true)
  | 4 => ("MeanCoats$Town", "oldCoats", "[I", true)
  | 5 => ("MeanCoats$Town", "spots", "[I", true)
  | 6 => ("MeanCoats$Town", "bodies", "I", false)
  | 7 => ("MeanCoats$Town", "here", "I", false)
  | 8 => ("MeanCoats$Town", "rule", "I", false)
  | 9 => ("MeanCoats$Town", "ease", "I", false)
  | 10 => ("MeanCoats$Town", "price", "I", false)
  | 11 => ("MeanCoats$Town", "springs", "I", false)
  | _ => ("MeanCoats$Town", "z", "I", false)
def tyX4 : Nat → FieldType := fun k => match k with
  | 0 => .array .int
  | 1 => .array .int
  | 2 => .array .int
  | 3 => .array .int
  | 4 => .array .int
  | 5 => .array .int
  | 6 => .int
  | 7 => .int
  | 8 => .int
  | 9 => .int
  | 10 => .int
  | 11 => .int
  | _ => .int
abbrev wsX40 : List Cond := u_ws RX4 TX4 13
theorem nmX4 : ∀ a, a < 13 → ∀ b, b < 13 → a ≠ b → (TX4 a).2.1 ≠ (TX4 b).2.1 := by decide +kernel
theorem tyX4_ok : ∀ k, k < 13 → parseFieldDescriptor (TX4 k).2.2.1 = some (tyX4 k) := by decide +kernel
abbrev cX4_init : ByteArray := prog_6_method_1_code
def yX4_init : MethodName := ⟨RX4, "<init>", "()V"⟩
abbrev cX4_become : ByteArray := prog_6_method_2_code
def yX4_become : MethodName := ⟨RX4, "become", "(LMeanCoats$Town;)V"⟩
abbrev cX4_add : ByteArray := prog_6_method_3_code
def yX4_add : MethodName := ⟨RX4, "add", "(IIII)I"⟩
abbrev cX4_tell : ByteArray := prog_6_method_4_code
def yX4_tell : MethodName := ⟨RX4, "tell", "(II)I"⟩
abbrev cX4_mayBecome : ByteArray := prog_6_method_5_code
def yX4_mayBecome : MethodName := ⟨RX4, "mayBecome", "(II)Z"⟩
abbrev cX4_put : ByteArray := prog_6_method_6_code
def yX4_put : MethodName := ⟨RX4, "put", "(III)V"⟩
abbrev cX4_isHere : ByteArray := prog_6_method_7_code
def yX4_isHere : MethodName := ⟨RX4, "isHere", "(I)Z"⟩
abbrev cX4_bribesHere : ByteArray := prog_6_method_8_code
def yX4_bribesHere : MethodName := ⟨RX4, "bribesHere", "(I)Z"⟩
abbrev cX4_inchesOf : ByteArray := prog_6_method_9_code
def yX4_inchesOf : MethodName := ⟨RX4, "inchesOf", "(II)I"⟩
abbrev cX4_setInches : ByteArray := prog_6_method_10_code
def yX4_setInches : MethodName := ⟨RX4, "setInches", "(III)V"⟩
abbrev cX4_measuredOf : ByteArray := prog_6_method_11_code
def yX4_measuredOf : MethodName := ⟨RX4, "measuredOf", "(II)I"⟩
abbrev cX4_widthAtBribe : ByteArray := prog_6_method_12_code
def yX4_widthAtBribe : MethodName := ⟨RX4, "widthAtBribe", "(II)I"⟩
abbrev cX4_timesOf : ByteArray := prog_6_method_13_code
def yX4_timesOf : MethodName := ⟨RX4, "timesOf", "(I)I"⟩
abbrev cX4_readBribes : ByteArray := prog_6_method_14_code
def yX4_readBribes : MethodName := ⟨RX4, "readBribes", "([I)V"⟩
abbrev cX4_writeBribes : ByteArray := prog_6_method_15_code
def yX4_writeBribes : MethodName := ⟨RX4, "writeBribes", "([I)V"⟩
abbrev cX4_addSpring : ByteArray := prog_6_method_16_code
def yX4_addSpring : MethodName := ⟨RX4, "addSpring", "([I)I"⟩
abbrev cX4_oldCoat : ByteArray := prog_6_method_17_code
def yX4_oldCoat : MethodName := ⟨RX4, "oldCoat", "(II)I"⟩
abbrev cX4_draw : ByteArray := prog_6_method_18_code
def yX4_draw : MethodName := ⟨RX4, "draw", "()I"⟩
abbrev cX4_spotsHeld : ByteArray := prog_6_method_19_code
def yX4_spotsHeld : MethodName := ⟨RX4, "spotsHeld", "()I"⟩
def RX5 : String := "MeanCoats"
def TX5 : u_T := fun k => match k with
  | 0 => ("MeanCoats", "town", "LMeanCoats$Town;", true)
  | 1 => ("MeanCoats", "kept", "LMeanCoats$Town;", true)
  | 2 => ("MeanCoats", "tailor", "LMeanCoats$Tailor;", true)
  | 3 => ("MeanCoats", "tape", "LMeanCoats$Tape;", true)
  | 4 => ("MeanCoats", "reader", "LMeanCoats$Reader;", true)
  | 5 => ("MeanCoats", "sheets", "[LMeanCoats$Sheet;", true)
  | 6 => ("MeanCoats", "findings", "[I", true)
  | 7 => ("MeanCoats", "bribesBefore", "[I", true)
  | 8 => ("MeanCoats", "coatBefore", "[I", true)
  | _ => ("MeanCoats", "isKept", "Z", false)
def tyX5 : Nat → FieldType := fun k => match k with
  | 0 => .object "MeanCoats$Town"
  | 1 => .object "MeanCoats$Town"
  | 2 => .object "MeanCoats$Tailor"
  | 3 => .object "MeanCoats$Tape"
  | 4 => .object "MeanCoats$Reader"
  | 5 => .array (.object "MeanCoats$Sheet")
  | 6 => .array .int
  | 7 => .array .int
  | 8 => .array .int
  | _ => .boolean
abbrev wsX50 : List Cond := u_ws RX5 TX5 10
theorem nmX5 : ∀ a, a < 10 → ∀ b, b < 10 → a ≠ b → (TX5 a).2.1 ≠ (TX5 b).2.1 := by decide +kernel
theorem tyX5_ok : ∀ k, k < 10 → parseFieldDescriptor (TX5 k).2.2.1 = some (tyX5 k) := by decide +kernel
abbrev cX5_init : ByteArray := prog_1_method_1_code
def yX5_init : MethodName := ⟨RX5, "<init>", "()V"⟩
abbrev cX5_body : ByteArray := prog_1_method_2_code
def yX5_body : MethodName := ⟨RX5, "body", "(I)I"⟩
abbrev cX5_bodyOf : ByteArray := prog_1_method_3_code
def yX5_bodyOf : MethodName := ⟨RX5, "bodyOf", "(II)I"⟩
abbrev cX5_change : ByteArray := prog_1_method_4_code
def yX5_change : MethodName := ⟨RX5, "change", "(III)I"⟩
abbrev cX5_here : ByteArray := prog_1_method_5_code
def yX5_here : MethodName := ⟨RX5, "here", "(IZ)I"⟩
abbrev cX5_rule : ByteArray := prog_1_method_6_code
def yX5_rule : MethodName := ⟨RX5, "rule", "(I)I"⟩
abbrev cX5_ease : ByteArray := prog_1_method_7_code
def yX5_ease : MethodName := ⟨RX5, "ease", "(I)I"⟩
abbrev cX5_price : ByteArray := prog_1_method_8_code
def yX5_price : MethodName := ⟨RX5, "price", "(I)I"⟩
abbrev cX5_famine : ByteArray := prog_1_method_9_code
def yX5_famine : MethodName := ⟨RX5, "famine", "(I)I"⟩
abbrev cX5_coat : ByteArray := prog_1_method_10_code
def yX5_coat : MethodName := ⟨RX5, "coat", "(I)I"⟩
abbrev cX5_mean : ByteArray := prog_1_method_11_code
def yX5_mean : MethodName := ⟨RX5, "mean", "(II)I"⟩
abbrev cX5_cost : ByteArray := prog_1_method_12_code
def yX5_cost : MethodName := ⟨RX5, "cost", "(I)I"⟩
abbrev cX5_fits : ByteArray := prog_1_method_13_code
def yX5_fits : MethodName := ⟨RX5, "fits", "()I"⟩
abbrev cX5_costs : ByteArray := prog_1_method_14_code
def yX5_costs : MethodName := ⟨RX5, "costs", "()I"⟩
abbrev cX5_fines : ByteArray := prog_1_method_15_code
def yX5_fines : MethodName := ⟨RX5, "fines", "()I"⟩
abbrev cX5_pins : ByteArray := prog_1_method_16_code
def yX5_pins : MethodName := ⟨RX5, "pins", "(I)I"⟩
abbrev cX5_worst : ByteArray := prog_1_method_17_code
def yX5_worst : MethodName := ⟨RX5, "worst", "()I"⟩
abbrev cX5_marry : ByteArray := prog_1_method_18_code
def yX5_marry : MethodName := ⟨RX5, "marry", "(II)I"⟩
abbrev cX5_bride : ByteArray := prog_1_method_19_code
def yX5_bride : MethodName := ⟨RX5, "bride", "(I)I"⟩
abbrev cX5_send : ByteArray := prog_1_method_20_code
def yX5_send : MethodName := ⟨RX5, "send", "(I)I"⟩
abbrev cX5_best : ByteArray := prog_1_method_21_code
def yX5_best : MethodName := ⟨RX5, "best", "()I"⟩
abbrev cX5_easeFor : ByteArray := prog_1_method_22_code
def yX5_easeFor : MethodName := ⟨RX5, "easeFor", "()I"⟩
abbrev cX5_sways : ByteArray := prog_1_method_23_code
def yX5_sways : MethodName := ⟨RX5, "sways", "(II)I"⟩
abbrev cX5_sized : ByteArray := prog_1_method_24_code
def yX5_sized : MethodName := ⟨RX5, "sized", "(II)I"⟩
abbrev cX5_bribe : ByteArray := prog_1_method_25_code
def yX5_bribe : MethodName := ⟨RX5, "bribe", "(I)I"⟩
abbrev cX5_settled : ByteArray := prog_1_method_26_code
def yX5_settled : MethodName := ⟨RX5, "settled", "()I"⟩
abbrev cX5_rounds : ByteArray := prog_1_method_27_code
def yX5_rounds : MethodName := ⟨RX5, "rounds", "(I)I"⟩
abbrev cX5_settles : ByteArray := prog_1_method_28_code
def yX5_settles : MethodName := ⟨RX5, "settles", "()I"⟩
abbrev cX5_spring : ByteArray := prog_1_method_29_code
def yX5_spring : MethodName := ⟨RX5, "spring", "()I"⟩
abbrev cX5_old : ByteArray := prog_1_method_30_code
def yX5_old : MethodName := ⟨RX5, "old", "(II)I"⟩
abbrev cX5_lived : ByteArray := prog_1_method_31_code
def yX5_lived : MethodName := ⟨RX5, "lived", "(I)I"⟩
abbrev cX5_surely : ByteArray := prog_1_method_32_code
def yX5_surely : MethodName := ⟨RX5, "surely", "(II)I"⟩
abbrev cX5_odds : ByteArray := prog_1_method_33_code
def yX5_odds : MethodName := ⟨RX5, "odds", "(I)I"⟩
abbrev cX5_seed : ByteArray := prog_1_method_34_code
def yX5_seed : MethodName := ⟨RX5, "seed", "(I)I"⟩
abbrev cX5_feed : ByteArray := prog_1_method_35_code
def yX5_feed : MethodName := ⟨RX5, "feed", "(II)I"⟩
abbrev cX5_wipe : ByteArray := prog_1_method_36_code
def yX5_wipe : MethodName := ⟨RX5, "wipe", "()I"⟩
abbrev cX5_text : ByteArray := prog_1_method_37_code
def yX5_text : MethodName := ⟨RX5, "text", "()I"⟩
abbrev cX5_hold : ByteArray := prog_1_method_38_code
def yX5_hold : MethodName := ⟨RX5, "hold", "(II)I"⟩
abbrev cX5_as : ByteArray := prog_1_method_39_code
def yX5_as : MethodName := ⟨RX5, "as", "(II)I"⟩
abbrev cX5_sheet : ByteArray := prog_1_method_40_code
def yX5_sheet : MethodName := ⟨RX5, "sheet", "(III)I"⟩
abbrev cX5_write : ByteArray := prog_1_method_41_code
def yX5_write : MethodName := ⟨RX5, "write", "(III)I"⟩
abbrev cX5_copy : ByteArray := prog_1_method_42_code
def yX5_copy : MethodName := ⟨RX5, "copy", "(IIIII)I"⟩
abbrev cX5_load : ByteArray := prog_1_method_43_code
def yX5_load : MethodName := ⟨RX5, "load", "(I)I"⟩
abbrev cX5_judge : ByteArray := prog_1_method_44_code
def yX5_judge : MethodName := ⟨RX5, "judge", "(I)I"⟩
abbrev cX5_image : ByteArray := prog_1_method_45_code
def yX5_image : MethodName := ⟨RX5, "image", "()I"⟩
abbrev cX5_undo : ByteArray := prog_1_method_46_code
def yX5_undo : MethodName := ⟨RX5, "undo", "()I"⟩
abbrev cX5_tear : ByteArray := prog_1_method_47_code
def yX5_tear : MethodName := ⟨RX5, "tear", "()I"⟩
abbrev cX5_count : ByteArray := prog_1_method_48_code
def yX5_count : MethodName := ⟨RX5, "count", "(I)I"⟩
abbrev cX5_status : ByteArray := prog_1_method_49_code
def yX5_status : MethodName := ⟨RX5, "status", "(I)I"⟩
abbrev cX5_finding : ByteArray := prog_1_method_50_code
def yX5_finding : MethodName := ⟨RX5, "finding", "(I)I"⟩
abbrev cX5_within : ByteArray := prog_1_method_51_code
def yX5_within : MethodName := ⟨RX5, "within", "(III)Z"⟩
abbrev cX5_holds : ByteArray := prog_1_method_52_code
def yX5_holds : MethodName := ⟨RX5, "holds", "(II)Z"⟩
abbrev cX5_isKind : ByteArray := prog_1_method_53_code
def yX5_isKind : MethodName := ⟨RX5, "isKind", "(I)Z"⟩
abbrev cX5_isMeasure : ByteArray := prog_1_method_54_code
def yX5_isMeasure : MethodName := ⟨RX5, "isMeasure", "(I)Z"⟩
abbrev cX5_isSpot : ByteArray := prog_1_method_55_code
def yX5_isSpot : MethodName := ⟨RX5, "isSpot", "(I)Z"⟩
abbrev cX5_isSheet : ByteArray := prog_1_method_56_code
def yX5_isSheet : MethodName := ⟨RX5, "isSheet", "(I)Z"⟩
abbrev cX5_isBody : ByteArray := prog_1_method_57_code
def yX5_isBody : MethodName := ⟨RX5, "isBody", "(I)Z"⟩
abbrev cX5_isSpring : ByteArray := prog_1_method_58_code
def yX5_isSpring : MethodName := ⟨RX5, "isSpring", "(I)Z"⟩
abbrev cX5_isUnder : ByteArray := prog_1_method_59_code
def yX5_isUnder : MethodName := ⟨RX5, "isUnder", "(II)Z"⟩
abbrev cX5_greatestDivisor : ByteArray := prog_1_method_60_code
def yX5_greatestDivisor : MethodName := ⟨RX5, "greatestDivisor", "(II)I"⟩
abbrev cX5_cutForAllHere : ByteArray := prog_1_method_61_code
def yX5_cutForAllHere : MethodName := ⟨RX5, "cutForAllHere", "()Z"⟩
abbrev cX5_fittingBy : ByteArray := prog_1_method_62_code
def yX5_fittingBy : MethodName := ⟨RX5, "fittingBy", "(II)I"⟩
abbrev cX5_fittingIfSent : ByteArray := prog_1_method_63_code
def yX5_fittingIfSent : MethodName := ⟨RX5, "fittingIfSent", "(I)I"⟩
abbrev cX5_coatIfSized : ByteArray := prog_1_method_64_code
def yX5_coatIfSized : MethodName := ⟨RX5, "coatIfSized", "(III)I"⟩
abbrev cX5_cutsAsIn : ByteArray := prog_1_method_65_code
def yX5_cutsAsIn : MethodName := ⟨RX5, "cutsAsIn", "(II)Z"⟩
abbrev cX5_slipAll : ByteArray := prog_1_method_66_code
def yX5_slipAll : MethodName := ⟨RX5, "slipAll", "()V"⟩
abbrev cX5_isCoatAsBefore : ByteArray := prog_1_method_67_code
def yX5_isCoatAsBefore : MethodName := ⟨RX5, "isCoatAsBefore", "()Z"⟩
abbrev cX5_costAtBribe : ByteArray := prog_1_method_68_code
def yX5_costAtBribe : MethodName := ⟨RX5, "costAtBribe", "(II)I"⟩
abbrev cX5_bestBribe : ByteArray := prog_1_method_69_code
def yX5_bestBribe : MethodName := ⟨RX5, "bestBribe", "(I)I"⟩
abbrev cX5_isSettled : ByteArray := prog_1_method_70_code
def yX5_isSettled : MethodName := ⟨RX5, "isSettled", "()Z"⟩
abbrev cX5_doRound : ByteArray := prog_1_method_71_code
def yX5_doRound : MethodName := ⟨RX5, "doRound", "()V"⟩
def RX6 : String := "MeanCoatsModel"
def TX6 : u_T := fun k => match k with
  | 0 => ("MeanCoatsModel", "now", "[I", true)
  | 1 => ("MeanCoatsModel", "kept", "[I", true)
  | 2 => ("MeanCoatsModel", "isKept", "Z", false)
  | 3 => ("MeanCoatsModel", "found", "[I", true)
  | 4 => ("MeanCoatsModel", "coat", "[I", true)
  | 5 => ("MeanCoatsModel", "slips", "[I", true)
  | 6 => ("MeanCoatsModel", "row", "[I", true)
  | 7 => ("MeanCoatsModel", "rowMany", "I", false)
  | 8 => ("MeanCoatsModel", "bribes", "[I", true)
  | 9 => ("MeanCoatsModel", "inAll", "I", false)
  | 10 => ("MeanCoatsModel", "inAny", "I", false)
  | 11 => ("MeanCoatsModel", "tape", "[I", true)
  | 12 => ("MeanCoatsModel", "taped", "I", false)
  | 13 => ("MeanCoatsModel", "begins", "I", false)
  | 14 => ("MeanCoatsModel", "ends", "I", false)
  | 15 => ("MeanCoatsModel", "sort", "I", false)
  | 16 => ("MeanCoatsModel", "value", "I", false)
  | 17 => ("MeanCoatsModel", "isWrong", "Z", false)
  | 18 => ("MeanCoatsModel", "kinds", "[Ljava/lang/String;", true)
  | 19 => ("MeanCoatsModel", "rules", "[Ljava/lang/String;", true)
  | 20 => ("MeanCoatsModel", "items", "[I", true)
  | 21 => ("MeanCoatsModel", "itemMany", "I", false)
  | 22 => ("MeanCoatsModel", "bodyMany", "I", false)
  | 23 => ("MeanCoatsModel", "widths", "[I", true)
  | 24 => ("MeanCoatsModel", "sizes", "[I", true)
  | 25 => ("MeanCoatsModel", "numbers", "[I", true)
  | _ => ("MeanCoatsModel", "moved", "[I", true)
def tyX6 : Nat → FieldType := fun k => match k with
  | 0 => .array .int
  | 1 => .array .int
  | 2 => .boolean
  | 3 => .array .int
  | 4 => .array .int
  | 5 => .array .int
  | 6 => .array .int
  | 7 => .int
  | 8 => .array .int
  | 9 => .int
  | 10 => .int
  | 11 => .array .int
  | 12 => .int
  | 13 => .int
  | 14 => .int
  | 15 => .int
  | 16 => .int
  | 17 => .boolean
  | 18 => .array (.object "java/lang/String")
  | 19 => .array (.object "java/lang/String")
  | 20 => .array .int
  | 21 => .int
  | 22 => .int
  | 23 => .array .int
  | 24 => .array .int
  | 25 => .array .int
  | _ => .array .int
abbrev wsX60 : List Cond := u_ws RX6 TX6 27
theorem nmX6 : ∀ a, a < 27 → ∀ b, b < 27 → a ≠ b → (TX6 a).2.1 ≠ (TX6 b).2.1 := by decide +kernel
theorem tyX6_ok : ∀ k, k < 27 → parseFieldDescriptor (TX6 k).2.2.1 = some (tyX6 k) := by decide +kernel
abbrev cX6_init : ByteArray := prog_8_method_1_code
def yX6_init : MethodName := ⟨RX6, "<init>", "()V"⟩
abbrev cX6_finding : ByteArray := prog_8_method_2_code
def yX6_finding : MethodName := ⟨RX6, "finding", "(I)I"⟩
abbrev cX6_within : ByteArray := prog_8_method_3_code
def yX6_within : MethodName := ⟨RX6, "within", "(III)Z"⟩
abbrev cX6_has : ByteArray := prog_8_method_4_code
def yX6_has : MethodName := ⟨RX6, "has", "(II)Z"⟩
abbrev cX6_bits : ByteArray := prog_8_method_5_code
def yX6_bits : MethodName := ⟨RX6, "bits", "(I)I"⟩
abbrev cX6_become : ByteArray := prog_8_method_6_code
def yX6_become : MethodName := ⟨RX6, "become", "(II)I"⟩
abbrev cX6_isBody : ByteArray := prog_8_method_7_code
def yX6_isBody : MethodName := ⟨RX6, "isBody", "(I)Z"⟩
abbrev cX6_bodyIs : ByteArray := prog_8_method_8_code
def yX6_bodyIs : MethodName := ⟨RX6, "bodyIs", "(II)I"⟩
abbrev cX6_comes : ByteArray := prog_8_method_9_code
def yX6_comes : MethodName := ⟨RX6, "comes", "(IIII)I"⟩
abbrev cX6_body : ByteArray := prog_8_method_10_code
def yX6_body : MethodName := ⟨RX6, "body", "(I)I"⟩
abbrev cX6_countsOf : ByteArray := prog_8_method_11_code
def yX6_countsOf : MethodName := ⟨RX6, "countsOf", "(I)I"⟩
abbrev cX6_measured : ByteArray := prog_8_method_12_code
def yX6_measured : MethodName := ⟨RX6, "measured", "(II)I"⟩
abbrev cX6_bodyOf : ByteArray := prog_8_method_13_code
def yX6_bodyOf : MethodName := ⟨RX6, "bodyOf", "(II)I"⟩
abbrev cX6_mayBe : ByteArray := prog_8_method_14_code
def yX6_mayBe : MethodName := ⟨RX6, "mayBe", "(II)Z"⟩
abbrev cX6_change : ByteArray := prog_8_method_15_code
def yX6_change : MethodName := ⟨RX6, "change", "(III)I"⟩
abbrev cX6_here : ByteArray := prog_8_method_16_code
def yX6_here : MethodName := ⟨RX6, "here", "(IZ)I"⟩
abbrev cX6_rule : ByteArray := prog_8_method_17_code
def yX6_rule : MethodName := ⟨RX6, "rule", "(I)I"⟩
abbrev cX6_ease : ByteArray := prog_8_method_18_code
def yX6_ease : MethodName := ⟨RX6, "ease", "(I)I"⟩
abbrev cX6_price : ByteArray := prog_8_method_19_code
def yX6_price : MethodName := ⟨RX6, "price", "(I)I"⟩
abbrev cX6_hereSet : ByteArray := prog_8_method_20_code
def yX6_hereSet : MethodName := ⟨RX6, "hereSet", "()I"⟩
abbrev cX6_famine : ByteArray := prog_8_method_21_code
def yX6_famine : MethodName := ⟨RX6, "famine", "(I)I"⟩
abbrev cX6_findRow : ByteArray := prog_8_method_22_code
def yX6_findRow : MethodName := ⟨RX6, "findRow", "(II)V"⟩
abbrev cX6_rowSum : ByteArray := prog_8_method_23_code
def yX6_rowSum : MethodName := ⟨RX6, "rowSum", "()I"⟩
abbrev cX6_cutFor : ByteArray := prog_8_method_24_code
def yX6_cutFor : MethodName := ⟨RX6, "cutFor", "(II)I"⟩
abbrev cX6_cut : ByteArray := prog_8_method_25_code
def yX6_cut : MethodName := ⟨RX6, "cut", "(I)V"⟩
abbrev cX6_isMeasure : ByteArray := prog_8_method_26_code
def yX6_isMeasure : MethodName := ⟨RX6, "isMeasure", "(I)Z"⟩
abbrev cX6_coat : ByteArray := prog_8_method_27_code
def yX6_coat : MethodName := ⟨RX6, "coat", "(I)I"⟩
abbrev cX6_divisor : ByteArray := prog_8_method_28_code
def yX6_divisor : MethodName := ⟨RX6, "divisor", "(II)I"⟩
abbrev cX6_mean : ByteArray := prog_8_method_29_code
def yX6_mean : MethodName := ⟨RX6, "mean", "(II)I"⟩
abbrev cX6_distance : ByteArray := prog_8_method_30_code
def yX6_distance : MethodName := ⟨RX6, "distance", "(I)I"⟩
abbrev cX6_costOf : ByteArray := prog_8_method_31_code
def yX6_costOf : MethodName := ⟨RX6, "costOf", "(I)I"⟩
abbrev cX6_cost : ByteArray := prog_8_method_32_code
def yX6_cost : MethodName := ⟨RX6, "cost", "(I)I"⟩
abbrev cX6_fitOf : ByteArray := prog_8_method_33_code
def yX6_fitOf : MethodName := ⟨RX6, "fitOf", "(I)I"⟩
abbrev cX6_fits : ByteArray := prog_8_method_34_code
def yX6_fits : MethodName := ⟨RX6, "fits", "()I"⟩
abbrev cX6_costs : ByteArray := prog_8_method_35_code
def yX6_costs : MethodName := ⟨RX6, "costs", "()I"⟩
abbrev cX6_fines : ByteArray := prog_8_method_36_code
def yX6_fines : MethodName := ⟨RX6, "fines", "()I"⟩
abbrev cX6_pins : ByteArray := prog_8_method_37_code
def yX6_pins : MethodName := ⟨RX6, "pins", "(I)I"⟩
abbrev cX6_worst : ByteArray := prog_8_method_38_code
def yX6_worst : MethodName := ⟨RX6, "worst", "()I"⟩
abbrev cX6_together : ByteArray := prog_8_method_39_code
def yX6_together : MethodName := ⟨RX6, "together", "(II)I"⟩
abbrev cX6_marry : ByteArray := prog_8_method_40_code
def yX6_marry : MethodName := ⟨RX6, "marry", "(II)I"⟩
abbrev cX6_bride : ByteArray := prog_8_method_41_code
def yX6_bride : MethodName := ⟨RX6, "bride", "(I)I"⟩
abbrev cX6_send : ByteArray := prog_8_method_42_code
def yX6_send : MethodName := ⟨RX6, "send", "(I)I"⟩
abbrev cX6_best : ByteArray := prog_8_method_43_code
def yX6_best : MethodName := ⟨RX6, "best", "()I"⟩
abbrev cX6_easeFor : ByteArray := prog_8_method_44_code
def yX6_easeFor : MethodName := ⟨RX6, "easeFor", "()I"⟩
abbrev cX6_isAway : ByteArray := prog_8_method_45_code
def yX6_isAway : MethodName := ⟨RX6, "isAway", "(I)Z"⟩
abbrev cX6_sways : ByteArray := prog_8_method_46_code
def yX6_sways : MethodName := ⟨RX6, "sways", "(II)I"⟩
abbrev cX6_sized : ByteArray := prog_8_method_47_code
def yX6_sized : MethodName := ⟨RX6, "sized", "(II)I"⟩
abbrev cX6_doesBribe : ByteArray := prog_8_method_48_code
def yX6_doesBribe : MethodName := ⟨RX6, "doesBribe", "(I)Z"⟩
abbrev cX6_costBy : ByteArray := prog_8_method_49_code
def yX6_costBy : MethodName := ⟨RX6, "costBy", "(II)I"⟩
abbrev cX6_bribeOf : ByteArray := prog_8_method_50_code
def yX6_bribeOf : MethodName := ⟨RX6, "bribeOf", "(I)I"⟩
abbrev cX6_bribe : ByteArray := prog_8_method_51_code
def yX6_bribe : MethodName := ⟨RX6, "bribe", "(I)I"⟩
abbrev cX6_isSettled : ByteArray := prog_8_method_52_code
def yX6_isSettled : MethodName := ⟨RX6, "isSettled", "()Z"⟩
abbrev cX6_settled : ByteArray := prog_8_method_53_code
def yX6_settled : MethodName := ⟨RX6, "settled", "()I"⟩
abbrev cX6_round : ByteArray := prog_8_method_54_code
def yX6_round : MethodName := ⟨RX6, "round", "()V"⟩
abbrev cX6_keepBribes : ByteArray := prog_8_method_55_code
def yX6_keepBribes : MethodName := ⟨RX6, "keepBribes", "()V"⟩
abbrev cX6_rounds : ByteArray := prog_8_method_56_code
def yX6_rounds : MethodName := ⟨RX6, "rounds", "(I)I"⟩
abbrev cX6_settles : ByteArray := prog_8_method_57_code
def yX6_settles : MethodName := ⟨RX6, "settles", "()I"⟩
abbrev cX6_spring : ByteArray := prog_8_method_58_code
def yX6_spring : MethodName := ⟨RX6, "spring", "()I"⟩
abbrev cX6_isSpring : ByteArray := prog_8_method_59_code
def yX6_isSpring : MethodName := ⟨RX6, "isSpring", "(I)Z"⟩
abbrev cX6_old : ByteArray := prog_8_method_60_code
def yX6_old : MethodName := ⟨RX6, "old", "(II)I"⟩
abbrev cX6_findLived : ByteArray := prog_8_method_61_code
def yX6_findLived : MethodName := ⟨RX6, "findLived", "(I)I"⟩
abbrev cX6_lived : ByteArray := prog_8_method_62_code
def yX6_lived : MethodName := ⟨RX6, "lived", "(I)I"⟩
abbrev cX6_surely : ByteArray := prog_8_method_63_code
def yX6_surely : MethodName := ⟨RX6, "surely", "(II)I"⟩
abbrev cX6_drawn : ByteArray := prog_8_method_64_code
def yX6_drawn : MethodName := ⟨RX6, "drawn", "(I)I"⟩
abbrev cX6_slip : ByteArray := prog_8_method_65_code
def yX6_slip : MethodName := ⟨RX6, "slip", "()V"⟩
abbrev cX6_odds : ByteArray := prog_8_method_66_code
def yX6_odds : MethodName := ⟨RX6, "odds", "(I)I"⟩
abbrev cX6_seed : ByteArray := prog_8_method_67_code
def yX6_seed : MethodName := ⟨RX6, "seed", "(I)I"⟩
abbrev cX6_feed : ByteArray := prog_8_method_68_code
def yX6_feed : MethodName := ⟨RX6, "feed", "(II)I"⟩
abbrev cX6_wipe : ByteArray := prog_8_method_69_code
def yX6_wipe : MethodName := ⟨RX6, "wipe", "()I"⟩
abbrev cX6_byteAt : ByteArray := prog_8_method_70_code
def yX6_byteAt : MethodName := ⟨RX6, "byteAt", "(I)I"⟩
abbrev cX6_next : ByteArray := prog_8_method_71_code
def yX6_next : MethodName := ⟨RX6, "next", "()V"⟩
abbrev cX6_isWord : ByteArray := prog_8_method_72_code
def yX6_isWord : MethodName := ⟨RX6, "isWord", "(Ljava/lang/String;)Z"⟩
abbrev cX6_must : ByteArray := prog_8_method_73_code
def yX6_must : MethodName := ⟨RX6, "must", "(Z)V"⟩
abbrev cX6_number : ByteArray := prog_8_method_74_code
def yX6_number : MethodName := ⟨RX6, "number", "(II)I"⟩
abbrev cX6_which : ByteArray := prog_8_method_75_code
def yX6_which : MethodName := ⟨RX6, "which", "([Ljava/lang/String;)I"⟩
abbrev cX6_isSign : ByteArray := prog_8_method_76_code
def yX6_isSign : MethodName := ⟨RX6, "isSign", "(I)Z"⟩
abbrev cX6_readItem : ByteArray := prog_8_method_77_code
def yX6_readItem : MethodName := ⟨RX6, "readItem", "()V"⟩
abbrev cX6_readBody : ByteArray := prog_8_method_78_code
def yX6_readBody : MethodName := ⟨RX6, "readBody", "(I)V"⟩
abbrev cX6_isSo : ByteArray := prog_8_method_79_code
def yX6_isSo : MethodName := ⟨RX6, "isSo", "(I)V"⟩
abbrev cX6_text : ByteArray := prog_8_method_80_code
def yX6_text : MethodName := ⟨RX6, "text", "()I"⟩
abbrev cX6_hold : ByteArray := prog_8_method_81_code
def yX6_hold : MethodName := ⟨RX6, "hold", "(II)I"⟩
abbrev cX6_above : ByteArray := prog_8_method_82_code
def yX6_above : MethodName := ⟨RX6, "above", "(I)I"⟩
abbrev cX6_as : ByteArray := prog_8_method_83_code
def yX6_as : MethodName := ⟨RX6, "as", "(II)I"⟩
abbrev cX6_isSheet : ByteArray := prog_8_method_84_code
def yX6_isSheet : MethodName := ⟨RX6, "isSheet", "(I)Z"⟩
abbrev cX6_cutTo : ByteArray := prog_8_method_85_code
def yX6_cutTo : MethodName := ⟨RX6, "cutTo", "(II)I"⟩
abbrev cX6_sheet : ByteArray := prog_8_method_86_code
def yX6_sheet : MethodName := ⟨RX6, "sheet", "(III)I"⟩
abbrev cX6_write : ByteArray := prog_8_method_87_code
def yX6_write : MethodName := ⟨RX6, "write", "(III)I"⟩
abbrev cX6_copy : ByteArray := prog_8_method_88_code
def yX6_copy : MethodName := ⟨RX6, "copy", "(IIIII)I"⟩
abbrev cX6_load : ByteArray := prog_8_method_89_code
def yX6_load : MethodName := ⟨RX6, "load", "(I)I"⟩
abbrev cX6_judge : ByteArray := prog_8_method_90_code
def yX6_judge : MethodName := ⟨RX6, "judge", "(I)I"⟩
abbrev cX6_copyRow : ByteArray := prog_8_method_91_code
def yX6_copyRow : MethodName := ⟨RX6, "copyRow", "([I[I)V"⟩
abbrev cX6_image : ByteArray := prog_8_method_92_code
def yX6_image : MethodName := ⟨RX6, "image", "()I"⟩
abbrev cX6_undo : ByteArray := prog_8_method_93_code
def yX6_undo : MethodName := ⟨RX6, "undo", "()I"⟩
abbrev cX6_tear : ByteArray := prog_8_method_94_code
def yX6_tear : MethodName := ⟨RX6, "tear", "()I"⟩
abbrev cX6_count : ByteArray := prog_8_method_95_code
def yX6_count : MethodName := ⟨RX6, "count", "(I)I"⟩
abbrev cX6_status : ByteArray := prog_8_method_96_code
def yX6_status : MethodName := ⟨RX6, "status", "(I)I"⟩
def RJ6 : String := "java/lang/Integer"
abbrev cJ6_bitCount_0f7a4 : ByteArray := prog_9_method_49_code
def yJ6_bitCount_0f7a4 : MethodName := ⟨RJ6, "bitCount", "(I)I"⟩
def RJ9 : String := "java/lang/Math"
abbrev cJ9_abs_0f7a4 : ByteArray := prog_10_method_59_code
def yJ9_abs_0f7a4 : MethodName := ⟨RJ9, "abs", "(I)I"⟩
abbrev cJ9_max_7cf53 : ByteArray := prog_10_method_65_code
def yJ9_max_7cf53 : MethodName := ⟨RJ9, "max", "(II)I"⟩
abbrev cJ9_min_7cf53 : ByteArray := prog_10_method_69_code
def yJ9_min_7cf53 : MethodName := ⟨RJ9, "min", "(II)I"⟩
def RJ0 : String := "java/lang/String"
abbrev cJ0_length_8abf5 : ByteArray := prog_11_method_54_code
def yJ0_length_8abf5 : MethodName := ⟨RJ0, "length", "()I"⟩
abbrev cJ0_charAt_5068e : ByteArray := prog_11_method_56_code
def yJ0_charAt_5068e : MethodName := ⟨RJ0, "charAt", "(I)C"⟩
abbrev cJ0_coder_7d493 : ByteArray := prog_11_method_152_code
def yJ0_coder_7d493 : MethodName := ⟨RJ0, "coder", "()B"⟩
abbrev cJ0_isLatin1_aae02 : ByteArray := prog_11_method_154_code
def yJ0_isLatin1_aae02 : MethodName := ⟨RJ0, "isLatin1", "()Z"⟩
abbrev cJ0_checkIndex_df160 : ByteArray := prog_11_method_155_code
def yJ0_checkIndex_df160 : MethodName := ⟨RJ0, "checkIndex", "(II)V"⟩
def RJ1 : String := "java/lang/StringLatin1"
abbrev cJ1_charAt_3b067 : ByteArray := prog_12_method_2_code
def yJ1_charAt_3b067 : MethodName := ⟨RJ1, "charAt", "([BI)C"⟩
def RJ2 : String := "java/lang/StringUTF16"
abbrev cJ2_getChar_3b067 : ByteArray := prog_13_method_5_code
def yJ2_getChar_3b067 : MethodName := ⟨RJ2, "getChar", "([BI)C"⟩
abbrev cJ2_length_9d52b : ByteArray := prog_13_method_6_code
def yJ2_length_9d52b : MethodName := ⟨RJ2, "length", "([B)I"⟩
abbrev cJ2_charAt_3b067 : ByteArray := prog_13_method_83_code
def yJ2_charAt_3b067 : MethodName := ⟨RJ2, "charAt", "([BI)C"⟩
abbrev cJ2_checkIndex_2214a : ByteArray := prog_13_method_91_code
def yJ2_checkIndex_2214a : MethodName := ⟨RJ2, "checkIndex", "(I[B)V"⟩
def RJ10 : String := "java/lang/System"
def RJ3 : String := "jdk/internal/util/Preconditions"
abbrev cJ3_checkIndex_8e157 : ByteArray := prog_15_method_11_code
def yJ3_checkIndex_8e157 : MethodName := ⟨RJ3, "checkIndex", "(IILjava/util/function/BiFunction;)I"⟩
def RL : String := "MeanCoatsLaw"
abbrev cL_law : ByteArray := code
def yL_law : MethodName := ⟨RL, "law", "([I)Z"⟩
abbrev vwCl : List vw_C := [(RX0, TX0, 4), (RX1, TX1, 3), (RX2, TX2, 5), (RX3, TX3, 7), (RX4, TX4, 13), (RX5, TX5, 10), (RX6, TX6, 27)]
end
section
/-! THE WORLD OF BOTH OBJECTS: 55 cells, their shapes fixed once they are made; what changes is numbers alone. By program (wip/whole/gen_base.py). -/
abbrev zM : Type := Nat → Nat → Int32
def zup (u : zM) (k : Nat) (f : Nat → Int32) : zM := fun j => if j = k then f else u j
def zst (u : zM) (k j : Nat) (v : Int32) : zM := zup u k (upd (u k) j v)
/-- the classes' numbers and slots; the classes of arrays; where the cells lie; where the Strings lie; their bytes; the static row -/
abbrev zE : Type := va_G × (Nat → ClassId) × (Nat → Nat) × (Nat → Nat) × (Nat → Nat) × Nat
abbrev zad (E : zE) : Nat → Nat := E.2.2.1
abbrev zaK (E : zE) : Nat → Nat := E.2.2.2.1
def zty (E : zE) : List (ClassId × FieldType) := [(E.2.1 0, .int), (E.2.1 1, .object "MeanCoats$Sheet"), (E.2.1 2, .object "java/lang/String")]
def zfs (E : zE) (k : Nat) (r : Nat → Int32) : List Value := match k with
  | 0 => [.ref (zad E 1), .ref (zad E 8), .ref (zad E 15), .ref (zad E 20), .ref (zad E 25), .ref (zad E 27), .ref (zad E 28), .ref (zad E 29), .ref (zad E 30), .int (r 9)]
  | 1 => [.ref (zad E 2), .ref (zad E 3), .ref (zad E 4), .ref (zad E 5), .ref (zad E 6), .ref (zad E 7), .int (r 6), .int (r 7), .int (r 8), .int (r 9), .int (r 10), .int (r 11), .int (r 12)]
  | 8 => [.ref (zad E 9), .ref (zad E 10), .ref (zad E 11), .ref (zad E 12), .ref (zad E 13), .ref (zad E 14), .int (r 6), .int (r 7), .int (r 8), .int (r 9), .int (r 10), .int (r 11), .int (r 12)]
  | 15 => [.ref (zad E 16), .ref (zad E 17), .ref (zad E 18), .ref (zad E 19), .int (r 4)]
  | 20 => [.ref (zad E 21), .ref (zad E 22), .ref (zad E 23), .ref (zad E 24), .int (r 4), .int (r 5), .int (r 6)]
  | 25 => [.ref (zad E 26), .int (r 1), .int (r 2), .int (r 3)]
  | 31 => [.ref (zad E 32), .int (r 1), .int (r 2)]
  | 33 => [.ref (zad E 34), .int (r 1), .int (r 2)]
  | 35 => [.ref (zad E 36), .int (r 1), .int (r 2)]
  | 37 => [.ref (zad E 38), .int (r 1), .int (r 2)]
  | 39 => [.ref (zad E 40), .ref (zad E 41), .int (r 2), .ref (zad E 42), .ref (zad E 43), .ref (zad E 44), .ref (zad E 45), .int (r 7), .ref (zad E 46), .int (r 9), .int (r 10), .ref (zad E 47), .int (r 12), .int (r 13), .int (r 14), .int (r 15), .int (r 16), .int (r 17), .ref (zad E 48), .ref (zad E 49), .ref (zad E 50), .int (r 21), .int (r 22), .ref (zad E 51), .ref (zad E 52), .ref (zad E 53), .ref (zad E 54)]
  | _ => []
/-- an object's class, by its place in vwCl -/
def zC (k : Nat) : Option Nat := ([some 5, some 4, none, none, none, none, none, none, some 4, none, none, none, none, none, none, some 2, none, none, none, none, some 3, none, none, none, none, some 0, none, none, none, none, none, some 1, none, some 1, none, some 1, none, some 1, none, some 6, none, none, none, none, none, none, none, none, none, none, none, none, none, none, none] : List (Option Nat)).getD k none
/-- how long an array of ints is -/
def zN (k : Nat) : Option Nat := ([none, none, some 12, some 36, some 12, some 12, some 60, some 10, none, some 12, some 36, some 12, some 12, some 60, some 10, none, some 36, some 36, some 12, some 3, none, some 120, some 121, some 121, some 121, none, some 3, none, some 7, some 12, some 3, none, some 40, none, some 40, none, some 40, none, some 40, none, some 160, some 160, some 8, some 3, some 36, some 36, some 12, some 120, none, none, some 720, some 4, some 4, some 160, some 40] : List (Option Nat)).getD k none
def zw (E : zE) (u : zM) : va_W := [
  (zad E 0, .inr (5, zfs E 0 (u 0))),
  (zad E 1, .inr (4, zfs E 1 (u 1))),
  (zad E 2, .inl (E.2.1 0, 12, .inl (u 2))),
  (zad E 3, .inl (E.2.1 0, 36, .inl (u 3))),
  (zad E 4, .inl (E.2.1 0, 12, .inl (u 4))),
  (zad E 5, .inl (E.2.1 0, 12, .inl (u 5))),
  (zad E 6, .inl (E.2.1 0, 60, .inl (u 6))),
  (zad E 7, .inl (E.2.1 0, 10, .inl (u 7))),
  (zad E 8, .inr (4, zfs E 8 (u 8))),
  (zad E 9, .inl (E.2.1 0, 12, .inl (u 9))),
  (zad E 10, .inl (E.2.1 0, 36, .inl (u 10))),
  (zad E 11, .inl (E.2.1 0, 12, .inl (u 11))),
  (zad E 12, .inl (E.2.1 0, 12, .inl (u 12))),
  (zad E 13, .inl (E.2.1 0, 60, .inl (u 13))),
  (zad E 14, .inl (E.2.1 0, 10, .inl (u 14))),
  (zad E 15, .inr (2, zfs E 15 (u 15))),
  (zad E 16, .inl (E.2.1 0, 36, .inl (u 16))),
  (zad E 17, .inl (E.2.1 0, 36, .inl (u 17))),
  (zad E 18, .inl (E.2.1 0, 12, .inl (u 18))),
  (zad E 19, .inl (E.2.1 0, 3, .inl (u 19))),
  (zad E 20, .inr (3, zfs E 20 (u 20))),
  (zad E 21, .inl (E.2.1 0, 120, .inl (u 21))),
  (zad E 22, .inl (E.2.1 0, 121, .inl (u 22))),
  (zad E 23, .inl (E.2.1 0, 121, .inl (u 23))),
  (zad E 24, .inl (E.2.1 0, 121, .inl (u 24))),
  (zad E 25, .inr (0, zfs E 25 (u 25))),
  (zad E 26, .inl (E.2.1 0, 3, .inl (u 26))),
  (zad E 27, .inl (E.2.1 1, 4, .inr (.inr (.inr (.inr (fun j => some (zad E (31 + 2 * j)))))))),
  (zad E 28, .inl (E.2.1 0, 7, .inl (u 28))),
  (zad E 29, .inl (E.2.1 0, 12, .inl (u 29))),
  (zad E 30, .inl (E.2.1 0, 3, .inl (u 30))),
  (zad E 31, .inr (1, zfs E 31 (u 31))),
  (zad E 32, .inl (E.2.1 0, 40, .inl (u 32))),
  (zad E 33, .inr (1, zfs E 33 (u 33))),
  (zad E 34, .inl (E.2.1 0, 40, .inl (u 34))),
  (zad E 35, .inr (1, zfs E 35 (u 35))),
  (zad E 36, .inl (E.2.1 0, 40, .inl (u 36))),
  (zad E 37, .inr (1, zfs E 37 (u 37))),
  (zad E 38, .inl (E.2.1 0, 40, .inl (u 38))),
  (zad E 39, .inr (6, zfs E 39 (u 39))),
  (zad E 40, .inl (E.2.1 0, 160, .inl (u 40))),
  (zad E 41, .inl (E.2.1 0, 160, .inl (u 41))),
  (zad E 42, .inl (E.2.1 0, 8, .inl (u 42))),
  (zad E 43, .inl (E.2.1 0, 3, .inl (u 43))),
  (zad E 44, .inl (E.2.1 0, 36, .inl (u 44))),
  (zad E 45, .inl (E.2.1 0, 36, .inl (u 45))),
  (zad E 46, .inl (E.2.1 0, 12, .inl (u 46))),
  (zad E 47, .inl (E.2.1 0, 120, .inl (u 47))),
  (zad E 48, .inl (E.2.1 2, 7, .inr (.inr (.inr (.inr (fun j => some (zaK E (0 + j)))))))),
  (zad E 49, .inl (E.2.1 2, 3, .inr (.inr (.inr (.inr (fun j => some (zaK E (7 + j)))))))),
  (zad E 50, .inl (E.2.1 0, 720, .inl (u 50))),
  (zad E 51, .inl (E.2.1 0, 4, .inl (u 51))),
  (zad E 52, .inl (E.2.1 0, 4, .inl (u 52))),
  (zad E 53, .inl (E.2.1 0, 160, .inl (u 53))),
  (zad E 54, .inl (E.2.1 0, 40, .inl (u 54)))]
def z0 : zM := fun _ _ => 0
set_option maxRecDepth 20000 in
theorem zw_arr (E : zE) (u : zM) : ∀ k N, zN k = some N → (zw E u)[k]? = some (zad E k, .inl (E.2.1 0, N, .inl (u k)))
  | 0, _, h => by cases (show none = _ from h)
  | 1, _, h => by cases (show none = _ from h)
  | 2, _, h => by obtain rfl := Option.some.inj (show some 12 = _ from h); rfl
  | 3, _, h => by obtain rfl := Option.some.inj (show some 36 = _ from h); rfl
  | 4, _, h => by obtain rfl := Option.some.inj (show some 12 = _ from h); rfl
  | 5, _, h => by obtain rfl := Option.some.inj (show some 12 = _ from h); rfl
  | 6, _, h => by obtain rfl := Option.some.inj (show some 60 = _ from h); rfl
  | 7, _, h => by obtain rfl := Option.some.inj (show some 10 = _ from h); rfl
  | 8, _, h => by cases (show none = _ from h)
  | 9, _, h => by obtain rfl := Option.some.inj (show some 12 = _ from h); rfl
  | 10, _, h => by obtain rfl := Option.some.inj (show some 36 = _ from h); rfl
  | 11, _, h => by obtain rfl := Option.some.inj (show some 12 = _ from h); rfl
  | 12, _, h => by obtain rfl := Option.some.inj (show some 12 = _ from h); rfl
  | 13, _, h => by obtain rfl := Option.some.inj (show some 60 = _ from h); rfl
  | 14, _, h => by obtain rfl := Option.some.inj (show some 10 = _ from h); rfl
  | 15, _, h => by cases (show none = _ from h)
  | 16, _, h => by obtain rfl := Option.some.inj (show some 36 = _ from h); rfl
  | 17, _, h => by obtain rfl := Option.some.inj (show some 36 = _ from h); rfl
  | 18, _, h => by obtain rfl := Option.some.inj (show some 12 = _ from h); rfl
  | 19, _, h => by obtain rfl := Option.some.inj (show some 3 = _ from h); rfl
  | 20, _, h => by cases (show none = _ from h)
  | 21, _, h => by obtain rfl := Option.some.inj (show some 120 = _ from h); rfl
  | 22, _, h => by obtain rfl := Option.some.inj (show some 121 = _ from h); rfl
  | 23, _, h => by obtain rfl := Option.some.inj (show some 121 = _ from h); rfl
  | 24, _, h => by obtain rfl := Option.some.inj (show some 121 = _ from h); rfl
  | 25, _, h => by cases (show none = _ from h)
  | 26, _, h => by obtain rfl := Option.some.inj (show some 3 = _ from h); rfl
  | 27, _, h => by cases (show none = _ from h)
  | 28, _, h => by obtain rfl := Option.some.inj (show some 7 = _ from h); rfl
  | 29, _, h => by obtain rfl := Option.some.inj (show some 12 = _ from h); rfl
  | 30, _, h => by obtain rfl := Option.some.inj (show some 3 = _ from h); rfl
  | 31, _, h => by cases (show none = _ from h)
  | 32, _, h => by obtain rfl := Option.some.inj (show some 40 = _ from h); rfl
  | 33, _, h => by cases (show none = _ from h)
  | 34, _, h => by obtain rfl := Option.some.inj (show some 40 = _ from h); rfl
  | 35, _, h => by cases (show none = _ from h)
  | 36, _, h => by obtain rfl := Option.some.inj (show some 40 = _ from h); rfl
  | 37, _, h => by cases (show none = _ from h)
  | 38, _, h => by obtain rfl := Option.some.inj (show some 40 = _ from h); rfl
  | 39, _, h => by cases (show none = _ from h)
  | 40, _, h => by obtain rfl := Option.some.inj (show some 160 = _ from h); rfl
  | 41, _, h => by obtain rfl := Option.some.inj (show some 160 = _ from h); rfl
  | 42, _, h => by obtain rfl := Option.some.inj (show some 8 = _ from h); rfl
  | 43, _, h => by obtain rfl := Option.some.inj (show some 3 = _ from h); rfl
  | 44, _, h => by obtain rfl := Option.some.inj (show some 36 = _ from h); rfl
  | 45, _, h => by obtain rfl := Option.some.inj (show some 36 = _ from h); rfl
  | 46, _, h => by obtain rfl := Option.some.inj (show some 12 = _ from h); rfl
  | 47, _, h => by obtain rfl := Option.some.inj (show some 120 = _ from h); rfl
  | 48, _, h => by cases (show none = _ from h)
  | 49, _, h => by cases (show none = _ from h)
  | 50, _, h => by obtain rfl := Option.some.inj (show some 720 = _ from h); rfl
  | 51, _, h => by obtain rfl := Option.some.inj (show some 4 = _ from h); rfl
  | 52, _, h => by obtain rfl := Option.some.inj (show some 4 = _ from h); rfl
  | 53, _, h => by obtain rfl := Option.some.inj (show some 160 = _ from h); rfl
  | 54, _, h => by obtain rfl := Option.some.inj (show some 40 = _ from h); rfl
  | k + 55, _, h => by cases (show none = _ from h)
set_option maxRecDepth 20000 in
theorem zw_set (E : zE) (u : zM) (f : Nat → Int32) : ∀ k N, zN k = some N → (zw E u).set k (zad E k, .inl (E.2.1 0, N, .inl f)) = zw E (zup u k f)
  | 0, _, h => by cases (show none = _ from h)
  | 1, _, h => by cases (show none = _ from h)
  | 2, _, h => by obtain rfl := Option.some.inj (show some 12 = _ from h); rfl
  | 3, _, h => by obtain rfl := Option.some.inj (show some 36 = _ from h); rfl
  | 4, _, h => by obtain rfl := Option.some.inj (show some 12 = _ from h); rfl
  | 5, _, h => by obtain rfl := Option.some.inj (show some 12 = _ from h); rfl
  | 6, _, h => by obtain rfl := Option.some.inj (show some 60 = _ from h); rfl
  | 7, _, h => by obtain rfl := Option.some.inj (show some 10 = _ from h); rfl
  | 8, _, h => by cases (show none = _ from h)
  | 9, _, h => by obtain rfl := Option.some.inj (show some 12 = _ from h); rfl
  | 10, _, h => by obtain rfl := Option.some.inj (show some 36 = _ from h); rfl
  | 11, _, h => by obtain rfl := Option.some.inj (show some 12 = _ from h); rfl
  | 12, _, h => by obtain rfl := Option.some.inj (show some 12 = _ from h); rfl
  | 13, _, h => by obtain rfl := Option.some.inj (show some 60 = _ from h); rfl
  | 14, _, h => by obtain rfl := Option.some.inj (show some 10 = _ from h); rfl
  | 15, _, h => by cases (show none = _ from h)
  | 16, _, h => by obtain rfl := Option.some.inj (show some 36 = _ from h); rfl
  | 17, _, h => by obtain rfl := Option.some.inj (show some 36 = _ from h); rfl
  | 18, _, h => by obtain rfl := Option.some.inj (show some 12 = _ from h); rfl
  | 19, _, h => by obtain rfl := Option.some.inj (show some 3 = _ from h); rfl
  | 20, _, h => by cases (show none = _ from h)
  | 21, _, h => by obtain rfl := Option.some.inj (show some 120 = _ from h); rfl
  | 22, _, h => by obtain rfl := Option.some.inj (show some 121 = _ from h); rfl
  | 23, _, h => by obtain rfl := Option.some.inj (show some 121 = _ from h); rfl
  | 24, _, h => by obtain rfl := Option.some.inj (show some 121 = _ from h); rfl
  | 25, _, h => by cases (show none = _ from h)
  | 26, _, h => by obtain rfl := Option.some.inj (show some 3 = _ from h); rfl
  | 27, _, h => by cases (show none = _ from h)
  | 28, _, h => by obtain rfl := Option.some.inj (show some 7 = _ from h); rfl
  | 29, _, h => by obtain rfl := Option.some.inj (show some 12 = _ from h); rfl
  | 30, _, h => by obtain rfl := Option.some.inj (show some 3 = _ from h); rfl
  | 31, _, h => by cases (show none = _ from h)
  | 32, _, h => by obtain rfl := Option.some.inj (show some 40 = _ from h); rfl
  | 33, _, h => by cases (show none = _ from h)
  | 34, _, h => by obtain rfl := Option.some.inj (show some 40 = _ from h); rfl
  | 35, _, h => by cases (show none = _ from h)
  | 36, _, h => by obtain rfl := Option.some.inj (show some 40 = _ from h); rfl
  | 37, _, h => by cases (show none = _ from h)
  | 38, _, h => by obtain rfl := Option.some.inj (show some 40 = _ from h); rfl
  | 39, _, h => by cases (show none = _ from h)
  | 40, _, h => by obtain rfl := Option.some.inj (show some 160 = _ from h); rfl
  | 41, _, h => by obtain rfl := Option.some.inj (show some 160 = _ from h); rfl
  | 42, _, h => by obtain rfl := Option.some.inj (show some 8 = _ from h); rfl
  | 43, _, h => by obtain rfl := Option.some.inj (show some 3 = _ from h); rfl
  | 44, _, h => by obtain rfl := Option.some.inj (show some 36 = _ from h); rfl
  | 45, _, h => by obtain rfl := Option.some.inj (show some 36 = _ from h); rfl
  | 46, _, h => by obtain rfl := Option.some.inj (show some 12 = _ from h); rfl
  | 47, _, h => by obtain rfl := Option.some.inj (show some 120 = _ from h); rfl
  | 48, _, h => by cases (show none = _ from h)
  | 49, _, h => by cases (show none = _ from h)
  | 50, _, h => by obtain rfl := Option.some.inj (show some 720 = _ from h); rfl
  | 51, _, h => by obtain rfl := Option.some.inj (show some 4 = _ from h); rfl
  | 52, _, h => by obtain rfl := Option.some.inj (show some 4 = _ from h); rfl
  | 53, _, h => by obtain rfl := Option.some.inj (show some 160 = _ from h); rfl
  | 54, _, h => by obtain rfl := Option.some.inj (show some 40 = _ from h); rfl
  | k + 55, _, h => by cases (show none = _ from h)
set_option maxRecDepth 20000 in
theorem zw_obj (E : zE) (u : zM) : ∀ k ci, zC k = some ci → (zw E u)[k]? = some (zad E k, .inr (ci, zfs E k (u k)))
  | 0, _, h => by obtain rfl := Option.some.inj (show some 5 = _ from h); rfl
  | 1, _, h => by obtain rfl := Option.some.inj (show some 4 = _ from h); rfl
  | 2, _, h => by cases (show none = _ from h)
  | 3, _, h => by cases (show none = _ from h)
  | 4, _, h => by cases (show none = _ from h)
  | 5, _, h => by cases (show none = _ from h)
  | 6, _, h => by cases (show none = _ from h)
  | 7, _, h => by cases (show none = _ from h)
  | 8, _, h => by obtain rfl := Option.some.inj (show some 4 = _ from h); rfl
  | 9, _, h => by cases (show none = _ from h)
  | 10, _, h => by cases (show none = _ from h)
  | 11, _, h => by cases (show none = _ from h)
  | 12, _, h => by cases (show none = _ from h)
  | 13, _, h => by cases (show none = _ from h)
  | 14, _, h => by cases (show none = _ from h)
  | 15, _, h => by obtain rfl := Option.some.inj (show some 2 = _ from h); rfl
  | 16, _, h => by cases (show none = _ from h)
  | 17, _, h => by cases (show none = _ from h)
  | 18, _, h => by cases (show none = _ from h)
  | 19, _, h => by cases (show none = _ from h)
  | 20, _, h => by obtain rfl := Option.some.inj (show some 3 = _ from h); rfl
  | 21, _, h => by cases (show none = _ from h)
  | 22, _, h => by cases (show none = _ from h)
  | 23, _, h => by cases (show none = _ from h)
  | 24, _, h => by cases (show none = _ from h)
  | 25, _, h => by obtain rfl := Option.some.inj (show some 0 = _ from h); rfl
  | 26, _, h => by cases (show none = _ from h)
  | 27, _, h => by cases (show none = _ from h)
  | 28, _, h => by cases (show none = _ from h)
  | 29, _, h => by cases (show none = _ from h)
  | 30, _, h => by cases (show none = _ from h)
  | 31, _, h => by obtain rfl := Option.some.inj (show some 1 = _ from h); rfl
  | 32, _, h => by cases (show none = _ from h)
  | 33, _, h => by obtain rfl := Option.some.inj (show some 1 = _ from h); rfl
  | 34, _, h => by cases (show none = _ from h)
  | 35, _, h => by obtain rfl := Option.some.inj (show some 1 = _ from h); rfl
  | 36, _, h => by cases (show none = _ from h)
  | 37, _, h => by obtain rfl := Option.some.inj (show some 1 = _ from h); rfl
  | 38, _, h => by cases (show none = _ from h)
  | 39, _, h => by obtain rfl := Option.some.inj (show some 6 = _ from h); rfl
  | 40, _, h => by cases (show none = _ from h)
  | 41, _, h => by cases (show none = _ from h)
  | 42, _, h => by cases (show none = _ from h)
  | 43, _, h => by cases (show none = _ from h)
  | 44, _, h => by cases (show none = _ from h)
  | 45, _, h => by cases (show none = _ from h)
  | 46, _, h => by cases (show none = _ from h)
  | 47, _, h => by cases (show none = _ from h)
  | 48, _, h => by cases (show none = _ from h)
  | 49, _, h => by cases (show none = _ from h)
  | 50, _, h => by cases (show none = _ from h)
  | 51, _, h => by cases (show none = _ from h)
  | 52, _, h => by cases (show none = _ from h)
  | 53, _, h => by cases (show none = _ from h)
  | 54, _, h => by cases (show none = _ from h)
  | k + 55, _, h => by cases (show none = _ from h)
/-- which fields are ints (the last number: 1 a boolean) -/
def zI (k j : Nat) : Bool := ([(0, 9), (1, 6), (1, 7), (1, 8), (1, 9), (1, 10), (1, 11), (1, 12), (8, 6), (8, 7), (8, 8), (8, 9), (8, 10), (8, 11), (8, 12), (15, 4), (20, 4), (20, 5), (20, 6), (25, 1), (25, 2), (25, 3), (31, 1), (31, 2), (33, 1), (33, 2), (35, 1), (35, 2), (37, 1), (37, 2), (39, 2), (39, 7), (39, 9), (39, 10), (39, 12), (39, 13), (39, 14), (39, 15), (39, 16), (39, 17), (39, 21), (39, 22)] : List (Nat × Nat)).contains (k, j)
def zR (k j : Nat) : Option Nat := ([(((0, 0) : Nat × Nat), 1), (((0, 1) : Nat × Nat), 8), (((0, 2) : Nat × Nat), 15), (((0, 3) : Nat × Nat), 20), (((0, 4) : Nat × Nat), 25), (((0, 5) : Nat × Nat), 27), (((0, 6) : Nat × Nat), 28), (((0, 7) : Nat × Nat), 29), (((0, 8) : Nat × Nat), 30), (((1, 0) : Nat × Nat), 2), (((1, 1) : Nat × Nat), 3), (((1, 2) : Nat × Nat), 4), (((1, 3) : Nat × Nat), 5), (((1, 4) : Nat × Nat), 6), (((1, 5) : Nat × Nat), 7), (((8, 0) : Nat × Nat), 9), (((8, 1) : Nat × Nat), 10), (((8, 2) : Nat × Nat), 11), (((8, 3) : Nat × Nat), 12), (((8, 4) : Nat × Nat), 13), (((8, 5) : Nat × Nat), 14), (((15, 0) : Nat × Nat), 16), (((15, 1) : Nat × Nat), 17), (((15, 2) : Nat × Nat), 18), (((15, 3) : Nat × Nat), 19), (((20, 0) : Nat × Nat), 21), (((20, 1) : Nat × Nat), 22), (((20, 2) : Nat × Nat), 23), (((20, 3) : Nat × Nat), 24), (((25, 0) : Nat × Nat), 26), (((31, 0) : Nat × Nat), 32), (((33, 0) : Nat × Nat), 34), (((35, 0) : Nat × Nat), 36), (((37, 0) : Nat × Nat), 38), (((39, 0) : Nat × Nat), 40), (((39, 1) : Nat × Nat), 41), (((39, 3) : Nat × Nat), 42), (((39, 4) : Nat × Nat), 43), (((39, 5) : Nat × Nat), 44), (((39, 6) : Nat × Nat), 45), (((39, 8) : Nat × Nat), 46), (((39, 11) : Nat × Nat), 47), (((39, 18) : Nat × Nat), 48), (((39, 19) : Nat × Nat), 49), (((39, 20) : Nat × Nat), 50), (((39, 23) : Nat × Nat), 51), (((39, 24) : Nat × Nat), 52), (((39, 25) : Nat × Nat), 53), (((39, 26) : Nat × Nat), 54)] : List ((Nat × Nat) × Nat)).lookup (k, j)
/-- a field of an int: it is read, and written -/
def zIs (k j ci : Nat) : Prop := zC k = some ci ∧ (∀ (E : zE) (r : Nat → Int32), (zfs E k r)[j]? = some (.int (r j))) ∧ (∀ (E : zE) (r : Nat → Int32), j < (zfs E k r).length) ∧ ∀ (E : zE) (u : zM) (v : Int32), (zw E u).set k (zad E k, .inr (ci, (zfs E k (u k)).set j (.int v))) = zw E (zst u k j v)
set_option maxRecDepth 20000 in
theorem zi_0_9 : zIs 0 9 5 := ⟨rfl, fun _ _ => rfl, fun _ _ => Nat.le_of_ble_eq_true rfl, fun _ _ _ => rfl⟩
set_option maxRecDepth 20000 in
theorem zi_1_6 : zIs 1 6 4 := ⟨rfl, fun _ _ => rfl, fun _ _ => Nat.le_of_ble_eq_true rfl, fun _ _ _ => rfl⟩
set_option maxRecDepth 20000 in
theorem zi_1_7 : zIs 1 7 4 := ⟨rfl, fun _ _ => rfl, fun _ _ => Nat.le_of_ble_eq_true rfl, fun _ _ _ => rfl⟩
set_option maxRecDepth 20000 in
theorem zi_1_8 : zIs 1 8 4 := ⟨rfl, fun _ _ => rfl, fun _ _ => Nat.le_of_ble_eq_true rfl, fun _ _ _ => rfl⟩
set_option maxRecDepth 20000 in
theorem zi_1_9 : zIs 1 9 4 := ⟨rfl, fun _ _ => rfl, fun _ _ => Nat.le_of_ble_eq_true rfl, fun _ _ _ => rfl⟩
set_option maxRecDepth 20000 in
theorem zi_1_10 : zIs 1 10 4 := ⟨rfl, fun _ _ => rfl, fun _ _ => Nat.le_of_ble_eq_true rfl, fun _ _ _ => rfl⟩
set_option maxRecDepth 20000 in
theorem zi_1_11 : zIs 1 11 4 := ⟨rfl, fun _ _ => rfl, fun _ _ => Nat.le_of_ble_eq_true rfl, fun _ _ _ => rfl⟩
set_option maxRecDepth 20000 in
theorem zi_1_12 : zIs 1 12 4 := ⟨rfl, fun _ _ => rfl, fun _ _ => Nat.le_of_ble_eq_true rfl, fun _ _ _ => rfl⟩
set_option maxRecDepth 20000 in
theorem zi_8_6 : zIs 8 6 4 := ⟨rfl, fun _ _ => rfl, fun _ _ => Nat.le_of_ble_eq_true rfl, fun _ _ _ => rfl⟩
set_option maxRecDepth 20000 in
theorem zi_8_7 : zIs 8 7 4 := ⟨rfl, fun _ _ => rfl, fun _ _ => Nat.le_of_ble_eq_true rfl, fun _ _ _ => rfl⟩
set_option maxRecDepth 20000 in
theorem zi_8_8 : zIs 8 8 4 := ⟨rfl, fun _ _ => rfl, fun _ _ => Nat.le_of_ble_eq_true rfl, fun _ _ _ => rfl⟩
set_option maxRecDepth 20000 in
theorem zi_8_9 : zIs 8 9 4 := ⟨rfl, fun _ _ => rfl, fun _ _ => Nat.le_of_ble_eq_true rfl, fun _ _ _ => rfl⟩
set_option maxRecDepth 20000 in
theorem zi_8_10 : zIs 8 10 4 := ⟨rfl, fun _ _ => rfl, fun _ _ => Nat.le_of_ble_eq_true rfl, fun _ _ _ => rfl⟩
set_option maxRecDepth 20000 in
theorem zi_8_11 : zIs 8 11 4 := ⟨rfl, fun _ _ => rfl, fun _ _ => Nat.le_of_ble_eq_true rfl, fun _ _ _ => rfl⟩
set_option maxRecDepth 20000 in
theorem zi_8_12 : zIs 8 12 4 := ⟨rfl, fun _ _ => rfl, fun _ _ => Nat.le_of_ble_eq_true rfl, fun _ _ _ => rfl⟩
set_option maxRecDepth 20000 in
theorem zi_15_4 : zIs 15 4 2 := ⟨rfl, fun _ _ => rfl, fun _ _ => Nat.le_of_ble_eq_true rfl, fun _ _ _ => rfl⟩
set_option maxRecDepth 20000 in
theorem zi_20_4 : zIs 20 4 3 := ⟨rfl, fun _ _ => rfl, fun _ _ => Nat.le_of_ble_eq_true rfl, fun _ _ _ => rfl⟩
set_option maxRecDepth 20000 in
theorem zi_20_5 : zIs 20 5 3 := ⟨rfl, fun _ _ => rfl, fun _ _ => Nat.le_of_ble_eq_true rfl, fun _ _ _ => rfl⟩
set_option maxRecDepth 20000 in
theorem zi_20_6 : zIs 20 6 3 := ⟨rfl, fun _ _ => rfl, fun _ _ => Nat.le_of_ble_eq_true rfl, fun _ _ _ => rfl⟩
set_option maxRecDepth 20000 in
theorem zi_25_1 : zIs 25 1 0 := ⟨rfl, fun _ _ => rfl, fun _ _ => Nat.le_of_ble_eq_true rfl, fun _ _ _ => rfl⟩
set_option maxRecDepth 20000 in
theorem zi_25_2 : zIs 25 2 0 := ⟨rfl, fun _ _ => rfl, fun _ _ => Nat.le_of_ble_eq_true rfl, fun _ _ _ => rfl⟩
set_option maxRecDepth 20000 in
theorem zi_25_3 : zIs 25 3 0 := ⟨rfl, fun _ _ => rfl, fun _ _ => Nat.le_of_ble_eq_true rfl, fun _ _ _ => rfl⟩
set_option maxRecDepth 20000 in
theorem zi_31_1 : zIs 31 1 1 := ⟨rfl, fun _ _ => rfl, fun _ _ => Nat.le_of_ble_eq_true rfl, fun _ _ _ => rfl⟩
set_option maxRecDepth 20000 in
theorem zi_31_2 : zIs 31 2 1 := ⟨rfl, fun _ _ => rfl, fun _ _ => Nat.le_of_ble_eq_true rfl, fun _ _ _ => rfl⟩
set_option maxRecDepth 20000 in
theorem zi_33_1 : zIs 33 1 1 := ⟨rfl, fun _ _ => rfl, fun _ _ => Nat.le_of_ble_eq_true rfl, fun _ _ _ => rfl⟩
set_option maxRecDepth 20000 in
theorem zi_33_2 : zIs 33 2 1 := ⟨rfl, fun _ _ => rfl, fun _ _ => Nat.le_of_ble_eq_true rfl, fun _ _ _ => rfl⟩
set_option maxRecDepth 20000 in
theorem zi_35_1 : zIs 35 1 1 := ⟨rfl, fun _ _ => rfl, fun _ _ => Nat.le_of_ble_eq_true rfl, fun _ _ _ => rfl⟩
set_option maxRecDepth 20000 in
theorem zi_35_2 : zIs 35 2 1 := ⟨rfl, fun _ _ => rfl, fun _ _ => Nat.le_of_ble_eq_true rfl, fun _ _ _ => rfl⟩
set_option maxRecDepth 20000 in
theorem zi_37_1 : zIs 37 1 1 := ⟨rfl, fun _ _ => rfl, fun _ _ => Nat.le_of_ble_eq_true rfl, fun _ _ _ => rfl⟩
set_option maxRecDepth 20000 in
theorem zi_37_2 : zIs 37 2 1 := ⟨rfl, fun _ _ => rfl, fun _ _ => Nat.le_of_ble_eq_true rfl, fun _ _ _ => rfl⟩
set_option maxRecDepth 20000 in
theorem zi_39_2 : zIs 39 2 6 := ⟨rfl, fun _ _ => rfl, fun _ _ => Nat.le_of_ble_eq_true rfl, fun _ _ _ => rfl⟩
set_option maxRecDepth 20000 in
theorem zi_39_7 : zIs 39 7 6 := ⟨rfl, fun _ _ => rfl, fun _ _ => Nat.le_of_ble_eq_true rfl, fun _ _ _ => rfl⟩
set_option maxRecDepth 20000 in
theorem zi_39_9 : zIs 39 9 6 := ⟨rfl, fun _ _ => rfl, fun _ _ => Nat.le_of_ble_eq_true rfl, fun _ _ _ => rfl⟩
set_option maxRecDepth 20000 in
theorem zi_39_10 : zIs 39 10 6 := ⟨rfl, fun _ _ => rfl, fun _ _ => Nat.le_of_ble_eq_true rfl, fun _ _ _ => rfl⟩
set_option maxRecDepth 20000 in
theorem zi_39_12 : zIs 39 12 6 := ⟨rfl, fun _ _ => rfl, fun _ _ => Nat.le_of_ble_eq_true rfl, fun _ _ _ => rfl⟩
set_option maxRecDepth 20000 in
theorem zi_39_13 : zIs 39 13 6 := ⟨rfl, fun _ _ => rfl, fun _ _ => Nat.le_of_ble_eq_true rfl, fun _ _ _ => rfl⟩
set_option maxRecDepth 20000 in
theorem zi_39_14 : zIs 39 14 6 := ⟨rfl, fun _ _ => rfl, fun _ _ => Nat.le_of_ble_eq_true rfl, fun _ _ _ => rfl⟩
set_option maxRecDepth 20000 in
theorem zi_39_15 : zIs 39 15 6 := ⟨rfl, fun _ _ => rfl, fun _ _ => Nat.le_of_ble_eq_true rfl, fun _ _ _ => rfl⟩
set_option maxRecDepth 20000 in
theorem zi_39_16 : zIs 39 16 6 := ⟨rfl, fun _ _ => rfl, fun _ _ => Nat.le_of_ble_eq_true rfl, fun _ _ _ => rfl⟩
set_option maxRecDepth 20000 in
theorem zi_39_17 : zIs 39 17 6 := ⟨rfl, fun _ _ => rfl, fun _ _ => Nat.le_of_ble_eq_true rfl, fun _ _ _ => rfl⟩
set_option maxRecDepth 20000 in
theorem zi_39_21 : zIs 39 21 6 := ⟨rfl, fun _ _ => rfl, fun _ _ => Nat.le_of_ble_eq_true rfl, fun _ _ _ => rfl⟩
set_option maxRecDepth 20000 in
theorem zi_39_22 : zIs 39 22 6 := ⟨rfl, fun _ _ => rfl, fun _ _ => Nat.le_of_ble_eq_true rfl, fun _ _ _ => rfl⟩
/-- a field of a reference: it stays -/
def zRs (k j ci t : Nat) : Prop := zC k = some ci ∧ ∀ (E : zE) (r : Nat → Int32), (zfs E k r)[j]? = some (.ref (zad E t))
theorem zr_0_0 : zRs 0 0 5 1 := ⟨rfl, fun _ _ => rfl⟩
theorem zr_0_1 : zRs 0 1 5 8 := ⟨rfl, fun _ _ => rfl⟩
theorem zr_0_2 : zRs 0 2 5 15 := ⟨rfl, fun _ _ => rfl⟩
theorem zr_0_3 : zRs 0 3 5 20 := ⟨rfl, fun _ _ => rfl⟩
theorem zr_0_4 : zRs 0 4 5 25 := ⟨rfl, fun _ _ => rfl⟩
theorem zr_0_5 : zRs 0 5 5 27 := ⟨rfl, fun _ _ => rfl⟩
theorem zr_0_6 : zRs 0 6 5 28 := ⟨rfl, fun _ _ => rfl⟩
theorem zr_0_7 : zRs 0 7 5 29 := ⟨rfl, fun _ _ => rfl⟩
theorem zr_0_8 : zRs 0 8 5 30 := ⟨rfl, fun _ _ => rfl⟩
theorem zr_1_0 : zRs 1 0 4 2 := ⟨rfl, fun _ _ => rfl⟩
theorem zr_1_1 : zRs 1 1 4 3 := ⟨rfl, fun _ _ => rfl⟩
theorem zr_1_2 : zRs 1 2 4 4 := ⟨rfl, fun _ _ => rfl⟩
theorem zr_1_3 : zRs 1 3 4 5 := ⟨rfl, fun _ _ => rfl⟩
theorem zr_1_4 : zRs 1 4 4 6 := ⟨rfl, fun _ _ => rfl⟩
theorem zr_1_5 : zRs 1 5 4 7 := ⟨rfl, fun _ _ => rfl⟩
theorem zr_8_0 : zRs 8 0 4 9 := ⟨rfl, fun _ _ => rfl⟩
theorem zr_8_1 : zRs 8 1 4 10 := ⟨rfl, fun _ _ => rfl⟩
theorem zr_8_2 : zRs 8 2 4 11 := ⟨rfl, fun _ _ => rfl⟩
theorem zr_8_3 : zRs 8 3 4 12 := ⟨rfl, fun _ _ => rfl⟩
theorem zr_8_4 : zRs 8 4 4 13 := ⟨rfl, fun _ _ => rfl⟩
theorem zr_8_5 : zRs 8 5 4 14 := ⟨rfl, fun _ _ => rfl⟩
theorem zr_15_0 : zRs 15 0 2 16 := ⟨rfl, fun _ _ => rfl⟩
theorem zr_15_1 : zRs 15 1 2 17 := ⟨rfl, fun _ _ => rfl⟩
theorem zr_15_2 : zRs 15 2 2 18 := ⟨rfl, fun _ _ => rfl⟩
theorem zr_15_3 : zRs 15 3 2 19 := ⟨rfl, fun _ _ => rfl⟩
theorem zr_20_0 : zRs 20 0 3 21 := ⟨rfl, fun _ _ => rfl⟩
theorem zr_20_1 : zRs 20 1 3 22 := ⟨rfl, fun _ _ => rfl⟩
theorem zr_20_2 : zRs 20 2 3 23 := ⟨rfl, fun _ _ => rfl⟩
theorem zr_20_3 : zRs 20 3 3 24 := ⟨rfl, fun _ _ => rfl⟩
theorem zr_25_0 : zRs 25 0 0 26 := ⟨rfl, fun _ _ => rfl⟩
theorem zr_31_0 : zRs 31 0 1 32 := ⟨rfl, fun _ _ => rfl⟩
theorem zr_33_0 : zRs 33 0 1 34 := ⟨rfl, fun _ _ => rfl⟩
theorem zr_35_0 : zRs 35 0 1 36 := ⟨rfl, fun _ _ => rfl⟩
theorem zr_37_0 : zRs 37 0 1 38 := ⟨rfl, fun _ _ => rfl⟩
theorem zr_39_0 : zRs 39 0 6 40 := ⟨rfl, fun _ _ => rfl⟩
theorem zr_39_1 : zRs 39 1 6 41 := ⟨rfl, fun _ _ => rfl⟩
theorem zr_39_3 : zRs 39 3 6 42 := ⟨rfl, fun _ _ => rfl⟩
theorem zr_39_4 : zRs 39 4 6 43 := ⟨rfl, fun _ _ => rfl⟩
theorem zr_39_5 : zRs 39 5 6 44 := ⟨rfl, fun _ _ => rfl⟩
theorem zr_39_6 : zRs 39 6 6 45 := ⟨rfl, fun _ _ => rfl⟩
theorem zr_39_8 : zRs 39 8 6 46 := ⟨rfl, fun _ _ => rfl⟩
theorem zr_39_11 : zRs 39 11 6 47 := ⟨rfl, fun _ _ => rfl⟩
theorem zr_39_18 : zRs 39 18 6 48 := ⟨rfl, fun _ _ => rfl⟩
theorem zr_39_19 : zRs 39 19 6 49 := ⟨rfl, fun _ _ => rfl⟩
theorem zr_39_20 : zRs 39 20 6 50 := ⟨rfl, fun _ _ => rfl⟩
theorem zr_39_23 : zRs 39 23 6 51 := ⟨rfl, fun _ _ => rfl⟩
theorem zr_39_24 : zRs 39 24 6 52 := ⟨rfl, fun _ _ => rfl⟩
theorem zr_39_25 : zRs 39 25 6 53 := ⟨rfl, fun _ _ => rfl⟩
theorem zr_39_26 : zRs 39 26 6 54 := ⟨rfl, fun _ _ => rfl⟩
/-- the four sheets -/
def zSh (k : Nat) : Prop := k = 31 ∨ k = 33 ∨ k = 35 ∨ k = 37
theorem zSh_1 {k : Nat} (h : zSh k) : zIs k 1 1 := by rcases h with rfl | rfl | rfl | rfl <;> first | exact zi_31_1 | exact zi_33_1 | exact zi_35_1 | exact zi_37_1
theorem zSh_2 {k : Nat} (h : zSh k) : zIs k 2 1 := by rcases h with rfl | rfl | rfl | rfl <;> first | exact zi_31_2 | exact zi_33_2 | exact zi_35_2 | exact zi_37_2
theorem zSh_0 {k : Nat} (h : zSh k) : zRs k 0 1 (k + 1) := by rcases h with rfl | rfl | rfl | rfl <;> first | exact zr_31_0 | exact zr_33_0 | exact zr_35_0 | exact zr_37_0
theorem zSh_n {k : Nat} (h : zSh k) : zN (k + 1) = some 40 := by rcases h with rfl | rfl | rfl | rfl <;> rfl
theorem zSh_c {k : Nat} (h : zSh k) : zC k = some 1 := by rcases h with rfl | rfl | rfl | rfl <;> rfl
/-- the words that every method has: those of the tables that keep -/
def zT : List Cond := lw_tbl.filter goodWord
theorem zT_in {w : Cond} (i : Nat) (h : lw_tbl[i]? = some w) (hg : goodWord w = true) : w ∈ zT := List.mem_filter.mpr ⟨List.mem_of_getElem? h, hg⟩
theorem zT_tbl {w : Cond} (h : w ∈ zT) : w ∈ lw_tbl := (List.mem_filter.mp h).1
theorem zT_good {w : Cond} (h : w ∈ zT) : goodWord w = true := (List.mem_filter.mp h).2
theorem zT_all {ws : List Cond} (h : ∀ w ∈ ws, w ∈ zT) : GoodIn zT ws := fun w hw => ⟨h w hw, good_of_word (zT_good (h w hw))⟩
/-- the links among nest mates: they ride with the world -/
def zNest : List Cond := [Cond.methodLinkNest "MeanCoats" 9 ⟨"MeanCoats$Town", "<init>", "()V"⟩ "MeanCoats",
  Cond.fieldLinkNest "MeanCoats$Tailor" 80 "MeanCoats$Town" "pinned" "[I" "MeanCoats",
  Cond.fieldLinkNest "MeanCoats" 241 "MeanCoats$Town" "spots" "[I" "MeanCoats",
  Cond.fieldLinkNest "MeanCoats$Tailor" 28 "MeanCoats$Town" "bodies" "I" "MeanCoats",
  Cond.fieldLinkNest "MeanCoats$Reader" 25 "MeanCoats$Town" "bodies" "I" "MeanCoats",
  Cond.fieldLinkNest "MeanCoats" 69 "MeanCoats$Town" "bodies" "I" "MeanCoats",
  Cond.fieldLinkNest "MeanCoats" 96 "MeanCoats$Town" "here" "I" "MeanCoats",
  Cond.fieldLinkNest "MeanCoats" 99 "MeanCoats$Town" "rule" "I" "MeanCoats",
  Cond.fieldLinkNest "MeanCoats$Reader" 127 "MeanCoats$Town" "rule" "I" "MeanCoats",
  Cond.fieldLinkNest "MeanCoats" 102 "MeanCoats$Town" "ease" "I" "MeanCoats",
  Cond.fieldLinkNest "MeanCoats$Reader" 135 "MeanCoats$Town" "ease" "I" "MeanCoats",
  Cond.fieldLinkNest "MeanCoats$Tailor" 89 "MeanCoats$Town" "ease" "I" "MeanCoats",
  Cond.fieldLinkNest "MeanCoats" 105 "MeanCoats$Town" "price" "I" "MeanCoats",
  Cond.fieldLinkNest "MeanCoats$Reader" 137 "MeanCoats$Town" "price" "I" "MeanCoats",
  Cond.fieldLinkNest "MeanCoats" 194 "MeanCoats$Town" "springs" "I" "MeanCoats",
  Cond.fieldLinkNest "MeanCoats" 225 "MeanCoats$Town" "z" "I" "MeanCoats",
  Cond.methodLinkNest "MeanCoats" 21 ⟨"MeanCoats$Tailor", "<init>", "()V"⟩ "MeanCoats",
  Cond.fieldLinkNest "MeanCoats" 129 "MeanCoats$Tailor" "coat" "[I" "MeanCoats",
  Cond.methodLinkNest "MeanCoats" 28 ⟨"MeanCoats$Tape", "<init>", "()V"⟩ "MeanCoats",
  Cond.fieldLinkNest "MeanCoats" 228 "MeanCoats$Tape" "length" "I" "MeanCoats",
  Cond.methodLinkNest "MeanCoats" 35 ⟨"MeanCoats$Reader", "<init>", "()V"⟩ "MeanCoats",
  Cond.methodLinkNest "MeanCoats" 60 ⟨"MeanCoats$Sheet", "<init>", "()V"⟩ "MeanCoats",
  Cond.fieldLinkNest "MeanCoats" 266 "MeanCoats$Sheet" "numbers" "[I" "MeanCoats",
  Cond.fieldLinkNest "MeanCoats" 260 "MeanCoats$Sheet" "bits" "I" "MeanCoats",
  Cond.fieldLinkNest "MeanCoats" 254 "MeanCoats$Sheet" "length" "I" "MeanCoats",
  Cond.methodLinkNest "MeanCoats" 73 ⟨"MeanCoats$Town", "add", "(IIII)I"⟩ "MeanCoats",
  Cond.methodLinkNest "MeanCoats" 84 ⟨"MeanCoats$Town", "tell", "(II)I"⟩ "MeanCoats",
  Cond.methodLinkNest "MeanCoats$Town" 88 ⟨"MeanCoats", "isUnder", "(II)Z"⟩ "MeanCoats",
  Cond.methodLinkNest "MeanCoats$Town" 84 ⟨"MeanCoats", "holds", "(II)Z"⟩ "MeanCoats",
  Cond.methodLinkNest "MeanCoats" 88 ⟨"MeanCoats$Town", "mayBecome", "(II)Z"⟩ "MeanCoats",
  Cond.methodLinkNest "MeanCoats$Town" 73 ⟨"MeanCoats", "isKind", "(I)Z"⟩ "MeanCoats",
  Cond.methodLinkNest "MeanCoats$Town" 76 ⟨"MeanCoats", "within", "(III)Z"⟩ "MeanCoats",
  Cond.methodLinkNest "MeanCoats" 92 ⟨"MeanCoats$Town", "put", "(III)V"⟩ "MeanCoats",
  Cond.methodLinkNest "MeanCoats" 108 ⟨"MeanCoats$Town", "isHere", "(I)Z"⟩ "MeanCoats",
  Cond.methodLinkNest "MeanCoats" 111 ⟨"MeanCoats$Town", "inchesOf", "(II)I"⟩ "MeanCoats",
  Cond.methodLinkNest "MeanCoats" 119 ⟨"MeanCoats$Town", "setInches", "(III)V"⟩ "MeanCoats",
  Cond.methodLinkNest "MeanCoats" 132 ⟨"MeanCoats$Tailor", "measureAll", "(LMeanCoats$Town;)V"⟩ "MeanCoats",
  Cond.methodLinkNest "MeanCoats$Tailor" 31 ⟨"MeanCoats$Town", "timesOf", "(I)I"⟩ "MeanCoats",
  Cond.methodLinkNest "MeanCoats$Tailor" 35 ⟨"MeanCoats$Town", "measuredOf", "(II)I"⟩ "MeanCoats",
  Cond.methodLinkNest "MeanCoats" 219 ⟨"MeanCoats$Tailor", "cutAll", "(II)Z"⟩ "MeanCoats",
  Cond.methodLinkNest "MeanCoats$Tailor" 64 ⟨"MeanCoats", "holds", "(II)Z"⟩ "MeanCoats",
  Cond.methodLinkNest "MeanCoats" 136 ⟨"MeanCoats$Tailor", "sumOf", "(II)I"⟩ "MeanCoats",
  Cond.methodLinkNest "MeanCoats" 139 ⟨"MeanCoats$Tailor", "timesOf", "(I)I"⟩ "MeanCoats",
  Cond.methodLinkNest "MeanCoats" 145 ⟨"MeanCoats$Tailor", "costOf", "(LMeanCoats$Town;I)I"⟩ "MeanCoats",
  Cond.methodLinkNest "MeanCoats$Tailor" 68 ⟨"MeanCoats$Town", "inchesOf", "(II)I"⟩ "MeanCoats",
  Cond.methodLinkNest "MeanCoats" 149 ⟨"MeanCoats$Tailor", "fitting", "(LMeanCoats$Town;I)I"⟩ "MeanCoats",
  Cond.methodLinkNest "MeanCoats" 152 ⟨"MeanCoats$Tailor", "farOf", "(LMeanCoats$Town;I)I"⟩ "MeanCoats",
  Cond.methodLinkNest "MeanCoats" 155 ⟨"MeanCoats$Tailor", "farOfPair", "(LMeanCoats$Town;II)I"⟩ "MeanCoats",
  Cond.methodLinkNest "MeanCoats" 283 ⟨"MeanCoats$Tailor", "cutOne", "(III)I"⟩ "MeanCoats",
  Cond.methodLinkNest "MeanCoats" 175 ⟨"MeanCoats$Town", "bribesHere", "(I)Z"⟩ "MeanCoats",
  Cond.methodLinkNest "MeanCoats" 292 ⟨"MeanCoats$Town", "widthAtBribe", "(II)I"⟩ "MeanCoats",
  Cond.methodLinkNest "MeanCoats" 295 ⟨"MeanCoats$Tailor", "show", "(III)V"⟩ "MeanCoats",
  Cond.methodLinkNest "MeanCoats" 184 ⟨"MeanCoats$Town", "readBribes", "([I)V"⟩ "MeanCoats",
  Cond.methodLinkNest "MeanCoats" 191 ⟨"MeanCoats$Town", "writeBribes", "([I)V"⟩ "MeanCoats",
  Cond.methodLinkNest "MeanCoats" 197 ⟨"MeanCoats$Town", "addSpring", "([I)I"⟩ "MeanCoats",
  Cond.methodLinkNest "MeanCoats" 204 ⟨"MeanCoats$Town", "oldCoat", "(II)I"⟩ "MeanCoats",
  Cond.methodLinkNest "MeanCoats" 286 ⟨"MeanCoats$Town", "draw", "()I"⟩ "MeanCoats",
  Cond.methodLinkNest "MeanCoats" 289 ⟨"MeanCoats$Tailor", "slip", "(III)V"⟩ "MeanCoats",
  Cond.methodLinkNest "MeanCoats" 231 ⟨"MeanCoats$Tape", "add", "(I)V"⟩ "MeanCoats",
  Cond.methodLinkNest "MeanCoats" 234 ⟨"MeanCoats$Reader", "readItems", "(LMeanCoats$Tape;LMeanCoats$Town;Z)I"⟩ "MeanCoats",
  Cond.methodLinkNest "MeanCoats$Reader" 30 ⟨"MeanCoats$Tape", "split", "()V"⟩ "MeanCoats",
  Cond.methodLinkNest "MeanCoats$Tape" 42 ⟨"MeanCoats", "within", "(III)Z"⟩ "MeanCoats",
  Cond.methodLinkNest "MeanCoats$Reader" 64 ⟨"MeanCoats$Tape", "isWord", "(Ljava/lang/String;)Z"⟩ "MeanCoats",
  Cond.methodLinkNest "MeanCoats$Reader" 51 ⟨"MeanCoats$Tape", "moveOn", "()V"⟩ "MeanCoats",
  Cond.methodLinkNest "MeanCoats$Reader" 139 ⟨"MeanCoats$Tape", "numberWithin", "(II)I"⟩ "MeanCoats",
  Cond.methodLinkNest "MeanCoats$Reader" 47 ⟨"MeanCoats$Tape", "isSign", "(C)Z"⟩ "MeanCoats",
  Cond.methodLinkNest "MeanCoats$Reader" 109 ⟨"MeanCoats$Town", "add", "(IIII)I"⟩ "MeanCoats",
  Cond.methodLinkNest "MeanCoats$Reader" 113 ⟨"MeanCoats$Town", "put", "(III)V"⟩ "MeanCoats",
  Cond.methodLinkNest "MeanCoats$Reader" 39 ⟨"MeanCoats$Tape", "begin", "()I"⟩ "MeanCoats",
  Cond.methodLinkNest "MeanCoats$Reader" 43 ⟨"MeanCoats$Tape", "isEnd", "()Z"⟩ "MeanCoats",
  Cond.methodLinkNest "MeanCoats" 250 ⟨"MeanCoats$Sheet", "lay", "(II)V"⟩ "MeanCoats",
  Cond.methodLinkNest "MeanCoats" 255 ⟨"MeanCoats$Sheet", "isMissing", "()Z"⟩ "MeanCoats",
  Cond.methodLinkNest "MeanCoats" 258 ⟨"MeanCoats$Sheet", "put", "(II)V"⟩ "MeanCoats",
  Cond.methodLinkNest "MeanCoats" 263 ⟨"MeanCoats$Sheet", "has", "(II)Z"⟩ "MeanCoats",
  Cond.methodLinkNest "MeanCoats" 269 ⟨"MeanCoats$Sheet", "hasMeasures", "(I)Z"⟩ "MeanCoats",
  Cond.methodLinkNest "MeanCoats$Sheet" 26 ⟨"MeanCoats", "within", "(III)Z"⟩ "MeanCoats",
  Cond.methodLinkNest "MeanCoats" 272 ⟨"MeanCoats$Town", "become", "(LMeanCoats$Town;)V"⟩ "MeanCoats",
  Cond.methodLinkNest "MeanCoats" 275 ⟨"MeanCoats$Town", "spotsHeld", "()I"⟩ "MeanCoats"]
/-- the Strings' texts, and where each is named -/
def zStr : List (String × Nat × String × Nat) := [("MeanCoats$Reader", 85, "stretched", 1), ("MeanCoats$Reader", 87, "briber", 2), ("MeanCoats$Reader", 89, "twin", 3), ("MeanCoats$Reader", 91, "giant", 4), ("MeanCoats$Reader", 93, "thin", 5), ("MeanCoats$Reader", 95, "sly", 6), ("MeanCoats$Reader", 97, "body", 0), ("MeanCoats$Reader", 121, "bribe", 13), ("MeanCoats$Reader", 122, "pins", 14), ("MeanCoats$Reader", 62, "rule", 10), ("MeanCoats$Reader", 129, "mean", 7), ("MeanCoats$Reader", 131, "middle", 8), ("MeanCoats$Reader", 133, "most", 9), ("MeanCoats$Reader", 71, "ease", 11), ("MeanCoats$Reader", 76, "price", 12), ("MeanCoatsModel", 36, "body", 0), ("MeanCoatsModel", 38, "stretched", 1), ("MeanCoatsModel", 40, "briber", 2), ("MeanCoatsModel", 42, "twin", 3), ("MeanCoatsModel", 44, "giant", 4), ("MeanCoatsModel", 46, "thin", 5), ("MeanCoatsModel", 48, "sly", 6), ("MeanCoatsModel", 54, "mean", 7), ("MeanCoatsModel", 56, "middle", 8), ("MeanCoatsModel", 58, "most", 9), ("MeanCoatsModel", 275, "bribe", 13), ("MeanCoatsModel", 280, "pins", 14), ("MeanCoatsModel", 263, "rule", 10), ("MeanCoatsModel", 265, "ease", 11), ("MeanCoatsModel", 270, "price", 12)]
def zLen : List Nat := [4, 9, 6, 4, 5, 4, 3, 4, 6, 4, 4, 4, 5, 5, 4]
def zByt : List (List Int32) := [[98, 111, 100, 121], [115, 116, 114, 101, 116, 99, 104, 101, 100], [98, 114, 105, 98, 101, 114], [116, 119, 105, 110], [103, 105, 97, 110, 116], [116, 104, 105, 110], [115, 108, 121], [109, 101, 97, 110], [109, 105, 100, 100, 108, 101], [109, 111, 115, 116], [114, 117, 108, 101], [101, 97, 115, 101], [112, 114, 105, 99, 101], [98, 114, 105, 98, 101], [112, 105, 110, 115]]
def zKA (j : Nat) : Int32 := ([-1, 0, 0, 0, 1, 0, 2] : List Int32).getD j 0
set_option maxRecDepth 20000 in
theorem zcl_0 : ∀ w ∈ u_ws RX0 TX0 4, w ∈ zT := by
  have h : u_ws RX0 TX0 4 = ([253, 255, 257, 259] : List Nat).filterMap (fun i => lw_tbl[i]?) := by decide +kernel
  have hg : (u_ws RX0 TX0 4).all goodWord = true := by decide +kernel
  intro w hw
  refine List.mem_filter.mpr ⟨?_, List.all_eq_true.mp hg w hw⟩
  rw [h] at hw
  obtain ⟨i, -, hi⟩ := List.mem_filterMap.mp hw
  exact List.mem_of_getElem? hi
set_option maxRecDepth 20000 in
theorem zcl_1 : ∀ w ∈ u_ws RX1 TX1 3, w ∈ zT := by
  have h : u_ws RX1 TX1 3 = ([275, 277, 279] : List Nat).filterMap (fun i => lw_tbl[i]?) := by decide +kernel
  have hg : (u_ws RX1 TX1 3).all goodWord = true := by decide +kernel
  intro w hw
  refine List.mem_filter.mpr ⟨?_, List.all_eq_true.mp hg w hw⟩
  rw [h] at hw
  obtain ⟨i, -, hi⟩ := List.mem_filterMap.mp hw
  exact List.mem_of_getElem? hi
set_option maxRecDepth 20000 in
theorem zcl_2 : ∀ w ∈ u_ws RX2 TX2 5, w ∈ zT := by
  have h : u_ws RX2 TX2 5 = ([203, 205, 207, 209, 211] : List Nat).filterMap (fun i => lw_tbl[i]?) := by decide +kernel
  have hg : (u_ws RX2 TX2 5).all goodWord = true := by decide +kernel
  intro w hw
  refine List.mem_filter.mpr ⟨?_, List.all_eq_true.mp hg w hw⟩
  rw [h] at hw
  obtain ⟨i, -, hi⟩ := List.mem_filterMap.mp hw
  exact List.mem_of_getElem? hi
set_option maxRecDepth 20000 in
theorem zcl_3 : ∀ w ∈ u_ws RX3 TX3 7, w ∈ zT := by
  have h : u_ws RX3 TX3 7 = ([228, 230, 232, 234, 236, 238, 240] : List Nat).filterMap (fun i => lw_tbl[i]?) := by decide +kernel
  have hg : (u_ws RX3 TX3 7).all goodWord = true := by decide +kernel
  intro w hw
  refine List.mem_filter.mpr ⟨?_, List.all_eq_true.mp hg w hw⟩
  rw [h] at hw
  obtain ⟨i, -, hi⟩ := List.mem_filterMap.mp hw
  exact List.mem_of_getElem? hi
set_option maxRecDepth 20000 in
theorem zcl_4 : ∀ w ∈ u_ws RX4 TX4 13, w ∈ zT := by
  have h : u_ws RX4 TX4 13 = ([163, 165, 167, 169, 171, 173, 175, 177, 179, 181, 183, 185, 187] : List Nat).filterMap (fun i => lw_tbl[i]?) := by decide +kernel
  have hg : (u_ws RX4 TX4 13).all goodWord = true := by decide +kernel
  intro w hw
  refine List.mem_filter.mpr ⟨?_, List.all_eq_true.mp hg w hw⟩
  rw [h] at hw
  obtain ⟨i, -, hi⟩ := List.mem_filterMap.mp hw
  exact List.mem_of_getElem? hi
set_option maxRecDepth 20000 in
theorem zcl_5 : ∀ w ∈ u_ws RX5 TX5 10, w ∈ zT := by
  have h : u_ws RX5 TX5 10 = ([292, 294, 296, 298, 300, 302, 304, 306, 308, 310] : List Nat).filterMap (fun i => lw_tbl[i]?) := by decide +kernel
  have hg : (u_ws RX5 TX5 10).all goodWord = true := by decide +kernel
  intro w hw
  refine List.mem_filter.mpr ⟨?_, List.all_eq_true.mp hg w hw⟩
  rw [h] at hw
  obtain ⟨i, -, hi⟩ := List.mem_filterMap.mp hw
  exact List.mem_of_getElem? hi
set_option maxRecDepth 20000 in
theorem zcl_6 : ∀ w ∈ u_ws RX6 TX6 27, w ∈ zT := by
  have h : u_ws RX6 TX6 27 = ([979, 981, 983, 985, 987, 989, 991, 993, 995, 997, 999, 1001, 1003, 1005, 1007, 1009, 1011, 1013, 1015, 1017, 1019, 1021, 1023, 1025, 1027, 1029, 1031] : List Nat).filterMap (fun i => lw_tbl[i]?) := by decide +kernel
  have hg : (u_ws RX6 TX6 27).all goodWord = true := by decide +kernel
  intro w hw
  refine List.mem_filter.mpr ⟨?_, List.all_eq_true.mp hg w hw⟩
  rw [h] at hw
  obtain ⟨i, -, hi⟩ := List.mem_filterMap.mp hw
  exact List.mem_of_getElem? hi
end
section
/-! THE WALK, MADE SMALL: 'zG X u pc L st' says that the machine, at pc with the locals L and the stack st, the world being u, comes to its end. One rule an instruction. -/
/-- the free addresses of a method: the world's own -/
def zA (E : zE) : Nat → Prop := fun q => ∃ k, k < 55 ∧ q = zad E k
/-- what stays as it is beside the world: Strings, the static row, the nest mates' links -/
def zRo (E : zE) (A : Nat → Prop) (U : State) : Prop :=
  vk_S 15 zLen zByt (zaK E) E.2.2.2.2.1 A U U.heap ∧ (∀ q ∈ zStr, vk_R q.1 q.2.1 q.2.2.1 (zaK E q.2.2.2) U) ∧ (∀ w ∈ zNest, va_Nw w U) ∧
  va_Z "MeanCoats" "KIND_ABOVE" "[I" (.ref E.2.2.2.2.2) A U U.heap ∧ va_T .int E.2.2.2.2.2 7 (fun j => .int (zKA j)) A U U.heap ∧
  va_Z "java/lang/String" "COMPACT_STRINGS" "Z" (.int 1) A U U.heap ∧ va_Zq "jdk/internal/util/Preconditions" "SIOOBE_FORMATTER" "Ljava/util/function/BiFunction;" A U U.heap
theorem zNest_shape : zNest.all (fun w => match w with | .fieldLinkNest .. => true | .methodLinkNest .. => true | _ => false) = true := by decide +kernel
theorem zNest_warm {s U : State} (hW : s.WarmedH U.vm) {w : Cond} (hw : w ∈ zNest) (h : va_Nw w s) : va_Nw w U := by
  have hs := List.all_eq_true.mp zNest_shape w hw
  cases w <;> first | (cases hs; done) | exact va_Nw.warmF hW h | exact va_Nw.warmM hW h
theorem zNest_on {w : Cond} (hw : w ∈ zNest) : w.onTables = true := by
  have hs := List.all_eq_true.mp zNest_shape w hw
  cases w <;> first | (cases hs; done) | rfl
theorem zRo.go {E : zE} {A B : Nat → Prop} {s U : State} (hW : s.WarmedH U.vm) (hq : ∀ a : Nat, a < s.heap.size → ¬ A a → U.heap[a]? = s.heap[a]?) (hAB : ∀ q, B q → A q) (h : zRo E A s) : zRo E B U := by
  obtain ⟨h1, h2, h3, h4, h5, h6, h7⟩ := h
  exact ⟨((h1.moved hW.alike).kept hq).narrow hAB, fun q hq => (h2 q hq).warm hW, fun w hw => zNest_warm hW hw (h3 w hw), ((h4.moved hW.alike).kept hq).narrow hAB, ((h5.moved hW.alike).kept hq).narrow hAB, ((h6.moved hW.alike).kept hq).narrow hAB, ((h7.moved hW.alike).kept hq).narrow hAB⟩
theorem zRo.call {E : zE} {A : Nat → Prop} {U : State} {g : JFrame} {mk : MethodId} {a : Array Value} (h : zRo E A U) : zRo E A (U.calling g mk a) := by
  obtain ⟨h1, h2, h3, h4, h5, h6, h7⟩ := h
  exact ⟨vk_S.moved (u := U) (U := U.calling g mk a) (Vm.Alike.refl U.vm) h1, fun q hq => vk_R.same (u := U) (U := U.calling g mk a) rfl (h2 q hq), fun w hw => va_Nw.same (u := U) (U := U.calling g mk a) (zNest_on hw) rfl (h3 w hw), va_Z.moved (u := U) (U := U.calling g mk a) (Vm.Alike.refl U.vm) h4, va_T.moved (u := U) (U := U.calling g mk a) (Vm.Alike.refl U.vm) h5, va_Z.moved (u := U) (U := U.calling g mk a) (Vm.Alike.refl U.vm) h6, va_Zq.moved (u := U) (U := U.calling g mk a) (Vm.Alike.refl U.vm) h7⟩
abbrev zX : Type := zE × (Nat → Prop) × Program × Launch × Env × Room × State × MethodId × Array Value × List Frame × Method × Code × Nat × Nat × Nat × (State → Prop)
def zG : zX → zM → Nat → List (Nat × Value) → List Value → Prop
  | (E, A, p, l, e, R, s, m, args, below, meth, c, nL, cells, slots, Q), u, pc, L, st => ∀ (H : Heap) (locs : List Loc) (ls : Array Slot), va_P E.1 vwCl (zw E u) H → va_S A s.heap H locs → lv_has ls nL L → W p l e R s m args below meth c H locs cells slots Q (F0 m pc ls st)
def zGood : zX → String → ByteArray → Nat → Nat → Prop
  | (E, A, p, l, e, R, s, m, args, below, meth, c, nL, cells, slots, Q), own, cc, mL, d => p.tables.exec = Jvm.exec ∧ c.code = cc ∧ (c.maxLocals = nL ∧ nL = mL) ∧ s.vm.findClass own = some m.cls ∧ (∀ w ∈ zT, w.before args s = true) ∧
    va_K E.1 vwCl (zty E) s ∧ va_D A (zw E z0) ∧ zRo E A s ∧ d ≤ R.frames ∧ d * 48 ≤ R.locals ∧ cells ≤ R.cells ∧ slots ≤ R.slots
/-- the addresses alone count -/
theorem zw_D {E : zE} {A : Nat → Prop} (u v : zM) (h : va_D A (zw E u)) : va_D A (zw E v) := by
  have e : ∀ k : Nat, ((zw E u)[k]?).map (fun q : Nat × va_E => q.1) = ((zw E v)[k]?).map (fun q : Nat × va_E => q.1) := by
    intro k
    rw [← List.getElem?_map, ← List.getElem?_map]
    rfl
  refine ⟨fun i j p q hp hq hpq => ?_, fun k q hk => ?_⟩
  · have e1 := e i
    have e2 := e j
    rw [hp] at e1
    rw [hq] at e2
    cases h1 : (zw E u)[i]? with
    | none => rw [h1] at e1; cases e1
    | some a =>
      cases h2 : (zw E u)[j]? with
      | none => rw [h2] at e2; cases e2
      | some b =>
        rw [h1] at e1
        rw [h2] at e2
        have q1 : a.1 = p.1 := Option.some.inj e1
        have q2 : b.1 = q.1 := Option.some.inj e2
        exact h.1 i j a b h1 h2 (by rw [q1, q2, hpq])
  · have e1 := e k
    rw [hk] at e1
    cases h1 : (zw E u)[k]? with
    | none => rw [h1] at e1; cases e1
    | some a =>
      rw [h1] at e1
      have q1 : a.1 = q.1 := Option.some.inj e1
      rw [← q1]
      exact h.2 k a h1
theorem zA_le {E : zE} {A : Nat → Prop} (h : va_D A (zw E z0)) : ∀ q, zA E q → A q := by
  rintro q ⟨k, hk, rfl⟩
  have e : ((zw E z0)[k]?).map (fun q : Nat × va_E => q.1) = some (zad E k) := by
    rw [← List.getElem?_map]
    have hh : (zw E z0).map (fun q : Nat × va_E => q.1) = (List.range 55).map (zad E) := rfl
    rw [hh]
    simp [hk]
  cases h1 : (zw E z0)[k]? with
  | none => rw [h1] at e; cases e
  | some a =>
    rw [h1] at e
    have q1 : a.1 = zad E k := Option.some.inj e
    rw [← q1]
    exact h.2 k a h1
theorem zA_D {E : zE} {A : Nat → Prop} (h : va_D A (zw E z0)) : va_D (zA E) (zw E z0) := by
  refine ⟨h.1, fun k q hk => ?_⟩
  have e : ((zw E z0)[k]?).map (fun q : Nat × va_E => q.1) = some q.1 := by rw [hk]; rfl
  rw [← List.getElem?_map] at e
  have hh : (zw E z0).map (fun q : Nat × va_E => q.1) = (List.range 55).map (zad E) := rfl
  rw [hh, List.getElem?_map] at e
  by_cases hk5 : k < 55
  · rw [List.getElem?_range hk5] at e
    exact ⟨k, hk5, (Option.some.inj e).symm⟩
  · rw [List.getElem?_eq_none (by simp; omega)] at e
    cases e
/-- a method's start and end -/
def zPc (E : zE) (av : List Value) (u : zM) : Array Value → State → Prop := fun v U => v = av.toArray ∧ va_P E.1 vwCl (zw E u) U.heap ∧ va_K E.1 vwCl (zty E) U ∧ va_D (zA E) (zw E z0) ∧ zRo E (zA E) U
def zQc (E : zE) (r : Option Value) (u : zM) : Array Value → State → Outcome → State → Prop := fun _ st oc t => (oc = .returned r ∧ va_P E.1 vwCl (zw E u) t.heap) ∧ va_F (zA E) st t
def zRet : zX → Option FieldType → Option Value → zM → Prop
  | (E, A, p, l, e, R, s, m, args, below, meth, c, nL, cells, slots, Q), ret, r, u => Q = MQ below (zQc E r u) args s cells slots A ∧ A = zA E ∧ meth.sig.returnType = ret ∧ meth.locks = false
/-- A METHOD'S CONTRACT: of these arguments, in this world, this is the answer and this the world behind it; d: how deep it calls -/
def zCt (d : Nat) (y : MethodName) (b : ByteArray) (mL : Nat) (ret : Option FieldType) (av : zE → List Value) (u : zM) (r : zE → Option Value) (u' : zM) : Prop :=
  ∀ (l : Launch) (E : zE), Met l y (.code y b mL ret :: zT) { frames := d, cells := 0, slots := 0, locals := d * 48 } (zPc E (av E) u) (zQc E (r E) u') 0 0 (zA E)
theorem zPc_blind {E : zE} {av : List Value} {u : zM} : FrameBlind (zPc E av u) := by
  rintro a U g mk ⟨h1, h2, h3, h4, h5⟩
  exact ⟨h1, h2, va_K.moved (u := U) (U := U.calling g mk a) (Vm.Alike.refl U.vm) h3, h4, h5.call⟩
theorem zCt.of {d : Nat} {y : MethodName} {b : ByteArray} {mL : Nat} {ret : Option FieldType} {av : zE → List Value} {u : zM} {r : zE → Option Value} {u' : zM} (hy : plainName y.cls = true) (hsz : ∀ E, (lg_sl (av E)).length ≤ mL)
    (k : ∀ X : zX, zGood X y.cls b mL d → zRet X ret (r X.1) u' → zG X u 0 (lv_args 0 (av X.1)) []) : zCt d y b mL ret av u r u' := by
  intro l E
  refine Met.ofW (cc := b) (maxL := mL) (ret := ret) hy rfl ?_
  intro p e s m args below meth c s₁ B hml hv
  obtain ⟨rfl, hP, hK, hD, hRo⟩ := hv
  have hts := atoms_spec (ws := .code y b mL ret :: zT) B.pre
  have hl := lv_entry (av E) (n := mL) (hsz E)
  rw [lg_entry_eq]
  generalize (lg_sl (av E) ++ List.replicate (mL - (lg_sl (av E)).length) Slot.unset).toArray = ls at hl ⊢
  exact k (E, zA E, p, l, e, { frames := d, cells := 0, slots := 0, locals := d * 48 }, s, m, (av E).toArray, below, meth, c, mL, 0, 0, MQ below (zQc E (r E) u') (av E).toArray s 0 0 (zA E))
    ⟨B.exec, B.bytes, ⟨hml, rfl⟩, findClass_of_methodNamed B.named, fun w hw => hts w (List.mem_cons_of_mem _ hw), hK, hD, hRo, Nat.le_refl _, Nat.le_refl _, Nat.le_refl _, Nat.le_refl _⟩ ⟨rfl, rfl, B.returns, B.notSynchronized⟩ s.heap [] ls hP va_S.rf hl
section ZR
variable {X : zX} {own : String} {cc : ByteArray} {mL d : Nat} {u : zM} {pc : Nat} {L : List (Nat × Value)} {st : List Value}
theorem r_iconst {n : Int} {v : Int32} (hX : zGood X own cc mL d) (hd : decode cc pc = .ok (.iconst n, 1)) (hv : Int32.ofInt n = v) (k : zG X u (pc + 1) L (.int v :: st)) : zG X u pc L st := by
  obtain ⟨E, A, p, l, e, R, s, m, args, below, meth, c, nL, cells, slots, Q⟩ := X
  exact fun H locs ls hP hS hl => lv_iconst hX.1 hX.2.1 hd hv (k H locs ls hP hS hl)
theorem r_bipush {n : Int} {v : Int32} (hX : zGood X own cc mL d) (hd : decode cc pc = .ok (.bipush n, 2)) (hv : (Int8.ofInt n).toInt32 = v) (k : zG X u (pc + 2) L (.int v :: st)) : zG X u pc L st := by
  obtain ⟨E, A, p, l, e, R, s, m, args, below, meth, c, nL, cells, slots, Q⟩ := X
  exact fun H locs ls hP hS hl => lv_bipush hX.1 hX.2.1 hd hv (k H locs ls hP hS hl)
theorem r_sipush {n : Int} {v : Int32} (hX : zGood X own cc mL d) (hd : decode cc pc = .ok (.sipush n, 3)) (hv : (Int16.ofInt n).toInt32 = v) (k : zG X u (pc + 3) L (.int v :: st)) : zG X u pc L st := by
  obtain ⟨E, A, p, l, e, R, s, m, args, below, meth, c, nL, cells, slots, Q⟩ := X
  exact fun H locs ls hP hS hl => lv_sipush hX.1 hX.2.1 hd hv (k H locs ls hP hS hl)
theorem r_iload_n {j : Fin 4} {i : Nat} {x : Int32} (hX : zGood X own cc mL d) (hd : decode cc pc = .ok (.iload_n j, 1)) (q : Nat) (hi : (j : Nat) = i) (hq : L[q]? = some (i, .int x)) (k : zG X u (pc + 1) L (.int x :: st)) : zG X u pc L st := by
  obtain ⟨E, A, p, l, e, R, s, m, args, below, meth, c, nL, cells, slots, Q⟩ := X
  exact fun H locs ls hP hS hl => lv_iload_n hX.1 hX.2.1 hd hi (lv_at hl q hq) (k H locs ls hP hS hl)
theorem r_iload {i : Nat} {x : Int32} (hX : zGood X own cc mL d) (hd : decode cc pc = .ok (.iload i, 2)) (q : Nat) (hq : L[q]? = some (i, .int x)) (k : zG X u (pc + 2) L (.int x :: st)) : zG X u pc L st := by
  obtain ⟨E, A, p, l, e, R, s, m, args, below, meth, c, nL, cells, slots, Q⟩ := X
  exact fun H locs ls hP hS hl => lv_iload hX.1 hX.2.1 hd (lv_at hl q hq) (k H locs ls hP hS hl)
theorem r_aload_n {j : Fin 4} {i : Nat} {x : Nat} (hX : zGood X own cc mL d) (hd : decode cc pc = .ok (.aload_n j, 1)) (q : Nat) (hi : (j : Nat) = i) (hq : L[q]? = some (i, .ref x)) (k : zG X u (pc + 1) L (.ref x :: st)) : zG X u pc L st := by
  obtain ⟨E, A, p, l, e, R, s, m, args, below, meth, c, nL, cells, slots, Q⟩ := X
  exact fun H locs ls hP hS hl => lv_aload_n hX.1 hX.2.1 hd hi (lv_at hl q hq) (k H locs ls hP hS hl)
theorem r_istore_n {j : Fin 4} {i : Nat} {x y : Int32} {L' : List (Nat × Value)} (hX : zGood X own cc mL d) (hd : decode cc pc = .ok (.istore_n j, 1)) (hi : (j : Nat) = i) (hn : i < mL) (hxy : y = x) (hL : (i, Value.int y) :: L.filter (fun q => !(q.1 == i) && !(q.1 + 1 == i && q.2.category == 2)) = L')
    (k : zG X u (pc + 1) L' st) : zG X u pc L (.int x :: st) := by
  obtain ⟨E, A, p, l, e, R, s, m, args, below, meth, c, nL, cells, slots, Q⟩ := X
  subst hxy
  exact fun H locs ls hP hS hl => lv_istore_n hX.1 hX.2.1 hd hi hl (by rw [hX.2.2.1.2]; exact hn) hL (fun ls' hl' => k H locs ls' hP hS hl')
theorem r_istore {i : Nat} {x y : Int32} {L' : List (Nat × Value)} (hX : zGood X own cc mL d) (hd : decode cc pc = .ok (.istore i, 2)) (hn : i < mL) (hxy : y = x) (hL : (i, Value.int y) :: L.filter (fun q => !(q.1 == i) && !(q.1 + 1 == i && q.2.category == 2)) = L')
    (k : zG X u (pc + 2) L' st) : zG X u pc L (.int x :: st) := by
  obtain ⟨E, A, p, l, e, R, s, m, args, below, meth, c, nL, cells, slots, Q⟩ := X
  subst hxy
  exact fun H locs ls hP hS hl => lv_istore hX.1 hX.2.1 hd hl (by rw [hX.2.2.1.2]; exact hn) hL (fun ls' hl' => k H locs ls' hP hS hl')
theorem r_iinc {i : Nat} {n : Int} {x v : Int32} {L' : List (Nat × Value)} (hX : zGood X own cc mL d) (hd : decode cc pc = .ok (.iinc i n, 3)) (hn : i < mL) (q : Nat) (hq : L[q]? = some (i, .int x)) (hv : x + Int32.ofInt n = v) (hL : (i, Value.int v) :: L.filter (fun q => !(q.1 == i) && !(q.1 + 1 == i && q.2.category == 2)) = L')
    (k : zG X u (pc + 3) L' st) : zG X u pc L st := by
  obtain ⟨E, A, p, l, e, R, s, m, args, below, meth, c, nL, cells, slots, Q⟩ := X
  exact fun H locs ls hP hS hl => lv_iinc hX.1 hX.2.1 hd hl hq hv (by rw [hX.2.2.1.2]; exact hn) hL (fun ls' hl' => k H locs ls' hP hS hl')
theorem r_sub {L' : List (Nat × Value)} (ks : List Nat) (hL : lv_pick L ks = L') (k : zG X u pc L' st) : zG X u pc L st := by
  obtain ⟨E, A, p, l, e, R, s, m, args, below, meth, c, nL, cells, slots, Q⟩ := X
  exact fun H locs ls hP hS hl => k H locs ls hP hS (lv_sub hl ks hL)
theorem r_iadd {x y : Int32} (hX : zGood X own cc mL d) (hd : decode cc pc = .ok (.iadd, 1)) (k : zG X u (pc + 1) L (.int (x + y) :: st)) : zG X u pc L (.int y :: .int x :: st) := by
  obtain ⟨E, A, p, l, e, R, s, m, args, below, meth, c, nL, cells, slots, Q⟩ := X
  exact fun H locs ls hP hS hl => lv_iadd hX.1 hX.2.1 hd (k H locs ls hP hS hl)
theorem r_isub {x y : Int32} (hX : zGood X own cc mL d) (hd : decode cc pc = .ok (.isub, 1)) (k : zG X u (pc + 1) L (.int (x - y) :: st)) : zG X u pc L (.int y :: .int x :: st) := by
  obtain ⟨E, A, p, l, e, R, s, m, args, below, meth, c, nL, cells, slots, Q⟩ := X
  exact fun H locs ls hP hS hl => lv_isub hX.1 hX.2.1 hd (k H locs ls hP hS hl)
theorem r_imul {x y : Int32} (hX : zGood X own cc mL d) (hd : decode cc pc = .ok (.imul, 1)) (k : zG X u (pc + 1) L (.int (x * y) :: st)) : zG X u pc L (.int y :: .int x :: st) := by
  obtain ⟨E, A, p, l, e, R, s, m, args, below, meth, c, nL, cells, slots, Q⟩ := X
  exact fun H locs ls hP hS hl => lv_imul hX.1 hX.2.1 hd (k H locs ls hP hS hl)
theorem r_idiv {x y : Int32} (hX : zGood X own cc mL d) (hd : decode cc pc = .ok (.idiv, 1)) (hne : ¬ y = 0) (k : zG X u (pc + 1) L (.int (x / y) :: st)) : zG X u pc L (.int y :: .int x :: st) := by
  obtain ⟨E, A, p, l, e, R, s, m, args, below, meth, c, nL, cells, slots, Q⟩ := X
  exact fun H locs ls hP hS hl => lv_idiv hX.1 hX.2.1 hd hne (k H locs ls hP hS hl)
/-- the rest, as the machine has it -/
def zrem (x y : Int32) : Int32 := x - x / y * y
theorem r_irem {x y : Int32} (hX : zGood X own cc mL d) (hd : decode cc pc = .ok (.irem, 1)) (hne : ¬ y = 0) (k : zG X u (pc + 1) L (.int (zrem x y) :: st)) : zG X u pc L (.int y :: .int x :: st) := by
  obtain ⟨E, A, p, l, e, R, s, m, args, below, meth, c, nL, cells, slots, Q⟩ := X
  exact fun H locs ls hP hS hl => lv_irem hX.1 hX.2.1 hd hne (k H locs ls hP hS hl)
theorem r_ineg {x : Int32} (hX : zGood X own cc mL d) (hd : decode cc pc = .ok (.ineg, 1)) (k : zG X u (pc + 1) L (.int (-x) :: st)) : zG X u pc L (.int x :: st) := by
  obtain ⟨E, A, p, l, e, R, s, m, args, below, meth, c, nL, cells, slots, Q⟩ := X
  exact fun H locs ls hP hS hl => lv_ineg hX.1 hX.2.1 hd (k H locs ls hP hS hl)
theorem r_iand {x y : Int32} (hX : zGood X own cc mL d) (hd : decode cc pc = .ok (.iand, 1)) (k : zG X u (pc + 1) L (.int (x &&& y) :: st)) : zG X u pc L (.int y :: .int x :: st) := by
  obtain ⟨E, A, p, l, e, R, s, m, args, below, meth, c, nL, cells, slots, Q⟩ := X
  exact fun H locs ls hP hS hl => lv_iand hX.1 hX.2.1 hd (k H locs ls hP hS hl)
theorem r_ior {x y : Int32} (hX : zGood X own cc mL d) (hd : decode cc pc = .ok (.ior, 1)) (k : zG X u (pc + 1) L (.int (x ||| y) :: st)) : zG X u pc L (.int y :: .int x :: st) := by
  obtain ⟨E, A, p, l, e, R, s, m, args, below, meth, c, nL, cells, slots, Q⟩ := X
  exact fun H locs ls hP hS hl => lv_ior hX.1 hX.2.1 hd (k H locs ls hP hS hl)
theorem r_ixor {x y : Int32} (hX : zGood X own cc mL d) (hd : decode cc pc = .ok (.ixor, 1)) (k : zG X u (pc + 1) L (.int (x ^^^ y) :: st)) : zG X u pc L (.int y :: .int x :: st) := by
  obtain ⟨E, A, p, l, e, R, s, m, args, below, meth, c, nL, cells, slots, Q⟩ := X
  exact fun H locs ls hP hS hl => lv_ixor hX.1 hX.2.1 hd (k H locs ls hP hS hl)
def zshl (x y : Int32) : Int32 := x <<< (y &&& 31)
def zshr (x y : Int32) : Int32 := x >>> (y &&& 31)
def zushr (x y : Int32) : Int32 := (x.toUInt32 >>> (y.toUInt32 &&& Int32.toUInt32 31)).toInt32
theorem r_ishl {x y : Int32} (hX : zGood X own cc mL d) (hd : decode cc pc = .ok (.ishl, 1)) (k : zG X u (pc + 1) L (.int (zshl x y) :: st)) : zG X u pc L (.int y :: .int x :: st) := by
  obtain ⟨E, A, p, l, e, R, s, m, args, below, meth, c, nL, cells, slots, Q⟩ := X
  exact fun H locs ls hP hS hl => lv_ishl hX.1 hX.2.1 hd (k H locs ls hP hS hl)
theorem r_ishr {x y : Int32} (hX : zGood X own cc mL d) (hd : decode cc pc = .ok (.ishr, 1)) (k : zG X u (pc + 1) L (.int (zshr x y) :: st)) : zG X u pc L (.int y :: .int x :: st) := by
  obtain ⟨E, A, p, l, e, R, s, m, args, below, meth, c, nL, cells, slots, Q⟩ := X
  exact fun H locs ls hP hS hl => lv_ishr hX.1 hX.2.1 hd (k H locs ls hP hS hl)
theorem r_iushr {x y : Int32} (hX : zGood X own cc mL d) (hd : decode cc pc = .ok (.iushr, 1)) (k : zG X u (pc + 1) L (.int (zushr x y) :: st)) : zG X u pc L (.int y :: .int x :: st) := by
  obtain ⟨E, A, p, l, e, R, s, m, args, below, meth, c, nL, cells, slots, Q⟩ := X
  exact fun H locs ls hP hS hl => lv_iushr hX.1 hX.2.1 hd rfl (k H locs ls hP hS hl)
def zi2b (x : Int32) : Int32 := x.toInt8.toInt32
def zi2s (x : Int32) : Int32 := x.toInt16.toInt32
def zi2c (x : Int32) : Int32 := (x.toUInt32 % 65536).toInt32
theorem r_i2b {x : Int32} (hX : zGood X own cc mL d) (hd : decode cc pc = .ok (.i2b, 1)) (k : zG X u (pc + 1) L (.int (zi2b x) :: st)) : zG X u pc L (.int x :: st) := by
  obtain ⟨E, A, p, l, e, R, s, m, args, below, meth, c, nL, cells, slots, Q⟩ := X
  exact fun H locs ls hP hS hl => lv_i2b hX.1 hX.2.1 hd rfl (k H locs ls hP hS hl)
theorem r_i2s {x : Int32} (hX : zGood X own cc mL d) (hd : decode cc pc = .ok (.i2s, 1)) (k : zG X u (pc + 1) L (.int (zi2s x) :: st)) : zG X u pc L (.int x :: st) := by
  obtain ⟨E, A, p, l, e, R, s, m, args, below, meth, c, nL, cells, slots, Q⟩ := X
  exact fun H locs ls hP hS hl => lv_i2s hX.1 hX.2.1 hd rfl (k H locs ls hP hS hl)
theorem r_i2c {x : Int32} (hX : zGood X own cc mL d) (hd : decode cc pc = .ok (.i2c, 1)) (k : zG X u (pc + 1) L (.int (zi2c x) :: st)) : zG X u pc L (.int x :: st) := by
  obtain ⟨E, A, p, l, e, R, s, m, args, below, meth, c, nL, cells, slots, Q⟩ := X
  exact fun H locs ls hP hS hl => lv_i2c hX.1 hX.2.1 hd rfl (k H locs ls hP hS hl)
theorem r_i2l {x : Int32} (hX : zGood X own cc mL d) (hd : decode cc pc = .ok (.i2l, 1)) (k : zG X u (pc + 1) L (.long x.toInt64 :: st)) : zG X u pc L (.int x :: st) := by
  obtain ⟨E, A, p, l, e, R, s, m, args, below, meth, c, nL, cells, slots, Q⟩ := X
  exact fun H locs ls hP hS hl => lv_i2l hX.1 hX.2.1 hd rfl (k H locs ls hP hS hl)
theorem r_ladd {x y : Int64} (hX : zGood X own cc mL d) (hd : decode cc pc = .ok (.ladd, 1)) (k : zG X u (pc + 1) L (.long (x + y) :: st)) : zG X u pc L (.long y :: .long x :: st) := by
  obtain ⟨E, A, p, l, e, R, s, m, args, below, meth, c, nL, cells, slots, Q⟩ := X
  exact fun H locs ls hP hS hl => lv_ladd hX.1 hX.2.1 hd (k H locs ls hP hS hl)
theorem r_lcmp {x y : Int64} (hX : zGood X own cc mL d) (hd : decode cc pc = .ok (.lcmp, 1)) (k : zG X u (pc + 1) L (.int (lg_cmp x y) :: st)) : zG X u pc L (.long y :: .long x :: st) := by
  obtain ⟨E, A, p, l, e, R, s, m, args, below, meth, c, nL, cells, slots, Q⟩ := X
  exact fun H locs ls hP hS hl => W.lcmp hX.1 hX.2.1 hd (k H locs ls hP hS hl)
theorem r_dup {v : Value} (hX : zGood X own cc mL d) (hd : decode cc pc = .ok (.dup, 1)) (hv : v.category = 1) (k : zG X u (pc + 1) L (v :: v :: st)) : zG X u pc L (v :: st) := by
  obtain ⟨E, A, p, l, e, R, s, m, args, below, meth, c, nL, cells, slots, Q⟩ := X
  exact fun H locs ls hP hS hl => lv_dup hX.1 hX.2.1 hd hv (k H locs ls hP hS hl)
theorem r_dup2 {v w : Value} (hX : zGood X own cc mL d) (hd : decode cc pc = .ok (.dup2, 1)) (hv : v.category = 1) (hw : w.category = 1) (k : zG X u (pc + 1) L (v :: w :: v :: w :: st)) : zG X u pc L (v :: w :: st) := by
  obtain ⟨E, A, p, l, e, R, s, m, args, below, meth, c, nL, cells, slots, Q⟩ := X
  exact fun H locs ls hP hS hl => lv_dup2_11 hX.1 hX.2.1 hd hv hw (k H locs ls hP hS hl)
theorem r_pop {v : Value} (hX : zGood X own cc mL d) (hd : decode cc pc = .ok (.pop, 1)) (hv : v.category = 1) (k : zG X u (pc + 1) L st) : zG X u pc L (v :: st) := by
  obtain ⟨E, A, p, l, e, R, s, m, args, below, meth, c, nL, cells, slots, Q⟩ := X
  exact fun H locs ls hP hS hl => lv_pop hX.1 hX.2.1 hd hv (k H locs ls hP hS hl)
theorem r_goto {off : Int} {tgt : Nat} (hX : zGood X own cc mL d) (hd : decode cc pc = .ok (.goto off, 3)) (ht : (pc : Int) + off = (tgt : Int)) (k : zG X u tgt L st) : zG X u pc L st := by
  obtain ⟨E, A, p, l, e, R, s, m, args, below, meth, c, nL, cells, slots, Q⟩ := X
  exact fun H locs ls hP hS hl => lv_goto hX.1 hX.2.1 hd ht (k H locs ls hP hS hl)
theorem r_if_eq {x : Int32} {off : Int} {tgt : Nat} (hX : zGood X own cc mL d) (hd : decode cc pc = .ok (.ifCond .eq off, 3)) (ht : (pc : Int) + off = (tgt : Int)) (kt : x = 0 → zG X u tgt L st) (kf : ¬ x = 0 → zG X u (pc + 3) L st) : zG X u pc L (.int x :: st) := by
  obtain ⟨E, A, p, l, e, R, s, m, args, below, meth, c, nL, cells, slots, Q⟩ := X
  exact fun H locs ls hP hS hl => lv_if_eq hX.1 hX.2.1 hd ht (fun c => kt c H locs ls hP hS hl) (fun c => kf c H locs ls hP hS hl)
theorem r_icmp_eq {x y : Int32} {off : Int} {tgt : Nat} (hX : zGood X own cc mL d) (hd : decode cc pc = .ok (.if_icmp .eq off, 3)) (ht : (pc : Int) + off = (tgt : Int)) (kt : x = y → zG X u tgt L st) (kf : ¬ x = y → zG X u (pc + 3) L st) : zG X u pc L (.int y :: .int x :: st) := by
  obtain ⟨E, A, p, l, e, R, s, m, args, below, meth, c, nL, cells, slots, Q⟩ := X
  exact fun H locs ls hP hS hl => lv_icmp_eq hX.1 hX.2.1 hd ht (fun c => kt c H locs ls hP hS hl) (fun c => kf c H locs ls hP hS hl)
theorem r_if_ne {x : Int32} {off : Int} {tgt : Nat} (hX : zGood X own cc mL d) (hd : decode cc pc = .ok (.ifCond .ne off, 3)) (ht : (pc : Int) + off = (tgt : Int)) (kt : ¬ x = 0 → zG X u tgt L st) (kf : x = 0 → zG X u (pc + 3) L st) : zG X u pc L (.int x :: st) := by
  obtain ⟨E, A, p, l, e, R, s, m, args, below, meth, c, nL, cells, slots, Q⟩ := X
  exact fun H locs ls hP hS hl => lv_if_ne hX.1 hX.2.1 hd ht (fun c => kt c H locs ls hP hS hl) (fun c => kf c H locs ls hP hS hl)
theorem r_icmp_ne {x y : Int32} {off : Int} {tgt : Nat} (hX : zGood X own cc mL d) (hd : decode cc pc = .ok (.if_icmp .ne off, 3)) (ht : (pc : Int) + off = (tgt : Int)) (kt : ¬ x = y → zG X u tgt L st) (kf : x = y → zG X u (pc + 3) L st) : zG X u pc L (.int y :: .int x :: st) := by
  obtain ⟨E, A, p, l, e, R, s, m, args, below, meth, c, nL, cells, slots, Q⟩ := X
  exact fun H locs ls hP hS hl => lv_icmp_ne hX.1 hX.2.1 hd ht (fun c => kt c H locs ls hP hS hl) (fun c => kf c H locs ls hP hS hl)
theorem r_if_lt {x : Int32} {off : Int} {tgt : Nat} (hX : zGood X own cc mL d) (hd : decode cc pc = .ok (.ifCond .lt off, 3)) (ht : (pc : Int) + off = (tgt : Int)) (kt : x < 0 → zG X u tgt L st) (kf : ¬ x < 0 → zG X u (pc + 3) L st) : zG X u pc L (.int x :: st) := by
  obtain ⟨E, A, p, l, e, R, s, m, args, below, meth, c, nL, cells, slots, Q⟩ := X
  exact fun H locs ls hP hS hl => lv_if_lt hX.1 hX.2.1 hd ht (fun c => kt c H locs ls hP hS hl) (fun c => kf c H locs ls hP hS hl)
theorem r_icmp_lt {x y : Int32} {off : Int} {tgt : Nat} (hX : zGood X own cc mL d) (hd : decode cc pc = .ok (.if_icmp .lt off, 3)) (ht : (pc : Int) + off = (tgt : Int)) (kt : x < y → zG X u tgt L st) (kf : ¬ x < y → zG X u (pc + 3) L st) : zG X u pc L (.int y :: .int x :: st) := by
  obtain ⟨E, A, p, l, e, R, s, m, args, below, meth, c, nL, cells, slots, Q⟩ := X
  exact fun H locs ls hP hS hl => lv_icmp_lt hX.1 hX.2.1 hd ht (fun c => kt c H locs ls hP hS hl) (fun c => kf c H locs ls hP hS hl)
theorem r_if_ge {x : Int32} {off : Int} {tgt : Nat} (hX : zGood X own cc mL d) (hd : decode cc pc = .ok (.ifCond .ge off, 3)) (ht : (pc : Int) + off = (tgt : Int)) (kt : 0 ≤ x → zG X u tgt L st) (kf : ¬ 0 ≤ x → zG X u (pc + 3) L st) : zG X u pc L (.int x :: st) := by
  obtain ⟨E, A, p, l, e, R, s, m, args, below, meth, c, nL, cells, slots, Q⟩ := X
  exact fun H locs ls hP hS hl => lv_if_ge hX.1 hX.2.1 hd ht (fun c => kt c H locs ls hP hS hl) (fun c => kf c H locs ls hP hS hl)
theorem r_icmp_ge {x y : Int32} {off : Int} {tgt : Nat} (hX : zGood X own cc mL d) (hd : decode cc pc = .ok (.if_icmp .ge off, 3)) (ht : (pc : Int) + off = (tgt : Int)) (kt : y ≤ x → zG X u tgt L st) (kf : ¬ y ≤ x → zG X u (pc + 3) L st) : zG X u pc L (.int y :: .int x :: st) := by
  obtain ⟨E, A, p, l, e, R, s, m, args, below, meth, c, nL, cells, slots, Q⟩ := X
  exact fun H locs ls hP hS hl => lv_icmp_ge hX.1 hX.2.1 hd ht (fun c => kt c H locs ls hP hS hl) (fun c => kf c H locs ls hP hS hl)
theorem r_if_gt {x : Int32} {off : Int} {tgt : Nat} (hX : zGood X own cc mL d) (hd : decode cc pc = .ok (.ifCond .gt off, 3)) (ht : (pc : Int) + off = (tgt : Int)) (kt : 0 < x → zG X u tgt L st) (kf : ¬ 0 < x → zG X u (pc + 3) L st) : zG X u pc L (.int x :: st) := by
  obtain ⟨E, A, p, l, e, R, s, m, args, below, meth, c, nL, cells, slots, Q⟩ := X
  exact fun H locs ls hP hS hl => lv_if_gt hX.1 hX.2.1 hd ht (fun c => kt c H locs ls hP hS hl) (fun c => kf c H locs ls hP hS hl)
theorem r_icmp_gt {x y : Int32} {off : Int} {tgt : Nat} (hX : zGood X own cc mL d) (hd : decode cc pc = .ok (.if_icmp .gt off, 3)) (ht : (pc : Int) + off = (tgt : Int)) (kt : y < x → zG X u tgt L st) (kf : ¬ y < x → zG X u (pc + 3) L st) : zG X u pc L (.int y :: .int x :: st) := by
  obtain ⟨E, A, p, l, e, R, s, m, args, below, meth, c, nL, cells, slots, Q⟩ := X
  exact fun H locs ls hP hS hl => lv_icmp_gt hX.1 hX.2.1 hd ht (fun c => kt c H locs ls hP hS hl) (fun c => kf c H locs ls hP hS hl)
theorem r_if_le {x : Int32} {off : Int} {tgt : Nat} (hX : zGood X own cc mL d) (hd : decode cc pc = .ok (.ifCond .le off, 3)) (ht : (pc : Int) + off = (tgt : Int)) (kt : x ≤ 0 → zG X u tgt L st) (kf : ¬ x ≤ 0 → zG X u (pc + 3) L st) : zG X u pc L (.int x :: st) := by
  obtain ⟨E, A, p, l, e, R, s, m, args, below, meth, c, nL, cells, slots, Q⟩ := X
  exact fun H locs ls hP hS hl => lv_if_le hX.1 hX.2.1 hd ht (fun c => kt c H locs ls hP hS hl) (fun c => kf c H locs ls hP hS hl)
theorem r_icmp_le {x y : Int32} {off : Int} {tgt : Nat} (hX : zGood X own cc mL d) (hd : decode cc pc = .ok (.if_icmp .le off, 3)) (ht : (pc : Int) + off = (tgt : Int)) (kt : x ≤ y → zG X u tgt L st) (kf : ¬ x ≤ y → zG X u (pc + 3) L st) : zG X u pc L (.int y :: .int x :: st) := by
  obtain ⟨E, A, p, l, e, R, s, m, args, below, meth, c, nL, cells, slots, Q⟩ := X
  exact fun H locs ls hP hS hl => lv_icmp_le hX.1 hX.2.1 hd ht (fun c => kt c H locs ls hP hS hl) (fun c => kf c H locs ls hP hS hl)
/-- switches -/
theorem r_tsIn {dflt lo hi : Int} {offs : Array Int} {len : Nat} {x v : Int32} {off : Int} {tgt : Nat} (hX : zGood X own cc mL d) (hd : decode cc pc = .ok (.tableswitch dflt lo hi offs, len)) (hx : x = v) (h1 : ¬ v.toInt < lo) (h2 : ¬ hi < v.toInt) (ho : offs[(v.toInt - lo).toNat]? = some off) (ht : (pc : Int) + off = (tgt : Int)) (k : zG X u tgt L st) : zG X u pc L (.int x :: st) := by
  obtain ⟨E, A, p, l, e, R, s, m, args, below, meth, c, nL, cells, slots, Q⟩ := X
  subst hx
  exact fun H locs ls hP hS hl => lv_tableIn hX.1 hX.2.1 hd h1 h2 ho ht (k H locs ls hP hS hl)
theorem r_tsOut {dflt lo hi : Int} {offs : Array Int} {len : Nat} {x : Int32} {tgt : Nat} (hX : zGood X own cc mL d) (hd : decode cc pc = .ok (.tableswitch dflt lo hi offs, len)) (hx : x.toInt < lo ∨ hi < x.toInt) (ht : (pc : Int) + dflt = (tgt : Int)) (k : zG X u tgt L st) : zG X u pc L (.int x :: st) := by
  obtain ⟨E, A, p, l, e, R, s, m, args, below, meth, c, nL, cells, slots, Q⟩ := X
  exact fun H locs ls hP hS hl => lv_tableOut hX.1 hX.2.1 hd hx ht (k H locs ls hP hS hl)
theorem r_ls {dflt : Int} {ps : Array (Int × Int)} {len : Nat} {x : Int32} {off : Int} {tgt : Nat} (hX : zGood X own cc mL d) (hd : decode cc pc = .ok (.lookupswitch dflt ps, len)) (hp : (ps.toList.zip (ps.toList.drop 1)).all (fun (a, next) => a.1 < next.1) = true) (ho : Op.lookupswitch.offset ps.toList dflt x.toInt = off) (ht : (pc : Int) + off = (tgt : Int)) (k : zG X u tgt L st) : zG X u pc L (.int x :: st) := by
  obtain ⟨E, A, p, l, e, R, s, m, args, below, meth, c, nL, cells, slots, Q⟩ := X
  exact fun H locs ls hP hS hl => lv_lookup hX.1 hX.2.1 hd hp ho ht (k H locs ls hP hS hl)
/-- a number that is none of a row's: it lies beside the row -/
theorem zts_out (x : Int32) (lo : Int) (hlo : -2147483648 ≤ lo) : ∀ n : Nat, lo + n ≤ 2147483648 → (∀ k : Nat, k < n → ¬ x = Int32.ofInt (lo + k)) → x.toInt < lo ∨ lo + (n : Int) - 1 < x.toInt := by
  intro n hn h
  by_cases h1 : x.toInt < lo
  · exact Or.inl h1
  · refine Or.inr ?_
    by_cases h2 : lo + (n : Int) - 1 < x.toInt
    · exact h2
    · exfalso
      refine h (x.toInt - lo).toNat (by omega) ?_
      have e : lo + ((x.toInt - lo).toNat : Int) = x.toInt := by omega
      rw [e, Int32.ofInt_toInt]
/-- fields -/
def zLF (own : String) (idx ci j : Nat) : Prop := ∃ (C : String) (T : u_T) (N : Nat), vwCl[ci]? = some (C, T, N) ∧ j < N ∧ (∀ w ∈ u_ws C T N, w ∈ zT) ∧ (Cond.fieldLink own idx (T j).1 (T j).2.1 (T j).2.2.1 ∈ zT ∨ ∃ host, Cond.fieldLinkNest own idx (T j).1 (T j).2.1 (T j).2.2.1 host ∈ zNest)
def zLP (ci j : Nat) (ty : FieldType) : Prop := ∀ (C : String) (T : u_T) (N : Nat), vwCl[ci]? = some (C, T, N) → (T j).2.2.2 = false ∧ parseFieldDescriptor (T j).2.2.1 = some ty ∧ (∀ a, a < N → ∀ b, b < N → a ≠ b → (T a).2.1 ≠ (T b).2.1) ∧ ∃ ty0 : Nat → FieldType, ∀ k, k < N → parseFieldDescriptor (T k).2.2.1 = some (ty0 k)
theorem r_get {idx ci j q : Nat} {v : Value} (hX : zGood X own cc mL d) (hd : decode cc pc = .ok (.getfield idx, 3)) (hf : zLF own idx ci j) (hc : zC q = some ci) (hv : ∀ (E : zE) (r : Nat → Int32), E = X.1 → r = u q → (zfs E q r)[j]? = some v) (k : zG X u (pc + 3) L (v :: st)) : zG X u pc L (.ref (zad X.1 q) :: st) := by
  obtain ⟨E, A, p, l, e, R, s, m, args, below, meth, c, nL, cells, slots, Q⟩ := X
  obtain ⟨C, T, N, hC, hj, hin, hl0⟩ := hf
  intro H locs ls hP hS hl
  rcases hl0 with hl0 | ⟨host, hl0⟩
  · exact va_get hX.1 hX.2.1 hX.2.2.2.2.1 hin hX.2.2.2.1 hX.2.2.2.2.2.1 hP q (zw_obj E u q ci hc) hC j hj (hX.2.2.2.2.1 _ hl0) (fun _ h => h) (hv E (u q) rfl rfl) hd (k H locs ls hP hS hl)
  · exact va_getN hX.1 hX.2.1 hX.2.2.2.2.1 hin hX.2.2.2.1 hX.2.2.2.2.2.1 hP q (zw_obj E u q ci hc) hC j hj (va_Nw.use (zNest_on hl0) (hX.2.2.2.2.2.2.2.1.2.2.1 _ hl0)) (fun _ h => h) (hv E (u q) rfl rfl) hd (k H locs ls hP hS hl)
theorem r_getI {idx ci j q : Nat} (hX : zGood X own cc mL d) (hd : decode cc pc = .ok (.getfield idx, 3)) (hf : zLF own idx ci j) (hi : zIs q j ci) (k : zG X u (pc + 3) L (.int (u q j) :: st)) : zG X u pc L (.ref (zad X.1 q) :: st) :=
  r_get hX hd hf hi.1 (fun E r _ hr => by rw [hi.2.1 E r, hr]) k
theorem r_getR {idx ci j q t : Nat} (hX : zGood X own cc mL d) (hd : decode cc pc = .ok (.getfield idx, 3)) (hf : zLF own idx ci j) (hi : zRs q j ci t) (k : zG X u (pc + 3) L (.ref (zad X.1 t) :: st)) : zG X u pc L (.ref (zad X.1 q) :: st) :=
  r_get hX hd hf hi.1 (fun E r hE _ => by rw [hi.2 E r, hE]) k
theorem r_putV {idx ci j q : Nat} {ty : FieldType} {v : Int32} (hX : zGood X own cc mL d) (hd : decode cc pc = .ok (.putfield idx, 3)) (hf : zLF own idx ci j) (hp : zLP ci j ty) (hi : zIs q j ci) (hn : narrow ty (.int v) = .int v) (hfit : fits ty (.int v) = true) (k : zG X (zst u q j v) (pc + 3) L st) : zG X u pc L (.int v :: .ref (zad X.1 q) :: st) := by
  obtain ⟨E, A, p, l, e, R, s, m, args, below, meth, c, nL, cells, slots, Q⟩ := X
  obtain ⟨C, T, N, hC, hj, hin, hl0⟩ := hf
  obtain ⟨hfin, hty, hnm, ty0, hty0⟩ := hp C T N hC
  intro H locs ls hP hS hl
  have hD : va_D A (zw E u) := zw_D z0 u hX.2.2.2.2.2.2.1
  rcases hl0 with hl0 | ⟨host, hl0⟩
  · refine va_put hX.1 hX.2.1 hX.2.2.2.2.1 hin ty0 hty0 hnm hX.2.2.2.1 hX.2.2.2.2.2.1 hP hD hS q (zw_obj E u q ci hi.1) hC j hj (hX.2.2.2.2.1 _ hl0) (fun _ h => h) hfin hty hn hfit (hi.2.2.1 E (u q)) hd (fun H1 locs1 hP1 _ hS1 => k H1 locs1 ls ?_ hS1 hl)
    rw [hi.2.2.2 E u v] at hP1
    exact hP1
  · refine va_putN hX.1 hX.2.1 hX.2.2.2.2.1 hin ty0 hty0 hnm hX.2.2.2.1 hX.2.2.2.2.2.1 hP hD hS q (zw_obj E u q ci hi.1) hC j hj (va_Nw.use (zNest_on hl0) (hX.2.2.2.2.2.2.2.1.2.2.1 _ hl0)) (fun _ h => h) hfin hty hn hfit (hi.2.2.1 E (u q)) hd (fun H1 locs1 hP1 _ hS1 => k H1 locs1 ls ?_ hS1 hl)
    rw [hi.2.2.2 E u v] at hP1
    exact hP1
theorem r_putI {idx ci j q : Nat} {v : Int32} (hX : zGood X own cc mL d) (hd : decode cc pc = .ok (.putfield idx, 3)) (hf : zLF own idx ci j) (hp : zLP ci j .int) (hi : zIs q j ci) (k : zG X (zst u q j v) (pc + 3) L st) : zG X u pc L (.int v :: .ref (zad X.1 q) :: st) :=
  r_putV hX hd hf hp hi rfl rfl k
theorem r_putZ {idx ci j q : Nat} {v : Int32} (hX : zGood X own cc mL d) (hd : decode cc pc = .ok (.putfield idx, 3)) (hf : zLF own idx ci j) (hp : zLP ci j .boolean) (hi : zIs q j ci) (hv : v = 0 ∨ v = 1) (k : zG X (zst u q j v) (pc + 3) L st) : zG X u pc L (.int v :: .ref (zad X.1 q) :: st) := by
  refine r_putV hX hd hf hp hi ?_ ?_ k
  · rcases hv with rfl | rfl <;> rfl
  · rcases hv with rfl | rfl <;> rfl
/-- arrays of ints -/
def zld (u : zM) (q N : Nat) (i : Int32) : Option Int32 := if i < 0 ∨ N ≤ i.toNatClampNeg then none else some (u q i.toNatClampNeg)
def zsv (u : zM) (q N : Nat) (i v : Int32) : Option zM := if i < 0 ∨ N ≤ i.toNatClampNeg then none else some (zst u q i.toNatClampNeg v)
theorem zld_some {u : zM} {q N : Nat} {i v : Int32} (h : zld u q N i = some v) : vp_in i N ∧ v = u q i.toNatClampNeg := by
  unfold zld at h
  split at h
  · cases h
  · rename_i hn
    exact ⟨hn, (Option.some.inj h).symm⟩
theorem zsv_some {u u' : zM} {q N : Nat} {i v : Int32} (h : zsv u q N i v = some u') : vp_in i N ∧ u' = zst u q i.toNatClampNeg v := by
  unfold zsv at h
  split at h
  · cases h
  · rename_i hn
    exact ⟨hn, (Option.some.inj h).symm⟩
theorem r_iald {q N : Nat} {i v : Int32} (hX : zGood X own cc mL d) (hd : decode cc pc = .ok (.iaload, 1)) (hN : zN q = some N) (hv : zld u q N i = some v) (k : zG X u (pc + 1) L (.int v :: st)) : zG X u pc L (.int i :: .ref (zad X.1 q) :: st) := by
  obtain ⟨E, A, p, l, e, R, s, m, args, below, meth, c, nL, cells, slots, Q⟩ := X
  obtain ⟨hin, rfl⟩ := zld_some hv
  intro H locs ls hP hS hl
  exact va_iald hX.1 hX.2.1 hX.2.2.2.2.2.1 hP q 0 (zw_arr E u q N hN) rfl hin hd (k H locs ls hP hS hl)
theorem r_ialdC {q N j : Nat} {i : Int32} (hX : zGood X own cc mL d) (hd : decode cc pc = .ok (.iaload, 1)) (hN : zN q = some N) (hv : (decide (i < 0) = false ∧ i.toNatClampNeg = j) ∧ Nat.blt j N = true) (k : zG X u (pc + 1) L (.int (u q j) :: st)) : zG X u pc L (.int i :: .ref (zad X.1 q) :: st) := by
  obtain ⟨⟨h1, rfl⟩, h3⟩ := hv
  have h3 : i.toNatClampNeg < N := by simpa [Nat.blt_eq] using h3
  refine r_iald hX hd hN ?_ k
  unfold zld
  rw [if_neg (fun z => ?_)]
  rcases z with z | z
  · exact of_decide_eq_false h1 z
  · omega
theorem r_iast {q N : Nat} {i v : Int32} {u' : zM} (hX : zGood X own cc mL d) (hd : decode cc pc = .ok (.iastore, 1)) (hN : zN q = some N) (hv : zsv u q N i v = some u') (k : zG X u' (pc + 1) L st) : zG X u pc L (.int v :: .int i :: .ref (zad X.1 q) :: st) := by
  obtain ⟨E, A, p, l, e, R, s, m, args, below, meth, c, nL, cells, slots, Q⟩ := X
  obtain ⟨hin, rfl⟩ := zsv_some hv
  intro H locs ls hP hS hl
  have hD : va_D A (zw E u) := zw_D z0 u hX.2.2.2.2.2.2.1
  refine va_iast hX.1 hX.2.1 hX.2.2.2.2.2.1 hP hD hS q 0 (zw_arr E u q N hN) rfl hin hd (fun H1 locs1 hP1 _ hS1 => k H1 locs1 ls ?_ hS1 hl)
  rw [zw_set E u _ q N hN] at hP1
  exact hP1
theorem r_iastC {q N j : Nat} {i v : Int32} (hX : zGood X own cc mL d) (hd : decode cc pc = .ok (.iastore, 1)) (hN : zN q = some N) (hv : (decide (i < 0) = false ∧ i.toNatClampNeg = j) ∧ Nat.blt j N = true) (k : zG X (zst u q j v) (pc + 1) L st) : zG X u pc L (.int v :: .int i :: .ref (zad X.1 q) :: st) := by
  obtain ⟨⟨h1, rfl⟩, h3⟩ := hv
  have h3 : i.toNatClampNeg < N := by simpa [Nat.blt_eq] using h3
  refine r_iast hX hd hN ?_ k
  unfold zsv
  rw [if_neg (fun z => ?_)]
  rcases z with z | z
  · exact of_decide_eq_false h1 z
  · omega
theorem r_alen {q N : Nat} {v : Int32} (hX : zGood X own cc mL d) (hd : decode cc pc = .ok (.arraylength, 1)) (hN : zN q = some N) (hv : Int32.ofNat N = v) (k : zG X u (pc + 1) L (.int v :: st)) : zG X u pc L (.ref (zad X.1 q) :: st) := by
  obtain ⟨E, A, p, l, e, R, s, m, args, below, meth, c, nL, cells, slots, Q⟩ := X
  exact fun H locs ls hP hS hl => va_alen hX.1 hX.2.1 hX.2.2.2.2.2.1 hP q 0 (zw_arr E u q N hN) rfl hv hd (k H locs ls hP hS hl)
/-- the row of sheets -/
def zsheet (i : Int32) : Option Nat := if i < 0 ∨ 4 ≤ i.toNatClampNeg then none else some (31 + 2 * i.toNatClampNeg)
theorem zsheet_ok {i : Int32} {q : Nat} (h : zsheet i = some q) : vp_in i 4 ∧ q = 31 + 2 * i.toNatClampNeg ∧ zSh q := by
  unfold zsheet at h
  split at h
  · cases h
  · rename_i hn
    have e := (Option.some.inj h).symm
    refine ⟨hn, e, ?_⟩
    have hlt : i.toNatClampNeg < 4 := Nat.not_le.mp fun z => hn (Or.inr z)
    unfold zSh
    omega
theorem r_aldS {i : Int32} {q : Nat} (hX : zGood X own cc mL d) (hd : decode cc pc = .ok (.aaload, 1)) (hv : zsheet i = some q) (k : zG X u (pc + 1) L (.ref (zad X.1 q) :: st)) : zG X u pc L (.int i :: .ref (zad X.1 27) :: st) := by
  obtain ⟨E, A, p, l, e, R, s, m, args, below, meth, c, nL, cells, slots, Q⟩ := X
  obtain ⟨hin, rfl, -⟩ := zsheet_ok hv
  intro H locs ls hP hS hl
  exact va_aldq hX.1 hX.2.1 hX.2.2.2.2.2.1 hP 27 1 (show (zw E u)[27]? = some (zad E 27, .inl (E.2.1 1, 4, .inr (.inr (.inr (.inr (fun j => some (zad E (31 + 2 * j)))))))) from rfl) rfl hin hd (k H locs ls hP hS hl)
/-- the rows of Strings -/
def zsa (base n : Nat) (i : Int32) : Option Nat := if i < 0 ∨ n ≤ i.toNatClampNeg then none else some (base + i.toNatClampNeg)
theorem zsa_ok {base n : Nat} {i : Int32} {q : Nat} (h : zsa base n i = some q) : vp_in i n ∧ q = base + i.toNatClampNeg ∧ q < base + n := by
  unfold zsa at h
  split at h
  · cases h
  · rename_i hn
    have e := (Option.some.inj h).symm
    have hlt : i.toNatClampNeg < n := Nat.not_le.mp fun z => hn (Or.inr z)
    exact ⟨hn, e, by omega⟩
theorem r_aldK {i : Int32} {q : Nat} (hX : zGood X own cc mL d) (hd : decode cc pc = .ok (.aaload, 1)) (hv : zsa 0 7 i = some q) (k : zG X u (pc + 1) L (.ref (zaK X.1 q) :: st)) : zG X u pc L (.int i :: .ref (zad X.1 48) :: st) := by
  obtain ⟨E, A, p, l, e, R, s, m, args, below, meth, c, nL, cells, slots, Q⟩ := X
  obtain ⟨hin, rfl, -⟩ := zsa_ok hv
  intro H locs ls hP hS hl
  exact va_aldq hX.1 hX.2.1 hX.2.2.2.2.2.1 hP 48 2 (show (zw E u)[48]? = some (zad E 48, .inl (E.2.1 2, 7, .inr (.inr (.inr (.inr (fun j => some (zaK E (0 + j)))))))) from rfl) rfl hin hd (k H locs ls hP hS hl)
theorem r_aldR {i : Int32} {q : Nat} (hX : zGood X own cc mL d) (hd : decode cc pc = .ok (.aaload, 1)) (hv : zsa 7 3 i = some q) (k : zG X u (pc + 1) L (.ref (zaK X.1 q) :: st)) : zG X u pc L (.int i :: .ref (zad X.1 49) :: st) := by
  obtain ⟨E, A, p, l, e, R, s, m, args, below, meth, c, nL, cells, slots, Q⟩ := X
  obtain ⟨hin, rfl, -⟩ := zsa_ok hv
  intro H locs ls hP hS hl
  exact va_aldq hX.1 hX.2.1 hX.2.2.2.2.2.1 hP 49 2 (show (zw E u)[49]? = some (zad E 49, .inl (E.2.1 2, 3, .inr (.inr (.inr (.inr (fun j => some (zaK E (7 + j)))))))) from rfl) rfl hin hd (k H locs ls hP hS hl)
theorem r_alenK (hX : zGood X own cc mL d) (hd : decode cc pc = .ok (.arraylength, 1)) (k : zG X u (pc + 1) L (.int 7 :: st)) : zG X u pc L (.ref (zad X.1 48) :: st) := by
  obtain ⟨E, A, p, l, e, R, s, m, args, below, meth, c, nL, cells, slots, Q⟩ := X
  exact fun H locs ls hP hS hl => va_alen hX.1 hX.2.1 hX.2.2.2.2.2.1 hP 48 2 (show (zw E u)[48]? = some (zad E 48, .inl (E.2.1 2, 7, .inr (.inr (.inr (.inr (fun j => some (zaK E (0 + j)))))))) from rfl) rfl rfl hd (k H locs ls hP hS hl)
theorem r_alenR (hX : zGood X own cc mL d) (hd : decode cc pc = .ok (.arraylength, 1)) (k : zG X u (pc + 1) L (.int 3 :: st)) : zG X u pc L (.ref (zad X.1 49) :: st) := by
  obtain ⟨E, A, p, l, e, R, s, m, args, below, meth, c, nL, cells, slots, Q⟩ := X
  exact fun H locs ls hP hS hl => va_alen hX.1 hX.2.1 hX.2.2.2.2.2.1 hP 49 2 (show (zw E u)[49]? = some (zad E 49, .inl (E.2.1 2, 3, .inr (.inr (.inr (.inr (fun j => some (zaK E (7 + j)))))))) from rfl) rfl rfl hd (k H locs ls hP hS hl)
/-- constants, the static row, copies -/
theorem r_ldc {idx : Nat} {v : Int32} (hX : zGood X own cc mL d) (hd : decode cc pc = .ok (.ldc idx, 2)) (hw : Cond.constant own idx v ∈ zT) (k : zG X u (pc + 2) L (.int v :: st)) : zG X u pc L st := by
  obtain ⟨E, A, p, l, e, R, s, m, args, below, meth, c, nL, cells, slots, Q⟩ := X
  exact fun H locs ls hP hS hl => lv_ldc hX.1 hX.2.1 hX.2.2.2.1 (hX.2.2.2.2.1 _ hw) hd (k H locs ls hP hS hl)
theorem r_ldcw {idx : Nat} {v : Int32} (hX : zGood X own cc mL d) (hd : decode cc pc = .ok (.ldc_w idx, 3)) (hw : Cond.constant own idx v ∈ zT) (k : zG X u (pc + 3) L (.int v :: st)) : zG X u pc L st := by
  obtain ⟨E, A, p, l, e, R, s, m, args, below, meth, c, nL, cells, slots, Q⟩ := X
  exact fun H locs ls hP hS hl => lv_ldcw hX.1 hX.2.1 hX.2.2.2.1 (hX.2.2.2.2.1 _ hw) hd (k H locs ls hP hS hl)
theorem r_ldcS {idx q : Nat} {tx : String} (hX : zGood X own cc mL d) (hd : decode cc pc = .ok (.ldc idx, 2)) (hw : (own, idx, tx, q) ∈ zStr) (k : zG X u (pc + 2) L (.ref (zaK X.1 q) :: st)) : zG X u pc L st := by
  obtain ⟨E, A, p, l, e, R, s, m, args, below, meth, c, nL, cells, slots, Q⟩ := X
  exact fun H locs ls hP hS hl => va_ldcS hX.1 hX.2.1 hX.2.2.2.1 (hX.2.2.2.2.2.2.2.1.2.1 _ hw) hd (k H locs ls hP hS hl)
theorem r_gsK {idx : Nat} (hX : zGood X own cc mL d) (hd : decode cc pc = .ok (.getstatic idx, 3)) (hw : Cond.fieldLink own idx "MeanCoats" "KIND_ABOVE" "[I" ∈ zT) (k : zG X u (pc + 3) L (.ref X.1.2.2.2.2.2 :: st)) : zG X u pc L st := by
  obtain ⟨E, A, p, l, e, R, s, m, args, below, meth, c, nL, cells, slots, Q⟩ := X
  exact fun H locs ls hP hS hl => va_gets hX.1 hX.2.1 hX.2.2.2.2.2.2.2.1.2.2.2.1 hS hX.2.2.2.1 (hX.2.2.2.2.1 _ hw) (fun _ h => h) hd (k H locs ls hP hS hl)
def zka (i : Int32) : Option Int32 := if i < 0 ∨ 7 ≤ i.toNatClampNeg then none else some (zKA i.toNatClampNeg)
theorem r_aldA {i v : Int32} (hX : zGood X own cc mL d) (hd : decode cc pc = .ok (.iaload, 1)) (hv : zka i = some v) (k : zG X u (pc + 1) L (.int v :: st)) : zG X u pc L (.int i :: .ref X.1.2.2.2.2.2 :: st) := by
  obtain ⟨E, A, p, l, e, R, s, m, args, below, meth, c, nL, cells, slots, Q⟩ := X
  unfold zka at hv
  split at hv
  · cases hv
  · rename_i hn
    cases hv
    exact fun H locs ls hP hS hl => va_ti hX.1 hX.2.1 hX.2.2.2.2.2.2.2.1.2.2.2.2.1 hS hn rfl hd (k H locs ls hP hS hl)
def zcp (u : zM) (q0 n0 : Nat) (sp : Int32) (q1 n1 : Nat) (dp n : Int32) : Option zM :=
  if sp < 0 ∨ dp < 0 ∨ n < 0 ∨ n0 < sp.toNatClampNeg + n.toNatClampNeg ∨ n1 < dp.toNatClampNeg + n.toNatClampNeg then none else some (zup u q1 (va_cpy (u q0) (u q1) sp.toNatClampNeg dp.toNatClampNeg n.toNatClampNeg))
def zLA (own : String) (idx : Nat) : Prop := Cond.methodLink own idx arraycopyName ∈ zT ∧ Cond.native arraycopyName ∈ zT ∧ Cond.static arraycopyName ∈ zT ∧ Cond.initialized "java/lang/System" ∈ zT
theorem r_copy {idx q0 n0 q1 n1 : Nat} {sp dp n : Int32} {u' : zM} (hX : zGood X own cc mL d) (hd : decode cc pc = .ok (.invokestatic idx, 3)) (hw : zLA own idx) (h0 : zN q0 = some n0) (h1 : zN q1 = some n1) (hd1 : 1 ≤ d) (hst : (st.map fun v => v.category).sum ≤ 8) (hv : zcp u q0 n0 sp q1 n1 dp n = some u') (k : zG X u' (pc + 3) L st) :
    zG X u pc L (.int n :: .int dp :: .ref (zad X.1 q1) :: .int sp :: .ref (zad X.1 q0) :: st) := by
  obtain ⟨E, A, p, l, e, R, s, m, args, below, meth, c, nL, cells, slots, Q⟩ := X
  obtain ⟨w1, w2, w3, w4⟩ := hw
  unfold zcp at hv
  split at hv
  · cases hv
  · rename_i hn
    have hu := (Option.some.inj hv).symm
    subst hu
    have hD : va_D A (zw E u) := zw_D z0 u hX.2.2.2.2.2.2.1
    have hfr : d ≤ R.frames := hX.2.2.2.2.2.2.2.2.1
    have hlo : d * 48 ≤ R.locals := hX.2.2.2.2.2.2.2.2.2.1
    have hnw : nativeFrameWords "java/lang/System" "arraycopy" 5 + 11 ≤ 40 := by decide +kernel
    intro H locs ls hP hS hl
    refine va_copyi hX.1 hX.2.1 (by rw [hX.2.2.1.1]; exact hl.1.symm) hX.2.2.2.1 (hX.2.2.2.2.1 _ w1) (hX.2.2.2.2.1 _ w2) (hX.2.2.2.2.1 _ w3) (hX.2.2.2.2.1 _ w4) hX.2.2.2.2.2.1 hP hD hS q0 q1 0 0 (zw_arr E u q0 n0 h0) (zw_arr E u q1 n1 h1) (ty := .int) rfl rfl rfl
      (fun z => hn (Or.inl z)) (fun z => hn (Or.inr (Or.inl z))) (fun z => hn (Or.inr (Or.inr (Or.inl z)))) (Nat.not_lt.mp fun z => hn (Or.inr (Or.inr (Or.inr (Or.inl z))))) (Nat.not_lt.mp fun z => hn (Or.inr (Or.inr (Or.inr (Or.inr z))))) (fun _ _ => rfl) (by omega) (by omega) hd (fun H1 locs1 hP1 _ hS1 => k H1 locs1 ls ?_ hS1 hl)
    rw [zw_set E u _ q1 n1 h1] at hP1
    exact hP1
/-- Math -/
def zmax (x y : Int32) : Int32 := if x < y then y else x
def zmin (x y : Int32) : Int32 := if y < x then y else x
def zabs (x : Int32) : Int32 := if 0 ≤ x then x else 0 - x
def zLM (own : String) (idx : Nat) (y : MethodName) (b : ByteArray) (n : Nat) : Prop := Cond.methodLink own idx y ∈ zT ∧ Cond.static y ∈ zT ∧ Cond.initialized "java/lang/Math" ∈ zT ∧ Cond.code y b n (some .int) ∈ zT
theorem r_max {idx : Nat} {x y : Int32} (hX : zGood X own cc mL d) (hd : decode cc pc = .ok (.invokestatic idx, 3)) (hw : zLM own idx Lib.Math.max.name Lib.Math.max.code 2) (hd1 : 1 ≤ d) (hst : (st.map fun v => v.category).sum ≤ 8) (k : zG X u (pc + 3) L (.int (zmax x y) :: st)) : zG X u pc L (.int y :: .int x :: st) := by
  obtain ⟨E, A, p, l, e, R, s, m, args, below, meth, c, nL, cells, slots, Q⟩ := X
  obtain ⟨w1, w2, w3, w4⟩ := hw
  have hfr : d ≤ R.frames := hX.2.2.2.2.2.2.2.2.1
  have hlo : d * 48 ≤ R.locals := hX.2.2.2.2.2.2.2.2.2.1
  exact fun H locs ls hP hS hl => va_mmax hX.1 hX.2.1 (by rw [hX.2.2.1.1]; exact hl.1.symm) hX.2.2.2.1 (hX.2.2.2.2.1 _ w1) (hX.2.2.2.2.1 _ w2) (hX.2.2.2.2.1 _ w3) (hX.2.2.2.2.1 _ w4) (by omega) (by omega) hX.2.2.2.2.2.2.2.2.2.2.1 hX.2.2.2.2.2.2.2.2.2.2.2 hd (k H locs ls hP hS hl)
theorem r_min {idx : Nat} {x y : Int32} (hX : zGood X own cc mL d) (hd : decode cc pc = .ok (.invokestatic idx, 3)) (hw : zLM own idx Lib.Math.min.name Lib.Math.min.code 2) (hd1 : 1 ≤ d) (hst : (st.map fun v => v.category).sum ≤ 8) (k : zG X u (pc + 3) L (.int (zmin x y) :: st)) : zG X u pc L (.int y :: .int x :: st) := by
  obtain ⟨E, A, p, l, e, R, s, m, args, below, meth, c, nL, cells, slots, Q⟩ := X
  obtain ⟨w1, w2, w3, w4⟩ := hw
  have hfr : d ≤ R.frames := hX.2.2.2.2.2.2.2.2.1
  have hlo : d * 48 ≤ R.locals := hX.2.2.2.2.2.2.2.2.2.1
  exact fun H locs ls hP hS hl => va_mmin hX.1 hX.2.1 (by rw [hX.2.2.1.1]; exact hl.1.symm) hX.2.2.2.1 (hX.2.2.2.2.1 _ w1) (hX.2.2.2.2.1 _ w2) (hX.2.2.2.2.1 _ w3) (hX.2.2.2.2.1 _ w4) (by omega) (by omega) hX.2.2.2.2.2.2.2.2.2.2.1 hX.2.2.2.2.2.2.2.2.2.2.2 hd (k H locs ls hP hS hl)
theorem r_abs {idx : Nat} {x : Int32} (hX : zGood X own cc mL d) (hd : decode cc pc = .ok (.invokestatic idx, 3)) (hw : zLM own idx Lib.Math.abs.name Lib.Math.abs.code 1) (hd1 : 1 ≤ d) (hst : (st.map fun v => v.category).sum ≤ 8) (k : zG X u (pc + 3) L (.int (zabs x) :: st)) : zG X u pc L (.int x :: st) := by
  obtain ⟨E, A, p, l, e, R, s, m, args, below, meth, c, nL, cells, slots, Q⟩ := X
  obtain ⟨w1, w2, w3, w4⟩ := hw
  have hfr : d ≤ R.frames := hX.2.2.2.2.2.2.2.2.1
  have hlo : d * 48 ≤ R.locals := hX.2.2.2.2.2.2.2.2.2.1
  exact fun H locs ls hP hS hl => va_mabs hX.1 hX.2.1 (by rw [hX.2.2.1.1]; exact hl.1.symm) hX.2.2.2.1 (hX.2.2.2.2.1 _ w1) (hX.2.2.2.2.1 _ w2) (hX.2.2.2.2.1 _ w3) (hX.2.2.2.2.1 _ w4) (by omega) (by omega) hX.2.2.2.2.2.2.2.2.2.2.1 hX.2.2.2.2.2.2.2.2.2.2.2 hd (k H locs ls hP hS hl)
end ZR
end
section
/-! CALLS AND ENDS -/
section ZC
variable {X : zX} {own : String} {cc : ByteArray} {mL d : Nat} {u : zM} {pc : Nat} {L : List (Nat × Value)} {st : List Value}
/-- what a call needs beside the contract: the words that link it -/
def zLk (own : String) (idx : Nat) (y : MethodName) : Prop := Cond.methodLink own idx y ∈ zT ∨ ∃ host, Cond.methodLinkNest own idx y host ∈ zNest
def zLV (own : String) (idx : Nat) (y : MethodName) (b : ByteArray) (m : Nat) (ret : Option FieldType) (n : Nat) : Prop :=
  zLk own idx y ∧ Cond.code y b m ret ∈ zT ∧ Cond.initialized y.cls ∈ zT ∧ (y.cls ≠ "java/lang/invoke/MethodHandle" ∧ y.cls ≠ "java/lang/invoke/VarHandle" ∧ (parseMethodDescriptor y.desc).map (fun d => d.parameters.length) = some n) ∧ Cond.instanceMethod y ∈ zT ∧ Cond.selects y.cls y y ∈ zT
def zLS (own : String) (idx : Nat) (y : MethodName) (b : ByteArray) (m : Nat) (ret : Option FieldType) (n : Nat) : Prop :=
  zLk own idx y ∧ Cond.code y b m ret ∈ zT ∧ Cond.initialized y.cls ∈ zT ∧ (y.cls ≠ "java/lang/invoke/MethodHandle" ∧ y.cls ≠ "java/lang/invoke/VarHandle" ∧ (parseMethodDescriptor y.desc).map (fun d => d.parameters.length) = some n) ∧ Cond.static y ∈ zT
theorem zws_good {y : MethodName} {b : ByteArray} {m : Nat} {ret : Option FieldType} (h : Cond.code y b m ret ∈ zT) : GoodIn zT (.code y b m ret :: zT) := zT_all (fun w hw => by
  rcases List.mem_cons.mp hw with rfl | hw
  · exact h
  · exact hw)
section ZCW
variable {p : Program} {l : Launch} {e : Env} {R : Room} {s : State} {m : MethodId} {args : Array Value} {below : List Frame} {meth : Method} {c : Code} {H : Heap} {locs : List Loc} {cells slots : Nat} {Q : State → Prop}
theorem z_call {E : zE} {A : Nat → Prop} {r : Option Value} {u' : zM} {a : Array Value} {ls : Array Slot} {st0 rest : List Value} (hr : va_Run p l e R s m args below meth c H locs cells slots 0 0 (F0 m pc ls st0) rest (zQc E r u' a) (zA E)) (hS : va_S A s.heap H locs) (hAA : ∀ q, zA E q → A q)
    (kk : ∀ (H1 : Heap) (locs1 : List Loc), va_P E.1 vwCl (zw E u') H1 → va_S A s.heap H1 locs1 → W p l e R s m args below meth c H1 locs1 cells slots Q (F0 m (pc + 3) ls (r.toList ++ rest))) : W p l e R s m args below meth c H locs cells slots Q (F0 m pc ls st0) := by
  intro T hT X
  obtain ⟨v, st₀, t, T', L, h0, X', hL, e1, e2, ⟨⟨hv, hP1⟩, hz, hk⟩, stp⟩ := hr T hT X
  cases hv
  rw [h0] at hz hk
  obtain ⟨t2, a1, b1⟩ := kk T'.heap (locs ++ L) (by rw [e1]; exact hP1)
    ⟨Nat.le_trans hS.1 (by rw [e1]; exact hz), fun q h1 h2 => by rw [e1, hk q (Nat.lt_of_lt_of_le h1 hS.1) (fun z => h2 (hAA q z))]; exact hS.2.1 q h1 h2, fun q hq => by
      rcases List.mem_append.mp hq with h | h
      · exact hS.2.2 q h
      · exact hAA _ (hL q h)⟩ T' rfl X'
  exact ⟨t2, stp t2 a1, b1⟩
end ZCW
/-- who may be called: an object of the world, or a String -/
def zRecv (E : zE) (C : String) (a : Nat) : Prop := (∃ q ci T N, a = zad E q ∧ zC q = some ci ∧ vwCl[ci]? = some (C, T, N)) ∨ (∃ q, q < 15 ∧ a = zaK E q ∧ C = "java/lang/String")
theorem zRecv.of {E : zE} {C : String} {q ci : Nat} {T : u_T} {N : Nat} (h1 : zC q = some ci) (h2 : vwCl[ci]? = some (C, T, N)) : zRecv E C (zad E q) := Or.inl ⟨q, ci, T, N, rfl, h1, h2⟩
theorem r_callV {idx n d' m' a : Nat} {y : MethodName} {b : ByteArray} {ret : Option FieldType} {av : zE → List Value} {r : zE → Option Value} {u' : zM} {st0 rest st1 : List Value} {As : List Value} (hX : zGood X own cc mL d) (hd : decode cc pc = .ok (.invokevirtual idx, 3)) (hw : zLV own idx y b m' ret n) (hC : zCt d' y b m' ret av u r u')
    (hdd : d' + 1 ≤ d ∧ m' ≤ 29) (hav : av X.1 = .ref a :: As) (hn : As.length = n) (hrv : zRecv X.1 y.cls a) (hst0 : st0 = As.reverse ++ .ref a :: rest) (hst : (rest.map fun v => v.category).sum ≤ 8) (hst1 : (r X.1).toList ++ rest = st1) (k : zG X u' (pc + 3) L st1) : zG X u pc L st0 := by
  obtain ⟨E, A, p, l, e, R, s, m, args, below, meth, c, nL, cells, slots, Q⟩ := X
  obtain ⟨hlk, hcode, hini, hdesc, hinst, hsel⟩ := hw
  have hts := hX.2.2.2.2.1
  have hK : va_K E.1 vwCl (zty E) s := hX.2.2.2.2.2.1
  have hD : va_D A (zw E z0) := hX.2.2.2.2.2.2.1
  have hRo : zRo E A s := hX.2.2.2.2.2.2.2.1
  have hfr : d ≤ R.frames := hX.2.2.2.2.2.2.2.2.1
  have hlo : d * 48 ≤ R.locals := hX.2.2.2.2.2.2.2.2.2.1
  have hce : cells ≤ R.cells := hX.2.2.2.2.2.2.2.2.2.2.1
  have hsl : slots ≤ R.slots := hX.2.2.2.2.2.2.2.2.2.2.2
  subst hst0
  intro H locs ls hP hS hl
  have hM : Met l y (.code y b m' ret :: zT) { frames := d', cells := 0, slots := 0, locals := d' * 48 } (zPc E (.ref a :: As) u) (zQc E (r E) u') 0 0 (zA E) := by
    have := hC l E
    rw [show av E = .ref a :: As from hav] at this
    exact this
  have hrec : ∃ cellB : Cell, H[a]? = some cellB ∧ cellB.vm.isStatics = false ∧ s.vm.findClass y.cls = some cellB.cls := by
    rcases hrv with ⟨q, ci, T, N, rfl, hc, hcl⟩ | ⟨q, hq, rfl, hcl⟩
    · exact va_recv hK hP hcl (zw_obj E u q ci hc)
    · rw [hcl]
      exact vk_recv hRo.1 hq hS
  have hp : PreV s H y.cls a (zPc E (.ref a :: As) u) As := ⟨zPc_blind, hrec, fun U hU hW => ⟨rfl, by rw [hU]; exact hP, va_K.moved hW.alike hK, zA_D hD, hRo.go hW (by rw [hU]; exact hS.2.1) (zA_le hD)⟩⟩
  have hRm : d' + 1 ≤ R.frames ∧ 8 + (m' + 11) + d' * 48 ≤ R.locals := ⟨by omega, by omega⟩
  have kk : ∀ (H1 : Heap) (locs1 : List Loc), va_P E.1 vwCl (zw E u') H1 → va_S A s.heap H1 locs1 → W p l e R s m args below meth c H1 locs1 cells slots Q (F0 m (pc + 3) ls ((r E).toList ++ rest)) := fun H1 locs1 h1 h2 => by
    rw [show (r E).toList ++ rest = st1 from hst1]
    exact k H1 locs1 ls h1 h2 hl
  rcases hlk with hlk | ⟨host, hlk⟩
  · exact z_call (va_runV (As := As) (rest := rest) ⟨hX.1, hX.2.1, hX.2.2.1.1, hX.2.2.2.1, hts⟩ hM ⟨callB_of n hts (zws_good hcode) rfl rfl rfl (hts _ hini) (hts _ hlk) hdesc hRm, hts _ hinst, hts _ hsel⟩ hp rfl hn hl.1 rfl (lv_room hst) hd ⟨hce, hsl⟩) hS (zA_le hD) kk
  · exact z_call (va_runVN (As := As) (rest := rest) ⟨hX.1, hX.2.1, hX.2.2.1.1, hX.2.2.2.1, hts⟩ hM ⟨va_cnB n hts (zws_good hcode) rfl rfl rfl (hRo.2.2.1 _ hlk) (hts _ hini) hdesc hRm, hts _ hinst, hts _ hsel⟩ hp rfl hn hl.1 rfl (lv_room hst) hd ⟨hce, hsl⟩) hS (zA_le hD) kk
theorem r_callS {idx n d' m' : Nat} {y : MethodName} {b : ByteArray} {ret : Option FieldType} {av : zE → List Value} {r : zE → Option Value} {u' : zM} {st0 rest st1 : List Value} {As : List Value} (hX : zGood X own cc mL d) (hd : decode cc pc = .ok (.invokestatic idx, 3)) (hw : zLS own idx y b m' ret n) (hC : zCt d' y b m' ret av u r u')
    (hdd : d' + 1 ≤ d ∧ m' ≤ 29) (hav : av X.1 = As) (hn : As.length = n) (hst0 : st0 = As.reverse ++ rest) (hst : (rest.map fun v => v.category).sum ≤ 8) (hst1 : (r X.1).toList ++ rest = st1) (k : zG X u' (pc + 3) L st1) : zG X u pc L st0 := by
  obtain ⟨E, A, p, l, e, R, s, m, args, below, meth, c, nL, cells, slots, Q⟩ := X
  obtain ⟨hlk, hcode, hini, hdesc, hstat⟩ := hw
  have hts := hX.2.2.2.2.1
  have hK : va_K E.1 vwCl (zty E) s := hX.2.2.2.2.2.1
  have hD : va_D A (zw E z0) := hX.2.2.2.2.2.2.1
  have hRo : zRo E A s := hX.2.2.2.2.2.2.2.1
  have hfr : d ≤ R.frames := hX.2.2.2.2.2.2.2.2.1
  have hlo : d * 48 ≤ R.locals := hX.2.2.2.2.2.2.2.2.2.1
  have hce : cells ≤ R.cells := hX.2.2.2.2.2.2.2.2.2.2.1
  have hsl : slots ≤ R.slots := hX.2.2.2.2.2.2.2.2.2.2.2
  subst hst0
  intro H locs ls hP hS hl
  have hM : Met l y (.code y b m' ret :: zT) { frames := d', cells := 0, slots := 0, locals := d' * 48 } (zPc E As u) (zQc E (r E) u') 0 0 (zA E) := by
    have := hC l E
    rw [show av E = As from hav] at this
    exact this
  have hp : PreS s H (zPc E As u) As := ⟨zPc_blind, fun U hU hW => ⟨rfl, by rw [hU]; exact hP, va_K.moved hW.alike hK, zA_D hD, hRo.go hW (by rw [hU]; exact hS.2.1) (zA_le hD)⟩⟩
  have hRm : d' + 1 ≤ R.frames ∧ 8 + (m' + 11) + d' * 48 ≤ R.locals := ⟨by omega, by omega⟩
  have kk : ∀ (H1 : Heap) (locs1 : List Loc), va_P E.1 vwCl (zw E u') H1 → va_S A s.heap H1 locs1 → W p l e R s m args below meth c H1 locs1 cells slots Q (F0 m (pc + 3) ls ((r E).toList ++ rest)) := fun H1 locs1 h1 h2 => by
    rw [show (r E).toList ++ rest = st1 from hst1]
    exact k H1 locs1 ls h1 h2 hl
  rcases hlk with hlk | ⟨host, hlk⟩
  · exact z_call (va_runS (As := As) (rest := rest) ⟨hX.1, hX.2.1, hX.2.2.1.1, hX.2.2.2.1, hts⟩ hM ⟨callB_of n hts (zws_good hcode) rfl rfl rfl (hts _ hini) (hts _ hlk) hdesc hRm, hts _ hstat⟩ hp rfl hn hl.1 rfl (lv_room hst) hd ⟨hce, hsl⟩) hS (zA_le hD) kk
  · exact z_call (va_runSN (As := As) (rest := rest) ⟨hX.1, hX.2.1, hX.2.2.1.1, hX.2.2.2.1, hts⟩ hM ⟨va_cnB n hts (zws_good hcode) rfl rfl rfl (hRo.2.2.1 _ hlk) (hts _ hini) hdesc hRm, hts _ hstat, trivial⟩ hp rfl hn hl.1 rfl (lv_room hst) hd ⟨hce, hsl⟩) hS (zA_le hD) kk
/-- ends -/
theorem r_iret {v : Int32} (hX : zGood X own cc mL d) (hR : zRet X (some .int) (some (.int v)) u) (hd : decode cc pc = .ok (.ireturn, 1)) : zG X u pc L [.int v] := by
  obtain ⟨E, A, p, l, e, R, s, m, args, below, meth, c, nL, cells, slots, Q⟩ := X
  obtain ⟨rfl, rfl, hr, hlocks⟩ := hR
  intro H locs ls hP hS hl
  exact W.iret hX.1 hX.2.1 hr (fun t ht hW => ⟨⟨rfl, by rw [ht]; exact hP⟩, hS.F ht⟩) hS.2.2 hd hlocks
theorem r_vret (hX : zGood X own cc mL d) (hR : zRet X none none u) (hd : decode cc pc = .ok (.return_, 1)) : zG X u pc L [] := by
  obtain ⟨E, A, p, l, e, R, s, m, args, below, meth, c, nL, cells, slots, Q⟩ := X
  obtain ⟨rfl, rfl, hr, hlocks⟩ := hR
  intro H locs ls hP hS hl
  exact W.vret hX.1 hX.2.1 hr (fun t ht hW => ⟨⟨rfl, by rw [ht]; exact hP⟩, hS.F ht⟩) hS.2.2 hd hlocks
theorem r_aret {a : Nat} {rt : FieldType} (hrt : (∃ n, rt = .object n) ∨ ∃ t, rt = .array t) (hX : zGood X own cc mL d) (hR : zRet X (some rt) (some (.ref a)) u) (hd : decode cc pc = .ok (.areturn, 1)) : zG X u pc L [.ref a] := by
  obtain ⟨E, A, p, l, e, R, s, m, args, below, meth, c, nL, cells, slots, Q⟩ := X
  obtain ⟨rfl, rfl, hr, hlocks⟩ := hR
  intro H locs ls hP hS hl
  exact W.aret hX.1 hX.2.1 hr hrt (Or.inr ⟨a, rfl⟩) (fun t ht hW => ⟨⟨rfl, by rw [ht]; exact hP⟩, hS.F ht⟩) hS.2.2 hd hlocks
/-- what comes back of a boolean, a char, a byte: narrowed -/
def zb (v : Int32) : Int32 := v &&& 1
def zc16 (v : Int32) : Int32 := v.toUInt32.toUInt16.toUInt32.toInt32
theorem r_nret {v v' : Int32} {ty : FieldType} (hn : narrow ty (.int v) = .int v') (hX : zGood X own cc mL d) (hR : zRet X (some ty) (some (.int v')) u) (hd : decode cc pc = .ok (.ireturn, 1)) : zG X u pc L [.int v] := by
  obtain ⟨E, A, p, l, e, R, s, m, args, below, meth, c, nL, cells, slots, Q⟩ := X
  obtain ⟨rfl, rfl, hr, hlocks⟩ := hR
  intro H locs ls hP hS hl
  intro T hT X
  have hx := hX.1
  have hb := hX.2.1
  obtain ⟨fs, hret, hrun, hended, hW, hframe⟩ := X.leave (v := some (.int v')) (fun h => by rw [hr] at h; cases h)
  have hmeth' : T.vm.method? m = some meth := X.method'
  refine ⟨T.setFrames fs, ?_, .returned (some (.int v')), hrun, hended, ⟨⟨rfl, by rw [show (T.setFrames fs).heap = T.heap from rfl, hT]; exact hP⟩, hS.F hT⟩, locs, ⟨⟨_, rfl⟩, hW, hframe⟩, hS.2.2⟩
  jvm_step X.here [X.here.top, hx, hb, hd, hmeth', hr, hn]
  (try refine ⟨rfl, ?_⟩); (try refine ⟨rfl, ?_⟩)
  first | (intro acts; rw [hret _ acts rfl rfl rfl]) | rw [hret _ _ rfl rfl rfl]
  exact Steps.refl _
theorem r_zret {v : Int32} (hX : zGood X own cc mL d) (hR : zRet X (some .boolean) (some (.int (zb v))) u) (hd : decode cc pc = .ok (.ireturn, 1)) : zG X u pc L [.int v] := r_nret (ty := .boolean) rfl hX hR hd
theorem r_zret0 (hX : zGood X own cc mL d) (hR : zRet X (some .boolean) (some (.int 0)) u) (hd : decode cc pc = .ok (.ireturn, 1)) : zG X u pc L [.int 0] := r_nret (ty := .boolean) (v' := 0) rfl hX hR hd
theorem r_zret1 (hX : zGood X own cc mL d) (hR : zRet X (some .boolean) (some (.int 1)) u) (hd : decode cc pc = .ok (.ireturn, 1)) : zG X u pc L [.int 1] := r_nret (ty := .boolean) (v' := 1) rfl hX hR hd
theorem r_cret {v : Int32} (hX : zGood X own cc mL d) (hR : zRet X (some .char) (some (.int (zc16 v))) u) (hd : decode cc pc = .ok (.ireturn, 1)) : zG X u pc L [.int v] := r_nret (ty := .char) rfl hX hR hd
end ZC
/-! THE MODEL'S WORDS -/
def zlet {α β : Type} (a : α) (f : α → β) : β := f a
theorem zlet_elim {α β : Type} {a : α} {f : α → β} {o : β} (h : zlet a f = o) : ∃ x, x = a ∧ f x = o := ⟨a, rfl, h⟩
def zbind {α β : Type} (a : Option α) (f : α → Option β) : Option β := match a with
  | none => none
  | some x => f x
theorem zbind_elim {α β : Type} {a : Option α} {f : α → Option β} {o : β} (h : zbind a f = some o) : ∃ x, a = some x ∧ f x = some o := by
  cases a with
  | none => cases h
  | some x => exact ⟨x, rfl, h⟩
def zit {S R : Type} : Nat → (S → Option (S ⊕ R)) → S → Option R
  | 0, _, _ => none
  | n + 1, body, s => match body s with
    | none => none
    | some (.inl s') => zit n body s'
    | some (.inr r) => some r
theorem zit_walk {S R : Type} {body : S → Option (S ⊕ R)} {out : R} {P : S → Prop} (step : ∀ s x, body s = some x → (∀ s', x = .inl s' → P s') → (∀ r, x = .inr r → r = out) → P s) : ∀ n s, zit n body s = some out → P s := by
  intro n
  induction n with
  | zero => intro s h; cases h
  | succ n ih =>
    intro s h
    rw [zit] at h
    cases hb : body s with
    | none => rw [hb] at h; cases h
    | some x =>
      rw [hb] at h
      refine step s x hb (fun s' hx => ?_) (fun r hx => ?_)
      · subst hx
        exact ih s' h
      · subst hx
        exact Option.some.inj h
/-- how long a loop may run -/
def zF : Nat := 1000000
end
