section
-- ===== PART A: goes FIRST, ahead of the names: the tables' words, and 'selects' of the private methods out of them =====
/-- a private method of a class that the tables say can be made, by its rows of tables_1 -/
def lw_okq (q : MethodName × Nat) : Prop := (q.1.cls ≠ "java/lang/invoke/MethodHandle" ∧ q.1.cls ≠ "java/lang/invoke/VarHandle") ∧ Cond.instantiable q.1.cls q.2 ∈ tables_1 ∧ Cond.privateMethod q.1 ∈ tables_1 ∧ Cond.instanceMethod q.1 ∈ tables_1
theorem lw_p0 : lw_okq (⟨"MeanCoats", "finding", "(I)I"⟩, 10) := ⟨⟨by decide +kernel, by decide +kernel⟩, List.mem_of_getElem? (i := 16) (by decide +kernel), List.mem_of_getElem? (i := 218) (by decide +kernel), List.mem_of_getElem? (i := 219) (by decide +kernel)⟩
theorem lw_p1 : lw_okq (⟨"MeanCoats$Town", "add", "(IIII)I"⟩, 13) := ⟨⟨by decide +kernel, by decide +kernel⟩, List.mem_of_getElem? (i := 24) (by decide +kernel), List.mem_of_getElem? (i := 223) (by decide +kernel), List.mem_of_getElem? (i := 224) (by decide +kernel)⟩
theorem lw_p2 : lw_okq (⟨"MeanCoats", "isBody", "(I)Z"⟩, 10) := ⟨⟨by decide +kernel, by decide +kernel⟩, List.mem_of_getElem? (i := 16) (by decide +kernel), List.mem_of_getElem? (i := 231) (by decide +kernel), List.mem_of_getElem? (i := 232) (by decide +kernel)⟩
theorem lw_p3 : lw_okq (⟨"MeanCoats$Town", "tell", "(II)I"⟩, 13) := ⟨⟨by decide +kernel, by decide +kernel⟩, List.mem_of_getElem? (i := 24) (by decide +kernel), List.mem_of_getElem? (i := 235) (by decide +kernel), List.mem_of_getElem? (i := 236) (by decide +kernel)⟩
theorem lw_p4 : lw_okq (⟨"MeanCoats$Town", "measuredOf", "(II)I"⟩, 13) := ⟨⟨by decide +kernel, by decide +kernel⟩, List.mem_of_getElem? (i := 24) (by decide +kernel), List.mem_of_getElem? (i := 239) (by decide +kernel), List.mem_of_getElem? (i := 240) (by decide +kernel)⟩
theorem lw_p5 : lw_okq (⟨"MeanCoats$Town", "widthAtBribe", "(II)I"⟩, 13) := ⟨⟨by decide +kernel, by decide +kernel⟩, List.mem_of_getElem? (i := 24) (by decide +kernel), List.mem_of_getElem? (i := 243) (by decide +kernel), List.mem_of_getElem? (i := 244) (by decide +kernel)⟩
theorem lw_p6 : lw_okq (⟨"MeanCoats$Town", "inchesOf", "(II)I"⟩, 13) := ⟨⟨by decide +kernel, by decide +kernel⟩, List.mem_of_getElem? (i := 24) (by decide +kernel), List.mem_of_getElem? (i := 247) (by decide +kernel), List.mem_of_getElem? (i := 248) (by decide +kernel)⟩
theorem lw_p7 : lw_okq (⟨"MeanCoats$Town", "isHere", "(I)Z"⟩, 13) := ⟨⟨by decide +kernel, by decide +kernel⟩, List.mem_of_getElem? (i := 24) (by decide +kernel), List.mem_of_getElem? (i := 256) (by decide +kernel), List.mem_of_getElem? (i := 257) (by decide +kernel)⟩
theorem lw_p8 : lw_okq (⟨"MeanCoats$Town", "timesOf", "(I)I"⟩, 13) := ⟨⟨by decide +kernel, by decide +kernel⟩, List.mem_of_getElem? (i := 24) (by decide +kernel), List.mem_of_getElem? (i := 263) (by decide +kernel), List.mem_of_getElem? (i := 264) (by decide +kernel)⟩
theorem lw_p9 : lw_okq (⟨"MeanCoats$Town", "put", "(III)V"⟩, 13) := ⟨⟨by decide +kernel, by decide +kernel⟩, List.mem_of_getElem? (i := 24) (by decide +kernel), List.mem_of_getElem? (i := 276) (by decide +kernel), List.mem_of_getElem? (i := 277) (by decide +kernel)⟩
theorem lw_p10 : lw_okq (⟨"MeanCoats$Town", "setInches", "(III)V"⟩, 13) := ⟨⟨by decide +kernel, by decide +kernel⟩, List.mem_of_getElem? (i := 24) (by decide +kernel), List.mem_of_getElem? (i := 280) (by decide +kernel), List.mem_of_getElem? (i := 281) (by decide +kernel)⟩
theorem lw_p11 : lw_okq (⟨"MeanCoats", "cutForAllHere", "()Z"⟩, 10) := ⟨⟨by decide +kernel, by decide +kernel⟩, List.mem_of_getElem? (i := 16) (by decide +kernel), List.mem_of_getElem? (i := 317) (by decide +kernel), List.mem_of_getElem? (i := 318) (by decide +kernel)⟩
theorem lw_p12 : lw_okq (⟨"MeanCoats$Tailor", "measureAll", "(LMeanCoats$Town;)V"⟩, 5) := ⟨⟨by decide +kernel, by decide +kernel⟩, List.mem_of_getElem? (i := 86) (by decide +kernel), List.mem_of_getElem? (i := 321) (by decide +kernel), List.mem_of_getElem? (i := 322) (by decide +kernel)⟩
theorem lw_p13 : lw_okq (⟨"MeanCoats$Tailor", "arrange", "(I)V"⟩, 5) := ⟨⟨by decide +kernel, by decide +kernel⟩, List.mem_of_getElem? (i := 86) (by decide +kernel), List.mem_of_getElem? (i := 327) (by decide +kernel), List.mem_of_getElem? (i := 328) (by decide +kernel)⟩
theorem lw_p14 : lw_okq (⟨"MeanCoats$Tailor", "cutAll", "(II)Z"⟩, 5) := ⟨⟨by decide +kernel, by decide +kernel⟩, List.mem_of_getElem? (i := 86) (by decide +kernel), List.mem_of_getElem? (i := 331) (by decide +kernel), List.mem_of_getElem? (i := 332) (by decide +kernel)⟩
theorem lw_p15 : lw_okq (⟨"MeanCoats$Tailor", "cutOne", "(III)I"⟩, 5) := ⟨⟨by decide +kernel, by decide +kernel⟩, List.mem_of_getElem? (i := 86) (by decide +kernel), List.mem_of_getElem? (i := 335) (by decide +kernel), List.mem_of_getElem? (i := 336) (by decide +kernel)⟩
def lw_privs_1 : List (MethodName × Nat) := [(⟨"MeanCoats", "finding", "(I)I"⟩, 10), (⟨"MeanCoats$Town", "add", "(IIII)I"⟩, 13), (⟨"MeanCoats", "isBody", "(I)Z"⟩, 10), (⟨"MeanCoats$Town", "tell", "(II)I"⟩, 13), (⟨"MeanCoats$Town", "measuredOf", "(II)I"⟩, 13), (⟨"MeanCoats$Town", "widthAtBribe", "(II)I"⟩, 13), (⟨"MeanCoats$Town", "inchesOf", "(II)I"⟩, 13), (⟨"MeanCoats$Town", "isHere", "(I)Z"⟩, 13), (⟨"MeanCoats$Town", "timesOf", "(I)I"⟩, 13), (⟨"MeanCoats$Town", "put", "(III)V"⟩, 13), (⟨"MeanCoats$Town", "setInches", "(III)V"⟩, 13), (⟨"MeanCoats", "cutForAllHere", "()Z"⟩, 10), (⟨"MeanCoats$Tailor", "measureAll", "(LMeanCoats$Town;)V"⟩, 5), (⟨"MeanCoats$Tailor", "arrange", "(I)V"⟩, 5), (⟨"MeanCoats$Tailor", "cutAll", "(II)Z"⟩, 5), (⟨"MeanCoats$Tailor", "cutOne", "(III)I"⟩, 5)]
theorem lw_r1 : ∀ q ∈ lw_privs_1, lw_okq q := List.forall_mem_cons.mpr ⟨lw_p0, List.forall_mem_cons.mpr ⟨lw_p1, List.forall_mem_cons.mpr ⟨lw_p2, List.forall_mem_cons.mpr ⟨lw_p3, List.forall_mem_cons.mpr ⟨lw_p4, List.forall_mem_cons.mpr ⟨lw_p5, List.forall_mem_cons.mpr ⟨lw_p6, List.forall_mem_cons.mpr ⟨lw_p7, List.forall_mem_cons.mpr ⟨lw_p8, List.forall_mem_cons.mpr ⟨lw_p9, List.forall_mem_cons.mpr ⟨lw_p10, List.forall_mem_cons.mpr ⟨lw_p11, List.forall_mem_cons.mpr ⟨lw_p12, List.forall_mem_cons.mpr ⟨lw_p13, List.forall_mem_cons.mpr ⟨lw_p14, List.forall_mem_cons.mpr ⟨lw_p15, fun _ h => absurd h List.not_mem_nil⟩⟩⟩⟩⟩⟩⟩⟩⟩⟩⟩⟩⟩⟩⟩⟩
theorem lw_p16 : lw_okq (⟨"MeanCoats$Tailor", "middleOf", "(II)I"⟩, 5) := ⟨⟨by decide +kernel, by decide +kernel⟩, List.mem_of_getElem? (i := 86) (by decide +kernel), List.mem_of_getElem? (i := 339) (by decide +kernel), List.mem_of_getElem? (i := 340) (by decide +kernel)⟩
theorem lw_p17 : lw_okq (⟨"MeanCoats$Tailor", "timesOf", "(I)I"⟩, 5) := ⟨⟨by decide +kernel, by decide +kernel⟩, List.mem_of_getElem? (i := 86) (by decide +kernel), List.mem_of_getElem? (i := 343) (by decide +kernel), List.mem_of_getElem? (i := 344) (by decide +kernel)⟩
theorem lw_p18 : lw_okq (⟨"MeanCoats$Tailor", "greatestOf", "(II)I"⟩, 5) := ⟨⟨by decide +kernel, by decide +kernel⟩, List.mem_of_getElem? (i := 86) (by decide +kernel), List.mem_of_getElem? (i := 348) (by decide +kernel), List.mem_of_getElem? (i := 349) (by decide +kernel)⟩
theorem lw_p19 : lw_okq (⟨"MeanCoats$Tailor", "cutMeanOf", "(II)I"⟩, 5) := ⟨⟨by decide +kernel, by decide +kernel⟩, List.mem_of_getElem? (i := 86) (by decide +kernel), List.mem_of_getElem? (i := 352) (by decide +kernel), List.mem_of_getElem? (i := 353) (by decide +kernel)⟩
theorem lw_p20 : lw_okq (⟨"MeanCoats$Tailor", "sumOf", "(II)I"⟩, 5) := ⟨⟨by decide +kernel, by decide +kernel⟩, List.mem_of_getElem? (i := 86) (by decide +kernel), List.mem_of_getElem? (i := 356) (by decide +kernel), List.mem_of_getElem? (i := 357) (by decide +kernel)⟩
theorem lw_p21 : lw_okq (⟨"MeanCoats$Tailor", "costOf", "(LMeanCoats$Town;I)I"⟩, 5) := ⟨⟨by decide +kernel, by decide +kernel⟩, List.mem_of_getElem? (i := 86) (by decide +kernel), List.mem_of_getElem? (i := 373) (by decide +kernel), List.mem_of_getElem? (i := 374) (by decide +kernel)⟩
theorem lw_p22 : lw_okq (⟨"MeanCoats$Tailor", "farOf", "(LMeanCoats$Town;I)I"⟩, 5) := ⟨⟨by decide +kernel, by decide +kernel⟩, List.mem_of_getElem? (i := 86) (by decide +kernel), List.mem_of_getElem? (i := 377) (by decide +kernel), List.mem_of_getElem? (i := 378) (by decide +kernel)⟩
theorem lw_p23 : lw_okq (⟨"MeanCoats$Tailor", "fitting", "(LMeanCoats$Town;I)I"⟩, 5) := ⟨⟨by decide +kernel, by decide +kernel⟩, List.mem_of_getElem? (i := 86) (by decide +kernel), List.mem_of_getElem? (i := 390) (by decide +kernel), List.mem_of_getElem? (i := 391) (by decide +kernel)⟩
theorem lw_p24 : lw_okq (⟨"MeanCoats$Tailor", "farOfPair", "(LMeanCoats$Town;II)I"⟩, 5) := ⟨⟨by decide +kernel, by decide +kernel⟩, List.mem_of_getElem? (i := 86) (by decide +kernel), List.mem_of_getElem? (i := 416) (by decide +kernel), List.mem_of_getElem? (i := 417) (by decide +kernel)⟩
theorem lw_p25 : lw_okq (⟨"MeanCoats", "fittingIfSent", "(I)I"⟩, 10) := ⟨⟨by decide +kernel, by decide +kernel⟩, List.mem_of_getElem? (i := 16) (by decide +kernel), List.mem_of_getElem? (i := 429) (by decide +kernel), List.mem_of_getElem? (i := 430) (by decide +kernel)⟩
theorem lw_p26 : lw_okq (⟨"MeanCoats", "fittingBy", "(II)I"⟩, 10) := ⟨⟨by decide +kernel, by decide +kernel⟩, List.mem_of_getElem? (i := 16) (by decide +kernel), List.mem_of_getElem? (i := 433) (by decide +kernel), List.mem_of_getElem? (i := 434) (by decide +kernel)⟩
theorem lw_p27 : lw_okq (⟨"MeanCoats", "coatIfSized", "(III)I"⟩, 10) := ⟨⟨by decide +kernel, by decide +kernel⟩, List.mem_of_getElem? (i := 16) (by decide +kernel), List.mem_of_getElem? (i := 455) (by decide +kernel), List.mem_of_getElem? (i := 456) (by decide +kernel)⟩
theorem lw_p28 : lw_okq (⟨"MeanCoats$Town", "bribesHere", "(I)Z"⟩, 13) := ⟨⟨by decide +kernel, by decide +kernel⟩, List.mem_of_getElem? (i := 24) (by decide +kernel), List.mem_of_getElem? (i := 468) (by decide +kernel), List.mem_of_getElem? (i := 469) (by decide +kernel)⟩
theorem lw_p29 : lw_okq (⟨"MeanCoats", "bestBribe", "(I)I"⟩, 10) := ⟨⟨by decide +kernel, by decide +kernel⟩, List.mem_of_getElem? (i := 16) (by decide +kernel), List.mem_of_getElem? (i := 472) (by decide +kernel), List.mem_of_getElem? (i := 473) (by decide +kernel)⟩
theorem lw_p30 : lw_okq (⟨"MeanCoats", "costAtBribe", "(II)I"⟩, 10) := ⟨⟨by decide +kernel, by decide +kernel⟩, List.mem_of_getElem? (i := 16) (by decide +kernel), List.mem_of_getElem? (i := 476) (by decide +kernel), List.mem_of_getElem? (i := 477) (by decide +kernel)⟩
theorem lw_p31 : lw_okq (⟨"MeanCoats$Tailor", "show", "(III)V"⟩, 5) := ⟨⟨by decide +kernel, by decide +kernel⟩, List.mem_of_getElem? (i := 86) (by decide +kernel), List.mem_of_getElem? (i := 481) (by decide +kernel), List.mem_of_getElem? (i := 482) (by decide +kernel)⟩
def lw_privs_2 : List (MethodName × Nat) := [(⟨"MeanCoats$Tailor", "middleOf", "(II)I"⟩, 5), (⟨"MeanCoats$Tailor", "timesOf", "(I)I"⟩, 5), (⟨"MeanCoats$Tailor", "greatestOf", "(II)I"⟩, 5), (⟨"MeanCoats$Tailor", "cutMeanOf", "(II)I"⟩, 5), (⟨"MeanCoats$Tailor", "sumOf", "(II)I"⟩, 5), (⟨"MeanCoats$Tailor", "costOf", "(LMeanCoats$Town;I)I"⟩, 5), (⟨"MeanCoats$Tailor", "farOf", "(LMeanCoats$Town;I)I"⟩, 5), (⟨"MeanCoats$Tailor", "fitting", "(LMeanCoats$Town;I)I"⟩, 5), (⟨"MeanCoats$Tailor", "farOfPair", "(LMeanCoats$Town;II)I"⟩, 5), (⟨"MeanCoats", "fittingIfSent", "(I)I"⟩, 10), (⟨"MeanCoats", "fittingBy", "(II)I"⟩, 10), (⟨"MeanCoats", "coatIfSized", "(III)I"⟩, 10), (⟨"MeanCoats$Town", "bribesHere", "(I)Z"⟩, 13), (⟨"MeanCoats", "bestBribe", "(I)I"⟩, 10), (⟨"MeanCoats", "costAtBribe", "(II)I"⟩, 10), (⟨"MeanCoats$Tailor", "show", "(III)V"⟩, 5)]
theorem lw_r2 : ∀ q ∈ lw_privs_2, lw_okq q := List.forall_mem_cons.mpr ⟨lw_p16, List.forall_mem_cons.mpr ⟨lw_p17, List.forall_mem_cons.mpr ⟨lw_p18, List.forall_mem_cons.mpr ⟨lw_p19, List.forall_mem_cons.mpr ⟨lw_p20, List.forall_mem_cons.mpr ⟨lw_p21, List.forall_mem_cons.mpr ⟨lw_p22, List.forall_mem_cons.mpr ⟨lw_p23, List.forall_mem_cons.mpr ⟨lw_p24, List.forall_mem_cons.mpr ⟨lw_p25, List.forall_mem_cons.mpr ⟨lw_p26, List.forall_mem_cons.mpr ⟨lw_p27, List.forall_mem_cons.mpr ⟨lw_p28, List.forall_mem_cons.mpr ⟨lw_p29, List.forall_mem_cons.mpr ⟨lw_p30, List.forall_mem_cons.mpr ⟨lw_p31, fun _ h => absurd h List.not_mem_nil⟩⟩⟩⟩⟩⟩⟩⟩⟩⟩⟩⟩⟩⟩⟩⟩
theorem lw_p32 : lw_okq (⟨"MeanCoats", "isSettled", "()Z"⟩, 10) := ⟨⟨by decide +kernel, by decide +kernel⟩, List.mem_of_getElem? (i := 16) (by decide +kernel), List.mem_of_getElem? (i := 489) (by decide +kernel), List.mem_of_getElem? (i := 490) (by decide +kernel)⟩
theorem lw_p33 : lw_okq (⟨"MeanCoats$Town", "readBribes", "([I)V"⟩, 13) := ⟨⟨by decide +kernel, by decide +kernel⟩, List.mem_of_getElem? (i := 24) (by decide +kernel), List.mem_of_getElem? (i := 497) (by decide +kernel), List.mem_of_getElem? (i := 498) (by decide +kernel)⟩
theorem lw_p34 : lw_okq (⟨"MeanCoats", "doRound", "()V"⟩, 10) := ⟨⟨by decide +kernel, by decide +kernel⟩, List.mem_of_getElem? (i := 16) (by decide +kernel), List.mem_of_getElem? (i := 504) (by decide +kernel), List.mem_of_getElem? (i := 505) (by decide +kernel)⟩
theorem lw_p35 : lw_okq (⟨"MeanCoats$Town", "writeBribes", "([I)V"⟩, 13) := ⟨⟨by decide +kernel, by decide +kernel⟩, List.mem_of_getElem? (i := 24) (by decide +kernel), List.mem_of_getElem? (i := 512) (by decide +kernel), List.mem_of_getElem? (i := 513) (by decide +kernel)⟩
theorem lw_p36 : lw_okq (⟨"MeanCoats$Town", "addSpring", "([I)I"⟩, 13) := ⟨⟨by decide +kernel, by decide +kernel⟩, List.mem_of_getElem? (i := 24) (by decide +kernel), List.mem_of_getElem? (i := 520) (by decide +kernel), List.mem_of_getElem? (i := 521) (by decide +kernel)⟩
theorem lw_p37 : lw_okq (⟨"MeanCoats", "isSpring", "(I)Z"⟩, 10) := ⟨⟨by decide +kernel, by decide +kernel⟩, List.mem_of_getElem? (i := 16) (by decide +kernel), List.mem_of_getElem? (i := 528) (by decide +kernel), List.mem_of_getElem? (i := 529) (by decide +kernel)⟩
theorem lw_p38 : lw_okq (⟨"MeanCoats$Town", "oldCoat", "(II)I"⟩, 13) := ⟨⟨by decide +kernel, by decide +kernel⟩, List.mem_of_getElem? (i := 24) (by decide +kernel), List.mem_of_getElem? (i := 532) (by decide +kernel), List.mem_of_getElem? (i := 533) (by decide +kernel)⟩
theorem lw_p39 : lw_okq (⟨"MeanCoats", "cutsAsIn", "(II)Z"⟩, 10) := ⟨⟨by decide +kernel, by decide +kernel⟩, List.mem_of_getElem? (i := 16) (by decide +kernel), List.mem_of_getElem? (i := 540) (by decide +kernel), List.mem_of_getElem? (i := 541) (by decide +kernel)⟩
theorem lw_p40 : lw_okq (⟨"MeanCoats", "slipAll", "()V"⟩, 10) := ⟨⟨by decide +kernel, by decide +kernel⟩, List.mem_of_getElem? (i := 16) (by decide +kernel), List.mem_of_getElem? (i := 553) (by decide +kernel), List.mem_of_getElem? (i := 554) (by decide +kernel)⟩
theorem lw_p41 : lw_okq (⟨"MeanCoats$Town", "draw", "()I"⟩, 13) := ⟨⟨by decide +kernel, by decide +kernel⟩, List.mem_of_getElem? (i := 24) (by decide +kernel), List.mem_of_getElem? (i := 557) (by decide +kernel), List.mem_of_getElem? (i := 558) (by decide +kernel)⟩
theorem lw_p42 : lw_okq (⟨"MeanCoats$Tailor", "slip", "(III)V"⟩, 5) := ⟨⟨by decide +kernel, by decide +kernel⟩, List.mem_of_getElem? (i := 86) (by decide +kernel), List.mem_of_getElem? (i := 562) (by decide +kernel), List.mem_of_getElem? (i := 563) (by decide +kernel)⟩
theorem lw_p43 : lw_okq (⟨"MeanCoats", "isCoatAsBefore", "()Z"⟩, 10) := ⟨⟨by decide +kernel, by decide +kernel⟩, List.mem_of_getElem? (i := 16) (by decide +kernel), List.mem_of_getElem? (i := 567) (by decide +kernel), List.mem_of_getElem? (i := 568) (by decide +kernel)⟩
theorem lw_p44 : lw_okq (⟨"MeanCoats$Tape", "add", "(I)V"⟩, 7) := ⟨⟨by decide +kernel, by decide +kernel⟩, List.mem_of_getElem? (i := 109) (by decide +kernel), List.mem_of_getElem? (i := 579) (by decide +kernel), List.mem_of_getElem? (i := 580) (by decide +kernel)⟩
theorem lw_p45 : lw_okq (⟨"MeanCoats$Reader", "readItems", "(LMeanCoats$Tape;LMeanCoats$Town;Z)I"⟩, 4) := ⟨⟨by decide +kernel, by decide +kernel⟩, List.mem_of_getElem? (i := 138) (by decide +kernel), List.mem_of_getElem? (i := 591) (by decide +kernel), List.mem_of_getElem? (i := 592) (by decide +kernel)⟩
theorem lw_p46 : lw_okq (⟨"MeanCoats$Tape", "split", "()V"⟩, 7) := ⟨⟨by decide +kernel, by decide +kernel⟩, List.mem_of_getElem? (i := 109) (by decide +kernel), List.mem_of_getElem? (i := 595) (by decide +kernel), List.mem_of_getElem? (i := 596) (by decide +kernel)⟩
theorem lw_p47 : lw_okq (⟨"MeanCoats$Tape", "lay", "(IIII)V"⟩, 7) := ⟨⟨by decide +kernel, by decide +kernel⟩, List.mem_of_getElem? (i := 109) (by decide +kernel), List.mem_of_getElem? (i := 603) (by decide +kernel), List.mem_of_getElem? (i := 604) (by decide +kernel)⟩
def lw_privs_3 : List (MethodName × Nat) := [(⟨"MeanCoats", "isSettled", "()Z"⟩, 10), (⟨"MeanCoats$Town", "readBribes", "([I)V"⟩, 13), (⟨"MeanCoats", "doRound", "()V"⟩, 10), (⟨"MeanCoats$Town", "writeBribes", "([I)V"⟩, 13), (⟨"MeanCoats$Town", "addSpring", "([I)I"⟩, 13), (⟨"MeanCoats", "isSpring", "(I)Z"⟩, 10), (⟨"MeanCoats$Town", "oldCoat", "(II)I"⟩, 13), (⟨"MeanCoats", "cutsAsIn", "(II)Z"⟩, 10), (⟨"MeanCoats", "slipAll", "()V"⟩, 10), (⟨"MeanCoats$Town", "draw", "()I"⟩, 13), (⟨"MeanCoats$Tailor", "slip", "(III)V"⟩, 5), (⟨"MeanCoats", "isCoatAsBefore", "()Z"⟩, 10), (⟨"MeanCoats$Tape", "add", "(I)V"⟩, 7), (⟨"MeanCoats$Reader", "readItems", "(LMeanCoats$Tape;LMeanCoats$Town;Z)I"⟩, 4), (⟨"MeanCoats$Tape", "split", "()V"⟩, 7), (⟨"MeanCoats$Tape", "lay", "(IIII)V"⟩, 7)]
theorem lw_r3 : ∀ q ∈ lw_privs_3, lw_okq q := List.forall_mem_cons.mpr ⟨lw_p32, List.forall_mem_cons.mpr ⟨lw_p33, List.forall_mem_cons.mpr ⟨lw_p34, List.forall_mem_cons.mpr ⟨lw_p35, List.forall_mem_cons.mpr ⟨lw_p36, List.forall_mem_cons.mpr ⟨lw_p37, List.forall_mem_cons.mpr ⟨lw_p38, List.forall_mem_cons.mpr ⟨lw_p39, List.forall_mem_cons.mpr ⟨lw_p40, List.forall_mem_cons.mpr ⟨lw_p41, List.forall_mem_cons.mpr ⟨lw_p42, List.forall_mem_cons.mpr ⟨lw_p43, List.forall_mem_cons.mpr ⟨lw_p44, List.forall_mem_cons.mpr ⟨lw_p45, List.forall_mem_cons.mpr ⟨lw_p46, List.forall_mem_cons.mpr ⟨lw_p47, fun _ h => absurd h List.not_mem_nil⟩⟩⟩⟩⟩⟩⟩⟩⟩⟩⟩⟩⟩⟩⟩⟩
theorem lw_p48 : lw_okq (⟨"MeanCoats$Reader", "readItem", "(LMeanCoats$Tape;LMeanCoats$Town;Z)Z"⟩, 4) := ⟨⟨by decide +kernel, by decide +kernel⟩, List.mem_of_getElem? (i := 138) (by decide +kernel), List.mem_of_getElem? (i := 607) (by decide +kernel), List.mem_of_getElem? (i := 608) (by decide +kernel)⟩
theorem lw_p49 : lw_okq (⟨"MeanCoats$Tape", "isWord", "(Ljava/lang/String;)Z"⟩, 7) := ⟨⟨by decide +kernel, by decide +kernel⟩, List.mem_of_getElem? (i := 109) (by decide +kernel), List.mem_of_getElem? (i := 624) (by decide +kernel), List.mem_of_getElem? (i := 625) (by decide +kernel)⟩
theorem lw_p50 : lw_okq (⟨"MeanCoats$Reader", "readBody", "(LMeanCoats$Tape;LMeanCoats$Town;IZ)Z"⟩, 4) := ⟨⟨by decide +kernel, by decide +kernel⟩, List.mem_of_getElem? (i := 138) (by decide +kernel), List.mem_of_getElem? (i := 676) (by decide +kernel), List.mem_of_getElem? (i := 677) (by decide +kernel)⟩
theorem lw_p51 : lw_okq (⟨"MeanCoats$Tape", "moveOn", "()V"⟩, 7) := ⟨⟨by decide +kernel, by decide +kernel⟩, List.mem_of_getElem? (i := 109) (by decide +kernel), List.mem_of_getElem? (i := 680) (by decide +kernel), List.mem_of_getElem? (i := 681) (by decide +kernel)⟩
theorem lw_p52 : lw_okq (⟨"MeanCoats$Reader", "readMeasures", "(LMeanCoats$Tape;)Z"⟩, 4) := ⟨⟨by decide +kernel, by decide +kernel⟩, List.mem_of_getElem? (i := 138) (by decide +kernel), List.mem_of_getElem? (i := 684) (by decide +kernel), List.mem_of_getElem? (i := 685) (by decide +kernel)⟩
theorem lw_p53 : lw_okq (⟨"MeanCoats$Tape", "numberWithin", "(II)I"⟩, 7) := ⟨⟨by decide +kernel, by decide +kernel⟩, List.mem_of_getElem? (i := 109) (by decide +kernel), List.mem_of_getElem? (i := 691) (by decide +kernel), List.mem_of_getElem? (i := 692) (by decide +kernel)⟩
theorem lw_p54 : lw_okq (⟨"MeanCoats$Reader", "readBribe", "(LMeanCoats$Tape;)Z"⟩, 4) := ⟨⟨by decide +kernel, by decide +kernel⟩, List.mem_of_getElem? (i := 138) (by decide +kernel), List.mem_of_getElem? (i := 698) (by decide +kernel), List.mem_of_getElem? (i := 699) (by decide +kernel)⟩
theorem lw_p55 : lw_okq (⟨"MeanCoats$Tape", "isSign", "(C)Z"⟩, 7) := ⟨⟨by decide +kernel, by decide +kernel⟩, List.mem_of_getElem? (i := 109) (by decide +kernel), List.mem_of_getElem? (i := 703) (by decide +kernel), List.mem_of_getElem? (i := 704) (by decide +kernel)⟩
theorem lw_p56 : lw_okq (⟨"MeanCoats$Reader", "readPins", "(LMeanCoats$Tape;)Z"⟩, 4) := ⟨⟨by decide +kernel, by decide +kernel⟩, List.mem_of_getElem? (i := 138) (by decide +kernel), List.mem_of_getElem? (i := 707) (by decide +kernel), List.mem_of_getElem? (i := 708) (by decide +kernel)⟩
theorem lw_p57 : lw_okq (⟨"MeanCoats$Reader", "readRule", "(LMeanCoats$Tape;LMeanCoats$Town;Z)Z"⟩, 4) := ⟨⟨by decide +kernel, by decide +kernel⟩, List.mem_of_getElem? (i := 138) (by decide +kernel), List.mem_of_getElem? (i := 715) (by decide +kernel), List.mem_of_getElem? (i := 716) (by decide +kernel)⟩
theorem lw_p58 : lw_okq (⟨"MeanCoats$Reader", "readEase", "(LMeanCoats$Tape;LMeanCoats$Town;Z)Z"⟩, 4) := ⟨⟨by decide +kernel, by decide +kernel⟩, List.mem_of_getElem? (i := 138) (by decide +kernel), List.mem_of_getElem? (i := 726) (by decide +kernel), List.mem_of_getElem? (i := 727) (by decide +kernel)⟩
theorem lw_p59 : lw_okq (⟨"MeanCoats$Reader", "readPrice", "(LMeanCoats$Tape;LMeanCoats$Town;Z)Z"⟩, 4) := ⟨⟨by decide +kernel, by decide +kernel⟩, List.mem_of_getElem? (i := 138) (by decide +kernel), List.mem_of_getElem? (i := 731) (by decide +kernel), List.mem_of_getElem? (i := 732) (by decide +kernel)⟩
theorem lw_p60 : lw_okq (⟨"MeanCoats$Tape", "begin", "()I"⟩, 7) := ⟨⟨by decide +kernel, by decide +kernel⟩, List.mem_of_getElem? (i := 109) (by decide +kernel), List.mem_of_getElem? (i := 735) (by decide +kernel), List.mem_of_getElem? (i := 736) (by decide +kernel)⟩
theorem lw_p61 : lw_okq (⟨"MeanCoats$Tape", "isEnd", "()Z"⟩, 7) := ⟨⟨by decide +kernel, by decide +kernel⟩, List.mem_of_getElem? (i := 109) (by decide +kernel), List.mem_of_getElem? (i := 739) (by decide +kernel), List.mem_of_getElem? (i := 740) (by decide +kernel)⟩
theorem lw_p62 : lw_okq (⟨"MeanCoats$Sheet", "lay", "(II)V"⟩, 3) := ⟨⟨by decide +kernel, by decide +kernel⟩, List.mem_of_getElem? (i := 158) (by decide +kernel), List.mem_of_getElem? (i := 763) (by decide +kernel), List.mem_of_getElem? (i := 764) (by decide +kernel)⟩
theorem lw_p63 : lw_okq (⟨"MeanCoats$Sheet", "isMissing", "()Z"⟩, 3) := ⟨⟨by decide +kernel, by decide +kernel⟩, List.mem_of_getElem? (i := 158) (by decide +kernel), List.mem_of_getElem? (i := 771) (by decide +kernel), List.mem_of_getElem? (i := 772) (by decide +kernel)⟩
def lw_privs_4 : List (MethodName × Nat) := [(⟨"MeanCoats$Reader", "readItem", "(LMeanCoats$Tape;LMeanCoats$Town;Z)Z"⟩, 4), (⟨"MeanCoats$Tape", "isWord", "(Ljava/lang/String;)Z"⟩, 7), (⟨"MeanCoats$Reader", "readBody", "(LMeanCoats$Tape;LMeanCoats$Town;IZ)Z"⟩, 4), (⟨"MeanCoats$Tape", "moveOn", "()V"⟩, 7), (⟨"MeanCoats$Reader", "readMeasures", "(LMeanCoats$Tape;)Z"⟩, 4), (⟨"MeanCoats$Tape", "numberWithin", "(II)I"⟩, 7), (⟨"MeanCoats$Reader", "readBribe", "(LMeanCoats$Tape;)Z"⟩, 4), (⟨"MeanCoats$Tape", "isSign", "(C)Z"⟩, 7), (⟨"MeanCoats$Reader", "readPins", "(LMeanCoats$Tape;)Z"⟩, 4), (⟨"MeanCoats$Reader", "readRule", "(LMeanCoats$Tape;LMeanCoats$Town;Z)Z"⟩, 4), (⟨"MeanCoats$Reader", "readEase", "(LMeanCoats$Tape;LMeanCoats$Town;Z)Z"⟩, 4), (⟨"MeanCoats$Reader", "readPrice", "(LMeanCoats$Tape;LMeanCoats$Town;Z)Z"⟩, 4), (⟨"MeanCoats$Tape", "begin", "()I"⟩, 7), (⟨"MeanCoats$Tape", "isEnd", "()Z"⟩, 7), (⟨"MeanCoats$Sheet", "lay", "(II)V"⟩, 3), (⟨"MeanCoats$Sheet", "isMissing", "()Z"⟩, 3)]
theorem lw_r4 : ∀ q ∈ lw_privs_4, lw_okq q := List.forall_mem_cons.mpr ⟨lw_p48, List.forall_mem_cons.mpr ⟨lw_p49, List.forall_mem_cons.mpr ⟨lw_p50, List.forall_mem_cons.mpr ⟨lw_p51, List.forall_mem_cons.mpr ⟨lw_p52, List.forall_mem_cons.mpr ⟨lw_p53, List.forall_mem_cons.mpr ⟨lw_p54, List.forall_mem_cons.mpr ⟨lw_p55, List.forall_mem_cons.mpr ⟨lw_p56, List.forall_mem_cons.mpr ⟨lw_p57, List.forall_mem_cons.mpr ⟨lw_p58, List.forall_mem_cons.mpr ⟨lw_p59, List.forall_mem_cons.mpr ⟨lw_p60, List.forall_mem_cons.mpr ⟨lw_p61, List.forall_mem_cons.mpr ⟨lw_p62, List.forall_mem_cons.mpr ⟨lw_p63, fun _ h => absurd h List.not_mem_nil⟩⟩⟩⟩⟩⟩⟩⟩⟩⟩⟩⟩⟩⟩⟩⟩
theorem lw_p64 : lw_okq (⟨"MeanCoats$Sheet", "put", "(II)V"⟩, 3) := ⟨⟨by decide +kernel, by decide +kernel⟩, List.mem_of_getElem? (i := 158) (by decide +kernel), List.mem_of_getElem? (i := 775) (by decide +kernel), List.mem_of_getElem? (i := 776) (by decide +kernel)⟩
theorem lw_p65 : lw_okq (⟨"MeanCoats$Sheet", "has", "(II)Z"⟩, 3) := ⟨⟨by decide +kernel, by decide +kernel⟩, List.mem_of_getElem? (i := 158) (by decide +kernel), List.mem_of_getElem? (i := 783) (by decide +kernel), List.mem_of_getElem? (i := 784) (by decide +kernel)⟩
theorem lw_p66 : lw_okq (⟨"MeanCoats$Sheet", "hasMeasures", "(I)Z"⟩, 3) := ⟨⟨by decide +kernel, by decide +kernel⟩, List.mem_of_getElem? (i := 158) (by decide +kernel), List.mem_of_getElem? (i := 791) (by decide +kernel), List.mem_of_getElem? (i := 792) (by decide +kernel)⟩
theorem lw_p67 : lw_okq (⟨"MeanCoats$Town", "become", "(LMeanCoats$Town;)V"⟩, 13) := ⟨⟨by decide +kernel, by decide +kernel⟩, List.mem_of_getElem? (i := 24) (by decide +kernel), List.mem_of_getElem? (i := 805) (by decide +kernel), List.mem_of_getElem? (i := 806) (by decide +kernel)⟩
theorem lw_p68 : lw_okq (⟨"MeanCoats$Town", "spotsHeld", "()I"⟩, 13) := ⟨⟨by decide +kernel, by decide +kernel⟩, List.mem_of_getElem? (i := 24) (by decide +kernel), List.mem_of_getElem? (i := 821) (by decide +kernel), List.mem_of_getElem? (i := 822) (by decide +kernel)⟩
theorem lw_p69 : lw_okq (⟨"MeanCoatsModel", "finding", "(I)I"⟩, 27) := ⟨⟨by decide +kernel, by decide +kernel⟩, List.mem_of_getElem? (i := 829) (by decide +kernel), List.mem_of_getElem? (i := 937) (by decide +kernel), List.mem_of_getElem? (i := 938) (by decide +kernel)⟩
theorem lw_p70 : lw_okq (⟨"MeanCoatsModel", "comes", "(IIII)I"⟩, 27) := ⟨⟨by decide +kernel, by decide +kernel⟩, List.mem_of_getElem? (i := 829) (by decide +kernel), List.mem_of_getElem? (i := 942) (by decide +kernel), List.mem_of_getElem? (i := 943) (by decide +kernel)⟩
theorem lw_p71 : lw_okq (⟨"MeanCoatsModel", "isBody", "(I)Z"⟩, 27) := ⟨⟨by decide +kernel, by decide +kernel⟩, List.mem_of_getElem? (i := 829) (by decide +kernel), List.mem_of_getElem? (i := 950) (by decide +kernel), List.mem_of_getElem? (i := 951) (by decide +kernel)⟩
theorem lw_p72 : lw_okq (⟨"MeanCoatsModel", "bodyIs", "(II)I"⟩, 27) := ⟨⟨by decide +kernel, by decide +kernel⟩, List.mem_of_getElem? (i := 829) (by decide +kernel), List.mem_of_getElem? (i := 954) (by decide +kernel), List.mem_of_getElem? (i := 955) (by decide +kernel)⟩
theorem lw_p73 : lw_okq (⟨"MeanCoatsModel", "countsOf", "(I)I"⟩, 27) := ⟨⟨by decide +kernel, by decide +kernel⟩, List.mem_of_getElem? (i := 829) (by decide +kernel), List.mem_of_getElem? (i := 958) (by decide +kernel), List.mem_of_getElem? (i := 959) (by decide +kernel)⟩
theorem lw_p74 : lw_okq (⟨"MeanCoatsModel", "measured", "(II)I"⟩, 27) := ⟨⟨by decide +kernel, by decide +kernel⟩, List.mem_of_getElem? (i := 829) (by decide +kernel), List.mem_of_getElem? (i := 962) (by decide +kernel), List.mem_of_getElem? (i := 963) (by decide +kernel)⟩
theorem lw_p75 : lw_okq (⟨"MeanCoatsModel", "become", "(II)I"⟩, 27) := ⟨⟨by decide +kernel, by decide +kernel⟩, List.mem_of_getElem? (i := 829) (by decide +kernel), List.mem_of_getElem? (i := 973) (by decide +kernel), List.mem_of_getElem? (i := 974) (by decide +kernel)⟩
theorem lw_p76 : lw_okq (⟨"MeanCoatsModel", "hereSet", "()I"⟩, 27) := ⟨⟨by decide +kernel, by decide +kernel⟩, List.mem_of_getElem? (i := 829) (by decide +kernel), List.mem_of_getElem? (i := 1005) (by decide +kernel), List.mem_of_getElem? (i := 1006) (by decide +kernel)⟩
theorem lw_p77 : lw_okq (⟨"MeanCoatsModel", "cutFor", "(II)I"⟩, 27) := ⟨⟨by decide +kernel, by decide +kernel⟩, List.mem_of_getElem? (i := 829) (by decide +kernel), List.mem_of_getElem? (i := 1010) (by decide +kernel), List.mem_of_getElem? (i := 1011) (by decide +kernel)⟩
theorem lw_p78 : lw_okq (⟨"MeanCoatsModel", "findRow", "(II)V"⟩, 27) := ⟨⟨by decide +kernel, by decide +kernel⟩, List.mem_of_getElem? (i := 829) (by decide +kernel), List.mem_of_getElem? (i := 1014) (by decide +kernel), List.mem_of_getElem? (i := 1015) (by decide +kernel)⟩
theorem lw_p79 : lw_okq (⟨"MeanCoatsModel", "rowSum", "()I"⟩, 27) := ⟨⟨by decide +kernel, by decide +kernel⟩, List.mem_of_getElem? (i := 829) (by decide +kernel), List.mem_of_getElem? (i := 1021) (by decide +kernel), List.mem_of_getElem? (i := 1022) (by decide +kernel)⟩
def lw_privs_5 : List (MethodName × Nat) := [(⟨"MeanCoats$Sheet", "put", "(II)V"⟩, 3), (⟨"MeanCoats$Sheet", "has", "(II)Z"⟩, 3), (⟨"MeanCoats$Sheet", "hasMeasures", "(I)Z"⟩, 3), (⟨"MeanCoats$Town", "become", "(LMeanCoats$Town;)V"⟩, 13), (⟨"MeanCoats$Town", "spotsHeld", "()I"⟩, 13), (⟨"MeanCoatsModel", "finding", "(I)I"⟩, 27), (⟨"MeanCoatsModel", "comes", "(IIII)I"⟩, 27), (⟨"MeanCoatsModel", "isBody", "(I)Z"⟩, 27), (⟨"MeanCoatsModel", "bodyIs", "(II)I"⟩, 27), (⟨"MeanCoatsModel", "countsOf", "(I)I"⟩, 27), (⟨"MeanCoatsModel", "measured", "(II)I"⟩, 27), (⟨"MeanCoatsModel", "become", "(II)I"⟩, 27), (⟨"MeanCoatsModel", "hereSet", "()I"⟩, 27), (⟨"MeanCoatsModel", "cutFor", "(II)I"⟩, 27), (⟨"MeanCoatsModel", "findRow", "(II)V"⟩, 27), (⟨"MeanCoatsModel", "rowSum", "()I"⟩, 27)]
theorem lw_r5 : ∀ q ∈ lw_privs_5, lw_okq q := List.forall_mem_cons.mpr ⟨lw_p64, List.forall_mem_cons.mpr ⟨lw_p65, List.forall_mem_cons.mpr ⟨lw_p66, List.forall_mem_cons.mpr ⟨lw_p67, List.forall_mem_cons.mpr ⟨lw_p68, List.forall_mem_cons.mpr ⟨lw_p69, List.forall_mem_cons.mpr ⟨lw_p70, List.forall_mem_cons.mpr ⟨lw_p71, List.forall_mem_cons.mpr ⟨lw_p72, List.forall_mem_cons.mpr ⟨lw_p73, List.forall_mem_cons.mpr ⟨lw_p74, List.forall_mem_cons.mpr ⟨lw_p75, List.forall_mem_cons.mpr ⟨lw_p76, List.forall_mem_cons.mpr ⟨lw_p77, List.forall_mem_cons.mpr ⟨lw_p78, List.forall_mem_cons.mpr ⟨lw_p79, fun _ h => absurd h List.not_mem_nil⟩⟩⟩⟩⟩⟩⟩⟩⟩⟩⟩⟩⟩⟩⟩⟩
theorem lw_p80 : lw_okq (⟨"MeanCoatsModel", "cut", "(I)V"⟩, 27) := ⟨⟨by decide +kernel, by decide +kernel⟩, List.mem_of_getElem? (i := 829) (by decide +kernel), List.mem_of_getElem? (i := 1036) (by decide +kernel), List.mem_of_getElem? (i := 1037) (by decide +kernel)⟩
theorem lw_p81 : lw_okq (⟨"MeanCoatsModel", "costOf", "(I)I"⟩, 27) := ⟨⟨by decide +kernel, by decide +kernel⟩, List.mem_of_getElem? (i := 829) (by decide +kernel), List.mem_of_getElem? (i := 1040) (by decide +kernel), List.mem_of_getElem? (i := 1041) (by decide +kernel)⟩
theorem lw_p82 : lw_okq (⟨"MeanCoatsModel", "distance", "(I)I"⟩, 27) := ⟨⟨by decide +kernel, by decide +kernel⟩, List.mem_of_getElem? (i := 829) (by decide +kernel), List.mem_of_getElem? (i := 1044) (by decide +kernel), List.mem_of_getElem? (i := 1045) (by decide +kernel)⟩
theorem lw_p83 : lw_okq (⟨"MeanCoatsModel", "fitOf", "(I)I"⟩, 27) := ⟨⟨by decide +kernel, by decide +kernel⟩, List.mem_of_getElem? (i := 829) (by decide +kernel), List.mem_of_getElem? (i := 1053) (by decide +kernel), List.mem_of_getElem? (i := 1054) (by decide +kernel)⟩
theorem lw_p84 : lw_okq (⟨"MeanCoatsModel", "together", "(II)I"⟩, 27) := ⟨⟨by decide +kernel, by decide +kernel⟩, List.mem_of_getElem? (i := 829) (by decide +kernel), List.mem_of_getElem? (i := 1077) (by decide +kernel), List.mem_of_getElem? (i := 1078) (by decide +kernel)⟩
theorem lw_p85 : lw_okq (⟨"MeanCoatsModel", "isAway", "(I)Z"⟩, 27) := ⟨⟨by decide +kernel, by decide +kernel⟩, List.mem_of_getElem? (i := 829) (by decide +kernel), List.mem_of_getElem? (i := 1104) (by decide +kernel), List.mem_of_getElem? (i := 1105) (by decide +kernel)⟩
theorem lw_p86 : lw_okq (⟨"MeanCoatsModel", "doesBribe", "(I)Z"⟩, 27) := ⟨⟨by decide +kernel, by decide +kernel⟩, List.mem_of_getElem? (i := 829) (by decide +kernel), List.mem_of_getElem? (i := 1118) (by decide +kernel), List.mem_of_getElem? (i := 1119) (by decide +kernel)⟩
theorem lw_p87 : lw_okq (⟨"MeanCoatsModel", "bribeOf", "(I)I"⟩, 27) := ⟨⟨by decide +kernel, by decide +kernel⟩, List.mem_of_getElem? (i := 829) (by decide +kernel), List.mem_of_getElem? (i := 1122) (by decide +kernel), List.mem_of_getElem? (i := 1123) (by decide +kernel)⟩
theorem lw_p88 : lw_okq (⟨"MeanCoatsModel", "costBy", "(II)I"⟩, 27) := ⟨⟨by decide +kernel, by decide +kernel⟩, List.mem_of_getElem? (i := 829) (by decide +kernel), List.mem_of_getElem? (i := 1126) (by decide +kernel), List.mem_of_getElem? (i := 1127) (by decide +kernel)⟩
theorem lw_p89 : lw_okq (⟨"MeanCoatsModel", "isSettled", "()Z"⟩, 27) := ⟨⟨by decide +kernel, by decide +kernel⟩, List.mem_of_getElem? (i := 829) (by decide +kernel), List.mem_of_getElem? (i := 1134) (by decide +kernel), List.mem_of_getElem? (i := 1135) (by decide +kernel)⟩
theorem lw_p90 : lw_okq (⟨"MeanCoatsModel", "keepBribes", "()V"⟩, 27) := ⟨⟨by decide +kernel, by decide +kernel⟩, List.mem_of_getElem? (i := 829) (by decide +kernel), List.mem_of_getElem? (i := 1142) (by decide +kernel), List.mem_of_getElem? (i := 1143) (by decide +kernel)⟩
theorem lw_p91 : lw_okq (⟨"MeanCoatsModel", "round", "()V"⟩, 27) := ⟨⟨by decide +kernel, by decide +kernel⟩, List.mem_of_getElem? (i := 829) (by decide +kernel), List.mem_of_getElem? (i := 1146) (by decide +kernel), List.mem_of_getElem? (i := 1147) (by decide +kernel)⟩
theorem lw_p92 : lw_okq (⟨"MeanCoatsModel", "isSpring", "(I)Z"⟩, 27) := ⟨⟨by decide +kernel, by decide +kernel⟩, List.mem_of_getElem? (i := 829) (by decide +kernel), List.mem_of_getElem? (i := 1162) (by decide +kernel), List.mem_of_getElem? (i := 1163) (by decide +kernel)⟩
theorem lw_p93 : lw_okq (⟨"MeanCoatsModel", "findLived", "(I)I"⟩, 27) := ⟨⟨by decide +kernel, by decide +kernel⟩, List.mem_of_getElem? (i := 829) (by decide +kernel), List.mem_of_getElem? (i := 1170) (by decide +kernel), List.mem_of_getElem? (i := 1171) (by decide +kernel)⟩
theorem lw_p94 : lw_okq (⟨"MeanCoatsModel", "slip", "()V"⟩, 27) := ⟨⟨by decide +kernel, by decide +kernel⟩, List.mem_of_getElem? (i := 829) (by decide +kernel), List.mem_of_getElem? (i := 1182) (by decide +kernel), List.mem_of_getElem? (i := 1183) (by decide +kernel)⟩
theorem lw_p95 : lw_okq (⟨"MeanCoatsModel", "drawn", "(I)I"⟩, 27) := ⟨⟨by decide +kernel, by decide +kernel⟩, List.mem_of_getElem? (i := 829) (by decide +kernel), List.mem_of_getElem? (i := 1186) (by decide +kernel), List.mem_of_getElem? (i := 1187) (by decide +kernel)⟩
def lw_privs_6 : List (MethodName × Nat) := [(⟨"MeanCoatsModel", "cut", "(I)V"⟩, 27), (⟨"MeanCoatsModel", "costOf", "(I)I"⟩, 27), (⟨"MeanCoatsModel", "distance", "(I)I"⟩, 27), (⟨"MeanCoatsModel", "fitOf", "(I)I"⟩, 27), (⟨"MeanCoatsModel", "together", "(II)I"⟩, 27), (⟨"MeanCoatsModel", "isAway", "(I)Z"⟩, 27), (⟨"MeanCoatsModel", "doesBribe", "(I)Z"⟩, 27), (⟨"MeanCoatsModel", "bribeOf", "(I)I"⟩, 27), (⟨"MeanCoatsModel", "costBy", "(II)I"⟩, 27), (⟨"MeanCoatsModel", "isSettled", "()Z"⟩, 27), (⟨"MeanCoatsModel", "keepBribes", "()V"⟩, 27), (⟨"MeanCoatsModel", "round", "()V"⟩, 27), (⟨"MeanCoatsModel", "isSpring", "(I)Z"⟩, 27), (⟨"MeanCoatsModel", "findLived", "(I)I"⟩, 27), (⟨"MeanCoatsModel", "slip", "()V"⟩, 27), (⟨"MeanCoatsModel", "drawn", "(I)I"⟩, 27)]
theorem lw_r6 : ∀ q ∈ lw_privs_6, lw_okq q := List.forall_mem_cons.mpr ⟨lw_p80, List.forall_mem_cons.mpr ⟨lw_p81, List.forall_mem_cons.mpr ⟨lw_p82, List.forall_mem_cons.mpr ⟨lw_p83, List.forall_mem_cons.mpr ⟨lw_p84, List.forall_mem_cons.mpr ⟨lw_p85, List.forall_mem_cons.mpr ⟨lw_p86, List.forall_mem_cons.mpr ⟨lw_p87, List.forall_mem_cons.mpr ⟨lw_p88, List.forall_mem_cons.mpr ⟨lw_p89, List.forall_mem_cons.mpr ⟨lw_p90, List.forall_mem_cons.mpr ⟨lw_p91, List.forall_mem_cons.mpr ⟨lw_p92, List.forall_mem_cons.mpr ⟨lw_p93, List.forall_mem_cons.mpr ⟨lw_p94, List.forall_mem_cons.mpr ⟨lw_p95, fun _ h => absurd h List.not_mem_nil⟩⟩⟩⟩⟩⟩⟩⟩⟩⟩⟩⟩⟩⟩⟩⟩
theorem lw_p96 : lw_okq (⟨"MeanCoatsModel", "next", "()V"⟩, 27) := ⟨⟨by decide +kernel, by decide +kernel⟩, List.mem_of_getElem? (i := 829) (by decide +kernel), List.mem_of_getElem? (i := 1207) (by decide +kernel), List.mem_of_getElem? (i := 1208) (by decide +kernel)⟩
theorem lw_p97 : lw_okq (⟨"MeanCoatsModel", "byteAt", "(I)I"⟩, 27) := ⟨⟨by decide +kernel, by decide +kernel⟩, List.mem_of_getElem? (i := 829) (by decide +kernel), List.mem_of_getElem? (i := 1211) (by decide +kernel), List.mem_of_getElem? (i := 1212) (by decide +kernel)⟩
theorem lw_p98 : lw_okq (⟨"MeanCoatsModel", "readItem", "()V"⟩, 27) := ⟨⟨by decide +kernel, by decide +kernel⟩, List.mem_of_getElem? (i := 829) (by decide +kernel), List.mem_of_getElem? (i := 1215) (by decide +kernel), List.mem_of_getElem? (i := 1216) (by decide +kernel)⟩
theorem lw_p99 : lw_okq (⟨"MeanCoatsModel", "which", "([Ljava/lang/String;)I"⟩, 27) := ⟨⟨by decide +kernel, by decide +kernel⟩, List.mem_of_getElem? (i := 829) (by decide +kernel), List.mem_of_getElem? (i := 1219) (by decide +kernel), List.mem_of_getElem? (i := 1220) (by decide +kernel)⟩
theorem lw_p100 : lw_okq (⟨"MeanCoatsModel", "isWord", "(Ljava/lang/String;)Z"⟩, 27) := ⟨⟨by decide +kernel, by decide +kernel⟩, List.mem_of_getElem? (i := 829) (by decide +kernel), List.mem_of_getElem? (i := 1223) (by decide +kernel), List.mem_of_getElem? (i := 1224) (by decide +kernel)⟩
theorem lw_p101 : lw_okq (⟨"MeanCoatsModel", "readBody", "(I)V"⟩, 27) := ⟨⟨by decide +kernel, by decide +kernel⟩, List.mem_of_getElem? (i := 829) (by decide +kernel), List.mem_of_getElem? (i := 1229) (by decide +kernel), List.mem_of_getElem? (i := 1230) (by decide +kernel)⟩
theorem lw_p102 : lw_okq (⟨"MeanCoatsModel", "must", "(Z)V"⟩, 27) := ⟨⟨by decide +kernel, by decide +kernel⟩, List.mem_of_getElem? (i := 829) (by decide +kernel), List.mem_of_getElem? (i := 1233) (by decide +kernel), List.mem_of_getElem? (i := 1234) (by decide +kernel)⟩
theorem lw_p103 : lw_okq (⟨"MeanCoatsModel", "number", "(II)I"⟩, 27) := ⟨⟨by decide +kernel, by decide +kernel⟩, List.mem_of_getElem? (i := 829) (by decide +kernel), List.mem_of_getElem? (i := 1237) (by decide +kernel), List.mem_of_getElem? (i := 1238) (by decide +kernel)⟩
theorem lw_p104 : lw_okq (⟨"MeanCoatsModel", "isSign", "(I)Z"⟩, 27) := ⟨⟨by decide +kernel, by decide +kernel⟩, List.mem_of_getElem? (i := 829) (by decide +kernel), List.mem_of_getElem? (i := 1242) (by decide +kernel), List.mem_of_getElem? (i := 1243) (by decide +kernel)⟩
theorem lw_p105 : lw_okq (⟨"MeanCoatsModel", "isSo", "(I)V"⟩, 27) := ⟨⟨by decide +kernel, by decide +kernel⟩, List.mem_of_getElem? (i := 829) (by decide +kernel), List.mem_of_getElem? (i := 1250) (by decide +kernel), List.mem_of_getElem? (i := 1251) (by decide +kernel)⟩
def lw_privs_7 : List (MethodName × Nat) := [(⟨"MeanCoatsModel", "next", "()V"⟩, 27), (⟨"MeanCoatsModel", "byteAt", "(I)I"⟩, 27), (⟨"MeanCoatsModel", "readItem", "()V"⟩, 27), (⟨"MeanCoatsModel", "which", "([Ljava/lang/String;)I"⟩, 27), (⟨"MeanCoatsModel", "isWord", "(Ljava/lang/String;)Z"⟩, 27), (⟨"MeanCoatsModel", "readBody", "(I)V"⟩, 27), (⟨"MeanCoatsModel", "must", "(Z)V"⟩, 27), (⟨"MeanCoatsModel", "number", "(II)I"⟩, 27), (⟨"MeanCoatsModel", "isSign", "(I)Z"⟩, 27), (⟨"MeanCoatsModel", "isSo", "(I)V"⟩, 27)]
theorem lw_r7 : ∀ q ∈ lw_privs_7, lw_okq q := List.forall_mem_cons.mpr ⟨lw_p96, List.forall_mem_cons.mpr ⟨lw_p97, List.forall_mem_cons.mpr ⟨lw_p98, List.forall_mem_cons.mpr ⟨lw_p99, List.forall_mem_cons.mpr ⟨lw_p100, List.forall_mem_cons.mpr ⟨lw_p101, List.forall_mem_cons.mpr ⟨lw_p102, List.forall_mem_cons.mpr ⟨lw_p103, List.forall_mem_cons.mpr ⟨lw_p104, List.forall_mem_cons.mpr ⟨lw_p105, fun _ h => absurd h List.not_mem_nil⟩⟩⟩⟩⟩⟩⟩⟩⟩⟩
def lw_privs : List (MethodName × Nat) := lw_privs_1 ++ (lw_privs_2 ++ (lw_privs_3 ++ (lw_privs_4 ++ (lw_privs_5 ++ (lw_privs_6 ++ (lw_privs_7))))))
def lw_tbl : List Cond := k2_sels lw_privs ++ tables_1
theorem lw_privs_ok : ∀ q ∈ lw_privs, lw_okq q := by
  show ∀ q ∈ lw_privs_1 ++ (lw_privs_2 ++ (lw_privs_3 ++ (lw_privs_4 ++ (lw_privs_5 ++ (lw_privs_6 ++ (lw_privs_7)))))), lw_okq q
  exact List.forall_mem_append.mpr ⟨lw_r1, List.forall_mem_append.mpr ⟨lw_r2, List.forall_mem_append.mpr ⟨lw_r3, List.forall_mem_append.mpr ⟨lw_r4, List.forall_mem_append.mpr ⟨lw_r5, List.forall_mem_append.mpr ⟨lw_r6, lw_r7⟩⟩⟩⟩⟩⟩
-- ===== end of PART A; then your names; then what follows =====
end
section
theorem goodIn_r {big : List Cond} (ws : List Cond) (ps : List Nat) (hp : ws = ps.filterMap (fun i => big[i]?)) (h : ws.all goodWord = true) : GoodIn big ws := by
  intro w hw
  have h1 := List.all_eq_true.mp h w hw
  rw [hp] at hw
  obtain ⟨i, -, hi⟩ := List.mem_filterMap.mp hw
  have hm : w ∈ big := by first | exact List.mem_of_getElem? hi | exact List.getElem?_mem hi
  exact ⟨hm, good_of_word h1⟩
theorem goodIn_app {big a b : List Cond} (ha : GoodIn big a) (hb : GoodIn big b) : GoodIn big (a ++ b) := fun w h => (List.mem_append.mp h).elim (ha w) (hb w)
theorem goodIn_ca {big a b : List Cond} {c : Cond} (ha : GoodIn big (c :: a)) (hb : GoodIn big b) : GoodIn big (c :: (a ++ b)) := fun w h => (List.mem_cons.mp h).elim (fun e => ha w (List.mem_cons.mpr (Or.inl e))) (fun h => (List.mem_append.mp h).elim (fun h => ha w (List.mem_cons.mpr (Or.inr h))) (hb w))
theorem goodIn_sub {big ws : List Cond} (hm : ∀ w ∈ ws, w ∈ big) (h : ws.all goodWord = true) : GoodIn big ws := fun w hw => ⟨hm w hw, good_of_word (List.all_eq_true.mp h w hw)⟩
def RX0 : String := "MeanCoats$Reader"
def TX0 : u_T := fun k => match k with
  | 0 => ("MeanCoats$Reader", "inches", "[I", true)
  | 1 => ("MeanCoats$Reader", "bribe", "I", false)
  | 2 => ("MeanCoats$Reader", "pinned", "I", false)
  | _ => ("MeanCoats$Reader", "room", "I", false)
def tyX0 : Nat → FieldType := fun k => match k with
  | 0 => .array .int
  | 1 => .int
  | 2 => .int
  | _ => .int
abbrev wsX00 : List Cond := u_ws RX0 TX0 4
theorem nmX0 : ∀ a, a < 4 → ∀ b, b < 4 → a ≠ b → (TX0 a).2.1 ≠ (TX0 b).2.1 := by decide +kernel
theorem tyX0_ok : ∀ k, k < 4 → parseFieldDescriptor (TX0 k).2.2.1 = some (tyX0 k) := by decide +kernel
abbrev cX0_init : ByteArray := prog_2_method_1_code
def yX0_init : MethodName := ⟨RX0, "<init>", "()V"⟩
abbrev cX0_readItems : ByteArray := prog_2_method_2_code
def yX0_readItems : MethodName := ⟨RX0, "readItems", "(LMeanCoats$Tape;LMeanCoats$Town;Z)I"⟩
abbrev cX0_readItem : ByteArray := prog_2_method_3_code
def yX0_readItem : MethodName := ⟨RX0, "readItem", "(LMeanCoats$Tape;LMeanCoats$Town;Z)Z"⟩
abbrev cX0_kindTold : ByteArray := prog_2_method_4_code
def yX0_kindTold : MethodName := ⟨RX0, "kindTold", "(LMeanCoats$Tape;)I"⟩
abbrev cX0_nameOf : ByteArray := prog_2_method_5_code
def yX0_nameOf : MethodName := ⟨RX0, "nameOf", "(I)Ljava/lang/String;"⟩
abbrev cX0_readBody : ByteArray := prog_2_method_6_code
def yX0_readBody : MethodName := ⟨RX0, "readBody", "(LMeanCoats$Tape;LMeanCoats$Town;IZ)Z"⟩
abbrev cX0_readMeasures : ByteArray := prog_2_method_7_code
def yX0_readMeasures : MethodName := ⟨RX0, "readMeasures", "(LMeanCoats$Tape;)Z"⟩
abbrev cX0_readBribe : ByteArray := prog_2_method_8_code
def yX0_readBribe : MethodName := ⟨RX0, "readBribe", "(LMeanCoats$Tape;)Z"⟩
abbrev cX0_readPins : ByteArray := prog_2_method_9_code
def yX0_readPins : MethodName := ⟨RX0, "readPins", "(LMeanCoats$Tape;)Z"⟩
abbrev cX0_readRule : ByteArray := prog_2_method_10_code
def yX0_readRule : MethodName := ⟨RX0, "readRule", "(LMeanCoats$Tape;LMeanCoats$Town;Z)Z"⟩
abbrev cX0_ruleTold : ByteArray := prog_2_method_11_code
def yX0_ruleTold : MethodName := ⟨RX0, "ruleTold", "(LMeanCoats$Tape;)I"⟩
abbrev cX0_readEase : ByteArray := prog_2_method_12_code
def yX0_readEase : MethodName := ⟨RX0, "readEase", "(LMeanCoats$Tape;LMeanCoats$Town;Z)Z"⟩
abbrev cX0_readPrice : ByteArray := prog_2_method_13_code
def yX0_readPrice : MethodName := ⟨RX0, "readPrice", "(LMeanCoats$Tape;LMeanCoats$Town;Z)Z"⟩
abbrev cX0_takeNumber : ByteArray := prog_2_method_14_code
def yX0_takeNumber : MethodName := ⟨RX0, "takeNumber", "(LMeanCoats$Tape;II)I"⟩
def RX1 : String := "MeanCoats$Sheet"
def TX1 : u_T := fun k => match k with
  | 0 => ("MeanCoats$Sheet", "numbers", "[I", true)
  | 1 => ("MeanCoats$Sheet", "bits", "I", false)
  | _ => ("MeanCoats$Sheet", "length", "I", false)
def tyX1 : Nat → FieldType := fun k => match k with
  | 0 => .array .int
  | 1 => .int
  | _ => .int
abbrev wsX10 : List Cond := u_ws RX1 TX1 3
theorem nmX1 : ∀ a, a < 3 → ∀ b, b < 3 → a ≠ b → (TX1 a).2.1 ≠ (TX1 b).2.1 := by decide +kernel
theorem tyX1_ok : ∀ k, k < 3 → parseFieldDescriptor (TX1 k).2.2.1 = some (tyX1 k) := by decide +kernel
abbrev cX1_init : ByteArray := prog_3_method_1_code
def yX1_init : MethodName := ⟨RX1, "<init>", "()V"⟩
abbrev cX1_isMissing : ByteArray := prog_3_method_2_code
def yX1_isMissing : MethodName := ⟨RX1, "isMissing", "()Z"⟩
abbrev cX1_lay : ByteArray := prog_3_method_3_code
def yX1_lay : MethodName := ⟨RX1, "lay", "(II)V"⟩
abbrev cX1_put : ByteArray := prog_3_method_4_code
def yX1_put : MethodName := ⟨RX1, "put", "(II)V"⟩
abbrev cX1_has : ByteArray := prog_3_method_5_code
def yX1_has : MethodName := ⟨RX1, "has", "(II)Z"⟩
abbrev cX1_hasMeasures : ByteArray := prog_3_method_6_code
def yX1_hasMeasures : MethodName := ⟨RX1, "hasMeasures", "(I)Z"⟩
def RX2 : String := "MeanCoats$Tailor"
def TX2 : u_T := fun k => match k with
  | 0 => ("MeanCoats$Tailor", "shown", "[I", true)
  | 1 => ("MeanCoats$Tailor", "rising", "[I", true)
  | 2 => ("MeanCoats$Tailor", "times", "[I", true)
  | 3 => ("MeanCoats$Tailor", "coat", "[I", true)
  | _ => ("MeanCoats$Tailor", "bodies", "I", false)
def tyX2 : Nat → FieldType := fun k => match k with
  | 0 => .array .int
  | 1 => .array .int
  | 2 => .array .int
  | 3 => .array .int
  | _ => .int
abbrev wsX20 : List Cond := u_ws RX2 TX2 5
theorem nmX2 : ∀ a, a < 5 → ∀ b, b < 5 → a ≠ b → (TX2 a).2.1 ≠ (TX2 b).2.1 := by decide +kernel
theorem tyX2_ok : ∀ k, k < 5 → parseFieldDescriptor (TX2 k).2.2.1 = some (tyX2 k) := by decide +kernel
abbrev cX2_init : ByteArray := prog_4_method_1_code
def yX2_init : MethodName := ⟨RX2, "<init>", "()V"⟩
abbrev cX2_measureAll : ByteArray := prog_4_method_2_code
def yX2_measureAll : MethodName := ⟨RX2, "measureAll", "(LMeanCoats$Town;)V"⟩
abbrev cX2_show : ByteArray := prog_4_method_3_code
def yX2_show : MethodName := ⟨RX2, "show", "(III)V"⟩
abbrev cX2_slip : ByteArray := prog_4_method_4_code
def yX2_slip : MethodName := ⟨RX2, "slip", "(III)V"⟩
abbrev cX2_arrange : ByteArray := prog_4_method_5_code
def yX2_arrange : MethodName := ⟨RX2, "arrange", "(I)V"⟩
abbrev cX2_cutAll : ByteArray := prog_4_method_6_code
def yX2_cutAll : MethodName := ⟨RX2, "cutAll", "(II)Z"⟩
abbrev cX2_cutOne : ByteArray := prog_4_method_7_code
def yX2_cutOne : MethodName := ⟨RX2, "cutOne", "(III)I"⟩
abbrev cX2_cutMeanOf : ByteArray := prog_4_method_8_code
def yX2_cutMeanOf : MethodName := ⟨RX2, "cutMeanOf", "(II)I"⟩
abbrev cX2_sumOf : ByteArray := prog_4_method_9_code
def yX2_sumOf : MethodName := ⟨RX2, "sumOf", "(II)I"⟩
abbrev cX2_timesOf : ByteArray := prog_4_method_10_code
def yX2_timesOf : MethodName := ⟨RX2, "timesOf", "(I)I"⟩
abbrev cX2_middleOf : ByteArray := prog_4_method_11_code
def yX2_middleOf : MethodName := ⟨RX2, "middleOf", "(II)I"⟩
abbrev cX2_greatestOf : ByteArray := prog_4_method_12_code
def yX2_greatestOf : MethodName := ⟨RX2, "greatestOf", "(II)I"⟩
abbrev cX2_farOf : ByteArray := prog_4_method_13_code
def yX2_farOf : MethodName := ⟨RX2, "farOf", "(LMeanCoats$Town;I)I"⟩
abbrev cX2_farOfPair : ByteArray := prog_4_method_14_code
def yX2_farOfPair : MethodName := ⟨RX2, "farOfPair", "(LMeanCoats$Town;II)I"⟩
abbrev cX2_costOf : ByteArray := prog_4_method_15_code
def yX2_costOf : MethodName := ⟨RX2, "costOf", "(LMeanCoats$Town;I)I"⟩
abbrev cX2_fitting : ByteArray := prog_4_method_16_code
def yX2_fitting : MethodName := ⟨RX2, "fitting", "(LMeanCoats$Town;I)I"⟩
def RX3 : String := "MeanCoats$Tape"
def TX3 : u_T := fun k => match k with
  | 0 => ("MeanCoats$Tape", "bytes", "[I", true)
  | 1 => ("MeanCoats$Tape", "begins", "[I", true)
  | 2 => ("MeanCoats$Tape", "ends", "[I", true)
  | 3 => ("MeanCoats$Tape", "sorts", "[I", true)
  | 4 => ("MeanCoats$Tape", "length", "I", false)
  | 5 => ("MeanCoats$Tape", "tokens", "I", false)
  | _ => ("MeanCoats$Tape", "at", "I", false)
def tyX3 : Nat → FieldType := fun k => match k with
  | 0 => .array .int
  | 1 => .array .int
  | 2 => .array .int
  | 3 => .array .int
  | 4 => .int
  | 5 => .int
  | _ => .int
abbrev wsX30 : List Cond := u_ws RX3 TX3 7
theorem nmX3 : ∀ a, a < 7 → ∀ b, b < 7 → a ≠ b → (TX3 a).2.1 ≠ (TX3 b).2.1 := by decide +kernel
theorem tyX3_ok : ∀ k, k < 7 → parseFieldDescriptor (TX3 k).2.2.1 = some (tyX3 k) := by decide +kernel
abbrev cX3_init : ByteArray := prog_5_method_1_code
def yX3_init : MethodName := ⟨RX3, "<init>", "()V"⟩
abbrev cX3_add : ByteArray := prog_5_method_2_code
def yX3_add : MethodName := ⟨RX3, "add", "(I)V"⟩
abbrev cX3_split : ByteArray := prog_5_method_3_code
def yX3_split : MethodName := ⟨RX3, "split", "()V"⟩
abbrev cX3_lay : ByteArray := prog_5_method_4_code
def yX3_lay : MethodName := ⟨RX3, "lay", "(IIII)V"⟩
abbrev cX3_sortOf : ByteArray := prog_5_method_5_code
def yX3_sortOf : MethodName := ⟨RX3, "sortOf", "(I)I"⟩
abbrev cX3_moveOn : ByteArray := prog_5_method_6_code
def yX3_moveOn : MethodName := ⟨RX3, "moveOn", "()V"⟩
abbrev cX3_begin : ByteArray := prog_5_method_7_code
def yX3_begin : MethodName := ⟨RX3, "begin", "()I"⟩
abbrev cX3_isEnd : ByteArray := prog_5_method_8_code
def yX3_isEnd : MethodName := ⟨RX3, "isEnd", "()Z"⟩
abbrev cX3_isSign : ByteArray := prog_5_method_9_code
def yX3_isSign : MethodName := ⟨RX3, "isSign", "(C)Z"⟩
abbrev cX3_isWord : ByteArray := prog_5_method_10_code
def yX3_isWord : MethodName := ⟨RX3, "isWord", "(Ljava/lang/String;)Z"⟩
abbrev cX3_numberWithin : ByteArray := prog_5_method_11_code
def yX3_numberWithin : MethodName := ⟨RX3, "numberWithin", "(II)I"⟩
def RX4 : String := "MeanCoats$Town"
def TX4 : u_T := fun k => match k with
  | 0 => ("MeanCoats$Town", "kinds", "[I", true)
  | 1 => ("MeanCoats$Town", "inches", "[I", true)
  | 2 => ("MeanCoats$Town", "bribes", "[I", true)
  | 3 => ("MeanCoats$Town", "pinned", "[I", true)
  | 4 => ("MeanCoats$Town", "oldCoats", "[I", true)
  | 5 => ("MeanCoats$Town", "spots", "[I", true)
  | 6 => ("MeanCoats$Town", "bodies", "I", false)
  | 7 => ("MeanCoats$Town", "here", "I", false)
  | 8 => ("MeanCoats$Town", "rule", "I", false)
  | 9 => ("MeanCoats$Town", "ease", "I", false)
  | 10 => ("MeanCoats$Town", "price", "I", false)
  | 11 => ("MeanCoats$Town", "springs", "I", false)
  | _ => ("MeanCoats$Town", "z", "I", false)
def tyX4 : Nat → FieldType := fun k => match k with
  | 0 => .array .int
  | 1 => .array .int
  | 2 => .array .int
  | 3 => .array .int
  | 4 => .array .int
  | 5 => .array .int
  | 6 => .int
  | 7 => .int
  | 8 => .int
  | 9 => .int
  | 10 => .int
  | 11 => .int
  | _ => .int
abbrev wsX40 : List Cond := u_ws RX4 TX4 13
theorem nmX4 : ∀ a, a < 13 → ∀ b, b < 13 → a ≠ b → (TX4 a).2.1 ≠ (TX4 b).2.1 := by decide +kernel
theorem tyX4_ok : ∀ k, k < 13 → parseFieldDescriptor (TX4 k).2.2.1 = some (tyX4 k) := by decide +kernel
abbrev cX4_init : ByteArray := prog_6_method_1_code
def yX4_init : MethodName := ⟨RX4, "<init>", "()V"⟩
abbrev cX4_become : ByteArray := prog_6_method_2_code
def yX4_become : MethodName := ⟨RX4, "become", "(LMeanCoats$Town;)V"⟩
abbrev cX4_add : ByteArray := prog_6_method_3_code
def yX4_add : MethodName := ⟨RX4, "add", "(IIII)I"⟩
abbrev cX4_tell : ByteArray := prog_6_method_4_code
def yX4_tell : MethodName := ⟨RX4, "tell", "(II)I"⟩
abbrev cX4_mayBecome : ByteArray := prog_6_method_5_code
def yX4_mayBecome : MethodName := ⟨RX4, "mayBecome", "(II)Z"⟩
abbrev cX4_put : ByteArray := prog_6_method_6_code
def yX4_put : MethodName := ⟨RX4, "put", "(III)V"⟩
abbrev cX4_isHere : ByteArray := prog_6_method_7_code
def yX4_isHere : MethodName := ⟨RX4, "isHere", "(I)Z"⟩
abbrev cX4_bribesHere : ByteArray := prog_6_method_8_code
def yX4_bribesHere : MethodName := ⟨RX4, "bribesHere", "(I)Z"⟩
abbrev cX4_inchesOf : ByteArray := prog_6_method_9_code
def yX4_inchesOf : MethodName := ⟨RX4, "inchesOf", "(II)I"⟩
abbrev cX4_setInches : ByteArray := prog_6_method_10_code
def yX4_setInches : MethodName := ⟨RX4, "setInches", "(III)V"⟩
abbrev cX4_measuredOf : ByteArray := prog_6_method_11_code
def yX4_measuredOf : MethodName := ⟨RX4, "measuredOf", "(II)I"⟩
abbrev cX4_widthAtBribe : ByteArray := prog_6_method_12_code
def yX4_widthAtBribe : MethodName := ⟨RX4, "widthAtBribe", "(II)I"⟩
abbrev cX4_timesOf : ByteArray := prog_6_method_13_code
def yX4_timesOf : MethodName := ⟨RX4, "timesOf", "(I)I"⟩
abbrev cX4_readBribes : ByteArray := prog_6_method_14_code
def yX4_readBribes : MethodName := ⟨RX4, "readBribes", "([I)V"⟩
abbrev cX4_writeBribes : ByteArray := prog_6_method_15_code
def yX4_writeBribes : MethodName := ⟨RX4, "writeBribes", "([I)V"⟩
abbrev cX4_addSpring : ByteArray := prog_6_method_16_code
def yX4_addSpring : MethodName := ⟨RX4, "addSpring", "([I)I"⟩
abbrev cX4_oldCoat : ByteArray := prog_6_method_17_code
def yX4_oldCoat : MethodName := ⟨RX4, "oldCoat", "(II)I"⟩
abbrev cX4_draw : ByteArray := prog_6_method_18_code
def yX4_draw : MethodName := ⟨RX4, "draw", "()I"⟩
abbrev cX4_spotsHeld : ByteArray := prog_6_method_19_code
def yX4_spotsHeld : MethodName := ⟨RX4, "spotsHeld", "()I"⟩
def RX5 : String := "MeanCoats"
def TX5 : u_T := fun k => match k with
  | 0 => ("MeanCoats", "town", "LMeanCoats$Town;", true)
  | 1 => ("MeanCoats", "kept", "LMeanCoats$Town;", true)
  | 2 => ("MeanCoats", "tailor", "LMeanCoats$Tailor;", true)
  | 3 => ("MeanCoats", "tape", "LMeanCoats$Tape;", true)
  | 4 => ("MeanCoats", "reader", "LMeanCoats$Reader;", true)
  | 5 => ("MeanCoats", "sheets", "[LMeanCoats$Sheet;", true)
  | 6 => ("MeanCoats", "findings", "[I", true)
  | 7 => ("MeanCoats", "bribesBefore", "[I", true)
  | 8 => ("MeanCoats", "coatBefore", "[I", true)
  | _ => ("MeanCoats", "isKept", "Z", false)
def tyX5 : Nat → FieldType := fun k => match k with
  | 0 => .object "MeanCoats$Town"
  | 1 => .object "MeanCoats$Town"
  | 2 => .object "MeanCoats$Tailor"
  | 3 => .object "MeanCoats$Tape"
  | 4 => .object "MeanCoats$Reader"
  | 5 => .array (.object "MeanCoats$Sheet")
  | 6 => .array .int
  | 7 => .array .int
  | 8 => .array .int
  | _ => .boolean
abbrev wsX50 : List Cond := u_ws RX5 TX5 10
theorem nmX5 : ∀ a, a < 10 → ∀ b, b < 10 → a ≠ b → (TX5 a).2.1 ≠ (TX5 b).2.1 := by decide +kernel
theorem tyX5_ok : ∀ k, k < 10 → parseFieldDescriptor (TX5 k).2.2.1 = some (tyX5 k) := by decide +kernel
abbrev cX5_init : ByteArray := prog_1_method_1_code
def yX5_init : MethodName := ⟨RX5, "<init>", "()V"⟩
abbrev cX5_body : ByteArray := prog_1_method_2_code
def yX5_body : MethodName := ⟨RX5, "body", "(I)I"⟩
abbrev cX5_bodyOf : ByteArray := prog_1_method_3_code
def yX5_bodyOf : MethodName := ⟨RX5, "bodyOf", "(II)I"⟩
abbrev cX5_change : ByteArray := prog_1_method_4_code
def yX5_change : MethodName := ⟨RX5, "change", "(III)I"⟩
abbrev cX5_here : ByteArray := prog_1_method_5_code
def yX5_here : MethodName := ⟨RX5, "here", "(IZ)I"⟩
abbrev cX5_rule : ByteArray := prog_1_method_6_code
def yX5_rule : MethodName := ⟨RX5, "rule", "(I)I"⟩
abbrev cX5_ease : ByteArray := prog_1_method_7_code
def yX5_ease : MethodName := ⟨RX5, "ease", "(I)I"⟩
abbrev cX5_price : ByteArray := prog_1_method_8_code
def yX5_price : MethodName := ⟨RX5, "price", "(I)I"⟩
abbrev cX5_famine : ByteArray := prog_1_method_9_code
def yX5_famine : MethodName := ⟨RX5, "famine", "(I)I"⟩
abbrev cX5_coat : ByteArray := prog_1_method_10_code
def yX5_coat : MethodName := ⟨RX5, "coat", "(I)I"⟩
abbrev cX5_mean : ByteArray := prog_1_method_11_code
def yX5_mean : MethodName := ⟨RX5, "mean", "(II)I"⟩
abbrev cX5_cost : ByteArray := prog_1_method_12_code
def yX5_cost : MethodName := ⟨RX5, "cost", "(I)I"⟩
abbrev cX5_fits : ByteArray := prog_1_method_13_code
def yX5_fits : MethodName := ⟨RX5, "fits", "()I"⟩
abbrev cX5_costs : ByteArray := prog_1_method_14_code
def yX5_costs : MethodName := ⟨RX5, "costs", "()I"⟩
abbrev cX5_fines : ByteArray := prog_1_method_15_code
def yX5_fines : MethodName := ⟨RX5, "fines", "()I"⟩
abbrev cX5_pins : ByteArray := prog_1_method_16_code
def yX5_pins : MethodName := ⟨RX5, "pins", "(I)I"⟩
abbrev cX5_worst : ByteArray := prog_1_method_17_code
def yX5_worst : MethodName := ⟨RX5, "worst", "()I"⟩
abbrev cX5_marry : ByteArray := prog_1_method_18_code
def yX5_marry : MethodName := ⟨RX5, "marry", "(II)I"⟩
abbrev cX5_bride : ByteArray := prog_1_method_19_code
def yX5_bride : MethodName := ⟨RX5, "bride", "(I)I"⟩
abbrev cX5_send : ByteArray := prog_1_method_20_code
def yX5_send : MethodName := ⟨RX5, "send", "(I)I"⟩
abbrev cX5_best : ByteArray := prog_1_method_21_code
def yX5_best : MethodName := ⟨RX5, "best", "()I"⟩
abbrev cX5_easeFor : ByteArray := prog_1_method_22_code
def yX5_easeFor : MethodName := ⟨RX5, "easeFor", "()I"⟩
abbrev cX5_sways : ByteArray := prog_1_method_23_code
def yX5_sways : MethodName := ⟨RX5, "sways", "(II)I"⟩
abbrev cX5_sized : ByteArray := prog_1_method_24_code
def yX5_sized : MethodName := ⟨RX5, "sized", "(II)I"⟩
abbrev cX5_bribe : ByteArray := prog_1_method_25_code
def yX5_bribe : MethodName := ⟨RX5, "bribe", "(I)I"⟩
abbrev cX5_settled : ByteArray := prog_1_method_26_code
def yX5_settled : MethodName := ⟨RX5, "settled", "()I"⟩
abbrev cX5_rounds : ByteArray := prog_1_method_27_code
def yX5_rounds : MethodName := ⟨RX5, "rounds", "(I)I"⟩
abbrev cX5_settles : ByteArray := prog_1_method_28_code
def yX5_settles : MethodName := ⟨RX5, "settles", "()I"⟩
abbrev cX5_spring : ByteArray := prog_1_method_29_code
def yX5_spring : MethodName := ⟨RX5, "spring", "()I"⟩
abbrev cX5_old : ByteArray := prog_1_method_30_code
def yX5_old : MethodName := ⟨RX5, "old", "(II)I"⟩
abbrev cX5_lived : ByteArray := prog_1_method_31_code
def yX5_lived : MethodName := ⟨RX5, "lived", "(I)I"⟩
abbrev cX5_surely : ByteArray := prog_1_method_32_code
def yX5_surely : MethodName := ⟨RX5, "surely", "(II)I"⟩
abbrev cX5_odds : ByteArray := prog_1_method_33_code
def yX5_odds : MethodName := ⟨RX5, "odds", "(I)I"⟩
abbrev cX5_seed : ByteArray := prog_1_method_34_code
def yX5_seed : MethodName := ⟨RX5, "seed", "(I)I"⟩
abbrev cX5_feed : ByteArray := prog_1_method_35_code
def yX5_feed : MethodName := ⟨RX5, "feed", "(II)I"⟩
abbrev cX5_wipe : ByteArray := prog_1_method_36_code
def yX5_wipe : MethodName := ⟨RX5, "wipe", "()I"⟩
abbrev cX5_text : ByteArray := prog_1_method_37_code
def yX5_text : MethodName := ⟨RX5, "text", "()I"⟩
abbrev cX5_hold : ByteArray := prog_1_method_38_code
def yX5_hold : MethodName := ⟨RX5, "hold", "(II)I"⟩
abbrev cX5_as : ByteArray := prog_1_method_39_code
def yX5_as : MethodName := ⟨RX5, "as", "(II)I"⟩
abbrev cX5_sheet : ByteArray := prog_1_method_40_code
def yX5_sheet : MethodName := ⟨RX5, "sheet", "(III)I"⟩
abbrev cX5_write : ByteArray := prog_1_method_41_code
def yX5_write : MethodName := ⟨RX5, "write", "(III)I"⟩
abbrev cX5_copy : ByteArray := prog_1_method_42_code
def yX5_copy : MethodName := ⟨RX5, "copy", "(IIIII)I"⟩
abbrev cX5_load : ByteArray := prog_1_method_43_code
def yX5_load : MethodName := ⟨RX5, "load", "(I)I"⟩
abbrev cX5_judge : ByteArray := prog_1_method_44_code
def yX5_judge : MethodName := ⟨RX5, "judge", "(I)I"⟩
abbrev cX5_image : ByteArray := prog_1_method_45_code
def yX5_image : MethodName := ⟨RX5, "image", "()I"⟩
abbrev cX5_undo : ByteArray := prog_1_method_46_code
def yX5_undo : MethodName := ⟨RX5, "undo", "()I"⟩
abbrev cX5_tear : ByteArray := prog_1_method_47_code
def yX5_tear : MethodName := ⟨RX5, "tear", "()I"⟩
abbrev cX5_count : ByteArray := prog_1_method_48_code
def yX5_count : MethodName := ⟨RX5, "count", "(I)I"⟩
abbrev cX5_status : ByteArray := prog_1_method_49_code
def yX5_status : MethodName := ⟨RX5, "status", "(I)I"⟩
abbrev cX5_finding : ByteArray := prog_1_method_50_code
def yX5_finding : MethodName := ⟨RX5, "finding", "(I)I"⟩
abbrev cX5_within : ByteArray := prog_1_method_51_code
def yX5_within : MethodName := ⟨RX5, "within", "(III)Z"⟩
abbrev cX5_holds : ByteArray := prog_1_method_52_code
def yX5_holds : MethodName := ⟨RX5, "holds", "(II)Z"⟩
abbrev cX5_isKind : ByteArray := prog_1_method_53_code
def yX5_isKind : MethodName := ⟨RX5, "isKind", "(I)Z"⟩
abbrev cX5_isMeasure : ByteArray := prog_1_method_54_code
def yX5_isMeasure : MethodName := ⟨RX5, "isMeasure", "(I)Z"⟩
abbrev cX5_isSpot : ByteArray := prog_1_method_55_code
def yX5_isSpot : MethodName := ⟨RX5, "isSpot", "(I)Z"⟩
abbrev cX5_isSheet : ByteArray := prog_1_method_56_code
def yX5_isSheet : MethodName := ⟨RX5, "isSheet", "(I)Z"⟩
abbrev cX5_isBody : ByteArray := prog_1_method_57_code
def yX5_isBody : MethodName := ⟨RX5, "isBody", "(I)Z"⟩
abbrev cX5_isSpring : ByteArray := prog_1_method_58_code
def yX5_isSpring : MethodName := ⟨RX5, "isSpring", "(I)Z"⟩
abbrev cX5_isUnder : ByteArray := prog_1_method_59_code
def yX5_isUnder : MethodName := ⟨RX5, "isUnder", "(II)Z"⟩
abbrev cX5_greatestDivisor : ByteArray := prog_1_method_60_code
def yX5_greatestDivisor : MethodName := ⟨RX5, "greatestDivisor", "(II)I"⟩
abbrev cX5_cutForAllHere : ByteArray := prog_1_method_61_code
def yX5_cutForAllHere : MethodName := ⟨RX5, "cutForAllHere", "()Z"⟩
abbrev cX5_fittingBy : ByteArray := prog_1_method_62_code
def yX5_fittingBy : MethodName := ⟨RX5, "fittingBy", "(II)I"⟩
abbrev cX5_fittingIfSent : ByteArray := prog_1_method_63_code
def yX5_fittingIfSent : MethodName := ⟨RX5, "fittingIfSent", "(I)I"⟩
abbrev cX5_coatIfSized : ByteArray := prog_1_method_64_code
def yX5_coatIfSized : MethodName := ⟨RX5, "coatIfSized", "(III)I"⟩
abbrev cX5_cutsAsIn : ByteArray := prog_1_method_65_code
def yX5_cutsAsIn : MethodName := ⟨RX5, "cutsAsIn", "(II)Z"⟩
abbrev cX5_slipAll : ByteArray := prog_1_method_66_code
def yX5_slipAll : MethodName := ⟨RX5, "slipAll", "()V"⟩
abbrev cX5_isCoatAsBefore : ByteArray := prog_1_method_67_code
def yX5_isCoatAsBefore : MethodName := ⟨RX5, "isCoatAsBefore", "()Z"⟩
abbrev cX5_costAtBribe : ByteArray := prog_1_method_68_code
def yX5_costAtBribe : MethodName := ⟨RX5, "costAtBribe", "(II)I"⟩
abbrev cX5_bestBribe : ByteArray := prog_1_method_69_code
def yX5_bestBribe : MethodName := ⟨RX5, "bestBribe", "(I)I"⟩
abbrev cX5_isSettled : ByteArray := prog_1_method_70_code
def yX5_isSettled : MethodName := ⟨RX5, "isSettled", "()Z"⟩
abbrev cX5_doRound : ByteArray := prog_1_method_71_code
def yX5_doRound : MethodName := ⟨RX5, "doRound", "()V"⟩
def RX6 : String := "MeanCoatsModel"
def TX6 : u_T := fun k => match k with
  | 0 => ("MeanCoatsModel", "now", "[I", true)
  | 1 => ("MeanCoatsModel", "kept", "[I", true)
  | 2 => ("MeanCoatsModel", "isKept", "Z", false)
  | 3 => ("MeanCoatsModel", "found", "[I", true)
  | 4 => ("MeanCoatsModel", "coat", "[I", true)
  | 5 => ("MeanCoatsModel", "slips", "[I", true)
  | 6 => ("MeanCoatsModel", "row", "[I", true)
  | 7 => ("MeanCoatsModel", "rowMany", "I", false)
  | 8 => ("MeanCoatsModel", "bribes", "[I", true)
  | 9 => ("MeanCoatsModel", "inAll", "I", false)
  | 10 => ("MeanCoatsModel", "inAny", "I", false)
  | 11 => ("MeanCoatsModel", "tape", "[I", true)
  | 12 => ("MeanCoatsModel", "taped", "I", false)
  | 13 => ("MeanCoatsModel", "begins", "I", false)
  | 14 => ("MeanCoatsModel", "ends", "I", false)
  | 15 => ("MeanCoatsModel", "sort", "I", false)
  | 16 => ("MeanCoatsModel", "value", "I", false)
  | 17 => ("MeanCoatsModel", "isWrong", "Z", false)
  | 18 => ("MeanCoatsModel", "kinds", "[Ljava/lang/String;", true)
  | 19 => ("MeanCoatsModel", "rules", "[Ljava/lang/String;", true)
  | 20 => ("MeanCoatsModel", "items", "[I", true)
  | 21 => ("MeanCoatsModel", "itemMany", "I", false)
  | 22 => ("MeanCoatsModel", "bodyMany", "I", false)
  | 23 => ("MeanCoatsModel", "widths", "[I", true)
  | 24 => ("MeanCoatsModel", "sizes", "[I", true)
  | 25 => ("MeanCoatsModel", "numbers", "[I", true)
  | _ => ("MeanCoatsModel", "moved", "[I", true)
def tyX6 : Nat → FieldType := fun k => match k with
  | 0 => .array .int
  | 1 => .array .int
  | 2 => .boolean
  | 3 => .array .int
  | 4 => .array .int
  | 5 => .array .int
  | 6 => .array .int
  | 7 => .int
  | 8 => .array .int
  | 9 => .int
  | 10 => .int
  | 11 => .array .int
  | 12 => .int
  | 13 => .int
  | 14 => .int
  | 15 => .int
  | 16 => .int
  | 17 => .boolean
  | 18 => .array (.object "java/lang/String")
  | 19 => .array (.object "java/lang/String")
  | 20 => .array .int
  | 21 => .int
  | 22 => .int
  | 23 => .array .int
  | 24 => .array .int
  | 25 => .array .int
  | _ => .array .int
abbrev wsX60 : List Cond := u_ws RX6 TX6 27
theorem nmX6 : ∀ a, a < 27 → ∀ b, b < 27 → a ≠ b → (TX6 a).2.1 ≠ (TX6 b).2.1 := by decide +kernel
theorem tyX6_ok : ∀ k, k < 27 → parseFieldDescriptor (TX6 k).2.2.1 = some (tyX6 k) := by decide +kernel
abbrev cX6_init : ByteArray := prog_8_method_1_code
def yX6_init : MethodName := ⟨RX6, "<init>", "()V"⟩
abbrev cX6_finding : ByteArray := prog_8_method_2_code
def yX6_finding : MethodName := ⟨RX6, "finding", "(I)I"⟩
abbrev cX6_within : ByteArray := prog_8_method_3_code
def yX6_within : MethodName := ⟨RX6, "within", "(III)Z"⟩
abbrev cX6_has : ByteArray := prog_8_method_4_code
def yX6_has : MethodName := ⟨RX6, "has", "(II)Z"⟩
abbrev cX6_bits : ByteArray := prog_8_method_5_code
def yX6_bits : MethodName := ⟨RX6, "bits", "(I)I"⟩
abbrev cX6_become : ByteArray := prog_8_method_6_code
def yX6_become : MethodName := ⟨RX6, "become", "(II)I"⟩
abbrev cX6_isBody : ByteArray := prog_8_method_7_code
def yX6_isBody : MethodName := ⟨RX6, "isBody", "(I)Z"⟩
abbrev cX6_bodyIs : ByteArray := prog_8_method_8_code
def yX6_bodyIs : MethodName := ⟨RX6, "bodyIs", "(II)I"⟩
abbrev cX6_comes : ByteArray := prog_8_method_9_code
def yX6_comes : MethodName := ⟨RX6, "comes", "(IIII)I"⟩
abbrev cX6_body : ByteArray := prog_8_method_10_code
def yX6_body : MethodName := ⟨RX6, "body", "(I)I"⟩
abbrev cX6_countsOf : ByteArray := prog_8_method_11_code
def yX6_countsOf : MethodName := ⟨RX6, "countsOf", "(I)I"⟩
abbrev cX6_measured : ByteArray := prog_8_method_12_code
def yX6_measured : MethodName := ⟨RX6, "measured", "(II)I"⟩
abbrev cX6_bodyOf : ByteArray := prog_8_method_13_code
def yX6_bodyOf : MethodName := ⟨RX6, "bodyOf", "(II)I"⟩
abbrev cX6_mayBe : ByteArray := prog_8_method_14_code
def yX6_mayBe : MethodName := ⟨RX6, "mayBe", "(II)Z"⟩
abbrev cX6_change : ByteArray := prog_8_method_15_code
def yX6_change : MethodName := ⟨RX6, "change", "(III)I"⟩
abbrev cX6_here : ByteArray := prog_8_method_16_code
def yX6_here : MethodName := ⟨RX6, "here", "(IZ)I"⟩
abbrev cX6_rule : ByteArray := prog_8_method_17_code
def yX6_rule : MethodName := ⟨RX6, "rule", "(I)I"⟩
abbrev cX6_ease : ByteArray := prog_8_method_18_code
def yX6_ease : MethodName := ⟨RX6, "ease", "(I)I"⟩
abbrev cX6_price : ByteArray := prog_8_method_19_code
def yX6_price : MethodName := ⟨RX6, "price", "(I)I"⟩
abbrev cX6_hereSet : ByteArray := prog_8_method_20_code
def yX6_hereSet : MethodName := ⟨RX6, "hereSet", "()I"⟩
abbrev cX6_famine : ByteArray := prog_8_method_21_code
def yX6_famine : MethodName := ⟨RX6, "famine", "(I)I"⟩
abbrev cX6_findRow : ByteArray := prog_8_method_22_code
def yX6_findRow : MethodName := ⟨RX6, "findRow", "(II)V"⟩
abbrev cX6_rowSum : ByteArray := prog_8_method_23_code
def yX6_rowSum : MethodName := ⟨RX6, "rowSum", "()I"⟩
abbrev cX6_cutFor : ByteArray := prog_8_method_24_code
def yX6_cutFor : MethodName := ⟨RX6, "cutFor", "(II)I"⟩
abbrev cX6_cut : ByteArray := prog_8_method_25_code
def yX6_cut : MethodName := ⟨RX6, "cut", "(I)V"⟩
abbrev cX6_isMeasure : ByteArray := prog_8_method_26_code
def yX6_isMeasure : MethodName := ⟨RX6, "isMeasure", "(I)Z"⟩
abbrev cX6_coat : ByteArray := prog_8_method_27_code
def yX6_coat : MethodName := ⟨RX6, "coat", "(I)I"⟩
abbrev cX6_divisor : ByteArray := prog_8_method_28_code
def yX6_divisor : MethodName := ⟨RX6, "divisor", "(II)I"⟩
abbrev cX6_mean : ByteArray := prog_8_method_29_code
def yX6_mean : MethodName := ⟨RX6, "mean", "(II)I"⟩
abbrev cX6_distance : ByteArray := prog_8_method_30_code
def yX6_distance : MethodName := ⟨RX6, "distance", "(I)I"⟩
abbrev cX6_costOf : ByteArray := prog_8_method_31_code
def yX6_costOf : MethodName := ⟨RX6, "costOf", "(I)I"⟩
abbrev cX6_cost : ByteArray := prog_8_method_32_code
def yX6_cost : MethodName := ⟨RX6, "cost", "(I)I"⟩
abbrev cX6_fitOf : ByteArray := prog_8_method_33_code
def yX6_fitOf : MethodName := ⟨RX6, "fitOf", "(I)I"⟩
abbrev cX6_fits : ByteArray := prog_8_method_34_code
def yX6_fits : MethodName := ⟨RX6, "fits", "()I"⟩
abbrev cX6_costs : ByteArray := prog_8_method_35_code
def yX6_costs : MethodName := ⟨RX6, "costs", "()I"⟩
abbrev cX6_fines : ByteArray := prog_8_method_36_code
def yX6_fines : MethodName := ⟨RX6, "fines", "()I"⟩
abbrev cX6_pins : ByteArray := prog_8_method_37_code
def yX6_pins : MethodName := ⟨RX6, "pins", "(I)I"⟩
abbrev cX6_worst : ByteArray := prog_8_method_38_code
def yX6_worst : MethodName := ⟨RX6, "worst", "()I"⟩
abbrev cX6_together : ByteArray := prog_8_method_39_code
def yX6_together : MethodName := ⟨RX6, "together", "(II)I"⟩
abbrev cX6_marry : ByteArray := prog_8_method_40_code
def yX6_marry : MethodName := ⟨RX6, "marry", "(II)I"⟩
abbrev cX6_bride : ByteArray := prog_8_method_41_code
def yX6_bride : MethodName := ⟨RX6, "bride", "(I)I"⟩
abbrev cX6_send : ByteArray := prog_8_method_42_code
def yX6_send : MethodName := ⟨RX6, "send", "(I)I"⟩
abbrev cX6_best : ByteArray := prog_8_method_43_code
def yX6_best : MethodName := ⟨RX6, "best", "()I"⟩
abbrev cX6_easeFor : ByteArray := prog_8_method_44_code
def yX6_easeFor : MethodName := ⟨RX6, "easeFor", "()I"⟩
abbrev cX6_isAway : ByteArray := prog_8_method_45_code
def yX6_isAway : MethodName := ⟨RX6, "isAway", "(I)Z"⟩
abbrev cX6_sways : ByteArray := prog_8_method_46_code
def yX6_sways : MethodName := ⟨RX6, "sways", "(II)I"⟩
abbrev cX6_sized : ByteArray := prog_8_method_47_code
def yX6_sized : MethodName := ⟨RX6, "sized", "(II)I"⟩
abbrev cX6_doesBribe : ByteArray := prog_8_method_48_code
def yX6_doesBribe : MethodName := ⟨RX6, "doesBribe", "(I)Z"⟩
abbrev cX6_costBy : ByteArray := prog_8_method_49_code
def yX6_costBy : MethodName := ⟨RX6, "costBy", "(II)I"⟩
abbrev cX6_bribeOf : ByteArray := prog_8_method_50_code
def yX6_bribeOf : MethodName := ⟨RX6, "bribeOf", "(I)I"⟩
abbrev cX6_bribe : ByteArray := prog_8_method_51_code
def yX6_bribe : MethodName := ⟨RX6, "bribe", "(I)I"⟩
abbrev cX6_isSettled : ByteArray := prog_8_method_52_code
def yX6_isSettled : MethodName := ⟨RX6, "isSettled", "()Z"⟩
abbrev cX6_settled : ByteArray := prog_8_method_53_code
def yX6_settled : MethodName := ⟨RX6, "settled", "()I"⟩
abbrev cX6_round : ByteArray := prog_8_method_54_code
def yX6_round : MethodName := ⟨RX6, "round", "()V"⟩
abbrev cX6_keepBribes : ByteArray := prog_8_method_55_code
def yX6_keepBribes : MethodName := ⟨RX6, "keepBribes", "()V"⟩
abbrev cX6_rounds : ByteArray := prog_8_method_56_code
def yX6_rounds : MethodName := ⟨RX6, "rounds", "(I)I"⟩
abbrev cX6_settles : ByteArray := prog_8_method_57_code
def yX6_settles : MethodName := ⟨RX6, "settles", "()I"⟩
abbrev cX6_spring : ByteArray := prog_8_method_58_code
def yX6_spring : MethodName := ⟨RX6, "spring", "()I"⟩
abbrev cX6_isSpring : ByteArray := prog_8_method_59_code
def yX6_isSpring : MethodName := ⟨RX6, "isSpring", "(I)Z"⟩
abbrev cX6_old : ByteArray := prog_8_method_60_code
def yX6_old : MethodName := ⟨RX6, "old", "(II)I"⟩
abbrev cX6_findLived : ByteArray := prog_8_method_61_code
def yX6_findLived : MethodName := ⟨RX6, "findLived", "(I)I"⟩
abbrev cX6_lived : ByteArray := prog_8_method_62_code
def yX6_lived : MethodName := ⟨RX6, "lived", "(I)I"⟩
abbrev cX6_surely : ByteArray := prog_8_method_63_code
def yX6_surely : MethodName := ⟨RX6, "surely", "(II)I"⟩
abbrev cX6_drawn : ByteArray := prog_8_method_64_code
def yX6_drawn : MethodName := ⟨RX6, "drawn", "(I)I"⟩
abbrev cX6_slip : ByteArray := prog_8_method_65_code
def yX6_slip : MethodName := ⟨RX6, "slip", "()V"⟩
abbrev cX6_odds : ByteArray := prog_8_method_66_code
def yX6_odds : MethodName := ⟨RX6, "odds", "(I)I"⟩
abbrev cX6_seed : ByteArray := prog_8_method_67_code
def yX6_seed : MethodName := ⟨RX6, "seed", "(I)I"⟩
abbrev cX6_feed : ByteArray := prog_8_method_68_code
def yX6_feed : MethodName := ⟨RX6, "feed", "(II)I"⟩
abbrev cX6_wipe : ByteArray := prog_8_method_69_code
def yX6_wipe : MethodName := ⟨RX6, "wipe", "()I"⟩
abbrev cX6_byteAt : ByteArray := prog_8_method_70_code
def yX6_byteAt : MethodName := ⟨RX6, "byteAt", "(I)I"⟩
abbrev cX6_next : ByteArray := prog_8_method_71_code
def yX6_next : MethodName := ⟨RX6, "next", "()V"⟩
abbrev cX6_isWord : ByteArray := prog_8_method_72_code
def yX6_isWord : MethodName := ⟨RX6, "isWord", "(Ljava/lang/String;)Z"⟩
abbrev cX6_must : ByteArray := prog_8_method_73_code
def yX6_must : MethodName := ⟨RX6, "must", "(Z)V"⟩
abbrev cX6_number : ByteArray := prog_8_method_74_code
def yX6_number : MethodName := ⟨RX6, "number", "(II)I"⟩
abbrev cX6_which : ByteArray := prog_8_method_75_code
def yX6_which : MethodName := ⟨RX6, "which", "([Ljava/lang/String;)I"⟩
abbrev cX6_isSign : ByteArray := prog_8_method_76_code
def yX6_isSign : MethodName := ⟨RX6, "isSign", "(I)Z"⟩
abbrev cX6_readItem : ByteArray := prog_8_method_77_code
def yX6_readItem : MethodName := ⟨RX6, "readItem", "()V"⟩
abbrev cX6_readBody : ByteArray := prog_8_method_78_code
def yX6_readBody : MethodName := ⟨RX6, "readBody", "(I)V"⟩
abbrev cX6_isSo : ByteArray := prog_8_method_79_code
def yX6_isSo : MethodName := ⟨RX6, "isSo", "(I)V"⟩
abbrev cX6_text : ByteArray := prog_8_method_80_code
def yX6_text : MethodName := ⟨RX6, "text", "()I"⟩
abbrev cX6_hold : ByteArray := prog_8_method_81_code
def yX6_hold : MethodName := ⟨RX6, "hold", "(II)I"⟩
abbrev cX6_above : ByteArray := prog_8_method_82_code
def yX6_above : MethodName := ⟨RX6, "above", "(I)I"⟩
abbrev cX6_as : ByteArray := prog_8_method_83_code
def yX6_as : MethodName := ⟨RX6, "as", "(II)I"⟩
abbrev cX6_isSheet : ByteArray := prog_8_method_84_code
def yX6_isSheet : MethodName := ⟨RX6, "isSheet", "(I)Z"⟩
abbrev cX6_cutTo : ByteArray := prog_8_method_85_code
def yX6_cutTo : MethodName := ⟨RX6, "cutTo", "(II)I"⟩
abbrev cX6_sheet : ByteArray := prog_8_method_86_code
def yX6_sheet : MethodName := ⟨RX6, "sheet", "(III)I"⟩
abbrev cX6_write : ByteArray := prog_8_method_87_code
def yX6_write : MethodName := ⟨RX6, "write", "(III)I"⟩
abbrev cX6_copy : ByteArray := prog_8_method_88_code
def yX6_copy : MethodName := ⟨RX6, "copy", "(IIIII)I"⟩
abbrev cX6_load : ByteArray := prog_8_method_89_code
def yX6_load : MethodName := ⟨RX6, "load", "(I)I"⟩
abbrev cX6_judge : ByteArray := prog_8_method_90_code
def yX6_judge : MethodName := ⟨RX6, "judge", "(I)I"⟩
abbrev cX6_copyRow : ByteArray := prog_8_method_91_code
def yX6_copyRow : MethodName := ⟨RX6, "copyRow", "([I[I)V"⟩
abbrev cX6_image : ByteArray := prog_8_method_92_code
def yX6_image : MethodName := ⟨RX6, "image", "()I"⟩
abbrev cX6_undo : ByteArray := prog_8_method_93_code
def yX6_undo : MethodName := ⟨RX6, "undo", "()I"⟩
abbrev cX6_tear : ByteArray := prog_8_method_94_code
def yX6_tear : MethodName := ⟨RX6, "tear", "()I"⟩
abbrev cX6_count : ByteArray := prog_8_method_95_code
def yX6_count : MethodName := ⟨RX6, "count", "(I)I"⟩
abbrev cX6_status : ByteArray := prog_8_method_96_code
def yX6_status : MethodName := ⟨RX6, "status", "(I)I"⟩
def RJ6 : String := "java/lang/Integer"
abbrev cJ6_bitCount_0f7a4 : ByteArray := prog_9_method_49_code
def yJ6_bitCount_0f7a4 : MethodName := ⟨RJ6, "bitCount", "(I)I"⟩
def RJ9 : String := "java/lang/Math"
abbrev cJ9_abs_0f7a4 : ByteArray := prog_10_method_59_code
def yJ9_abs_0f7a4 : MethodName := ⟨RJ9, "abs", "(I)I"⟩
abbrev cJ9_max_7cf53 : ByteArray := prog_10_method_65_code
def yJ9_max_7cf53 : MethodName := ⟨RJ9, "max", "(II)I"⟩
abbrev cJ9_min_7cf53 : ByteArray := prog_10_method_69_code
def yJ9_min_7cf53 : MethodName := ⟨RJ9, "min", "(II)I"⟩
def RJ0 : String := "java/lang/String"
abbrev cJ0_length_8abf5 : ByteArray := prog_11_method_54_code
def yJ0_length_8abf5 : MethodName := ⟨RJ0, "length", "()I"⟩
abbrev cJ0_charAt_5068e : ByteArray := prog_11_method_56_code
def yJ0_charAt_5068e : MethodName := ⟨RJ0, "charAt", "(I)C"⟩
abbrev cJ0_coder_7d493 : ByteArray := prog_11_method_152_code
def yJ0_coder_7d493 : MethodName := ⟨RJ0, "coder", "()B"⟩
abbrev cJ0_isLatin1_aae02 : ByteArray := prog_11_method_154_code
def yJ0_isLatin1_aae02 : MethodName := ⟨RJ0, "isLatin1", "()Z"⟩
abbrev cJ0_checkIndex_df160 : ByteArray := prog_11_method_155_code
def yJ0_checkIndex_df160 : MethodName := ⟨RJ0, "checkIndex", "(II)V"⟩
def RJ1 : String := "java/lang/StringLatin1"
abbrev cJ1_charAt_3b067 : ByteArray := prog_12_method_2_code
def yJ1_charAt_3b067 : MethodName := ⟨RJ1, "charAt", "([BI)C"⟩
def RJ2 : String := "java/lang/StringUTF16"
abbrev cJ2_getChar_3b067 : ByteArray := prog_13_method_5_code
def yJ2_getChar_3b067 : MethodName := ⟨RJ2, "getChar", "([BI)C"⟩
abbrev cJ2_length_9d52b : ByteArray := prog_13_method_6_code
def yJ2_length_9d52b : MethodName := ⟨RJ2, "length", "([B)I"⟩
abbrev cJ2_charAt_3b067 : ByteArray := prog_13_method_83_code
def yJ2_charAt_3b067 : MethodName := ⟨RJ2, "charAt", "([BI)C"⟩
abbrev cJ2_checkIndex_2214a : ByteArray := prog_13_method_91_code
def yJ2_checkIndex_2214a : MethodName := ⟨RJ2, "checkIndex", "(I[B)V"⟩
def RJ10 : String := "java/lang/System"
def RJ3 : String := "jdk/internal/util/Preconditions"
abbrev cJ3_checkIndex_8e157 : ByteArray := prog_15_method_11_code
def yJ3_checkIndex_8e157 : MethodName := ⟨RJ3, "checkIndex", "(IILjava/util/function/BiFunction;)I"⟩
def RL : String := "MeanCoatsLaw"
abbrev cL_law : ByteArray := code
def yL_law : MethodName := ⟨RL, "law", "([I)Z"⟩
abbrev vwCl : List vw_C := [(RX0, TX0, 4), (RX1, TX1, 3), (RX2, TX2, 5), (RX3, TX3, 7), (RX4, TX4, 13), (RX5, TX5, 10), (RX6, TX6, 27)]
end
section
/-! THE WALK, MADE SMALL: 'zG X u pc L st' says that the machine, at pc with the locals L and the stack st, the world being u, comes to its end. One rule an instruction. -/
/-- the free addresses of a method: the world's own -/
def zA (E : zE) : Nat → Prop := fun q => ∃ k, k < 55 ∧ q = zad E k
/-- what stays as it is beside the world: Strings, the static row, the nest mates' links -/
def zRo (E : zE) (A : Nat → Prop) (U : State) : Prop :=
  vk_S 15 zLen zByt (zaK E) E.2.2.2.2.1 A U U.heap ∧ (∀ q ∈ zStr, vk_R q.1 q.2.1 q.2.2.1 (zaK E q.2.2.2) U) ∧ (∀ w ∈ zNest, va_Nw w U) ∧
  va_Z "MeanCoats" "KIND_ABOVE" "[I" (.ref E.2.2.2.2.2) A U U.heap ∧ va_T .int E.2.2.2.2.2 7 (fun j => .int (zKA j)) A U U.heap ∧
  va_Z "java/lang/String" "COMPACT_STRINGS" "Z" (.int 1) A U U.heap ∧ va_Zq "jdk/internal/util/Preconditions" "SIOOBE_FORMATTER" "Ljava/util/function/BiFunction;" A U U.heap
theorem zNest_shape : zNest.all (fun w => match w with | .fieldLinkNest .. => true | .methodLinkNest .. => true | _ => false) = true := by decide +kernel
theorem zNest_warm {s U : State} (hW : s.WarmedH U.vm) {w : Cond} (hw : w ∈ zNest) (h : va_Nw w s) : va_Nw w U := by
  have hs := List.all_eq_true.mp zNest_shape w hw
  cases w <;> first | (cases hs; done) | exact va_Nw.warmF hW h | exact va_Nw.warmM hW h
theorem zNest_on {w : Cond} (hw : w ∈ zNest) : w.onTables = true := by
  have hs := List.all_eq_true.mp zNest_shape w hw
  cases w <;> first | (cases hs; done) | rfl
theorem zRo.go {E : zE} {A B : Nat → Prop} {s U : State} (hW : s.WarmedH U.vm) (hq : ∀ a : Nat, a < s.heap.size → ¬ A a → U.heap[a]? = s.heap[a]?) (hAB : ∀ q, B q → A q) (h : zRo E A s) : zRo E B U := by
  obtain ⟨h1, h2, h3, h4, h5, h6, h7⟩ := h
  exact ⟨((h1.moved hW.alike).kept hq).narrow hAB, fun q hq => (h2 q hq).warm hW, fun w hw => zNest_warm hW hw (h3 w hw), ((h4.moved hW.alike).kept hq).narrow hAB, ((h5.moved hW.alike).kept hq).narrow hAB, ((h6.moved hW.alike).kept hq).narrow hAB, ((h7.moved hW.alike).kept hq).narrow hAB⟩
theorem zRo.call {E : zE} {A : Nat → Prop} {U : State} {g : JFrame} {mk : MethodId} {a : Array Value} (h : zRo E A U) : zRo E A (U.calling g mk a) := by
  obtain ⟨h1, h2, h3, h4, h5, h6, h7⟩ := h
  exact ⟨vk_S.moved (u := U) (U := U.calling g mk a) (Vm.Alike.refl U.vm) h1, fun q hq => vk_R.same (u := U) (U := U.calling g mk a) rfl (h2 q hq), fun w hw => va_Nw.same (u := U) (U := U.calling g mk a) (zNest_on hw) rfl (h3 w hw), va_Z.moved (u := U) (U := U.calling g mk a) (Vm.Alike.refl U.vm) h4, va_T.moved (u := U) (U := U.calling g mk a) (Vm.Alike.refl U.vm) h5, va_Z.moved (u := U) (U := U.calling g mk a) (Vm.Alike.refl U.vm) h6, va_Zq.moved (u := U) (U := U.calling g mk a) (Vm.Alike.refl U.vm) h7⟩
abbrev zX : Type := zE × (Nat → Prop) × Program × Launch × Env × Room × State × MethodId × Array Value × List Frame × Method × Code × Nat × Nat × Nat × (State → Prop)
def zG : zX → zM → Nat → List (Nat × Value) → List Value → Prop
  | (E, A, p, l, e, R, s, m, args, below, meth, c, nL, cells, slots, Q), u, pc, L, st => ∀ (H : Heap) (locs : List Loc) (ls : Array Slot), va_P E.1 vwCl (zw E u) H → va_S A s.heap H locs → lv_has ls nL L → W p l e R s m args below meth c H locs cells slots Q (F0 m pc ls st)
def zGood : zX → String → ByteArray → Nat → Nat → Prop
  | (E, A, p, l, e, R, s, m, args, below, meth, c, nL, cells, slots, Q), own, cc, mL, d => p.tables.exec = Jvm.exec ∧ c.code = cc ∧ (c.maxLocals = nL ∧ nL = mL) ∧ s.vm.findClass own = some m.cls ∧ (∀ w ∈ zT, w.before args s = true) ∧
    va_K E.1 vwCl (zty E) s ∧ va_D A (zw E z0) ∧ zRo E A s ∧ d ≤ R.frames ∧ d * 48 ≤ R.locals ∧ cells ≤ R.cells ∧ slots ≤ R.slots
/-- the addresses alone count -/
theorem zw_D {E : zE} {A : Nat → Prop} (u v : zM) (h : va_D A (zw E u)) : va_D A (zw E v) := by
  have e : ∀ k : Nat, ((zw E u)[k]?).map (fun q : Nat × va_E => q.1) = ((zw E v)[k]?).map (fun q : Nat × va_E => q.1) := by
    intro k
    rw [← List.getElem?_map, ← List.getElem?_map]
    rfl
  refine ⟨fun i j p q hp hq hpq => ?_, fun k q hk => ?_⟩
  · have e1 := e i
    have e2 := e j
    rw [hp] at e1
    rw [hq] at e2
    cases h1 : (zw E u)[i]? with
    | none => rw [h1] at e1; cases e1
    | some a =>
      cases h2 : (zw E u)[j]? with
      | none => rw [h2] at e2; cases e2
      | some b =>
        rw [h1] at e1
        rw [h2] at e2
        have q1 : a.1 = p.1 := Option.some.inj e1
        have q2 : b.1 = q.1 := Option.some.inj e2
        exact h.1 i j a b h1 h2 (by rw [q1, q2, hpq])
  · have e1 := e k
    rw [hk] at e1
    cases h1 : (zw E u)[k]? with
    | none => rw [h1] at e1; cases e1
    | some a =>
      rw [h1] at e1
      have q1 : a.1 = q.1 := Option.some.inj e1
      rw [← q1]
      exact h.2 k a h1
theorem zA_le {E : zE} {A : Nat → Prop} (h : va_D A (zw E z0)) : ∀ q, zA E q → A q := by
  rintro q ⟨k, hk, rfl⟩
  have e : ((zw E z0)[k]?).map (fun q : Nat × va_E => q.1) = some (zad E k) := by
    rw [← List.getElem?_map]
    have hh : (zw E z0).map (fun q : Nat × va_E => q.1) = (List.range 55).map (zad E) := rfl
    rw [hh]
    simp [hk]
  cases h1 : (zw E z0)[k]? with
  | none => rw [h1] at e; cases e
  | some a =>
    rw [h1] at e
    have q1 : a.1 = zad E k := Option.some.inj e
    rw [← q1]
    exact h.2 k a h1
theorem zA_D {E : zE} {A : Nat → Prop} (h : va_D A (zw E z0)) : va_D (zA E) (zw E z0) := by
  refine ⟨h.1, fun k q hk => ?_⟩
  have e : ((zw E z0)[k]?).map (fun q : Nat × va_E => q.1) = some q.1 := by rw [hk]; rfl
  rw [← List.getElem?_map] at e
  have hh : (zw E z0).map (fun q : Nat × va_E => q.1) = (List.range 55).map (zad E) := rfl
  rw [hh, List.getElem?_map] at e
  by_cases hk5 : k < 55
  · rw [List.getElem?_range hk5] at e
    exact ⟨k, hk5, (Option.some.inj e).symm⟩
  · rw [List.getElem?_eq_none (by simp; omega)] at e
    cases e
/-- a method's start and end -/
def zPc (E : zE) (av : List Value) (u : zM) : Array Value → State → Prop := fun v U => v = av.toArray ∧ va_P E.1 vwCl (zw E u) U.heap ∧ va_K E.1 vwCl (zty E) U ∧ va_D (zA E) (zw E z0) ∧ zRo E (zA E) U
def zQc (E : zE) (r : Option Value) (u : zM) : Array Value → State → Outcome → State → Prop := fun _ st oc t => (oc = .returned r ∧ va_P E.1 vwCl (zw E u) t.heap) ∧ va_F (zA E) st t
def zRet : zX → Option FieldType → Option Value → zM → Prop
  | (E, A, p, l, e, R, s, m, args, below, meth, c, nL, cells, slots, Q), ret, r, u => Q = MQ below (zQc E r u) args s cells slots A ∧ A = zA E ∧ meth.sig.returnType = ret ∧ meth.locks = false
/-- A METHOD'S CONTRACT: of these arguments, in this world, this is the answer and this the world behind it; d: how deep it calls -/
def zCt (d : Nat) (y : MethodName) (b : ByteArray) (mL : Nat) (ret : Option FieldType) (av : zE → List Value) (u : zM) (r : zE → Option Value) (u' : zM) : Prop :=
  ∀ (l : Launch) (E : zE), Met l y (.code y b mL ret :: zT) { frames := d, cells := 0, slots := 0, locals := d * 48 } (zPc E (av E) u) (zQc E (r E) u') 0 0 (zA E)
theorem zPc_blind {E : zE} {av : List Value} {u : zM} : FrameBlind (zPc E av u) := by
  rintro a U g mk ⟨h1, h2, h3, h4, h5⟩
  exact ⟨h1, h2, va_K.moved (u := U) (U := U.calling g mk a) (Vm.Alike.refl U.vm) h3, h4, h5.call⟩
theorem zCt.of {d : Nat} {y : MethodName} {b : ByteArray} {mL : Nat} {ret : Option FieldType} {av : zE → List Value} {u : zM} {r : zE → Option Value} {u' : zM} (hy : plainName y.cls = true) (hsz : ∀ E, (lg_sl (av E)).length ≤ mL)
    (k : ∀ X : zX, zGood X y.cls b mL d → zRet X ret (r X.1) u' → zG X u 0 (lv_args 0 (av X.1)) []) : zCt d y b mL ret av u r u' := by
  intro l E
  refine Met.ofW (cc := b) (maxL := mL) (ret := ret) hy rfl ?_
  intro p e s m args below meth c s₁ B hml hv
  obtain ⟨rfl, hP, hK, hD, hRo⟩ := hv
  have hts := atoms_spec (ws := .code y b mL ret :: zT) B.pre
  have hl := lv_entry (av E) (n := mL) (hsz E)
  rw [lg_entry_eq]
  generalize (lg_sl (av E) ++ List.replicate (mL - (lg_sl (av E)).length) Slot.unset).toArray = ls at hl ⊢
  exact k (E, zA E, p, l, e, { frames := d, cells := 0, slots := 0, locals := d * 48 }, s, m, (av E).toArray, below, meth, c, mL, 0, 0, MQ below (zQc E (r E) u') (av E).toArray s 0 0 (zA E))
    ⟨B.exec, B.bytes, ⟨hml, rfl⟩, findClass_of_methodNamed B.named, fun w hw => hts w (List.mem_cons_of_mem _ hw), hK, hD, hRo, Nat.le_refl _, Nat.le_refl _, Nat.le_refl _, Nat.le_refl _⟩ ⟨rfl, rfl, B.returns, B.notSynchronized⟩ s.heap [] ls hP va_S.rf hl
section ZR
variable {X : zX} {own : String} {cc : ByteArray} {mL d : Nat} {u : zM} {pc : Nat} {L : List (Nat × Value)} {st : List Value}
theorem r_iconst {n : Int} {v : Int32} (hX : zGood X own cc mL d) (hd : decode cc pc = .ok (.iconst n, 1)) (hv : Int32.ofInt n = v) (k : zG X u (pc + 1) L (.int v :: st)) : zG X u pc L st := by
  obtain ⟨E, A, p, l, e, R, s, m, args, below, meth, c, nL, cells, slots, Q⟩ := X
  exact fun H locs ls hP hS hl => lv_iconst hX.1 hX.2.1 hd hv (k H locs ls hP hS hl)
theorem r_bipush {n : Int} {v : Int32} (hX : zGood X own cc mL d) (hd : decode cc pc = .ok (.bipush n, 2)) (hv : (Int8.ofInt n).toInt32 = v) (k : zG X u (pc + 2) L (.int v :: st)) : zG X u pc L st := by
  obtain ⟨E, A, p, l, e, R, s, m, args, below, meth, c, nL, cells, slots, Q⟩ := X
  exact fun H locs ls hP hS hl => lv_bipush hX.1 hX.2.1 hd hv (k H locs ls hP hS hl)
theorem r_sipush {n : Int} {v : Int32} (hX : zGood X own cc mL d) (hd : decode cc pc = .ok (.sipush n, 3)) (hv : (Int16.ofInt n).toInt32 = v) (k : zG X u (pc + 3) L (.int v :: st)) : zG X u pc L st := by
  obtain ⟨E, A, p, l, e, R, s, m, args, below, meth, c, nL, cells, slots, Q⟩ := X
  exact fun H locs ls hP hS hl => lv_sipush hX.1 hX.2.1 hd hv (k H locs ls hP hS hl)
theorem r_iload_n {j : Fin 4} {i : Nat} {x : Int32} (hX : zGood X own cc mL d) (hd : decode cc pc = .ok (.iload_n j, 1)) (q : Nat) (hi : (j : Nat) = i) (hq : L[q]? = some (i, .int x)) (k : zG X u (pc + 1) L (.int x :: st)) : zG X u pc L st := by
  obtain ⟨E, A, p, l, e, R, s, m, args, below, meth, c, nL, cells, slots, Q⟩ := X
  exact fun H locs ls hP hS hl => lv_iload_n hX.1 hX.2.1 hd hi (lv_at hl q hq) (k H locs ls hP hS hl)
theorem r_iload {i : Nat} {x : Int32} (hX : zGood X own cc mL d) (hd : decode cc pc = .ok (.iload i, 2)) (q : Nat) (hq : L[q]? = some (i, .int x)) (k : zG X u (pc + 2) L (.int x :: st)) : zG X u pc L st := by
  obtain ⟨E, A, p, l, e, R, s, m, args, below, meth, c, nL, cells, slots, Q⟩ := X
  exact fun H locs ls hP hS hl => lv_iload hX.1 hX.2.1 hd (lv_at hl q hq) (k H locs ls hP hS hl)
theorem r_aload_n {j : Fin 4} {i : Nat} {x : Nat} (hX : zGood X own cc mL d) (hd : decode cc pc = .ok (.aload_n j, 1)) (q : Nat) (hi : (j : Nat) = i) (hq : L[q]? = some (i, .ref x)) (k : zG X u (pc + 1) L (.ref x :: st)) : zG X u pc L st := by
  obtain ⟨E, A, p, l, e, R, s, m, args, below, meth, c, nL, cells, slots, Q⟩ := X
  exact fun H locs ls hP hS hl => lv_aload_n hX.1 hX.2.1 hd hi (lv_at hl q hq) (k H locs ls hP hS hl)
theorem r_istore_n {j : Fin 4} {i : Nat} {x y : Int32} {L' : List (Nat × Value)} (hX : zGood X own cc mL d) (hd : decode cc pc = .ok (.istore_n j, 1)) (hi : (j : Nat) = i) (hn : i < mL) (hxy : y = x) (hL : (i, Value.int y) :: L.filter (fun q => !(q.1 == i) && !(q.1 + 1 == i && q.2.category == 2)) = L')
    (k : zG X u (pc + 1) L' st) : zG X u pc L (.int x :: st) := by
  obtain ⟨E, A, p, l, e, R, s, m, args, below, meth, c, nL, cells, slots, Q⟩ := X
  subst hxy
  exact fun H locs ls hP hS hl => lv_istore_n hX.1 hX.2.1 hd hi hl (by rw [hX.2.2.1.2]; exact hn) hL (fun ls' hl' => k H locs ls' hP hS hl')
theorem r_istore {i : Nat} {x y : Int32} {L' : List (Nat × Value)} (hX : zGood X own cc mL d) (hd : decode cc pc = .ok (.istore i, 2)) (hn : i < mL) (hxy : y = x) (hL : (i, Value.int y) :: L.filter (fun q => !(q.1 == i) && !(q.1 + 1 == i && q.2.category == 2)) = L')
    (k : zG X u (pc + 2) L' st) : zG X u pc L (.int x :: st) := by
  obtain ⟨E, A, p, l, e, R, s, m, args, below, meth, c, nL, cells, slots, Q⟩ := X
  subst hxy
  exact fun H locs ls hP hS hl => lv_istore hX.1 hX.2.1 hd hl (by rw [hX.2.2.1.2]; exact hn) hL (fun ls' hl' => k H locs ls' hP hS hl')
theorem r_iinc {i : Nat} {n : Int} {x v : Int32} {L' : List (Nat × Value)} (hX : zGood X own cc mL d) (hd : decode cc pc = .ok (.iinc i n, 3)) (hn : i < mL) (q : Nat) (hq : L[q]? = some (i, .int x)) (hv : x + Int32.ofInt n = v) (hL : (i, Value.int v) :: L.filter (fun q => !(q.1 == i) && !(q.1 + 1 == i && q.2.category == 2)) = L')
    (k : zG X u (pc + 3) L' st) : zG X u pc L st := by
  obtain ⟨E, A, p, l, e, R, s, m, args, below, meth, c, nL, cells, slots, Q⟩ := X
  exact fun H locs ls hP hS hl => lv_iinc hX.1 hX.2.1 hd hl hq hv (by rw [hX.2.2.1.2]; exact hn) hL (fun ls' hl' => k H locs ls' hP hS hl')
theorem r_sub {L' : List (Nat × Value)} (ks : List Nat) (hL : lv_pick L ks = L') (k : zG X u pc L' st) : zG X u pc L st := by
  obtain ⟨E, A, p, l, e, R, s, m, args, below, meth, c, nL, cells, slots, Q⟩ := X
  exact fun H locs ls hP hS hl => k H locs ls hP hS (lv_sub hl ks hL)
theorem r_iadd {x y : Int32} (hX : zGood X own cc mL d) (hd : decode cc pc = .ok (.iadd, 1)) (k : zG X u (pc + 1) L (.int (x + y) :: st)) : zG X u pc L (.int y :: .int x :: st) := by
  obtain ⟨E, A, p, l, e, R, s, m, args, below, meth, c, nL, cells, slots, Q⟩ := X
  exact fun H locs ls hP hS hl => lv_iadd hX.1 hX.2.1 hd (k H locs ls hP hS hl)
theorem r_isub {x y : Int32} (hX : zGood X own cc mL d) (hd : decode cc pc = .ok (.isub, 1)) (k : zG X u (pc + 1) L (.int (x - y) :: st)) : zG X u pc L (.int y :: .int x :: st) := by
  obtain ⟨E, A, p, l, e, R, s, m, args, below, meth, c, nL, cells, slots, Q⟩ := X
  exact fun H locs ls hP hS hl => lv_isub hX.1 hX.2.1 hd (k H locs ls hP hS hl)
theorem r_imul {x y : Int32} (hX : zGood X own cc mL d) (hd : decode cc pc = .ok (.imul, 1)) (k : zG X u (pc + 1) L (.int (x * y) :: st)) : zG X u pc L (.int y :: .int x :: st) := by
  obtain ⟨E, A, p, l, e, R, s, m, args, below, meth, c, nL, cells, slots, Q⟩ := X
  exact fun H locs ls hP hS hl => lv_imul hX.1 hX.2.1 hd (k H locs ls hP hS hl)
theorem r_idiv {x y : Int32} (hX : zGood X own cc mL d) (hd : decode cc pc = .ok (.idiv, 1)) (hne : ¬ y = 0) (k : zG X u (pc + 1) L (.int (x / y) :: st)) : zG X u pc L (.int y :: .int x :: st) := by
  obtain ⟨E, A, p, l, e, R, s, m, args, below, meth, c, nL, cells, slots, Q⟩ := X
  exact fun H locs ls hP hS hl => lv_idiv hX.1 hX.2.1 hd hne (k H locs ls hP hS hl)
/-- the rest, as the machine has it -/
def zrem (x y : Int32) : Int32 := x - x / y * y
theorem r_irem {x y : Int32} (hX : zGood X own cc mL d) (hd : decode cc pc = .ok (.irem, 1)) (hne : ¬ y = 0) (k : zG X u (pc + 1) L (.int (zrem x y) :: st)) : zG X u pc L (.int y :: .int x :: st) := by
  obtain ⟨E, A, p, l, e, R, s, m, args, below, meth, c, nL, cells, slots, Q⟩ := X
  exact fun H locs ls hP hS hl => lv_irem hX.1 hX.2.1 hd hne (k H locs ls hP hS hl)
theorem r_ineg {x : Int32} (hX : zGood X own cc mL d) (hd : decode cc pc = .ok (.ineg, 1)) (k : zG X u (pc + 1) L (.int (-x) :: st)) : zG X u pc L (.int x :: st) := by
  obtain ⟨E, A, p, l, e, R, s, m, args, below, meth, c, nL, cells, slots, Q⟩ := X
  exact fun H locs ls hP hS hl => lv_ineg hX.1 hX.2.1 hd (k H locs ls hP hS hl)
theorem r_iand {x y : Int32} (hX : zGood X own cc mL d) (hd : decode cc pc = .ok (.iand, 1)) (k : zG X u (pc + 1) L (.int (x &&& y) :: st)) : zG X u pc L (.int y :: .int x :: st) := by
  obtain ⟨E, A, p, l, e, R, s, m, args, below, meth, c, nL, cells, slots, Q⟩ := X
  exact fun H locs ls hP hS hl => lv_iand hX.1 hX.2.1 hd (k H locs ls hP hS hl)
theorem r_ior {x y : Int32} (hX : zGood X own cc mL d) (hd : decode cc pc = .ok (.ior, 1)) (k : zG X u (pc + 1) L (.int (x ||| y) :: st)) : zG X u pc L (.int y :: .int x :: st) := by
  obtain ⟨E, A, p, l, e, R, s, m, args, below, meth, c, nL, cells, slots, Q⟩ := X
  exact fun H locs ls hP hS hl => lv_ior hX.1 hX.2.1 hd (k H locs ls hP hS hl)
theorem r_ixor {x y : Int32} (hX : zGood X own cc mL d) (hd : decode cc pc = .ok (.ixor, 1)) (k : zG X u (pc + 1) L (.int (x ^^^ y) :: st)) : zG X u pc L (.int y :: .int x :: st) := by
  obtain ⟨E, A, p, l, e, R, s, m, args, below, meth, c, nL, cells, slots, Q⟩ := X
  exact fun H locs ls hP hS hl => lv_ixor hX.1 hX.2.1 hd (k H locs ls hP hS hl)
def zshl (x y : Int32) : Int32 := x <<< (y &&& 31)
def zshr (x y : Int32) : Int32 := x >>> (y &&& 31)
def zushr (x y : Int32) : Int32 := (x.toUInt32 >>> (y.toUInt32 &&& Int32.toUInt32 31)).toInt32
theorem r_ishl {x y : Int32} (hX : zGood X own cc mL d) (hd : decode cc pc = .ok (.ishl, 1)) (k : zG X u (pc + 1) L (.int (zshl x y) :: st)) : zG X u pc L (.int y :: .int x :: st) := by
  obtain ⟨E, A, p, l, e, R, s, m, args, below, meth, c, nL, cells, slots, Q⟩ := X
  exact fun H locs ls hP hS hl => lv_ishl hX.1 hX.2.1 hd (k H locs ls hP hS hl)
theorem r_ishr {x y : Int32} (hX : zGood X own cc mL d) (hd : decode cc pc = .ok (.ishr, 1)) (k : zG X u (pc + 1) L (.int (zshr x y) :: st)) : zG X u pc L (.int y :: .int x :: st) := by
  obtain ⟨E, A, p, l, e, R, s, m, args, below, meth, c, nL, cells, slots, Q⟩ := X
  exact fun H locs ls hP hS hl => lv_ishr hX.1 hX.2.1 hd (k H locs ls hP hS hl)
theorem r_iushr {x y : Int32} (hX : zGood X own cc mL d) (hd : decode cc pc = .ok (.iushr, 1)) (k : zG X u (pc + 1) L (.int (zushr x y) :: st)) : zG X u pc L (.int y :: .int x :: st) := by
  obtain ⟨E, A, p, l, e, R, s, m, args, below, meth, c, nL, cells, slots, Q⟩ := X
  exact fun H locs ls hP hS hl => lv_iushr hX.1 hX.2.1 hd rfl (k H locs ls hP hS hl)
def zi2b (x : Int32) : Int32 := x.toInt8.toInt32
def zi2s (x : Int32) : Int32 := x.toInt16.toInt32
def zi2c (x : Int32) : Int32 := (x.toUInt32 % 65536).toInt32
theorem r_i2b {x : Int32} (hX : zGood X own cc mL d) (hd : decode cc pc = .ok (.i2b, 1)) (k : zG X u (pc + 1) L (.int (zi2b x) :: st)) : zG X u pc L (.int x :: st) := by
  obtain ⟨E, A, p, l, e, R, s, m, args, below, meth, c, nL, cells, slots, Q⟩ := X
  exact fun H locs ls hP hS hl => lv_i2b hX.1 hX.2.1 hd rfl (k H locs ls hP hS hl)
theorem r_i2s {x : Int32} (hX : zGood X own cc mL d) (hd : decode cc pc = .ok (.i2s, 1)) (k : zG X u (pc + 1) L (.int (zi2s x) :: st)) : zG X u pc L (.int x :: st) := by
  obtain ⟨E, A, p, l, e, R, s, m, args, below, meth, c, nL, cells, slots, Q⟩ := X
  exact fun H locs ls hP hS hl => lv_i2s hX.1 hX.2.1 hd rfl (k H locs ls hP hS hl)
theorem r_i2c {x : Int32} (hX : zGood X own cc mL d) (hd : decode cc pc = .ok (.i2c, 1)) (k : zG X u (pc + 1) L (.int (zi2c x) :: st)) : zG X u pc L (.int x :: st) := by
  obtain ⟨E, A, p, l, e, R, s, m, args, below, meth, c, nL, cells, slots, Q⟩ := X
  exact fun H locs ls hP hS hl => lv_i2c hX.1 hX.2.1 hd rfl (k H locs ls hP hS hl)
theorem r_i2l {x : Int32} (hX : zGood X own cc mL d) (hd : decode cc pc = .ok (.i2l, 1)) (k : zG X u (pc + 1) L (.long x.toInt64 :: st)) : zG X u pc L (.int x :: st) := by
  obtain ⟨E, A, p, l, e, R, s, m, args, below, meth, c, nL, cells, slots, Q⟩ := X
  exact fun H locs ls hP hS hl => lv_i2l hX.1 hX.2.1 hd rfl (k H locs ls hP hS hl)
theorem r_ladd {x y : Int64} (hX : zGood X own cc mL d) (hd : decode cc pc = .ok (.ladd, 1)) (k : zG X u (pc + 1) L (.long (x + y) :: st)) : zG X u pc L (.long y :: .long x :: st) := by
  obtain ⟨E, A, p, l, e, R, s, m, args, below, meth, c, nL, cells, slots, Q⟩ := X
  exact fun H locs ls hP hS hl => lv_ladd hX.1 hX.2.1 hd (k H locs ls hP hS hl)
theorem r_lcmp {x y : Int64} (hX : zGood X own cc mL d) (hd : decode cc pc = .ok (.lcmp, 1)) (k : zG X u (pc + 1) L (.int (lg_cmp x y) :: st)) : zG X u pc L (.long y :: .long x :: st) := by
  obtain ⟨E, A, p, l, e, R, s, m, args, below, meth, c, nL, cells, slots, Q⟩ := X
  exact fun H locs ls hP hS hl => W.lcmp hX.1 hX.2.1 hd (k H locs ls hP hS hl)
theorem r_dup {v : Value} (hX : zGood X own cc mL d) (hd : decode cc pc = .ok (.dup, 1)) (hv : v.category = 1) (k : zG X u (pc + 1) L (v :: v :: st)) : zG X u pc L (v :: st) := by
  obtain ⟨E, A, p, l, e, R, s, m, args, below, meth, c, nL, cells, slots, Q⟩ := X
  exact fun H locs ls hP hS hl => lv_dup hX.1 hX.2.1 hd hv (k H locs ls hP hS hl)
theorem r_dup2 {v w : Value} (hX : zGood X own cc mL d) (hd : decode cc pc = .ok (.dup2, 1)) (hv : v.category = 1) (hw : w.category = 1) (k : zG X u (pc + 1) L (v :: w :: v :: w :: st)) : zG X u pc L (v :: w :: st) := by
  obtain ⟨E, A, p, l, e, R, s, m, args, below, meth, c, nL, cells, slots, Q⟩ := X
  exact fun H locs ls hP hS hl => lv_dup2_11 hX.1 hX.2.1 hd hv hw (k H locs ls hP hS hl)
theorem r_pop {v : Value} (hX : zGood X own cc mL d) (hd : decode cc pc = .ok (.pop, 1)) (hv : v.category = 1) (k : zG X u (pc + 1) L st) : zG X u pc L (v :: st) := by
  obtain ⟨E, A, p, l, e, R, s, m, args, below, meth, c, nL, cells, slots, Q⟩ := X
  exact fun H locs ls hP hS hl => lv_pop hX.1 hX.2.1 hd hv (k H locs ls hP hS hl)
theorem r_goto {off : Int} {tgt : Nat} (hX : zGood X own cc mL d) (hd : decode cc pc = .ok (.goto off, 3)) (ht : (pc : Int) + off = (tgt : Int)) (k : zG X u tgt L st) : zG X u pc L st := by
  obtain ⟨E, A, p, l, e, R, s, m, args, below, meth, c, nL, cells, slots, Q⟩ := X
  exact fun H locs ls hP hS hl => lv_goto hX.1 hX.2.1 hd ht (k H locs ls hP hS hl)
theorem r_if_eq {x : Int32} {off : Int} {tgt : Nat} (hX : zGood X own cc mL d) (hd : decode cc pc = .ok (.ifCond .eq off, 3)) (ht : (pc : Int) + off = (tgt : Int)) (kt : x = 0 → zG X u tgt L st) (kf : ¬ x = 0 → zG X u (pc + 3) L st) : zG X u pc L (.int x :: st) := by
  obtain ⟨E, A, p, l, e, R, s, m, args, below, meth, c, nL, cells, slots, Q⟩ := X
  exact fun H locs ls hP hS hl => lv_if_eq hX.1 hX.2.1 hd ht (fun c => kt c H locs ls hP hS hl) (fun c => kf c H locs ls hP hS hl)
theorem r_icmp_eq {x y : Int32} {off : Int} {tgt : Nat} (hX : zGood X own cc mL d) (hd : decode cc pc = .ok (.if_icmp .eq off, 3)) (ht : (pc : Int) + off = (tgt : Int)) (kt : x = y → zG X u tgt L st) (kf : ¬ x = y → zG X u (pc + 3) L st) : zG X u pc L (.int y :: .int x :: st) := by
  obtain ⟨E, A, p, l, e, R, s, m, args, below, meth, c, nL, cells, slots, Q⟩ := X
  exact fun H locs ls hP hS hl => lv_icmp_eq hX.1 hX.2.1 hd ht (fun c => kt c H locs ls hP hS hl) (fun c => kf c H locs ls hP hS hl)
theorem r_if_ne {x : Int32} {off : Int} {tgt : Nat} (hX : zGood X own cc mL d) (hd : decode cc pc = .ok (.ifCond .ne off, 3)) (ht : (pc : Int) + off = (tgt : Int)) (kt : ¬ x = 0 → zG X u tgt L st) (kf : x = 0 → zG X u (pc + 3) L st) : zG X u pc L (.int x :: st) := by
  obtain ⟨E, A, p, l, e, R, s, m, args, below, meth, c, nL, cells, slots, Q⟩ := X
  exact fun H locs ls hP hS hl => lv_if_ne hX.1 hX.2.1 hd ht (fun c => kt c H locs ls hP hS hl) (fun c => kf c H locs ls hP hS hl)
theorem r_icmp_ne {x y : Int32} {off : Int} {tgt : Nat} (hX : zGood X own cc mL d) (hd : decode cc pc = .ok (.if_icmp .ne off, 3)) (ht : (pc : Int) + off = (tgt : Int)) (kt : ¬ x = y → zG X u tgt L st) (kf : x = y → zG X u (pc + 3) L st) : zG X u pc L (.int y :: .int x :: st) := by
  obtain ⟨E, A, p, l, e, R, s, m, args, below, meth, c, nL, cells, slots, Q⟩ := X
  exact fun H locs ls hP hS hl => lv_icmp_ne hX.1 hX.2.1 hd ht (fun c => kt c H locs ls hP hS hl) (fun c => kf c H locs ls hP hS hl)
theorem r_if_lt {x : Int32} {off : Int} {tgt : Nat} (hX : zGood X own cc mL d) (hd : decode cc pc = .ok (.ifCond .lt off, 3)) (ht : (pc : Int) + off = (tgt : Int)) (kt : x < 0 → zG X u tgt L st) (kf : ¬ x < 0 → zG X u (pc + 3) L st) : zG X u pc L (.int x :: st) := by
  obtain ⟨E, A, p, l, e, R, s, m, args, below, meth, c, nL, cells, slots, Q⟩ := X
  exact fun H locs ls hP hS hl => lv_if_lt hX.1 hX.2.1 hd ht (fun c => kt c H locs ls hP hS hl) (fun c => kf c H locs ls hP hS hl)
theorem r_icmp_lt {x y : Int32} {off : Int} {tgt : Nat} (hX : zGood X own cc mL d) (hd : decode cc pc = .ok (.if_icmp .lt off, 3)) (ht : (pc : Int) + off = (tgt : Int)) (kt : x < y → zG X u tgt L st) (kf : ¬ x < y → zG X u (pc + 3) L st) : zG X u pc L (.int y :: .int x :: st) := by
  obtain ⟨E, A, p, l, e, R, s, m, args, below, meth, c, nL, cells, slots, Q⟩ := X
  exact fun H locs ls hP hS hl => lv_icmp_lt hX.1 hX.2.1 hd ht (fun c => kt c H locs ls hP hS hl) (fun c => kf c H locs ls hP hS hl)
theorem r_if_ge {x : Int32} {off : Int} {tgt : Nat} (hX : zGood X own cc mL d) (hd : decode cc pc = .ok (.ifCond .ge off, 3)) (ht : (pc : Int) + off = (tgt : Int)) (kt : 0 ≤ x → zG X u tgt L st) (kf : ¬ 0 ≤ x → zG X u (pc + 3) L st) : zG X u pc L (.int x :: st) := by
  obtain ⟨E, A, p, l, e, R, s, m, args, below, meth, c, nL, cells, slots, Q⟩ := X
  exact fun H locs ls hP hS hl => lv_if_ge hX.1 hX.2.1 hd ht (fun c => kt c H locs ls hP hS hl) (fun c => kf c H locs ls hP hS hl)
theorem r_icmp_ge {x y : Int32} {off : Int} {tgt : Nat} (hX : zGood X own cc mL d) (hd : decode cc pc = .ok (.if_icmp .ge off, 3)) (ht : (pc : Int) + off = (tgt : Int)) (kt : y ≤ x → zG X u tgt L st) (kf : ¬ y ≤ x → zG X u (pc + 3) L st) : zG X u pc L (.int y :: .int x :: st) := by
  obtain ⟨E, A, p, l, e, R, s, m, args, below, meth, c, nL, cells, slots, Q⟩ := X
  exact fun H locs ls hP hS hl => lv_icmp_ge hX.1 hX.2.1 hd ht (fun c => kt c H locs ls hP hS hl) (fun c => kf c H locs ls hP hS hl)
theorem r_if_gt {x : Int32} {off : Int} {tgt : Nat} (hX : zGood X own cc mL d) (hd : decode cc pc = .ok (.ifCond .gt off, 3)) (ht : (pc : Int) + off = (tgt : Int)) (kt : 0 < x → zG X u tgt L st) (kf : ¬ 0 < x → zG X u (pc + 3) L st) : zG X u pc L (.int x :: st) := by
  obtain ⟨E, A, p, l, e, R, s, m, args, below, meth, c, nL, cells, slots, Q⟩ := X
  exact fun H locs ls hP hS hl => lv_if_gt hX.1 hX.2.1 hd ht (fun c => kt c H locs ls hP hS hl) (fun c => kf c H locs ls hP hS hl)
theorem r_icmp_gt {x y : Int32} {off : Int} {tgt : Nat} (hX : zGood X own cc mL d) (hd : decode cc pc = .ok (.if_icmp .gt off, 3)) (ht : (pc : Int) + off = (tgt : Int)) (kt : y < x → zG X u tgt L st) (kf : ¬ y < x → zG X u (pc + 3) L st) : zG X u pc L (.int y :: .int x :: st) := by
  obtain ⟨E, A, p, l, e, R, s, m, args, below, meth, c, nL, cells, slots, Q⟩ := X
  exact fun H locs ls hP hS hl => lv_icmp_gt hX.1 hX.2.1 hd ht (fun c => kt c H locs ls hP hS hl) (fun c => kf c H locs ls hP hS hl)
theorem r_if_le {x : Int32} {off : Int} {tgt : Nat} (hX : zGood X own cc mL d) (hd : decode cc pc = .ok (.ifCond .le off, 3)) (ht : (pc : Int) + off = (tgt : Int)) (kt : x ≤ 0 → zG X u tgt L st) (kf : ¬ x ≤ 0 → zG X u (pc + 3) L st) : zG X u pc L (.int x :: st) := by
  obtain ⟨E, A, p, l, e, R, s, m, args, below, meth, c, nL, cells, slots, Q⟩ := X
  exact fun H locs ls hP hS hl => lv_if_le hX.1 hX.2.1 hd ht (fun c => kt c H locs ls hP hS hl) (fun c => kf c H locs ls hP hS hl)
theorem r_icmp_le {x y : Int32} {off : Int} {tgt : Nat} (hX : zGood X own cc mL d) (hd : decode cc pc = .ok (.if_icmp .le off, 3)) (ht : (pc : Int) + off = (tgt : Int)) (kt : x ≤ y → zG X u tgt L st) (kf : ¬ x ≤ y → zG X u (pc + 3) L st) : zG X u pc L (.int y :: .int x :: st) := by
  obtain ⟨E, A, p, l, e, R, s, m, args, below, meth, c, nL, cells, slots, Q⟩ := X
  exact fun H locs ls hP hS hl => lv_icmp_le hX.1 hX.2.1 hd ht (fun c => kt c H locs ls hP hS hl) (fun c => kf c H locs ls hP hS hl)
/-- switches -/
theorem r_tsIn {dflt lo hi : Int} {offs : Array Int} {len : Nat} {x v : Int32} {off : Int} {tgt : Nat} (hX : zGood X own cc mL d) (hd : decode cc pc = .ok (.tableswitch dflt lo hi offs, len)) (hx : x = v) (h1 : ¬ v.toInt < lo) (h2 : ¬ hi < v.toInt) (ho : offs[(v.toInt - lo).toNat]? = some off) (ht : (pc : Int) + off = (tgt : Int)) (k : zG X u tgt L st) : zG X u pc L (.int x :: st) := by
  obtain ⟨E, A, p, l, e, R, s, m, args, below, meth, c, nL, cells, slots, Q⟩ := X
  subst hx
  exact fun H locs ls hP hS hl => lv_tableIn hX.1 hX.2.1 hd h1 h2 ho ht (k H locs ls hP hS hl)
theorem r_tsOut {dflt lo hi : Int} {offs : Array Int} {len : Nat} {x : Int32} {tgt : Nat} (hX : zGood X own cc mL d) (hd : decode cc pc = .ok (.tableswitch dflt lo hi offs, len)) (hx : x.toInt < lo ∨ hi < x.toInt) (ht : (pc : Int) + dflt = (tgt : Int)) (k : zG X u tgt L st) : zG X u pc L (.int x :: st) := by
  obtain ⟨E, A, p, l, e, R, s, m, args, below, meth, c, nL, cells, slots, Q⟩ := X
  exact fun H locs ls hP hS hl => lv_tableOut hX.1 hX.2.1 hd hx ht (k H locs ls hP hS hl)
theorem r_ls {dflt : Int} {ps : Array (Int × Int)} {len : Nat} {x : Int32} {off : Int} {tgt : Nat} (hX : zGood X own cc mL d) (hd : decode cc pc = .ok (.lookupswitch dflt ps, len)) (hp : (ps.toList.zip (ps.toList.drop 1)).all (fun (a, next) => a.1 < next.1) = true) (ho : Op.lookupswitch.offset ps.toList dflt x.toInt = off) (ht : (pc : Int) + off = (tgt : Int)) (k : zG X u tgt L st) : zG X u pc L (.int x :: st) := by
  obtain ⟨E, A, p, l, e, R, s, m, args, below, meth, c, nL, cells, slots, Q⟩ := X
  exact fun H locs ls hP hS hl => lv_lookup hX.1 hX.2.1 hd hp ho ht (k H locs ls hP hS hl)
/-- a number that is none of a row's: it lies beside the row -/
theorem zts_out (x : Int32) (lo : Int) (hlo : -2147483648 ≤ lo) : ∀ n : Nat, lo + n ≤ 2147483648 → (∀ k : Nat, k < n → ¬ x = Int32.ofInt (lo + k)) → x.toInt < lo ∨ lo + (n : Int) - 1 < x.toInt := by
  intro n hn h
  by_cases h1 : x.toInt < lo
  · exact Or.inl h1
  · refine Or.inr ?_
    by_cases h2 : lo + (n : Int) - 1 < x.toInt
    · exact h2
    · exfalso
      refine h (x.toInt - lo).toNat (by omega) ?_
      have e : lo + ((x.toInt - lo).toNat : Int) = x.toInt := by omega
      rw [e, Int32.ofInt_toInt]
/-- fields -/
def zLF (own : String) (idx ci j : Nat) : Prop := ∃ (C : String) (T : u_T) (N : Nat), vwCl[ci]? = some (C, T, N) ∧ j < N ∧ (∀ w ∈ u_ws C T N, w ∈ zT) ∧ (Cond.fieldLink own idx (T j).1 (T j).2.1 (T j).2.2.1 ∈ zT ∨ ∃ host, Cond.fieldLinkNest own idx (T j).1 (T j).2.1 (T j).2.2.1 host ∈ zNest)
def zLP (ci j : Nat) (ty : FieldType) : Prop := ∀ (C : String) (T : u_T) (N : Nat), vwCl[ci]? = some (C, T, N) → (T j).2.2.2 = false ∧ parseFieldDescriptor (T j).2.2.1 = some ty ∧ (∀ a, a < N → ∀ b, b < N → a ≠ b → (T a).2.1 ≠ (T b).2.1) ∧ ∃ ty0 : Nat → FieldType, ∀ k, k < N → parseFieldDescriptor (T k).2.2.1 = some (ty0 k)
theorem r_get {idx ci j q : Nat} {v : Value} (hX : zGood X own cc mL d) (hd : decode cc pc = .ok (.getfield idx, 3)) (hf : zLF own idx ci j) (hc : zC q = some ci) (hv : ∀ (E : zE) (r : Nat → Int32), E = X.1 → r = u q → (zfs E q r)[j]? = some v) (k : zG X u (pc + 3) L (v :: st)) : zG X u pc L (.ref (zad X.1 q) :: st) := by
  obtain ⟨E, A, p, l, e, R, s, m, args, below, meth, c, nL, cells, slots, Q⟩ := X
  obtain ⟨C, T, N, hC, hj, hin, hl0⟩ := hf
  intro H locs ls hP hS hl
  rcases hl0 with hl0 | ⟨host, hl0⟩
  · exact va_get hX.1 hX.2.1 hX.2.2.2.2.1 hin hX.2.2.2.1 hX.2.2.2.2.2.1 hP q (zw_obj E u q ci hc) hC j hj (hX.2.2.2.2.1 _ hl0) (fun _ h => h) (hv E (u q) rfl rfl) hd (k H locs ls hP hS hl)
  · exact va_getN hX.1 hX.2.1 hX.2.2.2.2.1 hin hX.2.2.2.1 hX.2.2.2.2.2.1 hP q (zw_obj E u q ci hc) hC j hj (va_Nw.use (zNest_on hl0) (hX.2.2.2.2.2.2.2.1.2.2.1 _ hl0)) (fun _ h => h) (hv E (u q) rfl rfl) hd (k H locs ls hP hS hl)
theorem r_getI {idx ci j q : Nat} (hX : zGood X own cc mL d) (hd : decode cc pc = .ok (.getfield idx, 3)) (hf : zLF own idx ci j) (hi : zIs q j ci) (k : zG X u (pc + 3) L (.int (u q j) :: st)) : zG X u pc L (.ref (zad X.1 q) :: st) :=
  r_get hX hd hf hi.1 (fun E r _ hr => by rw [hi.2.1 E r, hr]) k
theorem r_getR {idx ci j q t : Nat} (hX : zGood X own cc mL d) (hd : decode cc pc = .ok (.getfield idx, 3)) (hf : zLF own idx ci j) (hi : zRs q j ci t) (k : zG X u (pc + 3) L (.ref (zad X.1 t) :: st)) : zG X u pc L (.ref (zad X.1 q) :: st) :=
  r_get hX hd hf hi.1 (fun E r hE _ => by rw [hi.2 E r, hE]) k
theorem r_putV {idx ci j q : Nat} {ty : FieldType} {v : Int32} (hX : zGood X own cc mL d) (hd : decode cc pc = .ok (.putfield idx, 3)) (hf : zLF own idx ci j) (hp : zLP ci j ty) (hi : zIs q j ci) (hn : narrow ty (.int v) = .int v) (hfit : fits ty (.int v) = true) (k : zG X (zst u q j v) (pc + 3) L st) : zG X u pc L (.int v :: .ref (zad X.1 q) :: st) := by
  obtain ⟨E, A, p, l, e, R, s, m, args, below, meth, c, nL, cells, slots, Q⟩ := X
  obtain ⟨C, T, N, hC, hj, hin, hl0⟩ := hf
  obtain ⟨hfin, hty, hnm, ty0, hty0⟩ := hp C T N hC
  intro H locs ls hP hS hl
  have hD : va_D A (zw E u) := zw_D z0 u hX.2.2.2.2.2.2.1
  rcases hl0 with hl0 | ⟨host, hl0⟩
  · refine va_put hX.1 hX.2.1 hX.2.2.2.2.1 hin ty0 hty0 hnm hX.2.2.2.1 hX.2.2.2.2.2.1 hP hD hS q (zw_obj E u q ci hi.1) hC j hj (hX.2.2.2.2.1 _ hl0) (fun _ h => h) hfin hty hn hfit (hi.2.2.1 E (u q)) hd (fun H1 locs1 hP1 _ hS1 => k H1 locs1 ls ?_ hS1 hl)
    rw [hi.2.2.2 E u v] at hP1
    exact hP1
  · refine va_putN hX.1 hX.2.1 hX.2.2.2.2.1 hin ty0 hty0 hnm hX.2.2.2.1 hX.2.2.2.2.2.1 hP hD hS q (zw_obj E u q ci hi.1) hC j hj (va_Nw.use (zNest_on hl0) (hX.2.2.2.2.2.2.2.1.2.2.1 _ hl0)) (fun _ h => h) hfin hty hn hfit (hi.2.2.1 E (u q)) hd (fun H1 locs1 hP1 _ hS1 => k H1 locs1 ls ?_ hS1 hl)
    rw [hi.2.2.2 E u v] at hP1
    exact hP1
theorem r_putI {idx ci j q : Nat} {v : Int32} (hX : zGood X own cc mL d) (hd : decode cc pc = .ok (.putfield idx, 3)) (hf : zLF own idx ci j) (hp : zLP ci j .int) (hi : zIs q j ci) (k : zG X (zst u q j v) (pc + 3) L st) : zG X u pc L (.int v :: .ref (zad X.1 q) :: st) :=
  r_putV hX hd hf hp hi rfl rfl k
theorem r_putZ {idx ci j q : Nat} {v : Int32} (hX : zGood X own cc mL d) (hd : decode cc pc = .ok (.putfield idx, 3)) (hf : zLF own idx ci j) (hp : zLP ci j .boolean) (hi : zIs q j ci) (hv : v = 0 ∨ v = 1) (k : zG X (zst u q j v) (pc + 3) L st) : zG X u pc L (.int v :: .ref (zad X.1 q) :: st) := by
  refine r_putV hX hd hf hp hi ?_ ?_ k
  · rcases hv with rfl | rfl <;> rfl
  · rcases hv with rfl | rfl <;> rfl
/-- arrays of ints -/
def zld (u : zM) (q N : Nat) (i : Int32) : Option Int32 := if i < 0 ∨ N ≤ i.toNatClampNeg then none else some (u q i.toNatClampNeg)
def zsv (u : zM) (q N : Nat) (i v : Int32) : Option zM := if i < 0 ∨ N ≤ i.toNatClampNeg then none else some (zst u q i.toNatClampNeg v)
theorem zld_some {u : zM} {q N : Nat} {i v : Int32} (h : zld u q N i = some v) : vp_in i N ∧ v = u q i.toNatClampNeg := by
  unfold zld at h
  split at h
  · cases h
  · rename_i hn
    exact ⟨hn, (Option.some.inj h).symm⟩
theorem zsv_some {u u' : zM} {q N : Nat} {i v : Int32} (h : zsv u q N i v = some u') : vp_in i N ∧ u' = zst u q i.toNatClampNeg v := by
  unfold zsv at h
  split at h
  · cases h
  · rename_i hn
    exact ⟨hn, (Option.some.inj h).symm⟩
theorem r_iald {q N : Nat} {i v : Int32} (hX : zGood X own cc mL d) (hd : decode cc pc = .ok (.iaload, 1)) (hN : zN q = some N) (hv : zld u q N i = some v) (k : zG X u (pc + 1) L (.int v :: st)) : zG X u pc L (.int i :: .ref (zad X.1 q) :: st) := by
  obtain ⟨E, A, p, l, e, R, s, m, args, below, meth, c, nL, cells, slots, Q⟩ := X
  obtain ⟨hin, rfl⟩ := zld_some hv
  intro H locs ls hP hS hl
  exact va_iald hX.1 hX.2.1 hX.2.2.2.2.2.1 hP q 0 (zw_arr E u q N hN) rfl hin hd (k H locs ls hP hS hl)
theorem r_ialdC {q N j : Nat} {i : Int32} (hX : zGood X own cc mL d) (hd : decode cc pc = .ok (.iaload, 1)) (hN : zN q = some N) (hv : (decide (i < 0) = false ∧ i.toNatClampNeg = j) ∧ Nat.blt j N = true) (k : zG X u (pc + 1) L (.int (u q j) :: st)) : zG X u pc L (.int i :: .ref (zad X.1 q) :: st) := by
  obtain ⟨⟨h1, rfl⟩, h3⟩ := hv
  have h3 : i.toNatClampNeg < N := by simpa [Nat.blt_eq] using h3
  refine r_iald hX hd hN ?_ k
  unfold zld
  rw [if_neg (fun z => ?_)]
  rcases z with z | z
  · exact of_decide_eq_false h1 z
  · omega
theorem r_iast {q N : Nat} {i v : Int32} {u' : zM} (hX : zGood X own cc mL d) (hd : decode cc pc = .ok (.iastore, 1)) (hN : zN q = some N) (hv : zsv u q N i v = some u') (k : zG X u' (pc + 1) L st) : zG X u pc L (.int v :: .int i :: .ref (zad X.1 q) :: st) := by
  obtain ⟨E, A, p, l, e, R, s, m, args, below, meth, c, nL, cells, slots, Q⟩ := X
  obtain ⟨hin, rfl⟩ := zsv_some hv
  intro H locs ls hP hS hl
  have hD : va_D A (zw E u) := zw_D z0 u hX.2.2.2.2.2.2.1
  refine va_iast hX.1 hX.2.1 hX.2.2.2.2.2.1 hP hD hS q 0 (zw_arr E u q N hN) rfl hin hd (fun H1 locs1 hP1 _ hS1 => k H1 locs1 ls ?_ hS1 hl)
  rw [zw_set E u _ q N hN] at hP1
  exact hP1
theorem r_iastC {q N j : Nat} {i v : Int32} (hX : zGood X own cc mL d) (hd : decode cc pc = .ok (.iastore, 1)) (hN : zN q = some N) (hv : (decide (i < 0) = false ∧ i.toNatClampNeg = j) ∧ Nat.blt j N = true) (k : zG X (zst u q j v) (pc + 1) L st) : zG X u pc L (.int v :: .int i :: .ref (zad X.1 q) :: st) := by
  obtain ⟨⟨h1, rfl⟩, h3⟩ := hv
  have h3 : i.toNatClampNeg < N := by simpa [Nat.blt_eq] using h3
  refine r_iast hX hd hN ?_ k
  unfold zsv
  rw [if_neg (fun z => ?_)]
  rcases z with z | z
  · exact of_decide_eq_false h1 z
  · omega
theorem r_alen {q N : Nat} {v : Int32} (hX : zGood X own cc mL d) (hd : decode cc pc = .ok (.arraylength, 1)) (hN : zN q = some N) (hv : Int32.ofNat N = v) (k : zG X u (pc + 1) L (.int v :: st)) : zG X u pc L (.ref (zad X.1 q) :: st) := by
  obtain ⟨E, A, p, l, e, R, s, m, args, below, meth, c, nL, cells, slots, Q⟩ := X
  exact fun H locs ls hP hS hl => va_alen hX.1 hX.2.1 hX.2.2.2.2.2.1 hP q 0 (zw_arr E u q N hN) rfl hv hd (k H locs ls hP hS hl)
/-- the row of sheets -/
def zsheet (i : Int32) : Option Nat := if i < 0 ∨ 4 ≤ i.toNatClampNeg then none else some (31 + 2 * i.toNatClampNeg)
theorem zsheet_ok {i : Int32} {q : Nat} (h : zsheet i = some q) : vp_in i 4 ∧ q = 31 + 2 * i.toNatClampNeg ∧ zSh q := by
  unfold zsheet at h
  split at h
  · cases h
  · rename_i hn
    have e := (Option.some.inj h).symm
    refine ⟨hn, e, ?_⟩
    have hlt : i.toNatClampNeg < 4 := Nat.not_le.mp fun z => hn (Or.inr z)
    unfold zSh
    omega
theorem r_aldS {i : Int32} {q : Nat} (hX : zGood X own cc mL d) (hd : decode cc pc = .ok (.aaload, 1)) (hv : zsheet i = some q) (k : zG X u (pc + 1) L (.ref (zad X.1 q) :: st)) : zG X u pc L (.int i :: .ref (zad X.1 27) :: st) := by
  obtain ⟨E, A, p, l, e, R, s, m, args, below, meth, c, nL, cells, slots, Q⟩ := X
  obtain ⟨hin, rfl, -⟩ := zsheet_ok hv
  intro H locs ls hP hS hl
  exact va_aldq hX.1 hX.2.1 hX.2.2.2.2.2.1 hP 27 1 (show (zw E u)[27]? = some (zad E 27, .inl (E.2.1 1, 4, .inr (.inr (.inr (.inr (fun j => some (zad E (31 + 2 * j)))))))) from rfl) rfl hin hd (k H locs ls hP hS hl)
/-- the rows of Strings -/
def zsa (base n : Nat) (i : Int32) : Option Nat := if i < 0 ∨ n ≤ i.toNatClampNeg then none else some (base + i.toNatClampNeg)
theorem zsa_ok {base n : Nat} {i : Int32} {q : Nat} (h : zsa base n i = some q) : vp_in i n ∧ q = base + i.toNatClampNeg ∧ q < base + n := by
  unfold zsa at h
  split at h
  · cases h
  · rename_i hn
    have e := (Option.some.inj h).symm
    have hlt : i.toNatClampNeg < n := Nat.not_le.mp fun z => hn (Or.inr z)
    exact ⟨hn, e, by omega⟩
theorem r_aldK {i : Int32} {q : Nat} (hX : zGood X own cc mL d) (hd : decode cc pc = .ok (.aaload, 1)) (hv : zsa 0 7 i = some q) (k : zG X u (pc + 1) L (.ref (zaK X.1 q) :: st)) : zG X u pc L (.int i :: .ref (zad X.1 48) :: st) := by
  obtain ⟨E, A, p, l, e, R, s, m, args, below, meth, c, nL, cells, slots, Q⟩ := X
  obtain ⟨hin, rfl, -⟩ := zsa_ok hv
  intro H locs ls hP hS hl
  exact va_aldq hX.1 hX.2.1 hX.2.2.2.2.2.1 hP 48 2 (show (zw E u)[48]? = some (zad E 48, .inl (E.2.1 2, 7, .inr (.inr (.inr (.inr (fun j => some (zaK E (0 + j)))))))) from rfl) rfl hin hd (k H locs ls hP hS hl)
theorem r_aldR {i : Int32} {q : Nat} (hX : zGood X own cc mL d) (hd : decode cc pc = .ok (.aaload, 1)) (hv : zsa 7 3 i = some q) (k : zG X u (pc + 1) L (.ref (zaK X.1 q) :: st)) : zG X u pc L (.int i :: .ref (zad X.1 49) :: st) := by
  obtain ⟨E, A, p, l, e, R, s, m, args, below, meth, c, nL, cells, slots, Q⟩ := X
  obtain ⟨hin, rfl, -⟩ := zsa_ok hv
  intro H locs ls hP hS hl
  exact va_aldq hX.1 hX.2.1 hX.2.2.2.2.2.1 hP 49 2 (show (zw E u)[49]? = some (zad E 49, .inl (E.2.1 2, 3, .inr (.inr (.inr (.inr (fun j => some (zaK E (7 + j)))))))) from rfl) rfl hin hd (k H locs ls hP hS hl)
theorem r_alenK (hX : zGood X own cc mL d) (hd : decode cc pc = .ok (.arraylength, 1)) (k : zG X u (pc + 1) L (.int 7 :: st)) : zG X u pc L (.ref (zad X.1 48) :: st) := by
  obtain ⟨E, A, p, l, e, R, s, m, args, below, meth, c, nL, cells, slots, Q⟩ := X
  exact fun H locs ls hP hS hl => va_alen hX.1 hX.2.1 hX.2.2.2.2.2.1 hP 48 2 (show (zw E u)[48]? = some (zad E 48, .inl (E.2.1 2, 7, .inr (.inr (.inr (.inr (fun j => some (zaK E (0 + j)))))))) from rfl) rfl rfl hd (k H locs ls hP hS hl)
theorem r_alenR (hX : zGood X own cc mL d) (hd : decode cc pc = .ok (.arraylength, 1)) (k : zG X u (pc + 1) L (.int 3 :: st)) : zG X u pc L (.ref (zad X.1 49) :: st) := by
  obtain ⟨E, A, p, l, e, R, s, m, args, below, meth, c, nL, cells, slots, Q⟩ := X
  exact fun H locs ls hP hS hl => va_alen hX.1 hX.2.1 hX.2.2.2.2.2.1 hP 49 2 (show (zw E u)[49]? = some (zad E 49, .inl (E.2.1 2, 3, .inr (.inr (.inr (.inr (fun j => some (zaK E (7 + j)))))))) from rfl) rfl rfl hd (k H locs ls hP hS hl)
/-- constants, the static row, copies -/
theorem r_ldc {idx : Nat} {v : Int32} (hX : zGood X own cc mL d) (hd : decode cc pc = .ok (.ldc idx, 2)) (hw : Cond.constant own idx v ∈ zT) (k : zG X u (pc + 2) L (.int v :: st)) : zG X u pc L st := by
  obtain ⟨E, A, p, l, e, R, s, m, args, below, meth, c, nL, cells, slots, Q⟩ := X
  exact fun H locs ls hP hS hl => lv_ldc hX.1 hX.2.1 hX.2.2.2.1 (hX.2.2.2.2.1 _ hw) hd (k H locs ls hP hS hl)
theorem r_ldcw {idx : Nat} {v : Int32} (hX : zGood X own cc mL d) (hd : decode cc pc = .ok (.ldc_w idx, 3)) (hw : Cond.constant own idx v ∈ zT) (k : zG X u (pc + 3) L (.int v :: st)) : zG X u pc L st := by
  obtain ⟨E, A, p, l, e, R, s, m, args, below, meth, c, nL, cells, slots, Q⟩ := X
  exact fun H locs ls hP hS hl => lv_ldcw hX.1 hX.2.1 hX.2.2.2.1 (hX.2.2.2.2.1 _ hw) hd (k H locs ls hP hS hl)
theorem r_ldcS {idx q : Nat} {tx : String} (hX : zGood X own cc mL d) (hd : decode cc pc = .ok (.ldc idx, 2)) (hw : (own, idx, tx, q) ∈ zStr) (k : zG X u (pc + 2) L (.ref (zaK X.1 q) :: st)) : zG X u pc L st := by
  obtain ⟨E, A, p, l, e, R, s, m, args, below, meth, c, nL, cells, slots, Q⟩ := X
  exact fun H locs ls hP hS hl => va_ldcS hX.1 hX.2.1 hX.2.2.2.1 (hX.2.2.2.2.2.2.2.1.2.1 _ hw) hd (k H locs ls hP hS hl)
theorem r_gsK {idx : Nat} (hX : zGood X own cc mL d) (hd : decode cc pc = .ok (.getstatic idx, 3)) (hw : Cond.fieldLink own idx "MeanCoats" "KIND_ABOVE" "[I" ∈ zT) (k : zG X u (pc + 3) L (.ref X.1.2.2.2.2.2 :: st)) : zG X u pc L st := by
  obtain ⟨E, A, p, l, e, R, s, m, args, below, meth, c, nL, cells, slots, Q⟩ := X
  exact fun H locs ls hP hS hl => va_gets hX.1 hX.2.1 hX.2.2.2.2.2.2.2.1.2.2.2.1 hS hX.2.2.2.1 (hX.2.2.2.2.1 _ hw) (fun _ h => h) hd (k H locs ls hP hS hl)
def zka (i : Int32) : Option Int32 := if i < 0 ∨ 7 ≤ i.toNatClampNeg then none else some (zKA i.toNatClampNeg)
theorem r_aldA {i v : Int32} (hX : zGood X own cc mL d) (hd : decode cc pc = .ok (.iaload, 1)) (hv : zka i = some v) (k : zG X u (pc + 1) L (.int v :: st)) : zG X u pc L (.int i :: .ref X.1.2.2.2.2.2 :: st) := by
  obtain ⟨E, A, p, l, e, R, s, m, args, below, meth, c, nL, cells, slots, Q⟩ := X
  unfold zka at hv
  split at hv
  · cases hv
  · rename_i hn
    cases hv
    exact fun H locs ls hP hS hl => va_ti hX.1 hX.2.1 hX.2.2.2.2.2.2.2.1.2.2.2.2.1 hS hn rfl hd (k H locs ls hP hS hl)
def zcp (u : zM) (q0 n0 : Nat) (sp : Int32) (q1 n1 : Nat) (dp n : Int32) : Option zM :=
  if sp < 0 ∨ dp < 0 ∨ n < 0 ∨ n0 < sp.toNatClampNeg + n.toNatClampNeg ∨ n1 < dp.toNatClampNeg + n.toNatClampNeg then none else some (zup u q1 (va_cpy (u q0) (u q1) sp.toNatClampNeg dp.toNatClampNeg n.toNatClampNeg))
def zLA (own : String) (idx : Nat) : Prop := Cond.methodLink own idx arraycopyName ∈ zT ∧ Cond.native arraycopyName ∈ zT ∧ Cond.static arraycopyName ∈ zT ∧ Cond.initialized "java/lang/System" ∈ zT
theorem r_copy {idx q0 n0 q1 n1 : Nat} {sp dp n : Int32} {u' : zM} (hX : zGood X own cc mL d) (hd : decode cc pc = .ok (.invokestatic idx, 3)) (hw : zLA own idx) (h0 : zN q0 = some n0) (h1 : zN q1 = some n1) (hd1 : 1 ≤ d) (hst : (st.map fun v => v.category).sum ≤ 8) (hv : zcp u q0 n0 sp q1 n1 dp n = some u') (k : zG X u' (pc + 3) L st) :
    zG X u pc L (.int n :: .int dp :: .ref (zad X.1 q1) :: .int sp :: .ref (zad X.1 q0) :: st) := by
  obtain ⟨E, A, p, l, e, R, s, m, args, below, meth, c, nL, cells, slots, Q⟩ := X
  obtain ⟨w1, w2, w3, w4⟩ := hw
  unfold zcp at hv
  split at hv
  · cases hv
  · rename_i hn
    have hu := (Option.some.inj hv).symm
    subst hu
    have hD : va_D A (zw E u) := zw_D z0 u hX.2.2.2.2.2.2.1
    have hfr : d ≤ R.frames := hX.2.2.2.2.2.2.2.2.1
    have hlo : d * 48 ≤ R.locals := hX.2.2.2.2.2.2.2.2.2.1
    have hnw : nativeFrameWords "java/lang/System" "arraycopy" 5 + 11 ≤ 40 := by decide +kernel
    intro H locs ls hP hS hl
    refine va_copyi hX.1 hX.2.1 (by rw [hX.2.2.1.1]; exact hl.1.symm) hX.2.2.2.1 (hX.2.2.2.2.1 _ w1) (hX.2.2.2.2.1 _ w2) (hX.2.2.2.2.1 _ w3) (hX.2.2.2.2.1 _ w4) hX.2.2.2.2.2.1 hP hD hS q0 q1 0 0 (zw_arr E u q0 n0 h0) (zw_arr E u q1 n1 h1) (ty := .int) rfl rfl rfl
      (fun z => hn (Or.inl z)) (fun z => hn (Or.inr (Or.inl z))) (fun z => hn (Or.inr (Or.inr (Or.inl z)))) (Nat.not_lt.mp fun z => hn (Or.inr (Or.inr (Or.inr (Or.inl z))))) (Nat.not_lt.mp fun z => hn (Or.inr (Or.inr (Or.inr (Or.inr z))))) (fun _ _ => rfl) (by omega) (by omega) hd (fun H1 locs1 hP1 _ hS1 => k H1 locs1 ls ?_ hS1 hl)
    rw [zw_set E u _ q1 n1 h1] at hP1
    exact hP1
/-- Math -/
def zmax (x y : Int32) : Int32 := if x < y then y else x
def zmin (x y : Int32) : Int32 := if y < x then y else x
def zabs (x : Int32) : Int32 := if 0 ≤ x then x else 0 - x
def zLM (own : String) (idx : Nat) (y : MethodName) (b : ByteArray) (n : Nat) : Prop := Cond.methodLink own idx y ∈ zT ∧ Cond.static y ∈ zT ∧ Cond.initialized "java/lang/Math" ∈ zT ∧ Cond.code y b n (some .int) ∈ zT
theorem r_max {idx : Nat} {x y : Int32} (hX : zGood X own cc mL d) (hd : decode cc pc = .ok (.invokestatic idx, 3)) (hw : zLM own idx Lib.Math.max.name Lib.Math.max.code 2) (hd1 : 1 ≤ d) (hst : (st.map fun v => v.category).sum ≤ 8) (k : zG X u (pc + 3) L (.int (zmax x y) :: st)) : zG X u pc L (.int y :: .int x :: st) := by
  obtain ⟨E, A, p, l, e, R, s, m, args, below, meth, c, nL, cells, slots, Q⟩ := X
  obtain ⟨w1, w2, w3, w4⟩ := hw
  have hfr : d ≤ R.frames := hX.2.2.2.2.2.2.2.2.1
  have hlo : d * 48 ≤ R.locals := hX.2.2.2.2.2.2.2.2.2.1
  exact fun H locs ls hP hS hl => va_mmax hX.1 hX.2.1 (by rw [hX.2.2.1.1]; exact hl.1.symm) hX.2.2.2.1 (hX.2.2.2.2.1 _ w1) (hX.2.2.2.2.1 _ w2) (hX.2.2.2.2.1 _ w3) (hX.2.2.2.2.1 _ w4) (by omega) (by omega) hX.2.2.2.2.2.2.2.2.2.2.1 hX.2.2.2.2.2.2.2.2.2.2.2 hd (k H locs ls hP hS hl)
theorem r_min {idx : Nat} {x y : Int32} (hX : zGood X own cc mL d) (hd : decode cc pc = .ok (.invokestatic idx, 3)) (hw : zLM own idx Lib.Math.min.name Lib.Math.min.code 2) (hd1 : 1 ≤ d) (hst : (st.map fun v => v.category).sum ≤ 8) (k : zG X u (pc + 3) L (.int (zmin x y) :: st)) : zG X u pc L (.int y :: .int x :: st) := by
  obtain ⟨E, A, p, l, e, R, s, m, args, below, meth, c, nL, cells, slots, Q⟩ := X
  obtain ⟨w1, w2, w3, w4⟩ := hw
  have hfr : d ≤ R.frames := hX.2.2.2.2.2.2.2.2.1
  have hlo : d * 48 ≤ R.locals := hX.2.2.2.2.2.2.2.2.2.1
  exact fun H locs ls hP hS hl => va_mmin hX.1 hX.2.1 (by rw [hX.2.2.1.1]; exact hl.1.symm) hX.2.2.2.1 (hX.2.2.2.2.1 _ w1) (hX.2.2.2.2.1 _ w2) (hX.2.2.2.2.1 _ w3) (hX.2.2.2.2.1 _ w4) (by omega) (by omega) hX.2.2.2.2.2.2.2.2.2.2.1 hX.2.2.2.2.2.2.2.2.2.2.2 hd (k H locs ls hP hS hl)
theorem r_abs {idx : Nat} {x : Int32} (hX : zGood X own cc mL d) (hd : decode cc pc = .ok (.invokestatic idx, 3)) (hw : zLM own idx Lib.Math.abs.name Lib.Math.abs.code 1) (hd1 : 1 ≤ d) (hst : (st.map fun v => v.category).sum ≤ 8) (k : zG X u (pc + 3) L (.int (zabs x) :: st)) : zG X u pc L (.int x :: st) := by
  obtain ⟨E, A, p, l, e, R, s, m, args, below, meth, c, nL, cells, slots, Q⟩ := X
  obtain ⟨w1, w2, w3, w4⟩ := hw
  have hfr : d ≤ R.frames := hX.2.2.2.2.2.2.2.2.1
  have hlo : d * 48 ≤ R.locals := hX.2.2.2.2.2.2.2.2.2.1
  exact fun H locs ls hP hS hl => va_mabs hX.1 hX.2.1 (by rw [hX.2.2.1.1]; exact hl.1.symm) hX.2.2.2.1 (hX.2.2.2.2.1 _ w1) (hX.2.2.2.2.1 _ w2) (hX.2.2.2.2.1 _ w3) (hX.2.2.2.2.1 _ w4) (by omega) (by omega) hX.2.2.2.2.2.2.2.2.2.2.1 hX.2.2.2.2.2.2.2.2.2.2.2 hd (k H locs ls hP hS hl)
end ZR
end
section
/-! CALLS AND ENDS -/
section ZC
variable {X : zX} {own : String} {cc : ByteArray} {mL d : Nat} {u : zM} {pc : Nat} {L : List (Nat × Value)} {st : List Value}
/-- what a call needs beside the contract: the words that link it -/
def zLk (own : String) (idx : Nat) (y : MethodName) : Prop := Cond.methodLink own idx y ∈ zT ∨ ∃ host, Cond.methodLinkNest own idx y host ∈ zNest
def zLV (own : String) (idx : Nat) (y : MethodName) (b : ByteArray) (m : Nat) (ret : Option FieldType) (n : Nat) : Prop :=
  zLk own idx y ∧ Cond.code y b m ret ∈ zT ∧ Cond.initialized y.cls ∈ zT ∧ (y.cls ≠ "java/lang/invoke/MethodHandle" ∧ y.cls ≠ "java/lang/invoke/VarHandle" ∧ (parseMethodDescriptor y.desc).map (fun d => d.parameters.length) = some n) ∧ Cond.instanceMethod y ∈ zT ∧ Cond.selects y.cls y y ∈ zT
def zLS (own : String) (idx : Nat) (y : MethodName) (b : ByteArray) (m : Nat) (ret : Option FieldType) (n : Nat) : Prop :=
  zLk own idx y ∧ Cond.code y b m ret ∈ zT ∧ Cond.initialized y.cls ∈ zT ∧ (y.cls ≠ "java/lang/invoke/MethodHandle" ∧ y.cls ≠ "java/lang/invoke/VarHandle" ∧ (parseMethodDescriptor y.desc).map (fun d => d.parameters.length) = some n) ∧ Cond.static y ∈ zT
theorem zws_good {y : MethodName} {b : ByteArray} {m : Nat} {ret : Option FieldType} (h : Cond.code y b m ret ∈ zT) : GoodIn zT (.code y b m ret :: zT) := zT_all (fun w hw => by
  rcases List.mem_cons.mp hw with rfl | hw
  · exact h
  · exact hw)
section ZCW
variable {p : Program} {l : Launch} {e : Env} {R : Room} {s : State} {m : MethodId} {args : Array Value} {below : List Frame} {meth : Method} {c : Code} {H : Heap} {locs : List Loc} {cells slots : Nat} {Q : State → Prop}
theorem z_call {E : zE} {A : Nat → Prop} {r : Option Value} {u' : zM} {a : Array Value} {ls : Array Slot} {st0 rest : List Value} (hr : va_Run p l e R s m args below meth c H locs cells slots 0 0 (F0 m pc ls st0) rest (zQc E r u' a) (zA E)) (hS : va_S A s.heap H locs) (hAA : ∀ q, zA E q → A q)
    (kk : ∀ (H1 : Heap) (locs1 : List Loc), va_P E.1 vwCl (zw E u') H1 → va_S A s.heap H1 locs1 → W p l e R s m args below meth c H1 locs1 cells slots Q (F0 m (pc + 3) ls (r.toList ++ rest))) : W p l e R s m args below meth c H locs cells slots Q (F0 m pc ls st0) := by
  intro T hT X
  obtain ⟨v, st₀, t, T', L, h0, X', hL, e1, e2, ⟨⟨hv, hP1⟩, hz, hk⟩, stp⟩ := hr T hT X
  cases hv
  rw [h0] at hz hk
  obtain ⟨t2, a1, b1⟩ := kk T'.heap (locs ++ L) (by rw [e1]; exact hP1)
    ⟨Nat.le_trans hS.1 (by rw [e1]; exact hz), fun q h1 h2 => by rw [e1, hk q (Nat.lt_of_lt_of_le h1 hS.1) (fun z => h2 (hAA q z))]; exact hS.2.1 q h1 h2, fun q hq => by
      rcases List.mem_append.mp hq with h | h
      · exact hS.2.2 q h
      · exact hAA _ (hL q h)⟩ T' rfl X'
  exact ⟨t2, stp t2 a1, b1⟩
end ZCW
/-- who may be called: an object of the world, or a String -/
def zRecv (E : zE) (C : String) (a : Nat) : Prop := (∃ q ci T N, a = zad E q ∧ zC q = some ci ∧ vwCl[ci]? = some (C, T, N)) ∨ (∃ q, q < 15 ∧ a = zaK E q ∧ C = "java/lang/String")
theorem zRecv.of {E : zE} {C : String} {q ci : Nat} {T : u_T} {N : Nat} (h1 : zC q = some ci) (h2 : vwCl[ci]? = some (C, T, N)) : zRecv E C (zad E q) := Or.inl ⟨q, ci, T, N, rfl, h1, h2⟩
theorem r_callV {idx n d' m' a : Nat} {y : MethodName} {b : ByteArray} {ret : Option FieldType} {av : zE → List Value} {r : zE → Option Value} {u' : zM} {st0 rest st1 : List Value} {As : List Value} (hX : zGood X own cc mL d) (hd : decode cc pc = .ok (.invokevirtual idx, 3)) (hw : zLV own idx y b m' ret n) (hC : zCt d' y b m' ret av u r u')
    (hdd : d' + 1 ≤ d ∧ m' ≤ 29) (hav : av X.1 = .ref a :: As) (hn : As.length = n) (hrv : zRecv X.1 y.cls a) (hst0 : st0 = As.reverse ++ .ref a :: rest) (hst : (rest.map fun v => v.category).sum ≤ 8) (hst1 : (r X.1).toList ++ rest = st1) (k : zG X u' (pc + 3) L st1) : zG X u pc L st0 := by
  obtain ⟨E, A, p, l, e, R, s, m, args, below, meth, c, nL, cells, slots, Q⟩ := X
  obtain ⟨hlk, hcode, hini, hdesc, hinst, hsel⟩ := hw
  have hts := hX.2.2.2.2.1
  have hK : va_K E.1 vwCl (zty E) s := hX.2.2.2.2.2.1
  have hD : va_D A (zw E z0) := hX.2.2.2.2.2.2.1
  have hRo : zRo E A s := hX.2.2.2.2.2.2.2.1
  have hfr : d ≤ R.frames := hX.2.2.2.2.2.2.2.2.1
  have hlo : d * 48 ≤ R.locals := hX.2.2.2.2.2.2.2.2.2.1
  have hce : cells ≤ R.cells := hX.2.2.2.2.2.2.2.2.2.2.1
  have hsl : slots ≤ R.slots := hX.2.2.2.2.2.2.2.2.2.2.2
  subst hst0
  intro H locs ls hP hS hl
  have hM : Met l y (.code y b m' ret :: zT) { frames := d', cells := 0, slots := 0, locals := d' * 48 } (zPc E (.ref a :: As) u) (zQc E (r E) u') 0 0 (zA E) := by
    have := hC l E
    rw [show av E = .ref a :: As from hav] at this
    exact this
  have hrec : ∃ cellB : Cell, H[a]? = some cellB ∧ cellB.vm.isStatics = false ∧ s.vm.findClass y.cls = some cellB.cls := by
    rcases hrv with ⟨q, ci, T, N, rfl, hc, hcl⟩ | ⟨q, hq, rfl, hcl⟩
    · exact va_recv hK hP hcl (zw_obj E u q ci hc)
    · rw [hcl]
      exact vk_recv hRo.1 hq hS
  have hp : PreV s H y.cls a (zPc E (.ref a :: As) u) As := ⟨zPc_blind, hrec, fun U hU hW => ⟨rfl, by rw [hU]; exact hP, va_K.moved hW.alike hK, zA_D hD, hRo.go hW (by rw [hU]; exact hS.2.1) (zA_le hD)⟩⟩
  have hRm : d' + 1 ≤ R.frames ∧ 8 + (m' + 11) + d' * 48 ≤ R.locals := ⟨by omega, by omega⟩
  have kk : ∀ (H1 : Heap) (locs1 : List Loc), va_P E.1 vwCl (zw E u') H1 → va_S A s.heap H1 locs1 → W p l e R s m args below meth c H1 locs1 cells slots Q (F0 m (pc + 3) ls ((r E).toList ++ rest)) := fun H1 locs1 h1 h2 => by
    rw [show (r E).toList ++ rest = st1 from hst1]
    exact k H1 locs1 ls h1 h2 hl
  rcases hlk with hlk | ⟨host, hlk⟩
  · exact z_call (va_runV (As := As) (rest := rest) ⟨hX.1, hX.2.1, hX.2.2.1.1, hX.2.2.2.1, hts⟩ hM ⟨callB_of n hts (zws_good hcode) rfl rfl rfl (hts _ hini) (hts _ hlk) hdesc hRm, hts _ hinst, hts _ hsel⟩ hp rfl hn hl.1 rfl (lv_room hst) hd ⟨hce, hsl⟩) hS (zA_le hD) kk
  · exact z_call (va_runVN (As := As) (rest := rest) ⟨hX.1, hX.2.1, hX.2.2.1.1, hX.2.2.2.1, hts⟩ hM ⟨va_cnB n hts (zws_good hcode) rfl rfl rfl (hRo.2.2.1 _ hlk) (hts _ hini) hdesc hRm, hts _ hinst, hts _ hsel⟩ hp rfl hn hl.1 rfl (lv_room hst) hd ⟨hce, hsl⟩) hS (zA_le hD) kk
theorem r_callS {idx n d' m' : Nat} {y : MethodName} {b : ByteArray} {ret : Option FieldType} {av : zE → List Value} {r : zE → Option Value} {u' : zM} {st0 rest st1 : List Value} {As : List Value} (hX : zGood X own cc mL d) (hd : decode cc pc = .ok (.invokestatic idx, 3)) (hw : zLS own idx y b m' ret n) (hC : zCt d' y b m' ret av u r u')
    (hdd : d' + 1 ≤ d ∧ m' ≤ 29) (hav : av X.1 = As) (hn : As.length = n) (hst0 : st0 = As.reverse ++ rest) (hst : (rest.map fun v => v.category).sum ≤ 8) (hst1 : (r X.1).toList ++ rest = st1) (k : zG X u' (pc + 3) L st1) : zG X u pc L st0 := by
  obtain ⟨E, A, p, l, e, R, s, m, args, below, meth, c, nL, cells, slots, Q⟩ := X
  obtain ⟨hlk, hcode, hini, hdesc, hstat⟩ := hw
  have hts := hX.2.2.2.2.1
  have hK : va_K E.1 vwCl (zty E) s := hX.2.2.2.2.2.1
  have hD : va_D A (zw E z0) := hX.2.2.2.2.2.2.1
  have hRo : zRo E A s := hX.2.2.2.2.2.2.2.1
  have hfr : d ≤ R.frames := hX.2.2.2.2.2.2.2.2.1
  have hlo : d * 48 ≤ R.locals := hX.2.2.2.2.2.2.2.2.2.1
  have hce : cells ≤ R.cells := hX.2.2.2.2.2.2.2.2.2.2.1
  have hsl : slots ≤ R.slots := hX.2.2.2.2.2.2.2.2.2.2.2
  subst hst0
  intro H locs ls hP hS hl
  have hM : Met l y (.code y b m' ret :: zT) { frames := d', cells := 0, slots := 0, locals := d' * 48 } (zPc E As u) (zQc E (r E) u') 0 0 (zA E) := by
    have := hC l E
    rw [show av E = As from hav] at this
    exact this
  have hp : PreS s H (zPc E As u) As := ⟨zPc_blind, fun U hU hW => ⟨rfl, by rw [hU]; exact hP, va_K.moved hW.alike hK, zA_D hD, hRo.go hW (by rw [hU]; exact hS.2.1) (zA_le hD)⟩⟩
  have hRm : d' + 1 ≤ R.frames ∧ 8 + (m' + 11) + d' * 48 ≤ R.locals := ⟨by omega, by omega⟩
  have kk : ∀ (H1 : Heap) (locs1 : List Loc), va_P E.1 vwCl (zw E u') H1 → va_S A s.heap H1 locs1 → W p l e R s m args below meth c H1 locs1 cells slots Q (F0 m (pc + 3) ls ((r E).toList ++ rest)) := fun H1 locs1 h1 h2 => by
    rw [show (r E).toList ++ rest = st1 from hst1]
    exact k H1 locs1 ls h1 h2 hl
  rcases hlk with hlk | ⟨host, hlk⟩
  · exact z_call (va_runS (As := As) (rest := rest) ⟨hX.1, hX.2.1, hX.2.2.1.1, hX.2.2.2.1, hts⟩ hM ⟨callB_of n hts (zws_good hcode) rfl rfl rfl (hts _ hini) (hts _ hlk) hdesc hRm, hts _ hstat⟩ hp rfl hn hl.1 rfl (lv_room hst) hd ⟨hce, hsl⟩) hS (zA_le hD) kk
  · exact z_call (va_runSN (As := As) (rest := rest) ⟨hX.1, hX.2.1, hX.2.2.1.1, hX.2.2.2.1, hts⟩ hM ⟨va_cnB n hts (zws_good hcode) rfl rfl rfl (hRo.2.2.1 _ hlk) (hts _ hini) hdesc hRm, hts _ hstat, trivial⟩ hp rfl hn hl.1 rfl (lv_room hst) hd ⟨hce, hsl⟩) hS (zA_le hD) kk
/-- ends -/
theorem r_iret {v : Int32} (hX : zGood X own cc mL d) (hR : zRet X (some .int) (some (.int v)) u) (hd : decode cc pc = .ok (.ireturn, 1)) : zG X u pc L [.int v] := by
  obtain ⟨E, A, p, l, e, R, s, m, args, below, meth, c, nL, cells, slots, Q⟩ := X
  obtain ⟨rfl, rfl, hr, hlocks⟩ := hR
  intro H locs ls hP hS hl
  exact W.iret hX.1 hX.2.1 hr (fun t ht hW => ⟨⟨rfl, by rw [ht]; exact hP⟩, hS.F ht⟩) hS.2.2 hd hlocks
theorem r_vret (hX : zGood X own cc mL d) (hR : zRet X none none u) (hd : decode cc pc = .ok (.return_, 1)) : zG X u pc L [] := by
  obtain ⟨E, A, p, l, e, R, s, m, args, below, meth, c, nL, cells, slots, Q⟩ := X
  obtain ⟨rfl, rfl, hr, hlocks⟩ := hR
  intro H locs ls hP hS hl
  exact W.vret hX.1 hX.2.1 hr (fun t ht hW => ⟨⟨rfl, by rw [ht]; exact hP⟩, hS.F ht⟩) hS.2.2 hd hlocks
theorem r_aret {a : Nat} {rt : FieldType} (hrt : (∃ n, rt = .object n) ∨ ∃ t, rt = .array t) (hX : zGood X own cc mL d) (hR : zRet X (some rt) (some (.ref a)) u) (hd : decode cc pc = .ok (.areturn, 1)) : zG X u pc L [.ref a] := by
  obtain ⟨E, A, p, l, e, R, s, m, args, below, meth, c, nL, cells, slots, Q⟩ := X
  obtain ⟨rfl, rfl, hr, hlocks⟩ := hR
  intro H locs ls hP hS hl
  exact W.aret hX.1 hX.2.1 hr hrt (Or.inr ⟨a, rfl⟩) (fun t ht hW => ⟨⟨rfl, by rw [ht]; exact hP⟩, hS.F ht⟩) hS.2.2 hd hlocks
/-- what comes back of a boolean, a char, a byte: narrowed -/
def zb (v : Int32) : Int32 := v &&& 1
def zc16 (v : Int32) : Int32 := v.toUInt32.toUInt16.toUInt32.toInt32
theorem r_nret {v v' : Int32} {ty : FieldType} (hn : narrow ty (.int v) = .int v') (hX : zGood X own cc mL d) (hR : zRet X (some ty) (some (.int v')) u) (hd : decode cc pc = .ok (.ireturn, 1)) : zG X u pc L [.int v] := by
  obtain ⟨E, A, p, l, e, R, s, m, args, below, meth, c, nL, cells, slots, Q⟩ := X
  obtain ⟨rfl, rfl, hr, hlocks⟩ := hR
  intro H locs ls hP hS hl
  intro T hT X
  have hx := hX.1
  have hb := hX.2.1
  obtain ⟨fs, hret, hrun, hended, hW, hframe⟩ := X.leave (v := some (.int v')) (fun h => by rw [hr] at h; cases h)
  have hmeth' : T.vm.method? m = some meth := X.method'
  refine ⟨T.setFrames fs, ?_, .returned (some (.int v')), hrun, hended, ⟨⟨rfl, by rw [show (T.setFrames fs).heap = T.heap from rfl, hT]; exact hP⟩, hS.F hT⟩, locs, ⟨⟨_, rfl⟩, hW, hframe⟩, hS.2.2⟩
  jvm_step X.here [X.here.top, hx, hb, hd, hmeth', hr, hn]
  (try refine ⟨rfl, ?_⟩); (try refine ⟨rfl, ?_⟩)
  first | (intro acts; rw [hret _ acts rfl rfl rfl]) | rw [hret _ _ rfl rfl rfl]
  exact Steps.refl _
theorem r_zret {v : Int32} (hX : zGood X own cc mL d) (hR : zRet X (some .boolean) (some (.int (zb v))) u) (hd : decode cc pc = .ok (.ireturn, 1)) : zG X u pc L [.int v] := r_nret (ty := .boolean) rfl hX hR hd
theorem r_zret0 (hX : zGood X own cc mL d) (hR : zRet X (some .boolean) (some (.int 0)) u) (hd : decode cc pc = .ok (.ireturn, 1)) : zG X u pc L [.int 0] := r_nret (ty := .boolean) (v' := 0) rfl hX hR hd
theorem r_zret1 (hX : zGood X own cc mL d) (hR : zRet X (some .boolean) (some (.int 1)) u) (hd : decode cc pc = .ok (.ireturn, 1)) : zG X u pc L [.int 1] := r_nret (ty := .boolean) (v' := 1) rfl hX hR hd
theorem r_cret {v : Int32} (hX : zGood X own cc mL d) (hR : zRet X (some .char) (some (.int (zc16 v))) u) (hd : decode cc pc = .ok (.ireturn, 1)) : zG X u pc L [.int v] := r_nret (ty := .char) rfl hX hR hd
end ZC
end
section
/-! LINKS: which words each call and each field access stands on. By program (wip/whole/gen_all.py). -/
theorem p_0_1 : zLP 0 1 .int := fun C T N h => by
  have h2 : some (RX0, TX0, 4) = some (C, T, N) := h
  cases h2
  exact ⟨rfl, by decide +kernel, nmX0, tyX0, tyX0_ok⟩
theorem p_0_2 : zLP 0 2 .int := fun C T N h => by
  have h2 : some (RX0, TX0, 4) = some (C, T, N) := h
  cases h2
  exact ⟨rfl, by decide +kernel, nmX0, tyX0, tyX0_ok⟩
theorem p_0_3 : zLP 0 3 .int := fun C T N h => by
  have h2 : some (RX0, TX0, 4) = some (C, T, N) := h
  cases h2
  exact ⟨rfl, by decide +kernel, nmX0, tyX0, tyX0_ok⟩
theorem p_1_1 : zLP 1 1 .int := fun C T N h => by
  have h2 : some (RX1, TX1, 3) = some (C, T, N) := h
  cases h2
  exact ⟨rfl, by decide +kernel, nmX1, tyX1, tyX1_ok⟩
theorem p_1_2 : zLP 1 2 .int := fun C T N h => by
  have h2 : some (RX1, TX1, 3) = some (C, T, N) := h
  cases h2
  exact ⟨rfl, by decide +kernel, nmX1, tyX1, tyX1_ok⟩
theorem p_2_4 : zLP 2 4 .int := fun C T N h => by
  have h2 : some (RX2, TX2, 5) = some (C, T, N) := h
  cases h2
  exact ⟨rfl, by decide +kernel, nmX2, tyX2, tyX2_ok⟩
theorem p_3_4 : zLP 3 4 .int := fun C T N h => by
  have h2 : some (RX3, TX3, 7) = some (C, T, N) := h
  cases h2
  exact ⟨rfl, by decide +kernel, nmX3, tyX3, tyX3_ok⟩
theorem p_3_5 : zLP 3 5 .int := fun C T N h => by
  have h2 : some (RX3, TX3, 7) = some (C, T, N) := h
  cases h2
  exact ⟨rfl, by decide +kernel, nmX3, tyX3, tyX3_ok⟩
theorem p_3_6 : zLP 3 6 .int := fun C T N h => by
  have h2 : some (RX3, TX3, 7) = some (C, T, N) := h
  cases h2
  exact ⟨rfl, by decide +kernel, nmX3, tyX3, tyX3_ok⟩
theorem p_4_6 : zLP 4 6 .int := fun C T N h => by
  have h2 : some (RX4, TX4, 13) = some (C, T, N) := h
  cases h2
  exact ⟨rfl, by decide +kernel, nmX4, tyX4, tyX4_ok⟩
theorem p_4_7 : zLP 4 7 .int := fun C T N h => by
  have h2 : some (RX4, TX4, 13) = some (C, T, N) := h
  cases h2
  exact ⟨rfl, by decide +kernel, nmX4, tyX4, tyX4_ok⟩
theorem p_4_8 : zLP 4 8 .int := fun C T N h => by
  have h2 : some (RX4, TX4, 13) = some (C, T, N) := h
  cases h2
  exact ⟨rfl, by decide +kernel, nmX4, tyX4, tyX4_ok⟩
theorem p_4_9 : zLP 4 9 .int := fun C T N h => by
  have h2 : some (RX4, TX4, 13) = some (C, T, N) := h
  cases h2
  exact ⟨rfl, by decide +kernel, nmX4, tyX4, tyX4_ok⟩
theorem p_4_10 : zLP 4 10 .int := fun C T N h => by
  have h2 : some (RX4, TX4, 13) = some (C, T, N) := h
  cases h2
  exact ⟨rfl, by decide +kernel, nmX4, tyX4, tyX4_ok⟩
theorem p_4_11 : zLP 4 11 .int := fun C T N h => by
  have h2 : some (RX4, TX4, 13) = some (C, T, N) := h
  cases h2
  exact ⟨rfl, by decide +kernel, nmX4, tyX4, tyX4_ok⟩
theorem p_4_12 : zLP 4 12 .int := fun C T N h => by
  have h2 : some (RX4, TX4, 13) = some (C, T, N) := h
  cases h2
  exact ⟨rfl, by decide +kernel, nmX4, tyX4, tyX4_ok⟩
theorem p_5_9 : zLP 5 9 .boolean := fun C T N h => by
  have h2 : some (RX5, TX5, 10) = some (C, T, N) := h
  cases h2
  exact ⟨rfl, by decide +kernel, nmX5, tyX5, tyX5_ok⟩
theorem p_6_2 : zLP 6 2 .boolean := fun C T N h => by
  have h2 : some (RX6, TX6, 27) = some (C, T, N) := h
  cases h2
  exact ⟨rfl, by decide +kernel, nmX6, tyX6, tyX6_ok⟩
theorem p_6_7 : zLP 6 7 .int := fun C T N h => by
  have h2 : some (RX6, TX6, 27) = some (C, T, N) := h
  cases h2
  exact ⟨rfl, by decide +kernel, nmX6, tyX6, tyX6_ok⟩
theorem p_6_9 : zLP 6 9 .int := fun C T N h => by
  have h2 : some (RX6, TX6, 27) = some (C, T, N) := h
  cases h2
  exact ⟨rfl, by decide +kernel, nmX6, tyX6, tyX6_ok⟩
theorem p_6_10 : zLP 6 10 .int := fun C T N h => by
  have h2 : some (RX6, TX6, 27) = some (C, T, N) := h
  cases h2
  exact ⟨rfl, by decide +kernel, nmX6, tyX6, tyX6_ok⟩
theorem p_6_12 : zLP 6 12 .int := fun C T N h => by
  have h2 : some (RX6, TX6, 27) = some (C, T, N) := h
  cases h2
  exact ⟨rfl, by decide +kernel, nmX6, tyX6, tyX6_ok⟩
theorem p_6_13 : zLP 6 13 .int := fun C T N h => by
  have h2 : some (RX6, TX6, 27) = some (C, T, N) := h
  cases h2
  exact ⟨rfl, by decide +kernel, nmX6, tyX6, tyX6_ok⟩
theorem p_6_14 : zLP 6 14 .int := fun C T N h => by
  have h2 : some (RX6, TX6, 27) = some (C, T, N) := h
  cases h2
  exact ⟨rfl, by decide +kernel, nmX6, tyX6, tyX6_ok⟩
theorem p_6_15 : zLP 6 15 .int := fun C T N h => by
  have h2 : some (RX6, TX6, 27) = some (C, T, N) := h
  cases h2
  exact ⟨rfl, by decide +kernel, nmX6, tyX6, tyX6_ok⟩
theorem p_6_16 : zLP 6 16 .int := fun C T N h => by
  have h2 : some (RX6, TX6, 27) = some (C, T, N) := h
  cases h2
  exact ⟨rfl, by decide +kernel, nmX6, tyX6, tyX6_ok⟩
theorem p_6_17 : zLP 6 17 .boolean := fun C T N h => by
  have h2 : some (RX6, TX6, 27) = some (C, T, N) := h
  cases h2
  exact ⟨rfl, by decide +kernel, nmX6, tyX6, tyX6_ok⟩
theorem p_6_21 : zLP 6 21 .int := fun C T N h => by
  have h2 : some (RX6, TX6, 27) = some (C, T, N) := h
  cases h2
  exact ⟨rfl, by decide +kernel, nmX6, tyX6, tyX6_ok⟩
theorem p_6_22 : zLP 6 22 .int := fun C T N h => by
  have h2 : some (RX6, TX6, 27) = some (C, T, N) := h
  cases h2
  exact ⟨rfl, by decide +kernel, nmX6, tyX6, tyX6_ok⟩
theorem f_RX5_10 : zLF RX5 10 5 0 := ⟨RX5, TX5, 10, rfl, by decide, zcl_5, Or.inl (zT_in 282 (by decide +kernel) rfl)⟩
theorem f_RX5_16 : zLF RX5 16 5 1 := ⟨RX5, TX5, 10, rfl, by decide, zcl_5, Or.inl (zT_in 283 (by decide +kernel) rfl)⟩
theorem f_RX5_22 : zLF RX5 22 5 2 := ⟨RX5, TX5, 10, rfl, by decide, zcl_5, Or.inl (zT_in 284 (by decide +kernel) rfl)⟩
theorem f_RX5_29 : zLF RX5 29 5 3 := ⟨RX5, TX5, 10, rfl, by decide, zcl_5, Or.inl (zT_in 285 (by decide +kernel) rfl)⟩
theorem f_RX5_36 : zLF RX5 36 5 4 := ⟨RX5, TX5, 10, rfl, by decide, zcl_5, Or.inl (zT_in 286 (by decide +kernel) rfl)⟩
theorem f_RX5_42 : zLF RX5 42 5 5 := ⟨RX5, TX5, 10, rfl, by decide, zcl_5, Or.inl (zT_in 287 (by decide +kernel) rfl)⟩
theorem f_RX5_46 : zLF RX5 46 5 6 := ⟨RX5, TX5, 10, rfl, by decide, zcl_5, Or.inl (zT_in 288 (by decide +kernel) rfl)⟩
theorem f_RX5_50 : zLF RX5 50 5 7 := ⟨RX5, TX5, 10, rfl, by decide, zcl_5, Or.inl (zT_in 289 (by decide +kernel) rfl)⟩
theorem f_RX5_53 : zLF RX5 53 5 8 := ⟨RX5, TX5, 10, rfl, by decide, zcl_5, Or.inl (zT_in 290 (by decide +kernel) rfl)⟩
theorem f_RX5_56 : zLF RX5 56 5 9 := ⟨RX5, TX5, 10, rfl, by decide, zcl_5, Or.inl (zT_in 291 (by decide +kernel) rfl)⟩
theorem f_RX5_69 : zLF RX5 69 4 6 := ⟨RX4, TX4, 13, rfl, by decide, zcl_4, Or.inr ⟨"MeanCoats", List.mem_of_getElem? (i := 5) rfl⟩⟩
theorem f_RX5_96 : zLF RX5 96 4 7 := ⟨RX4, TX4, 13, rfl, by decide, zcl_4, Or.inr ⟨"MeanCoats", List.mem_of_getElem? (i := 6) rfl⟩⟩
theorem f_RX5_99 : zLF RX5 99 4 8 := ⟨RX4, TX4, 13, rfl, by decide, zcl_4, Or.inr ⟨"MeanCoats", List.mem_of_getElem? (i := 7) rfl⟩⟩
theorem f_RX5_102 : zLF RX5 102 4 9 := ⟨RX4, TX4, 13, rfl, by decide, zcl_4, Or.inr ⟨"MeanCoats", List.mem_of_getElem? (i := 9) rfl⟩⟩
theorem f_RX5_105 : zLF RX5 105 4 10 := ⟨RX4, TX4, 13, rfl, by decide, zcl_4, Or.inr ⟨"MeanCoats", List.mem_of_getElem? (i := 12) rfl⟩⟩
theorem f_RX5_129 : zLF RX5 129 2 3 := ⟨RX2, TX2, 5, rfl, by decide, zcl_2, Or.inr ⟨"MeanCoats", List.mem_of_getElem? (i := 17) rfl⟩⟩
theorem f_RX5_194 : zLF RX5 194 4 11 := ⟨RX4, TX4, 13, rfl, by decide, zcl_4, Or.inr ⟨"MeanCoats", List.mem_of_getElem? (i := 14) rfl⟩⟩
theorem f_RX5_225 : zLF RX5 225 4 12 := ⟨RX4, TX4, 13, rfl, by decide, zcl_4, Or.inr ⟨"MeanCoats", List.mem_of_getElem? (i := 15) rfl⟩⟩
theorem f_RX5_228 : zLF RX5 228 3 4 := ⟨RX3, TX3, 7, rfl, by decide, zcl_3, Or.inr ⟨"MeanCoats", List.mem_of_getElem? (i := 19) rfl⟩⟩
theorem f_RX5_241 : zLF RX5 241 4 5 := ⟨RX4, TX4, 13, rfl, by decide, zcl_4, Or.inr ⟨"MeanCoats", List.mem_of_getElem? (i := 2) rfl⟩⟩
theorem f_RX5_254 : zLF RX5 254 1 2 := ⟨RX1, TX1, 3, rfl, by decide, zcl_1, Or.inr ⟨"MeanCoats", List.mem_of_getElem? (i := 24) rfl⟩⟩
theorem f_RX5_260 : zLF RX5 260 1 1 := ⟨RX1, TX1, 3, rfl, by decide, zcl_1, Or.inr ⟨"MeanCoats", List.mem_of_getElem? (i := 23) rfl⟩⟩
theorem f_RX5_266 : zLF RX5 266 1 0 := ⟨RX1, TX1, 3, rfl, by decide, zcl_1, Or.inr ⟨"MeanCoats", List.mem_of_getElem? (i := 22) rfl⟩⟩
theorem f_RX0_9 : zLF RX0 9 0 0 := ⟨RX0, TX0, 4, rfl, by decide, zcl_0, Or.inl (zT_in 249 (by decide +kernel) rfl)⟩
theorem f_RX0_15 : zLF RX0 15 0 1 := ⟨RX0, TX0, 4, rfl, by decide, zcl_0, Or.inl (zT_in 250 (by decide +kernel) rfl)⟩
theorem f_RX0_19 : zLF RX0 19 0 2 := ⟨RX0, TX0, 4, rfl, by decide, zcl_0, Or.inl (zT_in 251 (by decide +kernel) rfl)⟩
theorem f_RX0_22 : zLF RX0 22 0 3 := ⟨RX0, TX0, 4, rfl, by decide, zcl_0, Or.inl (zT_in 252 (by decide +kernel) rfl)⟩
theorem f_RX0_25 : zLF RX0 25 4 6 := ⟨RX4, TX4, 13, rfl, by decide, zcl_4, Or.inr ⟨"MeanCoats", List.mem_of_getElem? (i := 4) rfl⟩⟩
theorem f_RX0_127 : zLF RX0 127 4 8 := ⟨RX4, TX4, 13, rfl, by decide, zcl_4, Or.inr ⟨"MeanCoats", List.mem_of_getElem? (i := 8) rfl⟩⟩
theorem f_RX0_135 : zLF RX0 135 4 9 := ⟨RX4, TX4, 13, rfl, by decide, zcl_4, Or.inr ⟨"MeanCoats", List.mem_of_getElem? (i := 10) rfl⟩⟩
theorem f_RX0_137 : zLF RX0 137 4 10 := ⟨RX4, TX4, 13, rfl, by decide, zcl_4, Or.inr ⟨"MeanCoats", List.mem_of_getElem? (i := 13) rfl⟩⟩
theorem f_RX1_9 : zLF RX1 9 1 0 := ⟨RX1, TX1, 3, rfl, by decide, zcl_1, Or.inl (zT_in 269 (by decide +kernel) rfl)⟩
theorem f_RX1_15 : zLF RX1 15 1 1 := ⟨RX1, TX1, 3, rfl, by decide, zcl_1, Or.inl (zT_in 271 (by decide +kernel) rfl)⟩
theorem f_RX1_19 : zLF RX1 19 1 2 := ⟨RX1, TX1, 3, rfl, by decide, zcl_1, Or.inl (zT_in 273 (by decide +kernel) rfl)⟩
theorem f_RX2_9 : zLF RX2 9 2 0 := ⟨RX2, TX2, 5, rfl, by decide, zcl_2, Or.inl (zT_in 197 (by decide +kernel) rfl)⟩
theorem f_RX2_15 : zLF RX2 15 2 1 := ⟨RX2, TX2, 5, rfl, by decide, zcl_2, Or.inl (zT_in 198 (by decide +kernel) rfl)⟩
theorem f_RX2_18 : zLF RX2 18 2 2 := ⟨RX2, TX2, 5, rfl, by decide, zcl_2, Or.inl (zT_in 199 (by decide +kernel) rfl)⟩
theorem f_RX2_21 : zLF RX2 21 2 3 := ⟨RX2, TX2, 5, rfl, by decide, zcl_2, Or.inl (zT_in 200 (by decide +kernel) rfl)⟩
theorem f_RX2_24 : zLF RX2 24 2 4 := ⟨RX2, TX2, 5, rfl, by decide, zcl_2, Or.inl (zT_in 202 (by decide +kernel) rfl)⟩
theorem f_RX2_28 : zLF RX2 28 4 6 := ⟨RX4, TX4, 13, rfl, by decide, zcl_4, Or.inr ⟨"MeanCoats", List.mem_of_getElem? (i := 3) rfl⟩⟩
theorem f_RX2_80 : zLF RX2 80 4 3 := ⟨RX4, TX4, 13, rfl, by decide, zcl_4, Or.inr ⟨"MeanCoats", List.mem_of_getElem? (i := 1) rfl⟩⟩
theorem f_RX2_89 : zLF RX2 89 4 9 := ⟨RX4, TX4, 13, rfl, by decide, zcl_4, Or.inr ⟨"MeanCoats", List.mem_of_getElem? (i := 11) rfl⟩⟩
theorem f_RX3_9 : zLF RX3 9 3 0 := ⟨RX3, TX3, 7, rfl, by decide, zcl_3, Or.inl (zT_in 220 (by decide +kernel) rfl)⟩
theorem f_RX3_15 : zLF RX3 15 3 1 := ⟨RX3, TX3, 7, rfl, by decide, zcl_3, Or.inl (zT_in 221 (by decide +kernel) rfl)⟩
theorem f_RX3_18 : zLF RX3 18 3 2 := ⟨RX3, TX3, 7, rfl, by decide, zcl_3, Or.inl (zT_in 222 (by decide +kernel) rfl)⟩
theorem f_RX3_21 : zLF RX3 21 3 3 := ⟨RX3, TX3, 7, rfl, by decide, zcl_3, Or.inl (zT_in 223 (by decide +kernel) rfl)⟩
theorem f_RX3_24 : zLF RX3 24 3 4 := ⟨RX3, TX3, 7, rfl, by decide, zcl_3, Or.inl (zT_in 224 (by decide +kernel) rfl)⟩
theorem f_RX3_28 : zLF RX3 28 3 5 := ⟨RX3, TX3, 7, rfl, by decide, zcl_3, Or.inl (zT_in 226 (by decide +kernel) rfl)⟩
theorem f_RX3_31 : zLF RX3 31 3 6 := ⟨RX3, TX3, 7, rfl, by decide, zcl_3, Or.inl (zT_in 227 (by decide +kernel) rfl)⟩
theorem f_RX4_9 : zLF RX4 9 4 0 := ⟨RX4, TX4, 13, rfl, by decide, zcl_4, Or.inl (zT_in 135 (by decide +kernel) rfl)⟩
theorem f_RX4_15 : zLF RX4 15 4 1 := ⟨RX4, TX4, 13, rfl, by decide, zcl_4, Or.inl (zT_in 136 (by decide +kernel) rfl)⟩
theorem f_RX4_18 : zLF RX4 18 4 2 := ⟨RX4, TX4, 13, rfl, by decide, zcl_4, Or.inl (zT_in 137 (by decide +kernel) rfl)⟩
theorem f_RX4_21 : zLF RX4 21 4 3 := ⟨RX4, TX4, 13, rfl, by decide, zcl_4, Or.inl (zT_in 138 (by decide +kernel) rfl)⟩
theorem f_RX4_24 : zLF RX4 24 4 4 := ⟨RX4, TX4, 13, rfl, by decide, zcl_4, Or.inl (zT_in 140 (by decide +kernel) rfl)⟩
theorem f_RX4_27 : zLF RX4 27 4 5 := ⟨RX4, TX4, 13, rfl, by decide, zcl_4, Or.inl (zT_in 141 (by decide +kernel) rfl)⟩
theorem f_RX4_30 : zLF RX4 30 4 6 := ⟨RX4, TX4, 13, rfl, by decide, zcl_4, Or.inl (zT_in 143 (by decide +kernel) rfl)⟩
theorem f_RX4_34 : zLF RX4 34 4 7 := ⟨RX4, TX4, 13, rfl, by decide, zcl_4, Or.inl (zT_in 147 (by decide +kernel) rfl)⟩
theorem f_RX4_37 : zLF RX4 37 4 8 := ⟨RX4, TX4, 13, rfl, by decide, zcl_4, Or.inl (zT_in 149 (by decide +kernel) rfl)⟩
theorem f_RX4_40 : zLF RX4 40 4 9 := ⟨RX4, TX4, 13, rfl, by decide, zcl_4, Or.inl (zT_in 152 (by decide +kernel) rfl)⟩
theorem f_RX4_43 : zLF RX4 43 4 10 := ⟨RX4, TX4, 13, rfl, by decide, zcl_4, Or.inl (zT_in 156 (by decide +kernel) rfl)⟩
theorem f_RX4_46 : zLF RX4 46 4 11 := ⟨RX4, TX4, 13, rfl, by decide, zcl_4, Or.inl (zT_in 159 (by decide +kernel) rfl)⟩
theorem f_RX4_49 : zLF RX4 49 4 12 := ⟨RX4, TX4, 13, rfl, by decide, zcl_4, Or.inl (zT_in 161 (by decide +kernel) rfl)⟩
theorem f_RX6_9 : zLF RX6 9 6 0 := ⟨RX6, TX6, 27, rfl, by decide, zcl_6, Or.inl (zT_in 952 (by decide +kernel) rfl)⟩
theorem f_RX6_13 : zLF RX6 13 6 1 := ⟨RX6, TX6, 27, rfl, by decide, zcl_6, Or.inl (zT_in 953 (by decide +kernel) rfl)⟩
theorem f_RX6_16 : zLF RX6 16 6 3 := ⟨RX6, TX6, 27, rfl, by decide, zcl_6, Or.inl (zT_in 955 (by decide +kernel) rfl)⟩
theorem f_RX6_19 : zLF RX6 19 6 4 := ⟨RX6, TX6, 27, rfl, by decide, zcl_6, Or.inl (zT_in 956 (by decide +kernel) rfl)⟩
theorem f_RX6_22 : zLF RX6 22 6 5 := ⟨RX6, TX6, 27, rfl, by decide, zcl_6, Or.inl (zT_in 957 (by decide +kernel) rfl)⟩
theorem f_RX6_25 : zLF RX6 25 6 6 := ⟨RX6, TX6, 27, rfl, by decide, zcl_6, Or.inl (zT_in 958 (by decide +kernel) rfl)⟩
theorem f_RX6_28 : zLF RX6 28 6 8 := ⟨RX6, TX6, 27, rfl, by decide, zcl_6, Or.inl (zT_in 960 (by decide +kernel) rfl)⟩
theorem f_RX6_31 : zLF RX6 31 6 11 := ⟨RX6, TX6, 27, rfl, by decide, zcl_6, Or.inl (zT_in 963 (by decide +kernel) rfl)⟩
theorem f_RX6_50 : zLF RX6 50 6 18 := ⟨RX6, TX6, 27, rfl, by decide, zcl_6, Or.inl (zT_in 970 (by decide +kernel) rfl)⟩
theorem f_RX6_60 : zLF RX6 60 6 19 := ⟨RX6, TX6, 27, rfl, by decide, zcl_6, Or.inl (zT_in 971 (by decide +kernel) rfl)⟩
theorem f_RX6_63 : zLF RX6 63 6 20 := ⟨RX6, TX6, 27, rfl, by decide, zcl_6, Or.inl (zT_in 972 (by decide +kernel) rfl)⟩
theorem f_RX6_66 : zLF RX6 66 6 23 := ⟨RX6, TX6, 27, rfl, by decide, zcl_6, Or.inl (zT_in 975 (by decide +kernel) rfl)⟩
theorem f_RX6_69 : zLF RX6 69 6 24 := ⟨RX6, TX6, 27, rfl, by decide, zcl_6, Or.inl (zT_in 976 (by decide +kernel) rfl)⟩
theorem f_RX6_72 : zLF RX6 72 6 25 := ⟨RX6, TX6, 27, rfl, by decide, zcl_6, Or.inl (zT_in 977 (by decide +kernel) rfl)⟩
theorem f_RX6_75 : zLF RX6 75 6 26 := ⟨RX6, TX6, 27, rfl, by decide, zcl_6, Or.inl (zT_in 978 (by decide +kernel) rfl)⟩
theorem f_RX6_118 : zLF RX6 118 6 7 := ⟨RX6, TX6, 27, rfl, by decide, zcl_6, Or.inl (zT_in 959 (by decide +kernel) rfl)⟩
theorem f_RX6_197 : zLF RX6 197 6 9 := ⟨RX6, TX6, 27, rfl, by decide, zcl_6, Or.inl (zT_in 961 (by decide +kernel) rfl)⟩
theorem f_RX6_200 : zLF RX6 200 6 10 := ⟨RX6, TX6, 27, rfl, by decide, zcl_6, Or.inl (zT_in 962 (by decide +kernel) rfl)⟩
theorem f_RX6_213 : zLF RX6 213 6 12 := ⟨RX6, TX6, 27, rfl, by decide, zcl_6, Or.inl (zT_in 964 (by decide +kernel) rfl)⟩
theorem f_RX6_216 : zLF RX6 216 6 14 := ⟨RX6, TX6, 27, rfl, by decide, zcl_6, Or.inl (zT_in 966 (by decide +kernel) rfl)⟩
theorem f_RX6_219 : zLF RX6 219 6 13 := ⟨RX6, TX6, 27, rfl, by decide, zcl_6, Or.inl (zT_in 965 (by decide +kernel) rfl)⟩
theorem f_RX6_225 : zLF RX6 225 6 16 := ⟨RX6, TX6, 27, rfl, by decide, zcl_6, Or.inl (zT_in 968 (by decide +kernel) rfl)⟩
theorem f_RX6_228 : zLF RX6 228 6 15 := ⟨RX6, TX6, 27, rfl, by decide, zcl_6, Or.inl (zT_in 967 (by decide +kernel) rfl)⟩
theorem f_RX6_238 : zLF RX6 238 6 17 := ⟨RX6, TX6, 27, rfl, by decide, zcl_6, Or.inl (zT_in 969 (by decide +kernel) rfl)⟩
theorem f_RX6_253 : zLF RX6 253 6 21 := ⟨RX6, TX6, 27, rfl, by decide, zcl_6, Or.inl (zT_in 973 (by decide +kernel) rfl)⟩
theorem f_RX6_272 : zLF RX6 272 6 22 := ⟨RX6, TX6, 27, rfl, by decide, zcl_6, Or.inl (zT_in 974 (by decide +kernel) rfl)⟩
theorem f_RX6_304 : zLF RX6 304 6 2 := ⟨RX6, TX6, 27, rfl, by decide, zcl_6, Or.inl (zT_in 954 (by decide +kernel) rfl)⟩
theorem ls_RX5_61 : zLS RX5 61 yX5_isKind cX5_isKind 1 (some .boolean) 1 := ⟨Or.inl (zT_in 317 (by decide +kernel) rfl), zT_in 319 (by decide +kernel) rfl, zT_in 107 (by decide +kernel) rfl, ⟨by decide +kernel, by decide +kernel, by decide +kernel⟩, zT_in 318 (by decide +kernel) rfl⟩
theorem lv_RX5_65 : zLV RX5 65 yX5_finding cX5_finding 2 (some .int) 1 := ⟨Or.inl (zT_in 323 (by decide +kernel) rfl), zT_in 326 (by decide +kernel) rfl, zT_in 107 (by decide +kernel) rfl, ⟨by decide +kernel, by decide +kernel, by decide +kernel⟩, zT_in 325 (by decide +kernel) rfl, zT_in 0 (by decide +kernel) rfl⟩
theorem lv_RX5_73 : zLV RX5 73 yX4_add cX4_add 6 (some .int) 4 := ⟨Or.inr ⟨"MeanCoats", List.mem_of_getElem? (i := 25) rfl⟩, zT_in 331 (by decide +kernel) rfl, zT_in 108 (by decide +kernel) rfl, ⟨by decide +kernel, by decide +kernel, by decide +kernel⟩, zT_in 330 (by decide +kernel) rfl, zT_in 1 (by decide +kernel) rfl⟩
theorem lv_RX5_77 : zLV RX5 77 yX5_isBody cX5_isBody 2 (some .boolean) 1 := ⟨Or.inl (zT_in 336 (by decide +kernel) rfl), zT_in 339 (by decide +kernel) rfl, zT_in 107 (by decide +kernel) rfl, ⟨by decide +kernel, by decide +kernel, by decide +kernel⟩, zT_in 338 (by decide +kernel) rfl, zT_in 2 (by decide +kernel) rfl⟩
theorem ls_RX5_80 : zLS RX5 80 yX5_within cX5_within 3 (some .boolean) 3 := ⟨Or.inl (zT_in 320 (by decide +kernel) rfl), zT_in 322 (by decide +kernel) rfl, zT_in 107 (by decide +kernel) rfl, ⟨by decide +kernel, by decide +kernel, by decide +kernel⟩, zT_in 321 (by decide +kernel) rfl⟩
theorem lv_RX5_84 : zLV RX5 84 yX4_tell cX4_tell 3 (some .int) 2 := ⟨Or.inr ⟨"MeanCoats", List.mem_of_getElem? (i := 26) rfl⟩, zT_in 343 (by decide +kernel) rfl, zT_in 108 (by decide +kernel) rfl, ⟨by decide +kernel, by decide +kernel, by decide +kernel⟩, zT_in 342 (by decide +kernel) rfl, zT_in 3 (by decide +kernel) rfl⟩
theorem ls_RX5_88 : zLS RX5 88 yX4_mayBecome cX4_mayBecome 2 (some .boolean) 2 := ⟨Or.inr ⟨"MeanCoats", List.mem_of_getElem? (i := 29) rfl⟩, zT_in 378 (by decide +kernel) rfl, zT_in 108 (by decide +kernel) rfl, ⟨by decide +kernel, by decide +kernel, by decide +kernel⟩, zT_in 377 (by decide +kernel) rfl⟩
theorem lv_RX5_92 : zLV RX5 92 yX4_put cX4_put 4 none 3 := ⟨Or.inr ⟨"MeanCoats", List.mem_of_getElem? (i := 32) rfl⟩, zT_in 384 (by decide +kernel) rfl, zT_in 108 (by decide +kernel) rfl, ⟨by decide +kernel, by decide +kernel, by decide +kernel⟩, zT_in 383 (by decide +kernel) rfl, zT_in 9 (by decide +kernel) rfl⟩
theorem lv_RX5_108 : zLV RX5 108 yX4_isHere cX4_isHere 2 (some .boolean) 1 := ⟨Or.inr ⟨"MeanCoats", List.mem_of_getElem? (i := 33) rfl⟩, zT_in 364 (by decide +kernel) rfl, zT_in 108 (by decide +kernel) rfl, ⟨by decide +kernel, by decide +kernel, by decide +kernel⟩, zT_in 363 (by decide +kernel) rfl, zT_in 7 (by decide +kernel) rfl⟩
theorem lv_RX5_111 : zLV RX5 111 yX4_inchesOf cX4_inchesOf 3 (some .int) 2 := ⟨Or.inr ⟨"MeanCoats", List.mem_of_getElem? (i := 34) rfl⟩, zT_in 355 (by decide +kernel) rfl, zT_in 108 (by decide +kernel) rfl, ⟨by decide +kernel, by decide +kernel, by decide +kernel⟩, zT_in 354 (by decide +kernel) rfl, zT_in 6 (by decide +kernel) rfl⟩
theorem lm_RX5_114 : zLM RX5 114 Lib.Math.max.name Lib.Math.max.code 2 := ⟨zT_in 411 (by decide +kernel) rfl, zT_in 412 (by decide +kernel) rfl, zT_in 114 (by decide +kernel) rfl, zT_in 413 (by decide +kernel) rfl⟩
theorem lv_RX5_119 : zLV RX5 119 yX4_setInches cX4_setInches 4 none 3 := ⟨Or.inr ⟨"MeanCoats", List.mem_of_getElem? (i := 35) rfl⟩, zT_in 388 (by decide +kernel) rfl, zT_in 108 (by decide +kernel) rfl, ⟨by decide +kernel, by decide +kernel, by decide +kernel⟩, zT_in 387 (by decide +kernel) rfl, zT_in 10 (by decide +kernel) rfl⟩
theorem ls_RX5_122 : zLS RX5 122 yX5_isMeasure cX5_isMeasure 1 (some .boolean) 1 := ⟨Or.inl (zT_in 419 (by decide +kernel) rfl), zT_in 421 (by decide +kernel) rfl, zT_in 107 (by decide +kernel) rfl, ⟨by decide +kernel, by decide +kernel, by decide +kernel⟩, zT_in 420 (by decide +kernel) rfl⟩
theorem lv_RX5_125 : zLV RX5 125 yX5_cutForAllHere cX5_cutForAllHere 1 (some .boolean) 0 := ⟨Or.inl (zT_in 422 (by decide +kernel) rfl), zT_in 425 (by decide +kernel) rfl, zT_in 107 (by decide +kernel) rfl, ⟨by decide +kernel, by decide +kernel, by decide +kernel⟩, zT_in 424 (by decide +kernel) rfl, zT_in 11 (by decide +kernel) rfl⟩
theorem lv_RX5_132 : zLV RX5 132 yX2_measureAll cX2_measureAll 4 none 1 := ⟨Or.inr ⟨"MeanCoats", List.mem_of_getElem? (i := 36) rfl⟩, zT_in 429 (by decide +kernel) rfl, zT_in 109 (by decide +kernel) rfl, ⟨by decide +kernel, by decide +kernel, by decide +kernel⟩, zT_in 428 (by decide +kernel) rfl, zT_in 12 (by decide +kernel) rfl⟩
theorem lv_RX5_136 : zLV RX5 136 yX2_sumOf cX2_sumOf 5 (some .int) 2 := ⟨Or.inr ⟨"MeanCoats", List.mem_of_getElem? (i := 41) rfl⟩, zT_in 464 (by decide +kernel) rfl, zT_in 109 (by decide +kernel) rfl, ⟨by decide +kernel, by decide +kernel, by decide +kernel⟩, zT_in 463 (by decide +kernel) rfl, zT_in 20 (by decide +kernel) rfl⟩
theorem lv_RX5_139 : zLV RX5 139 yX2_timesOf cX2_timesOf 4 (some .int) 1 := ⟨Or.inr ⟨"MeanCoats", List.mem_of_getElem? (i := 42) rfl⟩, zT_in 451 (by decide +kernel) rfl, zT_in 109 (by decide +kernel) rfl, ⟨by decide +kernel, by decide +kernel, by decide +kernel⟩, zT_in 450 (by decide +kernel) rfl, zT_in 17 (by decide +kernel) rfl⟩
theorem ls_RX5_142 : zLS RX5 142 yX5_greatestDivisor cX5_greatestDivisor 6 (some .int) 2 := ⟨Or.inl (zT_in 471 (by decide +kernel) rfl), zT_in 473 (by decide +kernel) rfl, zT_in 107 (by decide +kernel) rfl, ⟨by decide +kernel, by decide +kernel, by decide +kernel⟩, zT_in 472 (by decide +kernel) rfl⟩
theorem lv_RX5_145 : zLV RX5 145 yX2_costOf cX2_costOf 3 (some .int) 2 := ⟨Or.inr ⟨"MeanCoats", List.mem_of_getElem? (i := 43) rfl⟩, zT_in 481 (by decide +kernel) rfl, zT_in 109 (by decide +kernel) rfl, ⟨by decide +kernel, by decide +kernel, by decide +kernel⟩, zT_in 480 (by decide +kernel) rfl, zT_in 21 (by decide +kernel) rfl⟩
theorem lv_RX5_149 : zLV RX5 149 yX2_fitting cX2_fitting 5 (some .int) 2 := ⟨Or.inr ⟨"MeanCoats", List.mem_of_getElem? (i := 45) rfl⟩, zT_in 498 (by decide +kernel) rfl, zT_in 109 (by decide +kernel) rfl, ⟨by decide +kernel, by decide +kernel, by decide +kernel⟩, zT_in 497 (by decide +kernel) rfl, zT_in 23 (by decide +kernel) rfl⟩
theorem lv_RX5_152 : zLV RX5 152 yX2_farOf cX2_farOf 5 (some .int) 2 := ⟨Or.inr ⟨"MeanCoats", List.mem_of_getElem? (i := 46) rfl⟩, zT_in 485 (by decide +kernel) rfl, zT_in 109 (by decide +kernel) rfl, ⟨by decide +kernel, by decide +kernel, by decide +kernel⟩, zT_in 484 (by decide +kernel) rfl, zT_in 22 (by decide +kernel) rfl⟩
theorem lv_RX5_155 : zLV RX5 155 yX2_farOfPair cX2_farOfPair 7 (some .int) 3 := ⟨Or.inr ⟨"MeanCoats", List.mem_of_getElem? (i := 47) rfl⟩, zT_in 524 (by decide +kernel) rfl, zT_in 109 (by decide +kernel) rfl, ⟨by decide +kernel, by decide +kernel, by decide +kernel⟩, zT_in 523 (by decide +kernel) rfl, zT_in 24 (by decide +kernel) rfl⟩
theorem lv_RX5_162 : zLV RX5 162 yX5_fittingIfSent cX5_fittingIfSent 2 (some .int) 1 := ⟨Or.inl (zT_in 534 (by decide +kernel) rfl), zT_in 537 (by decide +kernel) rfl, zT_in 107 (by decide +kernel) rfl, ⟨by decide +kernel, by decide +kernel, by decide +kernel⟩, zT_in 536 (by decide +kernel) rfl, zT_in 25 (by decide +kernel) rfl⟩
theorem ls_RX5_165 : zLS RX5 165 yJ6_bitCount_0f7a4 cJ6_bitCount_0f7a4 1 (some .int) 1 := ⟨Or.inl (zT_in 542 (by decide +kernel) rfl), zT_in 544 (by decide +kernel) rfl, zT_in 115 (by decide +kernel) rfl, ⟨by decide +kernel, by decide +kernel, by decide +kernel⟩, zT_in 543 (by decide +kernel) rfl⟩
theorem lv_RX5_168 : zLV RX5 168 yX5_fittingBy cX5_fittingBy 3 (some .int) 2 := ⟨Or.inl (zT_in 538 (by decide +kernel) rfl), zT_in 541 (by decide +kernel) rfl, zT_in 107 (by decide +kernel) rfl, ⟨by decide +kernel, by decide +kernel, by decide +kernel⟩, zT_in 540 (by decide +kernel) rfl, zT_in 26 (by decide +kernel) rfl⟩
theorem lv_RX5_171 : zLV RX5 171 yX5_coatIfSized cX5_coatIfSized 4 (some .int) 3 := ⟨Or.inl (zT_in 560 (by decide +kernel) rfl), zT_in 563 (by decide +kernel) rfl, zT_in 107 (by decide +kernel) rfl, ⟨by decide +kernel, by decide +kernel, by decide +kernel⟩, zT_in 562 (by decide +kernel) rfl, zT_in 27 (by decide +kernel) rfl⟩
theorem lv_RX5_175 : zLV RX5 175 yX4_bribesHere cX4_bribesHere 2 (some .boolean) 1 := ⟨Or.inr ⟨"MeanCoats", List.mem_of_getElem? (i := 49) rfl⟩, zT_in 576 (by decide +kernel) rfl, zT_in 108 (by decide +kernel) rfl, ⟨by decide +kernel, by decide +kernel, by decide +kernel⟩, zT_in 575 (by decide +kernel) rfl, zT_in 28 (by decide +kernel) rfl⟩
theorem lv_RX5_178 : zLV RX5 178 yX5_bestBribe cX5_bestBribe 7 (some .int) 1 := ⟨Or.inl (zT_in 577 (by decide +kernel) rfl), zT_in 580 (by decide +kernel) rfl, zT_in 107 (by decide +kernel) rfl, ⟨by decide +kernel, by decide +kernel, by decide +kernel⟩, zT_in 579 (by decide +kernel) rfl, zT_in 29 (by decide +kernel) rfl⟩
theorem lv_RX5_181 : zLV RX5 181 yX5_isSettled cX5_isSettled 4 (some .boolean) 0 := ⟨Or.inl (zT_in 594 (by decide +kernel) rfl), zT_in 597 (by decide +kernel) rfl, zT_in 107 (by decide +kernel) rfl, ⟨by decide +kernel, by decide +kernel, by decide +kernel⟩, zT_in 596 (by decide +kernel) rfl, zT_in 32 (by decide +kernel) rfl⟩
theorem lv_RX5_184 : zLV RX5 184 yX4_readBribes cX4_readBribes 2 none 1 := ⟨Or.inr ⟨"MeanCoats", List.mem_of_getElem? (i := 52) rfl⟩, zT_in 605 (by decide +kernel) rfl, zT_in 108 (by decide +kernel) rfl, ⟨by decide +kernel, by decide +kernel, by decide +kernel⟩, zT_in 604 (by decide +kernel) rfl, zT_in 33 (by decide +kernel) rfl⟩
theorem lv_RX5_188 : zLV RX5 188 yX5_doRound cX5_doRound 3 none 0 := ⟨Or.inl (zT_in 609 (by decide +kernel) rfl), zT_in 612 (by decide +kernel) rfl, zT_in 107 (by decide +kernel) rfl, ⟨by decide +kernel, by decide +kernel, by decide +kernel⟩, zT_in 611 (by decide +kernel) rfl, zT_in 34 (by decide +kernel) rfl⟩
theorem lv_RX5_191 : zLV RX5 191 yX4_writeBribes cX4_writeBribes 2 none 1 := ⟨Or.inr ⟨"MeanCoats", List.mem_of_getElem? (i := 53) rfl⟩, zT_in 620 (by decide +kernel) rfl, zT_in 108 (by decide +kernel) rfl, ⟨by decide +kernel, by decide +kernel, by decide +kernel⟩, zT_in 619 (by decide +kernel) rfl, zT_in 35 (by decide +kernel) rfl⟩
theorem lv_RX5_197 : zLV RX5 197 yX4_addSpring cX4_addSpring 2 (some .int) 1 := ⟨Or.inr ⟨"MeanCoats", List.mem_of_getElem? (i := 54) rfl⟩, zT_in 628 (by decide +kernel) rfl, zT_in 108 (by decide +kernel) rfl, ⟨by decide +kernel, by decide +kernel, by decide +kernel⟩, zT_in 627 (by decide +kernel) rfl, zT_in 36 (by decide +kernel) rfl⟩
theorem lv_RX5_201 : zLV RX5 201 yX5_isSpring cX5_isSpring 2 (some .boolean) 1 := ⟨Or.inl (zT_in 633 (by decide +kernel) rfl), zT_in 636 (by decide +kernel) rfl, zT_in 107 (by decide +kernel) rfl, ⟨by decide +kernel, by decide +kernel, by decide +kernel⟩, zT_in 635 (by decide +kernel) rfl, zT_in 37 (by decide +kernel) rfl⟩
theorem lv_RX5_204 : zLV RX5 204 yX4_oldCoat cX4_oldCoat 3 (some .int) 2 := ⟨Or.inr ⟨"MeanCoats", List.mem_of_getElem? (i := 55) rfl⟩, zT_in 640 (by decide +kernel) rfl, zT_in 108 (by decide +kernel) rfl, ⟨by decide +kernel, by decide +kernel, by decide +kernel⟩, zT_in 639 (by decide +kernel) rfl, zT_in 38 (by decide +kernel) rfl⟩
theorem lv_RX5_207 : zLV RX5 207 yX5_cutsAsIn cX5_cutsAsIn 4 (some .boolean) 2 := ⟨Or.inl (zT_in 645 (by decide +kernel) rfl), zT_in 648 (by decide +kernel) rfl, zT_in 107 (by decide +kernel) rfl, ⟨by decide +kernel, by decide +kernel, by decide +kernel⟩, zT_in 647 (by decide +kernel) rfl, zT_in 39 (by decide +kernel) rfl⟩
theorem la_RX5_210 : zLA RX5 210 := ⟨zT_in 657 (by decide +kernel) rfl, zT_in 608 (by decide +kernel) rfl, zT_in 607 (by decide +kernel) rfl, zT_in 116 (by decide +kernel) rfl⟩
theorem lv_RX5_216 : zLV RX5 216 yX5_slipAll cX5_slipAll 3 none 0 := ⟨Or.inl (zT_in 658 (by decide +kernel) rfl), zT_in 661 (by decide +kernel) rfl, zT_in 107 (by decide +kernel) rfl, ⟨by decide +kernel, by decide +kernel, by decide +kernel⟩, zT_in 660 (by decide +kernel) rfl, zT_in 40 (by decide +kernel) rfl⟩
theorem lv_RX5_219 : zLV RX5 219 yX2_cutAll cX2_cutAll 4 (some .boolean) 2 := ⟨Or.inr ⟨"MeanCoats", List.mem_of_getElem? (i := 39) rfl⟩, zT_in 439 (by decide +kernel) rfl, zT_in 109 (by decide +kernel) rfl, ⟨by decide +kernel, by decide +kernel, by decide +kernel⟩, zT_in 438 (by decide +kernel) rfl, zT_in 14 (by decide +kernel) rfl⟩
theorem lv_RX5_222 : zLV RX5 222 yX5_isCoatAsBefore cX5_isCoatAsBefore 2 (some .boolean) 0 := ⟨Or.inl (zT_in 672 (by decide +kernel) rfl), zT_in 675 (by decide +kernel) rfl, zT_in 107 (by decide +kernel) rfl, ⟨by decide +kernel, by decide +kernel, by decide +kernel⟩, zT_in 674 (by decide +kernel) rfl, zT_in 43 (by decide +kernel) rfl⟩
theorem lv_RX5_231 : zLV RX5 231 yX3_add cX3_add 2 none 1 := ⟨Or.inr ⟨"MeanCoats", List.mem_of_getElem? (i := 58) rfl⟩, zT_in 687 (by decide +kernel) rfl, zT_in 110 (by decide +kernel) rfl, ⟨by decide +kernel, by decide +kernel, by decide +kernel⟩, zT_in 686 (by decide +kernel) rfl, zT_in 44 (by decide +kernel) rfl⟩
theorem lv_RX5_234 : zLV RX5 234 yX0_readItems cX0_readItems 5 (some .int) 3 := ⟨Or.inr ⟨"MeanCoats", List.mem_of_getElem? (i := 59) rfl⟩, zT_in 699 (by decide +kernel) rfl, zT_in 111 (by decide +kernel) rfl, ⟨by decide +kernel, by decide +kernel, by decide +kernel⟩, zT_in 698 (by decide +kernel) rfl, zT_in 45 (by decide +kernel) rfl⟩
theorem ls_RX5_238 : zLS RX5 238 yX5_isSpot cX5_isSpot 1 (some .boolean) 1 := ⟨Or.inl (zT_in 853 (by decide +kernel) rfl), zT_in 855 (by decide +kernel) rfl, zT_in 107 (by decide +kernel) rfl, ⟨by decide +kernel, by decide +kernel, by decide +kernel⟩, zT_in 854 (by decide +kernel) rfl⟩
theorem ls_RX5_244 : zLS RX5 244 yX5_isUnder cX5_isUnder 4 (some .boolean) 2 := ⟨Or.inl (zT_in 860 (by decide +kernel) rfl), zT_in 358 (by decide +kernel) rfl, zT_in 107 (by decide +kernel) rfl, ⟨by decide +kernel, by decide +kernel, by decide +kernel⟩, zT_in 357 (by decide +kernel) rfl⟩
theorem ls_RX5_247 : zLS RX5 247 yX5_isSheet cX5_isSheet 1 (some .boolean) 1 := ⟨Or.inl (zT_in 865 (by decide +kernel) rfl), zT_in 867 (by decide +kernel) rfl, zT_in 107 (by decide +kernel) rfl, ⟨by decide +kernel, by decide +kernel, by decide +kernel⟩, zT_in 866 (by decide +kernel) rfl⟩
theorem lv_RX5_250 : zLV RX5 250 yX1_lay cX1_lay 4 none 2 := ⟨Or.inr ⟨"MeanCoats", List.mem_of_getElem? (i := 70) rfl⟩, zT_in 871 (by decide +kernel) rfl, zT_in 112 (by decide +kernel) rfl, ⟨by decide +kernel, by decide +kernel, by decide +kernel⟩, zT_in 870 (by decide +kernel) rfl, zT_in 62 (by decide +kernel) rfl⟩
theorem lv_RX5_255 : zLV RX5 255 yX1_isMissing cX1_isMissing 1 (some .boolean) 0 := ⟨Or.inr ⟨"MeanCoats", List.mem_of_getElem? (i := 71) rfl⟩, zT_in 879 (by decide +kernel) rfl, zT_in 112 (by decide +kernel) rfl, ⟨by decide +kernel, by decide +kernel, by decide +kernel⟩, zT_in 878 (by decide +kernel) rfl, zT_in 63 (by decide +kernel) rfl⟩
theorem lv_RX5_258 : zLV RX5 258 yX1_put cX1_put 4 none 2 := ⟨Or.inr ⟨"MeanCoats", List.mem_of_getElem? (i := 72) rfl⟩, zT_in 883 (by decide +kernel) rfl, zT_in 112 (by decide +kernel) rfl, ⟨by decide +kernel, by decide +kernel, by decide +kernel⟩, zT_in 882 (by decide +kernel) rfl, zT_in 64 (by decide +kernel) rfl⟩
theorem lv_RX5_263 : zLV RX5 263 yX1_has cX1_has 3 (some .boolean) 2 := ⟨Or.inr ⟨"MeanCoats", List.mem_of_getElem? (i := 73) rfl⟩, zT_in 891 (by decide +kernel) rfl, zT_in 112 (by decide +kernel) rfl, ⟨by decide +kernel, by decide +kernel, by decide +kernel⟩, zT_in 890 (by decide +kernel) rfl, zT_in 65 (by decide +kernel) rfl⟩
theorem lv_RX5_269 : zLV RX5 269 yX1_hasMeasures cX1_hasMeasures 2 (some .boolean) 1 := ⟨Or.inr ⟨"MeanCoats", List.mem_of_getElem? (i := 74) rfl⟩, zT_in 899 (by decide +kernel) rfl, zT_in 112 (by decide +kernel) rfl, ⟨by decide +kernel, by decide +kernel, by decide +kernel⟩, zT_in 898 (by decide +kernel) rfl, zT_in 66 (by decide +kernel) rfl⟩
theorem lv_RX5_272 : zLV RX5 272 yX4_become cX4_become 2 none 1 := ⟨Or.inr ⟨"MeanCoats", List.mem_of_getElem? (i := 76) rfl⟩, zT_in 913 (by decide +kernel) rfl, zT_in 108 (by decide +kernel) rfl, ⟨by decide +kernel, by decide +kernel, by decide +kernel⟩, zT_in 912 (by decide +kernel) rfl, zT_in 67 (by decide +kernel) rfl⟩
theorem lv_RX5_275 : zLV RX5 275 yX4_spotsHeld cX4_spotsHeld 3 (some .int) 0 := ⟨Or.inr ⟨"MeanCoats", List.mem_of_getElem? (i := 77) rfl⟩, zT_in 929 (by decide +kernel) rfl, zT_in 108 (by decide +kernel) rfl, ⟨by decide +kernel, by decide +kernel, by decide +kernel⟩, zT_in 928 (by decide +kernel) rfl, zT_in 68 (by decide +kernel) rfl⟩
theorem lv_RX5_283 : zLV RX5 283 yX2_cutOne cX2_cutOne 4 (some .int) 3 := ⟨Or.inr ⟨"MeanCoats", List.mem_of_getElem? (i := 48) rfl⟩, zT_in 443 (by decide +kernel) rfl, zT_in 109 (by decide +kernel) rfl, ⟨by decide +kernel, by decide +kernel, by decide +kernel⟩, zT_in 442 (by decide +kernel) rfl, zT_in 15 (by decide +kernel) rfl⟩
theorem lv_RX5_286 : zLV RX5 286 yX4_draw cX4_draw 1 (some .int) 0 := ⟨Or.inr ⟨"MeanCoats", List.mem_of_getElem? (i := 56) rfl⟩, zT_in 665 (by decide +kernel) rfl, zT_in 108 (by decide +kernel) rfl, ⟨by decide +kernel, by decide +kernel, by decide +kernel⟩, zT_in 664 (by decide +kernel) rfl, zT_in 41 (by decide +kernel) rfl⟩
theorem lv_RX5_289 : zLV RX5 289 yX2_slip cX2_slip 4 none 3 := ⟨Or.inr ⟨"MeanCoats", List.mem_of_getElem? (i := 57) rfl⟩, zT_in 670 (by decide +kernel) rfl, zT_in 109 (by decide +kernel) rfl, ⟨by decide +kernel, by decide +kernel, by decide +kernel⟩, zT_in 669 (by decide +kernel) rfl, zT_in 42 (by decide +kernel) rfl⟩
theorem lv_RX5_292 : zLV RX5 292 yX4_widthAtBribe cX4_widthAtBribe 4 (some .int) 2 := ⟨Or.inr ⟨"MeanCoats", List.mem_of_getElem? (i := 50) rfl⟩, zT_in 351 (by decide +kernel) rfl, zT_in 108 (by decide +kernel) rfl, ⟨by decide +kernel, by decide +kernel, by decide +kernel⟩, zT_in 350 (by decide +kernel) rfl, zT_in 5 (by decide +kernel) rfl⟩
theorem lv_RX5_295 : zLV RX5 295 yX2_show cX2_show 4 none 3 := ⟨Or.inr ⟨"MeanCoats", List.mem_of_getElem? (i := 51) rfl⟩, zT_in 589 (by decide +kernel) rfl, zT_in 109 (by decide +kernel) rfl, ⟨by decide +kernel, by decide +kernel, by decide +kernel⟩, zT_in 588 (by decide +kernel) rfl, zT_in 31 (by decide +kernel) rfl⟩
theorem lv_RX5_298 : zLV RX5 298 yX5_costAtBribe cX5_costAtBribe 3 (some .int) 2 := ⟨Or.inl (zT_in 581 (by decide +kernel) rfl), zT_in 584 (by decide +kernel) rfl, zT_in 107 (by decide +kernel) rfl, ⟨by decide +kernel, by decide +kernel, by decide +kernel⟩, zT_in 583 (by decide +kernel) rfl, zT_in 30 (by decide +kernel) rfl⟩
theorem lv_RX0_30 : zLV RX0 30 yX3_split cX3_split 5 none 0 := ⟨Or.inr ⟨"MeanCoats", List.mem_of_getElem? (i := 60) rfl⟩, zT_in 703 (by decide +kernel) rfl, zT_in 110 (by decide +kernel) rfl, ⟨by decide +kernel, by decide +kernel, by decide +kernel⟩, zT_in 702 (by decide +kernel) rfl, zT_in 46 (by decide +kernel) rfl⟩
theorem lv_RX0_35 : zLV RX0 35 yX0_readItem cX0_readItem 5 (some .boolean) 3 := ⟨Or.inl (zT_in 712 (by decide +kernel) rfl), zT_in 715 (by decide +kernel) rfl, zT_in 111 (by decide +kernel) rfl, ⟨by decide +kernel, by decide +kernel, by decide +kernel⟩, zT_in 714 (by decide +kernel) rfl, zT_in 48 (by decide +kernel) rfl⟩
theorem lv_RX0_39 : zLV RX0 39 yX3_begin cX3_begin 1 (some .int) 0 := ⟨Or.inr ⟨"MeanCoats", List.mem_of_getElem? (i := 68) rfl⟩, zT_in 843 (by decide +kernel) rfl, zT_in 110 (by decide +kernel) rfl, ⟨by decide +kernel, by decide +kernel, by decide +kernel⟩, zT_in 842 (by decide +kernel) rfl, zT_in 60 (by decide +kernel) rfl⟩
theorem lv_RX0_43 : zLV RX0 43 yX3_isEnd cX3_isEnd 1 (some .boolean) 0 := ⟨Or.inr ⟨"MeanCoats", List.mem_of_getElem? (i := 69) rfl⟩, zT_in 847 (by decide +kernel) rfl, zT_in 110 (by decide +kernel) rfl, ⟨by decide +kernel, by decide +kernel, by decide +kernel⟩, zT_in 846 (by decide +kernel) rfl, zT_in 61 (by decide +kernel) rfl⟩
theorem lv_RX0_47 : zLV RX0 47 yX3_isSign cX3_isSign 2 (some .boolean) 1 := ⟨Or.inr ⟨"MeanCoats", List.mem_of_getElem? (i := 65) rfl⟩, zT_in 811 (by decide +kernel) rfl, zT_in 110 (by decide +kernel) rfl, ⟨by decide +kernel, by decide +kernel, by decide +kernel⟩, zT_in 810 (by decide +kernel) rfl, zT_in 55 (by decide +kernel) rfl⟩
theorem lv_RX0_51 : zLV RX0 51 yX3_moveOn cX3_moveOn 1 none 0 := ⟨Or.inr ⟨"MeanCoats", List.mem_of_getElem? (i := 63) rfl⟩, zT_in 788 (by decide +kernel) rfl, zT_in 110 (by decide +kernel) rfl, ⟨by decide +kernel, by decide +kernel, by decide +kernel⟩, zT_in 787 (by decide +kernel) rfl, zT_in 51 (by decide +kernel) rfl⟩
theorem ls_RX0_54 : zLS RX0 54 yX0_kindTold cX0_kindTold 2 (some .int) 1 := ⟨Or.inl (zT_in 716 (by decide +kernel) rfl), zT_in 718 (by decide +kernel) rfl, zT_in 111 (by decide +kernel) rfl, ⟨by decide +kernel, by decide +kernel, by decide +kernel⟩, zT_in 717 (by decide +kernel) rfl⟩
theorem lv_RX0_58 : zLV RX0 58 yX0_readBody cX0_readBody 6 (some .boolean) 4 := ⟨Or.inl (zT_in 781 (by decide +kernel) rfl), zT_in 784 (by decide +kernel) rfl, zT_in 111 (by decide +kernel) rfl, ⟨by decide +kernel, by decide +kernel, by decide +kernel⟩, zT_in 783 (by decide +kernel) rfl, zT_in 50 (by decide +kernel) rfl⟩
theorem lv_RX0_64 : zLV RX0 64 yX3_isWord cX3_isWord 3 (some .boolean) 1 := ⟨Or.inr ⟨"MeanCoats", List.mem_of_getElem? (i := 62) rfl⟩, zT_in 732 (by decide +kernel) rfl, zT_in 110 (by decide +kernel) rfl, ⟨by decide +kernel, by decide +kernel, by decide +kernel⟩, zT_in 731 (by decide +kernel) rfl, zT_in 49 (by decide +kernel) rfl⟩
theorem lv_RX0_68 : zLV RX0 68 yX0_readRule cX0_readRule 5 (some .boolean) 3 := ⟨Or.inl (zT_in 820 (by decide +kernel) rfl), zT_in 823 (by decide +kernel) rfl, zT_in 111 (by decide +kernel) rfl, ⟨by decide +kernel, by decide +kernel, by decide +kernel⟩, zT_in 822 (by decide +kernel) rfl, zT_in 57 (by decide +kernel) rfl⟩
theorem lv_RX0_73 : zLV RX0 73 yX0_readEase cX0_readEase 5 (some .boolean) 3 := ⟨Or.inl (zT_in 831 (by decide +kernel) rfl), zT_in 834 (by decide +kernel) rfl, zT_in 111 (by decide +kernel) rfl, ⟨by decide +kernel, by decide +kernel, by decide +kernel⟩, zT_in 833 (by decide +kernel) rfl, zT_in 58 (by decide +kernel) rfl⟩
theorem lv_RX0_78 : zLV RX0 78 yX0_readPrice cX0_readPrice 5 (some .boolean) 3 := ⟨Or.inl (zT_in 836 (by decide +kernel) rfl), zT_in 839 (by decide +kernel) rfl, zT_in 111 (by decide +kernel) rfl, ⟨by decide +kernel, by decide +kernel, by decide +kernel⟩, zT_in 838 (by decide +kernel) rfl, zT_in 59 (by decide +kernel) rfl⟩
theorem ls_RX0_81 : zLS RX0 81 yX0_nameOf cX0_nameOf 1 (some (.object "java/lang/String")) 1 := ⟨Or.inl (zT_in 719 (by decide +kernel) rfl), zT_in 721 (by decide +kernel) rfl, zT_in 111 (by decide +kernel) rfl, ⟨by decide +kernel, by decide +kernel, by decide +kernel⟩, zT_in 720 (by decide +kernel) rfl⟩
theorem lv_RX0_99 : zLV RX0 99 yX0_readMeasures cX0_readMeasures 3 (some .boolean) 1 := ⟨Or.inl (zT_in 789 (by decide +kernel) rfl), zT_in 792 (by decide +kernel) rfl, zT_in 111 (by decide +kernel) rfl, ⟨by decide +kernel, by decide +kernel, by decide +kernel⟩, zT_in 791 (by decide +kernel) rfl, zT_in 52 (by decide +kernel) rfl⟩
theorem lv_RX0_103 : zLV RX0 103 yX0_readBribe cX0_readBribe 4 (some .boolean) 1 := ⟨Or.inl (zT_in 803 (by decide +kernel) rfl), zT_in 806 (by decide +kernel) rfl, zT_in 111 (by decide +kernel) rfl, ⟨by decide +kernel, by decide +kernel, by decide +kernel⟩, zT_in 805 (by decide +kernel) rfl, zT_in 54 (by decide +kernel) rfl⟩
theorem lv_RX0_106 : zLV RX0 106 yX0_readPins cX0_readPins 2 (some .boolean) 1 := ⟨Or.inl (zT_in 812 (by decide +kernel) rfl), zT_in 815 (by decide +kernel) rfl, zT_in 111 (by decide +kernel) rfl, ⟨by decide +kernel, by decide +kernel, by decide +kernel⟩, zT_in 814 (by decide +kernel) rfl, zT_in 56 (by decide +kernel) rfl⟩
theorem lv_RX0_109 : zLV RX0 109 yX4_add cX4_add 6 (some .int) 4 := ⟨Or.inr ⟨"MeanCoats", List.mem_of_getElem? (i := 66) rfl⟩, zT_in 331 (by decide +kernel) rfl, zT_in 108 (by decide +kernel) rfl, ⟨by decide +kernel, by decide +kernel, by decide +kernel⟩, zT_in 330 (by decide +kernel) rfl, zT_in 1 (by decide +kernel) rfl⟩
theorem lv_RX0_113 : zLV RX0 113 yX4_put cX4_put 4 none 3 := ⟨Or.inr ⟨"MeanCoats", List.mem_of_getElem? (i := 67) rfl⟩, zT_in 384 (by decide +kernel) rfl, zT_in 108 (by decide +kernel) rfl, ⟨by decide +kernel, by decide +kernel, by decide +kernel⟩, zT_in 383 (by decide +kernel) rfl, zT_in 9 (by decide +kernel) rfl⟩
theorem ls_RX0_117 : zLS RX0 117 yX0_takeNumber cX0_takeNumber 4 (some .int) 3 := ⟨Or.inl (zT_in 793 (by decide +kernel) rfl), zT_in 795 (by decide +kernel) rfl, zT_in 111 (by decide +kernel) rfl, ⟨by decide +kernel, by decide +kernel, by decide +kernel⟩, zT_in 794 (by decide +kernel) rfl⟩
theorem ls_RX0_124 : zLS RX0 124 yX0_ruleTold cX0_ruleTold 1 (some .int) 1 := ⟨Or.inl (zT_in 824 (by decide +kernel) rfl), zT_in 826 (by decide +kernel) rfl, zT_in 111 (by decide +kernel) rfl, ⟨by decide +kernel, by decide +kernel, by decide +kernel⟩, zT_in 825 (by decide +kernel) rfl⟩
theorem lv_RX0_139 : zLV RX0 139 yX3_numberWithin cX3_numberWithin 5 (some .int) 2 := ⟨Or.inr ⟨"MeanCoats", List.mem_of_getElem? (i := 64) rfl⟩, zT_in 799 (by decide +kernel) rfl, zT_in 110 (by decide +kernel) rfl, ⟨by decide +kernel, by decide +kernel, by decide +kernel⟩, zT_in 798 (by decide +kernel) rfl, zT_in 53 (by decide +kernel) rfl⟩
theorem lv_RX1_22 : zLV RX1 22 yX1_has cX1_has 3 (some .boolean) 2 := ⟨Or.inl (zT_in 900 (by decide +kernel) rfl), zT_in 891 (by decide +kernel) rfl, zT_in 112 (by decide +kernel) rfl, ⟨by decide +kernel, by decide +kernel, by decide +kernel⟩, zT_in 890 (by decide +kernel) rfl, zT_in 65 (by decide +kernel) rfl⟩
theorem ls_RX1_26 : zLS RX1 26 yX5_within cX5_within 3 (some .boolean) 3 := ⟨Or.inr ⟨"MeanCoats", List.mem_of_getElem? (i := 75) rfl⟩, zT_in 322 (by decide +kernel) rfl, zT_in 107 (by decide +kernel) rfl, ⟨by decide +kernel, by decide +kernel, by decide +kernel⟩, zT_in 321 (by decide +kernel) rfl⟩
theorem lv_RX2_31 : zLV RX2 31 yX4_timesOf cX4_timesOf 2 (some .int) 1 := ⟨Or.inr ⟨"MeanCoats", List.mem_of_getElem? (i := 37) rfl⟩, zT_in 371 (by decide +kernel) rfl, zT_in 108 (by decide +kernel) rfl, ⟨by decide +kernel, by decide +kernel, by decide +kernel⟩, zT_in 370 (by decide +kernel) rfl, zT_in 8 (by decide +kernel) rfl⟩
theorem lv_RX2_35 : zLV RX2 35 yX4_measuredOf cX4_measuredOf 4 (some .int) 2 := ⟨Or.inr ⟨"MeanCoats", List.mem_of_getElem? (i := 38) rfl⟩, zT_in 347 (by decide +kernel) rfl, zT_in 108 (by decide +kernel) rfl, ⟨by decide +kernel, by decide +kernel, by decide +kernel⟩, zT_in 346 (by decide +kernel) rfl, zT_in 4 (by decide +kernel) rfl⟩
theorem lv_RX2_39 : zLV RX2 39 yX2_arrange cX2_arrange 6 none 1 := ⟨Or.inl (zT_in 432 (by decide +kernel) rfl), zT_in 435 (by decide +kernel) rfl, zT_in 109 (by decide +kernel) rfl, ⟨by decide +kernel, by decide +kernel, by decide +kernel⟩, zT_in 434 (by decide +kernel) rfl, zT_in 13 (by decide +kernel) rfl⟩
theorem lv_RX2_43 : zLV RX2 43 yX2_show cX2_show 4 none 3 := ⟨Or.inl (zT_in 671 (by decide +kernel) rfl), zT_in 589 (by decide +kernel) rfl, zT_in 109 (by decide +kernel) rfl, ⟨by decide +kernel, by decide +kernel, by decide +kernel⟩, zT_in 588 (by decide +kernel) rfl, zT_in 31 (by decide +kernel) rfl⟩
theorem lv_RX2_47 : zLV RX2 47 yX2_cutOne cX2_cutOne 4 (some .int) 3 := ⟨Or.inl (zT_in 440 (by decide +kernel) rfl), zT_in 443 (by decide +kernel) rfl, zT_in 109 (by decide +kernel) rfl, ⟨by decide +kernel, by decide +kernel, by decide +kernel⟩, zT_in 442 (by decide +kernel) rfl, zT_in 15 (by decide +kernel) rfl⟩
theorem lv_RX2_51 : zLV RX2 51 yX2_middleOf cX2_middleOf 7 (some .int) 2 := ⟨Or.inl (zT_in 444 (by decide +kernel) rfl), zT_in 447 (by decide +kernel) rfl, zT_in 109 (by decide +kernel) rfl, ⟨by decide +kernel, by decide +kernel, by decide +kernel⟩, zT_in 446 (by decide +kernel) rfl, zT_in 16 (by decide +kernel) rfl⟩
theorem lv_RX2_54 : zLV RX2 54 yX2_greatestOf cX2_greatestOf 6 (some .int) 2 := ⟨Or.inl (zT_in 453 (by decide +kernel) rfl), zT_in 456 (by decide +kernel) rfl, zT_in 109 (by decide +kernel) rfl, ⟨by decide +kernel, by decide +kernel, by decide +kernel⟩, zT_in 455 (by decide +kernel) rfl, zT_in 18 (by decide +kernel) rfl⟩
theorem lv_RX2_57 : zLV RX2 57 yX2_cutMeanOf cX2_cutMeanOf 4 (some .int) 2 := ⟨Or.inl (zT_in 457 (by decide +kernel) rfl), zT_in 460 (by decide +kernel) rfl, zT_in 109 (by decide +kernel) rfl, ⟨by decide +kernel, by decide +kernel, by decide +kernel⟩, zT_in 459 (by decide +kernel) rfl, zT_in 19 (by decide +kernel) rfl⟩
theorem lv_RX2_60 : zLV RX2 60 yX2_timesOf cX2_timesOf 4 (some .int) 1 := ⟨Or.inl (zT_in 448 (by decide +kernel) rfl), zT_in 451 (by decide +kernel) rfl, zT_in 109 (by decide +kernel) rfl, ⟨by decide +kernel, by decide +kernel, by decide +kernel⟩, zT_in 450 (by decide +kernel) rfl, zT_in 17 (by decide +kernel) rfl⟩
theorem lv_RX2_61 : zLV RX2 61 yX2_sumOf cX2_sumOf 5 (some .int) 2 := ⟨Or.inl (zT_in 461 (by decide +kernel) rfl), zT_in 464 (by decide +kernel) rfl, zT_in 109 (by decide +kernel) rfl, ⟨by decide +kernel, by decide +kernel, by decide +kernel⟩, zT_in 463 (by decide +kernel) rfl, zT_in 20 (by decide +kernel) rfl⟩
theorem ls_RX2_64 : zLS RX2 64 yX5_holds cX5_holds 2 (some .boolean) 2 := ⟨Or.inr ⟨"MeanCoats", List.mem_of_getElem? (i := 40) rfl⟩, zT_in 367 (by decide +kernel) rfl, zT_in 107 (by decide +kernel) rfl, ⟨by decide +kernel, by decide +kernel, by decide +kernel⟩, zT_in 366 (by decide +kernel) rfl⟩
theorem lv_RX2_68 : zLV RX2 68 yX4_inchesOf cX4_inchesOf 3 (some .int) 2 := ⟨Or.inr ⟨"MeanCoats", List.mem_of_getElem? (i := 44) rfl⟩, zT_in 355 (by decide +kernel) rfl, zT_in 108 (by decide +kernel) rfl, ⟨by decide +kernel, by decide +kernel, by decide +kernel⟩, zT_in 354 (by decide +kernel) rfl, zT_in 6 (by decide +kernel) rfl⟩
theorem lm_RX2_71 : zLM RX2 71 Lib.Math.abs.name Lib.Math.abs.code 1 := ⟨zT_in 487 (by decide +kernel) rfl, zT_in 488 (by decide +kernel) rfl, zT_in 114 (by decide +kernel) rfl, zT_in 489 (by decide +kernel) rfl⟩
theorem lv_RX2_76 : zLV RX2 76 yX2_farOf cX2_farOf 5 (some .int) 2 := ⟨Or.inl (zT_in 482 (by decide +kernel) rfl), zT_in 485 (by decide +kernel) rfl, zT_in 109 (by decide +kernel) rfl, ⟨by decide +kernel, by decide +kernel, by decide +kernel⟩, zT_in 484 (by decide +kernel) rfl, zT_in 22 (by decide +kernel) rfl⟩
theorem lm_RX2_83 : zLM RX2 83 Lib.Math.max.name Lib.Math.max.code 2 := ⟨zT_in 490 (by decide +kernel) rfl, zT_in 412 (by decide +kernel) rfl, zT_in 114 (by decide +kernel) rfl, zT_in 413 (by decide +kernel) rfl⟩
theorem lv_RX2_86 : zLV RX2 86 yX2_costOf cX2_costOf 3 (some .int) 2 := ⟨Or.inl (zT_in 499 (by decide +kernel) rfl), zT_in 481 (by decide +kernel) rfl, zT_in 109 (by decide +kernel) rfl, ⟨by decide +kernel, by decide +kernel, by decide +kernel⟩, zT_in 480 (by decide +kernel) rfl, zT_in 21 (by decide +kernel) rfl⟩
theorem ls_RX3_34 : zLS RX3 34 yX3_sortOf cX3_sortOf 1 (some .int) 1 := ⟨Or.inl (zT_in 704 (by decide +kernel) rfl), zT_in 706 (by decide +kernel) rfl, zT_in 110 (by decide +kernel) rfl, ⟨by decide +kernel, by decide +kernel, by decide +kernel⟩, zT_in 705 (by decide +kernel) rfl⟩
theorem lv_RX3_38 : zLV RX3 38 yX3_lay cX3_lay 5 none 4 := ⟨Or.inl (zT_in 708 (by decide +kernel) rfl), zT_in 711 (by decide +kernel) rfl, zT_in 110 (by decide +kernel) rfl, ⟨by decide +kernel, by decide +kernel, by decide +kernel⟩, zT_in 710 (by decide +kernel) rfl, zT_in 47 (by decide +kernel) rfl⟩
theorem ls_RX3_42 : zLS RX3 42 yX5_within cX5_within 3 (some .boolean) 3 := ⟨Or.inr ⟨"MeanCoats", List.mem_of_getElem? (i := 61) rfl⟩, zT_in 322 (by decide +kernel) rfl, zT_in 107 (by decide +kernel) rfl, ⟨by decide +kernel, by decide +kernel, by decide +kernel⟩, zT_in 321 (by decide +kernel) rfl⟩
theorem lv_RX3_46 : zLV RX3 46 yJ0_length_8abf5 cJ0_length_8abf5 1 (some .int) 0 := ⟨Or.inl (zT_in 733 (by decide +kernel) rfl), zT_in 736 (by decide +kernel) rfl, zT_in 117 (by decide +kernel) rfl, ⟨by decide +kernel, by decide +kernel, by decide +kernel⟩, zT_in 734 (by decide +kernel) rfl, zT_in 735 (by decide +kernel) rfl⟩
theorem lv_RX3_51 : zLV RX3 51 yJ0_charAt_5068e cJ0_charAt_5068e 2 (some .char) 1 := ⟨Or.inl (zT_in 743 (by decide +kernel) rfl), zT_in 746 (by decide +kernel) rfl, zT_in 117 (by decide +kernel) rfl, ⟨by decide +kernel, by decide +kernel, by decide +kernel⟩, zT_in 744 (by decide +kernel) rfl, zT_in 745 (by decide +kernel) rfl⟩
theorem lm_RX3_55 : zLM RX3 55 Lib.Math.min.name Lib.Math.min.code 2 := ⟨zT_in 800 (by decide +kernel) rfl, zT_in 801 (by decide +kernel) rfl, zT_in 114 (by decide +kernel) rfl, zT_in 802 (by decide +kernel) rfl⟩
theorem la_RX4_52 : zLA RX4 52 := ⟨zT_in 606 (by decide +kernel) rfl, zT_in 608 (by decide +kernel) rfl, zT_in 607 (by decide +kernel) rfl, zT_in 116 (by decide +kernel) rfl⟩
theorem lv_RX4_58 : zLV RX4 58 yX4_measuredOf cX4_measuredOf 4 (some .int) 2 := ⟨Or.inl (zT_in 344 (by decide +kernel) rfl), zT_in 347 (by decide +kernel) rfl, zT_in 108 (by decide +kernel) rfl, ⟨by decide +kernel, by decide +kernel, by decide +kernel⟩, zT_in 346 (by decide +kernel) rfl, zT_in 4 (by decide +kernel) rfl⟩
theorem lv_RX4_62 : zLV RX4 62 yX4_isHere cX4_isHere 2 (some .boolean) 1 := ⟨Or.inl (zT_in 361 (by decide +kernel) rfl), zT_in 364 (by decide +kernel) rfl, zT_in 108 (by decide +kernel) rfl, ⟨by decide +kernel, by decide +kernel, by decide +kernel⟩, zT_in 363 (by decide +kernel) rfl, zT_in 7 (by decide +kernel) rfl⟩
theorem lv_RX4_66 : zLV RX4 66 yX4_timesOf cX4_timesOf 2 (some .int) 1 := ⟨Or.inl (zT_in 368 (by decide +kernel) rfl), zT_in 371 (by decide +kernel) rfl, zT_in 108 (by decide +kernel) rfl, ⟨by decide +kernel, by decide +kernel, by decide +kernel⟩, zT_in 370 (by decide +kernel) rfl, zT_in 8 (by decide +kernel) rfl⟩
theorem lv_RX4_70 : zLV RX4 70 yX4_inchesOf cX4_inchesOf 3 (some .int) 2 := ⟨Or.inl (zT_in 352 (by decide +kernel) rfl), zT_in 355 (by decide +kernel) rfl, zT_in 108 (by decide +kernel) rfl, ⟨by decide +kernel, by decide +kernel, by decide +kernel⟩, zT_in 354 (by decide +kernel) rfl, zT_in 6 (by decide +kernel) rfl⟩
theorem ls_RX4_73 : zLS RX4 73 yX5_isKind cX5_isKind 1 (some .boolean) 1 := ⟨Or.inr ⟨"MeanCoats", List.mem_of_getElem? (i := 30) rfl⟩, zT_in 319 (by decide +kernel) rfl, zT_in 107 (by decide +kernel) rfl, ⟨by decide +kernel, by decide +kernel, by decide +kernel⟩, zT_in 318 (by decide +kernel) rfl⟩
theorem ls_RX4_76 : zLS RX4 76 yX5_within cX5_within 3 (some .boolean) 3 := ⟨Or.inr ⟨"MeanCoats", List.mem_of_getElem? (i := 31) rfl⟩, zT_in 322 (by decide +kernel) rfl, zT_in 107 (by decide +kernel) rfl, ⟨by decide +kernel, by decide +kernel, by decide +kernel⟩, zT_in 321 (by decide +kernel) rfl⟩
theorem lv_RX4_80 : zLV RX4 80 yX4_setInches cX4_setInches 4 none 3 := ⟨Or.inl (zT_in 385 (by decide +kernel) rfl), zT_in 388 (by decide +kernel) rfl, zT_in 108 (by decide +kernel) rfl, ⟨by decide +kernel, by decide +kernel, by decide +kernel⟩, zT_in 387 (by decide +kernel) rfl, zT_in 10 (by decide +kernel) rfl⟩
theorem ls_RX4_84 : zLS RX4 84 yX5_holds cX5_holds 2 (some .boolean) 2 := ⟨Or.inr ⟨"MeanCoats", List.mem_of_getElem? (i := 28) rfl⟩, zT_in 367 (by decide +kernel) rfl, zT_in 107 (by decide +kernel) rfl, ⟨by decide +kernel, by decide +kernel, by decide +kernel⟩, zT_in 366 (by decide +kernel) rfl⟩
theorem ls_RX4_88 : zLS RX4 88 yX5_isUnder cX5_isUnder 4 (some .boolean) 2 := ⟨Or.inr ⟨"MeanCoats", List.mem_of_getElem? (i := 27) rfl⟩, zT_in 358 (by decide +kernel) rfl, zT_in 107 (by decide +kernel) rfl, ⟨by decide +kernel, by decide +kernel, by decide +kernel⟩, zT_in 357 (by decide +kernel) rfl⟩
theorem lv_RX4_91 : zLV RX4 91 yX4_widthAtBribe cX4_widthAtBribe 4 (some .int) 2 := ⟨Or.inl (zT_in 348 (by decide +kernel) rfl), zT_in 351 (by decide +kernel) rfl, zT_in 108 (by decide +kernel) rfl, ⟨by decide +kernel, by decide +kernel, by decide +kernel⟩, zT_in 350 (by decide +kernel) rfl, zT_in 5 (by decide +kernel) rfl⟩
theorem ls_RX6_79 : zLS RX6 79 yX6_within cX6_within 3 (some .boolean) 3 := ⟨Or.inl (zT_in 1038 (by decide +kernel) rfl), zT_in 1040 (by decide +kernel) rfl, zT_in 113 (by decide +kernel) rfl, ⟨by decide +kernel, by decide +kernel, by decide +kernel⟩, zT_in 1039 (by decide +kernel) rfl⟩
theorem lv_RX6_83 : zLV RX6 83 yX6_finding cX6_finding 2 (some .int) 1 := ⟨Or.inl (zT_in 1042 (by decide +kernel) rfl), zT_in 1045 (by decide +kernel) rfl, zT_in 113 (by decide +kernel) rfl, ⟨by decide +kernel, by decide +kernel, by decide +kernel⟩, zT_in 1044 (by decide +kernel) rfl, zT_in 69 (by decide +kernel) rfl⟩
theorem lv_RX6_88 : zLV RX6 88 yX6_comes cX6_comes 7 (some .int) 4 := ⟨Or.inl (zT_in 1047 (by decide +kernel) rfl), zT_in 1050 (by decide +kernel) rfl, zT_in 113 (by decide +kernel) rfl, ⟨by decide +kernel, by decide +kernel, by decide +kernel⟩, zT_in 1049 (by decide +kernel) rfl, zT_in 70 (by decide +kernel) rfl⟩
theorem lv_RX6_92 : zLV RX6 92 yX6_bodyIs cX6_bodyIs 3 (some .int) 2 := ⟨Or.inl (zT_in 1059 (by decide +kernel) rfl), zT_in 1062 (by decide +kernel) rfl, zT_in 113 (by decide +kernel) rfl, ⟨by decide +kernel, by decide +kernel, by decide +kernel⟩, zT_in 1061 (by decide +kernel) rfl, zT_in 72 (by decide +kernel) rfl⟩
theorem lv_RX6_96 : zLV RX6 96 yX6_isBody cX6_isBody 2 (some .boolean) 1 := ⟨Or.inl (zT_in 1055 (by decide +kernel) rfl), zT_in 1058 (by decide +kernel) rfl, zT_in 113 (by decide +kernel) rfl, ⟨by decide +kernel, by decide +kernel, by decide +kernel⟩, zT_in 1057 (by decide +kernel) rfl, zT_in 71 (by decide +kernel) rfl⟩
theorem lv_RX6_100 : zLV RX6 100 yX6_countsOf cX6_countsOf 3 (some .int) 1 := ⟨Or.inl (zT_in 1063 (by decide +kernel) rfl), zT_in 1066 (by decide +kernel) rfl, zT_in 113 (by decide +kernel) rfl, ⟨by decide +kernel, by decide +kernel, by decide +kernel⟩, zT_in 1065 (by decide +kernel) rfl, zT_in 73 (by decide +kernel) rfl⟩
theorem lv_RX6_103 : zLV RX6 103 yX6_measured cX6_measured 5 (some .int) 2 := ⟨Or.inl (zT_in 1067 (by decide +kernel) rfl), zT_in 1070 (by decide +kernel) rfl, zT_in 113 (by decide +kernel) rfl, ⟨by decide +kernel, by decide +kernel, by decide +kernel⟩, zT_in 1069 (by decide +kernel) rfl, zT_in 74 (by decide +kernel) rfl⟩
theorem ls_RX6_106 : zLS RX6 106 yX6_mayBe cX6_mayBe 2 (some .boolean) 2 := ⟨Or.inl (zT_in 1075 (by decide +kernel) rfl), zT_in 1077 (by decide +kernel) rfl, zT_in 113 (by decide +kernel) rfl, ⟨by decide +kernel, by decide +kernel, by decide +kernel⟩, zT_in 1076 (by decide +kernel) rfl⟩
theorem lv_RX6_110 : zLV RX6 110 yX6_become cX6_become 4 (some .int) 2 := ⟨Or.inl (zT_in 1078 (by decide +kernel) rfl), zT_in 1081 (by decide +kernel) rfl, zT_in 113 (by decide +kernel) rfl, ⟨by decide +kernel, by decide +kernel, by decide +kernel⟩, zT_in 1080 (by decide +kernel) rfl, zT_in 75 (by decide +kernel) rfl⟩
theorem lm_RX6_113 : zLM RX6 113 Lib.Math.max.name Lib.Math.max.code 2 := ⟨zT_in 1102 (by decide +kernel) rfl, zT_in 412 (by decide +kernel) rfl, zT_in 114 (by decide +kernel) rfl, zT_in 413 (by decide +kernel) rfl⟩
theorem ls_RX6_122 : zLS RX6 122 yX6_has cX6_has 2 (some .boolean) 2 := ⟨Or.inl (zT_in 1123 (by decide +kernel) rfl), zT_in 1125 (by decide +kernel) rfl, zT_in 113 (by decide +kernel) rfl, ⟨by decide +kernel, by decide +kernel, by decide +kernel⟩, zT_in 1124 (by decide +kernel) rfl⟩
theorem lv_RX6_125 : zLV RX6 125 yX6_findRow cX6_findRow 7 none 2 := ⟨Or.inl (zT_in 1119 (by decide +kernel) rfl), zT_in 1122 (by decide +kernel) rfl, zT_in 113 (by decide +kernel) rfl, ⟨by decide +kernel, by decide +kernel, by decide +kernel⟩, zT_in 1121 (by decide +kernel) rfl, zT_in 78 (by decide +kernel) rfl⟩
theorem lv_RX6_129 : zLV RX6 129 yX6_rowSum cX6_rowSum 3 (some .int) 0 := ⟨Or.inl (zT_in 1126 (by decide +kernel) rfl), zT_in 1129 (by decide +kernel) rfl, zT_in 113 (by decide +kernel) rfl, ⟨by decide +kernel, by decide +kernel, by decide +kernel⟩, zT_in 1128 (by decide +kernel) rfl, zT_in 79 (by decide +kernel) rfl⟩
theorem lv_RX6_133 : zLV RX6 133 yX6_cutFor cX6_cutFor 3 (some .int) 2 := ⟨Or.inl (zT_in 1115 (by decide +kernel) rfl), zT_in 1118 (by decide +kernel) rfl, zT_in 113 (by decide +kernel) rfl, ⟨by decide +kernel, by decide +kernel, by decide +kernel⟩, zT_in 1117 (by decide +kernel) rfl, zT_in 77 (by decide +kernel) rfl⟩
theorem ls_RX6_136 : zLS RX6 136 yX6_isMeasure cX6_isMeasure 1 (some .boolean) 1 := ⟨Or.inl (zT_in 1107 (by decide +kernel) rfl), zT_in 1109 (by decide +kernel) rfl, zT_in 113 (by decide +kernel) rfl, ⟨by decide +kernel, by decide +kernel, by decide +kernel⟩, zT_in 1108 (by decide +kernel) rfl⟩
theorem lv_RX6_139 : zLV RX6 139 yX6_hereSet cX6_hereSet 3 (some .int) 0 := ⟨Or.inl (zT_in 1110 (by decide +kernel) rfl), zT_in 1113 (by decide +kernel) rfl, zT_in 113 (by decide +kernel) rfl, ⟨by decide +kernel, by decide +kernel, by decide +kernel⟩, zT_in 1112 (by decide +kernel) rfl, zT_in 76 (by decide +kernel) rfl⟩
theorem ls_RX6_143 : zLS RX6 143 yX6_divisor cX6_divisor 2 (some .int) 2 := ⟨Or.inl (zT_in 1134 (by decide +kernel) rfl), zT_in 1136 (by decide +kernel) rfl, zT_in 113 (by decide +kernel) rfl, ⟨by decide +kernel, by decide +kernel, by decide +kernel⟩, zT_in 1135 (by decide +kernel) rfl⟩
theorem lm_RX6_146 : zLM RX6 146 Lib.Math.abs.name Lib.Math.abs.code 1 := ⟨zT_in 1153 (by decide +kernel) rfl, zT_in 488 (by decide +kernel) rfl, zT_in 114 (by decide +kernel) rfl, zT_in 489 (by decide +kernel) rfl⟩
theorem lv_RX6_149 : zLV RX6 149 yX6_distance cX6_distance 4 (some .int) 1 := ⟨Or.inl (zT_in 1149 (by decide +kernel) rfl), zT_in 1152 (by decide +kernel) rfl, zT_in 113 (by decide +kernel) rfl, ⟨by decide +kernel, by decide +kernel, by decide +kernel⟩, zT_in 1151 (by decide +kernel) rfl, zT_in 82 (by decide +kernel) rfl⟩
theorem lv_RX6_152 : zLV RX6 152 yX6_cut cX6_cut 3 none 1 := ⟨Or.inl (zT_in 1141 (by decide +kernel) rfl), zT_in 1144 (by decide +kernel) rfl, zT_in 113 (by decide +kernel) rfl, ⟨by decide +kernel, by decide +kernel, by decide +kernel⟩, zT_in 1143 (by decide +kernel) rfl, zT_in 80 (by decide +kernel) rfl⟩
theorem lv_RX6_156 : zLV RX6 156 yX6_costOf cX6_costOf 2 (some .int) 1 := ⟨Or.inl (zT_in 1145 (by decide +kernel) rfl), zT_in 1148 (by decide +kernel) rfl, zT_in 113 (by decide +kernel) rfl, ⟨by decide +kernel, by decide +kernel, by decide +kernel⟩, zT_in 1147 (by decide +kernel) rfl, zT_in 81 (by decide +kernel) rfl⟩
theorem lv_RX6_159 : zLV RX6 159 yX6_fitOf cX6_fitOf 4 (some .int) 1 := ⟨Or.inl (zT_in 1158 (by decide +kernel) rfl), zT_in 1161 (by decide +kernel) rfl, zT_in 113 (by decide +kernel) rfl, ⟨by decide +kernel, by decide +kernel, by decide +kernel⟩, zT_in 1160 (by decide +kernel) rfl, zT_in 83 (by decide +kernel) rfl⟩
theorem lv_RX6_162 : zLV RX6 162 yX6_together cX6_together 5 (some .int) 2 := ⟨Or.inl (zT_in 1182 (by decide +kernel) rfl), zT_in 1185 (by decide +kernel) rfl, zT_in 113 (by decide +kernel) rfl, ⟨by decide +kernel, by decide +kernel, by decide +kernel⟩, zT_in 1184 (by decide +kernel) rfl, zT_in 84 (by decide +kernel) rfl⟩
theorem ls_RX6_165 : zLS RX6 165 yX6_bits cX6_bits 3 (some .int) 1 := ⟨Or.inl (zT_in 1194 (by decide +kernel) rfl), zT_in 1196 (by decide +kernel) rfl, zT_in 113 (by decide +kernel) rfl, ⟨by decide +kernel, by decide +kernel, by decide +kernel⟩, zT_in 1195 (by decide +kernel) rfl⟩
theorem lv_RX6_168 : zLV RX6 168 yX6_isAway cX6_isAway 2 (some .boolean) 1 := ⟨Or.inl (zT_in 1209 (by decide +kernel) rfl), zT_in 1212 (by decide +kernel) rfl, zT_in 113 (by decide +kernel) rfl, ⟨by decide +kernel, by decide +kernel, by decide +kernel⟩, zT_in 1211 (by decide +kernel) rfl, zT_in 85 (by decide +kernel) rfl⟩
theorem lm_RX6_172 : zLM RX6 172 Lib.Math.min.name Lib.Math.min.code 2 := ⟨zT_in 1214 (by decide +kernel) rfl, zT_in 801 (by decide +kernel) rfl, zT_in 114 (by decide +kernel) rfl, zT_in 802 (by decide +kernel) rfl⟩
theorem lv_RX6_175 : zLV RX6 175 yX6_costBy cX6_costBy 5 (some .int) 2 := ⟨Or.inl (zT_in 1231 (by decide +kernel) rfl), zT_in 1234 (by decide +kernel) rfl, zT_in 113 (by decide +kernel) rfl, ⟨by decide +kernel, by decide +kernel, by decide +kernel⟩, zT_in 1233 (by decide +kernel) rfl, zT_in 88 (by decide +kernel) rfl⟩
theorem lv_RX6_178 : zLV RX6 178 yX6_doesBribe cX6_doesBribe 2 (some .boolean) 1 := ⟨Or.inl (zT_in 1223 (by decide +kernel) rfl), zT_in 1226 (by decide +kernel) rfl, zT_in 113 (by decide +kernel) rfl, ⟨by decide +kernel, by decide +kernel, by decide +kernel⟩, zT_in 1225 (by decide +kernel) rfl, zT_in 86 (by decide +kernel) rfl⟩
theorem lv_RX6_181 : zLV RX6 181 yX6_bribeOf cX6_bribeOf 7 (some .int) 1 := ⟨Or.inl (zT_in 1227 (by decide +kernel) rfl), zT_in 1230 (by decide +kernel) rfl, zT_in 113 (by decide +kernel) rfl, ⟨by decide +kernel, by decide +kernel, by decide +kernel⟩, zT_in 1229 (by decide +kernel) rfl, zT_in 87 (by decide +kernel) rfl⟩
theorem lv_RX6_184 : zLV RX6 184 yX6_isSettled cX6_isSettled 3 (some .boolean) 0 := ⟨Or.inl (zT_in 1239 (by decide +kernel) rfl), zT_in 1242 (by decide +kernel) rfl, zT_in 113 (by decide +kernel) rfl, ⟨by decide +kernel, by decide +kernel, by decide +kernel⟩, zT_in 1241 (by decide +kernel) rfl, zT_in 89 (by decide +kernel) rfl⟩
theorem lv_RX6_188 : zLV RX6 188 yX6_keepBribes cX6_keepBribes 2 none 0 := ⟨Or.inl (zT_in 1247 (by decide +kernel) rfl), zT_in 1250 (by decide +kernel) rfl, zT_in 113 (by decide +kernel) rfl, ⟨by decide +kernel, by decide +kernel, by decide +kernel⟩, zT_in 1249 (by decide +kernel) rfl, zT_in 90 (by decide +kernel) rfl⟩
theorem lv_RX6_191 : zLV RX6 191 yX6_round cX6_round 2 none 0 := ⟨Or.inl (zT_in 1251 (by decide +kernel) rfl), zT_in 1254 (by decide +kernel) rfl, zT_in 113 (by decide +kernel) rfl, ⟨by decide +kernel, by decide +kernel, by decide +kernel⟩, zT_in 1253 (by decide +kernel) rfl, zT_in 91 (by decide +kernel) rfl⟩
theorem lv_RX6_194 : zLV RX6 194 yX6_isSpring cX6_isSpring 2 (some .boolean) 1 := ⟨Or.inl (zT_in 1267 (by decide +kernel) rfl), zT_in 1270 (by decide +kernel) rfl, zT_in 113 (by decide +kernel) rfl, ⟨by decide +kernel, by decide +kernel, by decide +kernel⟩, zT_in 1269 (by decide +kernel) rfl, zT_in 92 (by decide +kernel) rfl⟩
theorem lv_RX6_203 : zLV RX6 203 yX6_findLived cX6_findLived 6 (some .int) 1 := ⟨Or.inl (zT_in 1275 (by decide +kernel) rfl), zT_in 1278 (by decide +kernel) rfl, zT_in 113 (by decide +kernel) rfl, ⟨by decide +kernel, by decide +kernel, by decide +kernel⟩, zT_in 1277 (by decide +kernel) rfl, zT_in 93 (by decide +kernel) rfl⟩
theorem lv_RX6_207 : zLV RX6 207 yX6_drawn cX6_drawn 2 (some .int) 1 := ⟨Or.inl (zT_in 1291 (by decide +kernel) rfl), zT_in 1294 (by decide +kernel) rfl, zT_in 113 (by decide +kernel) rfl, ⟨by decide +kernel, by decide +kernel, by decide +kernel⟩, zT_in 1293 (by decide +kernel) rfl, zT_in 95 (by decide +kernel) rfl⟩
theorem lv_RX6_210 : zLV RX6 210 yX6_slip cX6_slip 3 none 0 := ⟨Or.inl (zT_in 1287 (by decide +kernel) rfl), zT_in 1290 (by decide +kernel) rfl, zT_in 113 (by decide +kernel) rfl, ⟨by decide +kernel, by decide +kernel, by decide +kernel⟩, zT_in 1289 (by decide +kernel) rfl, zT_in 94 (by decide +kernel) rfl⟩
theorem lv_RX6_222 : zLV RX6 222 yX6_byteAt cX6_byteAt 2 (some .int) 1 := ⟨Or.inl (zT_in 1316 (by decide +kernel) rfl), zT_in 1319 (by decide +kernel) rfl, zT_in 113 (by decide +kernel) rfl, ⟨by decide +kernel, by decide +kernel, by decide +kernel⟩, zT_in 1318 (by decide +kernel) rfl, zT_in 97 (by decide +kernel) rfl⟩
theorem lv_RX6_231 : zLV RX6 231 yJ0_length_8abf5 cJ0_length_8abf5 1 (some .int) 0 := ⟨Or.inl (zT_in 1332 (by decide +kernel) rfl), zT_in 736 (by decide +kernel) rfl, zT_in 117 (by decide +kernel) rfl, ⟨by decide +kernel, by decide +kernel, by decide +kernel⟩, zT_in 734 (by decide +kernel) rfl, zT_in 735 (by decide +kernel) rfl⟩
theorem lv_RX6_234 : zLV RX6 234 yJ0_charAt_5068e cJ0_charAt_5068e 2 (some .char) 1 := ⟨Or.inl (zT_in 1333 (by decide +kernel) rfl), zT_in 746 (by decide +kernel) rfl, zT_in 117 (by decide +kernel) rfl, ⟨by decide +kernel, by decide +kernel, by decide +kernel⟩, zT_in 744 (by decide +kernel) rfl, zT_in 745 (by decide +kernel) rfl⟩
theorem lv_RX6_242 : zLV RX6 242 yX6_next cX6_next 2 none 0 := ⟨Or.inl (zT_in 1312 (by decide +kernel) rfl), zT_in 1315 (by decide +kernel) rfl, zT_in 113 (by decide +kernel) rfl, ⟨by decide +kernel, by decide +kernel, by decide +kernel⟩, zT_in 1314 (by decide +kernel) rfl, zT_in 96 (by decide +kernel) rfl⟩
theorem lv_RX6_245 : zLV RX6 245 yX6_must cX6_must 2 none 1 := ⟨Or.inl (zT_in 1338 (by decide +kernel) rfl), zT_in 1341 (by decide +kernel) rfl, zT_in 113 (by decide +kernel) rfl, ⟨by decide +kernel, by decide +kernel, by decide +kernel⟩, zT_in 1340 (by decide +kernel) rfl, zT_in 102 (by decide +kernel) rfl⟩
theorem lv_RX6_249 : zLV RX6 249 yX6_isWord cX6_isWord 4 (some .boolean) 1 := ⟨Or.inl (zT_in 1328 (by decide +kernel) rfl), zT_in 1331 (by decide +kernel) rfl, zT_in 113 (by decide +kernel) rfl, ⟨by decide +kernel, by decide +kernel, by decide +kernel⟩, zT_in 1330 (by decide +kernel) rfl, zT_in 100 (by decide +kernel) rfl⟩
theorem lv_RX6_256 : zLV RX6 256 yX6_which cX6_which 4 (some .int) 1 := ⟨Or.inl (zT_in 1324 (by decide +kernel) rfl), zT_in 1327 (by decide +kernel) rfl, zT_in 113 (by decide +kernel) rfl, ⟨by decide +kernel, by decide +kernel, by decide +kernel⟩, zT_in 1326 (by decide +kernel) rfl, zT_in 99 (by decide +kernel) rfl⟩
theorem lv_RX6_260 : zLV RX6 260 yX6_readBody cX6_readBody 4 none 1 := ⟨Or.inl (zT_in 1334 (by decide +kernel) rfl), zT_in 1337 (by decide +kernel) rfl, zT_in 113 (by decide +kernel) rfl, ⟨by decide +kernel, by decide +kernel, by decide +kernel⟩, zT_in 1336 (by decide +kernel) rfl, zT_in 101 (by decide +kernel) rfl⟩
theorem lv_RX6_267 : zLV RX6 267 yX6_number cX6_number 4 (some .int) 2 := ⟨Or.inl (zT_in 1342 (by decide +kernel) rfl), zT_in 1345 (by decide +kernel) rfl, zT_in 113 (by decide +kernel) rfl, ⟨by decide +kernel, by decide +kernel, by decide +kernel⟩, zT_in 1344 (by decide +kernel) rfl, zT_in 103 (by decide +kernel) rfl⟩
theorem lv_RX6_277 : zLV RX6 277 yX6_isSign cX6_isSign 2 (some .boolean) 1 := ⟨Or.inl (zT_in 1347 (by decide +kernel) rfl), zT_in 1350 (by decide +kernel) rfl, zT_in 113 (by decide +kernel) rfl, ⟨by decide +kernel, by decide +kernel, by decide +kernel⟩, zT_in 1349 (by decide +kernel) rfl, zT_in 104 (by decide +kernel) rfl⟩
theorem lv_RX6_282 : zLV RX6 282 yX6_readItem cX6_readItem 4 none 0 := ⟨Or.inl (zT_in 1320 (by decide +kernel) rfl), zT_in 1323 (by decide +kernel) rfl, zT_in 113 (by decide +kernel) rfl, ⟨by decide +kernel, by decide +kernel, by decide +kernel⟩, zT_in 1322 (by decide +kernel) rfl, zT_in 98 (by decide +kernel) rfl⟩
theorem lv_RX6_285 : zLV RX6 285 yX6_isSo cX6_isSo 4 none 1 := ⟨Or.inl (zT_in 1355 (by decide +kernel) rfl), zT_in 1358 (by decide +kernel) rfl, zT_in 113 (by decide +kernel) rfl, ⟨by decide +kernel, by decide +kernel, by decide +kernel⟩, zT_in 1357 (by decide +kernel) rfl, zT_in 105 (by decide +kernel) rfl⟩
theorem ls_RX6_289 : zLS RX6 289 yX6_above cX6_above 1 (some .int) 1 := ⟨Or.inl (zT_in 1368 (by decide +kernel) rfl), zT_in 1370 (by decide +kernel) rfl, zT_in 113 (by decide +kernel) rfl, ⟨by decide +kernel, by decide +kernel, by decide +kernel⟩, zT_in 1369 (by decide +kernel) rfl⟩
theorem ls_RX6_293 : zLS RX6 293 yX6_isSheet cX6_isSheet 1 (some .boolean) 1 := ⟨Or.inl (zT_in 1376 (by decide +kernel) rfl), zT_in 1378 (by decide +kernel) rfl, zT_in 113 (by decide +kernel) rfl, ⟨by decide +kernel, by decide +kernel, by decide +kernel⟩, zT_in 1377 (by decide +kernel) rfl⟩
theorem ls_RX6_297 : zLS RX6 297 yX6_cutTo cX6_cutTo 2 (some .int) 2 := ⟨Or.inl (zT_in 1384 (by decide +kernel) rfl), zT_in 1386 (by decide +kernel) rfl, zT_in 113 (by decide +kernel) rfl, ⟨by decide +kernel, by decide +kernel, by decide +kernel⟩, zT_in 1385 (by decide +kernel) rfl⟩
theorem ls_RX6_300 : zLS RX6 300 yX6_copyRow cX6_copyRow 3 none 2 := ⟨Or.inl (zT_in 1403 (by decide +kernel) rfl), zT_in 1405 (by decide +kernel) rfl, zT_in 113 (by decide +kernel) rfl, ⟨by decide +kernel, by decide +kernel, by decide +kernel⟩, zT_in 1404 (by decide +kernel) rfl⟩
theorem lv_RJ0_335 : zLV RJ0 335 yJ0_coder_7d493 cJ0_coder_7d493 1 (some .byte) 0 := ⟨Or.inl (zT_in 737 (by decide +kernel) rfl), zT_in 740 (by decide +kernel) rfl, zT_in 117 (by decide +kernel) rfl, ⟨by decide +kernel, by decide +kernel, by decide +kernel⟩, zT_in 738 (by decide +kernel) rfl, zT_in 739 (by decide +kernel) rfl⟩
theorem lv_RJ0_492 : zLV RJ0 492 yJ0_isLatin1_aae02 cJ0_isLatin1_aae02 1 (some .boolean) 0 := ⟨Or.inl (zT_in 747 (by decide +kernel) rfl), zT_in 750 (by decide +kernel) rfl, zT_in 117 (by decide +kernel) rfl, ⟨by decide +kernel, by decide +kernel, by decide +kernel⟩, zT_in 748 (by decide +kernel) rfl, zT_in 749 (by decide +kernel) rfl⟩
theorem ls_RJ0_495 : zLS RJ0 495 yJ1_charAt_3b067 cJ1_charAt_3b067 2 (some .char) 2 := ⟨Or.inl (zT_in 751 (by decide +kernel) rfl), zT_in 753 (by decide +kernel) rfl, zT_in 118 (by decide +kernel) rfl, ⟨by decide +kernel, by decide +kernel, by decide +kernel⟩, zT_in 752 (by decide +kernel) rfl⟩
theorem ls_RJ0_1059 : zLS RJ0 1059 yJ3_checkIndex_8e157 cJ3_checkIndex_8e157 3 (some .int) 3 := ⟨Or.inl (zT_in 759 (by decide +kernel) rfl), zT_in 761 (by decide +kernel) rfl, zT_in 119 (by decide +kernel) rfl, ⟨by decide +kernel, by decide +kernel, by decide +kernel⟩, zT_in 760 (by decide +kernel) rfl⟩
theorem ls_RJ1_9 : zLS RJ1 9 yJ0_checkIndex_df160 cJ0_checkIndex_df160 2 none 2 := ⟨Or.inl (zT_in 754 (by decide +kernel) rfl), zT_in 756 (by decide +kernel) rfl, zT_in 117 (by decide +kernel) rfl, ⟨by decide +kernel, by decide +kernel, by decide +kernel⟩, zT_in 755 (by decide +kernel) rfl⟩
end
section
/-! MODELS AND CONTRACTS, by program (wip/whole/gen_all.py): X5_within, X5_isKind, X5_finding, X4_add, X5_body, X5_isBody, X4_inchesOf, X4_widthAtBribe, X5_isUnder, X4_measuredOf, X4_timesOf, X5_holds, X4_isHere, X4_tell -/
theorem dX5_within_0 : decode cX5_within 0 = .ok (.iload_n 0, 1) := by decide +kernel
theorem dX5_within_1 : decode cX5_within 1 = .ok (.iload_n 1, 1) := by decide +kernel
theorem dX5_within_2 : decode cX5_within 2 = .ok (.if_icmp .lt 12, 3) := by decide +kernel
theorem dX5_within_5 : decode cX5_within 5 = .ok (.iload_n 0, 1) := by decide +kernel
theorem dX5_within_6 : decode cX5_within 6 = .ok (.iload_n 2, 1) := by decide +kernel
theorem dX5_within_7 : decode cX5_within 7 = .ok (.if_icmp .gt 7, 3) := by decide +kernel
theorem dX5_within_10 : decode cX5_within 10 = .ok (.iconst 1, 1) := by decide +kernel
theorem dX5_within_11 : decode cX5_within 11 = .ok (.goto 4, 3) := by decide +kernel
theorem dX5_within_14 : decode cX5_within 14 = .ok (.iconst 0, 1) := by decide +kernel
theorem dX5_within_15 : decode cX5_within 15 = .ok (.ireturn, 1) := by decide +kernel
def m_X5_within (a1 : Int32) (a2 : Int32) (a3 : Int32) : Int32 :=
  (if a1 < a2 then
0
else
(if a3 < a1 then
0
else
1))
set_option maxHeartbeats 4000000 in
set_option maxRecDepth 100000 in
theorem c_X5_within (a1 : Int32) (a2 : Int32) (a3 : Int32)   (u : zM) (r : Int32) (h : m_X5_within a1 a2 a3 = r) : zCt 1 yX5_within cX5_within 3 (some .boolean) (fun E => [.int a1, .int a2, .int a3]) u (fun _ => some (.int r)) u := by
  refine zCt.of (by decide +kernel) (fun E => Nat.le_of_ble_eq_true rfl) (fun X hX hR => ?_)
  have hX : zGood X RX5 cX5_within 3 1 := hX
  show zG X u 0 [(0, .int a1), (1, .int a2), (2, .int a3)] []
  unfold m_X5_within at h
  refine r_iload_n hX dX5_within_0 0 rfl rfl ?_
  refine r_iload_n hX dX5_within_1 1 rfl rfl ?_
  refine r_icmp_lt (tgt := 14) hX dX5_within_2 (by decide) (fun c1 => ?_) (fun c1 => ?_)
  · have h := (if_pos c1).symm.trans h
    refine r_iconst (v := 0) hX dX5_within_14 (by decide) ?_
    obtain rfl := h
    exact r_zret0 hX hR dX5_within_15
  · have h := (if_neg c1).symm.trans h
    refine r_iload_n hX dX5_within_5 0 rfl rfl ?_
    refine r_iload_n hX dX5_within_6 2 rfl rfl ?_
    refine r_icmp_gt (tgt := 14) hX dX5_within_7 (by decide) (fun c2 => ?_) (fun c2 => ?_)
    · have h := (if_pos c2).symm.trans h
      refine r_iconst (v := 0) hX dX5_within_14 (by decide) ?_
      obtain rfl := h
      exact r_zret0 hX hR dX5_within_15
    · have h := (if_neg c2).symm.trans h
      refine r_iconst (v := 1) hX dX5_within_10 (by decide) ?_
      refine r_goto (tgt := 15) hX dX5_within_11 (by decide) ?_
      obtain rfl := h
      exact r_zret1 hX hR dX5_within_15
theorem dX5_isKind_0 : decode cX5_isKind 0 = .ok (.iload_n 0, 1) := by decide +kernel
theorem dX5_isKind_1 : decode cX5_isKind 1 = .ok (.iconst 0, 1) := by decide +kernel
theorem dX5_isKind_2 : decode cX5_isKind 2 = .ok (.bipush 6, 2) := by decide +kernel
theorem dX5_isKind_4 : decode cX5_isKind 4 = .ok (.invokestatic 80, 3) := by decide +kernel
theorem dX5_isKind_7 : decode cX5_isKind 7 = .ok (.ireturn, 1) := by decide +kernel
def m_X5_isKind (a1 : Int32) : Int32 :=
  (zb (m_X5_within a1 0 6))
set_option maxHeartbeats 4000000 in
set_option maxRecDepth 100000 in
theorem c_X5_isKind (a1 : Int32)   (u : zM) (r : Int32) (h : m_X5_isKind a1 = r) : zCt 2 yX5_isKind cX5_isKind 1 (some .boolean) (fun E => [.int a1]) u (fun _ => some (.int r)) u := by
  refine zCt.of (by decide +kernel) (fun E => Nat.le_of_ble_eq_true rfl) (fun X hX hR => ?_)
  have hX : zGood X RX5 cX5_isKind 1 2 := hX
  show zG X u 0 [(0, .int a1)] []
  unfold m_X5_isKind at h
  refine r_iload_n hX dX5_isKind_0 0 rfl rfl ?_
  refine r_iconst (v := 0) hX dX5_isKind_1 (by decide) ?_
  refine r_bipush (v := 6) hX dX5_isKind_2 (by decide) ?_
  refine r_callS (As := [.int a1, .int 0, .int 6]) (rest := []) (st1 := [.int (m_X5_within a1 0 6)]) hX dX5_isKind_4 ls_RX5_80 (c_X5_within a1 0 6  u _ rfl) (by decide) rfl rfl rfl (Nat.le_of_ble_eq_true rfl) rfl ?_
  obtain rfl := h
  exact r_zret hX hR dX5_isKind_7
theorem dX5_finding_0 : decode cX5_finding 0 = .ok (.aload_n 0, 1) := by decide +kernel
theorem dX5_finding_1 : decode cX5_finding 1 = .ok (.getfield 46, 3) := by decide +kernel
theorem dX5_finding_4 : decode cX5_finding 4 = .ok (.iload_n 1, 1) := by decide +kernel
theorem dX5_finding_5 : decode cX5_finding 5 = .ok (.dup2, 1) := by decide +kernel
theorem dX5_finding_6 : decode cX5_finding 6 = .ok (.iaload, 1) := by decide +kernel
theorem dX5_finding_7 : decode cX5_finding 7 = .ok (.iconst 1, 1) := by decide +kernel
theorem dX5_finding_8 : decode cX5_finding 8 = .ok (.iadd, 1) := by decide +kernel
theorem dX5_finding_9 : decode cX5_finding 9 = .ok (.iastore, 1) := by decide +kernel
theorem dX5_finding_10 : decode cX5_finding 10 = .ok (.ldc_w 279, 3) := by decide +kernel
theorem dX5_finding_13 : decode cX5_finding 13 = .ok (.iload_n 1, 1) := by decide +kernel
theorem dX5_finding_14 : decode cX5_finding 14 = .ok (.isub, 1) := by decide +kernel
theorem dX5_finding_15 : decode cX5_finding 15 = .ok (.ireturn, 1) := by decide +kernel
def m_X5_finding (a1 : Int32) (u : zM) : Option (Int32 × zM) :=
  zbind (zld u 28 7 a1) (fun x1 => zbind (zsv u 28 7 a1 (x1 + 1)) (fun u3 => some (((-1000001) - a1), u3)))
set_option maxHeartbeats 4000000 in
set_option maxRecDepth 100000 in
theorem c_X5_finding (a1 : Int32)   (u : zM) (r : Int32) (u' : zM) (h : m_X5_finding a1 u = some (r, u')) : zCt 1 yX5_finding cX5_finding 2 (some .int) (fun E => [.ref (zad E 0), .int a1]) u (fun _ => some (.int r)) u' := by
  refine zCt.of (by decide +kernel) (fun E => Nat.le_of_ble_eq_true rfl) (fun X hX hR => ?_)
  have hX : zGood X RX5 cX5_finding 2 1 := hX
  show zG X u 0 [(0, .ref (zad X.1 0)), (1, .int a1)] []
  unfold m_X5_finding at h
  refine r_aload_n hX dX5_finding_0 0 rfl rfl ?_
  refine r_getR hX dX5_finding_1 f_RX5_46 zr_0_6 ?_
  refine r_iload_n hX dX5_finding_4 1 rfl rfl ?_
  refine r_dup2 hX dX5_finding_5 rfl rfl ?_
  obtain ⟨x1, e2, h⟩ := zbind_elim h
  refine r_iald hX dX5_finding_6 rfl e2 ?_
  refine r_iconst (v := 1) hX dX5_finding_7 (by decide) ?_
  refine r_iadd hX dX5_finding_8 ?_
  obtain ⟨u3, e4, h⟩ := zbind_elim h
  refine r_iast hX dX5_finding_9 rfl e4 ?_
  refine r_ldcw (v := (-1000001)) hX dX5_finding_10 (zT_in 327 (by decide +kernel) rfl) ?_
  refine r_iload_n hX dX5_finding_13 1 rfl rfl ?_
  refine r_isub hX dX5_finding_14 ?_
  obtain ⟨rfl, rfl⟩ := zinj2 (Option.some.inj h)
  exact r_iret hX hR dX5_finding_15
theorem dX4_add_0 : decode cX4_add 0 = .ok (.aload_n 0, 1) := by decide +kernel
theorem dX4_add_1 : decode cX4_add 1 = .ok (.getfield 30, 3) := by decide +kernel
theorem dX4_add_4 : decode cX4_add 4 = .ok (.istore 5, 2) := by decide +kernel
theorem dX4_add_6 : decode cX4_add 6 = .ok (.aload_n 0, 1) := by decide +kernel
theorem dX4_add_7 : decode cX4_add 7 = .ok (.getfield 9, 3) := by decide +kernel
theorem dX4_add_10 : decode cX4_add 10 = .ok (.iload 5, 2) := by decide +kernel
theorem dX4_add_12 : decode cX4_add 12 = .ok (.iload_n 1, 1) := by decide +kernel
theorem dX4_add_13 : decode cX4_add 13 = .ok (.iastore, 1) := by decide +kernel
theorem dX4_add_14 : decode cX4_add 14 = .ok (.aload_n 0, 1) := by decide +kernel
theorem dX4_add_15 : decode cX4_add 15 = .ok (.getfield 15, 3) := by decide +kernel
theorem dX4_add_18 : decode cX4_add 18 = .ok (.iload 5, 2) := by decide +kernel
theorem dX4_add_20 : decode cX4_add 20 = .ok (.iconst 3, 1) := by decide +kernel
theorem dX4_add_21 : decode cX4_add 21 = .ok (.imul, 1) := by decide +kernel
theorem dX4_add_22 : decode cX4_add 22 = .ok (.iload_n 2, 1) := by decide +kernel
theorem dX4_add_23 : decode cX4_add 23 = .ok (.iastore, 1) := by decide +kernel
theorem dX4_add_24 : decode cX4_add 24 = .ok (.aload_n 0, 1) := by decide +kernel
theorem dX4_add_25 : decode cX4_add 25 = .ok (.getfield 15, 3) := by decide +kernel
theorem dX4_add_28 : decode cX4_add 28 = .ok (.iload 5, 2) := by decide +kernel
theorem dX4_add_30 : decode cX4_add 30 = .ok (.iconst 3, 1) := by decide +kernel
theorem dX4_add_31 : decode cX4_add 31 = .ok (.imul, 1) := by decide +kernel
theorem dX4_add_32 : decode cX4_add 32 = .ok (.iconst 1, 1) := by decide +kernel
theorem dX4_add_33 : decode cX4_add 33 = .ok (.iadd, 1) := by decide +kernel
theorem dX4_add_34 : decode cX4_add 34 = .ok (.iload_n 3, 1) := by decide +kernel
theorem dX4_add_35 : decode cX4_add 35 = .ok (.iastore, 1) := by decide +kernel
theorem dX4_add_36 : decode cX4_add 36 = .ok (.aload_n 0, 1) := by decide +kernel
theorem dX4_add_37 : decode cX4_add 37 = .ok (.getfield 15, 3) := by decide +kernel
theorem dX4_add_40 : decode cX4_add 40 = .ok (.iload 5, 2) := by decide +kernel
theorem dX4_add_42 : decode cX4_add 42 = .ok (.iconst 3, 1) := by decide +kernel
theorem dX4_add_43 : decode cX4_add 43 = .ok (.imul, 1) := by decide +kernel
theorem dX4_add_44 : decode cX4_add 44 = .ok (.iconst 2, 1) := by decide +kernel
theorem dX4_add_45 : decode cX4_add 45 = .ok (.iadd, 1) := by decide +kernel
theorem dX4_add_46 : decode cX4_add 46 = .ok (.iload 4, 2) := by decide +kernel
theorem dX4_add_48 : decode cX4_add 48 = .ok (.iastore, 1) := by decide +kernel
theorem dX4_add_49 : decode cX4_add 49 = .ok (.aload_n 0, 1) := by decide +kernel
theorem dX4_add_50 : decode cX4_add 50 = .ok (.getfield 18, 3) := by decide +kernel
theorem dX4_add_53 : decode cX4_add 53 = .ok (.iload 5, 2) := by decide +kernel
theorem dX4_add_55 : decode cX4_add 55 = .ok (.iconst 0, 1) := by decide +kernel
theorem dX4_add_56 : decode cX4_add 56 = .ok (.iastore, 1) := by decide +kernel
theorem dX4_add_57 : decode cX4_add 57 = .ok (.aload_n 0, 1) := by decide +kernel
theorem dX4_add_58 : decode cX4_add 58 = .ok (.getfield 21, 3) := by decide +kernel
theorem dX4_add_61 : decode cX4_add 61 = .ok (.iload 5, 2) := by decide +kernel
theorem dX4_add_63 : decode cX4_add 63 = .ok (.iconst 0, 1) := by decide +kernel
theorem dX4_add_64 : decode cX4_add 64 = .ok (.iastore, 1) := by decide +kernel
theorem dX4_add_65 : decode cX4_add 65 = .ok (.aload_n 0, 1) := by decide +kernel
theorem dX4_add_66 : decode cX4_add 66 = .ok (.dup, 1) := by decide +kernel
theorem dX4_add_67 : decode cX4_add 67 = .ok (.getfield 34, 3) := by decide +kernel
theorem dX4_add_70 : decode cX4_add 70 = .ok (.iconst 1, 1) := by decide +kernel
theorem dX4_add_71 : decode cX4_add 71 = .ok (.iload 5, 2) := by decide +kernel
theorem dX4_add_73 : decode cX4_add 73 = .ok (.ishl, 1) := by decide +kernel
theorem dX4_add_74 : decode cX4_add 74 = .ok (.ior, 1) := by decide +kernel
theorem dX4_add_75 : decode cX4_add 75 = .ok (.putfield 34, 3) := by decide +kernel
theorem dX4_add_78 : decode cX4_add 78 = .ok (.aload_n 0, 1) := by decide +kernel
theorem dX4_add_79 : decode cX4_add 79 = .ok (.dup, 1) := by decide +kernel
theorem dX4_add_80 : decode cX4_add 80 = .ok (.getfield 30, 3) := by decide +kernel
theorem dX4_add_83 : decode cX4_add 83 = .ok (.iconst 1, 1) := by decide +kernel
theorem dX4_add_84 : decode cX4_add 84 = .ok (.iadd, 1) := by decide +kernel
theorem dX4_add_85 : decode cX4_add 85 = .ok (.putfield 30, 3) := by decide +kernel
theorem dX4_add_88 : decode cX4_add 88 = .ok (.iload 5, 2) := by decide +kernel
theorem dX4_add_90 : decode cX4_add 90 = .ok (.ireturn, 1) := by decide +kernel
def m_X4_add (a1 : Int32) (a2 : Int32) (a3 : Int32) (a4 : Int32) (u : zM) : Option (Int32 × zM) :=
  zbind (zsv u 2 12 (u 1 6) a1) (fun u1 => zbind (zsv u1 3 36 ((u 1 6) * 3) a2) (fun u3 => zbind (zsv u3 3 36 (((u 1 6) * 3) + 1) a3) (fun u5 => zbind (zsv u5 3 36 (((u 1 6) * 3) + 2) a4) (fun u7 => zbind (zsv u7 4 12 (u 1 6) 0) (fun u9 => zbind (zsv u9 5 12 (u 1 6) 0) (fun u11 => zlet (zst u11 1 7 ((u11 1 7) ||| (zshl 1 (u 1 6)))) (fun u13 => zlet (zst u13 1 6 ((u13 1 6) + 1)) (fun u15 => some ((u 1 6), u15)))))))))
set_option maxHeartbeats 4000000 in
set_option maxRecDepth 100000 in
theorem c_X4_add (a1 : Int32) (a2 : Int32) (a3 : Int32) (a4 : Int32)   (u : zM) (r : Int32) (u' : zM) (h : m_X4_add a1 a2 a3 a4 u = some (r, u')) : zCt 1 yX4_add cX4_add 6 (some .int) (fun E => [.ref (zad E 1), .int a1, .int a2, .int a3, .int a4]) u (fun _ => some (.int r)) u' := by
  refine zCt.of (by decide +kernel) (fun E => Nat.le_of_ble_eq_true rfl) (fun X hX hR => ?_)
  have hX : zGood X RX4 cX4_add 6 1 := hX
  show zG X u 0 [(0, .ref (zad X.1 1)), (1, .int a1), (2, .int a2), (3, .int a3), (4, .int a4)] []
  unfold m_X4_add at h
  refine r_aload_n hX dX4_add_0 0 rfl rfl ?_
  refine r_getI hX dX4_add_1 f_RX4_30 zi_1_6 ?_
  refine r_istore (y := (u 1 6)) (L' := [(5, .int (u 1 6)), (0, .ref (zad X.1 1)), (1, .int a1), (2, .int a2), (3, .int a3), (4, .int a4)]) hX dX4_add_4 (by decide) rfl rfl ?_
  refine r_aload_n hX dX4_add_6 1 rfl rfl ?_
  refine r_getR hX dX4_add_7 f_RX4_9 zr_1_0 ?_
  refine r_iload hX dX4_add_10 0 rfl ?_
  refine r_iload_n hX dX4_add_12 2 rfl rfl ?_
  obtain ⟨u1, e2, h⟩ := zbind_elim h
  refine r_iast hX dX4_add_13 rfl e2 ?_
  refine r_aload_n hX dX4_add_14 1 rfl rfl ?_
  refine r_getR hX dX4_add_15 f_RX4_15 zr_1_1 ?_
  refine r_iload hX dX4_add_18 0 rfl ?_
  refine r_iconst (v := 3) hX dX4_add_20 (by decide) ?_
  refine r_imul hX dX4_add_21 ?_
  refine r_iload_n hX dX4_add_22 3 rfl rfl ?_
  obtain ⟨u3, e4, h⟩ := zbind_elim h
  refine r_iast hX dX4_add_23 rfl e4 ?_
  refine r_aload_n hX dX4_add_24 1 rfl rfl ?_
  refine r_getR hX dX4_add_25 f_RX4_15 zr_1_1 ?_
  refine r_iload hX dX4_add_28 0 rfl ?_
  refine r_iconst (v := 3) hX dX4_add_30 (by decide) ?_
  refine r_imul hX dX4_add_31 ?_
  refine r_iconst (v := 1) hX dX4_add_32 (by decide) ?_
  refine r_iadd hX dX4_add_33 ?_
  refine r_iload_n hX dX4_add_34 4 rfl rfl ?_
  obtain ⟨u5, e6, h⟩ := zbind_elim h
  refine r_iast hX dX4_add_35 rfl e6 ?_
  refine r_aload_n hX dX4_add_36 1 rfl rfl ?_
  refine r_getR hX dX4_add_37 f_RX4_15 zr_1_1 ?_
  refine r_iload hX dX4_add_40 0 rfl ?_
  refine r_iconst (v := 3) hX dX4_add_42 (by decide) ?_
  refine r_imul hX dX4_add_43 ?_
  refine r_iconst (v := 2) hX dX4_add_44 (by decide) ?_
  refine r_iadd hX dX4_add_45 ?_
  refine r_iload hX dX4_add_46 5 rfl ?_
  obtain ⟨u7, e8, h⟩ := zbind_elim h
  refine r_iast hX dX4_add_48 rfl e8 ?_
  refine r_aload_n hX dX4_add_49 1 rfl rfl ?_
  refine r_getR hX dX4_add_50 f_RX4_18 zr_1_2 ?_
  refine r_iload hX dX4_add_53 0 rfl ?_
  refine r_iconst (v := 0) hX dX4_add_55 (by decide) ?_
  obtain ⟨u9, e10, h⟩ := zbind_elim h
  refine r_iast hX dX4_add_56 rfl e10 ?_
  refine r_aload_n hX dX4_add_57 1 rfl rfl ?_
  refine r_getR hX dX4_add_58 f_RX4_21 zr_1_3 ?_
  refine r_iload hX dX4_add_61 0 rfl ?_
  refine r_iconst (v := 0) hX dX4_add_63 (by decide) ?_
  obtain ⟨u11, e12, h⟩ := zbind_elim h
  refine r_iast hX dX4_add_64 rfl e12 ?_
  refine r_aload_n hX dX4_add_65 1 rfl rfl ?_
  refine r_dup hX dX4_add_66 rfl ?_
  refine r_getI hX dX4_add_67 f_RX4_34 zi_1_7 ?_
  refine r_iconst (v := 1) hX dX4_add_70 (by decide) ?_
  refine r_iload hX dX4_add_71 0 rfl ?_
  refine r_ishl hX dX4_add_73 ?_
  refine r_ior hX dX4_add_74 ?_
  obtain ⟨u13, e14, h⟩ := zlet_elim h
  refine r_putI hX dX4_add_75 f_RX4_34 p_4_7 zi_1_7 ?_
  rw [e14]
  refine r_aload_n hX dX4_add_78 1 rfl rfl ?_
  refine r_dup hX dX4_add_79 rfl ?_
  refine r_getI hX dX4_add_80 f_RX4_30 zi_1_6 ?_
  refine r_iconst (v := 1) hX dX4_add_83 (by decide) ?_
  refine r_iadd hX dX4_add_84 ?_
  obtain ⟨u15, e16, h⟩ := zlet_elim h
  refine r_putI hX dX4_add_85 f_RX4_30 p_4_6 zi_1_6 ?_
  rw [e16]
  refine r_iload hX dX4_add_88 0 rfl ?_
  obtain ⟨rfl, rfl⟩ := zinj2 (Option.some.inj h)
  exact r_iret hX hR dX4_add_90
theorem dX5_body_0 : decode cX5_body 0 = .ok (.iload_n 1, 1) := by decide +kernel
theorem dX5_body_1 : decode cX5_body 1 = .ok (.invokestatic 61, 3) := by decide +kernel
theorem dX5_body_4 : decode cX5_body 4 = .ok (.ifCond .ne 9, 3) := by decide +kernel
theorem dX5_body_7 : decode cX5_body 7 = .ok (.aload_n 0, 1) := by decide +kernel
theorem dX5_body_8 : decode cX5_body 8 = .ok (.iconst 0, 1) := by decide +kernel
theorem dX5_body_9 : decode cX5_body 9 = .ok (.invokevirtual 65, 3) := by decide +kernel
theorem dX5_body_12 : decode cX5_body 12 = .ok (.ireturn, 1) := by decide +kernel
theorem dX5_body_13 : decode cX5_body 13 = .ok (.aload_n 0, 1) := by decide +kernel
theorem dX5_body_14 : decode cX5_body 14 = .ok (.getfield 10, 3) := by decide +kernel
theorem dX5_body_17 : decode cX5_body 17 = .ok (.getfield 69, 3) := by decide +kernel
theorem dX5_body_20 : decode cX5_body 20 = .ok (.bipush 12, 2) := by decide +kernel
theorem dX5_body_22 : decode cX5_body 22 = .ok (.if_icmp .lt 9, 3) := by decide +kernel
theorem dX5_body_25 : decode cX5_body 25 = .ok (.aload_n 0, 1) := by decide +kernel
theorem dX5_body_26 : decode cX5_body 26 = .ok (.iconst 1, 1) := by decide +kernel
theorem dX5_body_27 : decode cX5_body 27 = .ok (.invokevirtual 65, 3) := by decide +kernel
theorem dX5_body_30 : decode cX5_body 30 = .ok (.ireturn, 1) := by decide +kernel
theorem dX5_body_31 : decode cX5_body 31 = .ok (.aload_n 0, 1) := by decide +kernel
theorem dX5_body_32 : decode cX5_body 32 = .ok (.getfield 10, 3) := by decide +kernel
theorem dX5_body_35 : decode cX5_body 35 = .ok (.iload_n 1, 1) := by decide +kernel
theorem dX5_body_36 : decode cX5_body 36 = .ok (.bipush 100, 2) := by decide +kernel
theorem dX5_body_38 : decode cX5_body 38 = .ok (.bipush 100, 2) := by decide +kernel
theorem dX5_body_40 : decode cX5_body 40 = .ok (.bipush 100, 2) := by decide +kernel
theorem dX5_body_42 : decode cX5_body 42 = .ok (.invokevirtual 73, 3) := by decide +kernel
theorem dX5_body_45 : decode cX5_body 45 = .ok (.ireturn, 1) := by decide +kernel
def m_X5_body (a1 : Int32) (u : zM) : Option (Int32 × zM) :=
  (if (m_X5_isKind a1) = 0 then
zbind2 (m_X5_finding 0 u) (fun x9 u10 => some (x9, u10))
else
(if (u 1 6) < 12 then
zbind2 (m_X4_add a1 100 100 100 u) (fun x3 u4 => some (x3, u4))
else
zbind2 (m_X5_finding 1 u) (fun x6 u7 => some (x6, u7))))
set_option maxHeartbeats 4000000 in
set_option maxRecDepth 100000 in
theorem c_X5_body (a1 : Int32)   (u : zM) (r : Int32) (u' : zM) (h : m_X5_body a1 u = some (r, u')) : zCt 3 yX5_body cX5_body 2 (some .int) (fun E => [.ref (zad E 0), .int a1]) u (fun _ => some (.int r)) u' := by
  refine zCt.of (by decide +kernel) (fun E => Nat.le_of_ble_eq_true rfl) (fun X hX hR => ?_)
  have hX : zGood X RX5 cX5_body 2 3 := hX
  show zG X u 0 [(0, .ref (zad X.1 0)), (1, .int a1)] []
  unfold m_X5_body at h
  refine r_iload_n hX dX5_body_0 1 rfl rfl ?_
  refine r_callS (As := [.int a1]) (rest := []) (st1 := [.int (m_X5_isKind a1)]) hX dX5_body_1 ls_RX5_61 (c_X5_isKind a1  u _ rfl) (by decide) rfl rfl rfl (Nat.le_of_ble_eq_true rfl) rfl ?_
  refine r_if_ne (tgt := 13) hX dX5_body_4 (by decide) (fun c1 => ?_) (fun c1 => ?_)
  · have h := (if_neg c1).symm.trans h
    refine r_aload_n hX dX5_body_13 0 rfl rfl ?_
    refine r_getR hX dX5_body_14 f_RX5_10 zr_0_0 ?_
    refine r_getI hX dX5_body_17 f_RX5_69 zi_1_6 ?_
    refine r_bipush (v := 12) hX dX5_body_20 (by decide) ?_
    refine r_icmp_lt (tgt := 31) hX dX5_body_22 (by decide) (fun c2 => ?_) (fun c2 => ?_)
    · have h := (if_pos c2).symm.trans h
      refine r_aload_n hX dX5_body_31 0 rfl rfl ?_
      refine r_getR hX dX5_body_32 f_RX5_10 zr_0_0 ?_
      refine r_iload_n hX dX5_body_35 1 rfl rfl ?_
      refine r_bipush (v := 100) hX dX5_body_36 (by decide) ?_
      refine r_bipush (v := 100) hX dX5_body_38 (by decide) ?_
      refine r_bipush (v := 100) hX dX5_body_40 (by decide) ?_
      obtain ⟨x3, u4, e5, h⟩ := zbind2_elim h
      refine r_callV (As := [.int a1, .int 100, .int 100, .int 100]) (rest := []) (st1 := [.int x3]) hX dX5_body_42 lv_RX5_73 (c_X4_add a1 100 100 100  u _ _ e5) (by decide) rfl rfl (zRecv.of (q := 1) (ci := 4) rfl rfl) rfl (Nat.le_of_ble_eq_true rfl) rfl ?_
      obtain ⟨rfl, rfl⟩ := zinj2 (Option.some.inj h)
      exact r_iret hX hR dX5_body_45
    · have h := (if_neg c2).symm.trans h
      refine r_aload_n hX dX5_body_25 0 rfl rfl ?_
      refine r_iconst (v := 1) hX dX5_body_26 (by decide) ?_
      obtain ⟨x6, u7, e8, h⟩ := zbind2_elim h
      refine r_callV (As := [.int 1]) (rest := []) (st1 := [.int x6]) hX dX5_body_27 lv_RX5_65 (c_X5_finding 1  u _ _ e8) (by decide) rfl rfl (zRecv.of (q := 0) (ci := 5) rfl rfl) rfl (Nat.le_of_ble_eq_true rfl) rfl ?_
      obtain ⟨rfl, rfl⟩ := zinj2 (Option.some.inj h)
      exact r_iret hX hR dX5_body_30
  · have h := (if_pos c1).symm.trans h
    refine r_aload_n hX dX5_body_7 0 rfl rfl ?_
    refine r_iconst (v := 0) hX dX5_body_8 (by decide) ?_
    obtain ⟨x9, u10, e11, h⟩ := zbind2_elim h
    refine r_callV (As := [.int 0]) (rest := []) (st1 := [.int x9]) hX dX5_body_9 lv_RX5_65 (c_X5_finding 0  u _ _ e11) (by decide) rfl rfl (zRecv.of (q := 0) (ci := 5) rfl rfl) rfl (Nat.le_of_ble_eq_true rfl) rfl ?_
    obtain ⟨rfl, rfl⟩ := zinj2 (Option.some.inj h)
    exact r_iret hX hR dX5_body_12
theorem dX5_isBody_0 : decode cX5_isBody 0 = .ok (.iload_n 1, 1) := by decide +kernel
theorem dX5_isBody_1 : decode cX5_isBody 1 = .ok (.iconst 0, 1) := by decide +kernel
theorem dX5_isBody_2 : decode cX5_isBody 2 = .ok (.aload_n 0, 1) := by decide +kernel
theorem dX5_isBody_3 : decode cX5_isBody 3 = .ok (.getfield 10, 3) := by decide +kernel
theorem dX5_isBody_6 : decode cX5_isBody 6 = .ok (.getfield 69, 3) := by decide +kernel
theorem dX5_isBody_9 : decode cX5_isBody 9 = .ok (.iconst 1, 1) := by decide +kernel
theorem dX5_isBody_10 : decode cX5_isBody 10 = .ok (.isub, 1) := by decide +kernel
theorem dX5_isBody_11 : decode cX5_isBody 11 = .ok (.invokestatic 80, 3) := by decide +kernel
theorem dX5_isBody_14 : decode cX5_isBody 14 = .ok (.ireturn, 1) := by decide +kernel
def m_X5_isBody (a1 : Int32) (u : zM) : Int32 :=
  (zb (m_X5_within a1 0 ((u 1 6) - 1)))
set_option maxHeartbeats 4000000 in
set_option maxRecDepth 100000 in
theorem c_X5_isBody (a1 : Int32)   (u : zM) (r : Int32) (h : m_X5_isBody a1 u = r) : zCt 2 yX5_isBody cX5_isBody 2 (some .boolean) (fun E => [.ref (zad E 0), .int a1]) u (fun _ => some (.int r)) u := by
  refine zCt.of (by decide +kernel) (fun E => Nat.le_of_ble_eq_true rfl) (fun X hX hR => ?_)
  have hX : zGood X RX5 cX5_isBody 2 2 := hX
  show zG X u 0 [(0, .ref (zad X.1 0)), (1, .int a1)] []
  unfold m_X5_isBody at h
  refine r_iload_n hX dX5_isBody_0 1 rfl rfl ?_
  refine r_iconst (v := 0) hX dX5_isBody_1 (by decide) ?_
  refine r_aload_n hX dX5_isBody_2 0 rfl rfl ?_
  refine r_getR hX dX5_isBody_3 f_RX5_10 zr_0_0 ?_
  refine r_getI hX dX5_isBody_6 f_RX5_69 zi_1_6 ?_
  refine r_iconst (v := 1) hX dX5_isBody_9 (by decide) ?_
  refine r_isub hX dX5_isBody_10 ?_
  refine r_callS (As := [.int a1, .int 0, .int ((u 1 6) - 1)]) (rest := []) (st1 := [.int (m_X5_within a1 0 ((u 1 6) - 1))]) hX dX5_isBody_11 ls_RX5_80 (c_X5_within a1 0 ((u 1 6) - 1)  u _ rfl) (by decide) rfl rfl rfl (Nat.le_of_ble_eq_true rfl) rfl ?_
  obtain rfl := h
  exact r_zret hX hR dX5_isBody_14
theorem dX4_inchesOf_0 : decode cX4_inchesOf 0 = .ok (.aload_n 0, 1) := by decide +kernel
theorem dX4_inchesOf_1 : decode cX4_inchesOf 1 = .ok (.getfield 15, 3) := by decide +kernel
theorem dX4_inchesOf_4 : decode cX4_inchesOf 4 = .ok (.iload_n 1, 1) := by decide +kernel
theorem dX4_inchesOf_5 : decode cX4_inchesOf 5 = .ok (.iconst 3, 1) := by decide +kernel
theorem dX4_inchesOf_6 : decode cX4_inchesOf 6 = .ok (.imul, 1) := by decide +kernel
theorem dX4_inchesOf_7 : decode cX4_inchesOf 7 = .ok (.iload_n 2, 1) := by decide +kernel
theorem dX4_inchesOf_8 : decode cX4_inchesOf 8 = .ok (.iadd, 1) := by decide +kernel
theorem dX4_inchesOf_9 : decode cX4_inchesOf 9 = .ok (.iaload, 1) := by decide +kernel
theorem dX4_inchesOf_10 : decode cX4_inchesOf 10 = .ok (.ireturn, 1) := by decide +kernel
def m_X4_inchesOf (a1 : Int32) (a2 : Int32) (u : zM) : Option (Int32) :=
  zbind (zld u 3 36 ((a1 * 3) + a2)) (fun x1 => some x1)
set_option maxHeartbeats 4000000 in
set_option maxRecDepth 100000 in
theorem c_X4_inchesOf (a1 : Int32) (a2 : Int32)   (u : zM) (r : Int32) (h : m_X4_inchesOf a1 a2 u = some r) : zCt 1 yX4_inchesOf cX4_inchesOf 3 (some .int) (fun E => [.ref (zad E 1), .int a1, .int a2]) u (fun _ => some (.int r)) u := by
  refine zCt.of (by decide +kernel) (fun E => Nat.le_of_ble_eq_true rfl) (fun X hX hR => ?_)
  have hX : zGood X RX4 cX4_inchesOf 3 1 := hX
  show zG X u 0 [(0, .ref (zad X.1 1)), (1, .int a1), (2, .int a2)] []
  unfold m_X4_inchesOf at h
  refine r_aload_n hX dX4_inchesOf_0 0 rfl rfl ?_
  refine r_getR hX dX4_inchesOf_1 f_RX4_15 zr_1_1 ?_
  refine r_iload_n hX dX4_inchesOf_4 1 rfl rfl ?_
  refine r_iconst (v := 3) hX dX4_inchesOf_5 (by decide) ?_
  refine r_imul hX dX4_inchesOf_6 ?_
  refine r_iload_n hX dX4_inchesOf_7 2 rfl rfl ?_
  refine r_iadd hX dX4_inchesOf_8 ?_
  obtain ⟨x1, e2, h⟩ := zbind_elim h
  refine r_iald hX dX4_inchesOf_9 rfl e2 ?_
  obtain rfl := Option.some.inj h
  exact r_iret hX hR dX4_inchesOf_10
theorem dX4_widthAtBribe_0 : decode cX4_widthAtBribe 0 = .ok (.aload_n 0, 1) := by decide +kernel
theorem dX4_widthAtBribe_1 : decode cX4_widthAtBribe 1 = .ok (.iload_n 1, 1) := by decide +kernel
theorem dX4_widthAtBribe_2 : decode cX4_widthAtBribe 2 = .ok (.iconst 1, 1) := by decide +kernel
theorem dX4_widthAtBribe_3 : decode cX4_widthAtBribe 3 = .ok (.invokevirtual 70, 3) := by decide +kernel
theorem dX4_widthAtBribe_6 : decode cX4_widthAtBribe 6 = .ok (.istore_n 3, 1) := by decide +kernel
theorem dX4_widthAtBribe_7 : decode cX4_widthAtBribe 7 = .ok (.aload_n 0, 1) := by decide +kernel
theorem dX4_widthAtBribe_8 : decode cX4_widthAtBribe 8 = .ok (.getfield 9, 3) := by decide +kernel
theorem dX4_widthAtBribe_11 : decode cX4_widthAtBribe 11 = .ok (.iload_n 1, 1) := by decide +kernel
theorem dX4_widthAtBribe_12 : decode cX4_widthAtBribe 12 = .ok (.iaload, 1) := by decide +kernel
theorem dX4_widthAtBribe_13 : decode cX4_widthAtBribe 13 = .ok (.tableswitch 50 2 6 #[35, 50, 50, 45, 39], 35) := by decide +kernel
theorem dX4_widthAtBribe_48 : decode cX4_widthAtBribe 48 = .ok (.iload_n 3, 1) := by decide +kernel
theorem dX4_widthAtBribe_49 : decode cX4_widthAtBribe 49 = .ok (.iload_n 2, 1) := by decide +kernel
theorem dX4_widthAtBribe_50 : decode cX4_widthAtBribe 50 = .ok (.iadd, 1) := by decide +kernel
theorem dX4_widthAtBribe_51 : decode cX4_widthAtBribe 51 = .ok (.ireturn, 1) := by decide +kernel
theorem dX4_widthAtBribe_52 : decode cX4_widthAtBribe 52 = .ok (.iload_n 3, 1) := by decide +kernel
theorem dX4_widthAtBribe_53 : decode cX4_widthAtBribe 53 = .ok (.iconst 2, 1) := by decide +kernel
theorem dX4_widthAtBribe_54 : decode cX4_widthAtBribe 54 = .ok (.iload_n 2, 1) := by decide +kernel
theorem dX4_widthAtBribe_55 : decode cX4_widthAtBribe 55 = .ok (.imul, 1) := by decide +kernel
theorem dX4_widthAtBribe_56 : decode cX4_widthAtBribe 56 = .ok (.iadd, 1) := by decide +kernel
theorem dX4_widthAtBribe_57 : decode cX4_widthAtBribe 57 = .ok (.ireturn, 1) := by decide +kernel
theorem dX4_widthAtBribe_58 : decode cX4_widthAtBribe 58 = .ok (.iload_n 3, 1) := by decide +kernel
theorem dX4_widthAtBribe_59 : decode cX4_widthAtBribe 59 = .ok (.bipush 10, 2) := by decide +kernel
theorem dX4_widthAtBribe_61 : decode cX4_widthAtBribe 61 = .ok (.isub, 1) := by decide +kernel
theorem dX4_widthAtBribe_62 : decode cX4_widthAtBribe 62 = .ok (.ireturn, 1) := by decide +kernel
theorem dX4_widthAtBribe_63 : decode cX4_widthAtBribe 63 = .ok (.iload_n 3, 1) := by decide +kernel
theorem dX4_widthAtBribe_64 : decode cX4_widthAtBribe 64 = .ok (.ireturn, 1) := by decide +kernel
def m_X4_widthAtBribe (a1 : Int32) (a2 : Int32) (u : zM) : Option (Int32) :=
  zbind (m_X4_inchesOf a1 1 u) (fun x1 => zbind (zld u 2 12 a1) (fun x3 => (if x3 = 2 then
some (x1 + a2)
else
if x3 = 3 then
some x1
else
if x3 = 4 then
some x1
else
if x3 = 5 then
some (x1 - 10)
else
if x3 = 6 then
some (x1 + (2 * a2))
else
some x1)))
set_option maxHeartbeats 4000000 in
set_option maxRecDepth 100000 in
theorem c_X4_widthAtBribe (a1 : Int32) (a2 : Int32)   (u : zM) (r : Int32) (h : m_X4_widthAtBribe a1 a2 u = some r) : zCt 2 yX4_widthAtBribe cX4_widthAtBribe 4 (some .int) (fun E => [.ref (zad E 1), .int a1, .int a2]) u (fun _ => some (.int r)) u := by
  refine zCt.of (by decide +kernel) (fun E => Nat.le_of_ble_eq_true rfl) (fun X hX hR => ?_)
  have hX : zGood X RX4 cX4_widthAtBribe 4 2 := hX
  show zG X u 0 [(0, .ref (zad X.1 1)), (1, .int a1), (2, .int a2)] []
  unfold m_X4_widthAtBribe at h
  refine r_aload_n hX dX4_widthAtBribe_0 0 rfl rfl ?_
  refine r_iload_n hX dX4_widthAtBribe_1 1 rfl rfl ?_
  refine r_iconst (v := 1) hX dX4_widthAtBribe_2 (by decide) ?_
  obtain ⟨x1, e2, h⟩ := zbind_elim h
  refine r_callV (As := [.int a1, .int 1]) (rest := []) (st1 := [.int x1]) hX dX4_widthAtBribe_3 lv_RX4_70 (c_X4_inchesOf a1 1  u _ e2) (by decide) rfl rfl (zRecv.of (q := 1) (ci := 4) rfl rfl) rfl (Nat.le_of_ble_eq_true rfl) rfl ?_
  refine r_istore_n (y := x1) (L' := [(3, .int x1), (0, .ref (zad X.1 1)), (1, .int a1), (2, .int a2)]) hX dX4_widthAtBribe_6 rfl (by decide) rfl rfl ?_
  refine r_aload_n hX dX4_widthAtBribe_7 1 rfl rfl ?_
  refine r_getR hX dX4_widthAtBribe_8 f_RX4_9 zr_1_0 ?_
  refine r_iload_n hX dX4_widthAtBribe_11 2 rfl rfl ?_
  obtain ⟨x3, e4, h⟩ := zbind_elim h
  refine r_iald hX dX4_widthAtBribe_12 rfl e4 ?_
  by_cases c5 : x3 = 2
  · have h := (if_pos c5).symm.trans h
    refine r_tsIn (v := 2) (off := 35) (tgt := 48) hX dX4_widthAtBribe_13 c5 (by decide) (by decide) (by decide +kernel) (by decide) ?_
    refine r_iload_n hX dX4_widthAtBribe_48 0 rfl rfl ?_
    refine r_iload_n hX dX4_widthAtBribe_49 3 rfl rfl ?_
    refine r_iadd hX dX4_widthAtBribe_50 ?_
    obtain rfl := Option.some.inj h
    exact r_iret hX hR dX4_widthAtBribe_51
  have h := (if_neg c5).symm.trans h
  by_cases c6 : x3 = 3
  · have h := (if_pos c6).symm.trans h
    refine r_tsIn (v := 3) (off := 50) (tgt := 63) hX dX4_widthAtBribe_13 c6 (by decide) (by decide) (by decide +kernel) (by decide) ?_
    refine r_iload_n hX dX4_widthAtBribe_63 0 rfl rfl ?_
    obtain rfl := Option.some.inj h
    exact r_iret hX hR dX4_widthAtBribe_64
  have h := (if_neg c6).symm.trans h
  by_cases c7 : x3 = 4
  · have h := (if_pos c7).symm.trans h
    refine r_tsIn (v := 4) (off := 50) (tgt := 63) hX dX4_widthAtBribe_13 c7 (by decide) (by decide) (by decide +kernel) (by decide) ?_
    refine r_iload_n hX dX4_widthAtBribe_63 0 rfl rfl ?_
    obtain rfl := Option.some.inj h
    exact r_iret hX hR dX4_widthAtBribe_64
  have h := (if_neg c7).symm.trans h
  by_cases c8 : x3 = 5
  · have h := (if_pos c8).symm.trans h
    refine r_tsIn (v := 5) (off := 45) (tgt := 58) hX dX4_widthAtBribe_13 c8 (by decide) (by decide) (by decide +kernel) (by decide) ?_
    refine r_iload_n hX dX4_widthAtBribe_58 0 rfl rfl ?_
    refine r_bipush (v := 10) hX dX4_widthAtBribe_59 (by decide) ?_
    refine r_isub hX dX4_widthAtBribe_61 ?_
    obtain rfl := Option.some.inj h
    exact r_iret hX hR dX4_widthAtBribe_62
  have h := (if_neg c8).symm.trans h
  by_cases c9 : x3 = 6
  · have h := (if_pos c9).symm.trans h
    refine r_tsIn (v := 6) (off := 39) (tgt := 52) hX dX4_widthAtBribe_13 c9 (by decide) (by decide) (by decide +kernel) (by decide) ?_
    refine r_iload_n hX dX4_widthAtBribe_52 0 rfl rfl ?_
    refine r_iconst (v := 2) hX dX4_widthAtBribe_53 (by decide) ?_
    refine r_iload_n hX dX4_widthAtBribe_54 3 rfl rfl ?_
    refine r_imul hX dX4_widthAtBribe_55 ?_
    refine r_iadd hX dX4_widthAtBribe_56 ?_
    obtain rfl := Option.some.inj h
    exact r_iret hX hR dX4_widthAtBribe_57
  have h := (if_neg c9).symm.trans h
  refine r_tsOut (tgt := 63) hX dX4_widthAtBribe_13 (by first | exact zts_out x3 2 (by decide) 5 (by decide) (fun k hk => match k, hk with | 0, _ => c5 | 1, _ => c6 | 2, _ => c7 | 3, _ => c8 | 4, _ => c9 | k + 5, hk => absurd hk (by omega))) (by decide) ?_
  refine r_iload_n hX dX4_widthAtBribe_63 0 rfl rfl ?_
  obtain rfl := Option.some.inj h
  exact r_iret hX hR dX4_widthAtBribe_64
theorem dX5_isUnder_0 : decode cX5_isUnder 0 = .ok (.iload_n 0, 1) := by decide +kernel
theorem dX5_isUnder_1 : decode cX5_isUnder 1 = .ok (.istore_n 2, 1) := by decide +kernel
theorem dX5_isUnder_2 : decode cX5_isUnder 2 = .ok (.iconst 0, 1) := by decide +kernel
theorem dX5_isUnder_3 : decode cX5_isUnder 3 = .ok (.istore_n 3, 1) := by decide +kernel
theorem dX5_isUnder_4 : decode cX5_isUnder 4 = .ok (.iload_n 3, 1) := by decide +kernel
theorem dX5_isUnder_5 : decode cX5_isUnder 5 = .ok (.bipush 6, 2) := by decide +kernel
theorem dX5_isUnder_7 : decode cX5_isUnder 7 = .ok (.if_icmp .gt 29, 3) := by decide +kernel
theorem dX5_isUnder_10 : decode cX5_isUnder 10 = .ok (.iload_n 2, 1) := by decide +kernel
theorem dX5_isUnder_11 : decode cX5_isUnder 11 = .ok (.invokestatic 61, 3) := by decide +kernel
theorem dX5_isUnder_14 : decode cX5_isUnder 14 = .ok (.ifCond .eq 22, 3) := by decide +kernel
theorem dX5_isUnder_17 : decode cX5_isUnder 17 = .ok (.iload_n 2, 1) := by decide +kernel
theorem dX5_isUnder_18 : decode cX5_isUnder 18 = .ok (.iload_n 1, 1) := by decide +kernel
theorem dX5_isUnder_19 : decode cX5_isUnder 19 = .ok (.if_icmp .ne 5, 3) := by decide +kernel
theorem dX5_isUnder_22 : decode cX5_isUnder 22 = .ok (.iconst 1, 1) := by decide +kernel
theorem dX5_isUnder_23 : decode cX5_isUnder 23 = .ok (.ireturn, 1) := by decide +kernel
theorem dX5_isUnder_24 : decode cX5_isUnder 24 = .ok (.getstatic 280, 3) := by decide +kernel
theorem dX5_isUnder_27 : decode cX5_isUnder 27 = .ok (.iload_n 2, 1) := by decide +kernel
theorem dX5_isUnder_28 : decode cX5_isUnder 28 = .ok (.iaload, 1) := by decide +kernel
theorem dX5_isUnder_29 : decode cX5_isUnder 29 = .ok (.istore_n 2, 1) := by decide +kernel
theorem dX5_isUnder_30 : decode cX5_isUnder 30 = .ok (.iinc 3 1, 3) := by decide +kernel
theorem dX5_isUnder_33 : decode cX5_isUnder 33 = .ok (.goto (-29), 3) := by decide +kernel
theorem dX5_isUnder_36 : decode cX5_isUnder 36 = .ok (.iconst 0, 1) := by decide +kernel
theorem dX5_isUnder_37 : decode cX5_isUnder 37 = .ok (.ireturn, 1) := by decide +kernel
def m_X5_isUnder_b0 (a2 : Int32) (x1 : Int32) (x2 : Int32) : Option ((Int32 × Int32) ⊕ (Int32)) :=
  (if 6 < x2 then
some (.inr 0)
else
(if (m_X5_isKind x1) = 0 then
some (.inr 0)
else
(if x1 = a2 then
some (.inr 1)
else
zbind (zka x1) (fun x6 => some (.inl (x6, (x2 + 1)))))))
def m_X5_isUnder (a1 : Int32) (a2 : Int32) : Option (Int32) :=
  zit zF (fun s : Int32 × Int32 => m_X5_isUnder_b0 a2 s.1 s.2) (a1, 0)
set_option maxHeartbeats 4000000 in
set_option maxRecDepth 100000 in
theorem c_X5_isUnder (a1 : Int32) (a2 : Int32)   (u : zM) (r : Int32) (h : m_X5_isUnder a1 a2 = some r) : zCt 3 yX5_isUnder cX5_isUnder 4 (some .boolean) (fun E => [.int a1, .int a2]) u (fun _ => some (.int r)) u := by
  refine zCt.of (by decide +kernel) (fun E => Nat.le_of_ble_eq_true rfl) (fun X hX hR => ?_)
  have hX : zGood X RX5 cX5_isUnder 4 3 := hX
  show zG X u 0 [(0, .int a1), (1, .int a2)] []
  unfold m_X5_isUnder at h
  refine r_iload_n hX dX5_isUnder_0 0 rfl rfl ?_
  refine r_istore_n (y := a1) (L' := [(2, .int a1), (0, .int a1), (1, .int a2)]) hX dX5_isUnder_1 rfl (by decide) rfl rfl ?_
  refine r_iconst (v := 0) hX dX5_isUnder_2 (by decide) ?_
  refine r_istore_n (y := 0) (L' := [(3, .int 0), (2, .int a1), (0, .int a1), (1, .int a2)]) hX dX5_isUnder_3 rfl (by decide) rfl rfl ?_
  refine r_sub [3, 1, 0] (L' := [(1, .int a2), (2, .int a1), (3, .int 0)]) rfl ?_
  refine zit_walk (P := fun s0 : Int32 × Int32 => zG X u 4 [(1, .int a2), (2, .int (s0.1)), (3, .int (s0.2))] []) ?_ zF _ h
  clear h
  intro s0 y0 h0b hin0 hout0
  obtain ⟨x1, x2⟩ := s0
  have h0b : m_X5_isUnder_b0 a2 x1 x2 = some y0 := h0b
  unfold m_X5_isUnder_b0 at h0b
  show zG X u 4 [(1, .int a2), (2, .int x1), (3, .int x2)] []
  refine r_iload_n hX dX5_isUnder_4 2 rfl rfl ?_
  refine r_bipush (v := 6) hX dX5_isUnder_5 (by decide) ?_
  refine r_icmp_gt (tgt := 36) hX dX5_isUnder_7 (by decide) (fun c3 => ?_) (fun c3 => ?_)
  · have h0b := (if_pos c3).symm.trans h0b
    refine r_iconst (v := 0) hX dX5_isUnder_36 (by decide) ?_
    have h0b := hout0 _ (Option.some.inj h0b).symm
    obtain rfl := h0b
    exact r_zret0 hX hR dX5_isUnder_37
  · have h0b := (if_neg c3).symm.trans h0b
    refine r_iload_n hX dX5_isUnder_10 1 rfl rfl ?_
    refine r_callS (As := [.int x1]) (rest := []) (st1 := [.int (m_X5_isKind x1)]) hX dX5_isUnder_11 ls_RX5_61 (c_X5_isKind x1  u _ rfl) (by decide) rfl rfl rfl (Nat.le_of_ble_eq_true rfl) rfl ?_
    refine r_if_eq (tgt := 36) hX dX5_isUnder_14 (by decide) (fun c4 => ?_) (fun c4 => ?_)
    · have h0b := (if_pos c4).symm.trans h0b
      refine r_iconst (v := 0) hX dX5_isUnder_36 (by decide) ?_
      have h0b := hout0 _ (Option.some.inj h0b).symm
      obtain rfl := h0b
      exact r_zret0 hX hR dX5_isUnder_37
    · have h0b := (if_neg c4).symm.trans h0b
      refine r_iload_n hX dX5_isUnder_17 1 rfl rfl ?_
      refine r_iload_n hX dX5_isUnder_18 0 rfl rfl ?_
      refine r_icmp_ne (tgt := 24) hX dX5_isUnder_19 (by decide) (fun c5 => ?_) (fun c5 => ?_)
      · have h0b := (if_neg c5).symm.trans h0b
        refine r_gsK hX dX5_isUnder_24 (zT_in 359 (by decide +kernel) rfl) ?_
        refine r_iload_n hX dX5_isUnder_27 1 rfl rfl ?_
        obtain ⟨x6, e7, h0b⟩ := zbind_elim h0b
        refine r_aldA hX dX5_isUnder_28 e7 ?_
        refine r_istore_n (y := x6) (L' := [(2, .int x6), (1, .int a2), (3, .int x2)]) hX dX5_isUnder_29 rfl (by decide) rfl rfl ?_
        refine r_iinc (v := (x2 + 1)) (L' := [(3, .int (x2 + 1)), (2, .int x6), (1, .int a2)]) hX dX5_isUnder_30 (by decide) 2 rfl rfl rfl ?_
        refine r_goto (tgt := 4) hX dX5_isUnder_33 (by decide) ?_
        refine r_sub [2, 1, 0] (L' := [(1, .int a2), (2, .int x6), (3, .int (x2 + 1))]) rfl ?_
        exact hin0 _ (Option.some.inj h0b).symm
      · have h0b := (if_pos c5).symm.trans h0b
        refine r_iconst (v := 1) hX dX5_isUnder_22 (by decide) ?_
        have h0b := hout0 _ (Option.some.inj h0b).symm
        obtain rfl := h0b
        exact r_zret1 hX hR dX5_isUnder_23
theorem dX4_measuredOf_0 : decode cX4_measuredOf 0 = .ok (.iload_n 2, 1) := by decide +kernel
theorem dX4_measuredOf_1 : decode cX4_measuredOf 1 = .ok (.iconst 1, 1) := by decide +kernel
theorem dX4_measuredOf_2 : decode cX4_measuredOf 2 = .ok (.if_icmp .ne 15, 3) := by decide +kernel
theorem dX4_measuredOf_5 : decode cX4_measuredOf 5 = .ok (.aload_n 0, 1) := by decide +kernel
theorem dX4_measuredOf_6 : decode cX4_measuredOf 6 = .ok (.iload_n 1, 1) := by decide +kernel
theorem dX4_measuredOf_7 : decode cX4_measuredOf 7 = .ok (.aload_n 0, 1) := by decide +kernel
theorem dX4_measuredOf_8 : decode cX4_measuredOf 8 = .ok (.getfield 18, 3) := by decide +kernel
theorem dX4_measuredOf_11 : decode cX4_measuredOf 11 = .ok (.iload_n 1, 1) := by decide +kernel
theorem dX4_measuredOf_12 : decode cX4_measuredOf 12 = .ok (.iaload, 1) := by decide +kernel
theorem dX4_measuredOf_13 : decode cX4_measuredOf 13 = .ok (.invokevirtual 91, 3) := by decide +kernel
theorem dX4_measuredOf_16 : decode cX4_measuredOf 16 = .ok (.ireturn, 1) := by decide +kernel
theorem dX4_measuredOf_17 : decode cX4_measuredOf 17 = .ok (.iload_n 2, 1) := by decide +kernel
theorem dX4_measuredOf_18 : decode cX4_measuredOf 18 = .ok (.ifCond .ne 20, 3) := by decide +kernel
theorem dX4_measuredOf_21 : decode cX4_measuredOf 21 = .ok (.aload_n 0, 1) := by decide +kernel
theorem dX4_measuredOf_22 : decode cX4_measuredOf 22 = .ok (.getfield 9, 3) := by decide +kernel
theorem dX4_measuredOf_25 : decode cX4_measuredOf 25 = .ok (.iload_n 1, 1) := by decide +kernel
theorem dX4_measuredOf_26 : decode cX4_measuredOf 26 = .ok (.iaload, 1) := by decide +kernel
theorem dX4_measuredOf_27 : decode cX4_measuredOf 27 = .ok (.iconst 1, 1) := by decide +kernel
theorem dX4_measuredOf_28 : decode cX4_measuredOf 28 = .ok (.invokestatic 88, 3) := by decide +kernel
theorem dX4_measuredOf_31 : decode cX4_measuredOf 31 = .ok (.ifCond .eq 7, 3) := by decide +kernel
theorem dX4_measuredOf_34 : decode cX4_measuredOf 34 = .ok (.iconst 2, 1) := by decide +kernel
theorem dX4_measuredOf_35 : decode cX4_measuredOf 35 = .ok (.goto 4, 3) := by decide +kernel
theorem dX4_measuredOf_38 : decode cX4_measuredOf 38 = .ok (.iconst 0, 1) := by decide +kernel
theorem dX4_measuredOf_39 : decode cX4_measuredOf 39 = .ok (.istore_n 3, 1) := by decide +kernel
theorem dX4_measuredOf_40 : decode cX4_measuredOf 40 = .ok (.aload_n 0, 1) := by decide +kernel
theorem dX4_measuredOf_41 : decode cX4_measuredOf 41 = .ok (.iload_n 1, 1) := by decide +kernel
theorem dX4_measuredOf_42 : decode cX4_measuredOf 42 = .ok (.iload_n 2, 1) := by decide +kernel
theorem dX4_measuredOf_43 : decode cX4_measuredOf 43 = .ok (.invokevirtual 70, 3) := by decide +kernel
theorem dX4_measuredOf_46 : decode cX4_measuredOf 46 = .ok (.iload_n 3, 1) := by decide +kernel
theorem dX4_measuredOf_47 : decode cX4_measuredOf 47 = .ok (.iadd, 1) := by decide +kernel
theorem dX4_measuredOf_48 : decode cX4_measuredOf 48 = .ok (.ireturn, 1) := by decide +kernel
def m_X4_measuredOf (a1 : Int32) (a2 : Int32) (u : zM) : Option (Int32) :=
  (if a2 = 1 then
zbind (zld u 4 12 a1) (fun x14 => zbind (m_X4_widthAtBribe a1 x14 u) (fun x16 => some x16))
else
(if a2 = 0 then
zbind (zld u 2 12 a1) (fun x5 => zbind (m_X5_isUnder x5 1) (fun x7 => (if x7 = 0 then
zbind (m_X4_inchesOf a1 a2 u) (fun x10 => some (x10 + 0))
else
zbind (m_X4_inchesOf a1 a2 u) (fun x12 => some (x12 + 2)))))
else
zbind (m_X4_inchesOf a1 a2 u) (fun x3 => some (x3 + 0))))
set_option maxHeartbeats 4000000 in
set_option maxRecDepth 100000 in
theorem c_X4_measuredOf (a1 : Int32) (a2 : Int32)   (u : zM) (r : Int32) (h : m_X4_measuredOf a1 a2 u = some r) : zCt 4 yX4_measuredOf cX4_measuredOf 4 (some .int) (fun E => [.ref (zad E 1), .int a1, .int a2]) u (fun _ => some (.int r)) u := by
  refine zCt.of (by decide +kernel) (fun E => Nat.le_of_ble_eq_true rfl) (fun X hX hR => ?_)
  have hX : zGood X RX4 cX4_measuredOf 4 4 := hX
  show zG X u 0 [(0, .ref (zad X.1 1)), (1, .int a1), (2, .int a2)] []
  unfold m_X4_measuredOf at h
  refine r_iload_n hX dX4_measuredOf_0 2 rfl rfl ?_
  refine r_iconst (v := 1) hX dX4_measuredOf_1 (by decide) ?_
  refine r_icmp_ne (tgt := 17) hX dX4_measuredOf_2 (by decide) (fun c1 => ?_) (fun c1 => ?_)
  · have h := (if_neg c1).symm.trans h
    refine r_iload_n hX dX4_measuredOf_17 2 rfl rfl ?_
    refine r_if_ne (tgt := 38) hX dX4_measuredOf_18 (by decide) (fun c2 => ?_) (fun c2 => ?_)
    · have h := (if_neg c2).symm.trans h
      refine r_iconst (v := 0) hX dX4_measuredOf_38 (by decide) ?_
      refine r_istore_n (y := 0) (L' := [(3, .int 0), (0, .ref (zad X.1 1)), (1, .int a1), (2, .int a2)]) hX dX4_measuredOf_39 rfl (by decide) rfl rfl ?_
      refine r_aload_n hX dX4_measuredOf_40 1 rfl rfl ?_
      refine r_iload_n hX dX4_measuredOf_41 2 rfl rfl ?_
      refine r_iload_n hX dX4_measuredOf_42 3 rfl rfl ?_
      obtain ⟨x3, e4, h⟩ := zbind_elim h
      refine r_callV (As := [.int a1, .int a2]) (rest := []) (st1 := [.int x3]) hX dX4_measuredOf_43 lv_RX4_70 (c_X4_inchesOf a1 a2  u _ e4) (by decide) rfl rfl (zRecv.of (q := 1) (ci := 4) rfl rfl) rfl (Nat.le_of_ble_eq_true rfl) rfl ?_
      refine r_iload_n hX dX4_measuredOf_46 0 rfl rfl ?_
      refine r_iadd hX dX4_measuredOf_47 ?_
      obtain rfl := Option.some.inj h
      exact r_iret hX hR dX4_measuredOf_48
    · have h := (if_pos c2).symm.trans h
      refine r_aload_n hX dX4_measuredOf_21 0 rfl rfl ?_
      refine r_getR hX dX4_measuredOf_22 f_RX4_9 zr_1_0 ?_
      refine r_iload_n hX dX4_measuredOf_25 1 rfl rfl ?_
      obtain ⟨x5, e6, h⟩ := zbind_elim h
      refine r_iald hX dX4_measuredOf_26 rfl e6 ?_
      refine r_iconst (v := 1) hX dX4_measuredOf_27 (by decide) ?_
      obtain ⟨x7, e8, h⟩ := zbind_elim h
      refine r_callS (As := [.int x5, .int 1]) (rest := []) (st1 := [.int x7]) hX dX4_measuredOf_28 ls_RX4_88 (c_X5_isUnder x5 1  u _ e8) (by decide) rfl rfl rfl (Nat.le_of_ble_eq_true rfl) rfl ?_
      refine r_if_eq (tgt := 38) hX dX4_measuredOf_31 (by decide) (fun c9 => ?_) (fun c9 => ?_)
      · have h := (if_pos c9).symm.trans h
        refine r_iconst (v := 0) hX dX4_measuredOf_38 (by decide) ?_
        refine r_istore_n (y := 0) (L' := [(3, .int 0), (0, .ref (zad X.1 1)), (1, .int a1), (2, .int a2)]) hX dX4_measuredOf_39 rfl (by decide) rfl rfl ?_
        refine r_aload_n hX dX4_measuredOf_40 1 rfl rfl ?_
        refine r_iload_n hX dX4_measuredOf_41 2 rfl rfl ?_
        refine r_iload_n hX dX4_measuredOf_42 3 rfl rfl ?_
        obtain ⟨x10, e11, h⟩ := zbind_elim h
        refine r_callV (As := [.int a1, .int a2]) (rest := []) (st1 := [.int x10]) hX dX4_measuredOf_43 lv_RX4_70 (c_X4_inchesOf a1 a2  u _ e11) (by decide) rfl rfl (zRecv.of (q := 1) (ci := 4) rfl rfl) rfl (Nat.le_of_ble_eq_true rfl) rfl ?_
        refine r_iload_n hX dX4_measuredOf_46 0 rfl rfl ?_
        refine r_iadd hX dX4_measuredOf_47 ?_
        obtain rfl := Option.some.inj h
        exact r_iret hX hR dX4_measuredOf_48
      · have h := (if_neg c9).symm.trans h
        refine r_iconst (v := 2) hX dX4_measuredOf_34 (by decide) ?_
        refine r_goto (tgt := 39) hX dX4_measuredOf_35 (by decide) ?_
        refine r_istore_n (y := 2) (L' := [(3, .int 2), (0, .ref (zad X.1 1)), (1, .int a1), (2, .int a2)]) hX dX4_measuredOf_39 rfl (by decide) rfl rfl ?_
        refine r_aload_n hX dX4_measuredOf_40 1 rfl rfl ?_
        refine r_iload_n hX dX4_measuredOf_41 2 rfl rfl ?_
        refine r_iload_n hX dX4_measuredOf_42 3 rfl rfl ?_
        obtain ⟨x12, e13, h⟩ := zbind_elim h
        refine r_callV (As := [.int a1, .int a2]) (rest := []) (st1 := [.int x12]) hX dX4_measuredOf_43 lv_RX4_70 (c_X4_inchesOf a1 a2  u _ e13) (by decide) rfl rfl (zRecv.of (q := 1) (ci := 4) rfl rfl) rfl (Nat.le_of_ble_eq_true rfl) rfl ?_
        refine r_iload_n hX dX4_measuredOf_46 0 rfl rfl ?_
        refine r_iadd hX dX4_measuredOf_47 ?_
        obtain rfl := Option.some.inj h
        exact r_iret hX hR dX4_measuredOf_48
  · have h := (if_pos c1).symm.trans h
    refine r_aload_n hX dX4_measuredOf_5 0 rfl rfl ?_
    refine r_iload_n hX dX4_measuredOf_6 1 rfl rfl ?_
    refine r_aload_n hX dX4_measuredOf_7 0 rfl rfl ?_
    refine r_getR hX dX4_measuredOf_8 f_RX4_18 zr_1_2 ?_
    refine r_iload_n hX dX4_measuredOf_11 1 rfl rfl ?_
    obtain ⟨x14, e15, h⟩ := zbind_elim h
    refine r_iald hX dX4_measuredOf_12 rfl e15 ?_
    obtain ⟨x16, e17, h⟩ := zbind_elim h
    refine r_callV (As := [.int a1, .int x14]) (rest := []) (st1 := [.int x16]) hX dX4_measuredOf_13 lv_RX4_91 (c_X4_widthAtBribe a1 x14  u _ e17) (by decide) rfl rfl (zRecv.of (q := 1) (ci := 4) rfl rfl) rfl (Nat.le_of_ble_eq_true rfl) rfl ?_
    obtain rfl := Option.some.inj h
    exact r_iret hX hR dX4_measuredOf_16
theorem dX4_timesOf_0 : decode cX4_timesOf 0 = .ok (.aload_n 0, 1) := by decide +kernel
theorem dX4_timesOf_1 : decode cX4_timesOf 1 = .ok (.getfield 9, 3) := by decide +kernel
theorem dX4_timesOf_4 : decode cX4_timesOf 4 = .ok (.iload_n 1, 1) := by decide +kernel
theorem dX4_timesOf_5 : decode cX4_timesOf 5 = .ok (.iaload, 1) := by decide +kernel
theorem dX4_timesOf_6 : decode cX4_timesOf 6 = .ok (.lookupswitch 30 #[(3, 26), (4, 28)], 26) := by decide +kernel
theorem dX4_timesOf_32 : decode cX4_timesOf 32 = .ok (.iconst 2, 1) := by decide +kernel
theorem dX4_timesOf_33 : decode cX4_timesOf 33 = .ok (.ireturn, 1) := by decide +kernel
theorem dX4_timesOf_34 : decode cX4_timesOf 34 = .ok (.iconst 3, 1) := by decide +kernel
theorem dX4_timesOf_35 : decode cX4_timesOf 35 = .ok (.ireturn, 1) := by decide +kernel
theorem dX4_timesOf_36 : decode cX4_timesOf 36 = .ok (.iconst 1, 1) := by decide +kernel
theorem dX4_timesOf_37 : decode cX4_timesOf 37 = .ok (.ireturn, 1) := by decide +kernel
def m_X4_timesOf (a1 : Int32) (u : zM) : Option (Int32) :=
  zbind (zld u 2 12 a1) (fun x1 => (if x1 = 3 then
some 2
else
if x1 = 4 then
some 3
else
some 1))
set_option maxHeartbeats 4000000 in
set_option maxRecDepth 100000 in
theorem c_X4_timesOf (a1 : Int32)   (u : zM) (r : Int32) (h : m_X4_timesOf a1 u = some r) : zCt 1 yX4_timesOf cX4_timesOf 2 (some .int) (fun E => [.ref (zad E 1), .int a1]) u (fun _ => some (.int r)) u := by
  refine zCt.of (by decide +kernel) (fun E => Nat.le_of_ble_eq_true rfl) (fun X hX hR => ?_)
  have hX : zGood X RX4 cX4_timesOf 2 1 := hX
  show zG X u 0 [(0, .ref (zad X.1 1)), (1, .int a1)] []
  unfold m_X4_timesOf at h
  refine r_aload_n hX dX4_timesOf_0 0 rfl rfl ?_
  refine r_getR hX dX4_timesOf_1 f_RX4_9 zr_1_0 ?_
  refine r_iload_n hX dX4_timesOf_4 1 rfl rfl ?_
  obtain ⟨x1, e2, h⟩ := zbind_elim h
  refine r_iald hX dX4_timesOf_5 rfl e2 ?_
  by_cases c3 : x1 = 3
  · have h := (if_pos c3).symm.trans h
    refine r_ls (off := 26) (tgt := 32) hX dX4_timesOf_6 (by decide) (by rw [c3]; decide +kernel) (by decide) ?_
    refine r_iconst (v := 2) hX dX4_timesOf_32 (by decide) ?_
    obtain rfl := Option.some.inj h
    exact r_iret hX hR dX4_timesOf_33
  have h := (if_neg c3).symm.trans h
  by_cases c4 : x1 = 4
  · have h := (if_pos c4).symm.trans h
    refine r_ls (off := 28) (tgt := 34) hX dX4_timesOf_6 (by decide) (by rw [c4]; decide +kernel) (by decide) ?_
    refine r_iconst (v := 3) hX dX4_timesOf_34 (by decide) ?_
    obtain rfl := Option.some.inj h
    exact r_iret hX hR dX4_timesOf_35
  have h := (if_neg c4).symm.trans h
  refine r_ls (off := 30) (tgt := 36) hX dX4_timesOf_6 (by decide) (zls_out x1 _ _ (fun q hq => by simp only [List.mem_cons, List.not_mem_nil, or_false] at hq; rcases hq with rfl | rfl <;> first | exact zi_ne c3 rfl | exact zi_ne c4 rfl)) (by decide) ?_
  refine r_iconst (v := 1) hX dX4_timesOf_36 (by decide) ?_
  obtain rfl := Option.some.inj h
  exact r_iret hX hR dX4_timesOf_37
theorem dX5_holds_0 : decode cX5_holds 0 = .ok (.iload_n 0, 1) := by decide +kernel
theorem dX5_holds_1 : decode cX5_holds 1 = .ok (.iload_n 1, 1) := by decide +kernel
theorem dX5_holds_2 : decode cX5_holds 2 = .ok (.ishr, 1) := by decide +kernel
theorem dX5_holds_3 : decode cX5_holds 3 = .ok (.iconst 1, 1) := by decide +kernel
theorem dX5_holds_4 : decode cX5_holds 4 = .ok (.iand, 1) := by decide +kernel
theorem dX5_holds_5 : decode cX5_holds 5 = .ok (.ifCond .eq 7, 3) := by decide +kernel
theorem dX5_holds_8 : decode cX5_holds 8 = .ok (.iconst 1, 1) := by decide +kernel
theorem dX5_holds_9 : decode cX5_holds 9 = .ok (.goto 4, 3) := by decide +kernel
theorem dX5_holds_12 : decode cX5_holds 12 = .ok (.iconst 0, 1) := by decide +kernel
theorem dX5_holds_13 : decode cX5_holds 13 = .ok (.ireturn, 1) := by decide +kernel
def m_X5_holds (a1 : Int32) (a2 : Int32) : Int32 :=
  (if ((zshr a1 a2) &&& 1) = 0 then
0
else
1)
set_option maxHeartbeats 4000000 in
set_option maxRecDepth 100000 in
theorem c_X5_holds (a1 : Int32) (a2 : Int32)   (u : zM) (r : Int32) (h : m_X5_holds a1 a2 = r) : zCt 1 yX5_holds cX5_holds 2 (some .boolean) (fun E => [.int a1, .int a2]) u (fun _ => some (.int r)) u := by
  refine zCt.of (by decide +kernel) (fun E => Nat.le_of_ble_eq_true rfl) (fun X hX hR => ?_)
  have hX : zGood X RX5 cX5_holds 2 1 := hX
  show zG X u 0 [(0, .int a1), (1, .int a2)] []
  unfold m_X5_holds at h
  refine r_iload_n hX dX5_holds_0 0 rfl rfl ?_
  refine r_iload_n hX dX5_holds_1 1 rfl rfl ?_
  refine r_ishr hX dX5_holds_2 ?_
  refine r_iconst (v := 1) hX dX5_holds_3 (by decide) ?_
  refine r_iand hX dX5_holds_4 ?_
  refine r_if_eq (tgt := 12) hX dX5_holds_5 (by decide) (fun c1 => ?_) (fun c1 => ?_)
  · have h := (if_pos c1).symm.trans h
    refine r_iconst (v := 0) hX dX5_holds_12 (by decide) ?_
    obtain rfl := h
    exact r_zret0 hX hR dX5_holds_13
  · have h := (if_neg c1).symm.trans h
    refine r_iconst (v := 1) hX dX5_holds_8 (by decide) ?_
    refine r_goto (tgt := 13) hX dX5_holds_9 (by decide) ?_
    obtain rfl := h
    exact r_zret1 hX hR dX5_holds_13
theorem dX4_isHere_0 : decode cX4_isHere 0 = .ok (.aload_n 0, 1) := by decide +kernel
theorem dX4_isHere_1 : decode cX4_isHere 1 = .ok (.getfield 34, 3) := by decide +kernel
theorem dX4_isHere_4 : decode cX4_isHere 4 = .ok (.iload_n 1, 1) := by decide +kernel
theorem dX4_isHere_5 : decode cX4_isHere 5 = .ok (.invokestatic 84, 3) := by decide +kernel
theorem dX4_isHere_8 : decode cX4_isHere 8 = .ok (.ireturn, 1) := by decide +kernel
def m_X4_isHere (a1 : Int32) (u : zM) : Int32 :=
  (zb (m_X5_holds (u 1 7) a1))
set_option maxHeartbeats 4000000 in
set_option maxRecDepth 100000 in
theorem c_X4_isHere (a1 : Int32)   (u : zM) (r : Int32) (h : m_X4_isHere a1 u = r) : zCt 2 yX4_isHere cX4_isHere 2 (some .boolean) (fun E => [.ref (zad E 1), .int a1]) u (fun _ => some (.int r)) u := by
  refine zCt.of (by decide +kernel) (fun E => Nat.le_of_ble_eq_true rfl) (fun X hX hR => ?_)
  have hX : zGood X RX4 cX4_isHere 2 2 := hX
  show zG X u 0 [(0, .ref (zad X.1 1)), (1, .int a1)] []
  unfold m_X4_isHere at h
  refine r_aload_n hX dX4_isHere_0 0 rfl rfl ?_
  refine r_getI hX dX4_isHere_1 f_RX4_34 zi_1_7 ?_
  refine r_iload_n hX dX4_isHere_4 1 rfl rfl ?_
  refine r_callS (As := [.int (u 1 7), .int a1]) (rest := []) (st1 := [.int (m_X5_holds (u 1 7) a1)]) hX dX4_isHere_5 ls_RX4_84 (c_X5_holds (u 1 7) a1  u _ rfl) (by decide) rfl rfl rfl (Nat.le_of_ble_eq_true rfl) rfl ?_
  obtain rfl := h
  exact r_zret hX hR dX4_isHere_8
theorem dX4_tell_0 : decode cX4_tell 0 = .ok (.iload_n 2, 1) := by decide +kernel
theorem dX4_tell_1 : decode cX4_tell 1 = .ok (.bipush 8, 2) := by decide +kernel
theorem dX4_tell_3 : decode cX4_tell 3 = .ok (.if_icmp .lt 13, 3) := by decide +kernel
theorem dX4_tell_6 : decode cX4_tell 6 = .ok (.aload_n 0, 1) := by decide +kernel
theorem dX4_tell_7 : decode cX4_tell 7 = .ok (.iload_n 1, 1) := by decide +kernel
theorem dX4_tell_8 : decode cX4_tell 8 = .ok (.iload_n 2, 1) := by decide +kernel
theorem dX4_tell_9 : decode cX4_tell 9 = .ok (.bipush 8, 2) := by decide +kernel
theorem dX4_tell_11 : decode cX4_tell 11 = .ok (.isub, 1) := by decide +kernel
theorem dX4_tell_12 : decode cX4_tell 12 = .ok (.invokevirtual 58, 3) := by decide +kernel
theorem dX4_tell_15 : decode cX4_tell 15 = .ok (.ireturn, 1) := by decide +kernel
theorem dX4_tell_16 : decode cX4_tell 16 = .ok (.iload_n 2, 1) := by decide +kernel
theorem dX4_tell_17 : decode cX4_tell 17 = .ok (.tableswitch 88 0 7 #[47, 88, 88, 88, 54, 61, 68, 82], 47) := by decide +kernel
theorem dX4_tell_64 : decode cX4_tell 64 = .ok (.aload_n 0, 1) := by decide +kernel
theorem dX4_tell_65 : decode cX4_tell 65 = .ok (.getfield 9, 3) := by decide +kernel
theorem dX4_tell_68 : decode cX4_tell 68 = .ok (.iload_n 1, 1) := by decide +kernel
theorem dX4_tell_69 : decode cX4_tell 69 = .ok (.iaload, 1) := by decide +kernel
theorem dX4_tell_70 : decode cX4_tell 70 = .ok (.ireturn, 1) := by decide +kernel
theorem dX4_tell_71 : decode cX4_tell 71 = .ok (.aload_n 0, 1) := by decide +kernel
theorem dX4_tell_72 : decode cX4_tell 72 = .ok (.getfield 18, 3) := by decide +kernel
theorem dX4_tell_75 : decode cX4_tell 75 = .ok (.iload_n 1, 1) := by decide +kernel
theorem dX4_tell_76 : decode cX4_tell 76 = .ok (.iaload, 1) := by decide +kernel
theorem dX4_tell_77 : decode cX4_tell 77 = .ok (.ireturn, 1) := by decide +kernel
theorem dX4_tell_78 : decode cX4_tell 78 = .ok (.aload_n 0, 1) := by decide +kernel
theorem dX4_tell_79 : decode cX4_tell 79 = .ok (.getfield 21, 3) := by decide +kernel
theorem dX4_tell_82 : decode cX4_tell 82 = .ok (.iload_n 1, 1) := by decide +kernel
theorem dX4_tell_83 : decode cX4_tell 83 = .ok (.iaload, 1) := by decide +kernel
theorem dX4_tell_84 : decode cX4_tell 84 = .ok (.ireturn, 1) := by decide +kernel
theorem dX4_tell_85 : decode cX4_tell 85 = .ok (.aload_n 0, 1) := by decide +kernel
theorem dX4_tell_86 : decode cX4_tell 86 = .ok (.iload_n 1, 1) := by decide +kernel
theorem dX4_tell_87 : decode cX4_tell 87 = .ok (.invokevirtual 62, 3) := by decide +kernel
theorem dX4_tell_90 : decode cX4_tell 90 = .ok (.ifCond .eq 7, 3) := by decide +kernel
theorem dX4_tell_93 : decode cX4_tell 93 = .ok (.iconst 1, 1) := by decide +kernel
theorem dX4_tell_94 : decode cX4_tell 94 = .ok (.goto 4, 3) := by decide +kernel
theorem dX4_tell_97 : decode cX4_tell 97 = .ok (.iconst 0, 1) := by decide +kernel
theorem dX4_tell_98 : decode cX4_tell 98 = .ok (.ireturn, 1) := by decide +kernel
theorem dX4_tell_99 : decode cX4_tell 99 = .ok (.aload_n 0, 1) := by decide +kernel
theorem dX4_tell_100 : decode cX4_tell 100 = .ok (.iload_n 1, 1) := by decide +kernel
theorem dX4_tell_101 : decode cX4_tell 101 = .ok (.invokevirtual 66, 3) := by decide +kernel
theorem dX4_tell_104 : decode cX4_tell 104 = .ok (.ireturn, 1) := by decide +kernel
theorem dX4_tell_105 : decode cX4_tell 105 = .ok (.aload_n 0, 1) := by decide +kernel
theorem dX4_tell_106 : decode cX4_tell 106 = .ok (.iload_n 1, 1) := by decide +kernel
theorem dX4_tell_107 : decode cX4_tell 107 = .ok (.iload_n 2, 1) := by decide +kernel
theorem dX4_tell_108 : decode cX4_tell 108 = .ok (.iconst 1, 1) := by decide +kernel
theorem dX4_tell_109 : decode cX4_tell 109 = .ok (.isub, 1) := by decide +kernel
theorem dX4_tell_110 : decode cX4_tell 110 = .ok (.invokevirtual 70, 3) := by decide +kernel
theorem dX4_tell_113 : decode cX4_tell 113 = .ok (.ireturn, 1) := by decide +kernel
def m_X4_tell (a1 : Int32) (a2 : Int32) (u : zM) : Option (Int32) :=
  (if a2 < 8 then
(if a2 = 0 then
zbind (zld u 2 12 a1) (fun x3 => some x3)
else
if a2 = 1 then
zbind (m_X4_inchesOf a1 (a2 - 1) u) (fun x6 => some x6)
else
if a2 = 2 then
zbind (m_X4_inchesOf a1 (a2 - 1) u) (fun x9 => some x9)
else
if a2 = 3 then
zbind (m_X4_inchesOf a1 (a2 - 1) u) (fun x12 => some x12)
else
if a2 = 4 then
zbind (zld u 4 12 a1) (fun x15 => some x15)
else
if a2 = 5 then
zbind (zld u 5 12 a1) (fun x18 => some x18)
else
if a2 = 6 then
(if (m_X4_isHere a1 u) = 0 then
some 0
else
some 1)
else
if a2 = 7 then
zbind (m_X4_timesOf a1 u) (fun x23 => some x23)
else
zbind (m_X4_inchesOf a1 (a2 - 1) u) (fun x25 => some x25))
else
zbind (m_X4_measuredOf a1 (a2 - 8) u) (fun x27 => some x27))
set_option maxHeartbeats 4000000 in
set_option maxRecDepth 100000 in
theorem c_X4_tell (a1 : Int32) (a2 : Int32)   (u : zM) (r : Int32) (h : m_X4_tell a1 a2 u = some r) : zCt 5 yX4_tell cX4_tell 3 (some .int) (fun E => [.ref (zad E 1), .int a1, .int a2]) u (fun _ => some (.int r)) u := by
  refine zCt.of (by decide +kernel) (fun E => Nat.le_of_ble_eq_true rfl) (fun X hX hR => ?_)
  have hX : zGood X RX4 cX4_tell 3 5 := hX
  show zG X u 0 [(0, .ref (zad X.1 1)), (1, .int a1), (2, .int a2)] []
  unfold m_X4_tell at h
  refine r_iload_n hX dX4_tell_0 2 rfl rfl ?_
  refine r_bipush (v := 8) hX dX4_tell_1 (by decide) ?_
  refine r_icmp_lt (tgt := 16) hX dX4_tell_3 (by decide) (fun c1 => ?_) (fun c1 => ?_)
  · have h := (if_pos c1).symm.trans h
    refine r_iload_n hX dX4_tell_16 2 rfl rfl ?_
    by_cases c2 : a2 = 0
    · have h := (if_pos c2).symm.trans h
      refine r_tsIn (v := 0) (off := 47) (tgt := 64) hX dX4_tell_17 c2 (by decide) (by decide) (by decide +kernel) (by decide) ?_
      refine r_aload_n hX dX4_tell_64 0 rfl rfl ?_
      refine r_getR hX dX4_tell_65 f_RX4_9 zr_1_0 ?_
      refine r_iload_n hX dX4_tell_68 1 rfl rfl ?_
      obtain ⟨x3, e4, h⟩ := zbind_elim h
      refine r_iald hX dX4_tell_69 rfl e4 ?_
      obtain rfl := Option.some.inj h
      exact r_iret hX hR dX4_tell_70
    have h := (if_neg c2).symm.trans h
    by_cases c5 : a2 = 1
    · have h := (if_pos c5).symm.trans h
      refine r_tsIn (v := 1) (off := 88) (tgt := 105) hX dX4_tell_17 c5 (by decide) (by decide) (by decide +kernel) (by decide) ?_
      refine r_aload_n hX dX4_tell_105 0 rfl rfl ?_
      refine r_iload_n hX dX4_tell_106 1 rfl rfl ?_
      refine r_iload_n hX dX4_tell_107 2 rfl rfl ?_
      refine r_iconst (v := 1) hX dX4_tell_108 (by decide) ?_
      refine r_isub hX dX4_tell_109 ?_
      obtain ⟨x6, e7, h⟩ := zbind_elim h
      refine r_callV (As := [.int a1, .int (a2 - 1)]) (rest := []) (st1 := [.int x6]) hX dX4_tell_110 lv_RX4_70 (c_X4_inchesOf a1 (a2 - 1)  u _ e7) (by decide) rfl rfl (zRecv.of (q := 1) (ci := 4) rfl rfl) rfl (Nat.le_of_ble_eq_true rfl) rfl ?_
      obtain rfl := Option.some.inj h
      exact r_iret hX hR dX4_tell_113
    have h := (if_neg c5).symm.trans h
    by_cases c8 : a2 = 2
    · have h := (if_pos c8).symm.trans h
      refine r_tsIn (v := 2) (off := 88) (tgt := 105) hX dX4_tell_17 c8 (by decide) (by decide) (by decide +kernel) (by decide) ?_
      refine r_aload_n hX dX4_tell_105 0 rfl rfl ?_
      refine r_iload_n hX dX4_tell_106 1 rfl rfl ?_
      refine r_iload_n hX dX4_tell_107 2 rfl rfl ?_
      refine r_iconst (v := 1) hX dX4_tell_108 (by decide) ?_
      refine r_isub hX dX4_tell_109 ?_
      obtain ⟨x9, e10, h⟩ := zbind_elim h
      refine r_callV (As := [.int a1, .int (a2 - 1)]) (rest := []) (st1 := [.int x9]) hX dX4_tell_110 lv_RX4_70 (c_X4_inchesOf a1 (a2 - 1)  u _ e10) (by decide) rfl rfl (zRecv.of (q := 1) (ci := 4) rfl rfl) rfl (Nat.le_of_ble_eq_true rfl) rfl ?_
      obtain rfl := Option.some.inj h
      exact r_iret hX hR dX4_tell_113
    have h := (if_neg c8).symm.trans h
    by_cases c11 : a2 = 3
    · have h := (if_pos c11).symm.trans h
      refine r_tsIn (v := 3) (off := 88) (tgt := 105) hX dX4_tell_17 c11 (by decide) (by decide) (by decide +kernel) (by decide) ?_
      refine r_aload_n hX dX4_tell_105 0 rfl rfl ?_
      refine r_iload_n hX dX4_tell_106 1 rfl rfl ?_
      refine r_iload_n hX dX4_tell_107 2 rfl rfl ?_
      refine r_iconst (v := 1) hX dX4_tell_108 (by decide) ?_
      refine r_isub hX dX4_tell_109 ?_
      obtain ⟨x12, e13, h⟩ := zbind_elim h
      refine r_callV (As := [.int a1, .int (a2 - 1)]) (rest := []) (st1 := [.int x12]) hX dX4_tell_110 lv_RX4_70 (c_X4_inchesOf a1 (a2 - 1)  u _ e13) (by decide) rfl rfl (zRecv.of (q := 1) (ci := 4) rfl rfl) rfl (Nat.le_of_ble_eq_true rfl) rfl ?_
      obtain rfl := Option.some.inj h
      exact r_iret hX hR dX4_tell_113
    have h := (if_neg c11).symm.trans h
    by_cases c14 : a2 = 4
    · have h := (if_pos c14).symm.trans h
      refine r_tsIn (v := 4) (off := 54) (tgt := 71) hX dX4_tell_17 c14 (by decide) (by decide) (by decide +kernel) (by decide) ?_
      refine r_aload_n hX dX4_tell_71 0 rfl rfl ?_
      refine r_getR hX dX4_tell_72 f_RX4_18 zr_1_2 ?_
      refine r_iload_n hX dX4_tell_75 1 rfl rfl ?_
      obtain ⟨x15, e16, h⟩ := zbind_elim h
      refine r_iald hX dX4_tell_76 rfl e16 ?_
      obtain rfl := Option.some.inj h
      exact r_iret hX hR dX4_tell_77
    have h := (if_neg c14).symm.trans h
    by_cases c17 : a2 = 5
    · have h := (if_pos c17).symm.trans h
      refine r_tsIn (v := 5) (off := 61) (tgt := 78) hX dX4_tell_17 c17 (by decide) (by decide) (by decide +kernel) (by decide) ?_
      refine r_aload_n hX dX4_tell_78 0 rfl rfl ?_
      refine r_getR hX dX4_tell_79 f_RX4_21 zr_1_3 ?_
      refine r_iload_n hX dX4_tell_82 1 rfl rfl ?_
      obtain ⟨x18, e19, h⟩ := zbind_elim h
      refine r_iald hX dX4_tell_83 rfl e19 ?_
      obtain rfl := Option.some.inj h
      exact r_iret hX hR dX4_tell_84
    have h := (if_neg c17).symm.trans h
    by_cases c20 : a2 = 6
    · have h := (if_pos c20).symm.trans h
      refine r_tsIn (v := 6) (off := 68) (tgt := 85) hX dX4_tell_17 c20 (by decide) (by decide) (by decide +kernel) (by decide) ?_
      refine r_aload_n hX dX4_tell_85 0 rfl rfl ?_
      refine r_iload_n hX dX4_tell_86 1 rfl rfl ?_
      refine r_callV (As := [.int a1]) (rest := []) (st1 := [.int (m_X4_isHere a1 u)]) hX dX4_tell_87 lv_RX4_62 (c_X4_isHere a1  u _ rfl) (by decide) rfl rfl (zRecv.of (q := 1) (ci := 4) rfl rfl) rfl (Nat.le_of_ble_eq_true rfl) rfl ?_
      refine r_if_eq (tgt := 97) hX dX4_tell_90 (by decide) (fun c21 => ?_) (fun c21 => ?_)
      · have h := (if_pos c21).symm.trans h
        refine r_iconst (v := 0) hX dX4_tell_97 (by decide) ?_
        obtain rfl := Option.some.inj h
        exact r_iret hX hR dX4_tell_98
      · have h := (if_neg c21).symm.trans h
        refine r_iconst (v := 1) hX dX4_tell_93 (by decide) ?_
        refine r_goto (tgt := 98) hX dX4_tell_94 (by decide) ?_
        obtain rfl := Option.some.inj h
        exact r_iret hX hR dX4_tell_98
    have h := (if_neg c20).symm.trans h
    by_cases c22 : a2 = 7
    · have h := (if_pos c22).symm.trans h
      refine r_tsIn (v := 7) (off := 82) (tgt := 99) hX dX4_tell_17 c22 (by decide) (by decide) (by decide +kernel) (by decide) ?_
      refine r_aload_n hX dX4_tell_99 0 rfl rfl ?_
      refine r_iload_n hX dX4_tell_100 1 rfl rfl ?_
      obtain ⟨x23, e24, h⟩ := zbind_elim h
      refine r_callV (As := [.int a1]) (rest := []) (st1 := [.int x23]) hX dX4_tell_101 lv_RX4_66 (c_X4_timesOf a1  u _ e24) (by decide) rfl rfl (zRecv.of (q := 1) (ci := 4) rfl rfl) rfl (Nat.le_of_ble_eq_true rfl) rfl ?_
      obtain rfl := Option.some.inj h
      exact r_iret hX hR dX4_tell_104
    have h := (if_neg c22).symm.trans h
    refine r_tsOut (tgt := 105) hX dX4_tell_17 (by first | exact zts_out a2 0 (by decide) 8 (by decide) (fun k hk => match k, hk with | 0, _ => c2 | 1, _ => c5 | 2, _ => c8 | 3, _ => c11 | 4, _ => c14 | 5, _ => c17 | 6, _ => c20 | 7, _ => c22 | k + 8, hk => absurd hk (by omega))) (by decide) ?_
    refine r_aload_n hX dX4_tell_105 0 rfl rfl ?_
    refine r_iload_n hX dX4_tell_106 1 rfl rfl ?_
    refine r_iload_n hX dX4_tell_107 2 rfl rfl ?_
    refine r_iconst (v := 1) hX dX4_tell_108 (by decide) ?_
    refine r_isub hX dX4_tell_109 ?_
    obtain ⟨x25, e26, h⟩ := zbind_elim h
    refine r_callV (As := [.int a1, .int (a2 - 1)]) (rest := []) (st1 := [.int x25]) hX dX4_tell_110 lv_RX4_70 (c_X4_inchesOf a1 (a2 - 1)  u _ e26) (by decide) rfl rfl (zRecv.of (q := 1) (ci := 4) rfl rfl) rfl (Nat.le_of_ble_eq_true rfl) rfl ?_
    obtain rfl := Option.some.inj h
    exact r_iret hX hR dX4_tell_113
  · have h := (if_neg c1).symm.trans h
    refine r_aload_n hX dX4_tell_6 0 rfl rfl ?_
    refine r_iload_n hX dX4_tell_7 1 rfl rfl ?_
    refine r_iload_n hX dX4_tell_8 2 rfl rfl ?_
    refine r_bipush (v := 8) hX dX4_tell_9 (by decide) ?_
    refine r_isub hX dX4_tell_11 ?_
    obtain ⟨x27, e28, h⟩ := zbind_elim h
    refine r_callV (As := [.int a1, .int (a2 - 8)]) (rest := []) (st1 := [.int x27]) hX dX4_tell_12 lv_RX4_58 (c_X4_measuredOf a1 (a2 - 8)  u _ e28) (by decide) rfl rfl (zRecv.of (q := 1) (ci := 4) rfl rfl) rfl (Nat.le_of_ble_eq_true rfl) rfl ?_
    obtain rfl := Option.some.inj h
    exact r_iret hX hR dX4_tell_15
end
section
/-! MODELS AND CONTRACTS, by program (wip/whole/gen_all.py): X5_bodyOf, X4_mayBecome, X4_setInches, X4_put, X5_change, X5_here, X5_rule, X5_ease, X5_price, X5_famine, X5_isMeasure -/
theorem dX5_bodyOf_0 : decode cX5_bodyOf 0 = .ok (.aload_n 0, 1) := by decide +kernel
theorem dX5_bodyOf_1 : decode cX5_bodyOf 1 = .ok (.iload_n 1, 1) := by decide +kernel
theorem dX5_bodyOf_2 : decode cX5_bodyOf 2 = .ok (.invokevirtual 77, 3) := by decide +kernel
theorem dX5_bodyOf_5 : decode cX5_bodyOf 5 = .ok (.ifCond .eq 13, 3) := by decide +kernel
theorem dX5_bodyOf_8 : decode cX5_bodyOf 8 = .ok (.iload_n 2, 1) := by decide +kernel
theorem dX5_bodyOf_9 : decode cX5_bodyOf 9 = .ok (.iconst 0, 1) := by decide +kernel
theorem dX5_bodyOf_10 : decode cX5_bodyOf 10 = .ok (.bipush 10, 2) := by decide +kernel
theorem dX5_bodyOf_12 : decode cX5_bodyOf 12 = .ok (.invokestatic 80, 3) := by decide +kernel
theorem dX5_bodyOf_15 : decode cX5_bodyOf 15 = .ok (.ifCond .ne 9, 3) := by decide +kernel
theorem dX5_bodyOf_18 : decode cX5_bodyOf 18 = .ok (.aload_n 0, 1) := by decide +kernel
theorem dX5_bodyOf_19 : decode cX5_bodyOf 19 = .ok (.iconst 0, 1) := by decide +kernel
theorem dX5_bodyOf_20 : decode cX5_bodyOf 20 = .ok (.invokevirtual 65, 3) := by decide +kernel
theorem dX5_bodyOf_23 : decode cX5_bodyOf 23 = .ok (.ireturn, 1) := by decide +kernel
theorem dX5_bodyOf_24 : decode cX5_bodyOf 24 = .ok (.aload_n 0, 1) := by decide +kernel
theorem dX5_bodyOf_25 : decode cX5_bodyOf 25 = .ok (.getfield 10, 3) := by decide +kernel
theorem dX5_bodyOf_28 : decode cX5_bodyOf 28 = .ok (.iload_n 1, 1) := by decide +kernel
theorem dX5_bodyOf_29 : decode cX5_bodyOf 29 = .ok (.iload_n 2, 1) := by decide +kernel
theorem dX5_bodyOf_30 : decode cX5_bodyOf 30 = .ok (.invokevirtual 84, 3) := by decide +kernel
theorem dX5_bodyOf_33 : decode cX5_bodyOf 33 = .ok (.ireturn, 1) := by decide +kernel
def m_X5_bodyOf (a1 : Int32) (a2 : Int32) (u : zM) : Option (Int32 × zM) :=
  (if (m_X5_isBody a1 u) = 0 then
zbind2 (m_X5_finding 0 u) (fun x2 u3 => some (x2, u3))
else
(if (m_X5_within a2 0 10) = 0 then
zbind2 (m_X5_finding 0 u) (fun x8 u9 => some (x8, u9))
else
zbind (m_X4_tell a1 a2 u) (fun x6 => some (x6, u))))
set_option maxHeartbeats 4000000 in
set_option maxRecDepth 100000 in
theorem c_X5_bodyOf (a1 : Int32) (a2 : Int32)   (u : zM) (r : Int32) (u' : zM) (h : m_X5_bodyOf a1 a2 u = some (r, u')) : zCt 6 yX5_bodyOf cX5_bodyOf 3 (some .int) (fun E => [.ref (zad E 0), .int a1, .int a2]) u (fun _ => some (.int r)) u' := by
  refine zCt.of (by decide +kernel) (fun E => Nat.le_of_ble_eq_true rfl) (fun X hX hR => ?_)
  have hX : zGood X RX5 cX5_bodyOf 3 6 := hX
  show zG X u 0 [(0, .ref (zad X.1 0)), (1, .int a1), (2, .int a2)] []
  unfold m_X5_bodyOf at h
  refine r_aload_n hX dX5_bodyOf_0 0 rfl rfl ?_
  refine r_iload_n hX dX5_bodyOf_1 1 rfl rfl ?_
  refine r_callV (As := [.int a1]) (rest := []) (st1 := [.int (m_X5_isBody a1 u)]) hX dX5_bodyOf_2 lv_RX5_77 (c_X5_isBody a1  u _ rfl) (by decide) rfl rfl (zRecv.of (q := 0) (ci := 5) rfl rfl) rfl (Nat.le_of_ble_eq_true rfl) rfl ?_
  refine r_if_eq (tgt := 18) hX dX5_bodyOf_5 (by decide) (fun c1 => ?_) (fun c1 => ?_)
  · have h := (if_pos c1).symm.trans h
    refine r_aload_n hX dX5_bodyOf_18 0 rfl rfl ?_
    refine r_iconst (v := 0) hX dX5_bodyOf_19 (by decide) ?_
    obtain ⟨x2, u3, e4, h⟩ := zbind2_elim h
    refine r_callV (As := [.int 0]) (rest := []) (st1 := [.int x2]) hX dX5_bodyOf_20 lv_RX5_65 (c_X5_finding 0  u _ _ e4) (by decide) rfl rfl (zRecv.of (q := 0) (ci := 5) rfl rfl) rfl (Nat.le_of_ble_eq_true rfl) rfl ?_
    obtain ⟨rfl, rfl⟩ := zinj2 (Option.some.inj h)
    exact r_iret hX hR dX5_bodyOf_23
  · have h := (if_neg c1).symm.trans h
    refine r_iload_n hX dX5_bodyOf_8 2 rfl rfl ?_
    refine r_iconst (v := 0) hX dX5_bodyOf_9 (by decide) ?_
    refine r_bipush (v := 10) hX dX5_bodyOf_10 (by decide) ?_
    refine r_callS (As := [.int a2, .int 0, .int 10]) (rest := []) (st1 := [.int (m_X5_within a2 0 10)]) hX dX5_bodyOf_12 ls_RX5_80 (c_X5_within a2 0 10  u _ rfl) (by decide) rfl rfl rfl (Nat.le_of_ble_eq_true rfl) rfl ?_
    refine r_if_ne (tgt := 24) hX dX5_bodyOf_15 (by decide) (fun c5 => ?_) (fun c5 => ?_)
    · have h := (if_neg c5).symm.trans h
      refine r_aload_n hX dX5_bodyOf_24 0 rfl rfl ?_
      refine r_getR hX dX5_bodyOf_25 f_RX5_10 zr_0_0 ?_
      refine r_iload_n hX dX5_bodyOf_28 1 rfl rfl ?_
      refine r_iload_n hX dX5_bodyOf_29 2 rfl rfl ?_
      obtain ⟨x6, e7, h⟩ := zbind_elim h
      refine r_callV (As := [.int a1, .int a2]) (rest := []) (st1 := [.int x6]) hX dX5_bodyOf_30 lv_RX5_84 (c_X4_tell a1 a2  u _ e7) (by decide) rfl rfl (zRecv.of (q := 1) (ci := 4) rfl rfl) rfl (Nat.le_of_ble_eq_true rfl) rfl ?_
      obtain ⟨rfl, rfl⟩ := zinj2 (Option.some.inj h)
      exact r_iret hX hR dX5_bodyOf_33
    · have h := (if_pos c5).symm.trans h
      refine r_aload_n hX dX5_bodyOf_18 0 rfl rfl ?_
      refine r_iconst (v := 0) hX dX5_bodyOf_19 (by decide) ?_
      obtain ⟨x8, u9, e10, h⟩ := zbind2_elim h
      refine r_callV (As := [.int 0]) (rest := []) (st1 := [.int x8]) hX dX5_bodyOf_20 lv_RX5_65 (c_X5_finding 0  u _ _ e10) (by decide) rfl rfl (zRecv.of (q := 0) (ci := 5) rfl rfl) rfl (Nat.le_of_ble_eq_true rfl) rfl ?_
      obtain ⟨rfl, rfl⟩ := zinj2 (Option.some.inj h)
      exact r_iret hX hR dX5_bodyOf_23
theorem dX4_mayBecome_0 : decode cX4_mayBecome 0 = .ok (.iload_n 0, 1) := by decide +kernel
theorem dX4_mayBecome_1 : decode cX4_mayBecome 1 = .ok (.tableswitch 71 0 5 #[39, 44, 44, 44, 54, 63], 39) := by decide +kernel
theorem dX4_mayBecome_40 : decode cX4_mayBecome 40 = .ok (.iload_n 1, 1) := by decide +kernel
theorem dX4_mayBecome_41 : decode cX4_mayBecome 41 = .ok (.invokestatic 73, 3) := by decide +kernel
theorem dX4_mayBecome_44 : decode cX4_mayBecome 44 = .ok (.ireturn, 1) := by decide +kernel
theorem dX4_mayBecome_45 : decode cX4_mayBecome 45 = .ok (.iload_n 1, 1) := by decide +kernel
theorem dX4_mayBecome_46 : decode cX4_mayBecome 46 = .ok (.bipush 50, 2) := by decide +kernel
theorem dX4_mayBecome_48 : decode cX4_mayBecome 48 = .ok (.sipush 250, 3) := by decide +kernel
theorem dX4_mayBecome_51 : decode cX4_mayBecome 51 = .ok (.invokestatic 76, 3) := by decide +kernel
theorem dX4_mayBecome_54 : decode cX4_mayBecome 54 = .ok (.ireturn, 1) := by decide +kernel
theorem dX4_mayBecome_55 : decode cX4_mayBecome 55 = .ok (.iload_n 1, 1) := by decide +kernel
theorem dX4_mayBecome_56 : decode cX4_mayBecome 56 = .ok (.bipush (-20), 2) := by decide +kernel
theorem dX4_mayBecome_58 : decode cX4_mayBecome 58 = .ok (.bipush 20, 2) := by decide +kernel
theorem dX4_mayBecome_60 : decode cX4_mayBecome 60 = .ok (.invokestatic 76, 3) := by decide +kernel
theorem dX4_mayBecome_63 : decode cX4_mayBecome 63 = .ok (.ireturn, 1) := by decide +kernel
theorem dX4_mayBecome_64 : decode cX4_mayBecome 64 = .ok (.iload_n 1, 1) := by decide +kernel
theorem dX4_mayBecome_65 : decode cX4_mayBecome 65 = .ok (.iconst 0, 1) := by decide +kernel
theorem dX4_mayBecome_66 : decode cX4_mayBecome 66 = .ok (.bipush 99, 2) := by decide +kernel
theorem dX4_mayBecome_68 : decode cX4_mayBecome 68 = .ok (.invokestatic 76, 3) := by decide +kernel
theorem dX4_mayBecome_71 : decode cX4_mayBecome 71 = .ok (.ireturn, 1) := by decide +kernel
theorem dX4_mayBecome_72 : decode cX4_mayBecome 72 = .ok (.iconst 0, 1) := by decide +kernel
theorem dX4_mayBecome_73 : decode cX4_mayBecome 73 = .ok (.ireturn, 1) := by decide +kernel
def m_X4_mayBecome (a1 : Int32) (a2 : Int32) : Int32 :=
  (if a1 = 0 then
(zb (m_X5_isKind a2))
else
if a1 = 1 then
(zb (m_X5_within a2 50 250))
else
if a1 = 2 then
(zb (m_X5_within a2 50 250))
else
if a1 = 3 then
(zb (m_X5_within a2 50 250))
else
if a1 = 4 then
(zb (m_X5_within a2 (-20) 20))
else
if a1 = 5 then
(zb (m_X5_within a2 0 99))
else
0)
set_option maxHeartbeats 4000000 in
set_option maxRecDepth 100000 in
theorem c_X4_mayBecome (a1 : Int32) (a2 : Int32)   (u : zM) (r : Int32) (h : m_X4_mayBecome a1 a2 = r) : zCt 3 yX4_mayBecome cX4_mayBecome 2 (some .boolean) (fun E => [.int a1, .int a2]) u (fun _ => some (.int r)) u := by
  refine zCt.of (by decide +kernel) (fun E => Nat.le_of_ble_eq_true rfl) (fun X hX hR => ?_)
  have hX : zGood X RX4 cX4_mayBecome 2 3 := hX
  show zG X u 0 [(0, .int a1), (1, .int a2)] []
  unfold m_X4_mayBecome at h
  refine r_iload_n hX dX4_mayBecome_0 0 rfl rfl ?_
  by_cases c1 : a1 = 0
  · have h := (if_pos c1).symm.trans h
    refine r_tsIn (v := 0) (off := 39) (tgt := 40) hX dX4_mayBecome_1 c1 (by decide) (by decide) (by decide +kernel) (by decide) ?_
    refine r_iload_n hX dX4_mayBecome_40 1 rfl rfl ?_
    refine r_callS (As := [.int a2]) (rest := []) (st1 := [.int (m_X5_isKind a2)]) hX dX4_mayBecome_41 ls_RX4_73 (c_X5_isKind a2  u _ rfl) (by decide) rfl rfl rfl (Nat.le_of_ble_eq_true rfl) rfl ?_
    obtain rfl := h
    exact r_zret hX hR dX4_mayBecome_44
  have h := (if_neg c1).symm.trans h
  by_cases c2 : a1 = 1
  · have h := (if_pos c2).symm.trans h
    refine r_tsIn (v := 1) (off := 44) (tgt := 45) hX dX4_mayBecome_1 c2 (by decide) (by decide) (by decide +kernel) (by decide) ?_
    refine r_iload_n hX dX4_mayBecome_45 1 rfl rfl ?_
    refine r_bipush (v := 50) hX dX4_mayBecome_46 (by decide) ?_
    refine r_sipush (v := 250) hX dX4_mayBecome_48 (by decide) ?_
    refine r_callS (As := [.int a2, .int 50, .int 250]) (rest := []) (st1 := [.int (m_X5_within a2 50 250)]) hX dX4_mayBecome_51 ls_RX4_76 (c_X5_within a2 50 250  u _ rfl) (by decide) rfl rfl rfl (Nat.le_of_ble_eq_true rfl) rfl ?_
    obtain rfl := h
    exact r_zret hX hR dX4_mayBecome_54
  have h := (if_neg c2).symm.trans h
  by_cases c3 : a1 = 2
  · have h := (if_pos c3).symm.trans h
    refine r_tsIn (v := 2) (off := 44) (tgt := 45) hX dX4_mayBecome_1 c3 (by decide) (by decide) (by decide +kernel) (by decide) ?_
    refine r_iload_n hX dX4_mayBecome_45 1 rfl rfl ?_
    refine r_bipush (v := 50) hX dX4_mayBecome_46 (by decide) ?_
    refine r_sipush (v := 250) hX dX4_mayBecome_48 (by decide) ?_
    refine r_callS (As := [.int a2, .int 50, .int 250]) (rest := []) (st1 := [.int (m_X5_within a2 50 250)]) hX dX4_mayBecome_51 ls_RX4_76 (c_X5_within a2 50 250  u _ rfl) (by decide) rfl rfl rfl (Nat.le_of_ble_eq_true rfl) rfl ?_
    obtain rfl := h
    exact r_zret hX hR dX4_mayBecome_54
  have h := (if_neg c3).symm.trans h
  by_cases c4 : a1 = 3
  · have h := (if_pos c4).symm.trans h
    refine r_tsIn (v := 3) (off := 44) (tgt := 45) hX dX4_mayBecome_1 c4 (by decide) (by decide) (by decide +kernel) (by decide) ?_
    refine r_iload_n hX dX4_mayBecome_45 1 rfl rfl ?_
    refine r_bipush (v := 50) hX dX4_mayBecome_46 (by decide) ?_
    refine r_sipush (v := 250) hX dX4_mayBecome_48 (by decide) ?_
    refine r_callS (As := [.int a2, .int 50, .int 250]) (rest := []) (st1 := [.int (m_X5_within a2 50 250)]) hX dX4_mayBecome_51 ls_RX4_76 (c_X5_within a2 50 250  u _ rfl) (by decide) rfl rfl rfl (Nat.le_of_ble_eq_true rfl) rfl ?_
    obtain rfl := h
    exact r_zret hX hR dX4_mayBecome_54
  have h := (if_neg c4).symm.trans h
  by_cases c5 : a1 = 4
  · have h := (if_pos c5).symm.trans h
    refine r_tsIn (v := 4) (off := 54) (tgt := 55) hX dX4_mayBecome_1 c5 (by decide) (by decide) (by decide +kernel) (by decide) ?_
    refine r_iload_n hX dX4_mayBecome_55 1 rfl rfl ?_
    refine r_bipush (v := (-20)) hX dX4_mayBecome_56 (by decide) ?_
    refine r_bipush (v := 20) hX dX4_mayBecome_58 (by decide) ?_
    refine r_callS (As := [.int a2, .int (-20), .int 20]) (rest := []) (st1 := [.int (m_X5_within a2 (-20) 20)]) hX dX4_mayBecome_60 ls_RX4_76 (c_X5_within a2 (-20) 20  u _ rfl) (by decide) rfl rfl rfl (Nat.le_of_ble_eq_true rfl) rfl ?_
    obtain rfl := h
    exact r_zret hX hR dX4_mayBecome_63
  have h := (if_neg c5).symm.trans h
  by_cases c6 : a1 = 5
  · have h := (if_pos c6).symm.trans h
    refine r_tsIn (v := 5) (off := 63) (tgt := 64) hX dX4_mayBecome_1 c6 (by decide) (by decide) (by decide +kernel) (by decide) ?_
    refine r_iload_n hX dX4_mayBecome_64 1 rfl rfl ?_
    refine r_iconst (v := 0) hX dX4_mayBecome_65 (by decide) ?_
    refine r_bipush (v := 99) hX dX4_mayBecome_66 (by decide) ?_
    refine r_callS (As := [.int a2, .int 0, .int 99]) (rest := []) (st1 := [.int (m_X5_within a2 0 99)]) hX dX4_mayBecome_68 ls_RX4_76 (c_X5_within a2 0 99  u _ rfl) (by decide) rfl rfl rfl (Nat.le_of_ble_eq_true rfl) rfl ?_
    obtain rfl := h
    exact r_zret hX hR dX4_mayBecome_71
  have h := (if_neg c6).symm.trans h
  refine r_tsOut (tgt := 72) hX dX4_mayBecome_1 (by first | exact zts_out a1 0 (by decide) 6 (by decide) (fun k hk => match k, hk with | 0, _ => c1 | 1, _ => c2 | 2, _ => c3 | 3, _ => c4 | 4, _ => c5 | 5, _ => c6 | k + 6, hk => absurd hk (by omega))) (by decide) ?_
  refine r_iconst (v := 0) hX dX4_mayBecome_72 (by decide) ?_
  obtain rfl := h
  exact r_zret0 hX hR dX4_mayBecome_73
theorem dX4_setInches_0 : decode cX4_setInches 0 = .ok (.aload_n 0, 1) := by decide +kernel
theorem dX4_setInches_1 : decode cX4_setInches 1 = .ok (.getfield 15, 3) := by decide +kernel
theorem dX4_setInches_4 : decode cX4_setInches 4 = .ok (.iload_n 1, 1) := by decide +kernel
theorem dX4_setInches_5 : decode cX4_setInches 5 = .ok (.iconst 3, 1) := by decide +kernel
theorem dX4_setInches_6 : decode cX4_setInches 6 = .ok (.imul, 1) := by decide +kernel
theorem dX4_setInches_7 : decode cX4_setInches 7 = .ok (.iload_n 2, 1) := by decide +kernel
theorem dX4_setInches_8 : decode cX4_setInches 8 = .ok (.iadd, 1) := by decide +kernel
theorem dX4_setInches_9 : decode cX4_setInches 9 = .ok (.iload_n 3, 1) := by decide +kernel
theorem dX4_setInches_10 : decode cX4_setInches 10 = .ok (.iastore, 1) := by decide +kernel
theorem dX4_setInches_11 : decode cX4_setInches 11 = .ok (.return_, 1) := by decide +kernel
def m_X4_setInches (a1 : Int32) (a2 : Int32) (a3 : Int32) (u : zM) : Option (zM) :=
  zbind (zsv u 3 36 ((a1 * 3) + a2) a3) (fun u1 => some u1)
set_option maxHeartbeats 4000000 in
set_option maxRecDepth 100000 in
theorem c_X4_setInches (a1 : Int32) (a2 : Int32) (a3 : Int32)   (u : zM) (u' : zM) (h : m_X4_setInches a1 a2 a3 u = some (u')) : zCt 1 yX4_setInches cX4_setInches 4 none (fun E => [.ref (zad E 1), .int a1, .int a2, .int a3]) u (fun _ => none) u' := by
  refine zCt.of (by decide +kernel) (fun E => Nat.le_of_ble_eq_true rfl) (fun X hX hR => ?_)
  have hX : zGood X RX4 cX4_setInches 4 1 := hX
  show zG X u 0 [(0, .ref (zad X.1 1)), (1, .int a1), (2, .int a2), (3, .int a3)] []
  unfold m_X4_setInches at h
  refine r_aload_n hX dX4_setInches_0 0 rfl rfl ?_
  refine r_getR hX dX4_setInches_1 f_RX4_15 zr_1_1 ?_
  refine r_iload_n hX dX4_setInches_4 1 rfl rfl ?_
  refine r_iconst (v := 3) hX dX4_setInches_5 (by decide) ?_
  refine r_imul hX dX4_setInches_6 ?_
  refine r_iload_n hX dX4_setInches_7 2 rfl rfl ?_
  refine r_iadd hX dX4_setInches_8 ?_
  refine r_iload_n hX dX4_setInches_9 3 rfl rfl ?_
  obtain ⟨u1, e2, h⟩ := zbind_elim h
  refine r_iast hX dX4_setInches_10 rfl e2 ?_
  obtain rfl := Option.some.inj h
  exact r_vret hX hR dX4_setInches_11
theorem dX4_put_0 : decode cX4_put 0 = .ok (.iload_n 2, 1) := by decide +kernel
theorem dX4_put_1 : decode cX4_put 1 = .ok (.lookupswitch 65 #[(0, 35), (4, 45), (5, 55)], 35) := by decide +kernel
theorem dX4_put_36 : decode cX4_put 36 = .ok (.aload_n 0, 1) := by decide +kernel
theorem dX4_put_37 : decode cX4_put 37 = .ok (.getfield 9, 3) := by decide +kernel
theorem dX4_put_40 : decode cX4_put 40 = .ok (.iload_n 1, 1) := by decide +kernel
theorem dX4_put_41 : decode cX4_put 41 = .ok (.iload_n 3, 1) := by decide +kernel
theorem dX4_put_42 : decode cX4_put 42 = .ok (.iastore, 1) := by decide +kernel
theorem dX4_put_43 : decode cX4_put 43 = .ok (.goto 32, 3) := by decide +kernel
theorem dX4_put_46 : decode cX4_put 46 = .ok (.aload_n 0, 1) := by decide +kernel
theorem dX4_put_47 : decode cX4_put 47 = .ok (.getfield 18, 3) := by decide +kernel
theorem dX4_put_50 : decode cX4_put 50 = .ok (.iload_n 1, 1) := by decide +kernel
theorem dX4_put_51 : decode cX4_put 51 = .ok (.iload_n 3, 1) := by decide +kernel
theorem dX4_put_52 : decode cX4_put 52 = .ok (.iastore, 1) := by decide +kernel
theorem dX4_put_53 : decode cX4_put 53 = .ok (.goto 22, 3) := by decide +kernel
theorem dX4_put_56 : decode cX4_put 56 = .ok (.aload_n 0, 1) := by decide +kernel
theorem dX4_put_57 : decode cX4_put 57 = .ok (.getfield 21, 3) := by decide +kernel
theorem dX4_put_60 : decode cX4_put 60 = .ok (.iload_n 1, 1) := by decide +kernel
theorem dX4_put_61 : decode cX4_put 61 = .ok (.iload_n 3, 1) := by decide +kernel
theorem dX4_put_62 : decode cX4_put 62 = .ok (.iastore, 1) := by decide +kernel
theorem dX4_put_63 : decode cX4_put 63 = .ok (.goto 12, 3) := by decide +kernel
theorem dX4_put_66 : decode cX4_put 66 = .ok (.aload_n 0, 1) := by decide +kernel
theorem dX4_put_67 : decode cX4_put 67 = .ok (.iload_n 1, 1) := by decide +kernel
theorem dX4_put_68 : decode cX4_put 68 = .ok (.iload_n 2, 1) := by decide +kernel
theorem dX4_put_69 : decode cX4_put 69 = .ok (.iconst 1, 1) := by decide +kernel
theorem dX4_put_70 : decode cX4_put 70 = .ok (.isub, 1) := by decide +kernel
theorem dX4_put_71 : decode cX4_put 71 = .ok (.iload_n 3, 1) := by decide +kernel
theorem dX4_put_72 : decode cX4_put 72 = .ok (.invokevirtual 80, 3) := by decide +kernel
theorem dX4_put_75 : decode cX4_put 75 = .ok (.return_, 1) := by decide +kernel
def m_X4_put (a1 : Int32) (a2 : Int32) (a3 : Int32) (u : zM) : Option (zM) :=
  (if a2 = 0 then
zbind (zsv u 2 12 a1 a3) (fun u2 => some u2)
else
if a2 = 4 then
zbind (zsv u 4 12 a1 a3) (fun u5 => some u5)
else
if a2 = 5 then
zbind (zsv u 5 12 a1 a3) (fun u8 => some u8)
else
zbind (m_X4_setInches a1 (a2 - 1) a3 u) (fun u10 => some u10))
set_option maxHeartbeats 4000000 in
set_option maxRecDepth 100000 in
theorem c_X4_put (a1 : Int32) (a2 : Int32) (a3 : Int32)   (u : zM) (u' : zM) (h : m_X4_put a1 a2 a3 u = some (u')) : zCt 2 yX4_put cX4_put 4 none (fun E => [.ref (zad E 1), .int a1, .int a2, .int a3]) u (fun _ => none) u' := by
  refine zCt.of (by decide +kernel) (fun E => Nat.le_of_ble_eq_true rfl) (fun X hX hR => ?_)
  have hX : zGood X RX4 cX4_put 4 2 := hX
  show zG X u 0 [(0, .ref (zad X.1 1)), (1, .int a1), (2, .int a2), (3, .int a3)] []
  unfold m_X4_put at h
  refine r_iload_n hX dX4_put_0 2 rfl rfl ?_
  by_cases c1 : a2 = 0
  · have h := (if_pos c1).symm.trans h
    refine r_ls (off := 35) (tgt := 36) hX dX4_put_1 (by decide) (by rw [c1]; decide +kernel) (by decide) ?_
    refine r_aload_n hX dX4_put_36 0 rfl rfl ?_
    refine r_getR hX dX4_put_37 f_RX4_9 zr_1_0 ?_
    refine r_iload_n hX dX4_put_40 1 rfl rfl ?_
    refine r_iload_n hX dX4_put_41 3 rfl rfl ?_
    obtain ⟨u2, e3, h⟩ := zbind_elim h
    refine r_iast hX dX4_put_42 rfl e3 ?_
    refine r_goto (tgt := 75) hX dX4_put_43 (by decide) ?_
    obtain rfl := Option.some.inj h
    exact r_vret hX hR dX4_put_75
  have h := (if_neg c1).symm.trans h
  by_cases c4 : a2 = 4
  · have h := (if_pos c4).symm.trans h
    refine r_ls (off := 45) (tgt := 46) hX dX4_put_1 (by decide) (by rw [c4]; decide +kernel) (by decide) ?_
    refine r_aload_n hX dX4_put_46 0 rfl rfl ?_
    refine r_getR hX dX4_put_47 f_RX4_18 zr_1_2 ?_
    refine r_iload_n hX dX4_put_50 1 rfl rfl ?_
    refine r_iload_n hX dX4_put_51 3 rfl rfl ?_
    obtain ⟨u5, e6, h⟩ := zbind_elim h
    refine r_iast hX dX4_put_52 rfl e6 ?_
    refine r_goto (tgt := 75) hX dX4_put_53 (by decide) ?_
    obtain rfl := Option.some.inj h
    exact r_vret hX hR dX4_put_75
  have h := (if_neg c4).symm.trans h
  by_cases c7 : a2 = 5
  · have h := (if_pos c7).symm.trans h
    refine r_ls (off := 55) (tgt := 56) hX dX4_put_1 (by decide) (by rw [c7]; decide +kernel) (by decide) ?_
    refine r_aload_n hX dX4_put_56 0 rfl rfl ?_
    refine r_getR hX dX4_put_57 f_RX4_21 zr_1_3 ?_
    refine r_iload_n hX dX4_put_60 1 rfl rfl ?_
    refine r_iload_n hX dX4_put_61 3 rfl rfl ?_
    obtain ⟨u8, e9, h⟩ := zbind_elim h
    refine r_iast hX dX4_put_62 rfl e9 ?_
    refine r_goto (tgt := 75) hX dX4_put_63 (by decide) ?_
    obtain rfl := Option.some.inj h
    exact r_vret hX hR dX4_put_75
  have h := (if_neg c7).symm.trans h
  refine r_ls (off := 65) (tgt := 66) hX dX4_put_1 (by decide) (zls_out a2 _ _ (fun q hq => by simp only [List.mem_cons, List.not_mem_nil, or_false] at hq; rcases hq with rfl | rfl | rfl <;> first | exact zi_ne c1 rfl | exact zi_ne c4 rfl | exact zi_ne c7 rfl)) (by decide) ?_
  refine r_aload_n hX dX4_put_66 0 rfl rfl ?_
  refine r_iload_n hX dX4_put_67 1 rfl rfl ?_
  refine r_iload_n hX dX4_put_68 2 rfl rfl ?_
  refine r_iconst (v := 1) hX dX4_put_69 (by decide) ?_
  refine r_isub hX dX4_put_70 ?_
  refine r_iload_n hX dX4_put_71 3 rfl rfl ?_
  obtain ⟨u10, e11, h⟩ := zbind_elim h
  refine r_callV (As := [.int a1, .int (a2 - 1), .int a3]) (rest := []) (st1 := []) hX dX4_put_72 lv_RX4_80 (c_X4_setInches a1 (a2 - 1) a3  u _ e11) (by decide) rfl rfl (zRecv.of (q := 1) (ci := 4) rfl rfl) rfl (Nat.le_of_ble_eq_true rfl) rfl ?_
  obtain rfl := Option.some.inj h
  exact r_vret hX hR dX4_put_75
theorem dX5_change_0 : decode cX5_change 0 = .ok (.aload_n 0, 1) := by decide +kernel
theorem dX5_change_1 : decode cX5_change 1 = .ok (.iload_n 1, 1) := by decide +kernel
theorem dX5_change_2 : decode cX5_change 2 = .ok (.invokevirtual 77, 3) := by decide +kernel
theorem dX5_change_5 : decode cX5_change 5 = .ok (.ifCond .eq 11, 3) := by decide +kernel
theorem dX5_change_8 : decode cX5_change 8 = .ok (.iload_n 2, 1) := by decide +kernel
theorem dX5_change_9 : decode cX5_change 9 = .ok (.iload_n 3, 1) := by decide +kernel
theorem dX5_change_10 : decode cX5_change 10 = .ok (.invokestatic 88, 3) := by decide +kernel
theorem dX5_change_13 : decode cX5_change 13 = .ok (.ifCond .ne 9, 3) := by decide +kernel
theorem dX5_change_16 : decode cX5_change 16 = .ok (.aload_n 0, 1) := by decide +kernel
theorem dX5_change_17 : decode cX5_change 17 = .ok (.iconst 0, 1) := by decide +kernel
theorem dX5_change_18 : decode cX5_change 18 = .ok (.invokevirtual 65, 3) := by decide +kernel
theorem dX5_change_21 : decode cX5_change 21 = .ok (.ireturn, 1) := by decide +kernel
theorem dX5_change_22 : decode cX5_change 22 = .ok (.aload_n 0, 1) := by decide +kernel
theorem dX5_change_23 : decode cX5_change 23 = .ok (.getfield 10, 3) := by decide +kernel
theorem dX5_change_26 : decode cX5_change 26 = .ok (.iload_n 1, 1) := by decide +kernel
theorem dX5_change_27 : decode cX5_change 27 = .ok (.iload_n 2, 1) := by decide +kernel
theorem dX5_change_28 : decode cX5_change 28 = .ok (.invokevirtual 84, 3) := by decide +kernel
theorem dX5_change_31 : decode cX5_change 31 = .ok (.istore 4, 2) := by decide +kernel
theorem dX5_change_33 : decode cX5_change 33 = .ok (.aload_n 0, 1) := by decide +kernel
theorem dX5_change_34 : decode cX5_change 34 = .ok (.getfield 10, 3) := by decide +kernel
theorem dX5_change_37 : decode cX5_change 37 = .ok (.iload_n 1, 1) := by decide +kernel
theorem dX5_change_38 : decode cX5_change 38 = .ok (.iload_n 2, 1) := by decide +kernel
theorem dX5_change_39 : decode cX5_change 39 = .ok (.iload_n 3, 1) := by decide +kernel
theorem dX5_change_40 : decode cX5_change 40 = .ok (.invokevirtual 92, 3) := by decide +kernel
theorem dX5_change_43 : decode cX5_change 43 = .ok (.iload 4, 2) := by decide +kernel
theorem dX5_change_45 : decode cX5_change 45 = .ok (.ireturn, 1) := by decide +kernel
def m_X5_change (a1 : Int32) (a2 : Int32) (a3 : Int32) (u : zM) : Option (Int32 × zM) :=
  (if (m_X5_isBody a1 u) = 0 then
zbind2 (m_X5_finding 0 u) (fun x2 u3 => some (x2, u3))
else
(if (m_X4_mayBecome a2 a3) = 0 then
zbind2 (m_X5_finding 0 u) (fun x10 u11 => some (x10, u11))
else
zbind (m_X4_tell a1 a2 u) (fun x6 => zbind (m_X4_put a1 a2 a3 u) (fun u8 => some (x6, u8)))))
set_option maxHeartbeats 4000000 in
set_option maxRecDepth 100000 in
theorem c_X5_change (a1 : Int32) (a2 : Int32) (a3 : Int32)   (u : zM) (r : Int32) (u' : zM) (h : m_X5_change a1 a2 a3 u = some (r, u')) : zCt 6 yX5_change cX5_change 5 (some .int) (fun E => [.ref (zad E 0), .int a1, .int a2, .int a3]) u (fun _ => some (.int r)) u' := by
  refine zCt.of (by decide +kernel) (fun E => Nat.le_of_ble_eq_true rfl) (fun X hX hR => ?_)
  have hX : zGood X RX5 cX5_change 5 6 := hX
  show zG X u 0 [(0, .ref (zad X.1 0)), (1, .int a1), (2, .int a2), (3, .int a3)] []
  unfold m_X5_change at h
  refine r_aload_n hX dX5_change_0 0 rfl rfl ?_
  refine r_iload_n hX dX5_change_1 1 rfl rfl ?_
  refine r_callV (As := [.int a1]) (rest := []) (st1 := [.int (m_X5_isBody a1 u)]) hX dX5_change_2 lv_RX5_77 (c_X5_isBody a1  u _ rfl) (by decide) rfl rfl (zRecv.of (q := 0) (ci := 5) rfl rfl) rfl (Nat.le_of_ble_eq_true rfl) rfl ?_
  refine r_if_eq (tgt := 16) hX dX5_change_5 (by decide) (fun c1 => ?_) (fun c1 => ?_)
  · have h := (if_pos c1).symm.trans h
    refine r_aload_n hX dX5_change_16 0 rfl rfl ?_
    refine r_iconst (v := 0) hX dX5_change_17 (by decide) ?_
    obtain ⟨x2, u3, e4, h⟩ := zbind2_elim h
    refine r_callV (As := [.int 0]) (rest := []) (st1 := [.int x2]) hX dX5_change_18 lv_RX5_65 (c_X5_finding 0  u _ _ e4) (by decide) rfl rfl (zRecv.of (q := 0) (ci := 5) rfl rfl) rfl (Nat.le_of_ble_eq_true rfl) rfl ?_
    obtain ⟨rfl, rfl⟩ := zinj2 (Option.some.inj h)
    exact r_iret hX hR dX5_change_21
  · have h := (if_neg c1).symm.trans h
    refine r_iload_n hX dX5_change_8 2 rfl rfl ?_
    refine r_iload_n hX dX5_change_9 3 rfl rfl ?_
    refine r_callS (As := [.int a2, .int a3]) (rest := []) (st1 := [.int (m_X4_mayBecome a2 a3)]) hX dX5_change_10 ls_RX5_88 (c_X4_mayBecome a2 a3  u _ rfl) (by decide) rfl rfl rfl (Nat.le_of_ble_eq_true rfl) rfl ?_
    refine r_if_ne (tgt := 22) hX dX5_change_13 (by decide) (fun c5 => ?_) (fun c5 => ?_)
    · have h := (if_neg c5).symm.trans h
      refine r_aload_n hX dX5_change_22 0 rfl rfl ?_
      refine r_getR hX dX5_change_23 f_RX5_10 zr_0_0 ?_
      refine r_iload_n hX dX5_change_26 1 rfl rfl ?_
      refine r_iload_n hX dX5_change_27 2 rfl rfl ?_
      obtain ⟨x6, e7, h⟩ := zbind_elim h
      refine r_callV (As := [.int a1, .int a2]) (rest := []) (st1 := [.int x6]) hX dX5_change_28 lv_RX5_84 (c_X4_tell a1 a2  u _ e7) (by decide) rfl rfl (zRecv.of (q := 1) (ci := 4) rfl rfl) rfl (Nat.le_of_ble_eq_true rfl) rfl ?_
      refine r_istore (y := x6) (L' := [(4, .int x6), (0, .ref (zad X.1 0)), (1, .int a1), (2, .int a2), (3, .int a3)]) hX dX5_change_31 (by decide) rfl rfl ?_
      refine r_aload_n hX dX5_change_33 1 rfl rfl ?_
      refine r_getR hX dX5_change_34 f_RX5_10 zr_0_0 ?_
      refine r_iload_n hX dX5_change_37 2 rfl rfl ?_
      refine r_iload_n hX dX5_change_38 3 rfl rfl ?_
      refine r_iload_n hX dX5_change_39 4 rfl rfl ?_
      obtain ⟨u8, e9, h⟩ := zbind_elim h
      refine r_callV (As := [.int a1, .int a2, .int a3]) (rest := []) (st1 := []) hX dX5_change_40 lv_RX5_92 (c_X4_put a1 a2 a3  u _ e9) (by decide) rfl rfl (zRecv.of (q := 1) (ci := 4) rfl rfl) rfl (Nat.le_of_ble_eq_true rfl) rfl ?_
      refine r_iload hX dX5_change_43 0 rfl ?_
      obtain ⟨rfl, rfl⟩ := zinj2 (Option.some.inj h)
      exact r_iret hX hR dX5_change_45
    · have h := (if_pos c5).symm.trans h
      refine r_aload_n hX dX5_change_16 0 rfl rfl ?_
      refine r_iconst (v := 0) hX dX5_change_17 (by decide) ?_
      obtain ⟨x10, u11, e12, h⟩ := zbind2_elim h
      refine r_callV (As := [.int 0]) (rest := []) (st1 := [.int x10]) hX dX5_change_18 lv_RX5_65 (c_X5_finding 0  u _ _ e12) (by decide) rfl rfl (zRecv.of (q := 0) (ci := 5) rfl rfl) rfl (Nat.le_of_ble_eq_true rfl) rfl ?_
      obtain ⟨rfl, rfl⟩ := zinj2 (Option.some.inj h)
      exact r_iret hX hR dX5_change_21
theorem dX5_here_0 : decode cX5_here 0 = .ok (.aload_n 0, 1) := by decide +kernel
theorem dX5_here_1 : decode cX5_here 1 = .ok (.iload_n 1, 1) := by decide +kernel
theorem dX5_here_2 : decode cX5_here 2 = .ok (.invokevirtual 77, 3) := by decide +kernel
theorem dX5_here_5 : decode cX5_here 5 = .ok (.ifCond .ne 9, 3) := by decide +kernel
theorem dX5_here_8 : decode cX5_here 8 = .ok (.aload_n 0, 1) := by decide +kernel
theorem dX5_here_9 : decode cX5_here 9 = .ok (.iconst 0, 1) := by decide +kernel
theorem dX5_here_10 : decode cX5_here 10 = .ok (.invokevirtual 65, 3) := by decide +kernel
theorem dX5_here_13 : decode cX5_here 13 = .ok (.ireturn, 1) := by decide +kernel
theorem dX5_here_14 : decode cX5_here 14 = .ok (.aload_n 0, 1) := by decide +kernel
theorem dX5_here_15 : decode cX5_here 15 = .ok (.getfield 10, 3) := by decide +kernel
theorem dX5_here_18 : decode cX5_here 18 = .ok (.iload_n 1, 1) := by decide +kernel
theorem dX5_here_19 : decode cX5_here 19 = .ok (.bipush 6, 2) := by decide +kernel
theorem dX5_here_21 : decode cX5_here 21 = .ok (.invokevirtual 84, 3) := by decide +kernel
theorem dX5_here_24 : decode cX5_here 24 = .ok (.istore_n 3, 1) := by decide +kernel
theorem dX5_here_25 : decode cX5_here 25 = .ok (.aload_n 0, 1) := by decide +kernel
theorem dX5_here_26 : decode cX5_here 26 = .ok (.getfield 10, 3) := by decide +kernel
theorem dX5_here_29 : decode cX5_here 29 = .ok (.iload_n 2, 1) := by decide +kernel
theorem dX5_here_30 : decode cX5_here 30 = .ok (.ifCond .eq 17, 3) := by decide +kernel
theorem dX5_here_33 : decode cX5_here 33 = .ok (.aload_n 0, 1) := by decide +kernel
theorem dX5_here_34 : decode cX5_here 34 = .ok (.getfield 10, 3) := by decide +kernel
theorem dX5_here_37 : decode cX5_here 37 = .ok (.getfield 96, 3) := by decide +kernel
theorem dX5_here_40 : decode cX5_here 40 = .ok (.iconst 1, 1) := by decide +kernel
theorem dX5_here_41 : decode cX5_here 41 = .ok (.iload_n 1, 1) := by decide +kernel
theorem dX5_here_42 : decode cX5_here 42 = .ok (.ishl, 1) := by decide +kernel
theorem dX5_here_43 : decode cX5_here 43 = .ok (.ior, 1) := by decide +kernel
theorem dX5_here_44 : decode cX5_here 44 = .ok (.goto 16, 3) := by decide +kernel
theorem dX5_here_47 : decode cX5_here 47 = .ok (.aload_n 0, 1) := by decide +kernel
theorem dX5_here_48 : decode cX5_here 48 = .ok (.getfield 10, 3) := by decide +kernel
theorem dX5_here_51 : decode cX5_here 51 = .ok (.getfield 96, 3) := by decide +kernel
theorem dX5_here_54 : decode cX5_here 54 = .ok (.iconst 1, 1) := by decide +kernel
theorem dX5_here_55 : decode cX5_here 55 = .ok (.iload_n 1, 1) := by decide +kernel
theorem dX5_here_56 : decode cX5_here 56 = .ok (.ishl, 1) := by decide +kernel
theorem dX5_here_57 : decode cX5_here 57 = .ok (.iconst (-1), 1) := by decide +kernel
theorem dX5_here_58 : decode cX5_here 58 = .ok (.ixor, 1) := by decide +kernel
theorem dX5_here_59 : decode cX5_here 59 = .ok (.iand, 1) := by decide +kernel
theorem dX5_here_60 : decode cX5_here 60 = .ok (.putfield 96, 3) := by decide +kernel
theorem dX5_here_63 : decode cX5_here 63 = .ok (.iload_n 3, 1) := by decide +kernel
theorem dX5_here_64 : decode cX5_here 64 = .ok (.ireturn, 1) := by decide +kernel
def m_X5_here (a1 : Int32) (a2 : Int32) (u : zM) : Option (Int32 × zM) :=
  (if (m_X5_isBody a1 u) = 0 then
zbind2 (m_X5_finding 0 u) (fun x9 u10 => some (x9, u10))
else
zbind (m_X4_tell a1 6 u) (fun x2 => (if a2 = 0 then
zlet (zst u 1 7 ((u 1 7) &&& ((zshl 1 a1) ^^^ (-1)))) (fun u5 => some (x2, u5))
else
zlet (zst u 1 7 ((u 1 7) ||| (zshl 1 a1))) (fun u7 => some (x2, u7)))))
set_option maxHeartbeats 4000000 in
set_option maxRecDepth 100000 in
theorem c_X5_here (a1 : Int32) (a2 : Int32)   (u : zM) (r : Int32) (u' : zM) (h : m_X5_here a1 a2 u = some (r, u')) : zCt 6 yX5_here cX5_here 4 (some .int) (fun E => [.ref (zad E 0), .int a1, .int a2]) u (fun _ => some (.int r)) u' := by
  refine zCt.of (by decide +kernel) (fun E => Nat.le_of_ble_eq_true rfl) (fun X hX hR => ?_)
  have hX : zGood X RX5 cX5_here 4 6 := hX
  show zG X u 0 [(0, .ref (zad X.1 0)), (1, .int a1), (2, .int a2)] []
  unfold m_X5_here at h
  refine r_aload_n hX dX5_here_0 0 rfl rfl ?_
  refine r_iload_n hX dX5_here_1 1 rfl rfl ?_
  refine r_callV (As := [.int a1]) (rest := []) (st1 := [.int (m_X5_isBody a1 u)]) hX dX5_here_2 lv_RX5_77 (c_X5_isBody a1  u _ rfl) (by decide) rfl rfl (zRecv.of (q := 0) (ci := 5) rfl rfl) rfl (Nat.le_of_ble_eq_true rfl) rfl ?_
  refine r_if_ne (tgt := 14) hX dX5_here_5 (by decide) (fun c1 => ?_) (fun c1 => ?_)
  · have h := (if_neg c1).symm.trans h
    refine r_aload_n hX dX5_here_14 0 rfl rfl ?_
    refine r_getR hX dX5_here_15 f_RX5_10 zr_0_0 ?_
    refine r_iload_n hX dX5_here_18 1 rfl rfl ?_
    refine r_bipush (v := 6) hX dX5_here_19 (by decide) ?_
    obtain ⟨x2, e3, h⟩ := zbind_elim h
    refine r_callV (As := [.int a1, .int 6]) (rest := []) (st1 := [.int x2]) hX dX5_here_21 lv_RX5_84 (c_X4_tell a1 6  u _ e3) (by decide) rfl rfl (zRecv.of (q := 1) (ci := 4) rfl rfl) rfl (Nat.le_of_ble_eq_true rfl) rfl ?_
    refine r_istore_n (y := x2) (L' := [(3, .int x2), (0, .ref (zad X.1 0)), (1, .int a1), (2, .int a2)]) hX dX5_here_24 rfl (by decide) rfl rfl ?_
    refine r_aload_n hX dX5_here_25 1 rfl rfl ?_
    refine r_getR hX dX5_here_26 f_RX5_10 zr_0_0 ?_
    refine r_iload_n hX dX5_here_29 3 rfl rfl ?_
    refine r_if_eq (tgt := 47) hX dX5_here_30 (by decide) (fun c4 => ?_) (fun c4 => ?_)
    · have h := (if_pos c4).symm.trans h
      refine r_aload_n hX dX5_here_47 1 rfl rfl ?_
      refine r_getR hX dX5_here_48 f_RX5_10 zr_0_0 ?_
      refine r_getI hX dX5_here_51 f_RX5_96 zi_1_7 ?_
      refine r_iconst (v := 1) hX dX5_here_54 (by decide) ?_
      refine r_iload_n hX dX5_here_55 2 rfl rfl ?_
      refine r_ishl hX dX5_here_56 ?_
      refine r_iconst (v := (-1)) hX dX5_here_57 (by decide) ?_
      refine r_ixor hX dX5_here_58 ?_
      refine r_iand hX dX5_here_59 ?_
      obtain ⟨u5, e6, h⟩ := zlet_elim h
      refine r_putI hX dX5_here_60 f_RX5_96 p_4_7 zi_1_7 ?_
      rw [e6]
      refine r_iload_n hX dX5_here_63 0 rfl rfl ?_
      obtain ⟨rfl, rfl⟩ := zinj2 (Option.some.inj h)
      exact r_iret hX hR dX5_here_64
    · have h := (if_neg c4).symm.trans h
      refine r_aload_n hX dX5_here_33 1 rfl rfl ?_
      refine r_getR hX dX5_here_34 f_RX5_10 zr_0_0 ?_
      refine r_getI hX dX5_here_37 f_RX5_96 zi_1_7 ?_
      refine r_iconst (v := 1) hX dX5_here_40 (by decide) ?_
      refine r_iload_n hX dX5_here_41 2 rfl rfl ?_
      refine r_ishl hX dX5_here_42 ?_
      refine r_ior hX dX5_here_43 ?_
      refine r_goto (tgt := 60) hX dX5_here_44 (by decide) ?_
      obtain ⟨u7, e8, h⟩ := zlet_elim h
      refine r_putI hX dX5_here_60 f_RX5_96 p_4_7 zi_1_7 ?_
      rw [e8]
      refine r_iload_n hX dX5_here_63 0 rfl rfl ?_
      obtain ⟨rfl, rfl⟩ := zinj2 (Option.some.inj h)
      exact r_iret hX hR dX5_here_64
  · have h := (if_pos c1).symm.trans h
    refine r_aload_n hX dX5_here_8 0 rfl rfl ?_
    refine r_iconst (v := 0) hX dX5_here_9 (by decide) ?_
    obtain ⟨x9, u10, e11, h⟩ := zbind2_elim h
    refine r_callV (As := [.int 0]) (rest := []) (st1 := [.int x9]) hX dX5_here_10 lv_RX5_65 (c_X5_finding 0  u _ _ e11) (by decide) rfl rfl (zRecv.of (q := 0) (ci := 5) rfl rfl) rfl (Nat.le_of_ble_eq_true rfl) rfl ?_
    obtain ⟨rfl, rfl⟩ := zinj2 (Option.some.inj h)
    exact r_iret hX hR dX5_here_13
theorem dX5_rule_0 : decode cX5_rule 0 = .ok (.iload_n 1, 1) := by decide +kernel
theorem dX5_rule_1 : decode cX5_rule 1 = .ok (.iconst 0, 1) := by decide +kernel
theorem dX5_rule_2 : decode cX5_rule 2 = .ok (.iconst 2, 1) := by decide +kernel
theorem dX5_rule_3 : decode cX5_rule 3 = .ok (.invokestatic 80, 3) := by decide +kernel
theorem dX5_rule_6 : decode cX5_rule 6 = .ok (.ifCond .ne 9, 3) := by decide +kernel
theorem dX5_rule_9 : decode cX5_rule 9 = .ok (.aload_n 0, 1) := by decide +kernel
theorem dX5_rule_10 : decode cX5_rule 10 = .ok (.iconst 0, 1) := by decide +kernel
theorem dX5_rule_11 : decode cX5_rule 11 = .ok (.invokevirtual 65, 3) := by decide +kernel
theorem dX5_rule_14 : decode cX5_rule 14 = .ok (.ireturn, 1) := by decide +kernel
theorem dX5_rule_15 : decode cX5_rule 15 = .ok (.aload_n 0, 1) := by decide +kernel
theorem dX5_rule_16 : decode cX5_rule 16 = .ok (.getfield 10, 3) := by decide +kernel
theorem dX5_rule_19 : decode cX5_rule 19 = .ok (.getfield 99, 3) := by decide +kernel
theorem dX5_rule_22 : decode cX5_rule 22 = .ok (.istore_n 2, 1) := by decide +kernel
theorem dX5_rule_23 : decode cX5_rule 23 = .ok (.aload_n 0, 1) := by decide +kernel
theorem dX5_rule_24 : decode cX5_rule 24 = .ok (.getfield 10, 3) := by decide +kernel
theorem dX5_rule_27 : decode cX5_rule 27 = .ok (.iload_n 1, 1) := by decide +kernel
theorem dX5_rule_28 : decode cX5_rule 28 = .ok (.putfield 99, 3) := by decide +kernel
theorem dX5_rule_31 : decode cX5_rule 31 = .ok (.iload_n 2, 1) := by decide +kernel
theorem dX5_rule_32 : decode cX5_rule 32 = .ok (.ireturn, 1) := by decide +kernel
def m_X5_rule (a1 : Int32) (u : zM) : Option (Int32 × zM) :=
  (if (m_X5_within a1 0 2) = 0 then
zbind2 (m_X5_finding 0 u) (fun x4 u5 => some (x4, u5))
else
zlet (zst u 1 8 a1) (fun u2 => some ((u 1 8), u2)))
set_option maxHeartbeats 4000000 in
set_option maxRecDepth 100000 in
theorem c_X5_rule (a1 : Int32)   (u : zM) (r : Int32) (u' : zM) (h : m_X5_rule a1 u = some (r, u')) : zCt 2 yX5_rule cX5_rule 3 (some .int) (fun E => [.ref (zad E 0), .int a1]) u (fun _ => some (.int r)) u' := by
  refine zCt.of (by decide +kernel) (fun E => Nat.le_of_ble_eq_true rfl) (fun X hX hR => ?_)
  have hX : zGood X RX5 cX5_rule 3 2 := hX
  show zG X u 0 [(0, .ref (zad X.1 0)), (1, .int a1)] []
  unfold m_X5_rule at h
  refine r_iload_n hX dX5_rule_0 1 rfl rfl ?_
  refine r_iconst (v := 0) hX dX5_rule_1 (by decide) ?_
  refine r_iconst (v := 2) hX dX5_rule_2 (by decide) ?_
  refine r_callS (As := [.int a1, .int 0, .int 2]) (rest := []) (st1 := [.int (m_X5_within a1 0 2)]) hX dX5_rule_3 ls_RX5_80 (c_X5_within a1 0 2  u _ rfl) (by decide) rfl rfl rfl (Nat.le_of_ble_eq_true rfl) rfl ?_
  refine r_if_ne (tgt := 15) hX dX5_rule_6 (by decide) (fun c1 => ?_) (fun c1 => ?_)
  · have h := (if_neg c1).symm.trans h
    refine r_aload_n hX dX5_rule_15 0 rfl rfl ?_
    refine r_getR hX dX5_rule_16 f_RX5_10 zr_0_0 ?_
    refine r_getI hX dX5_rule_19 f_RX5_99 zi_1_8 ?_
    refine r_istore_n (y := (u 1 8)) (L' := [(2, .int (u 1 8)), (0, .ref (zad X.1 0)), (1, .int a1)]) hX dX5_rule_22 rfl (by decide) rfl rfl ?_
    refine r_aload_n hX dX5_rule_23 1 rfl rfl ?_
    refine r_getR hX dX5_rule_24 f_RX5_10 zr_0_0 ?_
    refine r_iload_n hX dX5_rule_27 2 rfl rfl ?_
    obtain ⟨u2, e3, h⟩ := zlet_elim h
    refine r_putI hX dX5_rule_28 f_RX5_99 p_4_8 zi_1_8 ?_
    rw [e3]
    refine r_iload_n hX dX5_rule_31 0 rfl rfl ?_
    obtain ⟨rfl, rfl⟩ := zinj2 (Option.some.inj h)
    exact r_iret hX hR dX5_rule_32
  · have h := (if_pos c1).symm.trans h
    refine r_aload_n hX dX5_rule_9 0 rfl rfl ?_
    refine r_iconst (v := 0) hX dX5_rule_10 (by decide) ?_
    obtain ⟨x4, u5, e6, h⟩ := zbind2_elim h
    refine r_callV (As := [.int 0]) (rest := []) (st1 := [.int x4]) hX dX5_rule_11 lv_RX5_65 (c_X5_finding 0  u _ _ e6) (by decide) rfl rfl (zRecv.of (q := 0) (ci := 5) rfl rfl) rfl (Nat.le_of_ble_eq_true rfl) rfl ?_
    obtain ⟨rfl, rfl⟩ := zinj2 (Option.some.inj h)
    exact r_iret hX hR dX5_rule_14
theorem dX5_ease_0 : decode cX5_ease 0 = .ok (.iload_n 1, 1) := by decide +kernel
theorem dX5_ease_1 : decode cX5_ease 1 = .ok (.iconst 0, 1) := by decide +kernel
theorem dX5_ease_2 : decode cX5_ease 2 = .ok (.sipush 999, 3) := by decide +kernel
theorem dX5_ease_5 : decode cX5_ease 5 = .ok (.invokestatic 80, 3) := by decide +kernel
theorem dX5_ease_8 : decode cX5_ease 8 = .ok (.ifCond .ne 9, 3) := by decide +kernel
theorem dX5_ease_11 : decode cX5_ease 11 = .ok (.aload_n 0, 1) := by decide +kernel
theorem dX5_ease_12 : decode cX5_ease 12 = .ok (.iconst 0, 1) := by decide +kernel
theorem dX5_ease_13 : decode cX5_ease 13 = .ok (.invokevirtual 65, 3) := by decide +kernel
theorem dX5_ease_16 : decode cX5_ease 16 = .ok (.ireturn, 1) := by decide +kernel
theorem dX5_ease_17 : decode cX5_ease 17 = .ok (.aload_n 0, 1) := by decide +kernel
theorem dX5_ease_18 : decode cX5_ease 18 = .ok (.getfield 10, 3) := by decide +kernel
theorem dX5_ease_21 : decode cX5_ease 21 = .ok (.getfield 102, 3) := by decide +kernel
theorem dX5_ease_24 : decode cX5_ease 24 = .ok (.istore_n 2, 1) := by decide +kernel
theorem dX5_ease_25 : decode cX5_ease 25 = .ok (.aload_n 0, 1) := by decide +kernel
theorem dX5_ease_26 : decode cX5_ease 26 = .ok (.getfield 10, 3) := by decide +kernel
theorem dX5_ease_29 : decode cX5_ease 29 = .ok (.iload_n 1, 1) := by decide +kernel
theorem dX5_ease_30 : decode cX5_ease 30 = .ok (.putfield 102, 3) := by decide +kernel
theorem dX5_ease_33 : decode cX5_ease 33 = .ok (.iload_n 2, 1) := by decide +kernel
theorem dX5_ease_34 : decode cX5_ease 34 = .ok (.ireturn, 1) := by decide +kernel
def m_X5_ease (a1 : Int32) (u : zM) : Option (Int32 × zM) :=
  (if (m_X5_within a1 0 999) = 0 then
zbind2 (m_X5_finding 0 u) (fun x4 u5 => some (x4, u5))
else
zlet (zst u 1 9 a1) (fun u2 => some ((u 1 9), u2)))
set_option maxHeartbeats 4000000 in
set_option maxRecDepth 100000 in
theorem c_X5_ease (a1 : Int32)   (u : zM) (r : Int32) (u' : zM) (h : m_X5_ease a1 u = some (r, u')) : zCt 2 yX5_ease cX5_ease 3 (some .int) (fun E => [.ref (zad E 0), .int a1]) u (fun _ => some (.int r)) u' := by
  refine zCt.of (by decide +kernel) (fun E => Nat.le_of_ble_eq_true rfl) (fun X hX hR => ?_)
  have hX : zGood X RX5 cX5_ease 3 2 := hX
  show zG X u 0 [(0, .ref (zad X.1 0)), (1, .int a1)] []
  unfold m_X5_ease at h
  refine r_iload_n hX dX5_ease_0 1 rfl rfl ?_
  refine r_iconst (v := 0) hX dX5_ease_1 (by decide) ?_
  refine r_sipush (v := 999) hX dX5_ease_2 (by decide) ?_
  refine r_callS (As := [.int a1, .int 0, .int 999]) (rest := []) (st1 := [.int (m_X5_within a1 0 999)]) hX dX5_ease_5 ls_RX5_80 (c_X5_within a1 0 999  u _ rfl) (by decide) rfl rfl rfl (Nat.le_of_ble_eq_true rfl) rfl ?_
  refine r_if_ne (tgt := 17) hX dX5_ease_8 (by decide) (fun c1 => ?_) (fun c1 => ?_)
  · have h := (if_neg c1).symm.trans h
    refine r_aload_n hX dX5_ease_17 0 rfl rfl ?_
    refine r_getR hX dX5_ease_18 f_RX5_10 zr_0_0 ?_
    refine r_getI hX dX5_ease_21 f_RX5_102 zi_1_9 ?_
    refine r_istore_n (y := (u 1 9)) (L' := [(2, .int (u 1 9)), (0, .ref (zad X.1 0)), (1, .int a1)]) hX dX5_ease_24 rfl (by decide) rfl rfl ?_
    refine r_aload_n hX dX5_ease_25 1 rfl rfl ?_
    refine r_getR hX dX5_ease_26 f_RX5_10 zr_0_0 ?_
    refine r_iload_n hX dX5_ease_29 2 rfl rfl ?_
    obtain ⟨u2, e3, h⟩ := zlet_elim h
    refine r_putI hX dX5_ease_30 f_RX5_102 p_4_9 zi_1_9 ?_
    rw [e3]
    refine r_iload_n hX dX5_ease_33 0 rfl rfl ?_
    obtain ⟨rfl, rfl⟩ := zinj2 (Option.some.inj h)
    exact r_iret hX hR dX5_ease_34
  · have h := (if_pos c1).symm.trans h
    refine r_aload_n hX dX5_ease_11 0 rfl rfl ?_
    refine r_iconst (v := 0) hX dX5_ease_12 (by decide) ?_
    obtain ⟨x4, u5, e6, h⟩ := zbind2_elim h
    refine r_callV (As := [.int 0]) (rest := []) (st1 := [.int x4]) hX dX5_ease_13 lv_RX5_65 (c_X5_finding 0  u _ _ e6) (by decide) rfl rfl (zRecv.of (q := 0) (ci := 5) rfl rfl) rfl (Nat.le_of_ble_eq_true rfl) rfl ?_
    obtain ⟨rfl, rfl⟩ := zinj2 (Option.some.inj h)
    exact r_iret hX hR dX5_ease_16
theorem dX5_price_0 : decode cX5_price 0 = .ok (.iload_n 1, 1) := by decide +kernel
theorem dX5_price_1 : decode cX5_price 1 = .ok (.iconst 0, 1) := by decide +kernel
theorem dX5_price_2 : decode cX5_price 2 = .ok (.bipush 99, 2) := by decide +kernel
theorem dX5_price_4 : decode cX5_price 4 = .ok (.invokestatic 80, 3) := by decide +kernel
theorem dX5_price_7 : decode cX5_price 7 = .ok (.ifCond .ne 9, 3) := by decide +kernel
theorem dX5_price_10 : decode cX5_price 10 = .ok (.aload_n 0, 1) := by decide +kernel
theorem dX5_price_11 : decode cX5_price 11 = .ok (.iconst 0, 1) := by decide +kernel
theorem dX5_price_12 : decode cX5_price 12 = .ok (.invokevirtual 65, 3) := by decide +kernel
theorem dX5_price_15 : decode cX5_price 15 = .ok (.ireturn, 1) := by decide +kernel
theorem dX5_price_16 : decode cX5_price 16 = .ok (.aload_n 0, 1) := by decide +kernel
theorem dX5_price_17 : decode cX5_price 17 = .ok (.getfield 10, 3) := by decide +kernel
theorem dX5_price_20 : decode cX5_price 20 = .ok (.getfield 105, 3) := by decide +kernel
theorem dX5_price_23 : decode cX5_price 23 = .ok (.istore_n 2, 1) := by decide +kernel
theorem dX5_price_24 : decode cX5_price 24 = .ok (.aload_n 0, 1) := by decide +kernel
theorem dX5_price_25 : decode cX5_price 25 = .ok (.getfield 10, 3) := by decide +kernel
theorem dX5_price_28 : decode cX5_price 28 = .ok (.iload_n 1, 1) := by decide +kernel
theorem dX5_price_29 : decode cX5_price 29 = .ok (.putfield 105, 3) := by decide +kernel
theorem dX5_price_32 : decode cX5_price 32 = .ok (.iload_n 2, 1) := by decide +kernel
theorem dX5_price_33 : decode cX5_price 33 = .ok (.ireturn, 1) := by decide +kernel
def m_X5_price (a1 : Int32) (u : zM) : Option (Int32 × zM) :=
  (if (m_X5_within a1 0 99) = 0 then
zbind2 (m_X5_finding 0 u) (fun x4 u5 => some (x4, u5))
else
zlet (zst u 1 10 a1) (fun u2 => some ((u 1 10), u2)))
set_option maxHeartbeats 4000000 in
set_option maxRecDepth 100000 in
theorem c_X5_price (a1 : Int32)   (u : zM) (r : Int32) (u' : zM) (h : m_X5_price a1 u = some (r, u')) : zCt 2 yX5_price cX5_price 3 (some .int) (fun E => [.ref (zad E 0), .int a1]) u (fun _ => some (.int r)) u' := by
  refine zCt.of (by decide +kernel) (fun E => Nat.le_of_ble_eq_true rfl) (fun X hX hR => ?_)
  have hX : zGood X RX5 cX5_price 3 2 := hX
  show zG X u 0 [(0, .ref (zad X.1 0)), (1, .int a1)] []
  unfold m_X5_price at h
  refine r_iload_n hX dX5_price_0 1 rfl rfl ?_
  refine r_iconst (v := 0) hX dX5_price_1 (by decide) ?_
  refine r_bipush (v := 99) hX dX5_price_2 (by decide) ?_
  refine r_callS (As := [.int a1, .int 0, .int 99]) (rest := []) (st1 := [.int (m_X5_within a1 0 99)]) hX dX5_price_4 ls_RX5_80 (c_X5_within a1 0 99  u _ rfl) (by decide) rfl rfl rfl (Nat.le_of_ble_eq_true rfl) rfl ?_
  refine r_if_ne (tgt := 16) hX dX5_price_7 (by decide) (fun c1 => ?_) (fun c1 => ?_)
  · have h := (if_neg c1).symm.trans h
    refine r_aload_n hX dX5_price_16 0 rfl rfl ?_
    refine r_getR hX dX5_price_17 f_RX5_10 zr_0_0 ?_
    refine r_getI hX dX5_price_20 f_RX5_105 zi_1_10 ?_
    refine r_istore_n (y := (u 1 10)) (L' := [(2, .int (u 1 10)), (0, .ref (zad X.1 0)), (1, .int a1)]) hX dX5_price_23 rfl (by decide) rfl rfl ?_
    refine r_aload_n hX dX5_price_24 1 rfl rfl ?_
    refine r_getR hX dX5_price_25 f_RX5_10 zr_0_0 ?_
    refine r_iload_n hX dX5_price_28 2 rfl rfl ?_
    obtain ⟨u2, e3, h⟩ := zlet_elim h
    refine r_putI hX dX5_price_29 f_RX5_105 p_4_10 zi_1_10 ?_
    rw [e3]
    refine r_iload_n hX dX5_price_32 0 rfl rfl ?_
    obtain ⟨rfl, rfl⟩ := zinj2 (Option.some.inj h)
    exact r_iret hX hR dX5_price_33
  · have h := (if_pos c1).symm.trans h
    refine r_aload_n hX dX5_price_10 0 rfl rfl ?_
    refine r_iconst (v := 0) hX dX5_price_11 (by decide) ?_
    obtain ⟨x4, u5, e6, h⟩ := zbind2_elim h
    refine r_callV (As := [.int 0]) (rest := []) (st1 := [.int x4]) hX dX5_price_12 lv_RX5_65 (c_X5_finding 0  u _ _ e6) (by decide) rfl rfl (zRecv.of (q := 0) (ci := 5) rfl rfl) rfl (Nat.le_of_ble_eq_true rfl) rfl ?_
    obtain ⟨rfl, rfl⟩ := zinj2 (Option.some.inj h)
    exact r_iret hX hR dX5_price_15
theorem dX5_famine_0 : decode cX5_famine 0 = .ok (.iload_n 1, 1) := by decide +kernel
theorem dX5_famine_1 : decode cX5_famine 1 = .ok (.iconst 1, 1) := by decide +kernel
theorem dX5_famine_2 : decode cX5_famine 2 = .ok (.bipush 50, 2) := by decide +kernel
theorem dX5_famine_4 : decode cX5_famine 4 = .ok (.invokestatic 80, 3) := by decide +kernel
theorem dX5_famine_7 : decode cX5_famine 7 = .ok (.ifCond .ne 9, 3) := by decide +kernel
theorem dX5_famine_10 : decode cX5_famine 10 = .ok (.aload_n 0, 1) := by decide +kernel
theorem dX5_famine_11 : decode cX5_famine 11 = .ok (.iconst 0, 1) := by decide +kernel
theorem dX5_famine_12 : decode cX5_famine 12 = .ok (.invokevirtual 65, 3) := by decide +kernel
theorem dX5_famine_15 : decode cX5_famine 15 = .ok (.ireturn, 1) := by decide +kernel
theorem dX5_famine_16 : decode cX5_famine 16 = .ok (.iconst 0, 1) := by decide +kernel
theorem dX5_famine_17 : decode cX5_famine 17 = .ok (.istore_n 2, 1) := by decide +kernel
theorem dX5_famine_18 : decode cX5_famine 18 = .ok (.iconst 0, 1) := by decide +kernel
theorem dX5_famine_19 : decode cX5_famine 19 = .ok (.istore_n 3, 1) := by decide +kernel
theorem dX5_famine_20 : decode cX5_famine 20 = .ok (.iload_n 3, 1) := by decide +kernel
theorem dX5_famine_21 : decode cX5_famine 21 = .ok (.aload_n 0, 1) := by decide +kernel
theorem dX5_famine_22 : decode cX5_famine 22 = .ok (.getfield 10, 3) := by decide +kernel
theorem dX5_famine_25 : decode cX5_famine 25 = .ok (.getfield 69, 3) := by decide +kernel
theorem dX5_famine_28 : decode cX5_famine 28 = .ok (.if_icmp .ge 64, 3) := by decide +kernel
theorem dX5_famine_31 : decode cX5_famine 31 = .ok (.aload_n 0, 1) := by decide +kernel
theorem dX5_famine_32 : decode cX5_famine 32 = .ok (.getfield 10, 3) := by decide +kernel
theorem dX5_famine_35 : decode cX5_famine 35 = .ok (.iload_n 3, 1) := by decide +kernel
theorem dX5_famine_36 : decode cX5_famine 36 = .ok (.invokevirtual 108, 3) := by decide +kernel
theorem dX5_famine_39 : decode cX5_famine 39 = .ok (.ifCond .eq 47, 3) := by decide +kernel
theorem dX5_famine_42 : decode cX5_famine 42 = .ok (.bipush 50, 2) := by decide +kernel
theorem dX5_famine_44 : decode cX5_famine 44 = .ok (.aload_n 0, 1) := by decide +kernel
theorem dX5_famine_45 : decode cX5_famine 45 = .ok (.getfield 10, 3) := by decide +kernel
theorem dX5_famine_48 : decode cX5_famine 48 = .ok (.iload_n 3, 1) := by decide +kernel
theorem dX5_famine_49 : decode cX5_famine 49 = .ok (.iconst 1, 1) := by decide +kernel
theorem dX5_famine_50 : decode cX5_famine 50 = .ok (.invokevirtual 111, 3) := by decide +kernel
theorem dX5_famine_53 : decode cX5_famine 53 = .ok (.iload_n 1, 1) := by decide +kernel
theorem dX5_famine_54 : decode cX5_famine 54 = .ok (.isub, 1) := by decide +kernel
theorem dX5_famine_55 : decode cX5_famine 55 = .ok (.invokestatic 114, 3) := by decide +kernel
theorem dX5_famine_58 : decode cX5_famine 58 = .ok (.istore 4, 2) := by decide +kernel
theorem dX5_famine_60 : decode cX5_famine 60 = .ok (.aload_n 0, 1) := by decide +kernel
theorem dX5_famine_61 : decode cX5_famine 61 = .ok (.getfield 10, 3) := by decide +kernel
theorem dX5_famine_64 : decode cX5_famine 64 = .ok (.iload_n 3, 1) := by decide +kernel
theorem dX5_famine_65 : decode cX5_famine 65 = .ok (.iconst 1, 1) := by decide +kernel
theorem dX5_famine_66 : decode cX5_famine 66 = .ok (.iload 4, 2) := by decide +kernel
theorem dX5_famine_68 : decode cX5_famine 68 = .ok (.invokevirtual 119, 3) := by decide +kernel
theorem dX5_famine_71 : decode cX5_famine 71 = .ok (.iload_n 2, 1) := by decide +kernel
theorem dX5_famine_72 : decode cX5_famine 72 = .ok (.iload 4, 2) := by decide +kernel
theorem dX5_famine_74 : decode cX5_famine 74 = .ok (.bipush 50, 2) := by decide +kernel
theorem dX5_famine_76 : decode cX5_famine 76 = .ok (.if_icmp .ne 7, 3) := by decide +kernel
theorem dX5_famine_79 : decode cX5_famine 79 = .ok (.iconst 1, 1) := by decide +kernel
theorem dX5_famine_80 : decode cX5_famine 80 = .ok (.goto 4, 3) := by decide +kernel
theorem dX5_famine_83 : decode cX5_famine 83 = .ok (.iconst 0, 1) := by decide +kernel
theorem dX5_famine_84 : decode cX5_famine 84 = .ok (.iadd, 1) := by decide +kernel
theorem dX5_famine_85 : decode cX5_famine 85 = .ok (.istore_n 2, 1) := by decide +kernel
theorem dX5_famine_86 : decode cX5_famine 86 = .ok (.iinc 3 1, 3) := by decide +kernel
theorem dX5_famine_89 : decode cX5_famine 89 = .ok (.goto (-69), 3) := by decide +kernel
theorem dX5_famine_92 : decode cX5_famine 92 = .ok (.iload_n 2, 1) := by decide +kernel
theorem dX5_famine_93 : decode cX5_famine 93 = .ok (.ireturn, 1) := by decide +kernel
def m_X5_famine_b0 (a1 : Int32) (x2 : Int32) (x3 : Int32) (u4 : zM) : Option ((Int32 × Int32 × zM) ⊕ (Int32 × zM)) :=
  (if (u4 1 6) ≤ x3 then
some (.inr (x2, u4))
else
(if (m_X4_isHere x3 u4) = 0 then
some (.inl (x2, (x3 + 1), u4))
else
zbind (m_X4_inchesOf x3 1 u4) (fun x10 => zbind (m_X4_setInches x3 1 (zmax 50 (x10 - a1)) u4) (fun u12 => (if (zmax 50 (x10 - a1)) = 50 then
some (.inl ((x2 + 1), (x3 + 1), u12))
else
some (.inl ((x2 + 0), (x3 + 1), u12)))))))
def m_X5_famine (a1 : Int32) (u : zM) : Option (Int32 × zM) :=
  (if (m_X5_within a1 1 50) = 0 then
zbind2 (m_X5_finding 0 u) (fun x15 u16 => some (x15, u16))
else
zbind2 (zit zF (fun s : Int32 × Int32 × zM => m_X5_famine_b0 a1 s.1 s.2.1 s.2.2) (0, 0, u)) (fun x5 u6 =>
some (x5, u6)))
set_option maxHeartbeats 4000000 in
set_option maxRecDepth 100000 in
theorem c_X5_famine (a1 : Int32)   (u : zM) (r : Int32) (u' : zM) (h : m_X5_famine a1 u = some (r, u')) : zCt 3 yX5_famine cX5_famine 5 (some .int) (fun E => [.ref (zad E 0), .int a1]) u (fun _ => some (.int r)) u' := by
  refine zCt.of (by decide +kernel) (fun E => Nat.le_of_ble_eq_true rfl) (fun X hX hR => ?_)
  have hX : zGood X RX5 cX5_famine 5 3 := hX
  show zG X u 0 [(0, .ref (zad X.1 0)), (1, .int a1)] []
  unfold m_X5_famine at h
  refine r_iload_n hX dX5_famine_0 1 rfl rfl ?_
  refine r_iconst (v := 1) hX dX5_famine_1 (by decide) ?_
  refine r_bipush (v := 50) hX dX5_famine_2 (by decide) ?_
  refine r_callS (As := [.int a1, .int 1, .int 50]) (rest := []) (st1 := [.int (m_X5_within a1 1 50)]) hX dX5_famine_4 ls_RX5_80 (c_X5_within a1 1 50  u _ rfl) (by decide) rfl rfl rfl (Nat.le_of_ble_eq_true rfl) rfl ?_
  refine r_if_ne (tgt := 16) hX dX5_famine_7 (by decide) (fun c1 => ?_) (fun c1 => ?_)
  · have h := (if_neg c1).symm.trans h
    refine r_iconst (v := 0) hX dX5_famine_16 (by decide) ?_
    refine r_istore_n (y := 0) (L' := [(2, .int 0), (0, .ref (zad X.1 0)), (1, .int a1)]) hX dX5_famine_17 rfl (by decide) rfl rfl ?_
    refine r_iconst (v := 0) hX dX5_famine_18 (by decide) ?_
    refine r_istore_n (y := 0) (L' := [(3, .int 0), (2, .int 0), (0, .ref (zad X.1 0)), (1, .int a1)]) hX dX5_famine_19 rfl (by decide) rfl rfl ?_
    refine r_sub [2, 3, 1, 0] (L' := [(0, .ref (zad X.1 0)), (1, .int a1), (2, .int 0), (3, .int 0)]) rfl ?_
    obtain ⟨x5, u6, h7, h⟩ := zbind2_elim h
    have Jh7 : zG X u6 92 [(2, .int x5)] [] := by
        refine r_iload_n hX dX5_famine_92 0 rfl rfl ?_
        obtain ⟨rfl, rfl⟩ := zinj2 (Option.some.inj h)
        exact r_iret hX hR dX5_famine_93
    clear h
    refine zit_walk (P := fun s0 : Int32 × Int32 × zM => zG X s0.2.2 20 [(0, .ref (zad X.1 0)), (1, .int a1), (2, .int (s0.1)), (3, .int (s0.2.1))] []) ?_ zF _ h7
    clear h7
    intro s0 y0 h0b hin0 hout0
    obtain ⟨x2, x3, u4⟩ := s0
    have h0b : m_X5_famine_b0 a1 x2 x3 u4 = some y0 := h0b
    unfold m_X5_famine_b0 at h0b
    show zG X u4 20 [(0, .ref (zad X.1 0)), (1, .int a1), (2, .int x2), (3, .int x3)] []
    refine r_iload_n hX dX5_famine_20 3 rfl rfl ?_
    refine r_aload_n hX dX5_famine_21 0 rfl rfl ?_
    refine r_getR hX dX5_famine_22 f_RX5_10 zr_0_0 ?_
    refine r_getI hX dX5_famine_25 f_RX5_69 zi_1_6 ?_
    refine r_icmp_ge (tgt := 92) hX dX5_famine_28 (by decide) (fun c8 => ?_) (fun c8 => ?_)
    · have h0b := (if_pos c8).symm.trans h0b
      refine r_sub [2] (L' := [(2, .int x2)]) rfl ?_
      have h0b := hout0 _ (Option.some.inj h0b).symm
      obtain ⟨rfl, rfl⟩ := zinj2 h0b
      exact Jh7
    · have h0b := (if_neg c8).symm.trans h0b
      refine r_aload_n hX dX5_famine_31 0 rfl rfl ?_
      refine r_getR hX dX5_famine_32 f_RX5_10 zr_0_0 ?_
      refine r_iload_n hX dX5_famine_35 3 rfl rfl ?_
      refine r_callV (As := [.int x3]) (rest := []) (st1 := [.int (m_X4_isHere x3 u4)]) hX dX5_famine_36 lv_RX5_108 (c_X4_isHere x3  u4 _ rfl) (by decide) rfl rfl (zRecv.of (q := 1) (ci := 4) rfl rfl) rfl (Nat.le_of_ble_eq_true rfl) rfl ?_
      refine r_if_eq (tgt := 86) hX dX5_famine_39 (by decide) (fun c9 => ?_) (fun c9 => ?_)
      · have h0b := (if_pos c9).symm.trans h0b
        refine r_iinc (v := (x3 + 1)) (L' := [(3, .int (x3 + 1)), (0, .ref (zad X.1 0)), (1, .int a1), (2, .int x2)]) hX dX5_famine_86 (by decide) 3 rfl rfl rfl ?_
        refine r_goto (tgt := 20) hX dX5_famine_89 (by decide) ?_
        refine r_sub [1, 2, 3, 0] (L' := [(0, .ref (zad X.1 0)), (1, .int a1), (2, .int x2), (3, .int (x3 + 1))]) rfl ?_
        exact hin0 _ (Option.some.inj h0b).symm
      · have h0b := (if_neg c9).symm.trans h0b
        refine r_bipush (v := 50) hX dX5_famine_42 (by decide) ?_
        refine r_aload_n hX dX5_famine_44 0 rfl rfl ?_
        refine r_getR hX dX5_famine_45 f_RX5_10 zr_0_0 ?_
        refine r_iload_n hX dX5_famine_48 3 rfl rfl ?_
        refine r_iconst (v := 1) hX dX5_famine_49 (by decide) ?_
        obtain ⟨x10, e11, h0b⟩ := zbind_elim h0b
        refine r_callV (As := [.int x3, .int 1]) (rest := [.int 50]) (st1 := [.int x10, .int 50]) hX dX5_famine_50 lv_RX5_111 (c_X4_inchesOf x3 1  u4 _ e11) (by decide) rfl rfl (zRecv.of (q := 1) (ci := 4) rfl rfl) rfl (Nat.le_of_ble_eq_true rfl) rfl ?_
        refine r_iload_n hX dX5_famine_53 1 rfl rfl ?_
        refine r_isub hX dX5_famine_54 ?_
        refine r_max hX dX5_famine_55 lm_RX5_114 (by decide) (Nat.le_of_ble_eq_true rfl) ?_
        refine r_istore (y := (zmax 50 (x10 - a1))) (L' := [(4, .int (zmax 50 (x10 - a1))), (0, .ref (zad X.1 0)), (1, .int a1), (2, .int x2), (3, .int x3)]) hX dX5_famine_58 (by decide) rfl rfl ?_
        refine r_aload_n hX dX5_famine_60 1 rfl rfl ?_
        refine r_getR hX dX5_famine_61 f_RX5_10 zr_0_0 ?_
        refine r_iload_n hX dX5_famine_64 4 rfl rfl ?_
        refine r_iconst (v := 1) hX dX5_famine_65 (by decide) ?_
        refine r_iload hX dX5_famine_66 0 rfl ?_
        obtain ⟨u12, e13, h0b⟩ := zbind_elim h0b
        refine r_callV (As := [.int x3, .int 1, .int (zmax 50 (x10 - a1))]) (rest := []) (st1 := []) hX dX5_famine_68 lv_RX5_119 (c_X4_setInches x3 1 (zmax 50 (x10 - a1))  u4 _ e13) (by decide) rfl rfl (zRecv.of (q := 1) (ci := 4) rfl rfl) rfl (Nat.le_of_ble_eq_true rfl) rfl ?_
        refine r_iload_n hX dX5_famine_71 3 rfl rfl ?_
        refine r_iload hX dX5_famine_72 0 rfl ?_
        refine r_bipush (v := 50) hX dX5_famine_74 (by decide) ?_
        refine r_icmp_ne (tgt := 83) hX dX5_famine_76 (by decide) (fun c14 => ?_) (fun c14 => ?_)
        · have h0b := (if_neg c14).symm.trans h0b
          refine r_iconst (v := 0) hX dX5_famine_83 (by decide) ?_
          refine r_iadd hX dX5_famine_84 ?_
          refine r_istore_n (y := (x2 + 0)) (L' := [(2, .int (x2 + 0)), (4, .int (zmax 50 (x10 - a1))), (0, .ref (zad X.1 0)), (1, .int a1), (3, .int x3)]) hX dX5_famine_85 rfl (by decide) rfl rfl ?_
          refine r_iinc (v := (x3 + 1)) (L' := [(3, .int (x3 + 1)), (2, .int (x2 + 0)), (4, .int (zmax 50 (x10 - a1))), (0, .ref (zad X.1 0)), (1, .int a1)]) hX dX5_famine_86 (by decide) 4 rfl rfl rfl ?_
          refine r_goto (tgt := 20) hX dX5_famine_89 (by decide) ?_
          refine r_sub [3, 4, 1, 0] (L' := [(0, .ref (zad X.1 0)), (1, .int a1), (2, .int (x2 + 0)), (3, .int (x3 + 1))]) rfl ?_
          exact hin0 _ (Option.some.inj h0b).symm
        · have h0b := (if_pos c14).symm.trans h0b
          refine r_iconst (v := 1) hX dX5_famine_79 (by decide) ?_
          refine r_goto (tgt := 84) hX dX5_famine_80 (by decide) ?_
          refine r_iadd hX dX5_famine_84 ?_
          refine r_istore_n (y := (x2 + 1)) (L' := [(2, .int (x2 + 1)), (4, .int (zmax 50 (x10 - a1))), (0, .ref (zad X.1 0)), (1, .int a1), (3, .int x3)]) hX dX5_famine_85 rfl (by decide) rfl rfl ?_
          refine r_iinc (v := (x3 + 1)) (L' := [(3, .int (x3 + 1)), (2, .int (x2 + 1)), (4, .int (zmax 50 (x10 - a1))), (0, .ref (zad X.1 0)), (1, .int a1)]) hX dX5_famine_86 (by decide) 4 rfl rfl rfl ?_
          refine r_goto (tgt := 20) hX dX5_famine_89 (by decide) ?_
          refine r_sub [3, 4, 1, 0] (L' := [(0, .ref (zad X.1 0)), (1, .int a1), (2, .int (x2 + 1)), (3, .int (x3 + 1))]) rfl ?_
          exact hin0 _ (Option.some.inj h0b).symm
  · have h := (if_pos c1).symm.trans h
    refine r_aload_n hX dX5_famine_10 0 rfl rfl ?_
    refine r_iconst (v := 0) hX dX5_famine_11 (by decide) ?_
    obtain ⟨x15, u16, e17, h⟩ := zbind2_elim h
    refine r_callV (As := [.int 0]) (rest := []) (st1 := [.int x15]) hX dX5_famine_12 lv_RX5_65 (c_X5_finding 0  u _ _ e17) (by decide) rfl rfl (zRecv.of (q := 0) (ci := 5) rfl rfl) rfl (Nat.le_of_ble_eq_true rfl) rfl ?_
    obtain ⟨rfl, rfl⟩ := zinj2 (Option.some.inj h)
    exact r_iret hX hR dX5_famine_15
theorem dX5_isMeasure_0 : decode cX5_isMeasure 0 = .ok (.iload_n 0, 1) := by decide +kernel
theorem dX5_isMeasure_1 : decode cX5_isMeasure 1 = .ok (.iconst 0, 1) := by decide +kernel
theorem dX5_isMeasure_2 : decode cX5_isMeasure 2 = .ok (.iconst 2, 1) := by decide +kernel
theorem dX5_isMeasure_3 : decode cX5_isMeasure 3 = .ok (.invokestatic 80, 3) := by decide +kernel
theorem dX5_isMeasure_6 : decode cX5_isMeasure 6 = .ok (.ireturn, 1) := by decide +kernel
def m_X5_isMeasure (a1 : Int32) : Int32 :=
  (zb (m_X5_within a1 0 2))
set_option maxHeartbeats 4000000 in
set_option maxRecDepth 100000 in
theorem c_X5_isMeasure (a1 : Int32)   (u : zM) (r : Int32) (h : m_X5_isMeasure a1 = r) : zCt 2 yX5_isMeasure cX5_isMeasure 1 (some .boolean) (fun E => [.int a1]) u (fun _ => some (.int r)) u := by
  refine zCt.of (by decide +kernel) (fun E => Nat.le_of_ble_eq_true rfl) (fun X hX hR => ?_)
  have hX : zGood X RX5 cX5_isMeasure 1 2 := hX
  show zG X u 0 [(0, .int a1)] []
  unfold m_X5_isMeasure at h
  refine r_iload_n hX dX5_isMeasure_0 0 rfl rfl ?_
  refine r_iconst (v := 0) hX dX5_isMeasure_1 (by decide) ?_
  refine r_iconst (v := 2) hX dX5_isMeasure_2 (by decide) ?_
  refine r_callS (As := [.int a1, .int 0, .int 2]) (rest := []) (st1 := [.int (m_X5_within a1 0 2)]) hX dX5_isMeasure_3 ls_RX5_80 (c_X5_within a1 0 2  u _ rfl) (by decide) rfl rfl rfl (Nat.le_of_ble_eq_true rfl) rfl ?_
  obtain rfl := h
  exact r_zret hX hR dX5_isMeasure_6
end
