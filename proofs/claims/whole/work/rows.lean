section
-- ===== PART A: goes FIRST, ahead of the names: the tables' words, and 'selects' of the private methods out of them =====
/-- a private method of a class that the tables say can be made, by its rows of tables_1 -/
def lw_okq (q : MethodName × Nat) : Prop := (q.1.cls ≠ "java/lang/invoke/MethodHandle" ∧ q.1.cls ≠ "java/lang/invoke/VarHandle") ∧ Cond.instantiable q.1.cls q.2 ∈ tables_1 ∧ Cond.privateMethod q.1 ∈ tables_1 ∧ Cond.instanceMethod q.1 ∈ tables_1
theorem lw_p0 : lw_okq (⟨"GapLinks", "refuse", "(I)I"⟩, 10) := ⟨⟨by decide +kernel, by decide +kernel⟩, List.mem_of_getElem? (i := 25) (by decide +kernel), List.mem_of_getElem? (i := 420) (by decide +kernel), List.mem_of_getElem? (i := 421) (by decide +kernel)⟩
theorem lw_p1 : lw_okq (⟨"GapLinks$Reader", "step", "()V"⟩, 12) := ⟨⟨by decide +kernel, by decide +kernel⟩, List.mem_of_getElem? (i := 33) (by decide +kernel), List.mem_of_getElem? (i := 435) (by decide +kernel), List.mem_of_getElem? (i := 436) (by decide +kernel)⟩
theorem lw_p2 : lw_okq (⟨"GapLinks$Reader", "stepWord", "()V"⟩, 12) := ⟨⟨by decide +kernel, by decide +kernel⟩, List.mem_of_getElem? (i := 33) (by decide +kernel), List.mem_of_getElem? (i := 442) (by decide +kernel), List.mem_of_getElem? (i := 443) (by decide +kernel)⟩
theorem lw_p3 : lw_okq (⟨"GapLinks$Reader", "stepWhole", "()V"⟩, 12) := ⟨⟨by decide +kernel, by decide +kernel⟩, List.mem_of_getElem? (i := 33) (by decide +kernel), List.mem_of_getElem? (i := 450) (by decide +kernel), List.mem_of_getElem? (i := 451) (by decide +kernel)⟩
theorem lw_p4 : lw_okq (⟨"GapLinks$Reader", "isWord", "(J)Z"⟩, 12) := ⟨⟨by decide +kernel, by decide +kernel⟩, List.mem_of_getElem? (i := 33) (by decide +kernel), List.mem_of_getElem? (i := 455) (by decide +kernel), List.mem_of_getElem? (i := 456) (by decide +kernel)⟩
theorem lw_p5 : lw_okq (⟨"GapLinks$Reader", "readBus", "()V"⟩, 12) := ⟨⟨by decide +kernel, by decide +kernel⟩, List.mem_of_getElem? (i := 33) (by decide +kernel), List.mem_of_getElem? (i := 459) (by decide +kernel), List.mem_of_getElem? (i := 460) (by decide +kernel)⟩
theorem lw_p6 : lw_okq (⟨"GapLinks$Reader", "fail", "(I)V"⟩, 12) := ⟨⟨by decide +kernel, by decide +kernel⟩, List.mem_of_getElem? (i := 33) (by decide +kernel), List.mem_of_getElem? (i := 463) (by decide +kernel), List.mem_of_getElem? (i := 464) (by decide +kernel)⟩
theorem lw_p7 : lw_okq (⟨"GapLinks$Reader", "pass", "(J)V"⟩, 12) := ⟨⟨by decide +kernel, by decide +kernel⟩, List.mem_of_getElem? (i := 33) (by decide +kernel), List.mem_of_getElem? (i := 467) (by decide +kernel), List.mem_of_getElem? (i := 468) (by decide +kernel)⟩
theorem lw_p8 : lw_okq (⟨"GapLinks$Reader", "wholeWithin", "(II)I"⟩, 12) := ⟨⟨by decide +kernel, by decide +kernel⟩, List.mem_of_getElem? (i := 33) (by decide +kernel), List.mem_of_getElem? (i := 472) (by decide +kernel), List.mem_of_getElem? (i := 473) (by decide +kernel)⟩
theorem lw_p9 : lw_okq (⟨"GapLinks$Reader", "checkedWhole", "(Z)I"⟩, 12) := ⟨⟨by decide +kernel, by decide +kernel⟩, List.mem_of_getElem? (i := 33) (by decide +kernel), List.mem_of_getElem? (i := 476) (by decide +kernel), List.mem_of_getElem? (i := 477) (by decide +kernel)⟩
theorem lw_p10 : lw_okq (⟨"GapLinks$Reader", "readEnd", "()V"⟩, 12) := ⟨⟨by decide +kernel, by decide +kernel⟩, List.mem_of_getElem? (i := 33) (by decide +kernel), List.mem_of_getElem? (i := 485) (by decide +kernel), List.mem_of_getElem? (i := 486) (by decide +kernel)⟩
theorem lw_p11 : lw_okq (⟨"GapLinks$Reader", "beginLine", "(II)V"⟩, 12) := ⟨⟨by decide +kernel, by decide +kernel⟩, List.mem_of_getElem? (i := 33) (by decide +kernel), List.mem_of_getElem? (i := 489) (by decide +kernel), List.mem_of_getElem? (i := 490) (by decide +kernel)⟩
theorem lw_p12 : lw_okq (⟨"GapLinks$Reader", "newName", "()J"⟩, 12) := ⟨⟨by decide +kernel, by decide +kernel⟩, List.mem_of_getElem? (i := 33) (by decide +kernel), List.mem_of_getElem? (i := 493) (by decide +kernel), List.mem_of_getElem? (i := 494) (by decide +kernel)⟩
theorem lw_p13 : lw_okq (⟨"GapLinks$Reader", "isName", "()Z"⟩, 12) := ⟨⟨by decide +kernel, by decide +kernel⟩, List.mem_of_getElem? (i := 33) (by decide +kernel), List.mem_of_getElem? (i := 497) (by decide +kernel), List.mem_of_getElem? (i := 498) (by decide +kernel)⟩
theorem lw_p14 : lw_okq (⟨"GapLinks$Reader", "readLink", "()V"⟩, 12) := ⟨⟨by decide +kernel, by decide +kernel⟩, List.mem_of_getElem? (i := 33) (by decide +kernel), List.mem_of_getElem? (i := 511) (by decide +kernel), List.mem_of_getElem? (i := 512) (by decide +kernel)⟩
theorem lw_p15 : lw_okq (⟨"GapLinks$Reader", "knownEnd", "()I"⟩, 12) := ⟨⟨by decide +kernel, by decide +kernel⟩, List.mem_of_getElem? (i := 33) (by decide +kernel), List.mem_of_getElem? (i := 516) (by decide +kernel), List.mem_of_getElem? (i := 517) (by decide +kernel)⟩
def lw_privs_1 : List (MethodName × Nat) := [(⟨"GapLinks", "refuse", "(I)I"⟩, 10), (⟨"GapLinks$Reader", "step", "()V"⟩, 12), (⟨"GapLinks$Reader", "stepWord", "()V"⟩, 12), (⟨"GapLinks$Reader", "stepWhole", "()V"⟩, 12), (⟨"GapLinks$Reader", "isWord", "(J)Z"⟩, 12), (⟨"GapLinks$Reader", "readBus", "()V"⟩, 12), (⟨"GapLinks$Reader", "fail", "(I)V"⟩, 12), (⟨"GapLinks$Reader", "pass", "(J)V"⟩, 12), (⟨"GapLinks$Reader", "wholeWithin", "(II)I"⟩, 12), (⟨"GapLinks$Reader", "checkedWhole", "(Z)I"⟩, 12), (⟨"GapLinks$Reader", "readEnd", "()V"⟩, 12), (⟨"GapLinks$Reader", "beginLine", "(II)V"⟩, 12), (⟨"GapLinks$Reader", "newName", "()J"⟩, 12), (⟨"GapLinks$Reader", "isName", "()Z"⟩, 12), (⟨"GapLinks$Reader", "readLink", "()V"⟩, 12), (⟨"GapLinks$Reader", "knownEnd", "()I"⟩, 12)]
theorem lw_r1 : ∀ q ∈ lw_privs_1, lw_okq q := List.forall_mem_cons.mpr ⟨lw_p0, List.forall_mem_cons.mpr ⟨lw_p1, List.forall_mem_cons.mpr ⟨lw_p2, List.forall_mem_cons.mpr ⟨lw_p3, List.forall_mem_cons.mpr ⟨lw_p4, List.forall_mem_cons.mpr ⟨lw_p5, List.forall_mem_cons.mpr ⟨lw_p6, List.forall_mem_cons.mpr ⟨lw_p7, List.forall_mem_cons.mpr ⟨lw_p8, List.forall_mem_cons.mpr ⟨lw_p9, List.forall_mem_cons.mpr ⟨lw_p10, List.forall_mem_cons.mpr ⟨lw_p11, List.forall_mem_cons.mpr ⟨lw_p12, List.forall_mem_cons.mpr ⟨lw_p13, List.forall_mem_cons.mpr ⟨lw_p14, List.forall_mem_cons.mpr ⟨lw_p15, fun _ h => absurd h List.not_mem_nil⟩⟩⟩⟩⟩⟩⟩⟩⟩⟩⟩⟩⟩⟩⟩⟩
theorem lw_p16 : lw_okq (⟨"GapLinks$Reader", "wholeGap", "()I"⟩, 12) := ⟨⟨by decide +kernel, by decide +kernel⟩, List.mem_of_getElem? (i := 33) (by decide +kernel), List.mem_of_getElem? (i := 521) (by decide +kernel), List.mem_of_getElem? (i := 522) (by decide +kernel)⟩
theorem lw_p17 : lw_okq (⟨"GapLinks$Reader", "readReceivers", "(I)V"⟩, 12) := ⟨⟨by decide +kernel, by decide +kernel⟩, List.mem_of_getElem? (i := 33) (by decide +kernel), List.mem_of_getElem? (i := 533) (by decide +kernel), List.mem_of_getElem? (i := 534) (by decide +kernel)⟩
theorem lw_p18 : lw_okq (⟨"GapLinks$Ways", "layOne", "(LGapLinks$Plan;II)V"⟩, 5) := ⟨⟨by decide +kernel, by decide +kernel⟩, List.mem_of_getElem? (i := 45) (by decide +kernel), List.mem_of_getElem? (i := 557) (by decide +kernel), List.mem_of_getElem? (i := 558) (by decide +kernel)⟩
theorem lw_p19 : lw_okq (⟨"GapLinks$Ways", "lengthen", "(III)V"⟩, 5) := ⟨⟨by decide +kernel, by decide +kernel⟩, List.mem_of_getElem? (i := 45) (by decide +kernel), List.mem_of_getElem? (i := 561) (by decide +kernel), List.mem_of_getElem? (i := 562) (by decide +kernel)⟩
theorem lw_p20 : lw_okq (⟨"GapLinks$Envelope", "burstsThrough", "(LGapLinks$Plan;I)J"⟩, 4) := ⟨⟨by decide +kernel, by decide +kernel⟩, List.mem_of_getElem? (i := 213) (by decide +kernel), List.mem_of_getElem? (i := 586) (by decide +kernel), List.mem_of_getElem? (i := 587) (by decide +kernel)⟩
theorem lw_p21 : lw_okq (⟨"GapLinks$Envelope", "burstAt", "(LGapLinks$Plan;II)J"⟩, 4) := ⟨⟨by decide +kernel, by decide +kernel⟩, List.mem_of_getElem? (i := 213) (by decide +kernel), List.mem_of_getElem? (i := 590) (by decide +kernel), List.mem_of_getElem? (i := 591) (by decide +kernel)⟩
theorem lw_p22 : lw_okq (⟨"GapLinks", "answer", "(I)I"⟩, 10) := ⟨⟨by decide +kernel, by decide +kernel⟩, List.mem_of_getElem? (i := 25) (by decide +kernel), List.mem_of_getElem? (i := 616) (by decide +kernel), List.mem_of_getElem? (i := 617) (by decide +kernel)⟩
theorem lw_p23 : lw_okq (⟨"GapLinks", "noBus", "()Z"⟩, 10) := ⟨⟨by decide +kernel, by decide +kernel⟩, List.mem_of_getElem? (i := 25) (by decide +kernel), List.mem_of_getElem? (i := 632) (by decide +kernel), List.mem_of_getElem? (i := 633) (by decide +kernel)⟩
theorem lw_p24 : lw_okq (⟨"GapLinks", "hasPortOnWay", "(III)Z"⟩, 10) := ⟨⟨by decide +kernel, by decide +kernel⟩, List.mem_of_getElem? (i := 25) (by decide +kernel), List.mem_of_getElem? (i := 672) (by decide +kernel), List.mem_of_getElem? (i := 673) (by decide +kernel)⟩
theorem lw_p25 : lw_okq (⟨"GapLinks", "part", "(JZ)J"⟩, 10) := ⟨⟨by decide +kernel, by decide +kernel⟩, List.mem_of_getElem? (i := 25) (by decide +kernel), List.mem_of_getElem? (i := 765) (by decide +kernel), List.mem_of_getElem? (i := 766) (by decide +kernel)⟩
theorem lw_p26 : lw_okq (⟨"GapLinks$State", "nextChange", "(LGapLinks$Plan;I)I"⟩, 12) := ⟨⟨by decide +kernel, by decide +kernel⟩, List.mem_of_getElem? (i := 235) (by decide +kernel), List.mem_of_getElem? (i := 868) (by decide +kernel), List.mem_of_getElem? (i := 869) (by decide +kernel)⟩
theorem lw_p27 : lw_okq (⟨"GapLinks$State", "growCredit", "(LGapLinks$Plan;I)V"⟩, 12) := ⟨⟨by decide +kernel, by decide +kernel⟩, List.mem_of_getElem? (i := 235) (by decide +kernel), List.mem_of_getElem? (i := 886) (by decide +kernel), List.mem_of_getElem? (i := 887) (by decide +kernel)⟩
theorem lw_p28 : lw_okq (⟨"GapLinks$State", "deliver", "(LGapLinks$Plan;)V"⟩, 12) := ⟨⟨by decide +kernel, by decide +kernel⟩, List.mem_of_getElem? (i := 235) (by decide +kernel), List.mem_of_getElem? (i := 890) (by decide +kernel), List.mem_of_getElem? (i := 891) (by decide +kernel)⟩
theorem lw_p29 : lw_okq (⟨"GapLinks$State", "arriveAtEnd", "(LGapLinks$Plan;II)V"⟩, 12) := ⟨⟨by decide +kernel, by decide +kernel⟩, List.mem_of_getElem? (i := 235) (by decide +kernel), List.mem_of_getElem? (i := 902) (by decide +kernel), List.mem_of_getElem? (i := 903) (by decide +kernel)⟩
theorem lw_p30 : lw_okq (⟨"GapLinks$Ears", "isFresh", "(LGapLinks$Plan;III)Z"⟩, 11) := ⟨⟨by decide +kernel, by decide +kernel⟩, List.mem_of_getElem? (i := 285) (by decide +kernel), List.mem_of_getElem? (i := 915) (by decide +kernel), List.mem_of_getElem? (i := 916) (by decide +kernel)⟩
theorem lw_p31 : lw_okq (⟨"GapLinks$Ears", "take", "(IIIII)V"⟩, 11) := ⟨⟨by decide +kernel, by decide +kernel⟩, List.mem_of_getElem? (i := 285) (by decide +kernel), List.mem_of_getElem? (i := 919) (by decide +kernel), List.mem_of_getElem? (i := 920) (by decide +kernel)⟩
def lw_privs_2 : List (MethodName × Nat) := [(⟨"GapLinks$Reader", "wholeGap", "()I"⟩, 12), (⟨"GapLinks$Reader", "readReceivers", "(I)V"⟩, 12), (⟨"GapLinks$Ways", "layOne", "(LGapLinks$Plan;II)V"⟩, 5), (⟨"GapLinks$Ways", "lengthen", "(III)V"⟩, 5), (⟨"GapLinks$Envelope", "burstsThrough", "(LGapLinks$Plan;I)J"⟩, 4), (⟨"GapLinks$Envelope", "burstAt", "(LGapLinks$Plan;II)J"⟩, 4), (⟨"GapLinks", "answer", "(I)I"⟩, 10), (⟨"GapLinks", "noBus", "()Z"⟩, 10), (⟨"GapLinks", "hasPortOnWay", "(III)Z"⟩, 10), (⟨"GapLinks", "part", "(JZ)J"⟩, 10), (⟨"GapLinks$State", "nextChange", "(LGapLinks$Plan;I)I"⟩, 12), (⟨"GapLinks$State", "growCredit", "(LGapLinks$Plan;I)V"⟩, 12), (⟨"GapLinks$State", "deliver", "(LGapLinks$Plan;)V"⟩, 12), (⟨"GapLinks$State", "arriveAtEnd", "(LGapLinks$Plan;II)V"⟩, 12), (⟨"GapLinks$Ears", "isFresh", "(LGapLinks$Plan;III)Z"⟩, 11), (⟨"GapLinks$Ears", "take", "(IIIII)V"⟩, 11)]
theorem lw_r2 : ∀ q ∈ lw_privs_2, lw_okq q := List.forall_mem_cons.mpr ⟨lw_p16, List.forall_mem_cons.mpr ⟨lw_p17, List.forall_mem_cons.mpr ⟨lw_p18, List.forall_mem_cons.mpr ⟨lw_p19, List.forall_mem_cons.mpr ⟨lw_p20, List.forall_mem_cons.mpr ⟨lw_p21, List.forall_mem_cons.mpr ⟨lw_p22, List.forall_mem_cons.mpr ⟨lw_p23, List.forall_mem_cons.mpr ⟨lw_p24, List.forall_mem_cons.mpr ⟨lw_p25, List.forall_mem_cons.mpr ⟨lw_p26, List.forall_mem_cons.mpr ⟨lw_p27, List.forall_mem_cons.mpr ⟨lw_p28, List.forall_mem_cons.mpr ⟨lw_p29, List.forall_mem_cons.mpr ⟨lw_p30, List.forall_mem_cons.mpr ⟨lw_p31, fun _ h => absurd h List.not_mem_nil⟩⟩⟩⟩⟩⟩⟩⟩⟩⟩⟩⟩⟩⟩⟩⟩
theorem lw_p32 : lw_okq (⟨"GapLinks$State", "arriveAtSwitch", "(LGapLinks$Plan;II)V"⟩, 12) := ⟨⟨by decide +kernel, by decide +kernel⟩, List.mem_of_getElem? (i := 235) (by decide +kernel), List.mem_of_getElem? (i := 924) (by decide +kernel), List.mem_of_getElem? (i := 925) (by decide +kernel)⟩
theorem lw_p33 : lw_okq (⟨"GapLinks$State", "paysCredit", "(LGapLinks$Plan;II)Z"⟩, 12) := ⟨⟨by decide +kernel, by decide +kernel⟩, List.mem_of_getElem? (i := 235) (by decide +kernel), List.mem_of_getElem? (i := 928) (by decide +kernel), List.mem_of_getElem? (i := 929) (by decide +kernel)⟩
theorem lw_p34 : lw_okq (⟨"GapLinks$State", "spread", "(LGapLinks$Plan;III)V"⟩, 12) := ⟨⟨by decide +kernel, by decide +kernel⟩, List.mem_of_getElem? (i := 235) (by decide +kernel), List.mem_of_getElem? (i := 932) (by decide +kernel), List.mem_of_getElem? (i := 933) (by decide +kernel)⟩
theorem lw_p35 : lw_okq (⟨"GapLinks$State", "release", "(LGapLinks$Plan;)V"⟩, 12) := ⟨⟨by decide +kernel, by decide +kernel⟩, List.mem_of_getElem? (i := 235) (by decide +kernel), List.mem_of_getElem? (i := 936) (by decide +kernel), List.mem_of_getElem? (i := 937) (by decide +kernel)⟩
theorem lw_p36 : lw_okq (⟨"GapLinks$State", "beginSending", "(LGapLinks$Plan;)V"⟩, 12) := ⟨⟨by decide +kernel, by decide +kernel⟩, List.mem_of_getElem? (i := 235) (by decide +kernel), List.mem_of_getElem? (i := 941) (by decide +kernel), List.mem_of_getElem? (i := 942) (by decide +kernel)⟩
theorem lw_p37 : lw_okq (⟨"java/lang/Throwable", "fillInStackTrace", "(I)Ljava/lang/Throwable;"⟩, 6) := ⟨⟨by decide +kernel, by decide +kernel⟩, List.mem_of_getElem? (i := 1057) (by decide +kernel), List.mem_of_getElem? (i := 1055) (by decide +kernel), List.mem_of_getElem? (i := 1056) (by decide +kernel)⟩
theorem lw_p38 : lw_okq (⟨"GapLinksModel", "laysWord", "(I)V"⟩, 29) := ⟨⟨by decide +kernel, by decide +kernel⟩, List.mem_of_getElem? (i := 1082) (by decide +kernel), List.mem_of_getElem? (i := 1184) (by decide +kernel), List.mem_of_getElem? (i := 1185) (by decide +kernel)⟩
theorem lw_p39 : lw_okq (⟨"GapLinksModel", "fresh", "()V"⟩, 29) := ⟨⟨by decide +kernel, by decide +kernel⟩, List.mem_of_getElem? (i := 1082) (by decide +kernel), List.mem_of_getElem? (i := 1192) (by decide +kernel), List.mem_of_getElem? (i := 1193) (by decide +kernel)⟩
theorem lw_p40 : lw_okq (⟨"GapLinksModel", "no", "(I)I"⟩, 29) := ⟨⟨by decide +kernel, by decide +kernel⟩, List.mem_of_getElem? (i := 1082) (by decide +kernel), List.mem_of_getElem? (i := 1199) (by decide +kernel), List.mem_of_getElem? (i := 1200) (by decide +kernel)⟩
theorem lw_p41 : lw_okq (⟨"GapLinksModel", "readAll", "(I)I"⟩, 29) := ⟨⟨by decide +kernel, by decide +kernel⟩, List.mem_of_getElem? (i := 1082) (by decide +kernel), List.mem_of_getElem? (i := 1203) (by decide +kernel), List.mem_of_getElem? (i := 1204) (by decide +kernel)⟩
theorem lw_p42 : lw_okq (⟨"GapLinksModel", "goesOn", "()V"⟩, 29) := ⟨⟨by decide +kernel, by decide +kernel⟩, List.mem_of_getElem? (i := 1082) (by decide +kernel), List.mem_of_getElem? (i := 1207) (by decide +kernel), List.mem_of_getElem? (i := 1208) (by decide +kernel)⟩
theorem lw_p43 : lw_okq (⟨"GapLinksModel", "see", "(I)I"⟩, 29) := ⟨⟨by decide +kernel, by decide +kernel⟩, List.mem_of_getElem? (i := 1082) (by decide +kernel), List.mem_of_getElem? (i := 1211) (by decide +kernel), List.mem_of_getElem? (i := 1212) (by decide +kernel)⟩
theorem lw_p44 : lw_okq (⟨"GapLinksModel", "readsWord", "()V"⟩, 29) := ⟨⟨by decide +kernel, by decide +kernel⟩, List.mem_of_getElem? (i := 1082) (by decide +kernel), List.mem_of_getElem? (i := 1215) (by decide +kernel), List.mem_of_getElem? (i := 1216) (by decide +kernel)⟩
theorem lw_p45 : lw_okq (⟨"GapLinksModel", "readLine", "()I"⟩, 29) := ⟨⟨by decide +kernel, by decide +kernel⟩, List.mem_of_getElem? (i := 1082) (by decide +kernel), List.mem_of_getElem? (i := 1221) (by decide +kernel), List.mem_of_getElem? (i := 1222) (by decide +kernel)⟩
theorem lw_p46 : lw_okq (⟨"GapLinksModel", "isWord", "(Ljava/lang/String;)Z"⟩, 29) := ⟨⟨by decide +kernel, by decide +kernel⟩, List.mem_of_getElem? (i := 1082) (by decide +kernel), List.mem_of_getElem? (i := 1226) (by decide +kernel), List.mem_of_getElem? (i := 1227) (by decide +kernel)⟩
theorem lw_p47 : lw_okq (⟨"GapLinksModel", "readBus", "()I"⟩, 29) := ⟨⟨by decide +kernel, by decide +kernel⟩, List.mem_of_getElem? (i := 1082) (by decide +kernel), List.mem_of_getElem? (i := 1278) (by decide +kernel), List.mem_of_getElem? (i := 1279) (by decide +kernel)⟩
def lw_privs_3 : List (MethodName × Nat) := [(⟨"GapLinks$State", "arriveAtSwitch", "(LGapLinks$Plan;II)V"⟩, 12), (⟨"GapLinks$State", "paysCredit", "(LGapLinks$Plan;II)Z"⟩, 12), (⟨"GapLinks$State", "spread", "(LGapLinks$Plan;III)V"⟩, 12), (⟨"GapLinks$State", "release", "(LGapLinks$Plan;)V"⟩, 12), (⟨"GapLinks$State", "beginSending", "(LGapLinks$Plan;)V"⟩, 12), (⟨"java/lang/Throwable", "fillInStackTrace", "(I)Ljava/lang/Throwable;"⟩, 6), (⟨"GapLinksModel", "laysWord", "(I)V"⟩, 29), (⟨"GapLinksModel", "fresh", "()V"⟩, 29), (⟨"GapLinksModel", "no", "(I)I"⟩, 29), (⟨"GapLinksModel", "readAll", "(I)I"⟩, 29), (⟨"GapLinksModel", "goesOn", "()V"⟩, 29), (⟨"GapLinksModel", "see", "(I)I"⟩, 29), (⟨"GapLinksModel", "readsWord", "()V"⟩, 29), (⟨"GapLinksModel", "readLine", "()I"⟩, 29), (⟨"GapLinksModel", "isWord", "(Ljava/lang/String;)Z"⟩, 29), (⟨"GapLinksModel", "readBus", "()I"⟩, 29)]
theorem lw_r3 : ∀ q ∈ lw_privs_3, lw_okq q := List.forall_mem_cons.mpr ⟨lw_p32, List.forall_mem_cons.mpr ⟨lw_p33, List.forall_mem_cons.mpr ⟨lw_p34, List.forall_mem_cons.mpr ⟨lw_p35, List.forall_mem_cons.mpr ⟨lw_p36, List.forall_mem_cons.mpr ⟨lw_p37, List.forall_mem_cons.mpr ⟨lw_p38, List.forall_mem_cons.mpr ⟨lw_p39, List.forall_mem_cons.mpr ⟨lw_p40, List.forall_mem_cons.mpr ⟨lw_p41, List.forall_mem_cons.mpr ⟨lw_p42, List.forall_mem_cons.mpr ⟨lw_p43, List.forall_mem_cons.mpr ⟨lw_p44, List.forall_mem_cons.mpr ⟨lw_p45, List.forall_mem_cons.mpr ⟨lw_p46, List.forall_mem_cons.mpr ⟨lw_p47, fun _ h => absurd h List.not_mem_nil⟩⟩⟩⟩⟩⟩⟩⟩⟩⟩⟩⟩⟩⟩⟩⟩
theorem lw_p48 : lw_okq (⟨"GapLinksModel", "errs", "(I)I"⟩, 29) := ⟨⟨by decide +kernel, by decide +kernel⟩, List.mem_of_getElem? (i := 1082) (by decide +kernel), List.mem_of_getElem? (i := 1282) (by decide +kernel), List.mem_of_getElem? (i := 1283) (by decide +kernel)⟩
theorem lw_p49 : lw_okq (⟨"GapLinksModel", "after", "(Ljava/lang/String;II)I"⟩, 29) := ⟨⟨by decide +kernel, by decide +kernel⟩, List.mem_of_getElem? (i := 1082) (by decide +kernel), List.mem_of_getElem? (i := 1287) (by decide +kernel), List.mem_of_getElem? (i := 1288) (by decide +kernel)⟩
theorem lw_p50 : lw_okq (⟨"GapLinksModel", "passes", "(II)I"⟩, 29) := ⟨⟨by decide +kernel, by decide +kernel⟩, List.mem_of_getElem? (i := 1082) (by decide +kernel), List.mem_of_getElem? (i := 1291) (by decide +kernel), List.mem_of_getElem? (i := 1292) (by decide +kernel)⟩
theorem lw_p51 : lw_okq (⟨"GapLinksModel", "readEnd", "()I"⟩, 29) := ⟨⟨by decide +kernel, by decide +kernel⟩, List.mem_of_getElem? (i := 1082) (by decide +kernel), List.mem_of_getElem? (i := 1300) (by decide +kernel), List.mem_of_getElem? (i := 1301) (by decide +kernel)⟩
theorem lw_p52 : lw_okq (⟨"GapLinksModel", "newName", "(I)I"⟩, 29) := ⟨⟨by decide +kernel, by decide +kernel⟩, List.mem_of_getElem? (i := 1082) (by decide +kernel), List.mem_of_getElem? (i := 1304) (by decide +kernel), List.mem_of_getElem? (i := 1305) (by decide +kernel)⟩
theorem lw_p53 : lw_okq (⟨"GapLinksModel", "isName", "()Z"⟩, 29) := ⟨⟨by decide +kernel, by decide +kernel⟩, List.mem_of_getElem? (i := 1082) (by decide +kernel), List.mem_of_getElem? (i := 1308) (by decide +kernel), List.mem_of_getElem? (i := 1309) (by decide +kernel)⟩
theorem lw_p54 : lw_okq (⟨"GapLinksModel", "told", "()I"⟩, 29) := ⟨⟨by decide +kernel, by decide +kernel⟩, List.mem_of_getElem? (i := 1082) (by decide +kernel), List.mem_of_getElem? (i := 1313) (by decide +kernel), List.mem_of_getElem? (i := 1314) (by decide +kernel)⟩
theorem lw_p55 : lw_okq (⟨"GapLinksModel", "readLink", "()I"⟩, 29) := ⟨⟨by decide +kernel, by decide +kernel⟩, List.mem_of_getElem? (i := 1082) (by decide +kernel), List.mem_of_getElem? (i := 1318) (by decide +kernel), List.mem_of_getElem? (i := 1319) (by decide +kernel)⟩
theorem lw_p56 : lw_okq (⟨"GapLinksModel", "endHere", "()I"⟩, 29) := ⟨⟨by decide +kernel, by decide +kernel⟩, List.mem_of_getElem? (i := 1082) (by decide +kernel), List.mem_of_getElem? (i := 1323) (by decide +kernel), List.mem_of_getElem? (i := 1324) (by decide +kernel)⟩
theorem lw_p57 : lw_okq (⟨"GapLinksModel", "readGap", "()I"⟩, 29) := ⟨⟨by decide +kernel, by decide +kernel⟩, List.mem_of_getElem? (i := 1082) (by decide +kernel), List.mem_of_getElem? (i := 1327) (by decide +kernel), List.mem_of_getElem? (i := 1328) (by decide +kernel)⟩
theorem lw_p58 : lw_okq (⟨"GapLinksModel", "readReceiver", "(I)I"⟩, 29) := ⟨⟨by decide +kernel, by decide +kernel⟩, List.mem_of_getElem? (i := 1082) (by decide +kernel), List.mem_of_getElem? (i := 1337) (by decide +kernel), List.mem_of_getElem? (i := 1338) (by decide +kernel)⟩
theorem lw_p59 : lw_okq (⟨"GapLinksModel", "isHeard", "(II)Z"⟩, 29) := ⟨⟨by decide +kernel, by decide +kernel⟩, List.mem_of_getElem? (i := 1082) (by decide +kernel), List.mem_of_getElem? (i := 1341) (by decide +kernel), List.mem_of_getElem? (i := 1342) (by decide +kernel)⟩
theorem lw_p60 : lw_okq (⟨"GapLinksModel", "begins", "()V"⟩, 29) := ⟨⟨by decide +kernel, by decide +kernel⟩, List.mem_of_getElem? (i := 1082) (by decide +kernel), List.mem_of_getElem? (i := 1345) (by decide +kernel), List.mem_of_getElem? (i := 1346) (by decide +kernel)⟩
theorem lw_p61 : lw_okq (⟨"GapLinksModel", "mostCredit", "(I)I"⟩, 29) := ⟨⟨by decide +kernel, by decide +kernel⟩, List.mem_of_getElem? (i := 1082) (by decide +kernel), List.mem_of_getElem? (i := 1352) (by decide +kernel), List.mem_of_getElem? (i := 1353) (by decide +kernel)⟩
theorem lw_p62 : lw_okq (⟨"GapLinksModel", "linkOf", "(II)I"⟩, 29) := ⟨⟨by decide +kernel, by decide +kernel⟩, List.mem_of_getElem? (i := 1082) (by decide +kernel), List.mem_of_getElem? (i := 1356) (by decide +kernel), List.mem_of_getElem? (i := 1357) (by decide +kernel)⟩
theorem lw_p63 : lw_okq (⟨"GapLinksModel", "isEnd", "(I)Z"⟩, 29) := ⟨⟨by decide +kernel, by decide +kernel⟩, List.mem_of_getElem? (i := 1082) (by decide +kernel), List.mem_of_getElem? (i := 1379) (by decide +kernel), List.mem_of_getElem? (i := 1380) (by decide +kernel)⟩
def lw_privs_4 : List (MethodName × Nat) := [(⟨"GapLinksModel", "errs", "(I)I"⟩, 29), (⟨"GapLinksModel", "after", "(Ljava/lang/String;II)I"⟩, 29), (⟨"GapLinksModel", "passes", "(II)I"⟩, 29), (⟨"GapLinksModel", "readEnd", "()I"⟩, 29), (⟨"GapLinksModel", "newName", "(I)I"⟩, 29), (⟨"GapLinksModel", "isName", "()Z"⟩, 29), (⟨"GapLinksModel", "told", "()I"⟩, 29), (⟨"GapLinksModel", "readLink", "()I"⟩, 29), (⟨"GapLinksModel", "endHere", "()I"⟩, 29), (⟨"GapLinksModel", "readGap", "()I"⟩, 29), (⟨"GapLinksModel", "readReceiver", "(I)I"⟩, 29), (⟨"GapLinksModel", "isHeard", "(II)Z"⟩, 29), (⟨"GapLinksModel", "begins", "()V"⟩, 29), (⟨"GapLinksModel", "mostCredit", "(I)I"⟩, 29), (⟨"GapLinksModel", "linkOf", "(II)I"⟩, 29), (⟨"GapLinksModel", "isEnd", "(I)Z"⟩, 29)]
theorem lw_r4 : ∀ q ∈ lw_privs_4, lw_okq q := List.forall_mem_cons.mpr ⟨lw_p48, List.forall_mem_cons.mpr ⟨lw_p49, List.forall_mem_cons.mpr ⟨lw_p50, List.forall_mem_cons.mpr ⟨lw_p51, List.forall_mem_cons.mpr ⟨lw_p52, List.forall_mem_cons.mpr ⟨lw_p53, List.forall_mem_cons.mpr ⟨lw_p54, List.forall_mem_cons.mpr ⟨lw_p55, List.forall_mem_cons.mpr ⟨lw_p56, List.forall_mem_cons.mpr ⟨lw_p57, List.forall_mem_cons.mpr ⟨lw_p58, List.forall_mem_cons.mpr ⟨lw_p59, List.forall_mem_cons.mpr ⟨lw_p60, List.forall_mem_cons.mpr ⟨lw_p61, List.forall_mem_cons.mpr ⟨lw_p62, List.forall_mem_cons.mpr ⟨lw_p63, fun _ h => absurd h List.not_mem_nil⟩⟩⟩⟩⟩⟩⟩⟩⟩⟩⟩⟩⟩⟩⟩⟩
theorem lw_p64 : lw_okq (⟨"GapLinksModel", "isLink", "(I)Z"⟩, 29) := ⟨⟨by decide +kernel, by decide +kernel⟩, List.mem_of_getElem? (i := 1082) (by decide +kernel), List.mem_of_getElem? (i := 1387) (by decide +kernel), List.mem_of_getElem? (i := 1388) (by decide +kernel)⟩
theorem lw_p65 : lw_okq (⟨"GapLinksModel", "isReceiver", "(III)Z"⟩, 29) := ⟨⟨by decide +kernel, by decide +kernel⟩, List.mem_of_getElem? (i := 1082) (by decide +kernel), List.mem_of_getElem? (i := 1395) (by decide +kernel), List.mem_of_getElem? (i := 1396) (by decide +kernel)⟩
theorem lw_p66 : lw_okq (⟨"GapLinksModel", "receiverOf", "(II)I"⟩, 29) := ⟨⟨by decide +kernel, by decide +kernel⟩, List.mem_of_getElem? (i := 1082) (by decide +kernel), List.mem_of_getElem? (i := 1399) (by decide +kernel), List.mem_of_getElem? (i := 1400) (by decide +kernel)⟩
theorem lw_p67 : lw_okq (⟨"GapLinksModel", "wayLong", "(II)I"⟩, 29) := ⟨⟨by decide +kernel, by decide +kernel⟩, List.mem_of_getElem? (i := 1082) (by decide +kernel), List.mem_of_getElem? (i := 1411) (by decide +kernel), List.mem_of_getElem? (i := 1412) (by decide +kernel)⟩
theorem lw_p68 : lw_okq (⟨"GapLinksModel", "wayOf", "(III)I"⟩, 29) := ⟨⟨by decide +kernel, by decide +kernel⟩, List.mem_of_getElem? (i := 1082) (by decide +kernel), List.mem_of_getElem? (i := 1418) (by decide +kernel), List.mem_of_getElem? (i := 1419) (by decide +kernel)⟩
theorem lw_p69 : lw_okq (⟨"GapLinksModel", "isPort", "(I)Z"⟩, 29) := ⟨⟨by decide +kernel, by decide +kernel⟩, List.mem_of_getElem? (i := 1082) (by decide +kernel), List.mem_of_getElem? (i := 1434) (by decide +kernel), List.mem_of_getElem? (i := 1435) (by decide +kernel)⟩
theorem lw_p70 : lw_okq (⟨"GapLinksModel", "isLoss", "(II)Z"⟩, 29) := ⟨⟨by decide +kernel, by decide +kernel⟩, List.mem_of_getElem? (i := 1082) (by decide +kernel), List.mem_of_getElem? (i := 1449) (by decide +kernel), List.mem_of_getElem? (i := 1450) (by decide +kernel)⟩
theorem lw_p71 : lw_okq (⟨"GapLinksModel", "loadOf", "(I)J"⟩, 29) := ⟨⟨by decide +kernel, by decide +kernel⟩, List.mem_of_getElem? (i := 1082) (by decide +kernel), List.mem_of_getElem? (i := 1473) (by decide +kernel), List.mem_of_getElem? (i := 1474) (by decide +kernel)⟩
theorem lw_p72 : lw_okq (⟨"GapLinksModel", "goesThrough", "(II)Z"⟩, 29) := ⟨⟨by decide +kernel, by decide +kernel⟩, List.mem_of_getElem? (i := 1082) (by decide +kernel), List.mem_of_getElem? (i := 1477) (by decide +kernel), List.mem_of_getElem? (i := 1478) (by decide +kernel)⟩
theorem lw_p73 : lw_okq (⟨"GapLinksModel", "rateOf", "(I)J"⟩, 29) := ⟨⟨by decide +kernel, by decide +kernel⟩, List.mem_of_getElem? (i := 1082) (by decide +kernel), List.mem_of_getElem? (i := 1481) (by decide +kernel), List.mem_of_getElem? (i := 1482) (by decide +kernel)⟩
theorem lw_p74 : lw_okq (⟨"GapLinksModel", "isBorne", "()Z"⟩, 29) := ⟨⟨by decide +kernel, by decide +kernel⟩, List.mem_of_getElem? (i := 1082) (by decide +kernel), List.mem_of_getElem? (i := 1493) (by decide +kernel), List.mem_of_getElem? (i := 1494) (by decide +kernel)⟩
theorem lw_p75 : lw_okq (⟨"GapLinksModel", "delayOf", "(I)J"⟩, 29) := ⟨⟨by decide +kernel, by decide +kernel⟩, List.mem_of_getElem? (i := 1082) (by decide +kernel), List.mem_of_getElem? (i := 1497) (by decide +kernel), List.mem_of_getElem? (i := 1498) (by decide +kernel)⟩
theorem lw_p76 : lw_okq (⟨"GapLinksModel", "burstOf", "(II)J"⟩, 29) := ⟨⟨by decide +kernel, by decide +kernel⟩, List.mem_of_getElem? (i := 1082) (by decide +kernel), List.mem_of_getElem? (i := 1501) (by decide +kernel), List.mem_of_getElem? (i := 1502) (by decide +kernel)⟩
theorem lw_p77 : lw_okq (⟨"GapLinksModel", "portAhead", "(II)I"⟩, 29) := ⟨⟨by decide +kernel, by decide +kernel⟩, List.mem_of_getElem? (i := 1082) (by decide +kernel), List.mem_of_getElem? (i := 1505) (by decide +kernel), List.mem_of_getElem? (i := 1506) (by decide +kernel)⟩
theorem lw_p78 : lw_okq (⟨"GapLinksModel", "boundOf", "(II)J"⟩, 29) := ⟨⟨by decide +kernel, by decide +kernel⟩, List.mem_of_getElem? (i := 1082) (by decide +kernel), List.mem_of_getElem? (i := 1517) (by decide +kernel), List.mem_of_getElem? (i := 1518) (by decide +kernel)⟩
theorem lw_p79 : lw_okq (⟨"GapLinksModel", "isBorn", "(I)I"⟩, 29) := ⟨⟨by decide +kernel, by decide +kernel⟩, List.mem_of_getElem? (i := 1082) (by decide +kernel), List.mem_of_getElem? (i := 1545) (by decide +kernel), List.mem_of_getElem? (i := 1546) (by decide +kernel)⟩
def lw_privs_5 : List (MethodName × Nat) := [(⟨"GapLinksModel", "isLink", "(I)Z"⟩, 29), (⟨"GapLinksModel", "isReceiver", "(III)Z"⟩, 29), (⟨"GapLinksModel", "receiverOf", "(II)I"⟩, 29), (⟨"GapLinksModel", "wayLong", "(II)I"⟩, 29), (⟨"GapLinksModel", "wayOf", "(III)I"⟩, 29), (⟨"GapLinksModel", "isPort", "(I)Z"⟩, 29), (⟨"GapLinksModel", "isLoss", "(II)Z"⟩, 29), (⟨"GapLinksModel", "loadOf", "(I)J"⟩, 29), (⟨"GapLinksModel", "goesThrough", "(II)Z"⟩, 29), (⟨"GapLinksModel", "rateOf", "(I)J"⟩, 29), (⟨"GapLinksModel", "isBorne", "()Z"⟩, 29), (⟨"GapLinksModel", "delayOf", "(I)J"⟩, 29), (⟨"GapLinksModel", "burstOf", "(II)J"⟩, 29), (⟨"GapLinksModel", "portAhead", "(II)I"⟩, 29), (⟨"GapLinksModel", "boundOf", "(II)J"⟩, 29), (⟨"GapLinksModel", "isBorn", "(I)I"⟩, 29)]
theorem lw_r5 : ∀ q ∈ lw_privs_5, lw_okq q := List.forall_mem_cons.mpr ⟨lw_p64, List.forall_mem_cons.mpr ⟨lw_p65, List.forall_mem_cons.mpr ⟨lw_p66, List.forall_mem_cons.mpr ⟨lw_p67, List.forall_mem_cons.mpr ⟨lw_p68, List.forall_mem_cons.mpr ⟨lw_p69, List.forall_mem_cons.mpr ⟨lw_p70, List.forall_mem_cons.mpr ⟨lw_p71, List.forall_mem_cons.mpr ⟨lw_p72, List.forall_mem_cons.mpr ⟨lw_p73, List.forall_mem_cons.mpr ⟨lw_p74, List.forall_mem_cons.mpr ⟨lw_p75, List.forall_mem_cons.mpr ⟨lw_p76, List.forall_mem_cons.mpr ⟨lw_p77, List.forall_mem_cons.mpr ⟨lw_p78, List.forall_mem_cons.mpr ⟨lw_p79, fun _ h => absurd h List.not_mem_nil⟩⟩⟩⟩⟩⟩⟩⟩⟩⟩⟩⟩⟩⟩⟩⟩
theorem lw_p80 : lw_okq (⟨"GapLinksModel", "comes", "(IIIII)Z"⟩, 29) := ⟨⟨by decide +kernel, by decide +kernel⟩, List.mem_of_getElem? (i := 1082) (by decide +kernel), List.mem_of_getElem? (i := 1549) (by decide +kernel), List.mem_of_getElem? (i := 1550) (by decide +kernel)⟩
theorem lw_p81 : lw_okq (⟨"GapLinksModel", "goes", "(I)V"⟩, 29) := ⟨⟨by decide +kernel, by decide +kernel⟩, List.mem_of_getElem? (i := 1082) (by decide +kernel), List.mem_of_getElem? (i := 1568) (by decide +kernel), List.mem_of_getElem? (i := 1569) (by decide +kernel)⟩
theorem lw_p82 : lw_okq (⟨"GapLinksModel", "goesTick", "()V"⟩, 29) := ⟨⟨by decide +kernel, by decide +kernel⟩, List.mem_of_getElem? (i := 1082) (by decide +kernel), List.mem_of_getElem? (i := 1572) (by decide +kernel), List.mem_of_getElem? (i := 1573) (by decide +kernel)⟩
theorem lw_p83 : lw_okq (⟨"GapLinksModel", "leaves", "(II)V"⟩, 29) := ⟨⟨by decide +kernel, by decide +kernel⟩, List.mem_of_getElem? (i := 1082) (by decide +kernel), List.mem_of_getElem? (i := 1576) (by decide +kernel), List.mem_of_getElem? (i := 1577) (by decide +kernel)⟩
theorem lw_p84 : lw_okq (⟨"GapLinksModel", "arrivesAtEnd", "(IIIII)V"⟩, 29) := ⟨⟨by decide +kernel, by decide +kernel⟩, List.mem_of_getElem? (i := 1082) (by decide +kernel), List.mem_of_getElem? (i := 1580) (by decide +kernel), List.mem_of_getElem? (i := 1581) (by decide +kernel)⟩
theorem lw_p85 : lw_okq (⟨"GapLinksModel", "isWhole", "(III)Z"⟩, 29) := ⟨⟨by decide +kernel, by decide +kernel⟩, List.mem_of_getElem? (i := 1082) (by decide +kernel), List.mem_of_getElem? (i := 1584) (by decide +kernel), List.mem_of_getElem? (i := 1585) (by decide +kernel)⟩
theorem lw_p86 : lw_okq (⟨"GapLinksModel", "isTaken", "(II)Z"⟩, 29) := ⟨⟨by decide +kernel, by decide +kernel⟩, List.mem_of_getElem? (i := 1082) (by decide +kernel), List.mem_of_getElem? (i := 1588) (by decide +kernel), List.mem_of_getElem? (i := 1589) (by decide +kernel)⟩
theorem lw_p87 : lw_okq (⟨"GapLinksModel", "takes", "(IIII)V"⟩, 29) := ⟨⟨by decide +kernel, by decide +kernel⟩, List.mem_of_getElem? (i := 1082) (by decide +kernel), List.mem_of_getElem? (i := 1595) (by decide +kernel), List.mem_of_getElem? (i := 1596) (by decide +kernel)⟩
theorem lw_p88 : lw_okq (⟨"GapLinksModel", "arrivesAtSwitch", "(IIIII)V"⟩, 29) := ⟨⟨by decide +kernel, by decide +kernel⟩, List.mem_of_getElem? (i := 1082) (by decide +kernel), List.mem_of_getElem? (i := 1599) (by decide +kernel), List.mem_of_getElem? (i := 1600) (by decide +kernel)⟩
theorem lw_p89 : lw_okq (⟨"GapLinksModel", "switchBehind", "(I)I"⟩, 29) := ⟨⟨by decide +kernel, by decide +kernel⟩, List.mem_of_getElem? (i := 1082) (by decide +kernel), List.mem_of_getElem? (i := 1603) (by decide +kernel), List.mem_of_getElem? (i := 1604) (by decide +kernel)⟩
theorem lw_p90 : lw_okq (⟨"GapLinksModel", "liesBehind", "(III)Z"⟩, 29) := ⟨⟨by decide +kernel, by decide +kernel⟩, List.mem_of_getElem? (i := 1082) (by decide +kernel), List.mem_of_getElem? (i := 1607) (by decide +kernel), List.mem_of_getElem? (i := 1608) (by decide +kernel)⟩
theorem lw_p91 : lw_okq (⟨"GapLinksModel", "sends", "(II)V"⟩, 29) := ⟨⟨by decide +kernel, by decide +kernel⟩, List.mem_of_getElem? (i := 1082) (by decide +kernel), List.mem_of_getElem? (i := 1611) (by decide +kernel), List.mem_of_getElem? (i := 1612) (by decide +kernel)⟩
theorem lw_p92 : lw_okq (⟨"GapLinksModel", "laysAside", "()V"⟩, 29) := ⟨⟨by decide +kernel, by decide +kernel⟩, List.mem_of_getElem? (i := 1082) (by decide +kernel), List.mem_of_getElem? (i := 1619) (by decide +kernel), List.mem_of_getElem? (i := 1620) (by decide +kernel)⟩
theorem lw_p93 : lw_okq (⟨"GapLinksModel", "takesBack", "()V"⟩, 29) := ⟨⟨by decide +kernel, by decide +kernel⟩, List.mem_of_getElem? (i := 1082) (by decide +kernel), List.mem_of_getElem? (i := 1623) (by decide +kernel), List.mem_of_getElem? (i := 1624) (by decide +kernel)⟩
theorem lw_p94 : lw_okq (⟨"GapLinksModel", "waitingMany", "()I"⟩, 29) := ⟨⟨by decide +kernel, by decide +kernel⟩, List.mem_of_getElem? (i := 1082) (by decide +kernel), List.mem_of_getElem? (i := 1635) (by decide +kernel), List.mem_of_getElem? (i := 1636) (by decide +kernel)⟩
theorem lw_p95 : lw_okq (⟨"GapLinksModel", "frameMany", "()I"⟩, 29) := ⟨⟨by decide +kernel, by decide +kernel⟩, List.mem_of_getElem? (i := 1082) (by decide +kernel), List.mem_of_getElem? (i := 1639) (by decide +kernel), List.mem_of_getElem? (i := 1640) (by decide +kernel)⟩
def lw_privs_6 : List (MethodName × Nat) := [(⟨"GapLinksModel", "comes", "(IIIII)Z"⟩, 29), (⟨"GapLinksModel", "goes", "(I)V"⟩, 29), (⟨"GapLinksModel", "goesTick", "()V"⟩, 29), (⟨"GapLinksModel", "leaves", "(II)V"⟩, 29), (⟨"GapLinksModel", "arrivesAtEnd", "(IIIII)V"⟩, 29), (⟨"GapLinksModel", "isWhole", "(III)Z"⟩, 29), (⟨"GapLinksModel", "isTaken", "(II)Z"⟩, 29), (⟨"GapLinksModel", "takes", "(IIII)V"⟩, 29), (⟨"GapLinksModel", "arrivesAtSwitch", "(IIIII)V"⟩, 29), (⟨"GapLinksModel", "switchBehind", "(I)I"⟩, 29), (⟨"GapLinksModel", "liesBehind", "(III)Z"⟩, 29), (⟨"GapLinksModel", "sends", "(II)V"⟩, 29), (⟨"GapLinksModel", "laysAside", "()V"⟩, 29), (⟨"GapLinksModel", "takesBack", "()V"⟩, 29), (⟨"GapLinksModel", "waitingMany", "()I"⟩, 29), (⟨"GapLinksModel", "frameMany", "()I"⟩, 29)]
theorem lw_r6 : ∀ q ∈ lw_privs_6, lw_okq q := List.forall_mem_cons.mpr ⟨lw_p80, List.forall_mem_cons.mpr ⟨lw_p81, List.forall_mem_cons.mpr ⟨lw_p82, List.forall_mem_cons.mpr ⟨lw_p83, List.forall_mem_cons.mpr ⟨lw_p84, List.forall_mem_cons.mpr ⟨lw_p85, List.forall_mem_cons.mpr ⟨lw_p86, List.forall_mem_cons.mpr ⟨lw_p87, List.forall_mem_cons.mpr ⟨lw_p88, List.forall_mem_cons.mpr ⟨lw_p89, List.forall_mem_cons.mpr ⟨lw_p90, List.forall_mem_cons.mpr ⟨lw_p91, List.forall_mem_cons.mpr ⟨lw_p92, List.forall_mem_cons.mpr ⟨lw_p93, List.forall_mem_cons.mpr ⟨lw_p94, List.forall_mem_cons.mpr ⟨lw_p95, fun _ h => absurd h List.not_mem_nil⟩⟩⟩⟩⟩⟩⟩⟩⟩⟩⟩⟩⟩⟩⟩⟩
theorem lw_p96 : lw_okq (⟨"GapLinksModel", "isSilent", "(I)Z"⟩, 29) := ⟨⟨by decide +kernel, by decide +kernel⟩, List.mem_of_getElem? (i := 1082) (by decide +kernel), List.mem_of_getElem? (i := 1655) (by decide +kernel), List.mem_of_getElem? (i := 1656) (by decide +kernel)⟩
theorem lw_p97 : lw_okq (⟨"GapLinksModel", "receiverMany", "()I"⟩, 29) := ⟨⟨by decide +kernel, by decide +kernel⟩, List.mem_of_getElem? (i := 1082) (by decide +kernel), List.mem_of_getElem? (i := 1663) (by decide +kernel), List.mem_of_getElem? (i := 1664) (by decide +kernel)⟩
def lw_privs_7 : List (MethodName × Nat) := [(⟨"GapLinksModel", "isSilent", "(I)Z"⟩, 29), (⟨"GapLinksModel", "receiverMany", "()I"⟩, 29)]
theorem lw_r7 : ∀ q ∈ lw_privs_7, lw_okq q := List.forall_mem_cons.mpr ⟨lw_p96, List.forall_mem_cons.mpr ⟨lw_p97, fun _ h => absurd h List.not_mem_nil⟩⟩
def lw_privs : List (MethodName × Nat) := lw_privs_1 ++ (lw_privs_2 ++ (lw_privs_3 ++ (lw_privs_4 ++ (lw_privs_5 ++ (lw_privs_6 ++ (lw_privs_7))))))
def lw_tbl : List Cond := k2_sels lw_privs ++ tables_1
theorem lw_privs_ok : ∀ q ∈ lw_privs, lw_okq q := by
  show ∀ q ∈ lw_privs_1 ++ (lw_privs_2 ++ (lw_privs_3 ++ (lw_privs_4 ++ (lw_privs_5 ++ (lw_privs_6 ++ (lw_privs_7)))))), lw_okq q
  exact List.forall_mem_append.mpr ⟨lw_r1, List.forall_mem_append.mpr ⟨lw_r2, List.forall_mem_append.mpr ⟨lw_r3, List.forall_mem_append.mpr ⟨lw_r4, List.forall_mem_append.mpr ⟨lw_r5, List.forall_mem_append.mpr ⟨lw_r6, lw_r7⟩⟩⟩⟩⟩⟩
-- ===== end of PART A; then your names; then what follows =====
/-! ===== BEGIN words of one list among another's, by their places ===== -/
theorem goodIn_r {big : List Cond} (ws : List Cond) (ps : List Nat) (hp : ws = ps.filterMap (fun i => big[i]?)) (h : ws.all goodWord = true) : GoodIn big ws := by
  intro w hw
  have h1 := List.all_eq_true.mp h w hw
  rw [hp] at hw
  obtain ⟨i, -, hi⟩ := List.mem_filterMap.mp hw
  have hm : w ∈ big := by first | exact List.mem_of_getElem? hi | exact List.getElem?_mem hi
  exact ⟨hm, good_of_word h1⟩
theorem goodIn_app {big a b : List Cond} (ha : GoodIn big a) (hb : GoodIn big b) : GoodIn big (a ++ b) := fun w h => (List.mem_append.mp h).elim (ha w) (hb w)
theorem goodIn_ca {big a b : List Cond} {c : Cond} (ha : GoodIn big (c :: a)) (hb : GoodIn big b) : GoodIn big (c :: (a ++ b)) := fun w h => (List.mem_cons.mp h).elim (fun e => ha w (List.mem_cons.mpr (Or.inl e))) (fun h => (List.mem_append.mp h).elim (fun h => ha w (List.mem_cons.mpr (Or.inr h))) (hb w))
theorem goodIn_sub {big ws : List Cond} (hm : ∀ w ∈ ws, w ∈ big) (h : ws.all goodWord = true) : GoodIn big ws := fun w hw => ⟨hm w hw, good_of_word (List.all_eq_true.mp h w hw)⟩
/-! ===== END ===== -/

/-! ===== BEGIN exceptions that leave a method, and their catching by the caller (launches without stack traces) ===== -/
section VXA
/-! The laws vx_back, vx_callV, vx_callS, vx_callSW, vx_throw0, vx_throwS follow proofs of the library, with one case more: JvmDerived/Free/Laws.lean (Back.of_free), Shelf42/LK1.lean (callV, callS), Shelf/KitTraced.lean (throwNew0V, throwNewS). -/
/-- where a method has thrown q: the class by its name, the cell, what was written, the world -/
def vx_T (XC : String → State → State → Prop) (st : State) (q : Addr) (t : State) (mc ms : Nat) (free : Addr → Prop) : Prop :=
  ∃ (E : String) (ce : Cell) (L : List Loc), XC E st t ∧ t.heap[q]? = some ce ∧ ce.vm = .none ∧ st.vm.findClass E = some ce.cls ∧ st.WarmedH t.vm ∧ st.sameButNew ({ t with vm := st.vm } : State) L mc ms ∧ ∀ z ∈ L, free z.base
def vx_Q (Qc : Array Value → State → Outcome → State → Prop) (XC : String → State → State → Prop) (mc ms : Nat) (free : Addr → Prop) : Array Value → State → Outcome → State → Prop := fun a st o t =>
  (Qc a st o t ∧ ∃ L, FrameEnd st o t L mc ms ∧ ∀ q ∈ L, free q.base) ∨ ∃ q, o = .threw q ∧ vx_T XC st q t mc ms free
/-- a callee that returns or throws -/
def vx_Met (l : Launch) (y : MethodName) (ws : List Cond) (rm : Room) (Pc : Array Value → State → Prop) (Qc : Array Value → State → Outcome → State → Prop) (XC : String → State → State → Prop) (mc ms : Nat) (free : Addr → Prop) : Prop :=
  MetFree l y (headSpec ws rm) Pc (fun _ _ _ _ _ => True) (vx_Q Qc XC mc ms free)
def vx_Post (XC : String → State → State → Prop) (mc ms : Nat) (free : Addr → Prop) : Pt → Array Value → Addr → Pt → Prop := fun A a q B =>
  ∃ (g : JFrame) (mk : MethodId) (t : State) (L : List Loc) (E : String) (ce : Cell), B.U.heap = t.heap ∧ B.U.vm = t.vm ∧ XC E (A.U.calling g mk a) t ∧ t.heap[q]? = some ce ∧ ce.vm = .none ∧ A.U.vm.findClass E = some ce.cls ∧ B.locs = A.locs ++ L ∧ (∀ z ∈ L, free z.base) ∧ B.cells = A.cells + mc ∧ B.slots = A.slots + ms
def vx_Back (l : Launch) (R : Room) (p : Program) (e : Env) (below : List Frame) (s : State) (sargs : Array Value) (y : MethodName) (len W9 : Nat)
    (Pre : Pt → Array Value → Prop) (Post : Pt → Array Value → Option Value → Pt → Prop) (PostX : Pt → Array Value → Addr → Pt → Prop) : Prop :=
  ∀ (m : MethodId) (meth : Method) (c : Code) (A : Pt) (g : JFrame) (ig : Instr) (mk : MethodId) (a : Array Value),
    Stand p l e R s m sargs below meth c A.U A.locs A.cells A.slots → g.method = m → g.locals.size = c.maxLocals → decode c.code g.pc = .ok (ig, len) →
    2 * g.monitorRoom + (g.stack.map fun v => v.category).sum ≤ W9 → A.U.methodNamed? y = some mk → Pre A a →
    (∃ (v : Option Value) (B : Pt), Stand p l e R s m sargs below meth c B.U B.locs B.cells B.slots ∧ Post A a v B ∧
      Steps p.tables e below (doInvoke e (A.U.setTop g) [] mk a).1 (B.U.setTop { g with pc := g.pc + len, stack := v.toList ++ g.stack })) ∨
    (∃ (q : Addr) (B : Pt), Stand p l e R s m sargs below meth c B.U B.locs B.cells B.slots ∧ PostX A a q B ∧
      Steps p.tables e below (doInvoke e (A.U.setTop g) [] mk a).1 ((B.U.setTop g).pushFrame (.throwing q)))
section Payer
variable {l : Launch} {R : Room} {p : Program} {e : Env} {below : List Frame} {s : State} {sargs : Array Value} {y : MethodName} {len W9 : Nat}
theorem vx_back {ws : List Cond} {rm : Room} {Pc : Array Value → State → Prop} {Qc : Array Value → State → Outcome → State → Prop} {XC : String → State → State → Prop} {mc ms : Nat} {free : Addr → Prop} {bytes : ByteArray} {maxL : Nat} {ret : Option FieldType}
    (hM : vx_Met l y ws rm Pc Qc XC mc ms free) (hblind : FrameBlind Pc) (hrc : rm.cells = mc) (hrs : rm.slots = ms)
    (hframes : rm.frames + 1 ≤ R.frames) (hlocals : W9 + (maxL + 11) + rm.locals ≤ R.locals)
    (hws : ∀ w ∈ ws, ∀ a' U, s.WarmedH U.vm → w.before a' U = true) (hcode : Cond.code y bytes maxL ret ∈ ws) (hinit : ∀ a' U, s.WarmedH U.vm → (Cond.initialized y.cls).before a' U = true) :
    vx_Back l R p e below s sargs y len W9 (PreOf R mc ms Pc) (PostOf Qc mc ms free) (vx_Post XC mc ms free) := by
  intro m meth c A g ig mk a X hg hsize hdg hW hn hp
  have h1 : (headSpec ws rm).pre.before a A.U = true := atoms_intro fun w hw => hws w hw _ _ X.warmed
  have h2 : (Cond.code y bytes maxL ret).before a A.U = true := hws _ hcode _ _ X.warmed
  have h3 : (Cond.initialized y.cls).before a A.U = true := hinit _ _ X.warmed
  have h4 : A.cells + (headSpec ws rm).room.cells ≤ R.cells := by rw [show (headSpec ws rm).room.cells = mc from hrc]; exact hp.1
  have h5 : A.slots + (headSpec ws rm).room.slots ≤ R.slots := by rw [show (headSpec ws rm).room.slots = ms from hrs]; exact hp.2.1
  have hPc : Pc a (A.U.calling g mk a) := hblind _ _ _ _ hp.2.2
  obtain ⟨U, Ls, c0, s0⟩ := A
  dsimp only [Pt.U, Pt.locs, Pt.cells, Pt.slots] at h1 h2 h3 h4 h5 X hn hPc ⊢
  obtain ⟨methY, cY, hmY, hcY, -, hlY, -, -, -, -⟩ := Cond.code_spec hn h2
  obtain ⟨kY, hkY, -⟩ := className_of_methodNamed hn
  have hinitY : kY.init = .initialized := Cond.initialized_spec (findClass_of_methodNamed hn) hkY h3
  have h : At U g.method c below := by rw [hg]; exact X.here
  have hlocals9 : W9 + (maxL + 11) + (headSpec ws rm).room.locals ≤ R.locals := hlocals
  have happ : (headSpec ws rm).appliesLoose y e.platform (U.calling g mk a) = true :=
    Spec.appliesLoose_calling (g := g) h hdg hn hkY hinitY
      (X.room_calling (g := g) (R' := (headSpec ws rm).room) hsize hmY hcY hframes (by rw [hlY]; omega) h4 h5) h1
  obtain ⟨mid, hmid⟩ := h.above
  have hfr : (U.setTop g).frames = (.java g :: mid) ++ below := by rw [State.frames_setTop' g h.top, hmid]; rfl
  obtain ⟨o, s₂, hsteps, -, hend, hq⟩ := Steps.callFree hM p X.admits X.cas X.clock (acts := []) hfr happ hPc trivial
  have hq' : vx_Q Qc XC mc ms free a (U.calling g mk a) o s₂ := hq
  rw [State.frames_setTop' g h.top] at hend
  obtain ⟨g₀, hg0⟩ := Option.isSome_iff_exists.mp h.top
  obtain ⟨r, hr⟩ := State.topJava?_eq_some.mp hg0
  have hr' : (({ U with heap := s₂.heap, slotsUsed := s₂.slotsUsed } : State).setVm s₂.vm).frames = .java g₀ :: r := hr
  rcases hq' with ⟨hqc, L, hfe, hL⟩ | ⟨q, rfl, E, ce, L, hx, hce, hcv, hcl, hW₂, hsm, hL⟩
  · obtain ⟨⟨v, rfl⟩, hW₂, e2, q2, q3, q4, q5, q6⟩ := id hfe
    have e3 : s₂ = ({ (U.calling g mk a).setFrames s₂.frames with heap := s₂.heap, slotsUsed := s₂.slotsUsed } : State).setVm s₂.vm := by
      have : s₂ = ({ s₂ with vm := (U.calling g mk a).vm } : State).setVm s₂.vm := rfl
      rw [e2] at this
      exact this
    obtain ⟨c₂, i₂, len₂, hc₂, hd₂, hf₂⟩ := hend
    have hW' : U.WarmedH s₂.vm := hW₂
    have hcc : c₂ = c := by
      have h1 : s₂.code? g.method = U.code? g.method := by
        rw [State.code?_eq, State.code?_eq, hW'.alike.method?]
      exact Option.some.inj (hc₂.symm.trans (h1.trans h.code))
    subst hcc
    have hlen : len₂ = len := by rw [hdg] at hd₂; cases hd₂; rfl
    subst hlen
    have hs₂ : s₂ = (({ U with heap := s₂.heap, slotsUsed := s₂.slotsUsed } : State).setVm s₂.vm).setTop { g with pc := g.pc + len₂, stack := v.toList ++ g.stack } := by
      refine e3.trans ?_
      rw [hf₂, State.calling_eq h.top, State.setFrames_setFrames, State.setTop_of_frames _ hr', hr]
      rfl
    have hsame : U.sameButNew ({ U with heap := s₂.heap, slotsUsed := s₂.slotsUsed } : State) L mc ms := by
      refine ⟨?_, q2, q3, q4, q5, q6⟩
      obtain ⟨t, ht, -⟩ := State.frames_cons hr
      show ({ U with heap := s₂.heap, slotsUsed := s₂.slotsUsed } : State) = { U.setFrames U.frames with heap := s₂.heap, slotsUsed := s₂.slotsUsed }
      rw [State.setFrames_self ht]
    subst hg
    refine Or.inl ⟨v, ⟨(({ U with heap := s₂.heap, slotsUsed := s₂.slotsUsed } : State).setVm s₂.vm), Ls ++ L, c0 + mc, s0 + ms⟩,
      ⟨X.admits, X.cas, X.clock, X.frames, X.room, X.hears, X.method, X.code, (X.here.setHeapUsed s₂.heap s₂.slotsUsed).setVm hW'.alike, X.tail, State.WarmedH.trans X.warmed hW', X.limits, X.bytes, X.same.trans (hsame.setVm s.vm)⟩,
      ⟨g, mk, s₂, L, rfl, rfl, hqc, rfl, hL, rfl, rfl⟩, ?_⟩
    show Steps p.tables e below _ ((({ U with heap := s₂.heap, slotsUsed := s₂.slotsUsed } : State).setVm s₂.vm).setTop { g with pc := g.pc + len₂, stack := v.toList ++ g.stack })
    rw [← hs₂]
    exact hsteps
  · obtain ⟨e2, q2, q3, q4, q5, q6⟩ := id hsm
    have e3 : s₂ = ({ (U.calling g mk a).setFrames s₂.frames with heap := s₂.heap, slotsUsed := s₂.slotsUsed } : State).setVm s₂.vm := by
      have : s₂ = ({ s₂ with vm := (U.calling g mk a).vm } : State).setVm s₂.vm := rfl
      rw [e2] at this
      exact this
    have hf₂ : s₂.frames = .throwing q :: .java g :: U.frames.tail := hend
    have hW' : U.WarmedH s₂.vm := hW₂
    have hs₂ : s₂ = ((({ U with heap := s₂.heap, slotsUsed := s₂.slotsUsed } : State).setVm s₂.vm).setTop g).pushFrame (.throwing q) := by
      refine e3.trans ?_
      rw [hf₂, State.calling_eq h.top, State.setFrames_setFrames, State.pushFrame, State.frames_setTop _ hr', State.setTop_of_frames _ hr', State.setFrames_setFrames, hr]
      rfl
    have hsame : U.sameButNew ({ U with heap := s₂.heap, slotsUsed := s₂.slotsUsed } : State) L mc ms := by
      refine ⟨?_, q2, q3, q4, q5, q6⟩
      obtain ⟨t, ht, -⟩ := State.frames_cons hr
      show ({ U with heap := s₂.heap, slotsUsed := s₂.slotsUsed } : State) = { U.setFrames U.frames with heap := s₂.heap, slotsUsed := s₂.slotsUsed }
      rw [State.setFrames_self ht]
    subst hg
    refine Or.inr ⟨q, ⟨(({ U with heap := s₂.heap, slotsUsed := s₂.slotsUsed } : State).setVm s₂.vm), Ls ++ L, c0 + mc, s0 + ms⟩,
      ⟨X.admits, X.cas, X.clock, X.frames, X.room, X.hears, X.method, X.code, (X.here.setHeapUsed s₂.heap s₂.slotsUsed).setVm hW'.alike, X.tail, State.WarmedH.trans X.warmed hW', X.limits, X.bytes, X.same.trans (hsame.setVm s.vm)⟩,
      ⟨g, mk, s₂, L, E, ce, rfl, rfl, hx, hce, hcv, hcl, rfl, hL, rfl, rfl⟩, ?_⟩
    show Steps p.tables e below _ (((({ U with heap := s₂.heap, slotsUsed := s₂.slotsUsed } : State).setVm s₂.vm).setTop g).pushFrame (.throwing q))
    rw [← hs₂]
    exact hsteps
end Payer
section Calls
variable {p : Program} {l : Launch} {e : Env} {R : Room} {s : State} {m : MethodId} {args : Array Value} {below : List Frame} {meth : Method} {c : Code} {T : State} {locs : List Loc} {cells slots : Nat}
theorem vx_callV (X : Stand p l e R s m args below meth c T locs cells slots) (hexec : p.tables.exec = Jvm.exec) {own C : String} {index : Nat} {y : MethodName} {bytes : ByteArray} {maxL : Nat} {ret : Option FieldType}
    (hown : s.vm.findClass own = some m.cls) (hlink : (Cond.methodLink own index y).before args s = true) (hinst : (Cond.instanceMethod y).before args s = true) (hsel : (Cond.selects C y y).before args s = true)
    (hcode : (Cond.code y bytes maxL ret).before args s = true) (hy : y.cls ≠ "java/lang/invoke/MethodHandle" ∧ y.cls ≠ "java/lang/invoke/VarHandle")
    {W9 : Nat} {Pre : Pt → Array Value → Prop} {Post : Pt → Array Value → Option Value → Pt → Prop} {PostX : Pt → Array Value → Addr → Pt → Prop} (hK : vx_Back l R p e below s args y 3 W9 Pre Post PostX)
    {b : Addr} {cellB : Cell} (hcell : T.heap[b]? = some cellB) (hobj : cellB.vm.isStatics = false) (hcls : s.vm.findClass C = some cellB.cls)
    {g : JFrame} (hg : g.method = m) (hsize : g.locals.size = c.maxLocals) {argsL rest : List Value} (hlen : ∀ sig, parseMethodDescriptor y.desc = some sig → argsL.length = sig.parameters.length)
    (hstack : g.stack = argsL.reverse ++ .ref b :: rest) (hW : 2 * g.monitorRoom + (rest.map fun v => v.category).sum ≤ W9) (hdg : decode c.code g.pc = .ok (.invokevirtual index, 3))
    (hpre : ∀ vm₁, s.WarmedH vm₁ → Pre ⟨T.setVm vm₁, locs, cells, slots⟩ (Value.ref b :: argsL).toArray) :
    (∃ (v : Option Value) (vm₁ : Vm) (B : Pt), s.WarmedH vm₁ ∧ Stand p l e R s m args below meth c B.U B.locs B.cells B.slots ∧ Post ⟨T.setVm vm₁, locs, cells, slots⟩ (Value.ref b :: argsL).toArray v B ∧
      ∀ target, Steps p.tables e below (B.U.setTop { g with pc := g.pc + 3, stack := v.toList ++ rest }) target → Steps p.tables e below (T.setTop g) target) ∨
    (∃ (q : Addr) (vm₁ : Vm) (B : Pt), s.WarmedH vm₁ ∧ Stand p l e R s m args below meth c B.U B.locs B.cells B.slots ∧ PostX ⟨T.setVm vm₁, locs, cells, slots⟩ (Value.ref b :: argsL).toArray q B ∧
      Steps p.tables e below (T.setTop g) ((B.U.setTop { g with stack := rest }).pushFrame (.throwing q))) := by
  obtain ⟨mk, methM, hnamed, hmethM, hstM, habM⟩ := Cond.instanceMethod_spec hinst
  obtain ⟨methM', cM, hmethM', -, -, -, -, -, -, hsigM⟩ := Cond.code_spec hnamed hcode
  cases hmethM.symm.trans hmethM'
  obtain ⟨c2, r2, m2, q1, q2, q3, q4, kP, hkP, hkPi⟩ := Cond.selects_spec hsel
  cases hcls.symm.trans q1
  cases (State.methodFound?_of_named hnamed hy).symm.trans q2
  cases hnamed.symm.trans q3
  have hselP : selectMethod e.platform s.vm cellB.cls mk = .method mk := by rw [Launch.admits_selectMethod X.admits]; exact q4
  obtain ⟨vm₁, X₁, hstep₁⟩ := X.invokevirtual hexec hown hlink hnamed hmethM hstM hkP hkPi hy (a := b) (cell := cellB) hcell
    (fun z h => by rw [h] at hobj; cases hobj) hselP hmethM habM hkP hkPi (g := g) hg (argsL := argsL) (rest := rest) (hlen _ hsigM) hstack hdg
  rcases hK m meth c ⟨T.setVm vm₁, locs, cells, slots⟩ { g with stack := rest } (.invokevirtual index) mk (Value.ref b :: argsL).toArray X₁ hg hsize hdg hW (X₁.named hnamed) (hpre vm₁ X₁.warmed) with ⟨v, B, X', hpost, hsteps⟩ | ⟨q, B, X', hpost, hsteps⟩
  · exact Or.inl ⟨v, vm₁, B, X₁.warmed, X', hpost, fun target h => hstep₁ _ fun acts => by rw [doInvoke_state]; exact hsteps.trans h⟩
  · exact Or.inr ⟨q, vm₁, B, X₁.warmed, X', hpost, hstep₁ _ fun acts => by rw [doInvoke_state]; exact hsteps⟩
theorem vx_callS (X : Stand p l e R s m args below meth c T locs cells slots) (hexec : p.tables.exec = Jvm.exec) {own : String} {index : Nat} {y : MethodName} {bytes : ByteArray} {maxL : Nat} {ret : Option FieldType}
    (hown : s.vm.findClass own = some m.cls) (hlink : (Cond.methodLink own index y).before args s = true) (hstat : (Cond.static y).before args s = true) (hinit : (Cond.initialized y.cls).before args s = true)
    (hcode : (Cond.code y bytes maxL ret).before args s = true) (hy : y.cls ≠ "java/lang/invoke/MethodHandle" ∧ y.cls ≠ "java/lang/invoke/VarHandle")
    {W9 : Nat} {Pre : Pt → Array Value → Prop} {Post : Pt → Array Value → Option Value → Pt → Prop} {PostX : Pt → Array Value → Addr → Pt → Prop} (hK : vx_Back l R p e below s args y 3 W9 Pre Post PostX)
    {g : JFrame} (hg : g.method = m) (hsize : g.locals.size = c.maxLocals) {argsL rest : List Value} (hlen : ∀ sig, parseMethodDescriptor y.desc = some sig → argsL.length = sig.parameters.length)
    (hstack : g.stack = argsL.reverse ++ rest) (hW : 2 * g.monitorRoom + (rest.map fun v => v.category).sum ≤ W9) (hdg : decode c.code g.pc = .ok (.invokestatic index, 3))
    (hpre : ∀ vm₁, s.WarmedH vm₁ → Pre ⟨T.setVm vm₁, locs, cells, slots⟩ argsL.toArray) :
    (∃ (v : Option Value) (vm₁ : Vm) (B : Pt), s.WarmedH vm₁ ∧ Stand p l e R s m args below meth c B.U B.locs B.cells B.slots ∧ Post ⟨T.setVm vm₁, locs, cells, slots⟩ argsL.toArray v B ∧
      ∀ target, Steps p.tables e below (B.U.setTop { g with pc := g.pc + 3, stack := v.toList ++ rest }) target → Steps p.tables e below (T.setTop g) target) ∨
    (∃ (q : Addr) (vm₁ : Vm) (B : Pt), s.WarmedH vm₁ ∧ Stand p l e R s m args below meth c B.U B.locs B.cells B.slots ∧ PostX ⟨T.setVm vm₁, locs, cells, slots⟩ argsL.toArray q B ∧
      Steps p.tables e below (T.setTop g) ((B.U.setTop { g with stack := rest }).pushFrame (.throwing q))) := by
  obtain ⟨mk, hnamed⟩ := Cond.code_named hcode
  obtain ⟨methM, cM, hmethM, -, -, -, -, -, -, hsigM⟩ := Cond.code_spec hnamed hcode
  have hstatic : methM.isStatic = true := Cond.static_spec hnamed hmethM hstat
  obtain ⟨kP, hkP, -⟩ := className_of_methodNamed hnamed
  have hinitP : kP.init = .initialized := Cond.initialized_spec (findClass_of_methodNamed hnamed) hkP hinit
  obtain ⟨vm₁, X₁, hstep₁⟩ := X.invokestatic hexec hown hlink hnamed hmethM hstatic hkP hinitP hy (g := g) hg (argsL := argsL) (rest := rest) (hlen _ hsigM) hstack hdg
  rcases hK m meth c ⟨T.setVm vm₁, locs, cells, slots⟩ { g with stack := rest } (.invokestatic index) mk argsL.toArray X₁ hg hsize hdg hW (X₁.named hnamed) (hpre vm₁ X₁.warmed) with ⟨v, B, X', hpost, hsteps⟩ | ⟨q, B, X', hpost, hsteps⟩
  · exact Or.inl ⟨v, vm₁, B, X₁.warmed, X', hpost, fun target h => hstep₁ _ fun acts => by rw [doInvoke_state]; exact hsteps.trans h⟩
  · exact Or.inr ⟨q, vm₁, B, X₁.warmed, X', hpost, hstep₁ _ fun acts => by rw [doInvoke_state]; exact hsteps⟩
end Calls
theorem vx_cls {s : State} {T : State} {vm₁ : Vm} {E : String} {k : ClassId} (hW : s.WarmedH vm₁) (h : (T.setVm vm₁).vm.findClass E = some k) : s.vm.findClass E = some k := by
  have h1 : vm₁.findClass E = some k := h
  rw [hW.alike.findClass] at h1
  exact h1
/-- the method's frame g, with q thrown over it -/
def vx_W (p : Program) (l : Launch) (e : Env) (R : Room) (s : State) (m : MethodId) (args : Array Value) (below : List Frame) (meth : Method) (c : Code) (H : Heap) (locs : List Loc) (cells slots : Nat) (Q : State → Prop) (g : JFrame) (q : Addr) : Prop :=
  ∀ T : State, T.heap = H → Stand p l e R s m args below meth c T locs cells slots → ∃ t, Steps p.tables e below ((T.setTop g).pushFrame (.throwing q)) t ∧ Q t
def vx_Run (p : Program) (l : Launch) (e : Env) (R : Room) (s : State) (m : MethodId) (args : Array Value) (below : List Frame) (meth : Method) (c : Code) (H : Heap) (locs : List Loc) (cells slots mc ms : Nat) (g : JFrame) (rest : List Value) (Qa : State → Outcome → State → Prop) (XC : String → State → State → Prop) (free : Addr → Prop) : Prop :=
  ∀ T : State, T.heap = H → Stand p l e R s m args below meth c T locs cells slots →
    (∃ (v : Option Value) (st₀ t T' : State) (L : List Loc), st₀.heap = H ∧ Stand p l e R s m args below meth c T' (locs ++ L) (cells + mc) (slots + ms) ∧ (∀ q ∈ L, free q.base) ∧ T'.heap = t.heap ∧ T'.vm = t.vm ∧ Qa st₀ (.returned v) t ∧
      Goes p e below T g T' { g with pc := g.pc + 3, stack := v.toList ++ rest }) ∨
    (∃ (q : Addr) (st₀ t T' : State) (L : List Loc) (E : String) (ce : Cell), st₀.heap = H ∧ Stand p l e R s m args below meth c T' (locs ++ L) (cells + mc) (slots + ms) ∧ (∀ z ∈ L, free z.base) ∧ T'.heap = t.heap ∧ T'.vm = t.vm ∧ XC E st₀ t ∧ t.heap[q]? = some ce ∧ ce.vm = .none ∧ s.vm.findClass E = some ce.cls ∧
      Steps p.tables e below (T.setTop g) ((T'.setTop { g with stack := rest }).pushFrame (.throwing q)))
def vx_X {S : Type} (px : S → Prop) (B : String → S → State → Prop) (A : Nat → Prop) : String → State → State → Prop := fun E st t => ∃ u : S, px u ∧ B E u t ∧ va_F A st t
section Runs
variable {p : Program} {l : Launch} {e : Env} {R : Room} {s : State} {m : MethodId} {args : Array Value} {below : List Frame} {meth : Method} {c : Code} {H : Heap} {locs : List Loc} {cells slots : Nat}
variable {y : MethodName} {bytes cc : ByteArray} {maxL nL mc ms n index : Nat} {ret : Option FieldType} {ws : List Cond} {rm : Room} {Pc : Array Value → State → Prop} {Qc : Array Value → State → Outcome → State → Prop} {XC : String → State → State → Prop} {free : Addr → Prop} {Ts : List Cond} {own C : String} {b : Addr} {As rest : List Value} {g : JFrame}
theorem vx_callBack (cb : CallB R s args own index y bytes maxL ret ws rm mc ms n) (hM : vx_Met l y ws rm Pc Qc XC mc ms free) (hbl : FrameBlind Pc) : vx_Back l R p e below s args y 3 8 (PreOf R mc ms Pc) (PostOf Qc mc ms free) (vx_Post XC mc ms free) := by
  obtain ⟨hrc, hrs, hfr, hlo, hws, hcw, -, hini, -⟩ := cb
  exact vx_back (bytes := bytes) (maxL := maxL) (ret := ret) hM hbl hrc hrs hfr hlo hws hcw (fun a' U hW => word_at hW (Or.inl (by first | rfl | simp [Cond.onTables, Cond.keeps, Cond.steady])) hini)
theorem vx_runV (S : CallFix p m c cc nL s args Ts own) (hM : vx_Met l y ws rm Pc Qc XC mc ms free) (cw : CallW R s args own C index y bytes maxL ret ws rm mc ms n) (hp : PreV s H C b Pc As)
    (hg : g.method = m) (hn : As.length = n) (hsize : g.locals.size = nL) (hstack : g.stack = As.reverse ++ .ref b :: rest) (hW : 2 * g.monitorRoom + (rest.map fun v => v.category).sum ≤ 8) (hdg : decode cc g.pc = .ok (.invokevirtual index, 3)) (hf : cells + mc ≤ R.cells ∧ slots + ms ≤ R.slots) :
    vx_Run p l e R s m args below meth c H locs cells slots mc ms g rest (Qc (Value.ref b :: As).toArray) XC free := by
  have hK : vx_Back l R p e below s args y 3 8 (PreOf R mc ms Pc) (PostOf Qc mc ms free) (vx_Post XC mc ms free) := vx_callBack cw.1 hM hp.1
  obtain ⟨⟨-, -, -, -, -, -, hcode, -, hy, hlen, hl⟩, hin, hse⟩ := cw
  obtain ⟨hx, hb, hml, ho, -⟩ := S
  obtain ⟨-, ⟨cellB, hcB, hoB, hclB⟩, hPc⟩ := hp
  intro T hT X
  rcases vx_callV X hx (C := C) (bytes := bytes) (maxL := maxL) (ret := ret) ho hl hin hse hcode hy hK (by rw [hT]; exact hcB) hoB hclB hg (hsize.trans hml.symm) (argsL := As) (rest := rest) (fun sig h => hn.trans (hlen sig h)) hstack hW (by rw [hb]; exact hdg)
    (fun vm₁ hW₁ => ⟨hf.1, hf.2, hPc (T.setVm vm₁) hT hW₁⟩) with ⟨v, vm₁, ⟨U', l2, c2, s2⟩, hW₁, X', ⟨g', mk, t, L, e1, e2, hq, h1, hL, h2, h3⟩, st⟩ | ⟨q, vm₁, ⟨U', l2, c2, s2⟩, hW₁, X', ⟨g', mk, t, L, E, ce, e1, e2, hq, hce, hcv, hcl, h1, hL, h2, h3⟩, st⟩
  · dsimp only [Pt.U, Pt.locs, Pt.cells, Pt.slots] at X' e1 e2 h1 h2 h3 st
    subst h1; subst h2; subst h3
    exact Or.inl ⟨v, (T.setVm vm₁).calling g' mk (Value.ref b :: As).toArray, t, U', L, hT, X', hL, e1, e2, hq, st⟩
  · dsimp only [Pt.U, Pt.locs, Pt.cells, Pt.slots] at X' e1 e2 h1 h2 h3 st hcl
    subst h1; subst h2; subst h3
    exact Or.inr ⟨q, (T.setVm vm₁).calling g' mk (Value.ref b :: As).toArray, t, U', L, E, ce, hT, X', hL, e1, e2, hq, hce, hcv, vx_cls hW₁ hcl, st⟩
theorem vx_runS (S : CallFix p m c cc nL s args Ts own) (hM : vx_Met l y ws rm Pc Qc XC mc ms free) (cw : CallB R s args own index y bytes maxL ret ws rm mc ms n ∧ (Cond.static y).before args s = true) (hp : PreS s H Pc As)
    (hg : g.method = m) (hn : As.length = n) (hsize : g.locals.size = nL) (hstack : g.stack = As.reverse ++ rest) (hW : 2 * g.monitorRoom + (rest.map fun v => v.category).sum ≤ 8) (hdg : decode cc g.pc = .ok (.invokestatic index, 3)) (hf : cells + mc ≤ R.cells ∧ slots + ms ≤ R.slots) :
    vx_Run p l e R s m args below meth c H locs cells slots mc ms g rest (Qc As.toArray) XC free := by
  have hK : vx_Back l R p e below s args y 3 8 (PreOf R mc ms Pc) (PostOf Qc mc ms free) (vx_Post XC mc ms free) := vx_callBack cw.1 hM hp.1
  obtain ⟨⟨-, -, -, -, -, -, hcode, hini, hy, hlen, hl⟩, hstt⟩ := cw
  obtain ⟨hx, hb, hml, ho, -⟩ := S
  intro T hT X
  rcases vx_callS X hx (bytes := bytes) (maxL := maxL) (ret := ret) ho hl hstt hini hcode hy hK hg (hsize.trans hml.symm) (argsL := As) (rest := rest) (fun sig h => hn.trans (hlen sig h)) hstack hW (by rw [hb]; exact hdg)
    (fun vm₁ hW₁ => ⟨hf.1, hf.2, hp.2 (T.setVm vm₁) hT hW₁⟩) with ⟨v, vm₁, ⟨U', l2, c2, s2⟩, hW₁, X', ⟨g', mk, t, L, e1, e2, hq, h1, hL, h2, h3⟩, st⟩ | ⟨q, vm₁, ⟨U', l2, c2, s2⟩, hW₁, X', ⟨g', mk, t, L, E, ce, e1, e2, hq, hce, hcv, hcl, h1, hL, h2, h3⟩, st⟩
  · dsimp only [Pt.U, Pt.locs, Pt.cells, Pt.slots] at X' e1 e2 h1 h2 h3 st
    subst h1; subst h2; subst h3
    exact Or.inl ⟨v, (T.setVm vm₁).calling g' mk As.toArray, t, U', L, hT, X', hL, e1, e2, hq, st⟩
  · dsimp only [Pt.U, Pt.locs, Pt.cells, Pt.slots] at X' e1 e2 h1 h2 h3 st hcl
    subst h1; subst h2; subst h3
    exact Or.inr ⟨q, (T.setVm vm₁).calling g' mk As.toArray, t, U', L, E, ce, hT, X', hL, e1, e2, hq, hce, hcv, vx_cls hW₁ hcl, st⟩
end Runs
section Rows
variable {p : Program} {l : Launch} {e : Env} {R : Room} {s : State} {m : MethodId} {args : Array Value} {below : List Frame} {meth : Method} {c : Code} {H : Heap} {locs : List Loc} {cells slots : Nat} {Q : State → Prop}
variable {mc ms : Nat} {free : Addr → Prop} {A0 A1 : Nat → Prop} {H0 : Heap} {a : Array Value} {pc : Nat} {ls : Array Slot} {st0 rest : List Value}
theorem vx_keep {st₀ t T' : State} {L : List Loc} (h0 : st₀.heap = H) (e1 : T'.heap = t.heap) (hS : va_S A0 H0 H locs) (hA : ∀ q, q < H.size → A1 q → A0 q) (hf : ∀ q, free q → A0 q) (hL : ∀ q ∈ L, free q.base) (hF : va_F A1 st₀ t) :
    H.size ≤ T'.heap.size ∧ (∀ q : Nat, q < H.size → ¬ A1 q → T'.heap[q]? = H[q]?) ∧ va_S A0 H0 T'.heap (locs ++ L) := by
  obtain ⟨hz, hk⟩ := hF
  rw [h0] at hz hk
  exact ⟨by rw [e1]; exact hz, fun q h1 h2 => by rw [e1]; exact hk q h1 h2,
    ⟨Nat.le_trans hS.1 (by rw [e1]; exact hz), fun q h1 h2 => by rw [e1, hk q (Nat.lt_of_lt_of_le h1 hS.1) (fun z => h2 (hA q (Nat.lt_of_lt_of_le h1 hS.1) z))]; exact hS.2.1 q h1 h2, fun q hq => by
      rcases List.mem_append.mp hq with h | h
      · exact hS.2.2 q h
      · exact hf _ (hL q h)⟩⟩
theorem vx_calli {S SX : Type} {post : Int32 → S → Prop} {px : SX → Prop} {B : S → State → Prop} {BX : String → SX → State → Prop} {AX : Nat → Prop} (hr : vx_Run p l e R s m args below meth c H locs cells slots mc ms (F0 m pc ls st0) rest (va_Qi post B A1 a) (vx_X px BX AX) free) (hS : va_S A0 H0 H locs) (hA : ∀ q, q < H.size → A1 q → A0 q) (hf : ∀ q, free q → A0 q) (hAX : ∀ q, q < H.size → AX q → A0 q)
    (kx : ∀ (E : String) (ce : Cell) (q9 : Addr) (u : SX) (t : State) (H1 : Heap) (locs1 : List Loc), t.heap = H1 → s.vm.Alike t.vm → px u → BX E u t → H.size ≤ H1.size → (∀ q : Nat, q < H.size → ¬ AX q → H1[q]? = H[q]?) → va_S A0 H0 H1 locs1 → H1[q9]? = some ce → ce.vm = .none → s.vm.findClass E = some ce.cls → vx_W p l e R s m args below meth c H1 locs1 (cells + mc) (slots + ms) Q (F0 m pc ls rest) q9)
    (kk : ∀ (r : Int32) (u : S) (t : State) (H1 : Heap) (locs1 : List Loc), t.heap = H1 → s.vm.Alike t.vm → post r u → B u t → H.size ≤ H1.size → (∀ q : Nat, q < H.size → ¬ A1 q → H1[q]? = H[q]?) → va_S A0 H0 H1 locs1 → W p l e R s m args below meth c H1 locs1 (cells + mc) (slots + ms) Q (F0 m (pc + 3) ls (.int r :: rest))) : W p l e R s m args below meth c H locs cells slots Q (F0 m pc ls st0) := by
  intro T hT X
  rcases hr T hT X with ⟨v, st₀, t, T', L, h0, X', hL, e1, e2, ⟨⟨r, u, hv, hp, hb⟩, hF⟩, st⟩ | ⟨q, st₀, t, T', L, E, ce, h0, X', hL, e1, e2, ⟨u, hp, hb, hF⟩, hce, hcv, hcl, st⟩
  · cases hv
    obtain ⟨k1, k2, k3⟩ := vx_keep h0 e1 hS hA hf hL hF
    obtain ⟨t2, a1, b1⟩ := kk r u t T'.heap (locs ++ L) e1.symm (by rw [← e2]; exact X'.warmed.alike) hp hb k1 k2 k3 T' rfl X'
    exact ⟨t2, st t2 a1, b1⟩
  · obtain ⟨k1, k2, k3⟩ := vx_keep h0 e1 hS hAX hf hL hF
    obtain ⟨t2, a1, b1⟩ := kx E ce q u t T'.heap (locs ++ L) e1.symm (by rw [← e2]; exact X'.warmed.alike) hp hb k1 k2 k3 (by rw [e1]; exact hce) hcv hcl T' rfl X'
    exact ⟨t2, st.trans a1, b1⟩
theorem vx_calll {S SX : Type} {post : Int64 → S → Prop} {px : SX → Prop} {B : S → State → Prop} {BX : String → SX → State → Prop} {AX : Nat → Prop} (hr : vx_Run p l e R s m args below meth c H locs cells slots mc ms (F0 m pc ls st0) rest (va_Ql post B A1 a) (vx_X px BX AX) free) (hS : va_S A0 H0 H locs) (hA : ∀ q, q < H.size → A1 q → A0 q) (hf : ∀ q, free q → A0 q) (hAX : ∀ q, q < H.size → AX q → A0 q)
    (kx : ∀ (E : String) (ce : Cell) (q9 : Addr) (u : SX) (t : State) (H1 : Heap) (locs1 : List Loc), t.heap = H1 → s.vm.Alike t.vm → px u → BX E u t → H.size ≤ H1.size → (∀ q : Nat, q < H.size → ¬ AX q → H1[q]? = H[q]?) → va_S A0 H0 H1 locs1 → H1[q9]? = some ce → ce.vm = .none → s.vm.findClass E = some ce.cls → vx_W p l e R s m args below meth c H1 locs1 (cells + mc) (slots + ms) Q (F0 m pc ls rest) q9)
    (kk : ∀ (r : Int64) (u : S) (t : State) (H1 : Heap) (locs1 : List Loc), t.heap = H1 → s.vm.Alike t.vm → post r u → B u t → H.size ≤ H1.size → (∀ q : Nat, q < H.size → ¬ A1 q → H1[q]? = H[q]?) → va_S A0 H0 H1 locs1 → W p l e R s m args below meth c H1 locs1 (cells + mc) (slots + ms) Q (F0 m (pc + 3) ls (.long r :: rest))) : W p l e R s m args below meth c H locs cells slots Q (F0 m pc ls st0) := by
  intro T hT X
  rcases hr T hT X with ⟨v, st₀, t, T', L, h0, X', hL, e1, e2, ⟨⟨r, u, hv, hp, hb⟩, hF⟩, st⟩ | ⟨q, st₀, t, T', L, E, ce, h0, X', hL, e1, e2, ⟨u, hp, hb, hF⟩, hce, hcv, hcl, st⟩
  · cases hv
    obtain ⟨k1, k2, k3⟩ := vx_keep h0 e1 hS hA hf hL hF
    obtain ⟨t2, a1, b1⟩ := kk r u t T'.heap (locs ++ L) e1.symm (by rw [← e2]; exact X'.warmed.alike) hp hb k1 k2 k3 T' rfl X'
    exact ⟨t2, st t2 a1, b1⟩
  · obtain ⟨k1, k2, k3⟩ := vx_keep h0 e1 hS hAX hf hL hF
    obtain ⟨t2, a1, b1⟩ := kx E ce q u t T'.heap (locs ++ L) e1.symm (by rw [← e2]; exact X'.warmed.alike) hp hb k1 k2 k3 (by rw [e1]; exact hce) hcv hcl T' rfl X'
    exact ⟨t2, st.trans a1, b1⟩
theorem vx_callf {S SX : Type} {post : UInt32 → S → Prop} {px : SX → Prop} {B : S → State → Prop} {BX : String → SX → State → Prop} {AX : Nat → Prop} (hr : vx_Run p l e R s m args below meth c H locs cells slots mc ms (F0 m pc ls st0) rest (va_Qf post B A1 a) (vx_X px BX AX) free) (hS : va_S A0 H0 H locs) (hA : ∀ q, q < H.size → A1 q → A0 q) (hf : ∀ q, free q → A0 q) (hAX : ∀ q, q < H.size → AX q → A0 q)
    (kx : ∀ (E : String) (ce : Cell) (q9 : Addr) (u : SX) (t : State) (H1 : Heap) (locs1 : List Loc), t.heap = H1 → s.vm.Alike t.vm → px u → BX E u t → H.size ≤ H1.size → (∀ q : Nat, q < H.size → ¬ AX q → H1[q]? = H[q]?) → va_S A0 H0 H1 locs1 → H1[q9]? = some ce → ce.vm = .none → s.vm.findClass E = some ce.cls → vx_W p l e R s m args below meth c H1 locs1 (cells + mc) (slots + ms) Q (F0 m pc ls rest) q9)
    (kk : ∀ (r : UInt32) (u : S) (t : State) (H1 : Heap) (locs1 : List Loc), t.heap = H1 → s.vm.Alike t.vm → post r u → B u t → H.size ≤ H1.size → (∀ q : Nat, q < H.size → ¬ A1 q → H1[q]? = H[q]?) → va_S A0 H0 H1 locs1 → W p l e R s m args below meth c H1 locs1 (cells + mc) (slots + ms) Q (F0 m (pc + 3) ls (.float r :: rest))) : W p l e R s m args below meth c H locs cells slots Q (F0 m pc ls st0) := by
  intro T hT X
  rcases hr T hT X with ⟨v, st₀, t, T', L, h0, X', hL, e1, e2, ⟨⟨r, u, hv, hp, hb⟩, hF⟩, st⟩ | ⟨q, st₀, t, T', L, E, ce, h0, X', hL, e1, e2, ⟨u, hp, hb, hF⟩, hce, hcv, hcl, st⟩
  · cases hv
    obtain ⟨k1, k2, k3⟩ := vx_keep h0 e1 hS hA hf hL hF
    obtain ⟨t2, a1, b1⟩ := kk r u t T'.heap (locs ++ L) e1.symm (by rw [← e2]; exact X'.warmed.alike) hp hb k1 k2 k3 T' rfl X'
    exact ⟨t2, st t2 a1, b1⟩
  · obtain ⟨k1, k2, k3⟩ := vx_keep h0 e1 hS hAX hf hL hF
    obtain ⟨t2, a1, b1⟩ := kx E ce q u t T'.heap (locs ++ L) e1.symm (by rw [← e2]; exact X'.warmed.alike) hp hb k1 k2 k3 (by rw [e1]; exact hce) hcv hcl T' rfl X'
    exact ⟨t2, st.trans a1, b1⟩
theorem vx_calld {S SX : Type} {post : UInt64 → S → Prop} {px : SX → Prop} {B : S → State → Prop} {BX : String → SX → State → Prop} {AX : Nat → Prop} (hr : vx_Run p l e R s m args below meth c H locs cells slots mc ms (F0 m pc ls st0) rest (va_Qd post B A1 a) (vx_X px BX AX) free) (hS : va_S A0 H0 H locs) (hA : ∀ q, q < H.size → A1 q → A0 q) (hf : ∀ q, free q → A0 q) (hAX : ∀ q, q < H.size → AX q → A0 q)
    (kx : ∀ (E : String) (ce : Cell) (q9 : Addr) (u : SX) (t : State) (H1 : Heap) (locs1 : List Loc), t.heap = H1 → s.vm.Alike t.vm → px u → BX E u t → H.size ≤ H1.size → (∀ q : Nat, q < H.size → ¬ AX q → H1[q]? = H[q]?) → va_S A0 H0 H1 locs1 → H1[q9]? = some ce → ce.vm = .none → s.vm.findClass E = some ce.cls → vx_W p l e R s m args below meth c H1 locs1 (cells + mc) (slots + ms) Q (F0 m pc ls rest) q9)
    (kk : ∀ (r : UInt64) (u : S) (t : State) (H1 : Heap) (locs1 : List Loc), t.heap = H1 → s.vm.Alike t.vm → post r u → B u t → H.size ≤ H1.size → (∀ q : Nat, q < H.size → ¬ A1 q → H1[q]? = H[q]?) → va_S A0 H0 H1 locs1 → W p l e R s m args below meth c H1 locs1 (cells + mc) (slots + ms) Q (F0 m (pc + 3) ls (.double r :: rest))) : W p l e R s m args below meth c H locs cells slots Q (F0 m pc ls st0) := by
  intro T hT X
  rcases hr T hT X with ⟨v, st₀, t, T', L, h0, X', hL, e1, e2, ⟨⟨r, u, hv, hp, hb⟩, hF⟩, st⟩ | ⟨q, st₀, t, T', L, E, ce, h0, X', hL, e1, e2, ⟨u, hp, hb, hF⟩, hce, hcv, hcl, st⟩
  · cases hv
    obtain ⟨k1, k2, k3⟩ := vx_keep h0 e1 hS hA hf hL hF
    obtain ⟨t2, a1, b1⟩ := kk r u t T'.heap (locs ++ L) e1.symm (by rw [← e2]; exact X'.warmed.alike) hp hb k1 k2 k3 T' rfl X'
    exact ⟨t2, st t2 a1, b1⟩
  · obtain ⟨k1, k2, k3⟩ := vx_keep h0 e1 hS hAX hf hL hF
    obtain ⟨t2, a1, b1⟩ := kx E ce q u t T'.heap (locs ++ L) e1.symm (by rw [← e2]; exact X'.warmed.alike) hp hb k1 k2 k3 (by rw [e1]; exact hce) hcv hcl T' rfl X'
    exact ⟨t2, st.trans a1, b1⟩
theorem vx_callv {S SX : Type} {post : S → Prop} {px : SX → Prop} {B : S → State → Prop} {BX : String → SX → State → Prop} {AX : Nat → Prop} (hr : vx_Run p l e R s m args below meth c H locs cells slots mc ms (F0 m pc ls st0) rest (va_Qv post B A1 a) (vx_X px BX AX) free) (hS : va_S A0 H0 H locs) (hA : ∀ q, q < H.size → A1 q → A0 q) (hf : ∀ q, free q → A0 q) (hAX : ∀ q, q < H.size → AX q → A0 q)
    (kx : ∀ (E : String) (ce : Cell) (q9 : Addr) (u : SX) (t : State) (H1 : Heap) (locs1 : List Loc), t.heap = H1 → s.vm.Alike t.vm → px u → BX E u t → H.size ≤ H1.size → (∀ q : Nat, q < H.size → ¬ AX q → H1[q]? = H[q]?) → va_S A0 H0 H1 locs1 → H1[q9]? = some ce → ce.vm = .none → s.vm.findClass E = some ce.cls → vx_W p l e R s m args below meth c H1 locs1 (cells + mc) (slots + ms) Q (F0 m pc ls rest) q9)
    (kk : ∀ (u : S) (t : State) (H1 : Heap) (locs1 : List Loc), t.heap = H1 → s.vm.Alike t.vm → post u → B u t → H.size ≤ H1.size → (∀ q : Nat, q < H.size → ¬ A1 q → H1[q]? = H[q]?) → va_S A0 H0 H1 locs1 → W p l e R s m args below meth c H1 locs1 (cells + mc) (slots + ms) Q (F0 m (pc + 3) ls (rest))) : W p l e R s m args below meth c H locs cells slots Q (F0 m pc ls st0) := by
  intro T hT X
  rcases hr T hT X with ⟨v, st₀, t, T', L, h0, X', hL, e1, e2, ⟨⟨u, hv, hp, hb⟩, hF⟩, st⟩ | ⟨q, st₀, t, T', L, E, ce, h0, X', hL, e1, e2, ⟨u, hp, hb, hF⟩, hce, hcv, hcl, st⟩
  · cases hv
    obtain ⟨k1, k2, k3⟩ := vx_keep h0 e1 hS hA hf hL hF
    obtain ⟨t2, a1, b1⟩ := kk u t T'.heap (locs ++ L) e1.symm (by rw [← e2]; exact X'.warmed.alike) hp hb k1 k2 k3 T' rfl X'
    exact ⟨t2, st t2 a1, b1⟩
  · obtain ⟨k1, k2, k3⟩ := vx_keep h0 e1 hS hAX hf hL hF
    obtain ⟨t2, a1, b1⟩ := kx E ce q u t T'.heap (locs ++ L) e1.symm (by rw [← e2]; exact X'.warmed.alike) hp hb k1 k2 k3 (by rw [e1]; exact hce) hcv hcl T' rfl X'
    exact ⟨t2, st.trans a1, b1⟩
/-- caught by the row x of this method's table; the rows ahead don't take it -/
theorem vx_catch {own name : String} {E : String} {ce : Cell} {q : Addr} (hown : s.vm.findClass own = some m.cls) (pre : List ExceptionTableEntry) (x : ExceptionTableEntry) (suf : List ExceptionTableEntry) (hsplit : c.exceptionTable.toList = pre ++ x :: suf)
    (hpass : ∀ z ∈ pre, covers z pc = false ∨ (z.catchType ≠ 0 ∧ ∃ nm : String, (Cond.classLink own z.catchType nm).before args s = true ∧ va_Nc E nm s)) (hx : covers x pc = true) (h0 : x.catchType ≠ 0)
    (hlink : (Cond.classLink own x.catchType name).before args s = true) (hcast : (Cond.castable E name).before args s = true) (hcell : H[q]? = some ce) (hv : ce.vm = .none) (hcl : s.vm.findClass E = some ce.cls)
    (kk : W p l e R s m args below meth c H locs cells slots Q (F0 m x.handlerPc ls [.ref q])) : vx_W p l e R s m args below meth c H locs cells slots Q (F0 m pc ls rest) q := by
  intro T hT X
  have hpl : e.platform.magicAccessors = ({} : Platform).magicAccessors := by rw [X.admits.platform]
  obtain ⟨c3, c4, hc3, hc4, hasg⟩ := Cond.castable_spec hcast
  cases Option.some.inj (hc3.symm.trans hcl)
  obtain ⟨c5, hc5, hcl5⟩ := Cond.classLink_spec hown hlink e.platform hpl
  cases Option.some.inj (hc4.symm.trans hc5)
  obtain ⟨vm', X', st⟩ := X.thenCaughtThrough q (g := F0 m pc ls rest) rfl (Steps.refl _) (by rw [hT]; exact hcell) (by rw [hv]; rfl) (by obtain ⟨k9, h9, -⟩ := Vm.findClass_spec hcl; exact ⟨k9, h9⟩) pre x suf hsplit
    (fun z hz => by
      rcases hpass z hz with h | ⟨hz0, nm, hl1, hn1⟩
      · exact Or.inl h
      · obtain ⟨c6, hc6, hcl6⟩ := Cond.classLink_spec hown hl1 e.platform hpl
        obtain ⟨a8, b8, h1, h2, h3⟩ := hn1
        cases Option.some.inj (h1.symm.trans hcl)
        cases Option.some.inj (h2.symm.trans hc6)
        exact Or.inr ⟨hz0, _, hcl6, h3⟩) hx (Or.inr ⟨h0, c4, hcl5, hasg⟩)
  obtain ⟨t, a1, b1⟩ := kk (T.setVm vm') hT X'
  exact ⟨t, st.trans a1, b1⟩
end Rows
section Ends
variable {p : Program} {l : Launch} {e : Env} {R : Room} {s : State} {m : MethodId} {args : Array Value} {below : List Frame} {meth : Method} {c : Code} {H : Heap} {locs : List Loc} {cells slots : Nat} {Q : State → Prop}
variable {mc ms : Nat} {free : Addr → Prop} {A0 A1 : Nat → Prop} {H0 : Heap} {a : Array Value} {ls : Array Slot} {st0 rest : List Value}
variable {Qc : Array Value → State → Outcome → State → Prop} {XC : String → State → State → Prop}
/-- what a body that may throw owes at its end -/
def vx_MQ (below : List Frame) (Qc : Array Value → State → Outcome → State → Prop) (XC : String → State → State → Prop) (a : Array Value) (s : State) (mc ms : Nat) (free : Addr → Prop) : State → Prop := fun t =>
  ∃ o, t.status = .running ∧ Ended t below o ∧ vx_Q Qc XC mc ms free a s o t
theorem vx_ret {g : JFrame} {mc ms : Nat} (k : W p l e R s m args below meth c H locs cells slots (MQ below Qc args s mc ms free) g) : W p l e R s m args below meth c H locs cells slots (vx_MQ below Qc XC args s mc ms free) g := by
  intro T hT X
  obtain ⟨t, a1, o, b1, b2, b3, b4⟩ := k T hT X
  exact ⟨t, a1, o, b1, b2, Or.inl ⟨b3, b4⟩⟩
/-- not caught here: it goes on to the caller -/
theorem vx_widen {g : JFrame} {q : Addr} {k n : Nat} (h1 : cells ≤ k) (h2 : slots ≤ n) (kk : vx_W p l e R s m args below meth c H locs k n Q g q) : vx_W p l e R s m args below meth c H locs cells slots Q g q := fun T hT X => kk T hT (stand_widen X h1 h2)
theorem vx_out {pc : Nat} {E : String} {ce : Cell} {q : Addr} {mc ms : Nat} (hout : ∀ x ∈ c.exceptionTable.toList, covers x pc = false) (hlocks : meth.locks = false) (hcell : H[q]? = some ce) (hv : ce.vm = .none) (hcl : s.vm.findClass E = some ce.cls)
    (hx : ∀ t : State, t.heap = H → s.vm.Alike t.vm → XC E s t) (hf : ∀ z ∈ locs, free z.base) (hc : cells ≤ mc) (hs : slots ≤ ms) :
    vx_W p l e R s m args below meth c H locs cells slots (vx_MQ below Qc XC args s mc ms free) (F0 m pc ls rest) q := by
  intro T hT X
  obtain ⟨st1, hrun, hend, hW, hsm⟩ := X.leaveThrown q (g := F0 m pc ls rest) rfl rfl rfl hout hlocks
  have hcell9 : (T.setFrames (.throwing q :: below)).heap[q]? = some ce := by
    show T.heap[q]? = some ce
    rw [hT]; exact hcell
  exact ⟨_, st1, .threw q, hrun, hend, Or.inr ⟨q, rfl, E, ce, locs, hx _ hT hW.alike, hcell9, hv, hcl, hW, hsm.mono hc hs, hf⟩⟩
theorem vx_frame {U : State} {k n : Nat} (h : s.sameButNew ({ U with vm := s.vm } : State) locs k n) : s.heap.size ≤ U.heap.size ∧ ∀ q : Nat, q < s.heap.size → (∀ z ∈ locs, z.base ≠ q) → U.heap[q]? = s.heap[q]? := by
  obtain ⟨-, h2, -, -, -, h6⟩ := h
  refine ⟨h2, fun q hq hz => ?_⟩
  obtain ⟨c9, e1, e2, e3, e4⟩ := h6 q _ (Array.getElem?_eq_getElem hq)
  have hs : c9.slots = (s.heap[q]).slots := Array.ext_getElem? fun i => e4 i fun hm => hz _ hm rfl
  have h9 : c9 = s.heap[q] := by
    rw [hs] at e2
    exact e2
  have e5 : U.heap[q]? = some c9 := e1
  rw [e5, h9, Array.getElem?_eq_getElem hq]
/-- the words of a throw but the four that speak of the heap -/
def vx_no (w : Cond) : Bool := decide (w ≠ .isRef (.static Bundle.tN "UNASSIGNED_STACK" Bundle.steD)) && decide (w ≠ .isRef (.static Bundle.tN "SUPPRESSED_SENTINEL" Bundle.listD)) && decide (w ≠ .laysStatic Bundle.tN "UNASSIGNED_STACK" Bundle.steD) && decide (w ≠ .laysStatic Bundle.tN "SUPPRESSED_SENTINEL" Bundle.listD)
def vx_at0 (own : String) (ic : Nat) (X : String) (names : List String) : List Cond := (Bundle.ownAtoms0 own ic X names).filter vx_no
def vx_atS (own : String) (ic : Nat) (X : String) (names : List String) : List Cond := (Bundle.ownAtoms own ic X names).filter vx_no
/-- a word that the tables alone decide, or a good one -/
def vx_ot (w : Cond) : Bool := w.onTables || goodWord w
theorem vx_ot_at {args a' : Array Value} {s U : State} {w : Cond} (hW : s.WarmedH U.vm) (hvm : s.vm = U.vm) (hg : vx_ot w = true) (h : w.before args s = true) : w.before a' U = true := by
  simp only [vx_ot, Bool.or_eq_true] at hg
  rcases hg with hg | hg
  · exact va_tabs hg hvm h
  · exact word_at hW (good_of_word hg) h
/-- a list's words: the good ones out of the method's own list, the others by premises of their own -/
theorem vx_hat {args : Array Value} {s : State} {L B : List Cond} (h1 : ∀ w ∈ L.filter goodWord, w.before args s = true) (h2 : ∀ w ∈ L.filter (fun w => !goodWord w), w ∈ B) (h3 : ∀ w ∈ B, w.before args s = true) : ∀ w ∈ L, w.before args s = true := by
  intro w hw
  by_cases g : goodWord w = true
  · exact h1 w (List.mem_filter.mpr ⟨hw, g⟩)
  · refine h3 w (h2 w (List.mem_filter.mpr ⟨hw, ?_⟩))
    show (!goodWord w) = true
    cases hgw : goodWord w
    · rfl
    · exact absurd hgw g
theorem vx_c {args : Array Value} {s : State} {w : Cond} {B : List Cond} (h : w.before args s = true) (t : ∀ w ∈ B, w.before args s = true) : ∀ w' ∈ w :: B, w'.before args s = true := fun w' h' => (List.mem_cons.mp h').elim (fun e => by rw [e]; exact h) (t w')
theorem vx_n {args : Array Value} {s : State} : ∀ w ∈ ([] : List Cond), w.before args s = true := fun _ h => nomatch h
theorem vx_own {args : Array Value} {s : State} {L : List Cond} (h1 : ∀ w ∈ L.filter vx_no, w.before args s = true)
    (hU : (Cond.isRef (.static Bundle.tN "UNASSIGNED_STACK" Bundle.steD)).before args s = true) (hN : (Cond.isRef (.static Bundle.tN "SUPPRESSED_SENTINEL" Bundle.listD)).before args s = true)
    (lU : (Cond.laysStatic Bundle.tN "UNASSIGNED_STACK" Bundle.steD).before args s = true) (lN : (Cond.laysStatic Bundle.tN "SUPPRESSED_SENTINEL" Bundle.listD).before args s = true) : ∀ w ∈ L, w.before args s = true := by
  intro w hw
  by_cases e1 : w = .isRef (.static Bundle.tN "UNASSIGNED_STACK" Bundle.steD)
  · rw [e1]; exact hU
  · by_cases e2 : w = .isRef (.static Bundle.tN "SUPPRESSED_SENTINEL" Bundle.listD)
    · rw [e2]; exact hN
    · by_cases e3 : w = .laysStatic Bundle.tN "UNASSIGNED_STACK" Bundle.steD
      · rw [e3]; exact lU
      · by_cases e4 : w = .laysStatic Bundle.tN "SUPPRESSED_SENTINEL" Bundle.listD
        · rw [e4]; exact lN
        · exact h1 w (List.mem_filter.mpr ⟨hw, by unfold vx_no; rw [decide_eq_true e1, decide_eq_true e2, decide_eq_true e3, decide_eq_true e4]; rfl⟩)
/-- where a static field lies, its class's statics cell in H -/
def vx_L (C n d : String) (A : Nat → Prop) (U : State) (H : Heap) : Prop := ∃ (c : ClassId) (k : Class) (i : Nat) (f : Field) (a : Nat) (cell : Cell), U.vm.findClass C = some c ∧ U.fieldFound? C n d = some (c, k, i, f) ∧ f.isStatic = true ∧ k.statics = some a ∧ H[a]? = some cell ∧ cell.vm.isStatics = true ∧ cell.cls = c ∧ f.slot < cell.slots.size ∧ k.staticTypes[f.slot]? = some f.type ∧ ¬ A a
theorem vx_L.moved {C n d : String} {A : Nat → Prop} {u U : State} {H : Heap} (hvm : u.vm.Alike U.vm) (h : vx_L C n d A u H) : vx_L C n d A U H := by
  obtain ⟨c, k, i, f, a, cell, h1, h2, h3, h4, h5, h6, h7, h8, h9, h10⟩ := h
  obtain ⟨k', hi', he⟩ := State.fieldFound?_setVm hvm h2
  exact ⟨c, k', i, f, a, cell, by rw [hvm.findClass]; exact h1, hi', h3, by rw [he]; exact h4, h5, h6, h7, h8, by rw [he]; exact h9, h10⟩
theorem vx_L.kept {C n d : String} {A : Nat → Prop} {U : State} {H H1 : Heap} (h : vx_L C n d A U H) (hq : ∀ a : Nat, a < H.size → ¬ A a → H1[a]? = H[a]?) : vx_L C n d A U H1 := by
  obtain ⟨c, k, i, f, a, cell, h1, h2, h3, h4, h5, h6, h7, h8, h9, h10⟩ := h
  exact ⟨c, k, i, f, a, cell, h1, h2, h3, h4, by rw [hq a (Array.getElem?_eq_some_iff.mp h5).1 h10]; exact h5, h6, h7, h8, h9, h10⟩
theorem vx_L.narrow {C n d : String} {A B : Nat → Prop} {U : State} {H : Heap} (h : vx_L C n d A U H) (hAB : ∀ q, B q → A q) : vx_L C n d B U H := by
  obtain ⟨c, k, i, f, a, cell, h1, h2, h3, h4, h5, h6, h7, h8, h9, h10⟩ := h
  exact ⟨c, k, i, f, a, cell, h1, h2, h3, h4, h5, h6, h7, h8, h9, fun z => h10 (hAB _ z)⟩
theorem vx_L.word {C n d : String} {A : Nat → Prop} {s : State} {args : Array Value} (h : vx_L C n d A s s.heap) : (Cond.laysStatic C n d).before args s = true := by
  obtain ⟨c, k, i, f, a, cell, h1, h2, h3, h4, h5, h6, h7, h8, h9, -⟩ := h
  show (Cond.laysStatic C n d).holds args s none s [] = true
  exact Cond.laysStatic_of h1 h2 h3 h4 h5 h6 h7 h8 h9
/-- .. and what it holds: null or some reference -/
def vx_Zq (C n d : String) (A : Nat → Prop) (U : State) (H : Heap) : Prop := va_Zq C n d A U H ∧ vx_L C n d A U H
theorem vx_Zq.moved {C n d : String} {A : Nat → Prop} {u U : State} {H : Heap} (hvm : u.vm.Alike U.vm) (h : vx_Zq C n d A u H) : vx_Zq C n d A U H := ⟨va_Zq.moved hvm h.1, vx_L.moved hvm h.2⟩
theorem vx_Zq.kept {C n d : String} {A : Nat → Prop} {U : State} {H H1 : Heap} (h : vx_Zq C n d A U H) (hq : ∀ a : Nat, a < H.size → ¬ A a → H1[a]? = H[a]?) : vx_Zq C n d A U H1 := ⟨va_Zq.kept h.1 hq, vx_L.kept h.2 hq⟩
theorem vx_Zq.narrow {C n d : String} {A B : Nat → Prop} {U : State} {H : Heap} (h : vx_Zq C n d A U H) (hAB : ∀ q, B q → A q) : vx_Zq C n d B U H := ⟨va_Zq.narrow h.1 hAB, vx_L.narrow h.2 hAB⟩
theorem vx_Zqof {args : Array Value} {s : State} {C n d : String} {A : Nat → Prop} (hl : (Cond.laysStatic C n d).before args s = true) (hini : (Cond.initialized C).before args s = true) (h : (Cond.isRef (.static C n d)).before args s = true) (hA : ∀ a : Nat, a < s.heap.size → ¬ A a) : vx_Zq C n d A s s.heap := by
  refine ⟨va_Zqof hl hini h hA, ?_⟩
  obtain ⟨c, k, i, f, a, cell, h1, h2, h3, h4, h5, h6, h7, h8, h9⟩ := Cond.laysStatic_spec hl
  exact ⟨c, k, i, f, a, cell, h1, h2, h3, h4, h5, h6, h7, h8, h9, hA a (Array.getElem?_eq_some_iff.mp h5).1⟩
theorem vx_isRef {C n d : String} {v : Value} {A : Nat → Prop} {s : State} {args : Array Value} (h : va_Z C n d v A s s.heap) (hv : v.isRef = true) : (Cond.isRef (.static C n d)).before args s = true := by
  obtain ⟨cf, kf, fi, f, a, cell, h1, h2, h3, h4, h5, h6, h7, -⟩ := h
  have he : (Term.static C n d).eval args s none [] s = some v := by
    simp [Term.eval, State.fieldNamed?, h1, h2, h4, h5, h6, h7]
  simp only [Cond.before, Cond.holds, Cond.value, he]
  cases v <;> simp_all [Value.isRef]
theorem vx_isRefq {C n d : String} {A : Nat → Prop} {s : State} {args : Array Value} (h : va_Zq C n d A s s.heap) : (Cond.isRef (.static C n d)).before args s = true := by
  rcases h with h | ⟨t, h⟩
  · exact vx_isRef h rfl
  · exact vx_isRef h rfl
/-- the same frame, seen from here: as if the method were called anew in this heap -/
theorem vx_rebase {T : State} (X : Stand p l e R s m args below meth c T locs cells slots) {R' : Room} (hf : R'.frames ≤ R.frames) (hl : R'.locals ≤ R.locals) (hc : cells + R'.cells ≤ R.cells) (hs : slots + R'.slots ≤ R.slots) :
    Stand p l e R' ((T.setVm s.vm).setFrames (.invoking m args :: below)) m args below meth c T [] 0 0 := by
  have htop : (T.setVm s.vm).topJava?.isSome := X.here.top
  have hF : ((T.setVm s.vm).setFrames (.invoking m args :: below)).frames = .invoking m args :: below := State.frames_setFrames _ (State.cur_lt_of_top htop)
  obtain ⟨g₀, hg0⟩ := Option.isSome_iff_exists.mp htop
  obtain ⟨r, hr⟩ := State.topJava?_eq_some.mp hg0
  have hl9 : e.platform.stackLimits (T.setVm s.vm).me = e.platform.stackLimits s.me := X.limits
  have hb9 : (T.setVm s.vm).me.stackBytes = s.me.stackBytes := X.bytes
  refine ⟨X.admits, X.cas, X.clock, hF, ?_, X.hears, X.method, X.code, X.here, X.tail, X.warmed, ?_, ?_, ?_⟩
  · have h := X.room
    have hU : ((T.setVm s.vm).setFrames (.invoking m args :: below)).localsInUse = s.localsInUse := by
      rw [State.localsInUse_invoking hF (meth := meth) (c := c) X.method X.code, State.localsInUse_invoking X.frames X.method X.code]
    simp only [State.hasRoom, Bool.and_eq_true, decide_eq_true_eq] at h ⊢
    obtain ⟨⟨⟨⟨h1, h2, h3, h4, h5, h6⟩, h7⟩, h8⟩, h9⟩ := h
    rw [X.frames, List.length_cons] at h2 h3
    have q1 := X.heapSize
    have q2 := X.used
    simp only [hF, hU, List.length_cons, State.stackLimits_setFrames, State.stackBytes_setFrames, hl9, hb9]
    refine ⟨⟨⟨⟨by omega, by omega, by omega, by omega, by omega, h6⟩, ?_⟩, ?_⟩, X.book⟩
    · show T.heap.size + R'.cells ≤ e.platform.maxCells
      omega
    · show T.slotsUsed + R'.slots ≤ e.platform.maxSlots
      omega
  · rw [State.stackLimits_setFrames]; rfl
  · rw [State.stackBytes_setFrames]; rfl
  · refine ⟨?_, Nat.le_refl _, Nat.le_refl _, ?_, ?_, fun a c9 h9 => ⟨c9, h9, rfl, rfl, fun _ _ => rfl⟩⟩
    · obtain ⟨t, ht, -⟩ := State.frames_cons hr
      show T.setVm s.vm = { ((T.setVm s.vm).setFrames (.invoking m args :: below)).setFrames (T.setVm s.vm).frames with heap := T.heap, slotsUsed := T.slotsUsed }
      rw [State.setFrames_setFrames, State.setFrames_self ht]
      rfl
    · show T.slotsUsed = T.slotsUsed + ((T.heap.toList.drop T.heap.size).map (·.slots.size)).sum
      rw [List.drop_eq_nil_of_le (Nat.le_of_eq Array.length_toList)]
      rfl
    · show ((T.heap.toList.drop T.heap.size).map (·.slots.size)).sum ≤ 0
      rw [List.drop_eq_nil_of_le (Nat.le_of_eq Array.length_toList)]
      exact Nat.le_refl _
/-- 'throw new E()': new; dup; invokespecial; athrow -/
theorem vx_throw0 {cc : ByteArray} {pc : Nat} (hexec : p.tables.exec = Jvm.exec) (hb : c.code = cc) (hl : l.stackTraces = false) {own cls : String} {names : List String} {ik ic mc ms : Nat} {A : Nat → Prop}
    (hown : s.vm.findClass own = some m.cls) (hcls : Bundle.fit cls = true) (hnames : ∀ n ∈ names, Bundle.fit n = true)
    (hk : (Cond.classLink own ik cls).before args s = true) (hini : (Cond.initialized cls).before args s = true) (hat : ∀ w ∈ vx_at0 own ic cls names, w.before args s = true)
    (hgood : ∀ w ∈ Cond.classLink own ik cls :: Cond.initialized cls :: vx_at0 own ic cls names, vx_ot w = true)
    (hU : vx_Zq Bundle.tN "UNASSIGNED_STACK" Bundle.steD A s s.heap) (hN : vx_Zq Bundle.tN "SUPPRESSED_SENTINEL" Bundle.listD A s s.heap) (hS : va_S A s.heap H locs) (hsize : ls.size = c.maxLocals)
    (d0 : decode cc pc = .ok (.new ik, 3)) (d3 : decode cc (pc + 3) = .ok (.dup, 1)) (d4 : decode cc (pc + 4) = .ok (.invokespecial ic, 3)) (d7 : decode cc (pc + 7) = .ok (.athrow, 1))
    (hout : ∀ x ∈ c.exceptionTable.toList, covers x (pc + 7) = false)
    (hRframes : names.length + 3 < R.frames) (hRlocals : (rest.map fun v => v.category).sum + (13 * (names.length + 1) + 42) ≤ R.locals) (hRcells : cells + 1 ≤ R.cells) (hRslots : slots + 6 ≤ R.slots) (hlocks : meth.locks = false)
    (hx : ∀ t : State, s.vm.Alike t.vm → H.size ≤ t.heap.size → (∀ q : Nat, q < H.size → t.heap[q]? = H[q]?) → XC cls s t)
    (hf : ∀ z ∈ locs, free z.base) (hc : cells + 1 ≤ mc) (hs : slots + 6 ≤ ms) :
    W p l e R s m args below meth c H locs cells slots (vx_MQ below Qc XC args s mc ms free) (F0 m pc ls rest) := by
  intro T hT X
  have htr : e.platform.stackTraces = false := (show e.platform.stackTraces = l.stackTraces by rw [X.admits.platform]).trans hl
  have Y := vx_rebase X (R' := { frames := R.frames, locals := R.locals, cells := 1, slots := 6 }) (Nat.le_refl _) (Nat.le_refl _) hRcells hRslots
  obtain ⟨s', hA⟩ : ∃ z, z = (T.setVm s.vm).setFrames (.invoking m args :: below) := ⟨_, rfl⟩
  rw [← hA] at Y
  have hvm : s'.vm = s.vm := by rw [hA]; rfl
  have hhp : s'.heap = H := by rw [hA]; exact hT
  have hW0 : s.WarmedH s'.vm := by rw [hvm]; exact State.WarmedH.refl s
  have hat' : ∀ w ∈ vx_at0 own ic cls names, w.before args s' = true := fun w hw => vx_ot_at hW0 hvm.symm (hgood w (List.mem_cons_of_mem _ (List.mem_cons_of_mem _ hw))) (hat w hw)
  have hk' : (Cond.classLink own ik cls).before args s' = true := vx_ot_at hW0 hvm.symm (hgood _ List.mem_cons_self) hk
  have hini' : (Cond.initialized cls).before args s' = true := vx_ot_at hW0 hvm.symm (hgood _ (List.mem_cons_of_mem _ List.mem_cons_self)) hini
  have hU' : vx_Zq Bundle.tN "UNASSIGNED_STACK" Bundle.steD A s' s'.heap := by rw [hhp]; exact vx_Zq.moved hW0.alike (hU.kept hS.2.1)
  have hN' : vx_Zq Bundle.tN "SUPPRESSED_SENTINEL" Bundle.listD A s' s'.heap := by rw [hhp]; exact vx_Zq.moved hW0.alike (hN.kept hS.2.1)
  have h : ∀ w ∈ Bundle.ownAtoms0 own ic cls names, w.before args s' = true := vx_own hat' (vx_isRefq hU'.1) (vx_isRefq hN'.1) hU'.2.word hN'.2.word
  have hown' : s'.vm.findClass own = some m.cls := by rw [hvm]; exact hown
  have hins : (Cond.instantiable cls 6).before args s' = true := h _ (by simp [Bundle.ownAtoms0])
  obtain ⟨vm₁, cX, kX, hfX, hkX, -, -, X₁, st1⟩ := Y.newCold hexec (own := own) (C := cls) (index := ik) (n := 6) hown' hk' hins hini'
    (g := F0 m pc ls rest) rfl (by rw [hb]; exact d0) (Nat.le_refl _) (Nat.le_refl _)
  generalize hT1 : (T.setVm vm₁).pushCell { cls := cX, slots := kX.instanceTypes.map defaultValue, vm := .none } = T1 at X₁ st1
  have hcat : (Value.ref T.heap.size).category = 1 := rfl
  have hcellA : T1.heap[T.heap.size]? = some (freshCell cX kX) := by rw [← hT1]; exact State.heap_pushCell_size _ _
  have d3' : decode c.code (pc + 3) = .ok (.dup, 1) := by rw [hb]; exact d3
  obtain ⟨U, hsteps, hrun, hend, hW, hsame, ce, hce, hO⟩ := X₁.ctorThrow0 hexec htr (own := own) (cls := cls) (names := names) (ic := ic) hown' hcls hnames h (fun x hx => nomatch hx) hfX hkX hcellA (by rw [hhp, hT]; exact Nat.le_refl _)
    (g := { method := m, pc := pc + 4, locals := ls, stack := .ref T.heap.size :: .ref T.heap.size :: rest, locked := none }) rfl hsize rfl rfl (rest := rest) rfl
    (by rw [hb]; exact d4) (by rw [hb]; exact d7) hout hRframes (by simp only [List.map_cons, List.sum_cons, hcat]; omega) hlocks
  obtain ⟨f1, f2⟩ := vx_frame hsame
  rw [hhp] at f1 f2
  have hWs : s.WarmedH U.vm := State.WarmedH.trans hW0 hW
  have hcl : s.vm.findClass cls = some ce.cls := by
    have h9 := hO.cls
    rw [hvm] at h9
    exact h9
  have hall : s.sameButNew ({ U with vm := s.vm } : State) locs mc ms := by
    subst hA
    obtain ⟨e1, e2⟩ := hsame
    rw [State.setFrames_setFrames] at e1
    have h2 : (T.setVm s.vm).sameButNew ({ U with vm := s.vm } : State) [] (0 + 1) (0 + 6) := ⟨e1, e2⟩
    have h3 := X.same.trans h2
    rw [List.append_nil] at h3
    exact h3.mono hc hs
  refine ⟨U, ?_, .threw T.heap.size, hrun, hend, Or.inr ⟨T.heap.size, rfl, cls, ce, locs, hx U hWs.alike f1 (fun q hq => f2 q hq (fun z hz => nomatch hz)), hce, hO.vm, hcl, hWs, hall, hf⟩⟩
  refine st1 _ ?_
  show Steps p.tables e below (T1.setTop { method := m, pc := pc + 3, locals := ls, stack := .ref T.heap.size :: rest, locked := none }) _
  jvm_step X₁.here [X₁.here.top, hexec, d3', Value.category]
  exact hsteps
/-- 'throw new E("text")': new; dup; ldc; invokespecial; athrow -/
theorem vx_throwS {cc : ByteArray} {pc : Nat} (hexec : p.tables.exec = Jvm.exec) (hb : c.code = cc) (hl : l.stackTraces = false) {own cls text : String} {names : List String} {ik is ic mc ms sa : Nat} {A : Nat → Prop}
    (hown : s.vm.findClass own = some m.cls) (hcls : Bundle.fit cls = true) (hnames : ∀ n ∈ names, Bundle.fit n = true)
    (hk : (Cond.classLink own ik cls).before args s = true) (hini : (Cond.initialized cls).before args s = true) (hstr : vk_R own is text sa s) (hat : ∀ w ∈ vx_atS own ic cls names, w.before args s = true)
    (hgood : ∀ w ∈ Cond.classLink own ik cls :: Cond.initialized cls :: vx_atS own ic cls names, vx_ot w = true)
    (hU : vx_Zq Bundle.tN "UNASSIGNED_STACK" Bundle.steD A s s.heap) (hN : vx_Zq Bundle.tN "SUPPRESSED_SENTINEL" Bundle.listD A s s.heap) (hS : va_S A s.heap H locs) (hsize : ls.size = c.maxLocals)
    (d0 : decode cc pc = .ok (.new ik, 3)) (d3 : decode cc (pc + 3) = .ok (.dup, 1)) (d4 : decode cc (pc + 4) = .ok (.ldc is, 2)) (d6 : decode cc (pc + 6) = .ok (.invokespecial ic, 3)) (d9 : decode cc (pc + 9) = .ok (.athrow, 1))
    (hout : ∀ x ∈ c.exceptionTable.toList, covers x (pc + 9) = false)
    (hRframes : names.length + 3 < R.frames) (hRlocals : (rest.map fun v => v.category).sum + (13 * (names.length + 1) + 43) ≤ R.locals) (hRcells : cells + 1 ≤ R.cells) (hRslots : slots + 6 ≤ R.slots) (hlocks : meth.locks = false)
    (hx : ∀ t : State, s.vm.Alike t.vm → H.size ≤ t.heap.size → (∀ q : Nat, q < H.size → t.heap[q]? = H[q]?) → XC cls s t)
    (hf : ∀ z ∈ locs, free z.base) (hc : cells + 1 ≤ mc) (hs : slots + 6 ≤ ms) :
    W p l e R s m args below meth c H locs cells slots (vx_MQ below Qc XC args s mc ms free) (F0 m pc ls rest) := by
  intro T hT X
  have htr : e.platform.stackTraces = false := (show e.platform.stackTraces = l.stackTraces by rw [X.admits.platform]).trans hl
  have Y := vx_rebase X (R' := { frames := R.frames, locals := R.locals, cells := 1, slots := 6 }) (Nat.le_refl _) (Nat.le_refl _) hRcells hRslots
  obtain ⟨s', hA⟩ : ∃ z, z = (T.setVm s.vm).setFrames (.invoking m args :: below) := ⟨_, rfl⟩
  rw [← hA] at Y
  have hvm : s'.vm = s.vm := by rw [hA]; rfl
  have hhp : s'.heap = H := by rw [hA]; exact hT
  have hW0 : s.WarmedH s'.vm := by rw [hvm]; exact State.WarmedH.refl s
  have hat' : ∀ w ∈ vx_atS own ic cls names, w.before args s' = true := fun w hw => vx_ot_at hW0 hvm.symm (hgood w (List.mem_cons_of_mem _ (List.mem_cons_of_mem _ hw))) (hat w hw)
  have hk' : (Cond.classLink own ik cls).before args s' = true := vx_ot_at hW0 hvm.symm (hgood _ List.mem_cons_self) hk
  have hini' : (Cond.initialized cls).before args s' = true := vx_ot_at hW0 hvm.symm (hgood _ (List.mem_cons_of_mem _ List.mem_cons_self)) hini
  have hU' : vx_Zq Bundle.tN "UNASSIGNED_STACK" Bundle.steD A s' s'.heap := by rw [hhp]; exact vx_Zq.moved hW0.alike (hU.kept hS.2.1)
  have hN' : vx_Zq Bundle.tN "SUPPRESSED_SENTINEL" Bundle.listD A s' s'.heap := by rw [hhp]; exact vx_Zq.moved hW0.alike (hN.kept hS.2.1)
  have h : ∀ w ∈ Bundle.ownAtoms own ic cls names, w.before args s' = true := vx_own hat' (vx_isRefq hU'.1) (vx_isRefq hN'.1) hU'.2.word hN'.2.word
  have hown' : s'.vm.findClass own = some m.cls := by rw [hvm]; exact hown
  have hins : (Cond.instantiable cls 6).before args s' = true := h _ (by simp [Bundle.ownAtoms])
  obtain ⟨vm₁, cX, kX, hfX, hkX, -, -, X₁, st1⟩ := Y.newCold hexec (own := own) (C := cls) (index := ik) (n := 6) hown' hk' hins hini'
    (g := F0 m pc ls rest) rfl (by rw [hb]; exact d0) (Nat.le_refl _) (Nat.le_refl _)
  generalize hT1 : (T.setVm vm₁).pushCell { cls := cX, slots := kX.instanceTypes.map defaultValue, vm := .none } = T1 at X₁ st1
  have hcat : (Value.ref T.heap.size).category = 1 := rfl
  have hcellA : T1.heap[T.heap.size]? = some (freshCell cX kX) := by rw [← hT1]; exact State.heap_pushCell_size _ _
  have d3' : decode c.code (pc + 3) = .ok (.dup, 1) := by rw [hb]; exact d3
  have d4' : decode c.code (pc + 4) = .ok (.ldc is, 2) := by rw [hb]; exact d4
  have hstr' : vk_R own is text sa s' := vk_R.warm hW0 hstr
  obtain ⟨U, hsteps, hrun, hend, hW, hsame, ce, hce, hO⟩ := X₁.ctorThrowS hexec htr (own := own) (cls := cls) (names := names) (ic := ic) hown' hcls hnames h (fun x hx => nomatch hx) hfX hkX hcellA (by rw [hhp, hT]; exact Nat.le_refl _) (msg := .ref sa) rfl
    (g := { method := m, pc := pc + 6, locals := ls, stack := .ref sa :: .ref T.heap.size :: .ref T.heap.size :: rest, locked := none }) rfl hsize rfl rfl (rest := rest) rfl
    (by rw [hb]; exact d6) (by rw [hb]; exact d9) hout hRframes (by simp only [List.map_cons, List.sum_cons, hcat]; omega) hlocks
  obtain ⟨f1, f2⟩ := vx_frame hsame
  rw [hhp] at f1 f2
  have hWs : s.WarmedH U.vm := State.WarmedH.trans hW0 hW
  have hcl : s.vm.findClass cls = some ce.cls := by
    have h9 := hO.cls
    rw [hvm] at h9
    exact h9
  have hall : s.sameButNew ({ U with vm := s.vm } : State) locs mc ms := by
    subst hA
    obtain ⟨e1, e2⟩ := hsame
    rw [State.setFrames_setFrames] at e1
    have h2 : (T.setVm s.vm).sameButNew ({ U with vm := s.vm } : State) [] (0 + 1) (0 + 6) := ⟨e1, e2⟩
    have h3 := X.same.trans h2
    rw [List.append_nil] at h3
    exact h3.mono hc hs
  refine ⟨U, ?_, .threw T.heap.size, hrun, hend, Or.inr ⟨T.heap.size, rfl, cls, ce, locs, hx U hWs.alike f1 (fun q hq => f2 q hq (fun z hz => nomatch hz)), hce, hO.vm, hcl, hWs, hall, hf⟩⟩
  refine st1 _ ?_
  show Steps p.tables e below (T1.setTop { method := m, pc := pc + 3, locals := ls, stack := .ref T.heap.size :: rest, locked := none }) _
  jvm_step X₁.here [X₁.here.top, hexec, d3', Value.category]
  exact X₁.ldcString hexec (own := own) (text := text) (index := is) (a := sa) hown' hstr'.1 hstr'.2
    (g := { method := m, pc := pc + 4, locals := ls, stack := .ref T.heap.size :: .ref T.heap.size :: rest, locked := none }) rfl d4' _ hsteps
/-- 'throw new E("text")', the text by a wide index -/
theorem vx_throwSW {cc : ByteArray} {pc : Nat} (hexec : p.tables.exec = Jvm.exec) (hb : c.code = cc) (hl : l.stackTraces = false) {own cls text : String} {names : List String} {ik is ic mc ms sa : Nat} {A : Nat → Prop}
    (hown : s.vm.findClass own = some m.cls) (hcls : Bundle.fit cls = true) (hnames : ∀ n ∈ names, Bundle.fit n = true)
    (hk : (Cond.classLink own ik cls).before args s = true) (hini : (Cond.initialized cls).before args s = true) (hstr : vk_R own is text sa s) (hat : ∀ w ∈ vx_atS own ic cls names, w.before args s = true)
    (hgood : ∀ w ∈ Cond.classLink own ik cls :: Cond.initialized cls :: vx_atS own ic cls names, vx_ot w = true)
    (hU : vx_Zq Bundle.tN "UNASSIGNED_STACK" Bundle.steD A s s.heap) (hN : vx_Zq Bundle.tN "SUPPRESSED_SENTINEL" Bundle.listD A s s.heap) (hS : va_S A s.heap H locs) (hsize : ls.size = c.maxLocals)
    (d0 : decode cc pc = .ok (.new ik, 3)) (d3 : decode cc (pc + 3) = .ok (.dup, 1)) (d4 : decode cc (pc + 4) = .ok (.ldc_w is, 3)) (d7 : decode cc (pc + 7) = .ok (.invokespecial ic, 3)) (d10 : decode cc (pc + 10) = .ok (.athrow, 1))
    (hout : ∀ x ∈ c.exceptionTable.toList, covers x (pc + 10) = false)
    (hRframes : names.length + 3 < R.frames) (hRlocals : (rest.map fun v => v.category).sum + (13 * (names.length + 1) + 43) ≤ R.locals) (hRcells : cells + 1 ≤ R.cells) (hRslots : slots + 6 ≤ R.slots) (hlocks : meth.locks = false)
    (hx : ∀ t : State, s.vm.Alike t.vm → H.size ≤ t.heap.size → (∀ q : Nat, q < H.size → t.heap[q]? = H[q]?) → XC cls s t)
    (hf : ∀ z ∈ locs, free z.base) (hc : cells + 1 ≤ mc) (hs : slots + 6 ≤ ms) :
    W p l e R s m args below meth c H locs cells slots (vx_MQ below Qc XC args s mc ms free) (F0 m pc ls rest) := by
  intro T hT X
  have htr : e.platform.stackTraces = false := (show e.platform.stackTraces = l.stackTraces by rw [X.admits.platform]).trans hl
  have Y := vx_rebase X (R' := { frames := R.frames, locals := R.locals, cells := 1, slots := 6 }) (Nat.le_refl _) (Nat.le_refl _) hRcells hRslots
  obtain ⟨s', hA⟩ : ∃ z, z = (T.setVm s.vm).setFrames (.invoking m args :: below) := ⟨_, rfl⟩
  rw [← hA] at Y
  have hvm : s'.vm = s.vm := by rw [hA]; rfl
  have hhp : s'.heap = H := by rw [hA]; exact hT
  have hW0 : s.WarmedH s'.vm := by rw [hvm]; exact State.WarmedH.refl s
  have hat' : ∀ w ∈ vx_atS own ic cls names, w.before args s' = true := fun w hw => vx_ot_at hW0 hvm.symm (hgood w (List.mem_cons_of_mem _ (List.mem_cons_of_mem _ hw))) (hat w hw)
  have hk' : (Cond.classLink own ik cls).before args s' = true := vx_ot_at hW0 hvm.symm (hgood _ List.mem_cons_self) hk
  have hini' : (Cond.initialized cls).before args s' = true := vx_ot_at hW0 hvm.symm (hgood _ (List.mem_cons_of_mem _ List.mem_cons_self)) hini
  have hU' : vx_Zq Bundle.tN "UNASSIGNED_STACK" Bundle.steD A s' s'.heap := by rw [hhp]; exact vx_Zq.moved hW0.alike (hU.kept hS.2.1)
  have hN' : vx_Zq Bundle.tN "SUPPRESSED_SENTINEL" Bundle.listD A s' s'.heap := by rw [hhp]; exact vx_Zq.moved hW0.alike (hN.kept hS.2.1)
  have h : ∀ w ∈ Bundle.ownAtoms own ic cls names, w.before args s' = true := vx_own hat' (vx_isRefq hU'.1) (vx_isRefq hN'.1) hU'.2.word hN'.2.word
  have hown' : s'.vm.findClass own = some m.cls := by rw [hvm]; exact hown
  have hins : (Cond.instantiable cls 6).before args s' = true := h _ (by simp [Bundle.ownAtoms])
  obtain ⟨vm₁, cX, kX, hfX, hkX, -, -, X₁, st1⟩ := Y.newCold hexec (own := own) (C := cls) (index := ik) (n := 6) hown' hk' hins hini'
    (g := F0 m pc ls rest) rfl (by rw [hb]; exact d0) (Nat.le_refl _) (Nat.le_refl _)
  generalize hT1 : (T.setVm vm₁).pushCell { cls := cX, slots := kX.instanceTypes.map defaultValue, vm := .none } = T1 at X₁ st1
  have hcat : (Value.ref T.heap.size).category = 1 := rfl
  have hcellA : T1.heap[T.heap.size]? = some (freshCell cX kX) := by rw [← hT1]; exact State.heap_pushCell_size _ _
  have d3' : decode c.code (pc + 3) = .ok (.dup, 1) := by rw [hb]; exact d3
  have d4' : decode c.code (pc + 4) = .ok (.ldc_w is, 3) := by rw [hb]; exact d4
  have hstr' : vk_R own is text sa s' := vk_R.warm hW0 hstr
  obtain ⟨U, hsteps, hrun, hend, hW, hsame, ce, hce, hO⟩ := X₁.ctorThrowS hexec htr (own := own) (cls := cls) (names := names) (ic := ic) hown' hcls hnames h (fun x hx => nomatch hx) hfX hkX hcellA (by rw [hhp, hT]; exact Nat.le_refl _) (msg := .ref sa) rfl
    (g := { method := m, pc := pc + 7, locals := ls, stack := .ref sa :: .ref T.heap.size :: .ref T.heap.size :: rest, locked := none }) rfl hsize rfl rfl (rest := rest) rfl
    (by rw [hb]; exact d7) (by rw [hb]; exact d10) hout hRframes (by simp only [List.map_cons, List.sum_cons, hcat]; omega) hlocks
  obtain ⟨f1, f2⟩ := vx_frame hsame
  rw [hhp] at f1 f2
  have hWs : s.WarmedH U.vm := State.WarmedH.trans hW0 hW
  have hcl : s.vm.findClass cls = some ce.cls := by
    have h9 := hO.cls
    rw [hvm] at h9
    exact h9
  have hall : s.sameButNew ({ U with vm := s.vm } : State) locs mc ms := by
    subst hA
    obtain ⟨e1, e2⟩ := hsame
    rw [State.setFrames_setFrames] at e1
    have h2 : (T.setVm s.vm).sameButNew ({ U with vm := s.vm } : State) [] (0 + 1) (0 + 6) := ⟨e1, e2⟩
    have h3 := X.same.trans h2
    rw [List.append_nil] at h3
    exact h3.mono hc hs
  refine ⟨U, ?_, .threw T.heap.size, hrun, hend, Or.inr ⟨T.heap.size, rfl, cls, ce, locs, hx U hWs.alike f1 (fun q hq => f2 q hq (fun z hz => nomatch hz)), hce, hO.vm, hcl, hWs, hall, hf⟩⟩
  refine st1 _ ?_
  show Steps p.tables e below (T1.setTop { method := m, pc := pc + 3, locals := ls, stack := .ref T.heap.size :: rest, locked := none }) _
  jvm_step X₁.here [X₁.here.top, hexec, d3', Value.category]
  exact X₁.ldcStringW hexec (own := own) (text := text) (index := is) (a := sa) hown' hstr'.1 hstr'.2
    (g := { method := m, pc := pc + 4, locals := ls, stack := .ref T.heap.size :: .ref T.heap.size :: rest, locked := none }) rfl d4' _ hsteps
end Ends
section Bodies
variable {l : Launch}
theorem vx_ofW {y : MethodName} {ws ws' : List Cond} {rm : Room} {Pc : Array Value → State → Prop} {Qc : Array Value → State → Outcome → State → Prop} {XC : String → State → State → Prop} {mc ms : Nat} {free : Addr → Prop} {cc : ByteArray} {maxL : Nat} {ret : Option FieldType}
    (hy : plainName y.cls = true) (hw : ws = Cond.code y cc maxL ret :: ws')
    (body : ∀ p e s m args below meth c s₁, BodyLoose p l y (headSpec ws rm) cc maxL ret e s m args below meth c s₁ → c.maxLocals = maxL → (∀ x ∈ c.exceptionTable.toList, False) → Pc args s →
      W p l e (headSpec ws rm).room s m args below meth c s.heap [] 0 0 (vx_MQ below Qc XC args s mc ms free) (entryFrame m args maxL)) : vx_Met l y ws rm Pc Qc XC mc ms free := by
  refine MetFree.of_bodyS (code := cc) (maxLocals := maxL) (ret := ret) hy ?_ ?_
  · intro args s m h hn
    obtain ⟨meth, c, h1, h2, h3, h4, h5, h6, -, -⟩ := Cond.code_spec hn (atoms_spec (ws := ws) h _ (by rw [hw]; exact List.mem_cons_self))
    exact ⟨meth, c, h1, h2, h3, h4, h5, h6⟩
  · intro p e s m args below meth c s₁ B hml hP _
    have hh0 : s₁.heap = s.heap := by rw [B.state]; rfl
    have ht : ∀ x ∈ c.exceptionTable.toList, False := by
      obtain ⟨meth9, c9, h1, h2, -, -, -, -, h7, -⟩ := Cond.code_spec B.named (atoms_spec (ws := ws) B.pre _ (by rw [hw]; exact List.mem_cons_self))
      cases Option.some.inj (h1.symm.trans B.method)
      cases Option.some.inj (h2.symm.trans (Stand.of_body B).code)
      intro x hx
      rw [Array.isEmpty_iff.mp h7] at hx
      cases hx
    obtain ⟨t, a1, o, b1, b2, b3⟩ := body p e s m args below meth c s₁ B hml ht hP s₁ hh0 (Stand.of_body B)
    exact ⟨t, o, a1, b1, b2, b3⟩
/-- the table of a body with handlers -/
theorem vx_table {p : Program} {x y : MethodName} {S : Spec} {cc bytes : ByteArray} {maxL maxL' : Nat} {ret ret' : Option FieldType} {e : Env} {s s₁ : State} {m : MethodId} {args : Array Value} {below : List Frame} {meth : Method} {c : Code} {hh : List (Nat × Nat × Nat × Nat)}
    (B : BodyLoose p l y S cc maxL ret e s m args below meth c s₁) (h : (Cond.codeWith y bytes maxL' ret' hh).before args s = true) : c.exceptionTable.toList = tableOf hh := by
  obtain ⟨m9, meth9, c9, hn9, h1, h2, -, -, h6, -⟩ := Cond.codeWith_spec h
  cases Option.some.inj (hn9.symm.trans B.named)
  cases Option.some.inj (h1.symm.trans B.method)
  cases Option.some.inj (h2.symm.trans (Stand.of_body B).code)
  rw [← h6, table_eq]
end Bodies
end VXA
/-! ===== END ===== -/
/-! ===== BEGIN a static call of a method with an exception table ===== -/
section VXS
variable {p : Program} {l : Launch} {e : Env} {R : Room} {s : State} {m : MethodId} {args : Array Value} {below : List Frame} {meth : Method} {c : Code} {T : State} {H : Heap} {locs : List Loc} {cells slots : Nat}
abbrev vx_CSW (R : Room) (s : State) (args : Array Value) (own : String) (index : Nat) (y : MethodName) (bytes : ByteArray) (maxL : Nat) (ret : Option FieldType) (hh : List (Nat × Nat × Nat × Nat)) (ws : List Cond) (rm : Room) (mc ms n : Nat) : Prop :=
  (rm.cells = mc ∧ rm.slots = ms ∧ rm.frames + 1 ≤ R.frames ∧ 8 + (maxL + 11) + rm.locals ≤ R.locals ∧ (∀ w ∈ ws, ∀ (a' : Array Value) (U : State), s.WarmedH U.vm → w.before a' U = true) ∧ Cond.codeWith y bytes maxL ret hh ∈ ws) ∧
  (Cond.codeWith y bytes maxL ret hh).before args s = true ∧ (Cond.initialized y.cls).before args s = true ∧ (y.cls ≠ "java/lang/invoke/MethodHandle" ∧ y.cls ≠ "java/lang/invoke/VarHandle") ∧
  (∀ sig, parseMethodDescriptor y.desc = some sig → n = sig.parameters.length) ∧ (Cond.methodLink own index y).before args s = true ∧ (Cond.static y).before args s = true
theorem vx_cwSW {own : String} {index maxL mc ms : Nat} {y : MethodName} {bytes : ByteArray} {ret : Option FieldType} {hh : List (Nat × Nat × Nat × Nat)} {Ts ws ws' : List Cond} {rm : Room} (n : Nat) (ht : ∀ w ∈ Ts, w.before args s = true) (hT : GoodIn Ts (va_wsS own index y ws)) (hw : ws = Cond.codeWith y bytes maxL ret hh :: ws') (hrc : rm.cells = mc) (hrs : rm.slots = ms)
    (hd : y.cls ≠ "java/lang/invoke/MethodHandle" ∧ y.cls ≠ "java/lang/invoke/VarHandle" ∧ (parseMethodDescriptor y.desc).map (fun d => d.parameters.length) = some n) (hR : rm.frames + 1 ≤ R.frames ∧ 8 + (maxL + 11) + rm.locals ≤ R.locals) :
    vx_CSW R s args own index y bytes maxL ret hh ws rm mc ms n := by
  have ok : ∀ w ∈ va_wsS own index y ws, w.before args s = true := fun w h => ht w (hT w h).1
  have hG : GoodIn Ts ws := fun w h => hT w (by unfold va_wsS; exact List.mem_append_right _ h)
  have hc : Cond.codeWith y bytes maxL ret hh ∈ ws := by rw [hw]; exact List.mem_cons_self
  refine ⟨⟨hrc, hrs, hR.1, hR.2, pay_in ht hG, hc⟩, ht _ (hG _ hc).1, ok _ (by simp [va_wsS]), ⟨hd.1, hd.2.1⟩, fun sig h => ?_, ok _ (by simp [va_wsS]), ok _ (by simp [va_wsS])⟩
  have h2 := hd.2.2
  rw [h] at h2
  exact (Option.some.inj h2).symm
theorem vx_callSW (X : Stand p l e R s m args below meth c T locs cells slots) (hexec : p.tables.exec = Jvm.exec) {own : String} {index : Nat} {y : MethodName} {bytes : ByteArray} {maxL : Nat} {ret : Option FieldType} {hh : List (Nat × Nat × Nat × Nat)}
    (hown : s.vm.findClass own = some m.cls) (hlink : (Cond.methodLink own index y).before args s = true) (hstat : (Cond.static y).before args s = true) (hinit : (Cond.initialized y.cls).before args s = true)
    (hcode : (Cond.codeWith y bytes maxL ret hh).before args s = true) (hy : y.cls ≠ "java/lang/invoke/MethodHandle" ∧ y.cls ≠ "java/lang/invoke/VarHandle")
    {W9 : Nat} {Pre : Pt → Array Value → Prop} {Post : Pt → Array Value → Option Value → Pt → Prop} (hK : Back l R p e below s args y 3 W9 Pre Post)
    {g : JFrame} (hg : g.method = m) (hsize : g.locals.size = c.maxLocals) {argsL rest : List Value} (hlen : ∀ sig, parseMethodDescriptor y.desc = some sig → argsL.length = sig.parameters.length)
    (hstack : g.stack = argsL.reverse ++ rest) (hW : 2 * g.monitorRoom + (rest.map fun v => v.category).sum ≤ W9) (hdg : decode c.code g.pc = .ok (.invokestatic index, 3))
    (hpre : ∀ vm₁, s.WarmedH vm₁ → Pre ⟨T.setVm vm₁, locs, cells, slots⟩ argsL.toArray) :
    ∃ (v : Option Value) (vm₁ : Vm) (B : Pt), s.WarmedH vm₁ ∧ Stand p l e R s m args below meth c B.U B.locs B.cells B.slots ∧ Post ⟨T.setVm vm₁, locs, cells, slots⟩ argsL.toArray v B ∧
      ∀ target, Steps p.tables e below (B.U.setTop { g with pc := g.pc + 3, stack := v.toList ++ rest }) target → Steps p.tables e below (T.setTop g) target := by
  obtain ⟨mk, methM, cM, hnamed, hmethM, -, -, -, -, -, -, hsigM⟩ := Cond.codeWith_spec hcode
  have hstatic : methM.isStatic = true := Cond.static_spec hnamed hmethM hstat
  obtain ⟨kP, hkP, -⟩ := className_of_methodNamed hnamed
  have hinitP : kP.init = .initialized := Cond.initialized_spec (findClass_of_methodNamed hnamed) hkP hinit
  obtain ⟨vm₁, X₁, hstep₁⟩ := X.invokestatic hexec hown hlink hnamed hmethM hstatic hkP hinitP hy (g := g) hg (argsL := argsL) (rest := rest) (hlen _ hsigM) hstack hdg
  obtain ⟨v, B, X', hpost, hsteps⟩ := hK m meth c ⟨T.setVm vm₁, locs, cells, slots⟩ { g with stack := rest } (.invokestatic index) mk argsL.toArray X₁ hg hsize hdg hW (X₁.named hnamed) (hpre vm₁ X₁.warmed)
  exact ⟨v, vm₁, B, X₁.warmed, X', hpost, fun target h => hstep₁ _ fun acts => by rw [doInvoke_state]; exact hsteps.trans h⟩
theorem vx_runSW {y : MethodName} {bytes cc : ByteArray} {maxL nL mc ms n index : Nat} {ret : Option FieldType} {hh : List (Nat × Nat × Nat × Nat)} {ws : List Cond} {rm : Room} {Pc : Array Value → State → Prop} {Qc : Array Value → State → Outcome → State → Prop} {free : Addr → Prop} {Ts : List Cond} {own : String} {As rest : List Value} {g : JFrame}
    (S : CallFix p m c cc nL s args Ts own) (hM : Met l y ws rm Pc Qc mc ms free) (cw : vx_CSW R s args own index y bytes maxL ret hh ws rm mc ms n) (hp : PreS s H Pc As)
    (hg : g.method = m) (hn : As.length = n) (hsize : g.locals.size = nL) (hstack : g.stack = As.reverse ++ rest) (hW : 2 * g.monitorRoom + (rest.map fun v => v.category).sum ≤ 8) (hdg : decode cc g.pc = .ok (.invokestatic index, 3)) (hf : cells + mc ≤ R.cells ∧ slots + ms ≤ R.slots) :
    va_Run p l e R s m args below meth c H locs cells slots mc ms g rest (Qc As.toArray) (free) := by
  obtain ⟨⟨hrc, hrs, hfr, hlo, hws, hcw⟩, hcode, hini, hy, hlen, hl, hstt⟩ := cw
  have hK : Back l R p e below s args y 3 8 (PreOf R mc ms Pc) (PostOf Qc mc ms free) := va_backW (hh := hh) (bytes := bytes) (maxL := maxL) (ret := ret) hM hp.1 hrc hrs hfr hlo hws hcw (fun a' U hW => word_at hW (Or.inl (by first | rfl | simp [Cond.onTables, Cond.keeps, Cond.steady])) hini)
  obtain ⟨hx, hb, hml, ho, -⟩ := S
  intro T hT X
  obtain ⟨v, vm₁, ⟨U', l2, c2, s2⟩, hW₁, X', ⟨g', mk, t, L, e1, e2, hq, h1, hL, h2, h3⟩, st⟩ := vx_callSW X hx (hh := hh) (bytes := bytes) (maxL := maxL) (ret := ret) ho hl hstt hini hcode hy hK hg (hsize.trans hml.symm) (argsL := As) (rest := rest) (fun sig h => hn.trans (hlen sig h)) hstack hW (by rw [hb]; exact hdg)
    (fun vm₁ hW₁ => ⟨hf.1, hf.2, hp.2 (T.setVm vm₁) hT hW₁⟩)
  dsimp only [Pt.U, Pt.locs, Pt.cells, Pt.slots] at X' e1 e2 h1 h2 h3 st
  subst h1; subst h2; subst h3
  exact ⟨v, (T.setVm vm₁).calling g' mk As.toArray, t, U', L, hT, X', hL, e1, e2, hq, st⟩
/-- not caught here, past rows that name other classes: it goes on to the caller -/
theorem vx_outP {p : Program} {l : Launch} {e : Env} {R : Room} {s : State} {m : MethodId} {args : Array Value} {below : List Frame} {meth : Method} {c : Code} {H : Heap} {locs : List Loc} {cells slots : Nat} {free : Addr → Prop} {ls : Array Slot} {rest : List Value} {Qc : Array Value → State → Outcome → State → Prop} {XC : String → State → State → Prop}
    {pc : Nat} {own E : String} {ce : Cell} {q : Addr} {mc ms : Nat} (hown : s.vm.findClass own = some m.cls) (hlocks : meth.locks = false)
    (hpass : ∀ z ∈ c.exceptionTable.toList, covers z pc = false ∨ (z.catchType ≠ 0 ∧ ∃ nm : String, (Cond.classLink own z.catchType nm).before args s = true ∧ va_Nc E nm s)) (hcell : H[q]? = some ce) (hv : ce.vm = .none) (hcl : s.vm.findClass E = some ce.cls)
    (hx : ∀ t : State, t.heap = H → s.vm.Alike t.vm → XC E s t) (hf : ∀ z ∈ locs, free z.base) (hc : cells ≤ mc) (hs : slots ≤ ms) :
    vx_W p l e R s m args below meth c H locs cells slots (vx_MQ below Qc XC args s mc ms free) (F0 m pc ls rest) q := by
  intro T hT X
  have hpl : e.platform.magicAccessors = ({} : Platform).magicAccessors := by rw [X.admits.platform]
  obtain ⟨vm', hW', X', st⟩ := X.outThrough hlocks q (g := F0 m pc ls rest) rfl rfl rfl (cell := ce) (by rw [hT]; exact hcell) (by rw [hv]; rfl)
    (by obtain ⟨k9, h9, -⟩ := Vm.findClass_spec hcl; exact ⟨k9, h9⟩) (fun z hz => by
      rcases hpass z hz with h | ⟨hz0, nm, hl1, hn1⟩
      · exact Or.inl h
      · obtain ⟨c6, hc6, hcl6⟩ := Cond.classLink_spec hown hl1 e.platform hpl
        obtain ⟨a8, b8, h1, h2, h3⟩ := hn1
        cases Option.some.inj (h1.symm.trans hcl)
        cases Option.some.inj (h2.symm.trans hc6)
        exact Or.inr ⟨hz0, _, hcl6, h3⟩)
  obtain ⟨g₀, hfr⟩ := X'.frames_eq
  have hcell9 : ((T.setVm vm').setFrames (.throwing q :: below)).heap[q]? = some ce := by
    show T.heap[q]? = some ce
    rw [hT]; exact hcell
  have hend : Ended ((T.setVm vm').setFrames (.throwing q :: below)) below (.threw q) := State.frames_setFrames _ (State.cur_lt_of_frames hfr)
  refine ⟨(T.setVm vm').setFrames (.throwing q :: below), ?_, .threw q, X'.here.running, hend, Or.inr ⟨q, rfl, E, ce, locs, hx _ hT (X'.ends _).1.alike, hcell9, hv, hcl, (X'.ends _).1, (X'.ends _).2.mono hc hs, hf⟩⟩
  rw [X.pushThrowing_eq]
  exact st
/-- a thing of a world lies in the heap -/
theorem vx_lt {D : va_G} {cl : List vw_C} {ws : va_W} {H1 : Heap} (h : va_P D cl ws H1) {k : Nat} {q : Nat × va_E} (hk : ws[k]? = some q) : q.1 < H1.size := (h k q hk).lt
end VXS
/-! ===== END ===== -/
/-! ===== BEGIN methods with a table of their own: called by a name, returning or throwing ===== -/
section VXH
/-! vx_backW, vx_callVX, vx_callSX, vx_callVW, vx_runVW, vx_runVX, vx_runSX, vx_ofWH follow the same proofs as their sisters above (Free/Laws.lean, Shelf42/LK1.lean); vx_outP calls Shelf42/NT130.lean (outThrough). -/
section
variable {l : Launch} {R : Room} {p : Program} {e : Env} {below : List Frame} {s : State} {sargs : Array Value} {y : MethodName} {len W9 : Nat}
theorem vx_backW {ws : List Cond} {rm : Room} {Pc : Array Value → State → Prop} {Qc : Array Value → State → Outcome → State → Prop} {XC : String → State → State → Prop} {mc ms : Nat} {free : Addr → Prop} {bytes : ByteArray} {maxL : Nat} {ret : Option FieldType} {hh : List (Nat × Nat × Nat × Nat)}
    (hM : vx_Met l y ws rm Pc Qc XC mc ms free) (hblind : FrameBlind Pc) (hrc : rm.cells = mc) (hrs : rm.slots = ms)
    (hframes : rm.frames + 1 ≤ R.frames) (hlocals : W9 + (maxL + 11) + rm.locals ≤ R.locals)
    (hws : ∀ w ∈ ws, ∀ a' U, s.WarmedH U.vm → w.before a' U = true) (hcode : Cond.codeWith y bytes maxL ret hh ∈ ws) (hinit : ∀ a' U, s.WarmedH U.vm → (Cond.initialized y.cls).before a' U = true) :
    vx_Back l R p e below s sargs y len W9 (PreOf R mc ms Pc) (PostOf Qc mc ms free) (vx_Post XC mc ms free) := by
  intro m meth c A g ig mk a X hg hsize hdg hW hn hp
  have h1 : (headSpec ws rm).pre.before a A.U = true := atoms_intro fun w hw => hws w hw _ _ X.warmed
  have h2 : (Cond.codeWith y bytes maxL ret hh).before a A.U = true := hws _ hcode _ _ X.warmed
  have h3 : (Cond.initialized y.cls).before a A.U = true := hinit _ _ X.warmed
  have h4 : A.cells + (headSpec ws rm).room.cells ≤ R.cells := by rw [show (headSpec ws rm).room.cells = mc from hrc]; exact hp.1
  have h5 : A.slots + (headSpec ws rm).room.slots ≤ R.slots := by rw [show (headSpec ws rm).room.slots = ms from hrs]; exact hp.2.1
  have hPc : Pc a (A.U.calling g mk a) := hblind _ _ _ _ hp.2.2
  obtain ⟨U, Ls, c0, s0⟩ := A
  dsimp only [Pt.U, Pt.locs, Pt.cells, Pt.slots] at h1 h2 h3 h4 h5 X hn hPc ⊢
  obtain ⟨m9, methY, cY, hn9, hmY, hcY, -, hlY, -⟩ := Cond.codeWith_spec h2
  cases Option.some.inj (hn9.symm.trans hn)
  obtain ⟨kY, hkY, -⟩ := className_of_methodNamed hn
  have hinitY : kY.init = .initialized := Cond.initialized_spec (findClass_of_methodNamed hn) hkY h3
  have h : At U g.method c below := by rw [hg]; exact X.here
  have hlocals9 : W9 + (maxL + 11) + (headSpec ws rm).room.locals ≤ R.locals := hlocals
  have happ : (headSpec ws rm).appliesLoose y e.platform (U.calling g mk a) = true :=
    Spec.appliesLoose_calling (g := g) h hdg hn hkY hinitY
      (X.room_calling (g := g) (R' := (headSpec ws rm).room) hsize hmY hcY hframes (by rw [hlY]; omega) h4 h5) h1
  obtain ⟨mid, hmid⟩ := h.above
  have hfr : (U.setTop g).frames = (.java g :: mid) ++ below := by rw [State.frames_setTop' g h.top, hmid]; rfl
  obtain ⟨o, s₂, hsteps, -, hend, hq⟩ := Steps.callFree hM p X.admits X.cas X.clock (acts := []) hfr happ hPc trivial
  have hq' : vx_Q Qc XC mc ms free a (U.calling g mk a) o s₂ := hq
  rw [State.frames_setTop' g h.top] at hend
  obtain ⟨g₀, hg0⟩ := Option.isSome_iff_exists.mp h.top
  obtain ⟨r, hr⟩ := State.topJava?_eq_some.mp hg0
  have hr' : (({ U with heap := s₂.heap, slotsUsed := s₂.slotsUsed } : State).setVm s₂.vm).frames = .java g₀ :: r := hr
  rcases hq' with ⟨hqc, L, hfe, hL⟩ | ⟨q, rfl, E, ce, L, hx, hce, hcv, hcl, hW₂, hsm, hL⟩
  · obtain ⟨⟨v, rfl⟩, hW₂, e2, q2, q3, q4, q5, q6⟩ := id hfe
    have e3 : s₂ = ({ (U.calling g mk a).setFrames s₂.frames with heap := s₂.heap, slotsUsed := s₂.slotsUsed } : State).setVm s₂.vm := by
      have : s₂ = ({ s₂ with vm := (U.calling g mk a).vm } : State).setVm s₂.vm := rfl
      rw [e2] at this
      exact this
    obtain ⟨c₂, i₂, len₂, hc₂, hd₂, hf₂⟩ := hend
    have hW' : U.WarmedH s₂.vm := hW₂
    have hcc : c₂ = c := by
      have h1 : s₂.code? g.method = U.code? g.method := by
        rw [State.code?_eq, State.code?_eq, hW'.alike.method?]
      exact Option.some.inj (hc₂.symm.trans (h1.trans h.code))
    subst hcc
    have hlen : len₂ = len := by rw [hdg] at hd₂; cases hd₂; rfl
    subst hlen
    have hs₂ : s₂ = (({ U with heap := s₂.heap, slotsUsed := s₂.slotsUsed } : State).setVm s₂.vm).setTop { g with pc := g.pc + len₂, stack := v.toList ++ g.stack } := by
      refine e3.trans ?_
      rw [hf₂, State.calling_eq h.top, State.setFrames_setFrames, State.setTop_of_frames _ hr', hr]
      rfl
    have hsame : U.sameButNew ({ U with heap := s₂.heap, slotsUsed := s₂.slotsUsed } : State) L mc ms := by
      refine ⟨?_, q2, q3, q4, q5, q6⟩
      obtain ⟨t, ht, -⟩ := State.frames_cons hr
      show ({ U with heap := s₂.heap, slotsUsed := s₂.slotsUsed } : State) = { U.setFrames U.frames with heap := s₂.heap, slotsUsed := s₂.slotsUsed }
      rw [State.setFrames_self ht]
    subst hg
    refine Or.inl ⟨v, ⟨(({ U with heap := s₂.heap, slotsUsed := s₂.slotsUsed } : State).setVm s₂.vm), Ls ++ L, c0 + mc, s0 + ms⟩,
      ⟨X.admits, X.cas, X.clock, X.frames, X.room, X.hears, X.method, X.code, (X.here.setHeapUsed s₂.heap s₂.slotsUsed).setVm hW'.alike, X.tail, State.WarmedH.trans X.warmed hW', X.limits, X.bytes, X.same.trans (hsame.setVm s.vm)⟩,
      ⟨g, mk, s₂, L, rfl, rfl, hqc, rfl, hL, rfl, rfl⟩, ?_⟩
    show Steps p.tables e below _ ((({ U with heap := s₂.heap, slotsUsed := s₂.slotsUsed } : State).setVm s₂.vm).setTop { g with pc := g.pc + len₂, stack := v.toList ++ g.stack })
    rw [← hs₂]
    exact hsteps
  · obtain ⟨e2, q2, q3, q4, q5, q6⟩ := id hsm
    have e3 : s₂ = ({ (U.calling g mk a).setFrames s₂.frames with heap := s₂.heap, slotsUsed := s₂.slotsUsed } : State).setVm s₂.vm := by
      have : s₂ = ({ s₂ with vm := (U.calling g mk a).vm } : State).setVm s₂.vm := rfl
      rw [e2] at this
      exact this
    have hf₂ : s₂.frames = .throwing q :: .java g :: U.frames.tail := hend
    have hW' : U.WarmedH s₂.vm := hW₂
    have hs₂ : s₂ = ((({ U with heap := s₂.heap, slotsUsed := s₂.slotsUsed } : State).setVm s₂.vm).setTop g).pushFrame (.throwing q) := by
      refine e3.trans ?_
      rw [hf₂, State.calling_eq h.top, State.setFrames_setFrames, State.pushFrame, State.frames_setTop _ hr', State.setTop_of_frames _ hr', State.setFrames_setFrames, hr]
      rfl
    have hsame : U.sameButNew ({ U with heap := s₂.heap, slotsUsed := s₂.slotsUsed } : State) L mc ms := by
      refine ⟨?_, q2, q3, q4, q5, q6⟩
      obtain ⟨t, ht, -⟩ := State.frames_cons hr
      show ({ U with heap := s₂.heap, slotsUsed := s₂.slotsUsed } : State) = { U.setFrames U.frames with heap := s₂.heap, slotsUsed := s₂.slotsUsed }
      rw [State.setFrames_self ht]
    subst hg
    refine Or.inr ⟨q, ⟨(({ U with heap := s₂.heap, slotsUsed := s₂.slotsUsed } : State).setVm s₂.vm), Ls ++ L, c0 + mc, s0 + ms⟩,
      ⟨X.admits, X.cas, X.clock, X.frames, X.room, X.hears, X.method, X.code, (X.here.setHeapUsed s₂.heap s₂.slotsUsed).setVm hW'.alike, X.tail, State.WarmedH.trans X.warmed hW', X.limits, X.bytes, X.same.trans (hsame.setVm s.vm)⟩,
      ⟨g, mk, s₂, L, E, ce, rfl, rfl, hx, hce, hcv, hcl, rfl, hL, rfl, rfl⟩, ?_⟩
    show Steps p.tables e below _ (((({ U with heap := s₂.heap, slotsUsed := s₂.slotsUsed } : State).setVm s₂.vm).setTop g).pushFrame (.throwing q))
    rw [← hs₂]
    exact hsteps
end
variable {p : Program} {l : Launch} {e : Env} {R : Room} {s : State} {m : MethodId} {args : Array Value} {below : List Frame} {meth : Method} {c : Code} {T : State} {H : Heap} {locs : List Loc} {cells slots : Nat}
theorem vx_callVX (X : Stand p l e R s m args below meth c T locs cells slots) (hexec : p.tables.exec = Jvm.exec) {own C : String} {index : Nat} {y : MethodName} {bytes : ByteArray} {maxL : Nat} {ret : Option FieldType} {hh : List (Nat × Nat × Nat × Nat)}
    (hown : s.vm.findClass own = some m.cls) (hlink : (Cond.methodLink own index y).before args s = true) (hinst : (Cond.instanceMethod y).before args s = true) (hsel : (Cond.selects C y y).before args s = true)
    (hcode : (Cond.codeWith y bytes maxL ret hh).before args s = true) (hy : y.cls ≠ "java/lang/invoke/MethodHandle" ∧ y.cls ≠ "java/lang/invoke/VarHandle")
    {W9 : Nat} {Pre : Pt → Array Value → Prop} {Post : Pt → Array Value → Option Value → Pt → Prop} {PostX : Pt → Array Value → Addr → Pt → Prop} (hK : vx_Back l R p e below s args y 3 W9 Pre Post PostX)
    {b : Addr} {cellB : Cell} (hcell : T.heap[b]? = some cellB) (hobj : cellB.vm.isStatics = false) (hcls : s.vm.findClass C = some cellB.cls)
    {g : JFrame} (hg : g.method = m) (hsize : g.locals.size = c.maxLocals) {argsL rest : List Value} (hlen : ∀ sig, parseMethodDescriptor y.desc = some sig → argsL.length = sig.parameters.length)
    (hstack : g.stack = argsL.reverse ++ .ref b :: rest) (hW : 2 * g.monitorRoom + (rest.map fun v => v.category).sum ≤ W9) (hdg : decode c.code g.pc = .ok (.invokevirtual index, 3))
    (hpre : ∀ vm₁, s.WarmedH vm₁ → Pre ⟨T.setVm vm₁, locs, cells, slots⟩ (Value.ref b :: argsL).toArray) :
    (∃ (v : Option Value) (vm₁ : Vm) (B : Pt), s.WarmedH vm₁ ∧ Stand p l e R s m args below meth c B.U B.locs B.cells B.slots ∧ Post ⟨T.setVm vm₁, locs, cells, slots⟩ (Value.ref b :: argsL).toArray v B ∧
      ∀ target, Steps p.tables e below (B.U.setTop { g with pc := g.pc + 3, stack := v.toList ++ rest }) target → Steps p.tables e below (T.setTop g) target) ∨
    (∃ (q : Addr) (vm₁ : Vm) (B : Pt), s.WarmedH vm₁ ∧ Stand p l e R s m args below meth c B.U B.locs B.cells B.slots ∧ PostX ⟨T.setVm vm₁, locs, cells, slots⟩ (Value.ref b :: argsL).toArray q B ∧
      Steps p.tables e below (T.setTop g) ((B.U.setTop { g with stack := rest }).pushFrame (.throwing q))) := by
  obtain ⟨mk, methM, hnamed, hmethM, hstM, habM⟩ := Cond.instanceMethod_spec hinst
  obtain ⟨m8, methM', cM, hn8, hmethM', -, -, -, -, -, -, hsigM⟩ := Cond.codeWith_spec hcode
  cases Option.some.inj (hn8.symm.trans hnamed)
  cases hmethM.symm.trans hmethM'
  obtain ⟨c2, r2, m2, q1, q2, q3, q4, kP, hkP, hkPi⟩ := Cond.selects_spec hsel
  cases hcls.symm.trans q1
  cases (State.methodFound?_of_named hnamed hy).symm.trans q2
  cases hnamed.symm.trans q3
  have hselP : selectMethod e.platform s.vm cellB.cls mk = .method mk := by rw [Launch.admits_selectMethod X.admits]; exact q4
  obtain ⟨vm₁, X₁, hstep₁⟩ := X.invokevirtual hexec hown hlink hnamed hmethM hstM hkP hkPi hy (a := b) (cell := cellB) hcell
    (fun z h => by rw [h] at hobj; cases hobj) hselP hmethM habM hkP hkPi (g := g) hg (argsL := argsL) (rest := rest) (hlen _ hsigM) hstack hdg
  rcases hK m meth c ⟨T.setVm vm₁, locs, cells, slots⟩ { g with stack := rest } (.invokevirtual index) mk (Value.ref b :: argsL).toArray X₁ hg hsize hdg hW (X₁.named hnamed) (hpre vm₁ X₁.warmed) with ⟨v, B, X', hpost, hsteps⟩ | ⟨q, B, X', hpost, hsteps⟩
  · exact Or.inl ⟨v, vm₁, B, X₁.warmed, X', hpost, fun target h => hstep₁ _ fun acts => by rw [doInvoke_state]; exact hsteps.trans h⟩
  · exact Or.inr ⟨q, vm₁, B, X₁.warmed, X', hpost, hstep₁ _ fun acts => by rw [doInvoke_state]; exact hsteps⟩
theorem vx_callSX (X : Stand p l e R s m args below meth c T locs cells slots) (hexec : p.tables.exec = Jvm.exec) {own : String} {index : Nat} {y : MethodName} {bytes : ByteArray} {maxL : Nat} {ret : Option FieldType} {hh : List (Nat × Nat × Nat × Nat)}
    (hown : s.vm.findClass own = some m.cls) (hlink : (Cond.methodLink own index y).before args s = true) (hstat : (Cond.static y).before args s = true) (hinit : (Cond.initialized y.cls).before args s = true)
    (hcode : (Cond.codeWith y bytes maxL ret hh).before args s = true) (hy : y.cls ≠ "java/lang/invoke/MethodHandle" ∧ y.cls ≠ "java/lang/invoke/VarHandle")
    {W9 : Nat} {Pre : Pt → Array Value → Prop} {Post : Pt → Array Value → Option Value → Pt → Prop} {PostX : Pt → Array Value → Addr → Pt → Prop} (hK : vx_Back l R p e below s args y 3 W9 Pre Post PostX)
    {g : JFrame} (hg : g.method = m) (hsize : g.locals.size = c.maxLocals) {argsL rest : List Value} (hlen : ∀ sig, parseMethodDescriptor y.desc = some sig → argsL.length = sig.parameters.length)
    (hstack : g.stack = argsL.reverse ++ rest) (hW : 2 * g.monitorRoom + (rest.map fun v => v.category).sum ≤ W9) (hdg : decode c.code g.pc = .ok (.invokestatic index, 3))
    (hpre : ∀ vm₁, s.WarmedH vm₁ → Pre ⟨T.setVm vm₁, locs, cells, slots⟩ argsL.toArray) :
    (∃ (v : Option Value) (vm₁ : Vm) (B : Pt), s.WarmedH vm₁ ∧ Stand p l e R s m args below meth c B.U B.locs B.cells B.slots ∧ Post ⟨T.setVm vm₁, locs, cells, slots⟩ argsL.toArray v B ∧
      ∀ target, Steps p.tables e below (B.U.setTop { g with pc := g.pc + 3, stack := v.toList ++ rest }) target → Steps p.tables e below (T.setTop g) target) ∨
    (∃ (q : Addr) (vm₁ : Vm) (B : Pt), s.WarmedH vm₁ ∧ Stand p l e R s m args below meth c B.U B.locs B.cells B.slots ∧ PostX ⟨T.setVm vm₁, locs, cells, slots⟩ argsL.toArray q B ∧
      Steps p.tables e below (T.setTop g) ((B.U.setTop { g with stack := rest }).pushFrame (.throwing q))) := by
  obtain ⟨mk, methM, cM, hnamed, hmethM, -, -, -, -, -, -, hsigM⟩ := Cond.codeWith_spec hcode
  have hstatic : methM.isStatic = true := Cond.static_spec hnamed hmethM hstat
  obtain ⟨kP, hkP, -⟩ := className_of_methodNamed hnamed
  have hinitP : kP.init = .initialized := Cond.initialized_spec (findClass_of_methodNamed hnamed) hkP hinit
  obtain ⟨vm₁, X₁, hstep₁⟩ := X.invokestatic hexec hown hlink hnamed hmethM hstatic hkP hinitP hy (g := g) hg (argsL := argsL) (rest := rest) (hlen _ hsigM) hstack hdg
  rcases hK m meth c ⟨T.setVm vm₁, locs, cells, slots⟩ { g with stack := rest } (.invokestatic index) mk argsL.toArray X₁ hg hsize hdg hW (X₁.named hnamed) (hpre vm₁ X₁.warmed) with ⟨v, B, X', hpost, hsteps⟩ | ⟨q, B, X', hpost, hsteps⟩
  · exact Or.inl ⟨v, vm₁, B, X₁.warmed, X', hpost, fun target h => hstep₁ _ fun acts => by rw [doInvoke_state]; exact hsteps.trans h⟩
  · exact Or.inr ⟨q, vm₁, B, X₁.warmed, X', hpost, hstep₁ _ fun acts => by rw [doInvoke_state]; exact hsteps⟩
theorem vx_callVW (X : Stand p l e R s m args below meth c T locs cells slots) (hexec : p.tables.exec = Jvm.exec) {own C : String} {index : Nat} {y : MethodName} {bytes : ByteArray} {maxL : Nat} {ret : Option FieldType} {hh : List (Nat × Nat × Nat × Nat)}
    (hown : s.vm.findClass own = some m.cls) (hlink : (Cond.methodLink own index y).before args s = true) (hinst : (Cond.instanceMethod y).before args s = true) (hsel : (Cond.selects C y y).before args s = true)
    (hcode : (Cond.codeWith y bytes maxL ret hh).before args s = true) (hy : y.cls ≠ "java/lang/invoke/MethodHandle" ∧ y.cls ≠ "java/lang/invoke/VarHandle")
    {W9 : Nat} {Pre : Pt → Array Value → Prop} {Post : Pt → Array Value → Option Value → Pt → Prop} (hK : Back l R p e below s args y 3 W9 Pre Post)
    {b : Addr} {cellB : Cell} (hcell : T.heap[b]? = some cellB) (hobj : cellB.vm.isStatics = false) (hcls : s.vm.findClass C = some cellB.cls)
    {g : JFrame} (hg : g.method = m) (hsize : g.locals.size = c.maxLocals) {argsL rest : List Value} (hlen : ∀ sig, parseMethodDescriptor y.desc = some sig → argsL.length = sig.parameters.length)
    (hstack : g.stack = argsL.reverse ++ .ref b :: rest) (hW : 2 * g.monitorRoom + (rest.map fun v => v.category).sum ≤ W9) (hdg : decode c.code g.pc = .ok (.invokevirtual index, 3))
    (hpre : ∀ vm₁, s.WarmedH vm₁ → Pre ⟨T.setVm vm₁, locs, cells, slots⟩ (Value.ref b :: argsL).toArray) :
    ∃ (v : Option Value) (vm₁ : Vm) (B : Pt), s.WarmedH vm₁ ∧ Stand p l e R s m args below meth c B.U B.locs B.cells B.slots ∧ Post ⟨T.setVm vm₁, locs, cells, slots⟩ (Value.ref b :: argsL).toArray v B ∧
      ∀ target, Steps p.tables e below (B.U.setTop { g with pc := g.pc + 3, stack := v.toList ++ rest }) target → Steps p.tables e below (T.setTop g) target := by
  obtain ⟨mk, methM, hnamed, hmethM, hstM, habM⟩ := Cond.instanceMethod_spec hinst
  obtain ⟨m8, methM', cM, hn8, hmethM', -, -, -, -, -, -, hsigM⟩ := Cond.codeWith_spec hcode
  cases Option.some.inj (hn8.symm.trans hnamed)
  cases hmethM.symm.trans hmethM'
  obtain ⟨c2, r2, m2, q1, q2, q3, q4, kP, hkP, hkPi⟩ := Cond.selects_spec hsel
  cases hcls.symm.trans q1
  cases (State.methodFound?_of_named hnamed hy).symm.trans q2
  cases hnamed.symm.trans q3
  have hselP : selectMethod e.platform s.vm cellB.cls mk = .method mk := by rw [Launch.admits_selectMethod X.admits]; exact q4
  obtain ⟨vm₁, X₁, hstep₁⟩ := X.invokevirtual hexec hown hlink hnamed hmethM hstM hkP hkPi hy (a := b) (cell := cellB) hcell
    (fun z h => by rw [h] at hobj; cases hobj) hselP hmethM habM hkP hkPi (g := g) hg (argsL := argsL) (rest := rest) (hlen _ hsigM) hstack hdg
  obtain ⟨v, B, X', hpost, hsteps⟩ := hK m meth c ⟨T.setVm vm₁, locs, cells, slots⟩ { g with stack := rest } (.invokevirtual index) mk (Value.ref b :: argsL).toArray X₁ hg hsize hdg hW (X₁.named hnamed) (hpre vm₁ X₁.warmed)
  exact ⟨v, vm₁, B, X₁.warmed, X', hpost, fun target h => hstep₁ _ fun acts => by rw [doInvoke_state]; exact hsteps.trans h⟩
abbrev vx_CVW (R : Room) (s : State) (args : Array Value) (own C : String) (index : Nat) (y : MethodName) (bytes : ByteArray) (maxL : Nat) (ret : Option FieldType) (hh : List (Nat × Nat × Nat × Nat)) (ws : List Cond) (rm : Room) (mc ms n : Nat) : Prop :=
  (rm.cells = mc ∧ rm.slots = ms ∧ rm.frames + 1 ≤ R.frames ∧ 8 + (maxL + 11) + rm.locals ≤ R.locals ∧ (∀ w ∈ ws, ∀ (a' : Array Value) (U : State), s.WarmedH U.vm → w.before a' U = true) ∧ Cond.codeWith y bytes maxL ret hh ∈ ws) ∧
  (Cond.codeWith y bytes maxL ret hh).before args s = true ∧ (Cond.initialized y.cls).before args s = true ∧ (y.cls ≠ "java/lang/invoke/MethodHandle" ∧ y.cls ≠ "java/lang/invoke/VarHandle") ∧
  (∀ sig, parseMethodDescriptor y.desc = some sig → n = sig.parameters.length) ∧ (Cond.methodLink own index y).before args s = true ∧ (Cond.instanceMethod y).before args s = true ∧ (Cond.selects C y y).before args s = true
theorem vx_cwVW {own C : String} {index maxL mc ms : Nat} {y : MethodName} {bytes : ByteArray} {ret : Option FieldType} {hh : List (Nat × Nat × Nat × Nat)} {Ts ws ws' : List Cond} {rm : Room} (n : Nat) (ht : ∀ w ∈ Ts, w.before args s = true) (hT : GoodIn Ts (wsV own index C y ws)) (hw : ws = Cond.codeWith y bytes maxL ret hh :: ws') (hrc : rm.cells = mc) (hrs : rm.slots = ms)
    (hd : y.cls = C ∧ y.cls ≠ "java/lang/invoke/MethodHandle" ∧ y.cls ≠ "java/lang/invoke/VarHandle" ∧ (parseMethodDescriptor y.desc).map (fun d => d.parameters.length) = some n) (hR : rm.frames + 1 ≤ R.frames ∧ 8 + (maxL + 11) + rm.locals ≤ R.locals) :
    vx_CVW R s args own C index y bytes maxL ret hh ws rm mc ms n := by
  obtain ⟨hC, hd⟩ := hd
  subst hC
  have ok : ∀ w ∈ wsV own index y.cls y ws, w.before args s = true := fun w h => ht w (hT w h).1
  have hG : GoodIn Ts ws := fun w h => hT w (by unfold wsV; exact List.mem_append_right _ h)
  have hc : Cond.codeWith y bytes maxL ret hh ∈ ws := by rw [hw]; exact List.mem_cons_self
  refine ⟨⟨hrc, hrs, hR.1, hR.2, pay_in ht hG, hc⟩, ht _ (hG _ hc).1, ok _ (by simp [wsV]), ⟨hd.1, hd.2.1⟩, fun sig h => ?_, ok _ (by simp [wsV]), ok _ (by simp [wsV]), ok _ (by simp [wsV])⟩
  have h2 := hd.2.2
  rw [h] at h2
  exact (Option.some.inj h2).symm
theorem vx_runVW {y : MethodName} {bytes cc : ByteArray} {maxL nL mc ms n index : Nat} {ret : Option FieldType} {hh : List (Nat × Nat × Nat × Nat)} {ws : List Cond} {rm : Room} {Pc : Array Value → State → Prop} {Qc : Array Value → State → Outcome → State → Prop} {free : Addr → Prop} {Ts : List Cond} {own C : String} {b : Addr} {As rest : List Value} {g : JFrame}
    (S : CallFix p m c cc nL s args Ts own) (hM : Met l y ws rm Pc Qc mc ms free) (cw : vx_CVW R s args own C index y bytes maxL ret hh ws rm mc ms n) (hp : PreV s H C b Pc As)
    (hg : g.method = m) (hn : As.length = n) (hsize : g.locals.size = nL) (hstack : g.stack = As.reverse ++ .ref b :: rest) (hW : 2 * g.monitorRoom + (rest.map fun v => v.category).sum ≤ 8) (hdg : decode cc g.pc = .ok (.invokevirtual index, 3)) (hf : cells + mc ≤ R.cells ∧ slots + ms ≤ R.slots) :
    va_Run p l e R s m args below meth c H locs cells slots mc ms g rest (Qc (Value.ref b :: As).toArray) free := by
  obtain ⟨⟨hrc, hrs, hfr, hlo, hws, hcw⟩, hcode, hini, hy, hlen, hl, hin, hse⟩ := cw
  have hK : Back l R p e below s args y 3 8 (PreOf R mc ms Pc) (PostOf Qc mc ms free) := va_backW (hh := hh) (bytes := bytes) (maxL := maxL) (ret := ret) hM hp.1 hrc hrs hfr hlo hws hcw (fun a' U hW => word_at hW (Or.inl (by first | rfl | simp [Cond.onTables, Cond.keeps, Cond.steady])) hini)
  obtain ⟨hx, hb, hml, ho, -⟩ := S
  obtain ⟨-, ⟨cellB, hcB, hoB, hclB⟩, hPc⟩ := hp
  intro T hT X
  obtain ⟨v, vm₁, ⟨U', l2, c2, s2⟩, hW₁, X', ⟨g', mk, t, L, e1, e2, hq, h1, hL, h2, h3⟩, st⟩ := vx_callVW X hx (C := C) (hh := hh) (bytes := bytes) (maxL := maxL) (ret := ret) ho hl hin hse hcode hy hK (by rw [hT]; exact hcB) hoB hclB hg (hsize.trans hml.symm) (argsL := As) (rest := rest) (fun sig h => hn.trans (hlen sig h)) hstack hW (by rw [hb]; exact hdg)
    (fun vm₁ hW₁ => ⟨hf.1, hf.2, hPc (T.setVm vm₁) hT hW₁⟩)
  dsimp only [Pt.U, Pt.locs, Pt.cells, Pt.slots] at X' e1 e2 h1 h2 h3 st
  subst h1; subst h2; subst h3
  exact ⟨v, (T.setVm vm₁).calling g' mk (Value.ref b :: As).toArray, t, U', L, hT, X', hL, e1, e2, hq, st⟩
section
variable {y : MethodName} {bytes cc : ByteArray} {maxL nL mc ms n index : Nat} {ret : Option FieldType} {ws : List Cond} {rm : Room} {Pc : Array Value → State → Prop} {Qc : Array Value → State → Outcome → State → Prop} {XC : String → State → State → Prop} {free : Addr → Prop} {Ts : List Cond} {own C : String} {b : Addr} {As rest : List Value} {g : JFrame}
theorem vx_runVX {hh : List (Nat × Nat × Nat × Nat)} (S : CallFix p m c cc nL s args Ts own) (hM : vx_Met l y ws rm Pc Qc XC mc ms free) (cw : vx_CVW R s args own C index y bytes maxL ret hh ws rm mc ms n) (hp : PreV s H C b Pc As)
    (hg : g.method = m) (hn : As.length = n) (hsize : g.locals.size = nL) (hstack : g.stack = As.reverse ++ .ref b :: rest) (hW : 2 * g.monitorRoom + (rest.map fun v => v.category).sum ≤ 8) (hdg : decode cc g.pc = .ok (.invokevirtual index, 3)) (hf : cells + mc ≤ R.cells ∧ slots + ms ≤ R.slots) :
    vx_Run p l e R s m args below meth c H locs cells slots mc ms g rest (Qc (Value.ref b :: As).toArray) XC free := by
  obtain ⟨⟨hrc, hrs, hfr, hlo, hws, hcw⟩, hcode, hini, hy, hlen, hl, hin, hse⟩ := cw
  have hK : vx_Back l R p e below s args y 3 8 (PreOf R mc ms Pc) (PostOf Qc mc ms free) (vx_Post XC mc ms free) := vx_backW (hh := hh) (bytes := bytes) (maxL := maxL) (ret := ret) hM hp.1 hrc hrs hfr hlo hws hcw (fun a' U hW => word_at hW (Or.inl (by first | rfl | simp [Cond.onTables, Cond.keeps, Cond.steady])) hini)
  obtain ⟨hx, hb, hml, ho, -⟩ := S
  obtain ⟨-, ⟨cellB, hcB, hoB, hclB⟩, hPc⟩ := hp
  intro T hT X
  rcases vx_callVX X hx (C := C) (hh := hh) (bytes := bytes) (maxL := maxL) (ret := ret) ho hl hin hse hcode hy hK (by rw [hT]; exact hcB) hoB hclB hg (hsize.trans hml.symm) (argsL := As) (rest := rest) (fun sig h => hn.trans (hlen sig h)) hstack hW (by rw [hb]; exact hdg)
    (fun vm₁ hW₁ => ⟨hf.1, hf.2, hPc (T.setVm vm₁) hT hW₁⟩) with ⟨v, vm₁, ⟨U', l2, c2, s2⟩, hW₁, X', ⟨g', mk, t, L, e1, e2, hq, h1, hL, h2, h3⟩, st⟩ | ⟨q, vm₁, ⟨U', l2, c2, s2⟩, hW₁, X', ⟨g', mk, t, L, E, ce, e1, e2, hq, hce, hcv, hcl, h1, hL, h2, h3⟩, st⟩
  · dsimp only [Pt.U, Pt.locs, Pt.cells, Pt.slots] at X' e1 e2 h1 h2 h3 st
    subst h1; subst h2; subst h3
    exact Or.inl ⟨v, (T.setVm vm₁).calling g' mk (Value.ref b :: As).toArray, t, U', L, hT, X', hL, e1, e2, hq, st⟩
  · dsimp only [Pt.U, Pt.locs, Pt.cells, Pt.slots] at X' e1 e2 h1 h2 h3 st hcl
    subst h1; subst h2; subst h3
    exact Or.inr ⟨q, (T.setVm vm₁).calling g' mk (Value.ref b :: As).toArray, t, U', L, E, ce, hT, X', hL, e1, e2, hq, hce, hcv, vx_cls hW₁ hcl, st⟩
theorem vx_runSX {hh : List (Nat × Nat × Nat × Nat)} (S : CallFix p m c cc nL s args Ts own) (hM : vx_Met l y ws rm Pc Qc XC mc ms free) (cw : vx_CSW R s args own index y bytes maxL ret hh ws rm mc ms n) (hp : PreS s H Pc As)
    (hg : g.method = m) (hn : As.length = n) (hsize : g.locals.size = nL) (hstack : g.stack = As.reverse ++ rest) (hW : 2 * g.monitorRoom + (rest.map fun v => v.category).sum ≤ 8) (hdg : decode cc g.pc = .ok (.invokestatic index, 3)) (hf : cells + mc ≤ R.cells ∧ slots + ms ≤ R.slots) :
    vx_Run p l e R s m args below meth c H locs cells slots mc ms g rest (Qc As.toArray) XC free := by
  obtain ⟨⟨hrc, hrs, hfr, hlo, hws, hcw⟩, hcode, hini, hy, hlen, hl, hstt⟩ := cw
  have hK : vx_Back l R p e below s args y 3 8 (PreOf R mc ms Pc) (PostOf Qc mc ms free) (vx_Post XC mc ms free) := vx_backW (hh := hh) (bytes := bytes) (maxL := maxL) (ret := ret) hM hp.1 hrc hrs hfr hlo hws hcw (fun a' U hW => word_at hW (Or.inl (by first | rfl | simp [Cond.onTables, Cond.keeps, Cond.steady])) hini)
  obtain ⟨hx, hb, hml, ho, -⟩ := S
  intro T hT X
  rcases vx_callSX X hx (hh := hh) (bytes := bytes) (maxL := maxL) (ret := ret) ho hl hstt hini hcode hy hK hg (hsize.trans hml.symm) (argsL := As) (rest := rest) (fun sig h => hn.trans (hlen sig h)) hstack hW (by rw [hb]; exact hdg)
    (fun vm₁ hW₁ => ⟨hf.1, hf.2, hp.2 (T.setVm vm₁) hT hW₁⟩) with ⟨v, vm₁, ⟨U', l2, c2, s2⟩, hW₁, X', ⟨g', mk, t, L, e1, e2, hq, h1, hL, h2, h3⟩, st⟩ | ⟨q, vm₁, ⟨U', l2, c2, s2⟩, hW₁, X', ⟨g', mk, t, L, E, ce, e1, e2, hq, hce, hcv, hcl, h1, hL, h2, h3⟩, st⟩
  · dsimp only [Pt.U, Pt.locs, Pt.cells, Pt.slots] at X' e1 e2 h1 h2 h3 st
    subst h1; subst h2; subst h3
    exact Or.inl ⟨v, (T.setVm vm₁).calling g' mk As.toArray, t, U', L, hT, X', hL, e1, e2, hq, st⟩
  · dsimp only [Pt.U, Pt.locs, Pt.cells, Pt.slots] at X' e1 e2 h1 h2 h3 st hcl
    subst h1; subst h2; subst h3
    exact Or.inr ⟨q, (T.setVm vm₁).calling g' mk As.toArray, t, U', L, E, ce, hT, X', hL, e1, e2, hq, hce, hcv, vx_cls hW₁ hcl, st⟩
end
end VXH
theorem vx_ofWH {l : Launch} {y : MethodName} {ws ws' : List Cond} {rm : Room} {Pc : Array Value → State → Prop} {Qc : Array Value → State → Outcome → State → Prop} {XC : String → State → State → Prop} {mc ms : Nat} {free : Addr → Prop} {cc : ByteArray} {maxL : Nat} {ret : Option FieldType} {hh : List (Nat × Nat × Nat × Nat)}
    (hy : plainName y.cls = true) (hw : ws = Cond.codeWith y cc maxL ret hh :: ws')
    (body : ∀ p e s m args below meth c s₁, BodyLoose p l y (headSpec ws rm) cc maxL ret e s m args below meth c s₁ → c.maxLocals = maxL → Pc args s →
      W p l e (headSpec ws rm).room s m args below meth c s.heap [] 0 0 (vx_MQ below Qc XC args s mc ms free) (entryFrame m args maxL)) : vx_Met l y ws rm Pc Qc XC mc ms free := by
  refine MetFree.of_bodyS (code := cc) (maxLocals := maxL) (ret := ret) hy ?_ ?_
  · intro args s m h hn
    obtain ⟨m9, meth, c, hn9, h1, h2, h3, h4, -, h5, h6, -⟩ := Cond.codeWith_spec (atoms_spec (ws := ws) h _ (by rw [hw]; exact List.mem_cons_self))
    cases hn.symm.trans hn9
    exact ⟨meth, c, h1, h2, h3, h4, h5, h6⟩
  · intro p e s m args below meth c s₁ B hml hP _
    have hh0 : s₁.heap = s.heap := by rw [B.state]; rfl
    obtain ⟨t, a1, o, b1, b2, b3⟩ := body p e s m args below meth c s₁ B hml hP s₁ hh0 (Stand.of_body B)
    exact ⟨t, o, a1, b1, b2, b3⟩
/-! ===== END ===== -/

def RX0 : String := "GapLinks$Ears"
def TX0 : u_T := fun k => match k with
  | 0 => ("GapLinks$Ears", "takenByAll", "I", false)
  | 1 => ("GapLinks$Ears", "taken", "[I", true)
  | 2 => ("GapLinks$Ears", "refused", "[I", true)
  | 3 => ("GapLinks$Ears", "doubles", "[I", true)
  | 4 => ("GapLinks$Ears", "latestNumber", "[I", true)
  | 5 => ("GapLinks$Ears", "latestTime", "[I", true)
  | 6 => ("GapLinks$Ears", "latestNet", "[I", true)
  | 7 => ("GapLinks$Ears", "greatestLate", "[I", true)
  | 8 => ("GapLinks$Ears", "leastLate", "[I", true)
  | 9 => ("GapLinks$Ears", "seen", "[I", true)
  | _ => ("GapLinks$Ears", "memory", "[I", true)
def tyX0 : Nat → FieldType := fun k => match k with
  | 0 => .int
  | 1 => .array .int
  | 2 => .array .int
  | 3 => .array .int
  | 4 => .array .int
  | 5 => .array .int
  | 6 => .array .int
  | 7 => .array .int
  | 8 => .array .int
  | 9 => .array .int
  | _ => .array .int
abbrev wsX00 : List Cond := u_ws RX0 TX0 11
theorem nmX0 : ∀ a, a < 11 → ∀ b, b < 11 → a ≠ b → (TX0 a).2.1 ≠ (TX0 b).2.1 := by decide +kernel
theorem tyX0_ok : ∀ k, k < 11 → parseFieldDescriptor (TX0 k).2.2.1 = some (tyX0 k) := by decide +kernel
abbrev cX0_init : ByteArray := prog_2_method_1_code
def yX0_init : MethodName := ⟨RX0, "<init>", "()V"⟩
abbrev cX0_clear : ByteArray := prog_2_method_2_code
def yX0_clear : MethodName := ⟨RX0, "clear", "()V"⟩
abbrev cX0_copy : ByteArray := prog_2_method_3_code
def yX0_copy : MethodName := ⟨RX0, "copy", "(LGapLinks$Ears;)V"⟩
abbrev cX0_tells : ByteArray := prog_2_method_4_code
def yX0_tells : MethodName := ⟨RX0, "tells", "(I)Z"⟩
abbrev cX0_told : ByteArray := prog_2_method_5_code
def yX0_told : MethodName := ⟨RX0, "told", "(II)I"⟩
abbrev cX0_remembers : ByteArray := prog_2_method_6_code
def yX0_remembers : MethodName := ⟨RX0, "remembers", "(II)Z"⟩
abbrev cX0_remembered : ByteArray := prog_2_method_7_code
def yX0_remembered : MethodName := ⟨RX0, "remembered", "(II)I"⟩
abbrev cX0_memoryOf : ByteArray := prog_2_method_8_code
def yX0_memoryOf : MethodName := ⟨RX0, "memoryOf", "(II)I"⟩
abbrev cX0_allTook : ByteArray := prog_2_method_9_code
def yX0_allTook : MethodName := ⟨RX0, "allTook", "(II)Z"⟩
abbrev cX0_hear : ByteArray := prog_2_method_10_code
def yX0_hear : MethodName := ⟨RX0, "hear", "(LGapLinks$Plan;IIIII)V"⟩
abbrev cX0_isWhole : ByteArray := prog_2_method_11_code
def yX0_isWhole : MethodName := ⟨RX0, "isWhole", "(II)Z"⟩
abbrev cX0_isFresh : ByteArray := prog_2_method_12_code
def yX0_isFresh : MethodName := ⟨RX0, "isFresh", "(LGapLinks$Plan;III)Z"⟩
abbrev cX0_take : ByteArray := prog_2_method_13_code
def yX0_take : MethodName := ⟨RX0, "take", "(IIIII)V"⟩
def RX1 : String := "GapLinks$Envelope"
def TX1 : u_T := fun k => match k with
  | 0 => ("GapLinks$Envelope", "overloaded", "Z", false)
  | 1 => ("GapLinks$Envelope", "load", "[I", true)
  | 2 => ("GapLinks$Envelope", "delay", "[J", true)
  | _ => ("GapLinks$Envelope", "burst", "[J", true)
def tyX1 : Nat → FieldType := fun k => match k with
  | 0 => .boolean
  | 1 => .array .int
  | 2 => .array .long
  | _ => .array .long
abbrev wsX10 : List Cond := u_ws RX1 TX1 4
theorem nmX1 : ∀ a, a < 4 → ∀ b, b < 4 → a ≠ b → (TX1 a).2.1 ≠ (TX1 b).2.1 := by decide +kernel
theorem tyX1_ok : ∀ k, k < 4 → parseFieldDescriptor (TX1 k).2.2.1 = some (tyX1 k) := by decide +kernel
abbrev cX1_init : ByteArray := prog_3_method_1_code
def yX1_init : MethodName := ⟨RX1, "<init>", "()V"⟩
abbrev cX1_measure : ByteArray := prog_3_method_2_code
def yX1_measure : MethodName := ⟨RX1, "measure", "(LGapLinks$Plan;)V"⟩
abbrev cX1_loadWith : ByteArray := prog_3_method_3_code
def yX1_loadWith : MethodName := ⟨RX1, "loadWith", "(LGapLinks$Plan;III)I"⟩
abbrev cX1_lengthsThrough : ByteArray := prog_3_method_4_code
def yX1_lengthsThrough : MethodName := ⟨RX1, "lengthsThrough", "(LGapLinks$Plan;I)J"⟩
abbrev cX1_burstsThrough : ByteArray := prog_3_method_5_code
def yX1_burstsThrough : MethodName := ⟨RX1, "burstsThrough", "(LGapLinks$Plan;I)J"⟩
abbrev cX1_burstAt : ByteArray := prog_3_method_6_code
def yX1_burstAt : MethodName := ⟨RX1, "burstAt", "(LGapLinks$Plan;II)J"⟩
abbrev cX1_perGap : ByteArray := prog_3_method_7_code
def yX1_perGap : MethodName := ⟨RX1, "perGap", "(LGapLinks$Plan;IJ)J"⟩
abbrev cX1_loadOf : ByteArray := prog_3_method_8_code
def yX1_loadOf : MethodName := ⟨RX1, "loadOf", "(I)J"⟩
abbrev cX1_boundOf : ByteArray := prog_3_method_9_code
def yX1_boundOf : MethodName := ⟨RX1, "boundOf", "(LGapLinks$Plan;I)J"⟩
abbrev cX1_fullestPort : ByteArray := prog_3_method_10_code
def yX1_fullestPort : MethodName := ⟨RX1, "fullestPort", "()I"⟩
abbrev cX1_leastGapFor : ByteArray := prog_3_method_11_code
def yX1_leastGapFor : MethodName := ⟨RX1, "leastGapFor", "(LGapLinks$Plan;I)I"⟩
abbrev cX1_bears : ByteArray := prog_3_method_12_code
def yX1_bears : MethodName := ⟨RX1, "bears", "(LGapLinks$Plan;II)Z"⟩
def RX2 : String := "GapLinks$Plan"
def TX2 : u_T := fun k => match k with
  | 0 => ("GapLinks$Plan", "switches", "I", false)
  | 1 => ("GapLinks$Plan", "room", "I", false)
  | 2 => ("GapLinks$Plan", "jitter", "I", false)
  | 3 => ("GapLinks$Plan", "window", "I", false)
  | 4 => ("GapLinks$Plan", "skew", "I", false)
  | 5 => ("GapLinks$Plan", "ends", "I", false)
  | 6 => ("GapLinks$Plan", "links", "I", false)
  | 7 => ("GapLinks$Plan", "endSwitch", "[I", true)
  | 8 => ("GapLinks$Plan", "endName", "[J", true)
  | 9 => ("GapLinks$Plan", "linkName", "[J", true)
  | 10 => ("GapLinks$Plan", "from", "[I", true)
  | 11 => ("GapLinks$Plan", "gap", "[I", true)
  | 12 => ("GapLinks$Plan", "length", "[I", true)
  | 13 => ("GapLinks$Plan", "receivers", "[I", true)
  | 14 => ("GapLinks$Plan", "receiverEnd", "[I", true)
  | _ => ("GapLinks$Plan", "ways", "LGapLinks$Ways;", true)
def tyX2 : Nat → FieldType := fun k => match k with
  | 0 => .int
  | 1 => .int
  | 2 => .int
  | 3 => .int
  | 4 => .int
  | 5 => .int
  | 6 => .int
  | 7 => .array .int
  | 8 => .array .long
  | 9 => .array .long
  | 10 => .array .int
  | 11 => .array .int
  | 12 => .array .int
  | 13 => .array .int
  | 14 => .array .int
  | _ => .object "GapLinks$Ways"
abbrev wsX20 : List Cond := u_ws RX2 TX2 16
theorem nmX2 : ∀ a, a < 16 → ∀ b, b < 16 → a ≠ b → (TX2 a).2.1 ≠ (TX2 b).2.1 := by decide +kernel
theorem tyX2_ok : ∀ k, k < 16 → parseFieldDescriptor (TX2 k).2.2.1 = some (tyX2 k) := by decide +kernel
abbrev cX2_init : ByteArray := prog_4_method_1_code
def yX2_init : MethodName := ⟨RX2, "<init>", "()V"⟩
abbrev cX2_clear : ByteArray := prog_4_method_2_code
def yX2_clear : MethodName := ⟨RX2, "clear", "()V"⟩
abbrev cX2_hasEnd : ByteArray := prog_4_method_3_code
def yX2_hasEnd : MethodName := ⟨RX2, "hasEnd", "(I)Z"⟩
abbrev cX2_hasLink : ByteArray := prog_4_method_4_code
def yX2_hasLink : MethodName := ⟨RX2, "hasLink", "(I)Z"⟩
abbrev cX2_hasReceiver : ByteArray := prog_4_method_5_code
def yX2_hasReceiver : MethodName := ⟨RX2, "hasReceiver", "(II)Z"⟩
abbrev cX2_hasPort : ByteArray := prog_4_method_6_code
def yX2_hasPort : MethodName := ⟨RX2, "hasPort", "(I)Z"⟩
abbrev cX2_endNamed : ByteArray := prog_4_method_7_code
def yX2_endNamed : MethodName := ⟨RX2, "endNamed", "(J)I"⟩
abbrev cX2_linkNamed : ByteArray := prog_4_method_8_code
def yX2_linkNamed : MethodName := ⟨RX2, "linkNamed", "(J)I"⟩
abbrev cX2_allReceivers : ByteArray := prog_4_method_9_code
def yX2_allReceivers : MethodName := ⟨RX2, "allReceivers", "()I"⟩
abbrev cX2_earAt : ByteArray := prog_4_method_10_code
def yX2_earAt : MethodName := ⟨RX2, "earAt", "(II)I"⟩
abbrev cX2_creditLimit : ByteArray := prog_4_method_11_code
def yX2_creditLimit : MethodName := ⟨RX2, "creditLimit", "(I)I"⟩
def RX3 : String := "GapLinks$Ports"
def TX3 : u_T := fun k => match k with
  | 0 => ("GapLinks$Ports", "frames", "I", false)
  | 1 => ("GapLinks$Ports", "count", "[I", true)
  | 2 => ("GapLinks$Ports", "first", "[I", true)
  | 3 => ("GapLinks$Ports", "doneAt", "[I", true)
  | 4 => ("GapLinks$Ports", "most", "[I", true)
  | 5 => ("GapLinks$Ports", "link", "[I", true)
  | 6 => ("GapLinks$Ports", "number", "[I", true)
  | _ => ("GapLinks$Ports", "born", "[I", true)
def tyX3 : Nat → FieldType := fun k => match k with
  | 0 => .int
  | 1 => .array .int
  | 2 => .array .int
  | 3 => .array .int
  | 4 => .array .int
  | 5 => .array .int
  | 6 => .array .int
  | _ => .array .int
abbrev wsX30 : List Cond := u_ws RX3 TX3 8
theorem nmX3 : ∀ a, a < 8 → ∀ b, b < 8 → a ≠ b → (TX3 a).2.1 ≠ (TX3 b).2.1 := by decide +kernel
theorem tyX3_ok : ∀ k, k < 8 → parseFieldDescriptor (TX3 k).2.2.1 = some (tyX3 k) := by decide +kernel
abbrev cX3_init : ByteArray := prog_5_method_1_code
def yX3_init : MethodName := ⟨RX3, "<init>", "()V"⟩
abbrev cX3_clear : ByteArray := prog_5_method_2_code
def yX3_clear : MethodName := ⟨RX3, "clear", "()V"⟩
abbrev cX3_copy : ByteArray := prog_5_method_3_code
def yX3_copy : MethodName := ⟨RX3, "copy", "(LGapLinks$Ports;)V"⟩
abbrev cX3_slot : ByteArray := prog_5_method_4_code
def yX3_slot : MethodName := ⟨RX3, "slot", "(II)I"⟩
abbrev cX3_sends : ByteArray := prog_5_method_5_code
def yX3_sends : MethodName := ⟨RX3, "sends", "(I)Z"⟩
abbrev cX3_linkBeingSent : ByteArray := prog_5_method_6_code
def yX3_linkBeingSent : MethodName := ⟨RX3, "linkBeingSent", "(I)I"⟩
abbrev cX3_admits : ByteArray := prog_5_method_7_code
def yX3_admits : MethodName := ⟨RX3, "admits", "(IIIII)Z"⟩
abbrev cX3_removeFirst : ByteArray := prog_5_method_8_code
def yX3_removeFirst : MethodName := ⟨RX3, "removeFirst", "(I)V"⟩
abbrev cX3_noteMost : ByteArray := prog_5_method_9_code
def yX3_noteMost : MethodName := ⟨RX3, "noteMost", "()V"⟩
abbrev cX3_nextChange : ByteArray := prog_5_method_10_code
def yX3_nextChange : MethodName := ⟨RX3, "nextChange", "(II)I"⟩
def RX4 : String := "GapLinks$Reader"
def TX4 : u_T := fun k => match k with
  | 0 => ("GapLinks$Reader", "tape", "[B", true)
  | 1 => ("GapLinks$Reader", "fed", "I", false)
  | 2 => ("GapLinks$Reader", "draft", "LGapLinks$Plan;", false)
  | 3 => ("GapLinks$Reader", "textLength", "I", false)
  | 4 => ("GapLinks$Reader", "start", "I", false)
  | 5 => ("GapLinks$Reader", "behind", "I", false)
  | 6 => ("GapLinks$Reader", "kind", "I", false)
  | 7 => ("GapLinks$Reader", "word", "J", false)
  | 8 => ("GapLinks$Reader", "whole", "I", false)
  | 9 => ("GapLinks$Reader", "busTold", "Z", false)
  | 10 => ("GapLinks$Reader", "fault", "I", false)
  | _ => ("GapLinks$Reader", "place", "I", false)
def tyX4 : Nat → FieldType := fun k => match k with
  | 0 => .array .byte
  | 1 => .int
  | 2 => .object "GapLinks$Plan"
  | 3 => .int
  | 4 => .int
  | 5 => .int
  | 6 => .int
  | 7 => .long
  | 8 => .int
  | 9 => .boolean
  | 10 => .int
  | _ => .int
abbrev wsX40 : List Cond := u_ws RX4 TX4 12
theorem nmX4 : ∀ a, a < 12 → ∀ b, b < 12 → a ≠ b → (TX4 a).2.1 ≠ (TX4 b).2.1 := by decide +kernel
theorem tyX4_ok : ∀ k, k < 12 → parseFieldDescriptor (TX4 k).2.2.1 = some (tyX4 k) := by decide +kernel
abbrev cX4_init : ByteArray := prog_6_method_1_code
def yX4_init : MethodName := ⟨RX4, "<init>", "()V"⟩
abbrev cX4_append : ByteArray := prog_6_method_2_code
def yX4_append : MethodName := ⟨RX4, "append", "(I)V"⟩
abbrev cX4_handOver : ByteArray := prog_6_method_3_code
def yX4_handOver : MethodName := ⟨RX4, "handOver", "(LGapLinks$Plan;)LGapLinks$Plan;"⟩
abbrev cX4_read : ByteArray := prog_6_method_4_code
def yX4_read : MethodName := ⟨RX4, "read", "(I)V"⟩
abbrev cX4_fail : ByteArray := prog_6_method_5_code
def yX4_fail : MethodName := ⟨RX4, "fail", "(I)V"⟩
abbrev cX4_readBus : ByteArray := prog_6_method_6_code
def yX4_readBus : MethodName := ⟨RX4, "readBus", "()V"⟩
abbrev cX4_readEnd : ByteArray := prog_6_method_7_code
def yX4_readEnd : MethodName := ⟨RX4, "readEnd", "()V"⟩
abbrev cX4_readLink : ByteArray := prog_6_method_8_code
def yX4_readLink : MethodName := ⟨RX4, "readLink", "()V"⟩
abbrev cX4_readReceivers : ByteArray := prog_6_method_9_code
def yX4_readReceivers : MethodName := ⟨RX4, "readReceivers", "(I)V"⟩
abbrev cX4_beginLine : ByteArray := prog_6_method_10_code
def yX4_beginLine : MethodName := ⟨RX4, "beginLine", "(II)V"⟩
abbrev cX4_isWord : ByteArray := prog_6_method_11_code
def yX4_isWord : MethodName := ⟨RX4, "isWord", "(J)Z"⟩
abbrev cX4_isName : ByteArray := prog_6_method_12_code
def yX4_isName : MethodName := ⟨RX4, "isName", "()Z"⟩
abbrev cX4_pass : ByteArray := prog_6_method_13_code
def yX4_pass : MethodName := ⟨RX4, "pass", "(J)V"⟩
abbrev cX4_newName : ByteArray := prog_6_method_14_code
def yX4_newName : MethodName := ⟨RX4, "newName", "()J"⟩
abbrev cX4_knownEnd : ByteArray := prog_6_method_15_code
def yX4_knownEnd : MethodName := ⟨RX4, "knownEnd", "()I"⟩
abbrev cX4_wholeWithin : ByteArray := prog_6_method_16_code
def yX4_wholeWithin : MethodName := ⟨RX4, "wholeWithin", "(II)I"⟩
abbrev cX4_wholeGap : ByteArray := prog_6_method_17_code
def yX4_wholeGap : MethodName := ⟨RX4, "wholeGap", "()I"⟩
abbrev cX4_checkedWhole : ByteArray := prog_6_method_18_code
def yX4_checkedWhole : MethodName := ⟨RX4, "checkedWhole", "(Z)I"⟩
abbrev cX4_step : ByteArray := prog_6_method_19_code
def yX4_step : MethodName := ⟨RX4, "step", "()V"⟩
abbrev cX4_stepWord : ByteArray := prog_6_method_20_code
def yX4_stepWord : MethodName := ⟨RX4, "stepWord", "()V"⟩
abbrev cX4_stepWhole : ByteArray := prog_6_method_21_code
def yX4_stepWhole : MethodName := ⟨RX4, "stepWhole", "()V"⟩
abbrev cX4_isLetter : ByteArray := prog_6_method_22_code
def yX4_isLetter : MethodName := ⟨RX4, "isLetter", "(B)Z"⟩
abbrev cX4_isDigit : ByteArray := prog_6_method_23_code
def yX4_isDigit : MethodName := ⟨RX4, "isDigit", "(B)Z"⟩
def RX5 : String := "GapLinks$State"
def TX5 : u_T := fun k => match k with
  | 0 => ("GapLinks$State", "time", "I", false)
  | 1 => ("GapLinks$State", "isDown", "[I", true)
  | 2 => ("GapLinks$State", "lost", "[I", true)
  | 3 => ("GapLinks$State", "waiting", "[I", true)
  | 4 => ("GapLinks$State", "next", "[I", true)
  | 5 => ("GapLinks$State", "number", "[I", true)
  | 6 => ("GapLinks$State", "born", "[I", true)
  | 7 => ("GapLinks$State", "longestWait", "[I", true)
  | 8 => ("GapLinks$State", "credit", "[I", true)
  | 9 => ("GapLinks$State", "policed", "[I", true)
  | 10 => ("GapLinks$State", "ports", "LGapLinks$Ports;", true)
  | _ => ("GapLinks$State", "ears", "LGapLinks$Ears;", true)
def tyX5 : Nat → FieldType := fun k => match k with
  | 0 => .int
  | 1 => .array .int
  | 2 => .array .int
  | 3 => .array .int
  | 4 => .array .int
  | 5 => .array .int
  | 6 => .array .int
  | 7 => .array .int
  | 8 => .array .int
  | 9 => .array .int
  | 10 => .object "GapLinks$Ports"
  | _ => .object "GapLinks$Ears"
abbrev wsX50 : List Cond := u_ws RX5 TX5 12
theorem nmX5 : ∀ a, a < 12 → ∀ b, b < 12 → a ≠ b → (TX5 a).2.1 ≠ (TX5 b).2.1 := by decide +kernel
theorem tyX5_ok : ∀ k, k < 12 → parseFieldDescriptor (TX5 k).2.2.1 = some (tyX5 k) := by decide +kernel
abbrev cX5_init : ByteArray := prog_7_method_1_code
def yX5_init : MethodName := ⟨RX5, "<init>", "()V"⟩
abbrev cX5_beginWith : ByteArray := prog_7_method_2_code
def yX5_beginWith : MethodName := ⟨RX5, "beginWith", "(LGapLinks$Plan;)V"⟩
abbrev cX5_copy : ByteArray := prog_7_method_3_code
def yX5_copy : MethodName := ⟨RX5, "copy", "(LGapLinks$State;)V"⟩
abbrev cX5_allWaiting : ByteArray := prog_7_method_4_code
def yX5_allWaiting : MethodName := ⟨RX5, "allWaiting", "()I"⟩
abbrev cX5_isQuiet : ByteArray := prog_7_method_5_code
def yX5_isQuiet : MethodName := ⟨RX5, "isQuiet", "()Z"⟩
abbrev cX5_beginAnew : ByteArray := prog_7_method_6_code
def yX5_beginAnew : MethodName := ⟨RX5, "beginAnew", "(LGapLinks$Plan;I)I"⟩
abbrev cX5_advance : ByteArray := prog_7_method_7_code
def yX5_advance : MethodName := ⟨RX5, "advance", "(LGapLinks$Plan;I)V"⟩
abbrev cX5_step : ByteArray := prog_7_method_8_code
def yX5_step : MethodName := ⟨RX5, "step", "(LGapLinks$Plan;I)V"⟩
abbrev cX5_nextChange : ByteArray := prog_7_method_9_code
def yX5_nextChange : MethodName := ⟨RX5, "nextChange", "(LGapLinks$Plan;I)I"⟩
abbrev cX5_growCredit : ByteArray := prog_7_method_10_code
def yX5_growCredit : MethodName := ⟨RX5, "growCredit", "(LGapLinks$Plan;I)V"⟩
abbrev cX5_deliver : ByteArray := prog_7_method_11_code
def yX5_deliver : MethodName := ⟨RX5, "deliver", "(LGapLinks$Plan;)V"⟩
abbrev cX5_leadsToEnd : ByteArray := prog_7_method_12_code
def yX5_leadsToEnd : MethodName := ⟨RX5, "leadsToEnd", "(I)Z"⟩
abbrev cX5_arriveAtEnd : ByteArray := prog_7_method_13_code
def yX5_arriveAtEnd : MethodName := ⟨RX5, "arriveAtEnd", "(LGapLinks$Plan;II)V"⟩
abbrev cX5_arriveAtSwitch : ByteArray := prog_7_method_14_code
def yX5_arriveAtSwitch : MethodName := ⟨RX5, "arriveAtSwitch", "(LGapLinks$Plan;II)V"⟩
abbrev cX5_paysCredit : ByteArray := prog_7_method_15_code
def yX5_paysCredit : MethodName := ⟨RX5, "paysCredit", "(LGapLinks$Plan;II)Z"⟩
abbrev cX5_spread : ByteArray := prog_7_method_16_code
def yX5_spread : MethodName := ⟨RX5, "spread", "(LGapLinks$Plan;III)V"⟩
abbrev cX5_release : ByteArray := prog_7_method_17_code
def yX5_release : MethodName := ⟨RX5, "release", "(LGapLinks$Plan;)V"⟩
abbrev cX5_bear : ByteArray := prog_7_method_18_code
def yX5_bear : MethodName := ⟨RX5, "bear", "(LGapLinks$Plan;I)I"⟩
abbrev cX5_beginSending : ByteArray := prog_7_method_19_code
def yX5_beginSending : MethodName := ⟨RX5, "beginSending", "(LGapLinks$Plan;)V"⟩
def RX6 : String := "GapLinks$Ways"
def TX6 : u_T := fun k => match k with
  | 0 => ("GapLinks$Ways", "ports", "[I", true)
  | 1 => ("GapLinks$Ways", "lengths", "[I", true)
  | 2 => ("GapLinks$Ways", "users", "[I", true)
  | 3 => ("GapLinks$Ways", "onward", "[I", true)
  | _ => ("GapLinks$Ways", "ahead", "[I", true)
def tyX6 : Nat → FieldType := fun k => match k with
  | 0 => .array .int
  | 1 => .array .int
  | 2 => .array .int
  | 3 => .array .int
  | _ => .array .int
abbrev wsX60 : List Cond := u_ws RX6 TX6 5
theorem nmX6 : ∀ a, a < 5 → ∀ b, b < 5 → a ≠ b → (TX6 a).2.1 ≠ (TX6 b).2.1 := by decide +kernel
theorem tyX6_ok : ∀ k, k < 5 → parseFieldDescriptor (TX6 k).2.2.1 = some (tyX6 k) := by decide +kernel
abbrev cX6_init : ByteArray := prog_8_method_1_code
def yX6_init : MethodName := ⟨RX6, "<init>", "()V"⟩
abbrev cX6_lay : ByteArray := prog_8_method_2_code
def yX6_lay : MethodName := ⟨RX6, "lay", "(LGapLinks$Plan;)V"⟩
abbrev cX6_layOne : ByteArray := prog_8_method_3_code
def yX6_layOne : MethodName := ⟨RX6, "layOne", "(LGapLinks$Plan;II)V"⟩
abbrev cX6_lengthen : ByteArray := prog_8_method_4_code
def yX6_lengthen : MethodName := ⟨RX6, "lengthen", "(III)V"⟩
abbrev cX6_portAt : ByteArray := prog_8_method_5_code
def yX6_portAt : MethodName := ⟨RX6, "portAt", "(II)I"⟩
abbrev cX6_uses : ByteArray := prog_8_method_6_code
def yX6_uses : MethodName := ⟨RX6, "uses", "(II)Z"⟩
def RX7 : String := "GapLinks"
def TX7 : u_T := fun k => match k with
  | 0 => ("GapLinks", "reader", "LGapLinks$Reader;", true)
  | 1 => ("GapLinks", "plan", "LGapLinks$Plan;", false)
  | 2 => ("GapLinks", "envelope", "LGapLinks$Envelope;", true)
  | 3 => ("GapLinks", "now", "LGapLinks$State;", true)
  | 4 => ("GapLinks", "kept", "LGapLinks$State;", true)
  | 5 => ("GapLinks", "later", "LGapLinks$State;", true)
  | 6 => ("GapLinks", "isKept", "Z", false)
  | 7 => ("GapLinks", "trouble", "I", false)
  | 8 => ("GapLinks", "latestFault", "I", false)
  | _ => ("GapLinks", "faultPlace", "I", false)
def tyX7 : Nat → FieldType := fun k => match k with
  | 0 => .object "GapLinks$Reader"
  | 1 => .object "GapLinks$Plan"
  | 2 => .object "GapLinks$Envelope"
  | 3 => .object "GapLinks$State"
  | 4 => .object "GapLinks$State"
  | 5 => .object "GapLinks$State"
  | 6 => .boolean
  | 7 => .int
  | 8 => .int
  | _ => .int
abbrev wsX70 : List Cond := u_ws RX7 TX7 10
theorem nmX7 : ∀ a, a < 10 → ∀ b, b < 10 → a ≠ b → (TX7 a).2.1 ≠ (TX7 b).2.1 := by decide +kernel
theorem tyX7_ok : ∀ k, k < 10 → parseFieldDescriptor (TX7 k).2.2.1 = some (tyX7 k) := by decide +kernel
abbrev cX7_init : ByteArray := prog_1_method_1_code
def yX7_init : MethodName := ⟨RX7, "<init>", "()V"⟩
abbrev cX7_feed : ByteArray := prog_1_method_2_code
def yX7_feed : MethodName := ⟨RX7, "feed", "(IIIII)I"⟩
abbrev cX7_bus : ByteArray := prog_1_method_3_code
def yX7_bus : MethodName := ⟨RX7, "bus", "(I)I"⟩
abbrev cX7_fault : ByteArray := prog_1_method_4_code
def yX7_fault : MethodName := ⟨RX7, "fault", "()I"⟩
abbrev cX7_where : ByteArray := prog_1_method_5_code
def yX7_where : MethodName := ⟨RX7, "where", "()I"⟩
abbrev cX7_about : ByteArray := prog_1_method_6_code
def yX7_about : MethodName := ⟨RX7, "about", "(I)I"⟩
abbrev cX7_at : ByteArray := prog_1_method_7_code
def yX7_at : MethodName := ⟨RX7, "at", "(I)I"⟩
abbrev cX7_link : ByteArray := prog_1_method_8_code
def yX7_link : MethodName := ⟨RX7, "link", "(II)I"⟩
abbrev cX7_receiver : ByteArray := prog_1_method_9_code
def yX7_receiver : MethodName := ⟨RX7, "receiver", "(II)I"⟩
abbrev cX7_named : ByteArray := prog_1_method_10_code
def yX7_named : MethodName := ⟨RX7, "named", "(J)I"⟩
abbrev cX7_way : ByteArray := prog_1_method_11_code
def yX7_way : MethodName := ⟨RX7, "way", "(III)I"⟩
abbrev cX7_waits : ByteArray := prog_1_method_12_code
def yX7_waits : MethodName := ⟨RX7, "waits", "(II)I"⟩
abbrev cX7_credit : ByteArray := prog_1_method_13_code
def yX7_credit : MethodName := ⟨RX7, "credit", "(II)I"⟩
abbrev cX7_port : ByteArray := prog_1_method_14_code
def yX7_port : MethodName := ⟨RX7, "port", "(III)I"⟩
abbrev cX7_frame : ByteArray := prog_1_method_15_code
def yX7_frame : MethodName := ⟨RX7, "frame", "(IIII)I"⟩
abbrev cX7_lost : ByteArray := prog_1_method_16_code
def yX7_lost : MethodName := ⟨RX7, "lost", "(II)I"⟩
abbrev cX7_policed : ByteArray := prog_1_method_17_code
def yX7_policed : MethodName := ⟨RX7, "policed", "(II)I"⟩
abbrev cX7_heard : ByteArray := prog_1_method_18_code
def yX7_heard : MethodName := ⟨RX7, "heard", "(III)I"⟩
abbrev cX7_seen : ByteArray := prog_1_method_19_code
def yX7_seen : MethodName := ⟨RX7, "seen", "(III)I"⟩
abbrev cX7_taken : ByteArray := prog_1_method_20_code
def yX7_taken : MethodName := ⟨RX7, "taken", "(III)I"⟩
abbrev cX7_load : ByteArray := prog_1_method_21_code
def yX7_load : MethodName := ⟨RX7, "load", "(IZ)J"⟩
abbrev cX7_delay : ByteArray := prog_1_method_22_code
def yX7_delay : MethodName := ⟨RX7, "delay", "(IZ)J"⟩
abbrev cX7_burst : ByteArray := prog_1_method_23_code
def yX7_burst : MethodName := ⟨RX7, "burst", "(IIIZ)J"⟩
abbrev cX7_bound : ByteArray := prog_1_method_24_code
def yX7_bound : MethodName := ⟨RX7, "bound", "(IIZ)J"⟩
abbrev cX7_keeps : ByteArray := prog_1_method_25_code
def yX7_keeps : MethodName := ⟨RX7, "keeps", "(II)I"⟩
abbrev cX7_fullest : ByteArray := prog_1_method_26_code
def yX7_fullest : MethodName := ⟨RX7, "fullest", "()I"⟩
abbrev cX7_leastGap : ByteArray := prog_1_method_27_code
def yX7_leastGap : MethodName := ⟨RX7, "leastGap", "(I)I"⟩
abbrev cX7_through : ByteArray := prog_1_method_28_code
def yX7_through : MethodName := ⟨RX7, "through", "(I)I"⟩
abbrev cX7_send : ByteArray := prog_1_method_29_code
def yX7_send : MethodName := ⟨RX7, "send", "(II)I"⟩
abbrev cX7_babble : ByteArray := prog_1_method_30_code
def yX7_babble : MethodName := ⟨RX7, "babble", "(II)I"⟩
abbrev cX7_down : ByteArray := prog_1_method_31_code
def yX7_down : MethodName := ⟨RX7, "down", "(II)I"⟩
abbrev cX7_anew : ByteArray := prog_1_method_32_code
def yX7_anew : MethodName := ⟨RX7, "anew", "(I)I"⟩
abbrev cX7_ticks : ByteArray := prog_1_method_33_code
def yX7_ticks : MethodName := ⟨RX7, "ticks", "(I)I"⟩
abbrev cX7_willHear : ByteArray := prog_1_method_34_code
def yX7_willHear : MethodName := ⟨RX7, "willHear", "(IIII)I"⟩
abbrev cX7_willLose : ByteArray := prog_1_method_35_code
def yX7_willLose : MethodName := ⟨RX7, "willLose", "(III)I"⟩
abbrev cX7_quiet : ByteArray := prog_1_method_36_code
def yX7_quiet : MethodName := ⟨RX7, "quiet", "()I"⟩
abbrev cX7_keep : ByteArray := prog_1_method_37_code
def yX7_keep : MethodName := ⟨RX7, "keep", "()Z"⟩
abbrev cX7_back : ByteArray := prog_1_method_38_code
def yX7_back : MethodName := ⟨RX7, "back", "()Z"⟩
abbrev cX7_silent : ByteArray := prog_1_method_39_code
def yX7_silent : MethodName := ⟨RX7, "silent", "(I)I"⟩
abbrev cX7_size : ByteArray := prog_1_method_40_code
def yX7_size : MethodName := ⟨RX7, "size", "(I)I"⟩
abbrev cX7_trouble : ByteArray := prog_1_method_41_code
def yX7_trouble : MethodName := ⟨RX7, "trouble", "()I"⟩
abbrev cX7_refuse : ByteArray := prog_1_method_42_code
def yX7_refuse : MethodName := ⟨RX7, "refuse", "(I)I"⟩
abbrev cX7_answer : ByteArray := prog_1_method_43_code
def yX7_answer : MethodName := ⟨RX7, "answer", "(I)I"⟩
abbrev cX7_part : ByteArray := prog_1_method_44_code
def yX7_part : MethodName := ⟨RX7, "part", "(JZ)J"⟩
abbrev cX7_noBus : ByteArray := prog_1_method_45_code
def yX7_noBus : MethodName := ⟨RX7, "noBus", "()Z"⟩
abbrev cX7_hasPortOnWay : ByteArray := prog_1_method_46_code
def yX7_hasPortOnWay : MethodName := ⟨RX7, "hasPortOnWay", "(III)Z"⟩
abbrev cX7_hasNet : ByteArray := prog_1_method_47_code
def yX7_hasNet : MethodName := ⟨RX7, "hasNet", "(I)Z"⟩
abbrev cX7_isLostSort : ByteArray := prog_1_method_48_code
def yX7_isLostSort : MethodName := ⟨RX7, "isLostSort", "(I)Z"⟩
abbrev cX7_isTicks : ByteArray := prog_1_method_49_code
def yX7_isTicks : MethodName := ⟨RX7, "isTicks", "(I)Z"⟩
abbrev cX7_earOf : ByteArray := prog_1_method_50_code
def yX7_earOf : MethodName := ⟨RX7, "earOf", "(II)I"⟩
abbrev cX7_numberBehind : ByteArray := prog_1_method_51_code
def yX7_numberBehind : MethodName := ⟨RX7, "numberBehind", "(I)I"⟩
abbrev cX7_copyAll : ByteArray := prog_1_method_52_code
def yX7_copyAll : MethodName := ⟨RX7, "copyAll", "([I[I)V"⟩
def RX8 : String := "GapLinksModel"
def TX8 : u_T := fun k => match k with
  | 0 => ("GapLinksModel", "thrown", "I", false)
  | 1 => ("GapLinksModel", "trouble", "I", false)
  | 2 => ("GapLinksModel", "fault", "I", false)
  | 3 => ("GapLinksModel", "where", "I", false)
  | 4 => ("GapLinksModel", "tape", "[I", true)
  | 5 => ("GapLinksModel", "taped", "I", false)
  | 6 => ("GapLinksModel", "is", "[I", true)
  | 7 => ("GapLinksModel", "read", "[I", true)
  | 8 => ("GapLinksModel", "endAt", "[I", true)
  | 9 => ("GapLinksModel", "readAt", "[I", true)
  | 10 => ("GapLinksModel", "links", "[I", true)
  | 11 => ("GapLinksModel", "readLinks", "[I", true)
  | 12 => ("GapLinksModel", "names", "[J", true)
  | 13 => ("GapLinksModel", "readNames", "[J", true)
  | 14 => ("GapLinksModel", "isTold", "Z", false)
  | 15 => ("GapLinksModel", "textLong", "I", false)
  | 16 => ("GapLinksModel", "place", "I", false)
  | 17 => ("GapLinksModel", "spot", "I", false)
  | 18 => ("GapLinksModel", "token", "I", false)
  | 19 => ("GapLinksModel", "whole", "I", false)
  | 20 => ("GapLinksModel", "name", "J", false)
  | 21 => ("GapLinksModel", "readFault", "I", false)
  | 22 => ("GapLinksModel", "readPlace", "I", false)
  | 23 => ("GapLinksModel", "hasBus", "Z", false)
  | 24 => ("GapLinksModel", "row", "[I", true)
  | 25 => ("GapLinksModel", "aside", "[I", true)
  | 26 => ("GapLinksModel", "kept", "[I", true)
  | 27 => ("GapLinksModel", "isKept", "Z", false)
  | _ => ("GapLinksModel", "takenNow", "I", false)
def tyX8 : Nat → FieldType := fun k => match k with
  | 0 => .int
  | 1 => .int
  | 2 => .int
  | 3 => .int
  | 4 => .array .int
  | 5 => .int
  | 6 => .array .int
  | 7 => .array .int
  | 8 => .array .int
  | 9 => .array .int
  | 10 => .array .int
  | 11 => .array .int
  | 12 => .array .long
  | 13 => .array .long
  | 14 => .boolean
  | 15 => .int
  | 16 => .int
  | 17 => .int
  | 18 => .int
  | 19 => .int
  | 20 => .long
  | 21 => .int
  | 22 => .int
  | 23 => .boolean
  | 24 => .array .int
  | 25 => .array .int
  | 26 => .array .int
  | 27 => .boolean
  | _ => .int
abbrev wsX80 : List Cond := u_ws RX8 TX8 29
theorem nmX8 : ∀ a, a < 29 → ∀ b, b < 29 → a ≠ b → (TX8 a).2.1 ≠ (TX8 b).2.1 := by decide +kernel
theorem tyX8_ok : ∀ k, k < 29 → parseFieldDescriptor (TX8 k).2.2.1 = some (tyX8 k) := by decide +kernel
abbrev cX8_init : ByteArray := prog_10_method_1_code
def yX8_init : MethodName := ⟨RX8, "<init>", "()V"⟩
abbrev cX8_thrown : ByteArray := prog_10_method_2_code
def yX8_thrown : MethodName := ⟨RX8, "thrown", "()I"⟩
abbrev cX8_in : ByteArray := prog_10_method_3_code
def yX8_in : MethodName := ⟨RX8, "in", "(III)Z"⟩
abbrev cX8_fresh : ByteArray := prog_10_method_4_code
def yX8_fresh : MethodName := ⟨RX8, "fresh", "()V"⟩
abbrev cX8_no : ByteArray := prog_10_method_5_code
def yX8_no : MethodName := ⟨RX8, "no", "(I)I"⟩
abbrev cX8_feed : ByteArray := prog_10_method_6_code
def yX8_feed : MethodName := ⟨RX8, "feed", "(IIIII)I"⟩
abbrev cX8_laysWord : ByteArray := prog_10_method_7_code
def yX8_laysWord : MethodName := ⟨RX8, "laysWord", "(I)V"⟩
abbrev cX8_see : ByteArray := prog_10_method_8_code
def yX8_see : MethodName := ⟨RX8, "see", "(I)I"⟩
abbrev cX8_goesOn : ByteArray := prog_10_method_9_code
def yX8_goesOn : MethodName := ⟨RX8, "goesOn", "()V"⟩
abbrev cX8_readsWord : ByteArray := prog_10_method_10_code
def yX8_readsWord : MethodName := ⟨RX8, "readsWord", "()V"⟩
abbrev cX8_isWord : ByteArray := prog_10_method_11_code
def yX8_isWord : MethodName := ⟨RX8, "isWord", "(Ljava/lang/String;)Z"⟩
abbrev cX8_errs : ByteArray := prog_10_method_12_code
def yX8_errs : MethodName := ⟨RX8, "errs", "(I)I"⟩
abbrev cX8_passes : ByteArray := prog_10_method_13_code
def yX8_passes : MethodName := ⟨RX8, "passes", "(II)I"⟩
abbrev cX8_after : ByteArray := prog_10_method_14_code
def yX8_after : MethodName := ⟨RX8, "after", "(Ljava/lang/String;II)I"⟩
abbrev cX8_isName : ByteArray := prog_10_method_15_code
def yX8_isName : MethodName := ⟨RX8, "isName", "()Z"⟩
abbrev cX8_told : ByteArray := prog_10_method_16_code
def yX8_told : MethodName := ⟨RX8, "told", "()I"⟩
abbrev cX8_newName : ByteArray := prog_10_method_17_code
def yX8_newName : MethodName := ⟨RX8, "newName", "(I)I"⟩
abbrev cX8_endHere : ByteArray := prog_10_method_18_code
def yX8_endHere : MethodName := ⟨RX8, "endHere", "()I"⟩
abbrev cX8_readBus : ByteArray := prog_10_method_19_code
def yX8_readBus : MethodName := ⟨RX8, "readBus", "()I"⟩
abbrev cX8_readEnd : ByteArray := prog_10_method_20_code
def yX8_readEnd : MethodName := ⟨RX8, "readEnd", "()I"⟩
abbrev cX8_isGap : ByteArray := prog_10_method_21_code
def yX8_isGap : MethodName := ⟨RX8, "isGap", "(I)Z"⟩
abbrev cX8_readGap : ByteArray := prog_10_method_22_code
def yX8_readGap : MethodName := ⟨RX8, "readGap", "()I"⟩
abbrev cX8_isHeard : ByteArray := prog_10_method_23_code
def yX8_isHeard : MethodName := ⟨RX8, "isHeard", "(II)Z"⟩
abbrev cX8_readReceiver : ByteArray := prog_10_method_24_code
def yX8_readReceiver : MethodName := ⟨RX8, "readReceiver", "(I)I"⟩
abbrev cX8_readLink : ByteArray := prog_10_method_25_code
def yX8_readLink : MethodName := ⟨RX8, "readLink", "()I"⟩
abbrev cX8_readLine : ByteArray := prog_10_method_26_code
def yX8_readLine : MethodName := ⟨RX8, "readLine", "()I"⟩
abbrev cX8_readAll : ByteArray := prog_10_method_27_code
def yX8_readAll : MethodName := ⟨RX8, "readAll", "(I)I"⟩
abbrev cX8_bus : ByteArray := prog_10_method_28_code
def yX8_bus : MethodName := ⟨RX8, "bus", "(I)I"⟩
abbrev cX8_fault : ByteArray := prog_10_method_29_code
def yX8_fault : MethodName := ⟨RX8, "fault", "()I"⟩
abbrev cX8_where : ByteArray := prog_10_method_30_code
def yX8_where : MethodName := ⟨RX8, "where", "()I"⟩
abbrev cX8_linkOf : ByteArray := prog_10_method_31_code
def yX8_linkOf : MethodName := ⟨RX8, "linkOf", "(II)I"⟩
abbrev cX8_receiverOf : ByteArray := prog_10_method_32_code
def yX8_receiverOf : MethodName := ⟨RX8, "receiverOf", "(II)I"⟩
abbrev cX8_isLink : ByteArray := prog_10_method_33_code
def yX8_isLink : MethodName := ⟨RX8, "isLink", "(I)Z"⟩
abbrev cX8_isReceiver : ByteArray := prog_10_method_34_code
def yX8_isReceiver : MethodName := ⟨RX8, "isReceiver", "(III)Z"⟩
abbrev cX8_isEnd : ByteArray := prog_10_method_35_code
def yX8_isEnd : MethodName := ⟨RX8, "isEnd", "(I)Z"⟩
abbrev cX8_isPort : ByteArray := prog_10_method_36_code
def yX8_isPort : MethodName := ⟨RX8, "isPort", "(I)Z"⟩
abbrev cX8_apart : ByteArray := prog_10_method_37_code
def yX8_apart : MethodName := ⟨RX8, "apart", "(II)I"⟩
abbrev cX8_wayLong : ByteArray := prog_10_method_38_code
def yX8_wayLong : MethodName := ⟨RX8, "wayLong", "(II)I"⟩
abbrev cX8_wayOf : ByteArray := prog_10_method_39_code
def yX8_wayOf : MethodName := ⟨RX8, "wayOf", "(III)I"⟩
abbrev cX8_goesThrough : ByteArray := prog_10_method_40_code
def yX8_goesThrough : MethodName := ⟨RX8, "goesThrough", "(II)Z"⟩
abbrev cX8_about : ByteArray := prog_10_method_41_code
def yX8_about : MethodName := ⟨RX8, "about", "(I)I"⟩
abbrev cX8_at : ByteArray := prog_10_method_42_code
def yX8_at : MethodName := ⟨RX8, "at", "(I)I"⟩
abbrev cX8_link : ByteArray := prog_10_method_43_code
def yX8_link : MethodName := ⟨RX8, "link", "(II)I"⟩
abbrev cX8_receiver : ByteArray := prog_10_method_44_code
def yX8_receiver : MethodName := ⟨RX8, "receiver", "(II)I"⟩
abbrev cX8_named : ByteArray := prog_10_method_45_code
def yX8_named : MethodName := ⟨RX8, "named", "(J)I"⟩
abbrev cX8_way : ByteArray := prog_10_method_46_code
def yX8_way : MethodName := ⟨RX8, "way", "(III)I"⟩
abbrev cX8_linkAt : ByteArray := prog_10_method_47_code
def yX8_linkAt : MethodName := ⟨RX8, "linkAt", "(II)I"⟩
abbrev cX8_portAt : ByteArray := prog_10_method_48_code
def yX8_portAt : MethodName := ⟨RX8, "portAt", "(II)I"⟩
abbrev cX8_hearAt : ByteArray := prog_10_method_49_code
def yX8_hearAt : MethodName := ⟨RX8, "hearAt", "(II)I"⟩
abbrev cX8_mostCredit : ByteArray := prog_10_method_50_code
def yX8_mostCredit : MethodName := ⟨RX8, "mostCredit", "(I)I"⟩
abbrev cX8_begins : ByteArray := prog_10_method_51_code
def yX8_begins : MethodName := ⟨RX8, "begins", "()V"⟩
abbrev cX8_laysAside : ByteArray := prog_10_method_52_code
def yX8_laysAside : MethodName := ⟨RX8, "laysAside", "()V"⟩
abbrev cX8_takesBack : ByteArray := prog_10_method_53_code
def yX8_takesBack : MethodName := ⟨RX8, "takesBack", "()V"⟩
abbrev cX8_comes : ByteArray := prog_10_method_54_code
def yX8_comes : MethodName := ⟨RX8, "comes", "(IIIII)Z"⟩
abbrev cX8_behind : ByteArray := prog_10_method_55_code
def yX8_behind : MethodName := ⟨RX8, "behind", "(I)I"⟩
abbrev cX8_isBorn : ByteArray := prog_10_method_56_code
def yX8_isBorn : MethodName := ⟨RX8, "isBorn", "(I)I"⟩
abbrev cX8_liesBehind : ByteArray := prog_10_method_57_code
def yX8_liesBehind : MethodName := ⟨RX8, "liesBehind", "(III)Z"⟩
abbrev cX8_switchBehind : ByteArray := prog_10_method_58_code
def yX8_switchBehind : MethodName := ⟨RX8, "switchBehind", "(I)I"⟩
abbrev cX8_arrivesAtSwitch : ByteArray := prog_10_method_59_code
def yX8_arrivesAtSwitch : MethodName := ⟨RX8, "arrivesAtSwitch", "(IIIII)V"⟩
abbrev cX8_isWhole : ByteArray := prog_10_method_60_code
def yX8_isWhole : MethodName := ⟨RX8, "isWhole", "(III)Z"⟩
abbrev cX8_ahead : ByteArray := prog_10_method_61_code
def yX8_ahead : MethodName := ⟨RX8, "ahead", "(II)I"⟩
abbrev cX8_isTaken : ByteArray := prog_10_method_62_code
def yX8_isTaken : MethodName := ⟨RX8, "isTaken", "(II)Z"⟩
abbrev cX8_takes : ByteArray := prog_10_method_63_code
def yX8_takes : MethodName := ⟨RX8, "takes", "(IIII)V"⟩
abbrev cX8_arrivesAtEnd : ByteArray := prog_10_method_64_code
def yX8_arrivesAtEnd : MethodName := ⟨RX8, "arrivesAtEnd", "(IIIII)V"⟩
abbrev cX8_leaves : ByteArray := prog_10_method_65_code
def yX8_leaves : MethodName := ⟨RX8, "leaves", "(II)V"⟩
abbrev cX8_sends : ByteArray := prog_10_method_66_code
def yX8_sends : MethodName := ⟨RX8, "sends", "(II)V"⟩
abbrev cX8_goesTick : ByteArray := prog_10_method_67_code
def yX8_goesTick : MethodName := ⟨RX8, "goesTick", "()V"⟩
abbrev cX8_goes : ByteArray := prog_10_method_68_code
def yX8_goes : MethodName := ⟨RX8, "goes", "(I)V"⟩
abbrev cX8_waits : ByteArray := prog_10_method_69_code
def yX8_waits : MethodName := ⟨RX8, "waits", "(II)I"⟩
abbrev cX8_credit : ByteArray := prog_10_method_70_code
def yX8_credit : MethodName := ⟨RX8, "credit", "(II)I"⟩
abbrev cX8_port : ByteArray := prog_10_method_71_code
def yX8_port : MethodName := ⟨RX8, "port", "(III)I"⟩
abbrev cX8_frame : ByteArray := prog_10_method_72_code
def yX8_frame : MethodName := ⟨RX8, "frame", "(IIII)I"⟩
abbrev cX8_isLoss : ByteArray := prog_10_method_73_code
def yX8_isLoss : MethodName := ⟨RX8, "isLoss", "(II)Z"⟩
abbrev cX8_lost : ByteArray := prog_10_method_74_code
def yX8_lost : MethodName := ⟨RX8, "lost", "(II)I"⟩
abbrev cX8_policed : ByteArray := prog_10_method_75_code
def yX8_policed : MethodName := ⟨RX8, "policed", "(II)I"⟩
abbrev cX8_heard : ByteArray := prog_10_method_76_code
def yX8_heard : MethodName := ⟨RX8, "heard", "(III)I"⟩
abbrev cX8_seen : ByteArray := prog_10_method_77_code
def yX8_seen : MethodName := ⟨RX8, "seen", "(III)I"⟩
abbrev cX8_taken : ByteArray := prog_10_method_78_code
def yX8_taken : MethodName := ⟨RX8, "taken", "(III)I"⟩
abbrev cX8_part : ByteArray := prog_10_method_79_code
def yX8_part : MethodName := ⟨RX8, "part", "(JJZ)J"⟩
abbrev cX8_rateOf : ByteArray := prog_10_method_80_code
def yX8_rateOf : MethodName := ⟨RX8, "rateOf", "(I)J"⟩
abbrev cX8_loadOf : ByteArray := prog_10_method_81_code
def yX8_loadOf : MethodName := ⟨RX8, "loadOf", "(I)J"⟩
abbrev cX8_isBorne : ByteArray := prog_10_method_82_code
def yX8_isBorne : MethodName := ⟨RX8, "isBorne", "()Z"⟩
abbrev cX8_portAhead : ByteArray := prog_10_method_83_code
def yX8_portAhead : MethodName := ⟨RX8, "portAhead", "(II)I"⟩
abbrev cX8_burstOf : ByteArray := prog_10_method_84_code
def yX8_burstOf : MethodName := ⟨RX8, "burstOf", "(II)J"⟩
abbrev cX8_delayOf : ByteArray := prog_10_method_85_code
def yX8_delayOf : MethodName := ⟨RX8, "delayOf", "(I)J"⟩
abbrev cX8_boundOf : ByteArray := prog_10_method_86_code
def yX8_boundOf : MethodName := ⟨RX8, "boundOf", "(II)J"⟩
abbrev cX8_load : ByteArray := prog_10_method_87_code
def yX8_load : MethodName := ⟨RX8, "load", "(IZ)J"⟩
abbrev cX8_delay : ByteArray := prog_10_method_88_code
def yX8_delay : MethodName := ⟨RX8, "delay", "(IZ)J"⟩
abbrev cX8_burst : ByteArray := prog_10_method_89_code
def yX8_burst : MethodName := ⟨RX8, "burst", "(IIIZ)J"⟩
abbrev cX8_bound : ByteArray := prog_10_method_90_code
def yX8_bound : MethodName := ⟨RX8, "bound", "(IIZ)J"⟩
abbrev cX8_keeps : ByteArray := prog_10_method_91_code
def yX8_keeps : MethodName := ⟨RX8, "keeps", "(II)I"⟩
abbrev cX8_fullest : ByteArray := prog_10_method_92_code
def yX8_fullest : MethodName := ⟨RX8, "fullest", "()I"⟩
abbrev cX8_leastGap : ByteArray := prog_10_method_93_code
def yX8_leastGap : MethodName := ⟨RX8, "leastGap", "(I)I"⟩
abbrev cX8_through : ByteArray := prog_10_method_94_code
def yX8_through : MethodName := ⟨RX8, "through", "(I)I"⟩
abbrev cX8_send : ByteArray := prog_10_method_95_code
def yX8_send : MethodName := ⟨RX8, "send", "(II)I"⟩
abbrev cX8_babble : ByteArray := prog_10_method_96_code
def yX8_babble : MethodName := ⟨RX8, "babble", "(II)I"⟩
abbrev cX8_down : ByteArray := prog_10_method_97_code
def yX8_down : MethodName := ⟨RX8, "down", "(II)I"⟩
abbrev cX8_anew : ByteArray := prog_10_method_98_code
def yX8_anew : MethodName := ⟨RX8, "anew", "(I)I"⟩
abbrev cX8_ticks : ByteArray := prog_10_method_99_code
def yX8_ticks : MethodName := ⟨RX8, "ticks", "(I)I"⟩
abbrev cX8_willHear : ByteArray := prog_10_method_100_code
def yX8_willHear : MethodName := ⟨RX8, "willHear", "(IIII)I"⟩
abbrev cX8_willLose : ByteArray := prog_10_method_101_code
def yX8_willLose : MethodName := ⟨RX8, "willLose", "(III)I"⟩
abbrev cX8_waitingMany : ByteArray := prog_10_method_102_code
def yX8_waitingMany : MethodName := ⟨RX8, "waitingMany", "()I"⟩
abbrev cX8_frameMany : ByteArray := prog_10_method_103_code
def yX8_frameMany : MethodName := ⟨RX8, "frameMany", "()I"⟩
abbrev cX8_quiet : ByteArray := prog_10_method_104_code
def yX8_quiet : MethodName := ⟨RX8, "quiet", "()I"⟩
abbrev cX8_keep : ByteArray := prog_10_method_105_code
def yX8_keep : MethodName := ⟨RX8, "keep", "()Z"⟩
abbrev cX8_back : ByteArray := prog_10_method_106_code
def yX8_back : MethodName := ⟨RX8, "back", "()Z"⟩
abbrev cX8_isSilent : ByteArray := prog_10_method_107_code
def yX8_isSilent : MethodName := ⟨RX8, "isSilent", "(I)Z"⟩
abbrev cX8_silent : ByteArray := prog_10_method_108_code
def yX8_silent : MethodName := ⟨RX8, "silent", "(I)I"⟩
abbrev cX8_receiverMany : ByteArray := prog_10_method_109_code
def yX8_receiverMany : MethodName := ⟨RX8, "receiverMany", "()I"⟩
abbrev cX8_size : ByteArray := prog_10_method_110_code
def yX8_size : MethodName := ⟨RX8, "size", "(I)I"⟩
abbrev cX8_trouble : ByteArray := prog_10_method_111_code
def yX8_trouble : MethodName := ⟨RX8, "trouble", "()I"⟩
def RJx145de : String := "java/io/Serializable"
def TJx145de : u_T := fun k => match k with
  | _ => ("", "", "", false)
def tyJx145de : Nat → FieldType := fun k => match k with
  | _ => .int
abbrev wsJx145de0 : List Cond := u_ws RJx145de TJx145de 0
theorem nmJx145de : ∀ a, a < 0 → ∀ b, b < 0 → a ≠ b → (TJx145de a).2.1 ≠ (TJx145de b).2.1 := by decide +kernel
theorem tyJx145de_ok : ∀ k, k < 0 → parseFieldDescriptor (TJx145de k).2.2.1 = some (tyJx145de k) := by decide +kernel
def RJx9f9b0 : String := "java/lang/CharSequence"
def TJx9f9b0 : u_T := fun k => match k with
  | _ => ("", "", "", false)
def tyJx9f9b0 : Nat → FieldType := fun k => match k with
  | _ => .int
abbrev wsJx9f9b00 : List Cond := u_ws RJx9f9b0 TJx9f9b0 0
theorem nmJx9f9b0 : ∀ a, a < 0 → ∀ b, b < 0 → a ≠ b → (TJx9f9b0 a).2.1 ≠ (TJx9f9b0 b).2.1 := by decide +kernel
theorem tyJx9f9b0_ok : ∀ k, k < 0 → parseFieldDescriptor (TJx9f9b0 k).2.2.1 = some (tyJx9f9b0 k) := by decide +kernel
def RJxb160c : String := "java/lang/Comparable"
def TJxb160c : u_T := fun k => match k with
  | _ => ("", "", "", false)
def tyJxb160c : Nat → FieldType := fun k => match k with
  | _ => .int
abbrev wsJxb160c0 : List Cond := u_ws RJxb160c TJxb160c 0
theorem nmJxb160c : ∀ a, a < 0 → ∀ b, b < 0 → a ≠ b → (TJxb160c a).2.1 ≠ (TJxb160c b).2.1 := by decide +kernel
theorem tyJxb160c_ok : ∀ k, k < 0 → parseFieldDescriptor (TJxb160c k).2.2.1 = some (tyJxb160c k) := by decide +kernel
def RJ6 : String := "java/lang/Integer"
def TJ6 : u_T := fun k => match k with
  | _ => ("", "", "", false)
def tyJ6 : Nat → FieldType := fun k => match k with
  | _ => .int
abbrev wsJ60 : List Cond := u_ws RJ6 TJ6 0
theorem nmJ6 : ∀ a, a < 0 → ∀ b, b < 0 → a ≠ b → (TJ6 a).2.1 ≠ (TJ6 b).2.1 := by decide +kernel
theorem tyJ6_ok : ∀ k, k < 0 → parseFieldDescriptor (TJ6 k).2.2.1 = some (tyJ6 k) := by decide +kernel
abbrev cJ6_numberOfTrailingZeros_0f7a4 : ByteArray := prog_15_method_48_code
def yJ6_numberOfTrailingZeros_0f7a4 : MethodName := ⟨RJ6, "numberOfTrailingZeros", "(I)I"⟩
abbrev cJ6_bitCount_0f7a4 : ByteArray := prog_15_method_49_code
def yJ6_bitCount_0f7a4 : MethodName := ⟨RJ6, "bitCount", "(I)I"⟩
def RJ13 : String := "java/lang/Long"
def TJ13 : u_T := fun k => match k with
  | _ => ("", "", "", false)
def tyJ13 : Nat → FieldType := fun k => match k with
  | _ => .int
abbrev wsJ130 : List Cond := u_ws RJ13 TJ13 0
theorem nmJ13 : ∀ a, a < 0 → ∀ b, b < 0 → a ≠ b → (TJ13 a).2.1 ≠ (TJ13 b).2.1 := by decide +kernel
theorem tyJ13_ok : ∀ k, k < 0 → parseFieldDescriptor (TJ13 k).2.2.1 = some (tyJ13 k) := by decide +kernel
abbrev cJ13_numberOfTrailingZeros_95d88 : ByteArray := prog_16_method_49_code
def yJ13_numberOfTrailingZeros_95d88 : MethodName := ⟨RJ13, "numberOfTrailingZeros", "(J)I"⟩
def RJ9 : String := "java/lang/Math"
def TJ9 : u_T := fun k => match k with
  | _ => ("", "", "", false)
def tyJ9 : Nat → FieldType := fun k => match k with
  | _ => .int
abbrev wsJ90 : List Cond := u_ws RJ9 TJ9 0
theorem nmJ9 : ∀ a, a < 0 → ∀ b, b < 0 → a ≠ b → (TJ9 a).2.1 ≠ (TJ9 b).2.1 := by decide +kernel
theorem tyJ9_ok : ∀ k, k < 0 → parseFieldDescriptor (TJ9 k).2.2.1 = some (tyJ9 k) := by decide +kernel
abbrev cJ9_max_7cf53 : ByteArray := prog_17_method_65_code
def yJ9_max_7cf53 : MethodName := ⟨RJ9, "max", "(II)I"⟩
abbrev cJ9_min_7cf53 : ByteArray := prog_17_method_69_code
def yJ9_min_7cf53 : MethodName := ⟨RJ9, "min", "(II)I"⟩
def RJxd2413 : String := "java/lang/Number"
def TJxd2413 : u_T := fun k => match k with
  | _ => ("", "", "", false)
def tyJxd2413 : Nat → FieldType := fun k => match k with
  | _ => .int
abbrev wsJxd24130 : List Cond := u_ws RJxd2413 TJxd2413 0
theorem nmJxd2413 : ∀ a, a < 0 → ∀ b, b < 0 → a ≠ b → (TJxd2413 a).2.1 ≠ (TJxd2413 b).2.1 := by decide +kernel
theorem tyJxd2413_ok : ∀ k, k < 0 → parseFieldDescriptor (TJxd2413 k).2.2.1 = some (tyJxd2413 k) := by decide +kernel
def RJ0 : String := "java/lang/String"
def TJ0 : u_T := fun k => match k with
  | _ => ("", "", "", false)
def tyJ0 : Nat → FieldType := fun k => match k with
  | _ => .int
abbrev wsJ00 : List Cond := u_ws RJ0 TJ0 0
theorem nmJ0 : ∀ a, a < 0 → ∀ b, b < 0 → a ≠ b → (TJ0 a).2.1 ≠ (TJ0 b).2.1 := by decide +kernel
theorem tyJ0_ok : ∀ k, k < 0 → parseFieldDescriptor (TJ0 k).2.2.1 = some (tyJ0 k) := by decide +kernel
abbrev cJ0_length_8abf5 : ByteArray := prog_20_method_54_code
def yJ0_length_8abf5 : MethodName := ⟨RJ0, "length", "()I"⟩
abbrev cJ0_charAt_5068e : ByteArray := prog_20_method_56_code
def yJ0_charAt_5068e : MethodName := ⟨RJ0, "charAt", "(I)C"⟩
abbrev cJ0_coder_7d493 : ByteArray := prog_20_method_152_code
def yJ0_coder_7d493 : MethodName := ⟨RJ0, "coder", "()B"⟩
abbrev cJ0_isLatin1_aae02 : ByteArray := prog_20_method_154_code
def yJ0_isLatin1_aae02 : MethodName := ⟨RJ0, "isLatin1", "()Z"⟩
abbrev cJ0_checkIndex_df160 : ByteArray := prog_20_method_155_code
def yJ0_checkIndex_df160 : MethodName := ⟨RJ0, "checkIndex", "(II)V"⟩
def RJ1 : String := "java/lang/StringLatin1"
def TJ1 : u_T := fun k => match k with
  | _ => ("", "", "", false)
def tyJ1 : Nat → FieldType := fun k => match k with
  | _ => .int
abbrev wsJ10 : List Cond := u_ws RJ1 TJ1 0
theorem nmJ1 : ∀ a, a < 0 → ∀ b, b < 0 → a ≠ b → (TJ1 a).2.1 ≠ (TJ1 b).2.1 := by decide +kernel
theorem tyJ1_ok : ∀ k, k < 0 → parseFieldDescriptor (TJ1 k).2.2.1 = some (tyJ1 k) := by decide +kernel
abbrev cJ1_charAt_3b067 : ByteArray := prog_21_method_2_code
def yJ1_charAt_3b067 : MethodName := ⟨RJ1, "charAt", "([BI)C"⟩
def RJ2 : String := "java/lang/StringUTF16"
def TJ2 : u_T := fun k => match k with
  | _ => ("", "", "", false)
def tyJ2 : Nat → FieldType := fun k => match k with
  | _ => .int
abbrev wsJ20 : List Cond := u_ws RJ2 TJ2 0
theorem nmJ2 : ∀ a, a < 0 → ∀ b, b < 0 → a ≠ b → (TJ2 a).2.1 ≠ (TJ2 b).2.1 := by decide +kernel
theorem tyJ2_ok : ∀ k, k < 0 → parseFieldDescriptor (TJ2 k).2.2.1 = some (tyJ2 k) := by decide +kernel
abbrev cJ2_getChar_3b067 : ByteArray := prog_22_method_5_code
def yJ2_getChar_3b067 : MethodName := ⟨RJ2, "getChar", "([BI)C"⟩
abbrev cJ2_length_9d52b : ByteArray := prog_22_method_6_code
def yJ2_length_9d52b : MethodName := ⟨RJ2, "length", "([B)I"⟩
abbrev cJ2_charAt_3b067 : ByteArray := prog_22_method_83_code
def yJ2_charAt_3b067 : MethodName := ⟨RJ2, "charAt", "([BI)C"⟩
abbrev cJ2_checkIndex_2214a : ByteArray := prog_22_method_91_code
def yJ2_checkIndex_2214a : MethodName := ⟨RJ2, "checkIndex", "(I[B)V"⟩
def RJ10 : String := "java/lang/System"
def TJ10 : u_T := fun k => match k with
  | _ => ("", "", "", false)
def tyJ10 : Nat → FieldType := fun k => match k with
  | _ => .int
abbrev wsJ100 : List Cond := u_ws RJ10 TJ10 0
theorem nmJ10 : ∀ a, a < 0 → ∀ b, b < 0 → a ≠ b → (TJ10 a).2.1 ≠ (TJ10 b).2.1 := by decide +kernel
theorem tyJ10_ok : ∀ k, k < 0 → parseFieldDescriptor (TJ10 k).2.2.1 = some (tyJ10 k) := by decide +kernel
def RJxfd54e : String := "java/lang/constant/Constable"
def TJxfd54e : u_T := fun k => match k with
  | _ => ("", "", "", false)
def tyJxfd54e : Nat → FieldType := fun k => match k with
  | _ => .int
abbrev wsJxfd54e0 : List Cond := u_ws RJxfd54e TJxfd54e 0
theorem nmJxfd54e : ∀ a, a < 0 → ∀ b, b < 0 → a ≠ b → (TJxfd54e a).2.1 ≠ (TJxfd54e b).2.1 := by decide +kernel
theorem tyJxfd54e_ok : ∀ k, k < 0 → parseFieldDescriptor (TJxfd54e k).2.2.1 = some (tyJxfd54e k) := by decide +kernel
def RJx3cf43 : String := "java/lang/constant/ConstantDesc"
def TJx3cf43 : u_T := fun k => match k with
  | _ => ("", "", "", false)
def tyJx3cf43 : Nat → FieldType := fun k => match k with
  | _ => .int
abbrev wsJx3cf430 : List Cond := u_ws RJx3cf43 TJx3cf43 0
theorem nmJx3cf43 : ∀ a, a < 0 → ∀ b, b < 0 → a ≠ b → (TJx3cf43 a).2.1 ≠ (TJx3cf43 b).2.1 := by decide +kernel
theorem tyJx3cf43_ok : ∀ k, k < 0 → parseFieldDescriptor (TJx3cf43 k).2.2.1 = some (tyJx3cf43 k) := by decide +kernel
def RJ7 : String := "java/util/Arrays"
def TJ7 : u_T := fun k => match k with
  | _ => ("", "", "", false)
def tyJ7 : Nat → FieldType := fun k => match k with
  | _ => .int
abbrev wsJ70 : List Cond := u_ws RJ7 TJ7 0
theorem nmJ7 : ∀ a, a < 0 → ∀ b, b < 0 → a ≠ b → (TJ7 a).2.1 ≠ (TJ7 b).2.1 := by decide +kernel
theorem tyJ7_ok : ∀ k, k < 0 → parseFieldDescriptor (TJ7 k).2.2.1 = some (tyJ7 k) := by decide +kernel
abbrev cJ7_fill_53178 : ByteArray := prog_27_method_103_code
def yJ7_fill_53178 : MethodName := ⟨RJ7, "fill", "([II)V"⟩
def RJ3 : String := "jdk/internal/util/Preconditions"
def TJ3 : u_T := fun k => match k with
  | _ => ("", "", "", false)
def tyJ3 : Nat → FieldType := fun k => match k with
  | _ => .int
abbrev wsJ30 : List Cond := u_ws RJ3 TJ3 0
theorem nmJ3 : ∀ a, a < 0 → ∀ b, b < 0 → a ≠ b → (TJ3 a).2.1 ≠ (TJ3 b).2.1 := by decide +kernel
theorem tyJ3_ok : ∀ k, k < 0 → parseFieldDescriptor (TJ3 k).2.2.1 = some (tyJ3 k) := by decide +kernel
abbrev cJ3_checkIndex_8e157 : ByteArray := prog_29_method_11_code
def yJ3_checkIndex_8e157 : MethodName := ⟨RJ3, "checkIndex", "(IILjava/util/function/BiFunction;)I"⟩
def RL : String := "GapLinksLaw"
abbrev cL_silent : ByteArray := method_3_code
def yL_silent : MethodName := ⟨RL, "silent", "(LGapLinks;I[J)I"⟩
abbrev cL_law : ByteArray := code
def yL_law : MethodName := ⟨RL, "law", "([I)Z"⟩
abbrev vwCl : List vw_C := [(RX0, TX0, 11), (RX1, TX1, 4), (RX2, TX2, 16), (RX3, TX3, 8), (RX4, TX4, 12), (RX5, TX5, 12), (RX6, TX6, 5), (RX7, TX7, 10), (RX8, TX8, 29)]
end
section
/-- the good words of the tables -/
def UU : List Cond := lw_tbl.filter goodWord
theorem UU_of {w : Cond} (h : w ∈ lw_tbl) (g : goodWord w = true) : w ∈ UU := List.mem_filter.mpr ⟨h, g⟩
theorem UU_tbl {w : Cond} (h : w ∈ UU) : w ∈ lw_tbl := (List.mem_filter.mp h).1
theorem UU_good {w : Cond} (h : w ∈ UU) : goodWord w = true := (List.mem_filter.mp h).2
theorem tb_1 {w : Cond} (h : w ∈ tables_1_1) (g : goodWord w = true) : w ∈ UU := UU_of (List.mem_append_right _ (List.mem_append_left _ h)) g
theorem tb_2 {w : Cond} (h : w ∈ tables_1_2) (g : goodWord w = true) : w ∈ UU := UU_of (List.mem_append_right _ (List.mem_append_right _ (List.mem_append_left _ h))) g
theorem tb_3 {w : Cond} (h : w ∈ tables_1_3) (g : goodWord w = true) : w ∈ UU := UU_of (List.mem_append_right _ (List.mem_append_right _ (List.mem_append_right _ (List.mem_append_left _ h)))) g
theorem tb_4 {w : Cond} (h : w ∈ tables_1_4) (g : goodWord w = true) : w ∈ UU := UU_of (List.mem_append_right _ (List.mem_append_right _ (List.mem_append_right _ (List.mem_append_right _ (List.mem_append_left _ h))))) g
theorem tb_5 {w : Cond} (h : w ∈ tables_1_5) (g : goodWord w = true) : w ∈ UU := UU_of (List.mem_append_right _ (List.mem_append_right _ (List.mem_append_right _ (List.mem_append_right _ (List.mem_append_right _ (List.mem_append_left _ h)))))) g
theorem tb_6 {w : Cond} (h : w ∈ tables_1_6) (g : goodWord w = true) : w ∈ UU := UU_of (List.mem_append_right _ (List.mem_append_right _ (List.mem_append_right _ (List.mem_append_right _ (List.mem_append_right _ (List.mem_append_right _ (List.mem_append_left _ h))))))) g
theorem tb_7 {w : Cond} (h : w ∈ tables_1_7) (g : goodWord w = true) : w ∈ UU := UU_of (List.mem_append_right _ (List.mem_append_right _ (List.mem_append_right _ (List.mem_append_right _ (List.mem_append_right _ (List.mem_append_right _ (List.mem_append_right _ (List.mem_append_left _ h)))))))) g
theorem tb_8 {w : Cond} (h : w ∈ tables_1_8) (g : goodWord w = true) : w ∈ UU := UU_of (List.mem_append_right _ (List.mem_append_right _ (List.mem_append_right _ (List.mem_append_right _ (List.mem_append_right _ (List.mem_append_right _ (List.mem_append_right _ (List.mem_append_right _ (h))))))))) g
theorem pv_1 {q : MethodName × Nat} (h : q ∈ lw_privs_1) : Cond.selects q.1.cls q.1 q.1 ∈ UU := UU_of (List.mem_append_left _ (List.mem_map.mpr ⟨q, List.mem_append_left _ h, rfl⟩)) rfl
theorem pv_2 {q : MethodName × Nat} (h : q ∈ lw_privs_2) : Cond.selects q.1.cls q.1 q.1 ∈ UU := UU_of (List.mem_append_left _ (List.mem_map.mpr ⟨q, List.mem_append_right _ (List.mem_append_left _ h), rfl⟩)) rfl
theorem pv_3 {q : MethodName × Nat} (h : q ∈ lw_privs_3) : Cond.selects q.1.cls q.1 q.1 ∈ UU := UU_of (List.mem_append_left _ (List.mem_map.mpr ⟨q, List.mem_append_right _ (List.mem_append_right _ (List.mem_append_left _ h)), rfl⟩)) rfl
theorem pv_4 {q : MethodName × Nat} (h : q ∈ lw_privs_4) : Cond.selects q.1.cls q.1 q.1 ∈ UU := UU_of (List.mem_append_left _ (List.mem_map.mpr ⟨q, List.mem_append_right _ (List.mem_append_right _ (List.mem_append_right _ (List.mem_append_left _ h))), rfl⟩)) rfl
theorem pv_5 {q : MethodName × Nat} (h : q ∈ lw_privs_5) : Cond.selects q.1.cls q.1 q.1 ∈ UU := UU_of (List.mem_append_left _ (List.mem_map.mpr ⟨q, List.mem_append_right _ (List.mem_append_right _ (List.mem_append_right _ (List.mem_append_right _ (List.mem_append_left _ h)))), rfl⟩)) rfl
theorem pv_6 {q : MethodName × Nat} (h : q ∈ lw_privs_6) : Cond.selects q.1.cls q.1 q.1 ∈ UU := UU_of (List.mem_append_left _ (List.mem_map.mpr ⟨q, List.mem_append_right _ (List.mem_append_right _ (List.mem_append_right _ (List.mem_append_right _ (List.mem_append_right _ (List.mem_append_left _ h))))), rfl⟩)) rfl
theorem pv_7 {q : MethodName × Nat} (h : q ∈ lw_privs_7) : Cond.selects q.1.cls q.1 q.1 ∈ UU := UU_of (List.mem_append_left _ (List.mem_map.mpr ⟨q, List.mem_append_right _ (List.mem_append_right _ (List.mem_append_right _ (List.mem_append_right _ (List.mem_append_right _ (List.mem_append_right _ (h)))))), rfl⟩)) rfl
theorem u1_0 : (Jvm.Cond.initialized "GapLinksLaw") ∈ UU := tb_1 (List.mem_of_getElem? (i := 0) rfl) rfl
theorem u1_1 : (Jvm.Cond.initialized "GapLinks") ∈ UU := tb_1 (List.mem_of_getElem? (i := 1) rfl) rfl
theorem u1_2 : (Jvm.Cond.initialized "GapLinks$Reader") ∈ UU := tb_1 (List.mem_of_getElem? (i := 2) rfl) rfl
theorem u1_3 : (Jvm.Cond.initialized "GapLinks$Plan") ∈ UU := tb_1 (List.mem_of_getElem? (i := 3) rfl) rfl
theorem u1_4 : (Jvm.Cond.initialized "GapLinks$Ways") ∈ UU := tb_1 (List.mem_of_getElem? (i := 4) rfl) rfl
theorem u1_5 : (Jvm.Cond.initialized "GapLinks$Envelope") ∈ UU := tb_1 (List.mem_of_getElem? (i := 5) rfl) rfl
theorem u1_6 : (Jvm.Cond.initialized "GapLinks$State") ∈ UU := tb_1 (List.mem_of_getElem? (i := 6) rfl) rfl
theorem u1_7 : (Jvm.Cond.initialized "GapLinks$Ports") ∈ UU := tb_1 (List.mem_of_getElem? (i := 7) rfl) rfl
theorem u1_8 : (Jvm.Cond.initialized "GapLinks$Ears") ∈ UU := tb_1 (List.mem_of_getElem? (i := 8) rfl) rfl
theorem u1_9 : (Jvm.Cond.initialized "GapLinksModel") ∈ UU := tb_1 (List.mem_of_getElem? (i := 9) rfl) rfl
theorem u1_10 : (Jvm.Cond.initialized "java/lang/Math") ∈ UU := tb_1 (List.mem_of_getElem? (i := 10) rfl) rfl
theorem u1_11 : (Jvm.Cond.initialized "java/lang/Number") ∈ UU := tb_1 (List.mem_of_getElem? (i := 11) rfl) rfl
theorem u1_12 : (Jvm.Cond.initialized "java/lang/Integer") ∈ UU := tb_1 (List.mem_of_getElem? (i := 12) rfl) rfl
theorem u1_13 : (Jvm.Cond.initialized "java/util/Arrays") ∈ UU := tb_1 (List.mem_of_getElem? (i := 13) rfl) rfl
theorem u1_14 : (Jvm.Cond.initialized "java/lang/String") ∈ UU := tb_1 (List.mem_of_getElem? (i := 14) rfl) rfl
theorem u1_15 : (Jvm.Cond.initialized "java/lang/StringLatin1") ∈ UU := tb_1 (List.mem_of_getElem? (i := 15) rfl) rfl
theorem u1_16 : (Jvm.Cond.initialized "jdk/internal/util/Preconditions") ∈ UU := tb_1 (List.mem_of_getElem? (i := 16) rfl) rfl
theorem u1_17 : (Jvm.Cond.initialized "java/lang/StringUTF16") ∈ UU := tb_1 (List.mem_of_getElem? (i := 17) rfl) rfl
theorem u1_18 : (Jvm.Cond.initialized "java/lang/Long") ∈ UU := tb_1 (List.mem_of_getElem? (i := 18) rfl) rfl
theorem u1_19 : (Jvm.Cond.initialized "java/lang/System") ∈ UU := tb_1 (List.mem_of_getElem? (i := 19) rfl) rfl
theorem u1_20 : (Jvm.Cond.initialized "java/lang/Throwable") ∈ UU := tb_1 (List.mem_of_getElem? (i := 20) rfl) rfl
theorem u1_21 : (Jvm.Cond.initialized "java/lang/Exception") ∈ UU := tb_1 (List.mem_of_getElem? (i := 21) rfl) rfl
theorem u1_22 : (Jvm.Cond.initialized "java/lang/RuntimeException") ∈ UU := tb_1 (List.mem_of_getElem? (i := 22) rfl) rfl
theorem u1_23 : (Jvm.Cond.initialized "java/util/NoSuchElementException") ∈ UU := tb_1 (List.mem_of_getElem? (i := 23) rfl) rfl
theorem u1_24 : (Jvm.Cond.classLink "GapLinksLaw" (8 : Nat) "GapLinks") ∈ UU := tb_1 (List.mem_of_getElem? (i := 24) rfl) rfl
theorem u1_25 : (Jvm.Cond.instantiable "GapLinks" (10 : Nat)) ∈ UU := tb_1 (List.mem_of_getElem? (i := 25) rfl) rfl
theorem u1_26 : (Jvm.Cond.methodLink "GapLinksLaw" (15 : Nat) ({ cls := "GapLinks", name := "<init>", desc := "()V" } : Jvm.MethodName)) ∈ UU := tb_1 (List.mem_of_getElem? (i := 26) rfl) rfl
theorem u1_27 : (Jvm.Cond.instanceMethod ({ cls := "GapLinks", name := "<init>", desc := "()V" } : Jvm.MethodName)) ∈ UU := tb_1 (List.mem_of_getElem? (i := 27) rfl) rfl
theorem u1_28 : (Jvm.Cond.code ({ cls := "GapLinks", name := "<init>", desc := "()V" } : Jvm.MethodName) prog_1_method_1_code (1 : Nat) (Option.none : Option Jvm.ClassFile.FieldType)) ∈ UU := tb_1 (List.mem_of_getElem? (i := 28) rfl) rfl
theorem u1_29 : (Jvm.Cond.methodLink "GapLinks" (3 : Nat) ({ cls := "java/lang/Object", name := "<init>", desc := "()V" } : Jvm.MethodName)) ∈ UU := tb_1 (List.mem_of_getElem? (i := 29) rfl) rfl
theorem u1_30 : (Jvm.Cond.instanceMethod ({ cls := "java/lang/Object", name := "<init>", desc := "()V" } : Jvm.MethodName)) ∈ UU := tb_1 (List.mem_of_getElem? (i := 30) rfl) rfl
theorem u1_31 : (Jvm.Cond.code ({ cls := "java/lang/Object", name := "<init>", desc := "()V" } : Jvm.MethodName) object_method_1_code (1 : Nat) (Option.none : Option Jvm.ClassFile.FieldType)) ∈ UU := tb_1 (List.mem_of_getElem? (i := 31) rfl) rfl
theorem u1_32 : (Jvm.Cond.classLink "GapLinks" (9 : Nat) "GapLinks$Reader") ∈ UU := tb_1 (List.mem_of_getElem? (i := 32) rfl) rfl
theorem u1_33 : (Jvm.Cond.instantiable "GapLinks$Reader" (12 : Nat)) ∈ UU := tb_1 (List.mem_of_getElem? (i := 33) rfl) rfl
theorem u1_35 : (Jvm.Cond.instanceMethod ({ cls := "GapLinks$Reader", name := "<init>", desc := "()V" } : Jvm.MethodName)) ∈ UU := tb_1 (List.mem_of_getElem? (i := 35) rfl) rfl
theorem u1_36 : (Jvm.Cond.code ({ cls := "GapLinks$Reader", name := "<init>", desc := "()V" } : Jvm.MethodName) prog_6_method_1_code (1 : Nat) (Option.none : Option Jvm.ClassFile.FieldType)) ∈ UU := tb_1 (List.mem_of_getElem? (i := 36) rfl) rfl
theorem u1_37 : (Jvm.Cond.methodLink "GapLinks$Reader" (3 : Nat) ({ cls := "java/lang/Object", name := "<init>", desc := "()V" } : Jvm.MethodName)) ∈ UU := tb_1 (List.mem_of_getElem? (i := 37) rfl) rfl
theorem u1_38 : (Jvm.Cond.classLink "GapLinks$Reader" (19 : Nat) "GapLinks$Plan") ∈ UU := tb_1 (List.mem_of_getElem? (i := 38) rfl) rfl
theorem u1_39 : (Jvm.Cond.instantiable "GapLinks$Plan" (16 : Nat)) ∈ UU := tb_1 (List.mem_of_getElem? (i := 39) rfl) rfl
theorem u1_41 : (Jvm.Cond.instanceMethod ({ cls := "GapLinks$Plan", name := "<init>", desc := "()V" } : Jvm.MethodName)) ∈ UU := tb_1 (List.mem_of_getElem? (i := 41) rfl) rfl
theorem u1_42 : (Jvm.Cond.code ({ cls := "GapLinks$Plan", name := "<init>", desc := "()V" } : Jvm.MethodName) prog_4_method_1_code (1 : Nat) (Option.none : Option Jvm.ClassFile.FieldType)) ∈ UU := tb_1 (List.mem_of_getElem? (i := 42) rfl) rfl
theorem u1_43 : (Jvm.Cond.methodLink "GapLinks$Plan" (3 : Nat) ({ cls := "java/lang/Object", name := "<init>", desc := "()V" } : Jvm.MethodName)) ∈ UU := tb_1 (List.mem_of_getElem? (i := 43) rfl) rfl
theorem u1_44 : (Jvm.Cond.classLink "GapLinks$Plan" (59 : Nat) "GapLinks$Ways") ∈ UU := tb_1 (List.mem_of_getElem? (i := 44) rfl) rfl
theorem u1_45 : (Jvm.Cond.instantiable "GapLinks$Ways" (5 : Nat)) ∈ UU := tb_1 (List.mem_of_getElem? (i := 45) rfl) rfl
theorem u1_47 : (Jvm.Cond.instanceMethod ({ cls := "GapLinks$Ways", name := "<init>", desc := "()V" } : Jvm.MethodName)) ∈ UU := tb_1 (List.mem_of_getElem? (i := 47) rfl) rfl
theorem u1_48 : (Jvm.Cond.code ({ cls := "GapLinks$Ways", name := "<init>", desc := "()V" } : Jvm.MethodName) prog_8_method_1_code (1 : Nat) (Option.none : Option Jvm.ClassFile.FieldType)) ∈ UU := tb_1 (List.mem_of_getElem? (i := 48) rfl) rfl
theorem u1_49 : (Jvm.Cond.methodLink "GapLinks$Ways" (3 : Nat) ({ cls := "java/lang/Object", name := "<init>", desc := "()V" } : Jvm.MethodName)) ∈ UU := tb_1 (List.mem_of_getElem? (i := 49) rfl) rfl
theorem u1_50 : (Jvm.Cond.fieldLink "GapLinks$Ways" (9 : Nat) "GapLinks$Ways" "ports" "[I") ∈ UU := tb_1 (List.mem_of_getElem? (i := 50) rfl) rfl
theorem u1_51 : (Jvm.Cond.fieldLink "GapLinks$Ways" (15 : Nat) "GapLinks$Ways" "lengths" "[I") ∈ UU := tb_1 (List.mem_of_getElem? (i := 51) rfl) rfl
theorem u1_52 : (Jvm.Cond.fieldLink "GapLinks$Envelope" (80 : Nat) "GapLinks$Ways" "lengths" "[I") ∈ UU := tb_1 (List.mem_of_getElem? (i := 52) rfl) rfl
theorem u1_53 : (Jvm.Cond.fieldLink "GapLinks" (348 : Nat) "GapLinks$Ways" "lengths" "[I") ∈ UU := tb_1 (List.mem_of_getElem? (i := 53) rfl) rfl
theorem u1_54 : (Jvm.Cond.fieldLink "GapLinks$Ways" (18 : Nat) "GapLinks$Ways" "users" "[I") ∈ UU := tb_1 (List.mem_of_getElem? (i := 54) rfl) rfl
theorem u1_55 : (Jvm.Cond.fieldLink "GapLinks" (291 : Nat) "GapLinks$Ways" "users" "[I") ∈ UU := tb_1 (List.mem_of_getElem? (i := 55) rfl) rfl
theorem u1_56 : (Jvm.Cond.fieldLink "GapLinks$Ways" (21 : Nat) "GapLinks$Ways" "onward" "[I") ∈ UU := tb_1 (List.mem_of_getElem? (i := 56) rfl) rfl
theorem u1_57 : (Jvm.Cond.fieldLink "GapLinks$State" (176 : Nat) "GapLinks$Ways" "onward" "[I") ∈ UU := tb_1 (List.mem_of_getElem? (i := 57) rfl) rfl
theorem u1_58 : (Jvm.Cond.fieldLink "GapLinks$Ways" (24 : Nat) "GapLinks$Ways" "ahead" "[I") ∈ UU := tb_1 (List.mem_of_getElem? (i := 58) rfl) rfl
theorem u1_59 : (Jvm.Cond.fieldLink "GapLinks$Envelope" (68 : Nat) "GapLinks$Ways" "ahead" "[I") ∈ UU := tb_1 (List.mem_of_getElem? (i := 59) rfl) rfl
theorem u1_60 : (Jvm.Cond.laysFinal "GapLinks$Ways" "GapLinks$Ways" "ports" "[I") ∈ UU := tb_1 (List.mem_of_getElem? (i := 60) rfl) rfl
theorem u1_61 : (Jvm.Cond.soleField "GapLinks$Ways" "ports") ∈ UU := tb_1 (List.mem_of_getElem? (i := 61) rfl) rfl
theorem u1_62 : (Jvm.Cond.laysFinal "GapLinks$Ways" "GapLinks$Ways" "lengths" "[I") ∈ UU := tb_1 (List.mem_of_getElem? (i := 62) rfl) rfl
theorem u1_63 : (Jvm.Cond.soleField "GapLinks$Ways" "lengths") ∈ UU := tb_1 (List.mem_of_getElem? (i := 63) rfl) rfl
theorem u1_64 : (Jvm.Cond.laysFinal "GapLinks$Ways" "GapLinks$Ways" "users" "[I") ∈ UU := tb_1 (List.mem_of_getElem? (i := 64) rfl) rfl
theorem u1_65 : (Jvm.Cond.soleField "GapLinks$Ways" "users") ∈ UU := tb_1 (List.mem_of_getElem? (i := 65) rfl) rfl
theorem u1_66 : (Jvm.Cond.laysFinal "GapLinks$Ways" "GapLinks$Ways" "onward" "[I") ∈ UU := tb_1 (List.mem_of_getElem? (i := 66) rfl) rfl
theorem u1_67 : (Jvm.Cond.soleField "GapLinks$Ways" "onward") ∈ UU := tb_1 (List.mem_of_getElem? (i := 67) rfl) rfl
theorem u1_68 : (Jvm.Cond.laysFinal "GapLinks$Ways" "GapLinks$Ways" "ahead" "[I") ∈ UU := tb_1 (List.mem_of_getElem? (i := 68) rfl) rfl
theorem u1_69 : (Jvm.Cond.soleField "GapLinks$Ways" "ahead") ∈ UU := tb_1 (List.mem_of_getElem? (i := 69) rfl) rfl
theorem u1_70 : (Jvm.Cond.superclass "GapLinks$Ways" "java/lang/Object") ∈ UU := tb_1 (List.mem_of_getElem? (i := 70) rfl) rfl
theorem u1_71 : (Jvm.Cond.arrayClass Jvm.ClassFile.FieldType.byte) ∈ UU := tb_1 (List.mem_of_getElem? (i := 71) rfl) rfl
theorem u1_72 : (Jvm.Cond.arrayClass Jvm.ClassFile.FieldType.int) ∈ UU := tb_1 (List.mem_of_getElem? (i := 72) rfl) rfl
theorem u1_73 : (Jvm.Cond.arrayClass Jvm.ClassFile.FieldType.long) ∈ UU := tb_1 (List.mem_of_getElem? (i := 73) rfl) rfl
theorem u1_74 : (Jvm.Cond.fieldLink "GapLinks$Plan" (9 : Nat) "GapLinks$Plan" "switches" "I") ∈ UU := tb_1 (List.mem_of_getElem? (i := 74) rfl) rfl
theorem u1_75 : (Jvm.Cond.fieldLink "GapLinks$Reader" (102 : Nat) "GapLinks$Plan" "switches" "I") ∈ UU := tb_1 (List.mem_of_getElem? (i := 75) rfl) rfl
theorem u1_76 : (Jvm.Cond.fieldLink "GapLinks" (107 : Nat) "GapLinks$Plan" "switches" "I") ∈ UU := tb_1 (List.mem_of_getElem? (i := 76) rfl) rfl
theorem u1_77 : (Jvm.Cond.fieldLink "GapLinks$Plan" (15 : Nat) "GapLinks$Plan" "room" "I") ∈ UU := tb_1 (List.mem_of_getElem? (i := 77) rfl) rfl
theorem u1_78 : (Jvm.Cond.fieldLink "GapLinks$Reader" (107 : Nat) "GapLinks$Plan" "room" "I") ∈ UU := tb_1 (List.mem_of_getElem? (i := 78) rfl) rfl
theorem u1_79 : (Jvm.Cond.fieldLink "GapLinks" (110 : Nat) "GapLinks$Plan" "room" "I") ∈ UU := tb_1 (List.mem_of_getElem? (i := 79) rfl) rfl
theorem u1_80 : (Jvm.Cond.fieldLink "GapLinks$State" (188 : Nat) "GapLinks$Plan" "room" "I") ∈ UU := tb_1 (List.mem_of_getElem? (i := 80) rfl) rfl
theorem u1_81 : (Jvm.Cond.fieldLink "GapLinks$Plan" (18 : Nat) "GapLinks$Plan" "jitter" "I") ∈ UU := tb_1 (List.mem_of_getElem? (i := 81) rfl) rfl
theorem u1_82 : (Jvm.Cond.fieldLink "GapLinks$Envelope" (71 : Nat) "GapLinks$Plan" "jitter" "I") ∈ UU := tb_1 (List.mem_of_getElem? (i := 82) rfl) rfl
theorem u1_83 : (Jvm.Cond.fieldLink "GapLinks$Reader" (112 : Nat) "GapLinks$Plan" "jitter" "I") ∈ UU := tb_1 (List.mem_of_getElem? (i := 83) rfl) rfl
theorem u1_84 : (Jvm.Cond.fieldLink "GapLinks" (113 : Nat) "GapLinks$Plan" "jitter" "I") ∈ UU := tb_1 (List.mem_of_getElem? (i := 84) rfl) rfl
theorem u1_85 : (Jvm.Cond.fieldLink "GapLinks$Plan" (21 : Nat) "GapLinks$Plan" "window" "I") ∈ UU := tb_1 (List.mem_of_getElem? (i := 85) rfl) rfl
theorem u1_86 : (Jvm.Cond.fieldLink "GapLinks" (116 : Nat) "GapLinks$Plan" "window" "I") ∈ UU := tb_1 (List.mem_of_getElem? (i := 86) rfl) rfl
theorem u1_87 : (Jvm.Cond.fieldLink "GapLinks$Reader" (117 : Nat) "GapLinks$Plan" "window" "I") ∈ UU := tb_1 (List.mem_of_getElem? (i := 87) rfl) rfl
theorem u1_88 : (Jvm.Cond.fieldLink "GapLinks$Ears" (89 : Nat) "GapLinks$Plan" "window" "I") ∈ UU := tb_1 (List.mem_of_getElem? (i := 88) rfl) rfl
theorem u1_89 : (Jvm.Cond.fieldLink "GapLinks$Plan" (24 : Nat) "GapLinks$Plan" "skew" "I") ∈ UU := tb_1 (List.mem_of_getElem? (i := 89) rfl) rfl
theorem u1_90 : (Jvm.Cond.fieldLink "GapLinks" (119 : Nat) "GapLinks$Plan" "skew" "I") ∈ UU := tb_1 (List.mem_of_getElem? (i := 90) rfl) rfl
theorem u1_91 : (Jvm.Cond.fieldLink "GapLinks$Reader" (122 : Nat) "GapLinks$Plan" "skew" "I") ∈ UU := tb_1 (List.mem_of_getElem? (i := 91) rfl) rfl
theorem u1_92 : (Jvm.Cond.fieldLink "GapLinks$Ears" (84 : Nat) "GapLinks$Plan" "skew" "I") ∈ UU := tb_1 (List.mem_of_getElem? (i := 92) rfl) rfl
theorem u1_93 : (Jvm.Cond.fieldLink "GapLinks$Plan" (27 : Nat) "GapLinks$Plan" "ends" "I") ∈ UU := tb_1 (List.mem_of_getElem? (i := 93) rfl) rfl
theorem u1_94 : (Jvm.Cond.fieldLink "GapLinks" (122 : Nat) "GapLinks$Plan" "ends" "I") ∈ UU := tb_1 (List.mem_of_getElem? (i := 94) rfl) rfl
theorem u1_95 : (Jvm.Cond.fieldLink "GapLinks$Reader" (125 : Nat) "GapLinks$Plan" "ends" "I") ∈ UU := tb_1 (List.mem_of_getElem? (i := 95) rfl) rfl
theorem u1_96 : (Jvm.Cond.fieldLink "GapLinks$Plan" (30 : Nat) "GapLinks$Plan" "links" "I") ∈ UU := tb_1 (List.mem_of_getElem? (i := 96) rfl) rfl
theorem u1_97 : (Jvm.Cond.fieldLink "GapLinks$Ways" (33 : Nat) "GapLinks$Plan" "links" "I") ∈ UU := tb_1 (List.mem_of_getElem? (i := 97) rfl) rfl
theorem u1_98 : (Jvm.Cond.fieldLink "GapLinks$State" (63 : Nat) "GapLinks$Plan" "links" "I") ∈ UU := tb_1 (List.mem_of_getElem? (i := 98) rfl) rfl
theorem u1_99 : (Jvm.Cond.fieldLink "GapLinks$Envelope" (42 : Nat) "GapLinks$Plan" "links" "I") ∈ UU := tb_1 (List.mem_of_getElem? (i := 99) rfl) rfl
theorem u1_100 : (Jvm.Cond.fieldLink "GapLinks" (97 : Nat) "GapLinks$Plan" "links" "I") ∈ UU := tb_1 (List.mem_of_getElem? (i := 100) rfl) rfl
theorem u1_101 : (Jvm.Cond.fieldLink "GapLinks$Reader" (90 : Nat) "GapLinks$Plan" "links" "I") ∈ UU := tb_1 (List.mem_of_getElem? (i := 101) rfl) rfl
theorem u1_102 : (Jvm.Cond.fieldLink "GapLinks$Plan" (33 : Nat) "GapLinks$Plan" "endSwitch" "[I") ∈ UU := tb_1 (List.mem_of_getElem? (i := 102) rfl) rfl
theorem u1_103 : (Jvm.Cond.fieldLink "GapLinks$Ways" (53 : Nat) "GapLinks$Plan" "endSwitch" "[I") ∈ UU := tb_1 (List.mem_of_getElem? (i := 103) rfl) rfl
theorem u1_104 : (Jvm.Cond.fieldLink "GapLinks" (132 : Nat) "GapLinks$Plan" "endSwitch" "[I") ∈ UU := tb_1 (List.mem_of_getElem? (i := 104) rfl) rfl
theorem u1_105 : (Jvm.Cond.fieldLink "GapLinks$Reader" (142 : Nat) "GapLinks$Plan" "endSwitch" "[I") ∈ UU := tb_1 (List.mem_of_getElem? (i := 105) rfl) rfl
theorem u1_106 : (Jvm.Cond.fieldLink "GapLinks$Plan" (37 : Nat) "GapLinks$Plan" "endName" "[J") ∈ UU := tb_1 (List.mem_of_getElem? (i := 106) rfl) rfl
theorem u1_107 : (Jvm.Cond.fieldLink "GapLinks$Reader" (138 : Nat) "GapLinks$Plan" "endName" "[J") ∈ UU := tb_1 (List.mem_of_getElem? (i := 107) rfl) rfl
theorem u1_108 : (Jvm.Cond.fieldLink "GapLinks$Plan" (41 : Nat) "GapLinks$Plan" "linkName" "[J") ∈ UU := tb_1 (List.mem_of_getElem? (i := 108) rfl) rfl
theorem u1_109 : (Jvm.Cond.fieldLink "GapLinks$Reader" (161 : Nat) "GapLinks$Plan" "linkName" "[J") ∈ UU := tb_1 (List.mem_of_getElem? (i := 109) rfl) rfl
theorem u1_110 : (Jvm.Cond.fieldLink "GapLinks$Plan" (44 : Nat) "GapLinks$Plan" "from" "[I") ∈ UU := tb_1 (List.mem_of_getElem? (i := 110) rfl) rfl
theorem u1_111 : (Jvm.Cond.fieldLink "GapLinks$Ways" (56 : Nat) "GapLinks$Plan" "from" "[I") ∈ UU := tb_1 (List.mem_of_getElem? (i := 111) rfl) rfl
theorem u1_112 : (Jvm.Cond.fieldLink "GapLinks$State" (94 : Nat) "GapLinks$Plan" "from" "[I") ∈ UU := tb_1 (List.mem_of_getElem? (i := 112) rfl) rfl
theorem u1_113 : (Jvm.Cond.fieldLink "GapLinks" (139 : Nat) "GapLinks$Plan" "from" "[I") ∈ UU := tb_1 (List.mem_of_getElem? (i := 113) rfl) rfl
theorem u1_114 : (Jvm.Cond.fieldLink "GapLinks$Reader" (164 : Nat) "GapLinks$Plan" "from" "[I") ∈ UU := tb_1 (List.mem_of_getElem? (i := 114) rfl) rfl
theorem u1_115 : (Jvm.Cond.fieldLink "GapLinks$Plan" (47 : Nat) "GapLinks$Plan" "gap" "[I") ∈ UU := tb_1 (List.mem_of_getElem? (i := 115) rfl) rfl
theorem u1_116 : (Jvm.Cond.fieldLink "GapLinks$Envelope" (48 : Nat) "GapLinks$Plan" "gap" "[I") ∈ UU := tb_1 (List.mem_of_getElem? (i := 116) rfl) rfl
theorem u1_117 : (Jvm.Cond.fieldLink "GapLinks" (142 : Nat) "GapLinks$Plan" "gap" "[I") ∈ UU := tb_1 (List.mem_of_getElem? (i := 117) rfl) rfl
theorem u1_118 : (Jvm.Cond.fieldLink "GapLinks$Reader" (167 : Nat) "GapLinks$Plan" "gap" "[I") ∈ UU := tb_1 (List.mem_of_getElem? (i := 118) rfl) rfl
theorem u1_119 : (Jvm.Cond.fieldLink "GapLinks$State" (185 : Nat) "GapLinks$Plan" "gap" "[I") ∈ UU := tb_1 (List.mem_of_getElem? (i := 119) rfl) rfl
theorem u1_120 : (Jvm.Cond.fieldLink "GapLinks$Plan" (50 : Nat) "GapLinks$Plan" "length" "[I") ∈ UU := tb_1 (List.mem_of_getElem? (i := 120) rfl) rfl
theorem u1_121 : (Jvm.Cond.fieldLink "GapLinks$Envelope" (61 : Nat) "GapLinks$Plan" "length" "[I") ∈ UU := tb_1 (List.mem_of_getElem? (i := 121) rfl) rfl
theorem u1_122 : (Jvm.Cond.fieldLink "GapLinks" (145 : Nat) "GapLinks$Plan" "length" "[I") ∈ UU := tb_1 (List.mem_of_getElem? (i := 122) rfl) rfl
theorem u1_123 : (Jvm.Cond.fieldLink "GapLinks$Reader" (170 : Nat) "GapLinks$Plan" "length" "[I") ∈ UU := tb_1 (List.mem_of_getElem? (i := 123) rfl) rfl
theorem u1_124 : (Jvm.Cond.fieldLink "GapLinks$State" (132 : Nat) "GapLinks$Plan" "length" "[I") ∈ UU := tb_1 (List.mem_of_getElem? (i := 124) rfl) rfl
theorem u1_125 : (Jvm.Cond.fieldLink "GapLinks$Plan" (53 : Nat) "GapLinks$Plan" "receivers" "[I") ∈ UU := tb_1 (List.mem_of_getElem? (i := 125) rfl) rfl
theorem u1_126 : (Jvm.Cond.fieldLink "GapLinks$Ways" (39 : Nat) "GapLinks$Plan" "receivers" "[I") ∈ UU := tb_1 (List.mem_of_getElem? (i := 126) rfl) rfl
theorem u1_127 : (Jvm.Cond.fieldLink "GapLinks" (148 : Nat) "GapLinks$Plan" "receivers" "[I") ∈ UU := tb_1 (List.mem_of_getElem? (i := 127) rfl) rfl
theorem u1_128 : (Jvm.Cond.fieldLink "GapLinks$Reader" (176 : Nat) "GapLinks$Plan" "receivers" "[I") ∈ UU := tb_1 (List.mem_of_getElem? (i := 128) rfl) rfl
theorem u1_129 : (Jvm.Cond.fieldLink "GapLinks$Plan" (56 : Nat) "GapLinks$Plan" "receiverEnd" "[I") ∈ UU := tb_1 (List.mem_of_getElem? (i := 129) rfl) rfl
theorem u1_130 : (Jvm.Cond.fieldLink "GapLinks$Ways" (50 : Nat) "GapLinks$Plan" "receiverEnd" "[I") ∈ UU := tb_1 (List.mem_of_getElem? (i := 130) rfl) rfl
theorem u1_131 : (Jvm.Cond.fieldLink "GapLinks" (155 : Nat) "GapLinks$Plan" "receiverEnd" "[I") ∈ UU := tb_1 (List.mem_of_getElem? (i := 131) rfl) rfl
theorem u1_132 : (Jvm.Cond.fieldLink "GapLinks$Reader" (182 : Nat) "GapLinks$Plan" "receiverEnd" "[I") ∈ UU := tb_1 (List.mem_of_getElem? (i := 132) rfl) rfl
theorem u1_133 : (Jvm.Cond.fieldLink "GapLinks$Plan" (62 : Nat) "GapLinks$Plan" "ways" "LGapLinks$Ways;") ∈ UU := tb_1 (List.mem_of_getElem? (i := 133) rfl) rfl
theorem u1_134 : (Jvm.Cond.fieldLink "GapLinks$Envelope" (51 : Nat) "GapLinks$Plan" "ways" "LGapLinks$Ways;") ∈ UU := tb_1 (List.mem_of_getElem? (i := 134) rfl) rfl
theorem u1_135 : (Jvm.Cond.fieldLink "GapLinks" (81 : Nat) "GapLinks$Plan" "ways" "LGapLinks$Ways;") ∈ UU := tb_1 (List.mem_of_getElem? (i := 135) rfl) rfl
theorem u1_136 : (Jvm.Cond.fieldLink "GapLinks$State" (172 : Nat) "GapLinks$Plan" "ways" "LGapLinks$Ways;") ∈ UU := tb_1 (List.mem_of_getElem? (i := 136) rfl) rfl
theorem u1_137 : (Jvm.Cond.lays "GapLinks$Plan" "GapLinks$Plan" "switches" "I") ∈ UU := tb_1 (List.mem_of_getElem? (i := 137) rfl) rfl
theorem u1_138 : (Jvm.Cond.soleField "GapLinks$Plan" "switches") ∈ UU := tb_1 (List.mem_of_getElem? (i := 138) rfl) rfl
theorem u1_139 : (Jvm.Cond.lays "GapLinks$Plan" "GapLinks$Plan" "room" "I") ∈ UU := tb_1 (List.mem_of_getElem? (i := 139) rfl) rfl
theorem u1_140 : (Jvm.Cond.soleField "GapLinks$Plan" "room") ∈ UU := tb_1 (List.mem_of_getElem? (i := 140) rfl) rfl
theorem u1_141 : (Jvm.Cond.lays "GapLinks$Plan" "GapLinks$Plan" "jitter" "I") ∈ UU := tb_1 (List.mem_of_getElem? (i := 141) rfl) rfl
theorem u1_142 : (Jvm.Cond.soleField "GapLinks$Plan" "jitter") ∈ UU := tb_1 (List.mem_of_getElem? (i := 142) rfl) rfl
theorem u1_143 : (Jvm.Cond.lays "GapLinks$Plan" "GapLinks$Plan" "window" "I") ∈ UU := tb_1 (List.mem_of_getElem? (i := 143) rfl) rfl
theorem u1_144 : (Jvm.Cond.soleField "GapLinks$Plan" "window") ∈ UU := tb_1 (List.mem_of_getElem? (i := 144) rfl) rfl
theorem u1_145 : (Jvm.Cond.lays "GapLinks$Plan" "GapLinks$Plan" "skew" "I") ∈ UU := tb_1 (List.mem_of_getElem? (i := 145) rfl) rfl
theorem u1_146 : (Jvm.Cond.soleField "GapLinks$Plan" "skew") ∈ UU := tb_1 (List.mem_of_getElem? (i := 146) rfl) rfl
theorem u1_147 : (Jvm.Cond.lays "GapLinks$Plan" "GapLinks$Plan" "ends" "I") ∈ UU := tb_1 (List.mem_of_getElem? (i := 147) rfl) rfl
theorem u1_148 : (Jvm.Cond.soleField "GapLinks$Plan" "ends") ∈ UU := tb_1 (List.mem_of_getElem? (i := 148) rfl) rfl
theorem u1_149 : (Jvm.Cond.lays "GapLinks$Plan" "GapLinks$Plan" "links" "I") ∈ UU := tb_1 (List.mem_of_getElem? (i := 149) rfl) rfl
theorem u1_150 : (Jvm.Cond.soleField "GapLinks$Plan" "links") ∈ UU := tb_1 (List.mem_of_getElem? (i := 150) rfl) rfl
theorem u1_151 : (Jvm.Cond.laysFinal "GapLinks$Plan" "GapLinks$Plan" "endSwitch" "[I") ∈ UU := tb_1 (List.mem_of_getElem? (i := 151) rfl) rfl
theorem u1_152 : (Jvm.Cond.soleField "GapLinks$Plan" "endSwitch") ∈ UU := tb_1 (List.mem_of_getElem? (i := 152) rfl) rfl
theorem u1_153 : (Jvm.Cond.laysFinal "GapLinks$Plan" "GapLinks$Plan" "endName" "[J") ∈ UU := tb_1 (List.mem_of_getElem? (i := 153) rfl) rfl
theorem u1_154 : (Jvm.Cond.soleField "GapLinks$Plan" "endName") ∈ UU := tb_1 (List.mem_of_getElem? (i := 154) rfl) rfl
theorem u1_155 : (Jvm.Cond.laysFinal "GapLinks$Plan" "GapLinks$Plan" "linkName" "[J") ∈ UU := tb_1 (List.mem_of_getElem? (i := 155) rfl) rfl
theorem u1_156 : (Jvm.Cond.soleField "GapLinks$Plan" "linkName") ∈ UU := tb_1 (List.mem_of_getElem? (i := 156) rfl) rfl
theorem u1_157 : (Jvm.Cond.laysFinal "GapLinks$Plan" "GapLinks$Plan" "from" "[I") ∈ UU := tb_1 (List.mem_of_getElem? (i := 157) rfl) rfl
theorem u1_158 : (Jvm.Cond.soleField "GapLinks$Plan" "from") ∈ UU := tb_1 (List.mem_of_getElem? (i := 158) rfl) rfl
theorem u1_159 : (Jvm.Cond.laysFinal "GapLinks$Plan" "GapLinks$Plan" "gap" "[I") ∈ UU := tb_1 (List.mem_of_getElem? (i := 159) rfl) rfl
theorem u1_160 : (Jvm.Cond.soleField "GapLinks$Plan" "gap") ∈ UU := tb_1 (List.mem_of_getElem? (i := 160) rfl) rfl
theorem u1_161 : (Jvm.Cond.laysFinal "GapLinks$Plan" "GapLinks$Plan" "length" "[I") ∈ UU := tb_1 (List.mem_of_getElem? (i := 161) rfl) rfl
theorem u1_162 : (Jvm.Cond.soleField "GapLinks$Plan" "length") ∈ UU := tb_1 (List.mem_of_getElem? (i := 162) rfl) rfl
theorem u1_163 : (Jvm.Cond.laysFinal "GapLinks$Plan" "GapLinks$Plan" "receivers" "[I") ∈ UU := tb_1 (List.mem_of_getElem? (i := 163) rfl) rfl
theorem u1_164 : (Jvm.Cond.soleField "GapLinks$Plan" "receivers") ∈ UU := tb_1 (List.mem_of_getElem? (i := 164) rfl) rfl
theorem u1_165 : (Jvm.Cond.laysFinal "GapLinks$Plan" "GapLinks$Plan" "receiverEnd" "[I") ∈ UU := tb_1 (List.mem_of_getElem? (i := 165) rfl) rfl
theorem u1_166 : (Jvm.Cond.soleField "GapLinks$Plan" "receiverEnd") ∈ UU := tb_1 (List.mem_of_getElem? (i := 166) rfl) rfl
theorem u1_167 : (Jvm.Cond.laysFinal "GapLinks$Plan" "GapLinks$Plan" "ways" "LGapLinks$Ways;") ∈ UU := tb_1 (List.mem_of_getElem? (i := 167) rfl) rfl
theorem u1_168 : (Jvm.Cond.soleField "GapLinks$Plan" "ways") ∈ UU := tb_1 (List.mem_of_getElem? (i := 168) rfl) rfl
theorem u1_169 : (Jvm.Cond.superclass "GapLinks$Plan" "java/lang/Object") ∈ UU := tb_1 (List.mem_of_getElem? (i := 169) rfl) rfl
theorem u1_170 : (Jvm.Cond.fieldLink "GapLinks$Reader" (9 : Nat) "GapLinks$Reader" "tape" "[B") ∈ UU := tb_1 (List.mem_of_getElem? (i := 170) rfl) rfl
theorem u1_171 : (Jvm.Cond.fieldLink "GapLinks$Reader" (15 : Nat) "GapLinks$Reader" "fed" "I") ∈ UU := tb_1 (List.mem_of_getElem? (i := 171) rfl) rfl
theorem u1_172 : (Jvm.Cond.fieldLink "GapLinks" (57 : Nat) "GapLinks$Reader" "fed" "I") ∈ UU := tb_1 (List.mem_of_getElem? (i := 172) rfl) rfl
theorem u1_173 : (Jvm.Cond.fieldLink "GapLinks$Reader" (22 : Nat) "GapLinks$Reader" "draft" "LGapLinks$Plan;") ∈ UU := tb_1 (List.mem_of_getElem? (i := 173) rfl) rfl
theorem u1_174 : (Jvm.Cond.fieldLink "GapLinks$Reader" (26 : Nat) "GapLinks$Reader" "textLength" "I") ∈ UU := tb_1 (List.mem_of_getElem? (i := 174) rfl) rfl
theorem u1_175 : (Jvm.Cond.fieldLink "GapLinks$Reader" (29 : Nat) "GapLinks$Reader" "start" "I") ∈ UU := tb_1 (List.mem_of_getElem? (i := 175) rfl) rfl
theorem u1_176 : (Jvm.Cond.fieldLink "GapLinks$Reader" (32 : Nat) "GapLinks$Reader" "behind" "I") ∈ UU := tb_1 (List.mem_of_getElem? (i := 176) rfl) rfl
theorem u1_177 : (Jvm.Cond.fieldLink "GapLinks$Reader" (35 : Nat) "GapLinks$Reader" "kind" "I") ∈ UU := tb_1 (List.mem_of_getElem? (i := 177) rfl) rfl
theorem u1_178 : (Jvm.Cond.fieldLink "GapLinks$Reader" (38 : Nat) "GapLinks$Reader" "word" "J") ∈ UU := tb_1 (List.mem_of_getElem? (i := 178) rfl) rfl
theorem u1_179 : (Jvm.Cond.fieldLink "GapLinks$Reader" (42 : Nat) "GapLinks$Reader" "whole" "I") ∈ UU := tb_1 (List.mem_of_getElem? (i := 179) rfl) rfl
theorem u1_180 : (Jvm.Cond.fieldLink "GapLinks$Reader" (45 : Nat) "GapLinks$Reader" "busTold" "Z") ∈ UU := tb_1 (List.mem_of_getElem? (i := 180) rfl) rfl
theorem u1_181 : (Jvm.Cond.fieldLink "GapLinks$Reader" (49 : Nat) "GapLinks$Reader" "fault" "I") ∈ UU := tb_1 (List.mem_of_getElem? (i := 181) rfl) rfl
theorem u1_182 : (Jvm.Cond.fieldLink "GapLinks" (71 : Nat) "GapLinks$Reader" "fault" "I") ∈ UU := tb_1 (List.mem_of_getElem? (i := 182) rfl) rfl
theorem u1_183 : (Jvm.Cond.fieldLink "GapLinks$Reader" (52 : Nat) "GapLinks$Reader" "place" "I") ∈ UU := tb_1 (List.mem_of_getElem? (i := 183) rfl) rfl
theorem u1_184 : (Jvm.Cond.fieldLink "GapLinks" (74 : Nat) "GapLinks$Reader" "place" "I") ∈ UU := tb_1 (List.mem_of_getElem? (i := 184) rfl) rfl
theorem u1_185 : (Jvm.Cond.laysFinal "GapLinks$Reader" "GapLinks$Reader" "tape" "[B") ∈ UU := tb_1 (List.mem_of_getElem? (i := 185) rfl) rfl
theorem u1_186 : (Jvm.Cond.soleField "GapLinks$Reader" "tape") ∈ UU := tb_1 (List.mem_of_getElem? (i := 186) rfl) rfl
theorem u1_187 : (Jvm.Cond.lays "GapLinks$Reader" "GapLinks$Reader" "fed" "I") ∈ UU := tb_1 (List.mem_of_getElem? (i := 187) rfl) rfl
theorem u1_188 : (Jvm.Cond.soleField "GapLinks$Reader" "fed") ∈ UU := tb_1 (List.mem_of_getElem? (i := 188) rfl) rfl
theorem u1_189 : (Jvm.Cond.lays "GapLinks$Reader" "GapLinks$Reader" "draft" "LGapLinks$Plan;") ∈ UU := tb_1 (List.mem_of_getElem? (i := 189) rfl) rfl
theorem u1_190 : (Jvm.Cond.soleField "GapLinks$Reader" "draft") ∈ UU := tb_1 (List.mem_of_getElem? (i := 190) rfl) rfl
theorem u1_191 : (Jvm.Cond.lays "GapLinks$Reader" "GapLinks$Reader" "textLength" "I") ∈ UU := tb_1 (List.mem_of_getElem? (i := 191) rfl) rfl
theorem u1_192 : (Jvm.Cond.soleField "GapLinks$Reader" "textLength") ∈ UU := tb_1 (List.mem_of_getElem? (i := 192) rfl) rfl
theorem u1_193 : (Jvm.Cond.lays "GapLinks$Reader" "GapLinks$Reader" "start" "I") ∈ UU := tb_1 (List.mem_of_getElem? (i := 193) rfl) rfl
theorem u1_194 : (Jvm.Cond.soleField "GapLinks$Reader" "start") ∈ UU := tb_1 (List.mem_of_getElem? (i := 194) rfl) rfl
theorem u1_195 : (Jvm.Cond.lays "GapLinks$Reader" "GapLinks$Reader" "behind" "I") ∈ UU := tb_1 (List.mem_of_getElem? (i := 195) rfl) rfl
theorem u1_196 : (Jvm.Cond.soleField "GapLinks$Reader" "behind") ∈ UU := tb_1 (List.mem_of_getElem? (i := 196) rfl) rfl
theorem u1_197 : (Jvm.Cond.lays "GapLinks$Reader" "GapLinks$Reader" "kind" "I") ∈ UU := tb_1 (List.mem_of_getElem? (i := 197) rfl) rfl
theorem u1_198 : (Jvm.Cond.soleField "GapLinks$Reader" "kind") ∈ UU := tb_1 (List.mem_of_getElem? (i := 198) rfl) rfl
theorem u1_199 : (Jvm.Cond.lays "GapLinks$Reader" "GapLinks$Reader" "word" "J") ∈ UU := tb_1 (List.mem_of_getElem? (i := 199) rfl) rfl
theorem u1_200 : (Jvm.Cond.soleField "GapLinks$Reader" "word") ∈ UU := tb_1 (List.mem_of_getElem? (i := 200) rfl) rfl
theorem u1_201 : (Jvm.Cond.lays "GapLinks$Reader" "GapLinks$Reader" "whole" "I") ∈ UU := tb_1 (List.mem_of_getElem? (i := 201) rfl) rfl
theorem u1_202 : (Jvm.Cond.soleField "GapLinks$Reader" "whole") ∈ UU := tb_1 (List.mem_of_getElem? (i := 202) rfl) rfl
theorem u1_203 : (Jvm.Cond.lays "GapLinks$Reader" "GapLinks$Reader" "busTold" "Z") ∈ UU := tb_1 (List.mem_of_getElem? (i := 203) rfl) rfl
theorem u1_204 : (Jvm.Cond.soleField "GapLinks$Reader" "busTold") ∈ UU := tb_1 (List.mem_of_getElem? (i := 204) rfl) rfl
theorem u1_205 : (Jvm.Cond.lays "GapLinks$Reader" "GapLinks$Reader" "fault" "I") ∈ UU := tb_1 (List.mem_of_getElem? (i := 205) rfl) rfl
theorem u1_206 : (Jvm.Cond.soleField "GapLinks$Reader" "fault") ∈ UU := tb_1 (List.mem_of_getElem? (i := 206) rfl) rfl
theorem u1_207 : (Jvm.Cond.lays "GapLinks$Reader" "GapLinks$Reader" "place" "I") ∈ UU := tb_1 (List.mem_of_getElem? (i := 207) rfl) rfl
theorem u1_208 : (Jvm.Cond.soleField "GapLinks$Reader" "place") ∈ UU := tb_1 (List.mem_of_getElem? (i := 208) rfl) rfl
theorem u1_209 : (Jvm.Cond.superclass "GapLinks$Reader" "java/lang/Object") ∈ UU := tb_1 (List.mem_of_getElem? (i := 209) rfl) rfl
theorem u1_210 : (Jvm.Cond.classLink "GapLinks" (16 : Nat) "GapLinks$Plan") ∈ UU := tb_1 (List.mem_of_getElem? (i := 210) rfl) rfl
theorem u1_212 : (Jvm.Cond.classLink "GapLinks" (23 : Nat) "GapLinks$Envelope") ∈ UU := tb_1 (List.mem_of_getElem? (i := 212) rfl) rfl
theorem u1_213 : (Jvm.Cond.instantiable "GapLinks$Envelope" (4 : Nat)) ∈ UU := tb_1 (List.mem_of_getElem? (i := 213) rfl) rfl
theorem u1_215 : (Jvm.Cond.instanceMethod ({ cls := "GapLinks$Envelope", name := "<init>", desc := "()V" } : Jvm.MethodName)) ∈ UU := tb_1 (List.mem_of_getElem? (i := 215) rfl) rfl
theorem u1_216 : (Jvm.Cond.code ({ cls := "GapLinks$Envelope", name := "<init>", desc := "()V" } : Jvm.MethodName) prog_3_method_1_code (1 : Nat) (Option.none : Option Jvm.ClassFile.FieldType)) ∈ UU := tb_1 (List.mem_of_getElem? (i := 216) rfl) rfl
theorem u1_217 : (Jvm.Cond.methodLink "GapLinks$Envelope" (5 : Nat) ({ cls := "java/lang/Object", name := "<init>", desc := "()V" } : Jvm.MethodName)) ∈ UU := tb_1 (List.mem_of_getElem? (i := 217) rfl) rfl
theorem u1_218 : (Jvm.Cond.fieldLink "GapLinks$Envelope" (11 : Nat) "GapLinks$Envelope" "overloaded" "Z") ∈ UU := tb_1 (List.mem_of_getElem? (i := 218) rfl) rfl
theorem u1_219 : (Jvm.Cond.fieldLink "GapLinks" (264 : Nat) "GapLinks$Envelope" "overloaded" "Z") ∈ UU := tb_1 (List.mem_of_getElem? (i := 219) rfl) rfl
theorem u1_220 : (Jvm.Cond.fieldLink "GapLinks$Envelope" (15 : Nat) "GapLinks$Envelope" "load" "[I") ∈ UU := tb_1 (List.mem_of_getElem? (i := 220) rfl) rfl
theorem u1_221 : (Jvm.Cond.fieldLink "GapLinks$Envelope" (19 : Nat) "GapLinks$Envelope" "delay" "[J") ∈ UU := tb_1 (List.mem_of_getElem? (i := 221) rfl) rfl
theorem u1_222 : (Jvm.Cond.fieldLink "GapLinks" (267 : Nat) "GapLinks$Envelope" "delay" "[J") ∈ UU := tb_1 (List.mem_of_getElem? (i := 222) rfl) rfl
theorem u1_223 : (Jvm.Cond.fieldLink "GapLinks$Envelope" (23 : Nat) "GapLinks$Envelope" "burst" "[J") ∈ UU := tb_1 (List.mem_of_getElem? (i := 223) rfl) rfl
theorem u1_224 : (Jvm.Cond.fieldLink "GapLinks" (271 : Nat) "GapLinks$Envelope" "burst" "[J") ∈ UU := tb_1 (List.mem_of_getElem? (i := 224) rfl) rfl
theorem u1_225 : (Jvm.Cond.lays "GapLinks$Envelope" "GapLinks$Envelope" "overloaded" "Z") ∈ UU := tb_1 (List.mem_of_getElem? (i := 225) rfl) rfl
theorem u1_226 : (Jvm.Cond.soleField "GapLinks$Envelope" "overloaded") ∈ UU := tb_1 (List.mem_of_getElem? (i := 226) rfl) rfl
theorem u1_227 : (Jvm.Cond.laysFinal "GapLinks$Envelope" "GapLinks$Envelope" "load" "[I") ∈ UU := tb_1 (List.mem_of_getElem? (i := 227) rfl) rfl
theorem u1_228 : (Jvm.Cond.soleField "GapLinks$Envelope" "load") ∈ UU := tb_1 (List.mem_of_getElem? (i := 228) rfl) rfl
theorem u1_229 : (Jvm.Cond.laysFinal "GapLinks$Envelope" "GapLinks$Envelope" "delay" "[J") ∈ UU := tb_1 (List.mem_of_getElem? (i := 229) rfl) rfl
theorem u1_230 : (Jvm.Cond.soleField "GapLinks$Envelope" "delay") ∈ UU := tb_1 (List.mem_of_getElem? (i := 230) rfl) rfl
theorem u1_231 : (Jvm.Cond.laysFinal "GapLinks$Envelope" "GapLinks$Envelope" "burst" "[J") ∈ UU := tb_1 (List.mem_of_getElem? (i := 231) rfl) rfl
theorem u1_232 : (Jvm.Cond.soleField "GapLinks$Envelope" "burst") ∈ UU := tb_1 (List.mem_of_getElem? (i := 232) rfl) rfl
theorem u1_233 : (Jvm.Cond.superclass "GapLinks$Envelope" "java/lang/Object") ∈ UU := tb_1 (List.mem_of_getElem? (i := 233) rfl) rfl
theorem u1_234 : (Jvm.Cond.classLink "GapLinks" (30 : Nat) "GapLinks$State") ∈ UU := tb_1 (List.mem_of_getElem? (i := 234) rfl) rfl
theorem u1_235 : (Jvm.Cond.instantiable "GapLinks$State" (12 : Nat)) ∈ UU := tb_1 (List.mem_of_getElem? (i := 235) rfl) rfl
theorem u1_237 : (Jvm.Cond.instanceMethod ({ cls := "GapLinks$State", name := "<init>", desc := "()V" } : Jvm.MethodName)) ∈ UU := tb_1 (List.mem_of_getElem? (i := 237) rfl) rfl
theorem u1_238 : (Jvm.Cond.code ({ cls := "GapLinks$State", name := "<init>", desc := "()V" } : Jvm.MethodName) prog_7_method_1_code (1 : Nat) (Option.none : Option Jvm.ClassFile.FieldType)) ∈ UU := tb_1 (List.mem_of_getElem? (i := 238) rfl) rfl
theorem u1_239 : (Jvm.Cond.methodLink "GapLinks$State" (3 : Nat) ({ cls := "java/lang/Object", name := "<init>", desc := "()V" } : Jvm.MethodName)) ∈ UU := tb_1 (List.mem_of_getElem? (i := 239) rfl) rfl
theorem u2_0 : (Jvm.Cond.classLink "GapLinks$State" (43 : Nat) "GapLinks$Ports") ∈ UU := tb_2 (List.mem_of_getElem? (i := 0) rfl) rfl
theorem u2_1 : (Jvm.Cond.instantiable "GapLinks$Ports" (8 : Nat)) ∈ UU := tb_2 (List.mem_of_getElem? (i := 1) rfl) rfl
theorem u2_3 : (Jvm.Cond.instanceMethod ({ cls := "GapLinks$Ports", name := "<init>", desc := "()V" } : Jvm.MethodName)) ∈ UU := tb_2 (List.mem_of_getElem? (i := 3) rfl) rfl
theorem u2_4 : (Jvm.Cond.code ({ cls := "GapLinks$Ports", name := "<init>", desc := "()V" } : Jvm.MethodName) prog_5_method_1_code (1 : Nat) (Option.none : Option Jvm.ClassFile.FieldType)) ∈ UU := tb_2 (List.mem_of_getElem? (i := 4) rfl) rfl
theorem u2_5 : (Jvm.Cond.methodLink "GapLinks$Ports" (3 : Nat) ({ cls := "java/lang/Object", name := "<init>", desc := "()V" } : Jvm.MethodName)) ∈ UU := tb_2 (List.mem_of_getElem? (i := 5) rfl) rfl
theorem u2_6 : (Jvm.Cond.fieldLink "GapLinks$Ports" (9 : Nat) "GapLinks$Ports" "frames" "I") ∈ UU := tb_2 (List.mem_of_getElem? (i := 6) rfl) rfl
theorem u2_7 : (Jvm.Cond.fieldLink "GapLinks$State" (87 : Nat) "GapLinks$Ports" "frames" "I") ∈ UU := tb_2 (List.mem_of_getElem? (i := 7) rfl) rfl
theorem u2_8 : (Jvm.Cond.fieldLink "GapLinks" (335 : Nat) "GapLinks$Ports" "frames" "I") ∈ UU := tb_2 (List.mem_of_getElem? (i := 8) rfl) rfl
theorem u2_9 : (Jvm.Cond.fieldLink "GapLinks$Ports" (15 : Nat) "GapLinks$Ports" "count" "[I") ∈ UU := tb_2 (List.mem_of_getElem? (i := 9) rfl) rfl
theorem u2_10 : (Jvm.Cond.fieldLink "GapLinks" (204 : Nat) "GapLinks$Ports" "count" "[I") ∈ UU := tb_2 (List.mem_of_getElem? (i := 10) rfl) rfl
theorem u2_11 : (Jvm.Cond.fieldLink "GapLinks$State" (201 : Nat) "GapLinks$Ports" "count" "[I") ∈ UU := tb_2 (List.mem_of_getElem? (i := 11) rfl) rfl
theorem u2_12 : (Jvm.Cond.fieldLink "GapLinks$Ports" (19 : Nat) "GapLinks$Ports" "first" "[I") ∈ UU := tb_2 (List.mem_of_getElem? (i := 12) rfl) rfl
theorem u2_13 : (Jvm.Cond.fieldLink "GapLinks$Ports" (22 : Nat) "GapLinks$Ports" "doneAt" "[I") ∈ UU := tb_2 (List.mem_of_getElem? (i := 13) rfl) rfl
theorem u2_14 : (Jvm.Cond.fieldLink "GapLinks$State" (135 : Nat) "GapLinks$Ports" "doneAt" "[I") ∈ UU := tb_2 (List.mem_of_getElem? (i := 14) rfl) rfl
theorem u2_15 : (Jvm.Cond.fieldLink "GapLinks" (212 : Nat) "GapLinks$Ports" "doneAt" "[I") ∈ UU := tb_2 (List.mem_of_getElem? (i := 15) rfl) rfl
theorem u2_16 : (Jvm.Cond.fieldLink "GapLinks$Ports" (25 : Nat) "GapLinks$Ports" "most" "[I") ∈ UU := tb_2 (List.mem_of_getElem? (i := 16) rfl) rfl
theorem u2_17 : (Jvm.Cond.fieldLink "GapLinks" (215 : Nat) "GapLinks$Ports" "most" "[I") ∈ UU := tb_2 (List.mem_of_getElem? (i := 17) rfl) rfl
theorem u2_18 : (Jvm.Cond.fieldLink "GapLinks$Ports" (28 : Nat) "GapLinks$Ports" "link" "[I") ∈ UU := tb_2 (List.mem_of_getElem? (i := 18) rfl) rfl
theorem u2_19 : (Jvm.Cond.fieldLink "GapLinks$State" (156 : Nat) "GapLinks$Ports" "link" "[I") ∈ UU := tb_2 (List.mem_of_getElem? (i := 19) rfl) rfl
theorem u2_20 : (Jvm.Cond.fieldLink "GapLinks" (221 : Nat) "GapLinks$Ports" "link" "[I") ∈ UU := tb_2 (List.mem_of_getElem? (i := 20) rfl) rfl
theorem u2_21 : (Jvm.Cond.fieldLink "GapLinks$Ports" (31 : Nat) "GapLinks$Ports" "number" "[I") ∈ UU := tb_2 (List.mem_of_getElem? (i := 21) rfl) rfl
theorem u2_22 : (Jvm.Cond.fieldLink "GapLinks$State" (162 : Nat) "GapLinks$Ports" "number" "[I") ∈ UU := tb_2 (List.mem_of_getElem? (i := 22) rfl) rfl
theorem u2_23 : (Jvm.Cond.fieldLink "GapLinks" (224 : Nat) "GapLinks$Ports" "number" "[I") ∈ UU := tb_2 (List.mem_of_getElem? (i := 23) rfl) rfl
theorem u2_24 : (Jvm.Cond.fieldLink "GapLinks$Ports" (34 : Nat) "GapLinks$Ports" "born" "[I") ∈ UU := tb_2 (List.mem_of_getElem? (i := 24) rfl) rfl
theorem u2_25 : (Jvm.Cond.fieldLink "GapLinks$State" (163 : Nat) "GapLinks$Ports" "born" "[I") ∈ UU := tb_2 (List.mem_of_getElem? (i := 25) rfl) rfl
theorem u2_26 : (Jvm.Cond.fieldLink "GapLinks" (225 : Nat) "GapLinks$Ports" "born" "[I") ∈ UU := tb_2 (List.mem_of_getElem? (i := 26) rfl) rfl
theorem u2_27 : (Jvm.Cond.lays "GapLinks$Ports" "GapLinks$Ports" "frames" "I") ∈ UU := tb_2 (List.mem_of_getElem? (i := 27) rfl) rfl
theorem u2_28 : (Jvm.Cond.soleField "GapLinks$Ports" "frames") ∈ UU := tb_2 (List.mem_of_getElem? (i := 28) rfl) rfl
theorem u2_29 : (Jvm.Cond.laysFinal "GapLinks$Ports" "GapLinks$Ports" "count" "[I") ∈ UU := tb_2 (List.mem_of_getElem? (i := 29) rfl) rfl
theorem u2_30 : (Jvm.Cond.soleField "GapLinks$Ports" "count") ∈ UU := tb_2 (List.mem_of_getElem? (i := 30) rfl) rfl
theorem u2_31 : (Jvm.Cond.laysFinal "GapLinks$Ports" "GapLinks$Ports" "first" "[I") ∈ UU := tb_2 (List.mem_of_getElem? (i := 31) rfl) rfl
theorem u2_32 : (Jvm.Cond.soleField "GapLinks$Ports" "first") ∈ UU := tb_2 (List.mem_of_getElem? (i := 32) rfl) rfl
theorem u2_33 : (Jvm.Cond.laysFinal "GapLinks$Ports" "GapLinks$Ports" "doneAt" "[I") ∈ UU := tb_2 (List.mem_of_getElem? (i := 33) rfl) rfl
theorem u2_34 : (Jvm.Cond.soleField "GapLinks$Ports" "doneAt") ∈ UU := tb_2 (List.mem_of_getElem? (i := 34) rfl) rfl
theorem u2_35 : (Jvm.Cond.laysFinal "GapLinks$Ports" "GapLinks$Ports" "most" "[I") ∈ UU := tb_2 (List.mem_of_getElem? (i := 35) rfl) rfl
theorem u2_36 : (Jvm.Cond.soleField "GapLinks$Ports" "most") ∈ UU := tb_2 (List.mem_of_getElem? (i := 36) rfl) rfl
theorem u2_37 : (Jvm.Cond.laysFinal "GapLinks$Ports" "GapLinks$Ports" "link" "[I") ∈ UU := tb_2 (List.mem_of_getElem? (i := 37) rfl) rfl
theorem u2_38 : (Jvm.Cond.soleField "GapLinks$Ports" "link") ∈ UU := tb_2 (List.mem_of_getElem? (i := 38) rfl) rfl
theorem u2_39 : (Jvm.Cond.laysFinal "GapLinks$Ports" "GapLinks$Ports" "number" "[I") ∈ UU := tb_2 (List.mem_of_getElem? (i := 39) rfl) rfl
theorem u2_40 : (Jvm.Cond.soleField "GapLinks$Ports" "number") ∈ UU := tb_2 (List.mem_of_getElem? (i := 40) rfl) rfl
theorem u2_41 : (Jvm.Cond.laysFinal "GapLinks$Ports" "GapLinks$Ports" "born" "[I") ∈ UU := tb_2 (List.mem_of_getElem? (i := 41) rfl) rfl
theorem u2_42 : (Jvm.Cond.soleField "GapLinks$Ports" "born") ∈ UU := tb_2 (List.mem_of_getElem? (i := 42) rfl) rfl
theorem u2_43 : (Jvm.Cond.superclass "GapLinks$Ports" "java/lang/Object") ∈ UU := tb_2 (List.mem_of_getElem? (i := 43) rfl) rfl
theorem u2_44 : (Jvm.Cond.classLink "GapLinks$State" (50 : Nat) "GapLinks$Ears") ∈ UU := tb_2 (List.mem_of_getElem? (i := 44) rfl) rfl
theorem u2_45 : (Jvm.Cond.instantiable "GapLinks$Ears" (11 : Nat)) ∈ UU := tb_2 (List.mem_of_getElem? (i := 45) rfl) rfl
theorem u2_47 : (Jvm.Cond.instanceMethod ({ cls := "GapLinks$Ears", name := "<init>", desc := "()V" } : Jvm.MethodName)) ∈ UU := tb_2 (List.mem_of_getElem? (i := 47) rfl) rfl
theorem u2_48 : (Jvm.Cond.code ({ cls := "GapLinks$Ears", name := "<init>", desc := "()V" } : Jvm.MethodName) prog_2_method_1_code (1 : Nat) (Option.none : Option Jvm.ClassFile.FieldType)) ∈ UU := tb_2 (List.mem_of_getElem? (i := 48) rfl) rfl
theorem u2_49 : (Jvm.Cond.methodLink "GapLinks$Ears" (3 : Nat) ({ cls := "java/lang/Object", name := "<init>", desc := "()V" } : Jvm.MethodName)) ∈ UU := tb_2 (List.mem_of_getElem? (i := 49) rfl) rfl
theorem u2_50 : (Jvm.Cond.fieldLink "GapLinks$Ears" (9 : Nat) "GapLinks$Ears" "takenByAll" "I") ∈ UU := tb_2 (List.mem_of_getElem? (i := 50) rfl) rfl
theorem u2_51 : (Jvm.Cond.fieldLink "GapLinks" (306 : Nat) "GapLinks$Ears" "takenByAll" "I") ∈ UU := tb_2 (List.mem_of_getElem? (i := 51) rfl) rfl
theorem u2_52 : (Jvm.Cond.fieldLink "GapLinks$Ears" (15 : Nat) "GapLinks$Ears" "taken" "[I") ∈ UU := tb_2 (List.mem_of_getElem? (i := 52) rfl) rfl
theorem u2_53 : (Jvm.Cond.fieldLink "GapLinks$Ears" (19 : Nat) "GapLinks$Ears" "refused" "[I") ∈ UU := tb_2 (List.mem_of_getElem? (i := 53) rfl) rfl
theorem u2_54 : (Jvm.Cond.fieldLink "GapLinks$Ears" (22 : Nat) "GapLinks$Ears" "doubles" "[I") ∈ UU := tb_2 (List.mem_of_getElem? (i := 54) rfl) rfl
theorem u2_55 : (Jvm.Cond.fieldLink "GapLinks$Ears" (25 : Nat) "GapLinks$Ears" "latestNumber" "[I") ∈ UU := tb_2 (List.mem_of_getElem? (i := 55) rfl) rfl
theorem u2_56 : (Jvm.Cond.fieldLink "GapLinks$Ears" (28 : Nat) "GapLinks$Ears" "latestTime" "[I") ∈ UU := tb_2 (List.mem_of_getElem? (i := 56) rfl) rfl
theorem u2_57 : (Jvm.Cond.fieldLink "GapLinks$Ears" (31 : Nat) "GapLinks$Ears" "latestNet" "[I") ∈ UU := tb_2 (List.mem_of_getElem? (i := 57) rfl) rfl
theorem u2_58 : (Jvm.Cond.fieldLink "GapLinks$Ears" (34 : Nat) "GapLinks$Ears" "greatestLate" "[I") ∈ UU := tb_2 (List.mem_of_getElem? (i := 58) rfl) rfl
theorem u2_59 : (Jvm.Cond.fieldLink "GapLinks" (278 : Nat) "GapLinks$Ears" "greatestLate" "[I") ∈ UU := tb_2 (List.mem_of_getElem? (i := 59) rfl) rfl
theorem u2_60 : (Jvm.Cond.fieldLink "GapLinks$Ears" (37 : Nat) "GapLinks$Ears" "leastLate" "[I") ∈ UU := tb_2 (List.mem_of_getElem? (i := 60) rfl) rfl
theorem u2_61 : (Jvm.Cond.fieldLink "GapLinks$Ears" (40 : Nat) "GapLinks$Ears" "seen" "[I") ∈ UU := tb_2 (List.mem_of_getElem? (i := 61) rfl) rfl
theorem u2_62 : (Jvm.Cond.fieldLink "GapLinks" (247 : Nat) "GapLinks$Ears" "seen" "[I") ∈ UU := tb_2 (List.mem_of_getElem? (i := 62) rfl) rfl
theorem u2_63 : (Jvm.Cond.fieldLink "GapLinks$Ears" (43 : Nat) "GapLinks$Ears" "memory" "[I") ∈ UU := tb_2 (List.mem_of_getElem? (i := 63) rfl) rfl
theorem u2_64 : (Jvm.Cond.lays "GapLinks$Ears" "GapLinks$Ears" "takenByAll" "I") ∈ UU := tb_2 (List.mem_of_getElem? (i := 64) rfl) rfl
theorem u2_65 : (Jvm.Cond.soleField "GapLinks$Ears" "takenByAll") ∈ UU := tb_2 (List.mem_of_getElem? (i := 65) rfl) rfl
theorem u2_66 : (Jvm.Cond.laysFinal "GapLinks$Ears" "GapLinks$Ears" "taken" "[I") ∈ UU := tb_2 (List.mem_of_getElem? (i := 66) rfl) rfl
theorem u2_67 : (Jvm.Cond.soleField "GapLinks$Ears" "taken") ∈ UU := tb_2 (List.mem_of_getElem? (i := 67) rfl) rfl
theorem u2_68 : (Jvm.Cond.laysFinal "GapLinks$Ears" "GapLinks$Ears" "refused" "[I") ∈ UU := tb_2 (List.mem_of_getElem? (i := 68) rfl) rfl
theorem u2_69 : (Jvm.Cond.soleField "GapLinks$Ears" "refused") ∈ UU := tb_2 (List.mem_of_getElem? (i := 69) rfl) rfl
theorem u2_70 : (Jvm.Cond.laysFinal "GapLinks$Ears" "GapLinks$Ears" "doubles" "[I") ∈ UU := tb_2 (List.mem_of_getElem? (i := 70) rfl) rfl
theorem u2_71 : (Jvm.Cond.soleField "GapLinks$Ears" "doubles") ∈ UU := tb_2 (List.mem_of_getElem? (i := 71) rfl) rfl
theorem u2_72 : (Jvm.Cond.laysFinal "GapLinks$Ears" "GapLinks$Ears" "latestNumber" "[I") ∈ UU := tb_2 (List.mem_of_getElem? (i := 72) rfl) rfl
theorem u2_73 : (Jvm.Cond.soleField "GapLinks$Ears" "latestNumber") ∈ UU := tb_2 (List.mem_of_getElem? (i := 73) rfl) rfl
theorem u2_74 : (Jvm.Cond.laysFinal "GapLinks$Ears" "GapLinks$Ears" "latestTime" "[I") ∈ UU := tb_2 (List.mem_of_getElem? (i := 74) rfl) rfl
theorem u2_75 : (Jvm.Cond.soleField "GapLinks$Ears" "latestTime") ∈ UU := tb_2 (List.mem_of_getElem? (i := 75) rfl) rfl
theorem u2_76 : (Jvm.Cond.laysFinal "GapLinks$Ears" "GapLinks$Ears" "latestNet" "[I") ∈ UU := tb_2 (List.mem_of_getElem? (i := 76) rfl) rfl
theorem u2_77 : (Jvm.Cond.soleField "GapLinks$Ears" "latestNet") ∈ UU := tb_2 (List.mem_of_getElem? (i := 77) rfl) rfl
theorem u2_78 : (Jvm.Cond.laysFinal "GapLinks$Ears" "GapLinks$Ears" "greatestLate" "[I") ∈ UU := tb_2 (List.mem_of_getElem? (i := 78) rfl) rfl
theorem u2_79 : (Jvm.Cond.soleField "GapLinks$Ears" "greatestLate") ∈ UU := tb_2 (List.mem_of_getElem? (i := 79) rfl) rfl
theorem u2_80 : (Jvm.Cond.laysFinal "GapLinks$Ears" "GapLinks$Ears" "leastLate" "[I") ∈ UU := tb_2 (List.mem_of_getElem? (i := 80) rfl) rfl
theorem u2_81 : (Jvm.Cond.soleField "GapLinks$Ears" "leastLate") ∈ UU := tb_2 (List.mem_of_getElem? (i := 81) rfl) rfl
theorem u2_82 : (Jvm.Cond.laysFinal "GapLinks$Ears" "GapLinks$Ears" "seen" "[I") ∈ UU := tb_2 (List.mem_of_getElem? (i := 82) rfl) rfl
theorem u2_83 : (Jvm.Cond.soleField "GapLinks$Ears" "seen") ∈ UU := tb_2 (List.mem_of_getElem? (i := 83) rfl) rfl
theorem u2_84 : (Jvm.Cond.laysFinal "GapLinks$Ears" "GapLinks$Ears" "memory" "[I") ∈ UU := tb_2 (List.mem_of_getElem? (i := 84) rfl) rfl
theorem u2_85 : (Jvm.Cond.soleField "GapLinks$Ears" "memory") ∈ UU := tb_2 (List.mem_of_getElem? (i := 85) rfl) rfl
theorem u2_86 : (Jvm.Cond.superclass "GapLinks$Ears" "java/lang/Object") ∈ UU := tb_2 (List.mem_of_getElem? (i := 86) rfl) rfl
theorem u2_87 : (Jvm.Cond.fieldLink "GapLinks$State" (9 : Nat) "GapLinks$State" "time" "I") ∈ UU := tb_2 (List.mem_of_getElem? (i := 87) rfl) rfl
theorem u2_88 : (Jvm.Cond.fieldLink "GapLinks" (125 : Nat) "GapLinks$State" "time" "I") ∈ UU := tb_2 (List.mem_of_getElem? (i := 88) rfl) rfl
theorem u2_89 : (Jvm.Cond.fieldLink "GapLinks$State" (15 : Nat) "GapLinks$State" "isDown" "[I") ∈ UU := tb_2 (List.mem_of_getElem? (i := 89) rfl) rfl
theorem u2_90 : (Jvm.Cond.fieldLink "GapLinks" (297 : Nat) "GapLinks$State" "isDown" "[I") ∈ UU := tb_2 (List.mem_of_getElem? (i := 90) rfl) rfl
theorem u2_91 : (Jvm.Cond.fieldLink "GapLinks$State" (19 : Nat) "GapLinks$State" "lost" "[I") ∈ UU := tb_2 (List.mem_of_getElem? (i := 91) rfl) rfl
theorem u2_92 : (Jvm.Cond.fieldLink "GapLinks" (229 : Nat) "GapLinks$State" "lost" "[I") ∈ UU := tb_2 (List.mem_of_getElem? (i := 92) rfl) rfl
theorem u2_93 : (Jvm.Cond.fieldLink "GapLinks$State" (22 : Nat) "GapLinks$State" "waiting" "[I") ∈ UU := tb_2 (List.mem_of_getElem? (i := 93) rfl) rfl
theorem u2_94 : (Jvm.Cond.fieldLink "GapLinks" (176 : Nat) "GapLinks$State" "waiting" "[I") ∈ UU := tb_2 (List.mem_of_getElem? (i := 94) rfl) rfl
theorem u2_95 : (Jvm.Cond.fieldLink "GapLinks$State" (25 : Nat) "GapLinks$State" "next" "[I") ∈ UU := tb_2 (List.mem_of_getElem? (i := 95) rfl) rfl
theorem u2_96 : (Jvm.Cond.fieldLink "GapLinks" (179 : Nat) "GapLinks$State" "next" "[I") ∈ UU := tb_2 (List.mem_of_getElem? (i := 96) rfl) rfl
theorem u2_97 : (Jvm.Cond.fieldLink "GapLinks$State" (28 : Nat) "GapLinks$State" "number" "[I") ∈ UU := tb_2 (List.mem_of_getElem? (i := 97) rfl) rfl
theorem u2_98 : (Jvm.Cond.fieldLink "GapLinks" (182 : Nat) "GapLinks$State" "number" "[I") ∈ UU := tb_2 (List.mem_of_getElem? (i := 98) rfl) rfl
theorem u2_99 : (Jvm.Cond.fieldLink "GapLinks$State" (31 : Nat) "GapLinks$State" "born" "[I") ∈ UU := tb_2 (List.mem_of_getElem? (i := 99) rfl) rfl
theorem u2_100 : (Jvm.Cond.fieldLink "GapLinks" (185 : Nat) "GapLinks$State" "born" "[I") ∈ UU := tb_2 (List.mem_of_getElem? (i := 100) rfl) rfl
theorem u2_101 : (Jvm.Cond.fieldLink "GapLinks$State" (34 : Nat) "GapLinks$State" "longestWait" "[I") ∈ UU := tb_2 (List.mem_of_getElem? (i := 101) rfl) rfl
theorem u2_102 : (Jvm.Cond.fieldLink "GapLinks" (188 : Nat) "GapLinks$State" "longestWait" "[I") ∈ UU := tb_2 (List.mem_of_getElem? (i := 102) rfl) rfl
theorem u2_103 : (Jvm.Cond.fieldLink "GapLinks$State" (37 : Nat) "GapLinks$State" "credit" "[I") ∈ UU := tb_2 (List.mem_of_getElem? (i := 103) rfl) rfl
theorem u2_104 : (Jvm.Cond.fieldLink "GapLinks" (194 : Nat) "GapLinks$State" "credit" "[I") ∈ UU := tb_2 (List.mem_of_getElem? (i := 104) rfl) rfl
theorem u2_105 : (Jvm.Cond.fieldLink "GapLinks$State" (40 : Nat) "GapLinks$State" "policed" "[I") ∈ UU := tb_2 (List.mem_of_getElem? (i := 105) rfl) rfl
theorem u2_106 : (Jvm.Cond.fieldLink "GapLinks" (232 : Nat) "GapLinks$State" "policed" "[I") ∈ UU := tb_2 (List.mem_of_getElem? (i := 106) rfl) rfl
theorem u2_107 : (Jvm.Cond.fieldLink "GapLinks$State" (46 : Nat) "GapLinks$State" "ports" "LGapLinks$Ports;") ∈ UU := tb_2 (List.mem_of_getElem? (i := 107) rfl) rfl
theorem u2_108 : (Jvm.Cond.fieldLink "GapLinks" (200 : Nat) "GapLinks$State" "ports" "LGapLinks$Ports;") ∈ UU := tb_2 (List.mem_of_getElem? (i := 108) rfl) rfl
theorem u2_109 : (Jvm.Cond.fieldLink "GapLinks$State" (53 : Nat) "GapLinks$State" "ears" "LGapLinks$Ears;") ∈ UU := tb_2 (List.mem_of_getElem? (i := 109) rfl) rfl
theorem u2_110 : (Jvm.Cond.fieldLink "GapLinks" (240 : Nat) "GapLinks$State" "ears" "LGapLinks$Ears;") ∈ UU := tb_2 (List.mem_of_getElem? (i := 110) rfl) rfl
theorem u2_111 : (Jvm.Cond.lays "GapLinks$State" "GapLinks$State" "time" "I") ∈ UU := tb_2 (List.mem_of_getElem? (i := 111) rfl) rfl
theorem u2_112 : (Jvm.Cond.soleField "GapLinks$State" "time") ∈ UU := tb_2 (List.mem_of_getElem? (i := 112) rfl) rfl
theorem u2_113 : (Jvm.Cond.laysFinal "GapLinks$State" "GapLinks$State" "isDown" "[I") ∈ UU := tb_2 (List.mem_of_getElem? (i := 113) rfl) rfl
theorem u2_114 : (Jvm.Cond.soleField "GapLinks$State" "isDown") ∈ UU := tb_2 (List.mem_of_getElem? (i := 114) rfl) rfl
theorem u2_115 : (Jvm.Cond.laysFinal "GapLinks$State" "GapLinks$State" "lost" "[I") ∈ UU := tb_2 (List.mem_of_getElem? (i := 115) rfl) rfl
theorem u2_116 : (Jvm.Cond.soleField "GapLinks$State" "lost") ∈ UU := tb_2 (List.mem_of_getElem? (i := 116) rfl) rfl
theorem u2_117 : (Jvm.Cond.laysFinal "GapLinks$State" "GapLinks$State" "waiting" "[I") ∈ UU := tb_2 (List.mem_of_getElem? (i := 117) rfl) rfl
theorem u2_118 : (Jvm.Cond.soleField "GapLinks$State" "waiting") ∈ UU := tb_2 (List.mem_of_getElem? (i := 118) rfl) rfl
theorem u2_119 : (Jvm.Cond.laysFinal "GapLinks$State" "GapLinks$State" "next" "[I") ∈ UU := tb_2 (List.mem_of_getElem? (i := 119) rfl) rfl
theorem u2_120 : (Jvm.Cond.soleField "GapLinks$State" "next") ∈ UU := tb_2 (List.mem_of_getElem? (i := 120) rfl) rfl
theorem u2_121 : (Jvm.Cond.laysFinal "GapLinks$State" "GapLinks$State" "number" "[I") ∈ UU := tb_2 (List.mem_of_getElem? (i := 121) rfl) rfl
theorem u2_122 : (Jvm.Cond.soleField "GapLinks$State" "number") ∈ UU := tb_2 (List.mem_of_getElem? (i := 122) rfl) rfl
theorem u2_123 : (Jvm.Cond.laysFinal "GapLinks$State" "GapLinks$State" "born" "[I") ∈ UU := tb_2 (List.mem_of_getElem? (i := 123) rfl) rfl
theorem u2_124 : (Jvm.Cond.soleField "GapLinks$State" "born") ∈ UU := tb_2 (List.mem_of_getElem? (i := 124) rfl) rfl
theorem u2_125 : (Jvm.Cond.laysFinal "GapLinks$State" "GapLinks$State" "longestWait" "[I") ∈ UU := tb_2 (List.mem_of_getElem? (i := 125) rfl) rfl
theorem u2_126 : (Jvm.Cond.soleField "GapLinks$State" "longestWait") ∈ UU := tb_2 (List.mem_of_getElem? (i := 126) rfl) rfl
theorem u2_127 : (Jvm.Cond.laysFinal "GapLinks$State" "GapLinks$State" "credit" "[I") ∈ UU := tb_2 (List.mem_of_getElem? (i := 127) rfl) rfl
theorem u2_128 : (Jvm.Cond.soleField "GapLinks$State" "credit") ∈ UU := tb_2 (List.mem_of_getElem? (i := 128) rfl) rfl
theorem u2_129 : (Jvm.Cond.laysFinal "GapLinks$State" "GapLinks$State" "policed" "[I") ∈ UU := tb_2 (List.mem_of_getElem? (i := 129) rfl) rfl
theorem u2_130 : (Jvm.Cond.soleField "GapLinks$State" "policed") ∈ UU := tb_2 (List.mem_of_getElem? (i := 130) rfl) rfl
theorem u2_131 : (Jvm.Cond.laysFinal "GapLinks$State" "GapLinks$State" "ports" "LGapLinks$Ports;") ∈ UU := tb_2 (List.mem_of_getElem? (i := 131) rfl) rfl
theorem u2_132 : (Jvm.Cond.soleField "GapLinks$State" "ports") ∈ UU := tb_2 (List.mem_of_getElem? (i := 132) rfl) rfl
theorem u2_133 : (Jvm.Cond.laysFinal "GapLinks$State" "GapLinks$State" "ears" "LGapLinks$Ears;") ∈ UU := tb_2 (List.mem_of_getElem? (i := 133) rfl) rfl
theorem u2_134 : (Jvm.Cond.soleField "GapLinks$State" "ears") ∈ UU := tb_2 (List.mem_of_getElem? (i := 134) rfl) rfl
theorem u2_135 : (Jvm.Cond.superclass "GapLinks$State" "java/lang/Object") ∈ UU := tb_2 (List.mem_of_getElem? (i := 135) rfl) rfl
theorem u2_136 : (Jvm.Cond.fieldLink "GapLinks" (12 : Nat) "GapLinks" "reader" "LGapLinks$Reader;") ∈ UU := tb_2 (List.mem_of_getElem? (i := 136) rfl) rfl
theorem u2_137 : (Jvm.Cond.fieldLink "GapLinks" (19 : Nat) "GapLinks" "plan" "LGapLinks$Plan;") ∈ UU := tb_2 (List.mem_of_getElem? (i := 137) rfl) rfl
theorem u2_138 : (Jvm.Cond.fieldLink "GapLinks" (26 : Nat) "GapLinks" "envelope" "LGapLinks$Envelope;") ∈ UU := tb_2 (List.mem_of_getElem? (i := 138) rfl) rfl
theorem u2_139 : (Jvm.Cond.fieldLink "GapLinks" (33 : Nat) "GapLinks" "now" "LGapLinks$State;") ∈ UU := tb_2 (List.mem_of_getElem? (i := 139) rfl) rfl
theorem u2_140 : (Jvm.Cond.fieldLink "GapLinks" (37 : Nat) "GapLinks" "kept" "LGapLinks$State;") ∈ UU := tb_2 (List.mem_of_getElem? (i := 140) rfl) rfl
theorem u2_141 : (Jvm.Cond.fieldLink "GapLinks" (40 : Nat) "GapLinks" "later" "LGapLinks$State;") ∈ UU := tb_2 (List.mem_of_getElem? (i := 141) rfl) rfl
theorem u2_142 : (Jvm.Cond.fieldLink "GapLinks" (43 : Nat) "GapLinks" "isKept" "Z") ∈ UU := tb_2 (List.mem_of_getElem? (i := 142) rfl) rfl
theorem u2_143 : (Jvm.Cond.fieldLink "GapLinks" (47 : Nat) "GapLinks" "trouble" "I") ∈ UU := tb_2 (List.mem_of_getElem? (i := 143) rfl) rfl
theorem u2_144 : (Jvm.Cond.fieldLink "GapLinks" (51 : Nat) "GapLinks" "latestFault" "I") ∈ UU := tb_2 (List.mem_of_getElem? (i := 144) rfl) rfl
theorem u2_145 : (Jvm.Cond.fieldLink "GapLinks" (54 : Nat) "GapLinks" "faultPlace" "I") ∈ UU := tb_2 (List.mem_of_getElem? (i := 145) rfl) rfl
theorem u2_146 : (Jvm.Cond.laysFinal "GapLinks" "GapLinks" "reader" "LGapLinks$Reader;") ∈ UU := tb_2 (List.mem_of_getElem? (i := 146) rfl) rfl
theorem u2_147 : (Jvm.Cond.soleField "GapLinks" "reader") ∈ UU := tb_2 (List.mem_of_getElem? (i := 147) rfl) rfl
theorem u2_148 : (Jvm.Cond.lays "GapLinks" "GapLinks" "plan" "LGapLinks$Plan;") ∈ UU := tb_2 (List.mem_of_getElem? (i := 148) rfl) rfl
theorem u2_149 : (Jvm.Cond.soleField "GapLinks" "plan") ∈ UU := tb_2 (List.mem_of_getElem? (i := 149) rfl) rfl
theorem u2_150 : (Jvm.Cond.laysFinal "GapLinks" "GapLinks" "envelope" "LGapLinks$Envelope;") ∈ UU := tb_2 (List.mem_of_getElem? (i := 150) rfl) rfl
theorem u2_151 : (Jvm.Cond.soleField "GapLinks" "envelope") ∈ UU := tb_2 (List.mem_of_getElem? (i := 151) rfl) rfl
theorem u2_152 : (Jvm.Cond.laysFinal "GapLinks" "GapLinks" "now" "LGapLinks$State;") ∈ UU := tb_2 (List.mem_of_getElem? (i := 152) rfl) rfl
theorem u2_153 : (Jvm.Cond.soleField "GapLinks" "now") ∈ UU := tb_2 (List.mem_of_getElem? (i := 153) rfl) rfl
theorem u2_154 : (Jvm.Cond.laysFinal "GapLinks" "GapLinks" "kept" "LGapLinks$State;") ∈ UU := tb_2 (List.mem_of_getElem? (i := 154) rfl) rfl
theorem u2_155 : (Jvm.Cond.soleField "GapLinks" "kept") ∈ UU := tb_2 (List.mem_of_getElem? (i := 155) rfl) rfl
theorem u2_156 : (Jvm.Cond.laysFinal "GapLinks" "GapLinks" "later" "LGapLinks$State;") ∈ UU := tb_2 (List.mem_of_getElem? (i := 156) rfl) rfl
theorem u2_157 : (Jvm.Cond.soleField "GapLinks" "later") ∈ UU := tb_2 (List.mem_of_getElem? (i := 157) rfl) rfl
theorem u2_158 : (Jvm.Cond.lays "GapLinks" "GapLinks" "isKept" "Z") ∈ UU := tb_2 (List.mem_of_getElem? (i := 158) rfl) rfl
theorem u2_159 : (Jvm.Cond.soleField "GapLinks" "isKept") ∈ UU := tb_2 (List.mem_of_getElem? (i := 159) rfl) rfl
theorem u2_160 : (Jvm.Cond.lays "GapLinks" "GapLinks" "trouble" "I") ∈ UU := tb_2 (List.mem_of_getElem? (i := 160) rfl) rfl
theorem u2_161 : (Jvm.Cond.soleField "GapLinks" "trouble") ∈ UU := tb_2 (List.mem_of_getElem? (i := 161) rfl) rfl
theorem u2_162 : (Jvm.Cond.lays "GapLinks" "GapLinks" "latestFault" "I") ∈ UU := tb_2 (List.mem_of_getElem? (i := 162) rfl) rfl
theorem u2_163 : (Jvm.Cond.soleField "GapLinks" "latestFault") ∈ UU := tb_2 (List.mem_of_getElem? (i := 163) rfl) rfl
theorem u2_164 : (Jvm.Cond.lays "GapLinks" "GapLinks" "faultPlace" "I") ∈ UU := tb_2 (List.mem_of_getElem? (i := 164) rfl) rfl
theorem u2_165 : (Jvm.Cond.soleField "GapLinks" "faultPlace") ∈ UU := tb_2 (List.mem_of_getElem? (i := 165) rfl) rfl
theorem u2_166 : (Jvm.Cond.superclass "GapLinks" "java/lang/Object") ∈ UU := tb_2 (List.mem_of_getElem? (i := 166) rfl) rfl
theorem u2_167 : (Jvm.Cond.methodLink "GapLinksLaw" (19 : Nat) ({ cls := "GapLinks", name := "feed", desc := "(IIIII)I" } : Jvm.MethodName)) ∈ UU := tb_2 (List.mem_of_getElem? (i := 167) rfl) rfl
theorem u2_168 : (Jvm.Cond.instanceMethod ({ cls := "GapLinks", name := "feed", desc := "(IIIII)I" } : Jvm.MethodName)) ∈ UU := tb_2 (List.mem_of_getElem? (i := 168) rfl) rfl
theorem u2_169 : (Jvm.Cond.selects "GapLinks" ({ cls := "GapLinks", name := "feed", desc := "(IIIII)I" } : Jvm.MethodName) ({ cls := "GapLinks", name := "feed", desc := "(IIIII)I" } : Jvm.MethodName)) ∈ UU := tb_2 (List.mem_of_getElem? (i := 169) rfl) rfl
theorem u2_170 : (Jvm.Cond.code ({ cls := "GapLinks", name := "feed", desc := "(IIIII)I" } : Jvm.MethodName) prog_1_method_2_code (6 : Nat) (Option.some Jvm.ClassFile.FieldType.int)) ∈ UU := tb_2 (List.mem_of_getElem? (i := 170) rfl) rfl
theorem u2_171 : (Jvm.Cond.methodLink "GapLinks" (60 : Nat) ({ cls := "GapLinks$Reader", name := "append", desc := "(I)V" } : Jvm.MethodName)) ∈ UU := tb_2 (List.mem_of_getElem? (i := 171) rfl) rfl
theorem u2_172 : (Jvm.Cond.instanceMethod ({ cls := "GapLinks$Reader", name := "append", desc := "(I)V" } : Jvm.MethodName)) ∈ UU := tb_2 (List.mem_of_getElem? (i := 172) rfl) rfl
theorem u2_173 : (Jvm.Cond.selects "GapLinks$Reader" ({ cls := "GapLinks$Reader", name := "append", desc := "(I)V" } : Jvm.MethodName) ({ cls := "GapLinks$Reader", name := "append", desc := "(I)V" } : Jvm.MethodName)) ∈ UU := tb_2 (List.mem_of_getElem? (i := 173) rfl) rfl
theorem u2_174 : (Jvm.Cond.code ({ cls := "GapLinks$Reader", name := "append", desc := "(I)V" } : Jvm.MethodName) prog_6_method_2_code (3 : Nat) (Option.none : Option Jvm.ClassFile.FieldType)) ∈ UU := tb_2 (List.mem_of_getElem? (i := 174) rfl) rfl
theorem u2_175 : (Jvm.Cond.methodLink "GapLinksLaw" (24 : Nat) ({ cls := "GapLinks", name := "bus", desc := "(I)I" } : Jvm.MethodName)) ∈ UU := tb_2 (List.mem_of_getElem? (i := 175) rfl) rfl
theorem u2_176 : (Jvm.Cond.instanceMethod ({ cls := "GapLinks", name := "bus", desc := "(I)I" } : Jvm.MethodName)) ∈ UU := tb_2 (List.mem_of_getElem? (i := 176) rfl) rfl
theorem u2_177 : (Jvm.Cond.selects "GapLinks" ({ cls := "GapLinks", name := "bus", desc := "(I)I" } : Jvm.MethodName) ({ cls := "GapLinks", name := "bus", desc := "(I)I" } : Jvm.MethodName)) ∈ UU := tb_2 (List.mem_of_getElem? (i := 177) rfl) rfl
theorem u2_178 : (Jvm.Cond.code ({ cls := "GapLinks", name := "bus", desc := "(I)I" } : Jvm.MethodName) prog_1_method_3_code (2 : Nat) (Option.some Jvm.ClassFile.FieldType.int)) ∈ UU := tb_2 (List.mem_of_getElem? (i := 178) rfl) rfl
theorem u2_179 : (Jvm.Cond.methodLink "GapLinks" (64 : Nat) ({ cls := "GapLinks", name := "refuse", desc := "(I)I" } : Jvm.MethodName)) ∈ UU := tb_2 (List.mem_of_getElem? (i := 179) rfl) rfl
theorem u2_181 : (Jvm.Cond.instanceMethod ({ cls := "GapLinks", name := "refuse", desc := "(I)I" } : Jvm.MethodName)) ∈ UU := tb_2 (List.mem_of_getElem? (i := 181) rfl) rfl
theorem u2_182 : (Jvm.Cond.code ({ cls := "GapLinks", name := "refuse", desc := "(I)I" } : Jvm.MethodName) prog_1_method_42_code (2 : Nat) (Option.some Jvm.ClassFile.FieldType.int)) ∈ UU := tb_2 (List.mem_of_getElem? (i := 182) rfl) rfl
theorem u2_183 : (Jvm.Cond.methodLink "GapLinks" (68 : Nat) ({ cls := "GapLinks$Reader", name := "read", desc := "(I)V" } : Jvm.MethodName)) ∈ UU := tb_2 (List.mem_of_getElem? (i := 183) rfl) rfl
theorem u2_184 : (Jvm.Cond.instanceMethod ({ cls := "GapLinks$Reader", name := "read", desc := "(I)V" } : Jvm.MethodName)) ∈ UU := tb_2 (List.mem_of_getElem? (i := 184) rfl) rfl
theorem u2_185 : (Jvm.Cond.selects "GapLinks$Reader" ({ cls := "GapLinks$Reader", name := "read", desc := "(I)V" } : Jvm.MethodName) ({ cls := "GapLinks$Reader", name := "read", desc := "(I)V" } : Jvm.MethodName)) ∈ UU := tb_2 (List.mem_of_getElem? (i := 185) rfl) rfl
theorem u2_186 : (Jvm.Cond.code ({ cls := "GapLinks$Reader", name := "read", desc := "(I)V" } : Jvm.MethodName) prog_6_method_4_code (3 : Nat) (Option.none : Option Jvm.ClassFile.FieldType)) ∈ UU := tb_2 (List.mem_of_getElem? (i := 186) rfl) rfl
theorem u2_187 : (Jvm.Cond.methodLink "GapLinks$Reader" (55 : Nat) ({ cls := "java/lang/Math", name := "min", desc := "(II)I" } : Jvm.MethodName)) ∈ UU := tb_2 (List.mem_of_getElem? (i := 187) rfl) rfl
theorem u2_188 : (Jvm.Cond.static ({ cls := "java/lang/Math", name := "min", desc := "(II)I" } : Jvm.MethodName)) ∈ UU := tb_2 (List.mem_of_getElem? (i := 188) rfl) rfl
theorem u2_189 : (Jvm.Cond.code ({ cls := "java/lang/Math", name := "min", desc := "(II)I" } : Jvm.MethodName) prog_17_method_69_code (2 : Nat) (Option.some Jvm.ClassFile.FieldType.int)) ∈ UU := tb_2 (List.mem_of_getElem? (i := 189) rfl) rfl
theorem u2_190 : (Jvm.Cond.methodLink "GapLinks$Reader" (61 : Nat) ({ cls := "GapLinks$Plan", name := "clear", desc := "()V" } : Jvm.MethodName)) ∈ UU := tb_2 (List.mem_of_getElem? (i := 190) rfl) rfl
theorem u2_191 : (Jvm.Cond.instanceMethod ({ cls := "GapLinks$Plan", name := "clear", desc := "()V" } : Jvm.MethodName)) ∈ UU := tb_2 (List.mem_of_getElem? (i := 191) rfl) rfl
theorem u2_192 : (Jvm.Cond.selects "GapLinks$Plan" ({ cls := "GapLinks$Plan", name := "clear", desc := "()V" } : Jvm.MethodName) ({ cls := "GapLinks$Plan", name := "clear", desc := "()V" } : Jvm.MethodName)) ∈ UU := tb_2 (List.mem_of_getElem? (i := 192) rfl) rfl
theorem u2_193 : (Jvm.Cond.code ({ cls := "GapLinks$Plan", name := "clear", desc := "()V" } : Jvm.MethodName) prog_4_method_2_code (1 : Nat) (Option.none : Option Jvm.ClassFile.FieldType)) ∈ UU := tb_2 (List.mem_of_getElem? (i := 193) rfl) rfl
theorem u2_194 : (Jvm.Cond.methodLink "GapLinks$Reader" (64 : Nat) ({ cls := "GapLinks$Reader", name := "step", desc := "()V" } : Jvm.MethodName)) ∈ UU := tb_2 (List.mem_of_getElem? (i := 194) rfl) rfl
theorem u2_196 : (Jvm.Cond.instanceMethod ({ cls := "GapLinks$Reader", name := "step", desc := "()V" } : Jvm.MethodName)) ∈ UU := tb_2 (List.mem_of_getElem? (i := 196) rfl) rfl
theorem u2_197 : (Jvm.Cond.code ({ cls := "GapLinks$Reader", name := "step", desc := "()V" } : Jvm.MethodName) prog_6_method_19_code (1 : Nat) (Option.none : Option Jvm.ClassFile.FieldType)) ∈ UU := tb_2 (List.mem_of_getElem? (i := 197) rfl) rfl
theorem u2_198 : (Jvm.Cond.methodLink "GapLinks$Reader" (209 : Nat) ({ cls := "GapLinks$Reader", name := "isLetter", desc := "(B)Z" } : Jvm.MethodName)) ∈ UU := tb_2 (List.mem_of_getElem? (i := 198) rfl) rfl
theorem u2_199 : (Jvm.Cond.static ({ cls := "GapLinks$Reader", name := "isLetter", desc := "(B)Z" } : Jvm.MethodName)) ∈ UU := tb_2 (List.mem_of_getElem? (i := 199) rfl) rfl
theorem u2_200 : (Jvm.Cond.code ({ cls := "GapLinks$Reader", name := "isLetter", desc := "(B)Z" } : Jvm.MethodName) prog_6_method_22_code (1 : Nat) (Option.some Jvm.ClassFile.FieldType.boolean)) ∈ UU := tb_2 (List.mem_of_getElem? (i := 200) rfl) rfl
theorem u2_201 : (Jvm.Cond.methodLink "GapLinks$Reader" (213 : Nat) ({ cls := "GapLinks$Reader", name := "stepWord", desc := "()V" } : Jvm.MethodName)) ∈ UU := tb_2 (List.mem_of_getElem? (i := 201) rfl) rfl
theorem u2_203 : (Jvm.Cond.instanceMethod ({ cls := "GapLinks$Reader", name := "stepWord", desc := "()V" } : Jvm.MethodName)) ∈ UU := tb_2 (List.mem_of_getElem? (i := 203) rfl) rfl
theorem u2_204 : (Jvm.Cond.code ({ cls := "GapLinks$Reader", name := "stepWord", desc := "()V" } : Jvm.MethodName) prog_6_method_20_code (2 : Nat) (Option.none : Option Jvm.ClassFile.FieldType)) ∈ UU := tb_2 (List.mem_of_getElem? (i := 204) rfl) rfl
theorem u2_205 : (Jvm.Cond.constantLong "GapLinks$Reader" (222 : Nat) (32 : Int64)) ∈ UU := tb_2 (List.mem_of_getElem? (i := 205) rfl) rfl
theorem u2_206 : (Jvm.Cond.methodLink "GapLinks$Reader" (216 : Nat) ({ cls := "GapLinks$Reader", name := "isDigit", desc := "(B)Z" } : Jvm.MethodName)) ∈ UU := tb_2 (List.mem_of_getElem? (i := 206) rfl) rfl
theorem u2_207 : (Jvm.Cond.static ({ cls := "GapLinks$Reader", name := "isDigit", desc := "(B)Z" } : Jvm.MethodName)) ∈ UU := tb_2 (List.mem_of_getElem? (i := 207) rfl) rfl
theorem u2_208 : (Jvm.Cond.code ({ cls := "GapLinks$Reader", name := "isDigit", desc := "(B)Z" } : Jvm.MethodName) prog_6_method_23_code (1 : Nat) (Option.some Jvm.ClassFile.FieldType.boolean)) ∈ UU := tb_2 (List.mem_of_getElem? (i := 208) rfl) rfl
theorem u2_209 : (Jvm.Cond.methodLink "GapLinks$Reader" (219 : Nat) ({ cls := "GapLinks$Reader", name := "stepWhole", desc := "()V" } : Jvm.MethodName)) ∈ UU := tb_2 (List.mem_of_getElem? (i := 209) rfl) rfl
theorem u2_211 : (Jvm.Cond.instanceMethod ({ cls := "GapLinks$Reader", name := "stepWhole", desc := "()V" } : Jvm.MethodName)) ∈ UU := tb_2 (List.mem_of_getElem? (i := 211) rfl) rfl
theorem u2_212 : (Jvm.Cond.code ({ cls := "GapLinks$Reader", name := "stepWhole", desc := "()V" } : Jvm.MethodName) prog_6_method_21_code (1 : Nat) (Option.none : Option Jvm.ClassFile.FieldType)) ∈ UU := tb_2 (List.mem_of_getElem? (i := 212) rfl) rfl
theorem u2_213 : (Jvm.Cond.constantLong "GapLinks$Reader" (67 : Nat) (7094703369807208480 : Int64)) ∈ UU := tb_2 (List.mem_of_getElem? (i := 213) rfl) rfl
theorem u2_214 : (Jvm.Cond.methodLink "GapLinks$Reader" (69 : Nat) ({ cls := "GapLinks$Reader", name := "isWord", desc := "(J)Z" } : Jvm.MethodName)) ∈ UU := tb_2 (List.mem_of_getElem? (i := 214) rfl) rfl
theorem u2_216 : (Jvm.Cond.instanceMethod ({ cls := "GapLinks$Reader", name := "isWord", desc := "(J)Z" } : Jvm.MethodName)) ∈ UU := tb_2 (List.mem_of_getElem? (i := 216) rfl) rfl
theorem u2_217 : (Jvm.Cond.code ({ cls := "GapLinks$Reader", name := "isWord", desc := "(J)Z" } : Jvm.MethodName) prog_6_method_11_code (3 : Nat) (Option.some Jvm.ClassFile.FieldType.boolean)) ∈ UU := tb_2 (List.mem_of_getElem? (i := 217) rfl) rfl
theorem u2_218 : (Jvm.Cond.methodLink "GapLinks$Reader" (73 : Nat) ({ cls := "GapLinks$Reader", name := "readBus", desc := "()V" } : Jvm.MethodName)) ∈ UU := tb_2 (List.mem_of_getElem? (i := 218) rfl) rfl
theorem u2_220 : (Jvm.Cond.instanceMethod ({ cls := "GapLinks$Reader", name := "readBus", desc := "()V" } : Jvm.MethodName)) ∈ UU := tb_2 (List.mem_of_getElem? (i := 220) rfl) rfl
theorem u2_221 : (Jvm.Cond.code ({ cls := "GapLinks$Reader", name := "readBus", desc := "()V" } : Jvm.MethodName) prog_6_method_6_code (1 : Nat) (Option.none : Option Jvm.ClassFile.FieldType)) ∈ UU := tb_2 (List.mem_of_getElem? (i := 221) rfl) rfl
theorem u2_222 : (Jvm.Cond.methodLink "GapLinks$Reader" (86 : Nat) ({ cls := "GapLinks$Reader", name := "fail", desc := "(I)V" } : Jvm.MethodName)) ∈ UU := tb_2 (List.mem_of_getElem? (i := 222) rfl) rfl
theorem u2_224 : (Jvm.Cond.instanceMethod ({ cls := "GapLinks$Reader", name := "fail", desc := "(I)V" } : Jvm.MethodName)) ∈ UU := tb_2 (List.mem_of_getElem? (i := 224) rfl) rfl
theorem u2_225 : (Jvm.Cond.code ({ cls := "GapLinks$Reader", name := "fail", desc := "(I)V" } : Jvm.MethodName) prog_6_method_5_code (2 : Nat) (Option.none : Option Jvm.ClassFile.FieldType)) ∈ UU := tb_2 (List.mem_of_getElem? (i := 225) rfl) rfl
theorem u2_226 : (Jvm.Cond.methodLink "GapLinks$Reader" (93 : Nat) ({ cls := "GapLinks$Reader", name := "pass", desc := "(J)V" } : Jvm.MethodName)) ∈ UU := tb_2 (List.mem_of_getElem? (i := 226) rfl) rfl
theorem u2_228 : (Jvm.Cond.instanceMethod ({ cls := "GapLinks$Reader", name := "pass", desc := "(J)V" } : Jvm.MethodName)) ∈ UU := tb_2 (List.mem_of_getElem? (i := 228) rfl) rfl
theorem u2_229 : (Jvm.Cond.code ({ cls := "GapLinks$Reader", name := "pass", desc := "(J)V" } : Jvm.MethodName) prog_6_method_13_code (3 : Nat) (Option.none : Option Jvm.ClassFile.FieldType)) ∈ UU := tb_2 (List.mem_of_getElem? (i := 229) rfl) rfl
theorem u2_230 : (Jvm.Cond.constantLong "GapLinks$Reader" (97 : Nat) (8320234785195189619 : Int64)) ∈ UU := tb_2 (List.mem_of_getElem? (i := 230) rfl) rfl
theorem u2_231 : (Jvm.Cond.methodLink "GapLinks$Reader" (99 : Nat) ({ cls := "GapLinks$Reader", name := "wholeWithin", desc := "(II)I" } : Jvm.MethodName)) ∈ UU := tb_2 (List.mem_of_getElem? (i := 231) rfl) rfl
theorem u2_233 : (Jvm.Cond.instanceMethod ({ cls := "GapLinks$Reader", name := "wholeWithin", desc := "(II)I" } : Jvm.MethodName)) ∈ UU := tb_2 (List.mem_of_getElem? (i := 233) rfl) rfl
theorem u2_234 : (Jvm.Cond.code ({ cls := "GapLinks$Reader", name := "wholeWithin", desc := "(II)I" } : Jvm.MethodName) prog_6_method_16_code (3 : Nat) (Option.some Jvm.ClassFile.FieldType.int)) ∈ UU := tb_2 (List.mem_of_getElem? (i := 234) rfl) rfl
theorem u2_235 : (Jvm.Cond.methodLink "GapLinks$Reader" (199 : Nat) ({ cls := "GapLinks$Reader", name := "checkedWhole", desc := "(Z)I" } : Jvm.MethodName)) ∈ UU := tb_2 (List.mem_of_getElem? (i := 235) rfl) rfl
theorem u2_237 : (Jvm.Cond.instanceMethod ({ cls := "GapLinks$Reader", name := "checkedWhole", desc := "(Z)I" } : Jvm.MethodName)) ∈ UU := tb_2 (List.mem_of_getElem? (i := 237) rfl) rfl
theorem u2_238 : (Jvm.Cond.code ({ cls := "GapLinks$Reader", name := "checkedWhole", desc := "(Z)I" } : Jvm.MethodName) prog_6_method_18_code (3 : Nat) (Option.some Jvm.ClassFile.FieldType.int)) ∈ UU := tb_2 (List.mem_of_getElem? (i := 238) rfl) rfl
theorem u2_239 : (Jvm.Cond.constantLong "GapLinks$Reader" (105 : Nat) (8245931957219762208 : Int64)) ∈ UU := tb_2 (List.mem_of_getElem? (i := 239) rfl) rfl
theorem u3_0 : (Jvm.Cond.constantLong "GapLinks$Reader" (110 : Nat) (7667787883841986592 : Int64)) ∈ UU := tb_3 (List.mem_of_getElem? (i := 0) rfl) rfl
theorem u3_1 : (Jvm.Cond.constantLong "GapLinks$Reader" (115 : Nat) (8604529940713906208 : Int64)) ∈ UU := tb_3 (List.mem_of_getElem? (i := 1) rfl) rfl
theorem u3_2 : (Jvm.Cond.constantLong "GapLinks$Reader" (120 : Nat) (8316852699184242720 : Int64)) ∈ UU := tb_3 (List.mem_of_getElem? (i := 2) rfl) rfl
theorem u3_3 : (Jvm.Cond.constantLong "GapLinks$Reader" (76 : Nat) (7308889334409601056 : Int64)) ∈ UU := tb_3 (List.mem_of_getElem? (i := 3) rfl) rfl
theorem u3_4 : (Jvm.Cond.methodLink "GapLinks$Reader" (78 : Nat) ({ cls := "GapLinks$Reader", name := "readEnd", desc := "()V" } : Jvm.MethodName)) ∈ UU := tb_3 (List.mem_of_getElem? (i := 4) rfl) rfl
theorem u3_6 : (Jvm.Cond.instanceMethod ({ cls := "GapLinks$Reader", name := "readEnd", desc := "()V" } : Jvm.MethodName)) ∈ UU := tb_3 (List.mem_of_getElem? (i := 6) rfl) rfl
theorem u3_7 : (Jvm.Cond.code ({ cls := "GapLinks$Reader", name := "readEnd", desc := "()V" } : Jvm.MethodName) prog_6_method_7_code (4 : Nat) (Option.none : Option Jvm.ClassFile.FieldType)) ∈ UU := tb_3 (List.mem_of_getElem? (i := 7) rfl) rfl
theorem u3_8 : (Jvm.Cond.methodLink "GapLinks$Reader" (128 : Nat) ({ cls := "GapLinks$Reader", name := "beginLine", desc := "(II)V" } : Jvm.MethodName)) ∈ UU := tb_3 (List.mem_of_getElem? (i := 8) rfl) rfl
theorem u3_10 : (Jvm.Cond.instanceMethod ({ cls := "GapLinks$Reader", name := "beginLine", desc := "(II)V" } : Jvm.MethodName)) ∈ UU := tb_3 (List.mem_of_getElem? (i := 10) rfl) rfl
theorem u3_11 : (Jvm.Cond.code ({ cls := "GapLinks$Reader", name := "beginLine", desc := "(II)V" } : Jvm.MethodName) prog_6_method_10_code (3 : Nat) (Option.none : Option Jvm.ClassFile.FieldType)) ∈ UU := tb_3 (List.mem_of_getElem? (i := 11) rfl) rfl
theorem u3_12 : (Jvm.Cond.methodLink "GapLinks$Reader" (132 : Nat) ({ cls := "GapLinks$Reader", name := "newName", desc := "()J" } : Jvm.MethodName)) ∈ UU := tb_3 (List.mem_of_getElem? (i := 12) rfl) rfl
theorem u3_14 : (Jvm.Cond.instanceMethod ({ cls := "GapLinks$Reader", name := "newName", desc := "()J" } : Jvm.MethodName)) ∈ UU := tb_3 (List.mem_of_getElem? (i := 14) rfl) rfl
theorem u3_15 : (Jvm.Cond.code ({ cls := "GapLinks$Reader", name := "newName", desc := "()J" } : Jvm.MethodName) prog_6_method_14_code (3 : Nat) (Option.some Jvm.ClassFile.FieldType.long)) ∈ UU := tb_3 (List.mem_of_getElem? (i := 15) rfl) rfl
theorem u3_16 : (Jvm.Cond.methodLink "GapLinks$Reader" (188 : Nat) ({ cls := "GapLinks$Reader", name := "isName", desc := "()Z" } : Jvm.MethodName)) ∈ UU := tb_3 (List.mem_of_getElem? (i := 16) rfl) rfl
theorem u3_18 : (Jvm.Cond.instanceMethod ({ cls := "GapLinks$Reader", name := "isName", desc := "()Z" } : Jvm.MethodName)) ∈ UU := tb_3 (List.mem_of_getElem? (i := 18) rfl) rfl
theorem u3_19 : (Jvm.Cond.code ({ cls := "GapLinks$Reader", name := "isName", desc := "()Z" } : Jvm.MethodName) prog_6_method_12_code (1 : Nat) (Option.some Jvm.ClassFile.FieldType.boolean)) ∈ UU := tb_3 (List.mem_of_getElem? (i := 19) rfl) rfl
theorem u3_20 : (Jvm.Cond.constantLong "GapLinks$Reader" (81 : Nat) (7811896435030368288 : Int64)) ∈ UU := tb_3 (List.mem_of_getElem? (i := 20) rfl) rfl
theorem u3_21 : (Jvm.Cond.methodLink "GapLinks$Reader" (192 : Nat) ({ cls := "GapLinks$Plan", name := "endNamed", desc := "(J)I" } : Jvm.MethodName)) ∈ UU := tb_3 (List.mem_of_getElem? (i := 21) rfl) rfl
theorem u3_22 : (Jvm.Cond.instanceMethod ({ cls := "GapLinks$Plan", name := "endNamed", desc := "(J)I" } : Jvm.MethodName)) ∈ UU := tb_3 (List.mem_of_getElem? (i := 22) rfl) rfl
theorem u3_23 : (Jvm.Cond.selects "GapLinks$Plan" ({ cls := "GapLinks$Plan", name := "endNamed", desc := "(J)I" } : Jvm.MethodName) ({ cls := "GapLinks$Plan", name := "endNamed", desc := "(J)I" } : Jvm.MethodName)) ∈ UU := tb_3 (List.mem_of_getElem? (i := 23) rfl) rfl
theorem u3_24 : (Jvm.Cond.code ({ cls := "GapLinks$Plan", name := "endNamed", desc := "(J)I" } : Jvm.MethodName) prog_4_method_7_code (4 : Nat) (Option.some Jvm.ClassFile.FieldType.int)) ∈ UU := tb_3 (List.mem_of_getElem? (i := 24) rfl) rfl
theorem u3_25 : (Jvm.Cond.methodLink "GapLinks$Reader" (196 : Nat) ({ cls := "GapLinks$Plan", name := "linkNamed", desc := "(J)I" } : Jvm.MethodName)) ∈ UU := tb_3 (List.mem_of_getElem? (i := 25) rfl) rfl
theorem u3_26 : (Jvm.Cond.instanceMethod ({ cls := "GapLinks$Plan", name := "linkNamed", desc := "(J)I" } : Jvm.MethodName)) ∈ UU := tb_3 (List.mem_of_getElem? (i := 26) rfl) rfl
theorem u3_27 : (Jvm.Cond.selects "GapLinks$Plan" ({ cls := "GapLinks$Plan", name := "linkNamed", desc := "(J)I" } : Jvm.MethodName) ({ cls := "GapLinks$Plan", name := "linkNamed", desc := "(J)I" } : Jvm.MethodName)) ∈ UU := tb_3 (List.mem_of_getElem? (i := 27) rfl) rfl
theorem u3_28 : (Jvm.Cond.code ({ cls := "GapLinks$Plan", name := "linkNamed", desc := "(J)I" } : Jvm.MethodName) prog_4_method_8_code (4 : Nat) (Option.some Jvm.ClassFile.FieldType.int)) ∈ UU := tb_3 (List.mem_of_getElem? (i := 28) rfl) rfl
theorem u3_29 : (Jvm.Cond.constantLong "GapLinks$Reader" (136 : Nat) (7022273041327464480 : Int64)) ∈ UU := tb_3 (List.mem_of_getElem? (i := 29) rfl) rfl
theorem u3_30 : (Jvm.Cond.methodLink "GapLinks$Reader" (83 : Nat) ({ cls := "GapLinks$Reader", name := "readLink", desc := "()V" } : Jvm.MethodName)) ∈ UU := tb_3 (List.mem_of_getElem? (i := 30) rfl) rfl
theorem u3_32 : (Jvm.Cond.instanceMethod ({ cls := "GapLinks$Reader", name := "readLink", desc := "()V" } : Jvm.MethodName)) ∈ UU := tb_3 (List.mem_of_getElem? (i := 32) rfl) rfl
theorem u3_33 : (Jvm.Cond.code ({ cls := "GapLinks$Reader", name := "readLink", desc := "()V" } : Jvm.MethodName) prog_6_method_8_code (7 : Nat) (Option.none : Option Jvm.ClassFile.FieldType)) ∈ UU := tb_3 (List.mem_of_getElem? (i := 33) rfl) rfl
theorem u3_34 : (Jvm.Cond.constantLong "GapLinks$Reader" (146 : Nat) (7382085253694758944 : Int64)) ∈ UU := tb_3 (List.mem_of_getElem? (i := 34) rfl) rfl
theorem u3_35 : (Jvm.Cond.methodLink "GapLinks$Reader" (148 : Nat) ({ cls := "GapLinks$Reader", name := "knownEnd", desc := "()I" } : Jvm.MethodName)) ∈ UU := tb_3 (List.mem_of_getElem? (i := 35) rfl) rfl
theorem u3_37 : (Jvm.Cond.instanceMethod ({ cls := "GapLinks$Reader", name := "knownEnd", desc := "()I" } : Jvm.MethodName)) ∈ UU := tb_3 (List.mem_of_getElem? (i := 37) rfl) rfl
theorem u3_38 : (Jvm.Cond.code ({ cls := "GapLinks$Reader", name := "knownEnd", desc := "()I" } : Jvm.MethodName) prog_6_method_15_code (2 : Nat) (Option.some Jvm.ClassFile.FieldType.int)) ∈ UU := tb_3 (List.mem_of_getElem? (i := 38) rfl) rfl
theorem u3_39 : (Jvm.Cond.constantLong "GapLinks$Reader" (152 : Nat) (7449358541927751712 : Int64)) ∈ UU := tb_3 (List.mem_of_getElem? (i := 39) rfl) rfl
theorem u3_40 : (Jvm.Cond.methodLink "GapLinks$Reader" (154 : Nat) ({ cls := "GapLinks$Reader", name := "wholeGap", desc := "()I" } : Jvm.MethodName)) ∈ UU := tb_3 (List.mem_of_getElem? (i := 40) rfl) rfl
theorem u3_42 : (Jvm.Cond.instanceMethod ({ cls := "GapLinks$Reader", name := "wholeGap", desc := "()I" } : Jvm.MethodName)) ∈ UU := tb_3 (List.mem_of_getElem? (i := 42) rfl) rfl
theorem u3_43 : (Jvm.Cond.code ({ cls := "GapLinks$Reader", name := "wholeGap", desc := "()I" } : Jvm.MethodName) prog_6_method_17_code (1 : Nat) (Option.some Jvm.ClassFile.FieldType.int)) ∈ UU := tb_3 (List.mem_of_getElem? (i := 43) rfl) rfl
theorem u3_44 : (Jvm.Cond.methodLink "GapLinks$Reader" (203 : Nat) ({ cls := "java/lang/Integer", name := "bitCount", desc := "(I)I" } : Jvm.MethodName)) ∈ UU := tb_3 (List.mem_of_getElem? (i := 44) rfl) rfl
theorem u3_45 : (Jvm.Cond.static ({ cls := "java/lang/Integer", name := "bitCount", desc := "(I)I" } : Jvm.MethodName)) ∈ UU := tb_3 (List.mem_of_getElem? (i := 45) rfl) rfl
theorem u3_46 : (Jvm.Cond.code ({ cls := "java/lang/Integer", name := "bitCount", desc := "(I)I" } : Jvm.MethodName) prog_15_method_49_code (1 : Nat) (Option.some Jvm.ClassFile.FieldType.int)) ∈ UU := tb_3 (List.mem_of_getElem? (i := 46) rfl) rfl
theorem u3_47 : (Jvm.Cond.constant "java/lang/Integer" (265 : Nat) (1431655765 : Int32)) ∈ UU := tb_3 (List.mem_of_getElem? (i := 47) rfl) rfl
theorem u3_48 : (Jvm.Cond.constant "java/lang/Integer" (266 : Nat) (858993459 : Int32)) ∈ UU := tb_3 (List.mem_of_getElem? (i := 48) rfl) rfl
theorem u3_49 : (Jvm.Cond.constant "java/lang/Integer" (267 : Nat) (252645135 : Int32)) ∈ UU := tb_3 (List.mem_of_getElem? (i := 49) rfl) rfl
theorem u3_50 : (Jvm.Cond.constantLong "GapLinks$Reader" (157 : Nat) (7810770519357661216 : Int64)) ∈ UU := tb_3 (List.mem_of_getElem? (i := 50) rfl) rfl
theorem u3_51 : (Jvm.Cond.constantLong "GapLinks$Reader" (159 : Nat) (8389959953164541984 : Int64)) ∈ UU := tb_3 (List.mem_of_getElem? (i := 51) rfl) rfl
theorem u3_52 : (Jvm.Cond.methodLink "GapLinks$Reader" (173 : Nat) ({ cls := "GapLinks$Reader", name := "readReceivers", desc := "(I)V" } : Jvm.MethodName)) ∈ UU := tb_3 (List.mem_of_getElem? (i := 52) rfl) rfl
theorem u3_54 : (Jvm.Cond.instanceMethod ({ cls := "GapLinks$Reader", name := "readReceivers", desc := "(I)V" } : Jvm.MethodName)) ∈ UU := tb_3 (List.mem_of_getElem? (i := 54) rfl) rfl
theorem u3_55 : (Jvm.Cond.code ({ cls := "GapLinks$Reader", name := "readReceivers", desc := "(I)V" } : Jvm.MethodName) prog_6_method_9_code (5 : Nat) (Option.none : Option Jvm.ClassFile.FieldType)) ∈ UU := tb_3 (List.mem_of_getElem? (i := 55) rfl) rfl
theorem u3_56 : (Jvm.Cond.methodLink "GapLinks$Reader" (179 : Nat) ({ cls := "GapLinks$Plan", name := "earAt", desc := "(II)I" } : Jvm.MethodName)) ∈ UU := tb_3 (List.mem_of_getElem? (i := 56) rfl) rfl
theorem u3_57 : (Jvm.Cond.instanceMethod ({ cls := "GapLinks$Plan", name := "earAt", desc := "(II)I" } : Jvm.MethodName)) ∈ UU := tb_3 (List.mem_of_getElem? (i := 57) rfl) rfl
theorem u3_58 : (Jvm.Cond.selects "GapLinks$Plan" ({ cls := "GapLinks$Plan", name := "earAt", desc := "(II)I" } : Jvm.MethodName) ({ cls := "GapLinks$Plan", name := "earAt", desc := "(II)I" } : Jvm.MethodName)) ∈ UU := tb_3 (List.mem_of_getElem? (i := 58) rfl) rfl
theorem u3_59 : (Jvm.Cond.code ({ cls := "GapLinks$Plan", name := "earAt", desc := "(II)I" } : Jvm.MethodName) prog_4_method_10_code (4 : Nat) (Option.some Jvm.ClassFile.FieldType.int)) ∈ UU := tb_3 (List.mem_of_getElem? (i := 59) rfl) rfl
theorem u3_61 : (Jvm.Cond.static ({ cls := "GapLinks", name := "earOf", desc := "(II)I" } : Jvm.MethodName)) ∈ UU := tb_3 (List.mem_of_getElem? (i := 61) rfl) rfl
theorem u3_62 : (Jvm.Cond.code ({ cls := "GapLinks", name := "earOf", desc := "(II)I" } : Jvm.MethodName) prog_1_method_50_code (2 : Nat) (Option.some Jvm.ClassFile.FieldType.int)) ∈ UU := tb_3 (List.mem_of_getElem? (i := 62) rfl) rfl
theorem u3_64 : (Jvm.Cond.methodLink "GapLinks" (77 : Nat) ({ cls := "GapLinks$Reader", name := "handOver", desc := "(LGapLinks$Plan;)LGapLinks$Plan;" } : Jvm.MethodName)) ∈ UU := tb_3 (List.mem_of_getElem? (i := 64) rfl) rfl
theorem u3_65 : (Jvm.Cond.instanceMethod ({ cls := "GapLinks$Reader", name := "handOver", desc := "(LGapLinks$Plan;)LGapLinks$Plan;" } : Jvm.MethodName)) ∈ UU := tb_3 (List.mem_of_getElem? (i := 65) rfl) rfl
theorem u3_66 : (Jvm.Cond.selects "GapLinks$Reader" ({ cls := "GapLinks$Reader", name := "handOver", desc := "(LGapLinks$Plan;)LGapLinks$Plan;" } : Jvm.MethodName) ({ cls := "GapLinks$Reader", name := "handOver", desc := "(LGapLinks$Plan;)LGapLinks$Plan;" } : Jvm.MethodName)) ∈ UU := tb_3 (List.mem_of_getElem? (i := 66) rfl) rfl
theorem u3_67 : (Jvm.Cond.code ({ cls := "GapLinks$Reader", name := "handOver", desc := "(LGapLinks$Plan;)LGapLinks$Plan;" } : Jvm.MethodName) prog_6_method_3_code (3 : Nat) (Option.some (Jvm.ClassFile.FieldType.object "GapLinks$Plan"))) ∈ UU := tb_3 (List.mem_of_getElem? (i := 67) rfl) rfl
theorem u3_68 : (Jvm.Cond.methodLink "GapLinks" (85 : Nat) ({ cls := "GapLinks$Ways", name := "lay", desc := "(LGapLinks$Plan;)V" } : Jvm.MethodName)) ∈ UU := tb_3 (List.mem_of_getElem? (i := 68) rfl) rfl
theorem u3_69 : (Jvm.Cond.instanceMethod ({ cls := "GapLinks$Ways", name := "lay", desc := "(LGapLinks$Plan;)V" } : Jvm.MethodName)) ∈ UU := tb_3 (List.mem_of_getElem? (i := 69) rfl) rfl
theorem u3_70 : (Jvm.Cond.selects "GapLinks$Ways" ({ cls := "GapLinks$Ways", name := "lay", desc := "(LGapLinks$Plan;)V" } : Jvm.MethodName) ({ cls := "GapLinks$Ways", name := "lay", desc := "(LGapLinks$Plan;)V" } : Jvm.MethodName)) ∈ UU := tb_3 (List.mem_of_getElem? (i := 70) rfl) rfl
theorem u3_71 : (Jvm.Cond.code ({ cls := "GapLinks$Ways", name := "lay", desc := "(LGapLinks$Plan;)V" } : Jvm.MethodName) prog_8_method_2_code (4 : Nat) (Option.none : Option Jvm.ClassFile.FieldType)) ∈ UU := tb_3 (List.mem_of_getElem? (i := 71) rfl) rfl
theorem u3_72 : (Jvm.Cond.methodLink "GapLinks$Ways" (27 : Nat) ({ cls := "java/util/Arrays", name := "fill", desc := "([II)V" } : Jvm.MethodName)) ∈ UU := tb_3 (List.mem_of_getElem? (i := 72) rfl) rfl
theorem u3_73 : (Jvm.Cond.static ({ cls := "java/util/Arrays", name := "fill", desc := "([II)V" } : Jvm.MethodName)) ∈ UU := tb_3 (List.mem_of_getElem? (i := 73) rfl) rfl
theorem u3_74 : (Jvm.Cond.code ({ cls := "java/util/Arrays", name := "fill", desc := "([II)V" } : Jvm.MethodName) prog_27_method_103_code (4 : Nat) (Option.none : Option Jvm.ClassFile.FieldType)) ∈ UU := tb_3 (List.mem_of_getElem? (i := 74) rfl) rfl
theorem u3_76 : (Jvm.Cond.methodLink "GapLinks$Ways" (46 : Nat) ({ cls := "GapLinks$Ways", name := "layOne", desc := "(LGapLinks$Plan;II)V" } : Jvm.MethodName)) ∈ UU := tb_3 (List.mem_of_getElem? (i := 76) rfl) rfl
theorem u3_78 : (Jvm.Cond.instanceMethod ({ cls := "GapLinks$Ways", name := "layOne", desc := "(LGapLinks$Plan;II)V" } : Jvm.MethodName)) ∈ UU := tb_3 (List.mem_of_getElem? (i := 78) rfl) rfl
theorem u3_79 : (Jvm.Cond.code ({ cls := "GapLinks$Ways", name := "layOne", desc := "(LGapLinks$Plan;II)V" } : Jvm.MethodName) prog_8_method_3_code (7 : Nat) (Option.none : Option Jvm.ClassFile.FieldType)) ∈ UU := tb_3 (List.mem_of_getElem? (i := 79) rfl) rfl
theorem u3_80 : (Jvm.Cond.methodLink "GapLinks$Ways" (59 : Nat) ({ cls := "GapLinks$Ways", name := "lengthen", desc := "(III)V" } : Jvm.MethodName)) ∈ UU := tb_3 (List.mem_of_getElem? (i := 80) rfl) rfl
theorem u3_82 : (Jvm.Cond.instanceMethod ({ cls := "GapLinks$Ways", name := "lengthen", desc := "(III)V" } : Jvm.MethodName)) ∈ UU := tb_3 (List.mem_of_getElem? (i := 82) rfl) rfl
theorem u3_83 : (Jvm.Cond.code ({ cls := "GapLinks$Ways", name := "lengthen", desc := "(III)V" } : Jvm.MethodName) prog_8_method_4_code (6 : Nat) (Option.none : Option Jvm.ClassFile.FieldType)) ∈ UU := tb_3 (List.mem_of_getElem? (i := 83) rfl) rfl
theorem u3_84 : (Jvm.Cond.methodLink "GapLinks$Ways" (63 : Nat) ({ cls := "GapLinks$Ways", name := "portAt", desc := "(II)I" } : Jvm.MethodName)) ∈ UU := tb_3 (List.mem_of_getElem? (i := 84) rfl) rfl
theorem u3_85 : (Jvm.Cond.instanceMethod ({ cls := "GapLinks$Ways", name := "portAt", desc := "(II)I" } : Jvm.MethodName)) ∈ UU := tb_3 (List.mem_of_getElem? (i := 85) rfl) rfl
theorem u3_86 : (Jvm.Cond.selects "GapLinks$Ways" ({ cls := "GapLinks$Ways", name := "portAt", desc := "(II)I" } : Jvm.MethodName) ({ cls := "GapLinks$Ways", name := "portAt", desc := "(II)I" } : Jvm.MethodName)) ∈ UU := tb_3 (List.mem_of_getElem? (i := 86) rfl) rfl
theorem u3_87 : (Jvm.Cond.code ({ cls := "GapLinks$Ways", name := "portAt", desc := "(II)I" } : Jvm.MethodName) prog_8_method_5_code (3 : Nat) (Option.some Jvm.ClassFile.FieldType.int)) ∈ UU := tb_3 (List.mem_of_getElem? (i := 87) rfl) rfl
theorem u3_88 : (Jvm.Cond.methodLink "GapLinks" (91 : Nat) ({ cls := "GapLinks$Envelope", name := "measure", desc := "(LGapLinks$Plan;)V" } : Jvm.MethodName)) ∈ UU := tb_3 (List.mem_of_getElem? (i := 88) rfl) rfl
theorem u3_89 : (Jvm.Cond.instanceMethod ({ cls := "GapLinks$Envelope", name := "measure", desc := "(LGapLinks$Plan;)V" } : Jvm.MethodName)) ∈ UU := tb_3 (List.mem_of_getElem? (i := 89) rfl) rfl
theorem u3_90 : (Jvm.Cond.selects "GapLinks$Envelope" ({ cls := "GapLinks$Envelope", name := "measure", desc := "(LGapLinks$Plan;)V" } : Jvm.MethodName) ({ cls := "GapLinks$Envelope", name := "measure", desc := "(LGapLinks$Plan;)V" } : Jvm.MethodName)) ∈ UU := tb_3 (List.mem_of_getElem? (i := 90) rfl) rfl
theorem u3_91 : (Jvm.Cond.code ({ cls := "GapLinks$Envelope", name := "measure", desc := "(LGapLinks$Plan;)V" } : Jvm.MethodName) prog_3_method_2_code (6 : Nat) (Option.none : Option Jvm.ClassFile.FieldType)) ∈ UU := tb_3 (List.mem_of_getElem? (i := 91) rfl) rfl
theorem u3_92 : (Jvm.Cond.methodLink "GapLinks$Envelope" (26 : Nat) ({ cls := "GapLinks$Envelope", name := "loadWith", desc := "(LGapLinks$Plan;III)I" } : Jvm.MethodName)) ∈ UU := tb_3 (List.mem_of_getElem? (i := 92) rfl) rfl
theorem u3_93 : (Jvm.Cond.static ({ cls := "GapLinks$Envelope", name := "loadWith", desc := "(LGapLinks$Plan;III)I" } : Jvm.MethodName)) ∈ UU := tb_3 (List.mem_of_getElem? (i := 93) rfl) rfl
theorem u3_94 : (Jvm.Cond.code ({ cls := "GapLinks$Envelope", name := "loadWith", desc := "(LGapLinks$Plan;III)I" } : Jvm.MethodName) prog_3_method_3_code (7 : Nat) (Option.some Jvm.ClassFile.FieldType.int)) ∈ UU := tb_3 (List.mem_of_getElem? (i := 94) rfl) rfl
theorem u3_95 : (Jvm.Cond.methodLink "GapLinks$Envelope" (55 : Nat) ({ cls := "GapLinks$Ways", name := "uses", desc := "(II)Z" } : Jvm.MethodName)) ∈ UU := tb_3 (List.mem_of_getElem? (i := 95) rfl) rfl
theorem u3_96 : (Jvm.Cond.instanceMethod ({ cls := "GapLinks$Ways", name := "uses", desc := "(II)Z" } : Jvm.MethodName)) ∈ UU := tb_3 (List.mem_of_getElem? (i := 96) rfl) rfl
theorem u3_97 : (Jvm.Cond.selects "GapLinks$Ways" ({ cls := "GapLinks$Ways", name := "uses", desc := "(II)Z" } : Jvm.MethodName) ({ cls := "GapLinks$Ways", name := "uses", desc := "(II)Z" } : Jvm.MethodName)) ∈ UU := tb_3 (List.mem_of_getElem? (i := 97) rfl) rfl
theorem u3_98 : (Jvm.Cond.code ({ cls := "GapLinks$Ways", name := "uses", desc := "(II)Z" } : Jvm.MethodName) prog_8_method_6_code (3 : Nat) (Option.some Jvm.ClassFile.FieldType.boolean)) ∈ UU := tb_3 (List.mem_of_getElem? (i := 98) rfl) rfl
theorem u3_99 : (Jvm.Cond.methodLink "GapLinks$Envelope" (30 : Nat) ({ cls := "GapLinks$Envelope", name := "lengthsThrough", desc := "(LGapLinks$Plan;I)J" } : Jvm.MethodName)) ∈ UU := tb_3 (List.mem_of_getElem? (i := 99) rfl) rfl
theorem u3_100 : (Jvm.Cond.static ({ cls := "GapLinks$Envelope", name := "lengthsThrough", desc := "(LGapLinks$Plan;I)J" } : Jvm.MethodName)) ∈ UU := tb_3 (List.mem_of_getElem? (i := 100) rfl) rfl
theorem u3_101 : (Jvm.Cond.code ({ cls := "GapLinks$Envelope", name := "lengthsThrough", desc := "(LGapLinks$Plan;I)J" } : Jvm.MethodName) prog_3_method_4_code (5 : Nat) (Option.some Jvm.ClassFile.FieldType.long)) ∈ UU := tb_3 (List.mem_of_getElem? (i := 101) rfl) rfl
theorem u3_102 : (Jvm.Cond.constantLong "GapLinks$Envelope" (34 : Nat) (16777216 : Int64)) ∈ UU := tb_3 (List.mem_of_getElem? (i := 102) rfl) rfl
theorem u3_103 : (Jvm.Cond.fieldLink "GapLinks$Envelope" (36 : Nat) "GapLinks$Envelope" "DOWNSTREAM" "[I") ∈ UU := tb_3 (List.mem_of_getElem? (i := 103) rfl) rfl
theorem u3_105 : (Jvm.Cond.methodLink "GapLinks$Envelope" (39 : Nat) ({ cls := "GapLinks$Envelope", name := "burstsThrough", desc := "(LGapLinks$Plan;I)J" } : Jvm.MethodName)) ∈ UU := tb_3 (List.mem_of_getElem? (i := 105) rfl) rfl
theorem u3_107 : (Jvm.Cond.instanceMethod ({ cls := "GapLinks$Envelope", name := "burstsThrough", desc := "(LGapLinks$Plan;I)J" } : Jvm.MethodName)) ∈ UU := tb_3 (List.mem_of_getElem? (i := 107) rfl) rfl
theorem u3_108 : (Jvm.Cond.code ({ cls := "GapLinks$Envelope", name := "burstsThrough", desc := "(LGapLinks$Plan;I)J" } : Jvm.MethodName) prog_3_method_5_code (6 : Nat) (Option.some Jvm.ClassFile.FieldType.long)) ∈ UU := tb_3 (List.mem_of_getElem? (i := 108) rfl) rfl
theorem u3_109 : (Jvm.Cond.methodLink "GapLinks$Envelope" (64 : Nat) ({ cls := "GapLinks$Envelope", name := "burstAt", desc := "(LGapLinks$Plan;II)J" } : Jvm.MethodName)) ∈ UU := tb_3 (List.mem_of_getElem? (i := 109) rfl) rfl
theorem u3_111 : (Jvm.Cond.instanceMethod ({ cls := "GapLinks$Envelope", name := "burstAt", desc := "(LGapLinks$Plan;II)J" } : Jvm.MethodName)) ∈ UU := tb_3 (List.mem_of_getElem? (i := 111) rfl) rfl
theorem u3_112 : (Jvm.Cond.code ({ cls := "GapLinks$Envelope", name := "burstAt", desc := "(LGapLinks$Plan;II)J" } : Jvm.MethodName) prog_3_method_6_code (5 : Nat) (Option.some Jvm.ClassFile.FieldType.long)) ∈ UU := tb_3 (List.mem_of_getElem? (i := 112) rfl) rfl
theorem u3_113 : (Jvm.Cond.methodLink "GapLinks$Envelope" (74 : Nat) ({ cls := "GapLinks$Envelope", name := "perGap", desc := "(LGapLinks$Plan;IJ)J" } : Jvm.MethodName)) ∈ UU := tb_3 (List.mem_of_getElem? (i := 113) rfl) rfl
theorem u3_114 : (Jvm.Cond.static ({ cls := "GapLinks$Envelope", name := "perGap", desc := "(LGapLinks$Plan;IJ)J" } : Jvm.MethodName)) ∈ UU := tb_3 (List.mem_of_getElem? (i := 114) rfl) rfl
theorem u3_115 : (Jvm.Cond.code ({ cls := "GapLinks$Envelope", name := "perGap", desc := "(LGapLinks$Plan;IJ)J" } : Jvm.MethodName) prog_3_method_7_code (5 : Nat) (Option.some Jvm.ClassFile.FieldType.long)) ∈ UU := tb_3 (List.mem_of_getElem? (i := 115) rfl) rfl
theorem u3_116 : (Jvm.Cond.methodLink "GapLinks" (94 : Nat) ({ cls := "GapLinks$State", name := "beginWith", desc := "(LGapLinks$Plan;)V" } : Jvm.MethodName)) ∈ UU := tb_3 (List.mem_of_getElem? (i := 116) rfl) rfl
theorem u3_117 : (Jvm.Cond.instanceMethod ({ cls := "GapLinks$State", name := "beginWith", desc := "(LGapLinks$Plan;)V" } : Jvm.MethodName)) ∈ UU := tb_3 (List.mem_of_getElem? (i := 117) rfl) rfl
theorem u3_118 : (Jvm.Cond.selects "GapLinks$State" ({ cls := "GapLinks$State", name := "beginWith", desc := "(LGapLinks$Plan;)V" } : Jvm.MethodName) ({ cls := "GapLinks$State", name := "beginWith", desc := "(LGapLinks$Plan;)V" } : Jvm.MethodName)) ∈ UU := tb_3 (List.mem_of_getElem? (i := 118) rfl) rfl
theorem u3_119 : (Jvm.Cond.code ({ cls := "GapLinks$State", name := "beginWith", desc := "(LGapLinks$Plan;)V" } : Jvm.MethodName) prog_7_method_2_code (3 : Nat) (Option.none : Option Jvm.ClassFile.FieldType)) ∈ UU := tb_3 (List.mem_of_getElem? (i := 119) rfl) rfl
theorem u3_120 : (Jvm.Cond.methodLink "GapLinks$State" (57 : Nat) ({ cls := "java/util/Arrays", name := "fill", desc := "([II)V" } : Jvm.MethodName)) ∈ UU := tb_3 (List.mem_of_getElem? (i := 120) rfl) rfl
theorem u3_121 : (Jvm.Cond.methodLink "GapLinks$State" (68 : Nat) ({ cls := "GapLinks$Plan", name := "creditLimit", desc := "(I)I" } : Jvm.MethodName)) ∈ UU := tb_3 (List.mem_of_getElem? (i := 121) rfl) rfl
theorem u3_122 : (Jvm.Cond.instanceMethod ({ cls := "GapLinks$Plan", name := "creditLimit", desc := "(I)I" } : Jvm.MethodName)) ∈ UU := tb_3 (List.mem_of_getElem? (i := 122) rfl) rfl
theorem u3_123 : (Jvm.Cond.selects "GapLinks$Plan" ({ cls := "GapLinks$Plan", name := "creditLimit", desc := "(I)I" } : Jvm.MethodName) ({ cls := "GapLinks$Plan", name := "creditLimit", desc := "(I)I" } : Jvm.MethodName)) ∈ UU := tb_3 (List.mem_of_getElem? (i := 123) rfl) rfl
theorem u3_124 : (Jvm.Cond.code ({ cls := "GapLinks$Plan", name := "creditLimit", desc := "(I)I" } : Jvm.MethodName) prog_4_method_11_code (2 : Nat) (Option.some Jvm.ClassFile.FieldType.int)) ∈ UU := tb_3 (List.mem_of_getElem? (i := 124) rfl) rfl
theorem u3_125 : (Jvm.Cond.methodLink "GapLinks$State" (72 : Nat) ({ cls := "GapLinks$Ports", name := "clear", desc := "()V" } : Jvm.MethodName)) ∈ UU := tb_3 (List.mem_of_getElem? (i := 125) rfl) rfl
theorem u3_126 : (Jvm.Cond.instanceMethod ({ cls := "GapLinks$Ports", name := "clear", desc := "()V" } : Jvm.MethodName)) ∈ UU := tb_3 (List.mem_of_getElem? (i := 126) rfl) rfl
theorem u3_127 : (Jvm.Cond.selects "GapLinks$Ports" ({ cls := "GapLinks$Ports", name := "clear", desc := "()V" } : Jvm.MethodName) ({ cls := "GapLinks$Ports", name := "clear", desc := "()V" } : Jvm.MethodName)) ∈ UU := tb_3 (List.mem_of_getElem? (i := 127) rfl) rfl
theorem u3_128 : (Jvm.Cond.code ({ cls := "GapLinks$Ports", name := "clear", desc := "()V" } : Jvm.MethodName) prog_5_method_2_code (1 : Nat) (Option.none : Option Jvm.ClassFile.FieldType)) ∈ UU := tb_3 (List.mem_of_getElem? (i := 128) rfl) rfl
theorem u3_129 : (Jvm.Cond.methodLink "GapLinks$Ports" (37 : Nat) ({ cls := "java/util/Arrays", name := "fill", desc := "([II)V" } : Jvm.MethodName)) ∈ UU := tb_3 (List.mem_of_getElem? (i := 129) rfl) rfl
theorem u3_130 : (Jvm.Cond.methodLink "GapLinks$State" (75 : Nat) ({ cls := "GapLinks$Ears", name := "clear", desc := "()V" } : Jvm.MethodName)) ∈ UU := tb_3 (List.mem_of_getElem? (i := 130) rfl) rfl
theorem u3_131 : (Jvm.Cond.instanceMethod ({ cls := "GapLinks$Ears", name := "clear", desc := "()V" } : Jvm.MethodName)) ∈ UU := tb_3 (List.mem_of_getElem? (i := 131) rfl) rfl
theorem u3_132 : (Jvm.Cond.selects "GapLinks$Ears" ({ cls := "GapLinks$Ears", name := "clear", desc := "()V" } : Jvm.MethodName) ({ cls := "GapLinks$Ears", name := "clear", desc := "()V" } : Jvm.MethodName)) ∈ UU := tb_3 (List.mem_of_getElem? (i := 132) rfl) rfl
theorem u3_133 : (Jvm.Cond.code ({ cls := "GapLinks$Ears", name := "clear", desc := "()V" } : Jvm.MethodName) prog_2_method_2_code (1 : Nat) (Option.none : Option Jvm.ClassFile.FieldType)) ∈ UU := tb_3 (List.mem_of_getElem? (i := 133) rfl) rfl
theorem u3_134 : (Jvm.Cond.methodLink "GapLinks$Ears" (46 : Nat) ({ cls := "java/util/Arrays", name := "fill", desc := "([II)V" } : Jvm.MethodName)) ∈ UU := tb_3 (List.mem_of_getElem? (i := 134) rfl) rfl
theorem u3_135 : (Jvm.Cond.methodLink "GapLinks" (100 : Nat) ({ cls := "GapLinks", name := "answer", desc := "(I)I" } : Jvm.MethodName)) ∈ UU := tb_3 (List.mem_of_getElem? (i := 135) rfl) rfl
theorem u3_137 : (Jvm.Cond.instanceMethod ({ cls := "GapLinks", name := "answer", desc := "(I)I" } : Jvm.MethodName)) ∈ UU := tb_3 (List.mem_of_getElem? (i := 137) rfl) rfl
theorem u3_138 : (Jvm.Cond.code ({ cls := "GapLinks", name := "answer", desc := "(I)I" } : Jvm.MethodName) prog_1_method_43_code (2 : Nat) (Option.some Jvm.ClassFile.FieldType.int)) ∈ UU := tb_3 (List.mem_of_getElem? (i := 138) rfl) rfl
theorem u3_139 : (Jvm.Cond.methodLink "GapLinksLaw" (28 : Nat) ({ cls := "GapLinks", name := "fault", desc := "()I" } : Jvm.MethodName)) ∈ UU := tb_3 (List.mem_of_getElem? (i := 139) rfl) rfl
theorem u3_140 : (Jvm.Cond.instanceMethod ({ cls := "GapLinks", name := "fault", desc := "()I" } : Jvm.MethodName)) ∈ UU := tb_3 (List.mem_of_getElem? (i := 140) rfl) rfl
theorem u3_141 : (Jvm.Cond.selects "GapLinks" ({ cls := "GapLinks", name := "fault", desc := "()I" } : Jvm.MethodName) ({ cls := "GapLinks", name := "fault", desc := "()I" } : Jvm.MethodName)) ∈ UU := tb_3 (List.mem_of_getElem? (i := 141) rfl) rfl
theorem u3_142 : (Jvm.Cond.code ({ cls := "GapLinks", name := "fault", desc := "()I" } : Jvm.MethodName) prog_1_method_4_code (1 : Nat) (Option.some Jvm.ClassFile.FieldType.int)) ∈ UU := tb_3 (List.mem_of_getElem? (i := 142) rfl) rfl
theorem u3_143 : (Jvm.Cond.methodLink "GapLinksLaw" (33 : Nat) ({ cls := "GapLinks", name := "where", desc := "()I" } : Jvm.MethodName)) ∈ UU := tb_3 (List.mem_of_getElem? (i := 143) rfl) rfl
theorem u3_144 : (Jvm.Cond.instanceMethod ({ cls := "GapLinks", name := "where", desc := "()I" } : Jvm.MethodName)) ∈ UU := tb_3 (List.mem_of_getElem? (i := 144) rfl) rfl
theorem u3_145 : (Jvm.Cond.selects "GapLinks" ({ cls := "GapLinks", name := "where", desc := "()I" } : Jvm.MethodName) ({ cls := "GapLinks", name := "where", desc := "()I" } : Jvm.MethodName)) ∈ UU := tb_3 (List.mem_of_getElem? (i := 145) rfl) rfl
theorem u3_146 : (Jvm.Cond.code ({ cls := "GapLinks", name := "where", desc := "()I" } : Jvm.MethodName) prog_1_method_5_code (1 : Nat) (Option.some Jvm.ClassFile.FieldType.int)) ∈ UU := tb_3 (List.mem_of_getElem? (i := 146) rfl) rfl
theorem u3_147 : (Jvm.Cond.methodLink "GapLinksLaw" (37 : Nat) ({ cls := "GapLinks", name := "about", desc := "(I)I" } : Jvm.MethodName)) ∈ UU := tb_3 (List.mem_of_getElem? (i := 147) rfl) rfl
theorem u3_148 : (Jvm.Cond.instanceMethod ({ cls := "GapLinks", name := "about", desc := "(I)I" } : Jvm.MethodName)) ∈ UU := tb_3 (List.mem_of_getElem? (i := 148) rfl) rfl
theorem u3_149 : (Jvm.Cond.selects "GapLinks" ({ cls := "GapLinks", name := "about", desc := "(I)I" } : Jvm.MethodName) ({ cls := "GapLinks", name := "about", desc := "(I)I" } : Jvm.MethodName)) ∈ UU := tb_3 (List.mem_of_getElem? (i := 149) rfl) rfl
theorem u3_150 : (Jvm.Cond.code ({ cls := "GapLinks", name := "about", desc := "(I)I" } : Jvm.MethodName) prog_1_method_6_code (2 : Nat) (Option.some Jvm.ClassFile.FieldType.int)) ∈ UU := tb_3 (List.mem_of_getElem? (i := 150) rfl) rfl
theorem u3_151 : (Jvm.Cond.methodLink "GapLinks" (103 : Nat) ({ cls := "GapLinks", name := "noBus", desc := "()Z" } : Jvm.MethodName)) ∈ UU := tb_3 (List.mem_of_getElem? (i := 151) rfl) rfl
theorem u3_153 : (Jvm.Cond.instanceMethod ({ cls := "GapLinks", name := "noBus", desc := "()Z" } : Jvm.MethodName)) ∈ UU := tb_3 (List.mem_of_getElem? (i := 153) rfl) rfl
theorem u3_154 : (Jvm.Cond.code ({ cls := "GapLinks", name := "noBus", desc := "()Z" } : Jvm.MethodName) prog_1_method_45_code (1 : Nat) (Option.some Jvm.ClassFile.FieldType.boolean)) ∈ UU := tb_3 (List.mem_of_getElem? (i := 154) rfl) rfl
theorem u3_155 : (Jvm.Cond.methodLink "GapLinksLaw" (41 : Nat) ({ cls := "GapLinks", name := "at", desc := "(I)I" } : Jvm.MethodName)) ∈ UU := tb_3 (List.mem_of_getElem? (i := 155) rfl) rfl
theorem u3_156 : (Jvm.Cond.instanceMethod ({ cls := "GapLinks", name := "at", desc := "(I)I" } : Jvm.MethodName)) ∈ UU := tb_3 (List.mem_of_getElem? (i := 156) rfl) rfl
theorem u3_157 : (Jvm.Cond.selects "GapLinks" ({ cls := "GapLinks", name := "at", desc := "(I)I" } : Jvm.MethodName) ({ cls := "GapLinks", name := "at", desc := "(I)I" } : Jvm.MethodName)) ∈ UU := tb_3 (List.mem_of_getElem? (i := 157) rfl) rfl
theorem u3_158 : (Jvm.Cond.code ({ cls := "GapLinks", name := "at", desc := "(I)I" } : Jvm.MethodName) prog_1_method_7_code (2 : Nat) (Option.some Jvm.ClassFile.FieldType.int)) ∈ UU := tb_3 (List.mem_of_getElem? (i := 158) rfl) rfl
theorem u3_159 : (Jvm.Cond.methodLink "GapLinks" (128 : Nat) ({ cls := "GapLinks$Plan", name := "hasEnd", desc := "(I)Z" } : Jvm.MethodName)) ∈ UU := tb_3 (List.mem_of_getElem? (i := 159) rfl) rfl
theorem u3_160 : (Jvm.Cond.instanceMethod ({ cls := "GapLinks$Plan", name := "hasEnd", desc := "(I)Z" } : Jvm.MethodName)) ∈ UU := tb_3 (List.mem_of_getElem? (i := 160) rfl) rfl
theorem u3_161 : (Jvm.Cond.selects "GapLinks$Plan" ({ cls := "GapLinks$Plan", name := "hasEnd", desc := "(I)Z" } : Jvm.MethodName) ({ cls := "GapLinks$Plan", name := "hasEnd", desc := "(I)Z" } : Jvm.MethodName)) ∈ UU := tb_3 (List.mem_of_getElem? (i := 161) rfl) rfl
theorem u3_162 : (Jvm.Cond.code ({ cls := "GapLinks$Plan", name := "hasEnd", desc := "(I)Z" } : Jvm.MethodName) prog_4_method_3_code (2 : Nat) (Option.some Jvm.ClassFile.FieldType.boolean)) ∈ UU := tb_3 (List.mem_of_getElem? (i := 162) rfl) rfl
theorem u3_163 : (Jvm.Cond.methodLink "GapLinksLaw" (45 : Nat) ({ cls := "GapLinks", name := "link", desc := "(II)I" } : Jvm.MethodName)) ∈ UU := tb_3 (List.mem_of_getElem? (i := 163) rfl) rfl
theorem u3_164 : (Jvm.Cond.instanceMethod ({ cls := "GapLinks", name := "link", desc := "(II)I" } : Jvm.MethodName)) ∈ UU := tb_3 (List.mem_of_getElem? (i := 164) rfl) rfl
theorem u3_165 : (Jvm.Cond.selects "GapLinks" ({ cls := "GapLinks", name := "link", desc := "(II)I" } : Jvm.MethodName) ({ cls := "GapLinks", name := "link", desc := "(II)I" } : Jvm.MethodName)) ∈ UU := tb_3 (List.mem_of_getElem? (i := 165) rfl) rfl
theorem u3_166 : (Jvm.Cond.code ({ cls := "GapLinks", name := "link", desc := "(II)I" } : Jvm.MethodName) prog_1_method_8_code (3 : Nat) (Option.some Jvm.ClassFile.FieldType.int)) ∈ UU := tb_3 (List.mem_of_getElem? (i := 166) rfl) rfl
theorem u3_167 : (Jvm.Cond.methodLink "GapLinks" (136 : Nat) ({ cls := "GapLinks$Plan", name := "hasLink", desc := "(I)Z" } : Jvm.MethodName)) ∈ UU := tb_3 (List.mem_of_getElem? (i := 167) rfl) rfl
theorem u3_168 : (Jvm.Cond.instanceMethod ({ cls := "GapLinks$Plan", name := "hasLink", desc := "(I)Z" } : Jvm.MethodName)) ∈ UU := tb_3 (List.mem_of_getElem? (i := 168) rfl) rfl
theorem u3_169 : (Jvm.Cond.selects "GapLinks$Plan" ({ cls := "GapLinks$Plan", name := "hasLink", desc := "(I)Z" } : Jvm.MethodName) ({ cls := "GapLinks$Plan", name := "hasLink", desc := "(I)Z" } : Jvm.MethodName)) ∈ UU := tb_3 (List.mem_of_getElem? (i := 169) rfl) rfl
theorem u3_170 : (Jvm.Cond.code ({ cls := "GapLinks$Plan", name := "hasLink", desc := "(I)Z" } : Jvm.MethodName) prog_4_method_4_code (2 : Nat) (Option.some Jvm.ClassFile.FieldType.boolean)) ∈ UU := tb_3 (List.mem_of_getElem? (i := 170) rfl) rfl
theorem u3_171 : (Jvm.Cond.methodLink "GapLinksLaw" (50 : Nat) ({ cls := "GapLinks", name := "receiver", desc := "(II)I" } : Jvm.MethodName)) ∈ UU := tb_3 (List.mem_of_getElem? (i := 171) rfl) rfl
theorem u3_172 : (Jvm.Cond.instanceMethod ({ cls := "GapLinks", name := "receiver", desc := "(II)I" } : Jvm.MethodName)) ∈ UU := tb_3 (List.mem_of_getElem? (i := 172) rfl) rfl
theorem u3_173 : (Jvm.Cond.selects "GapLinks" ({ cls := "GapLinks", name := "receiver", desc := "(II)I" } : Jvm.MethodName) ({ cls := "GapLinks", name := "receiver", desc := "(II)I" } : Jvm.MethodName)) ∈ UU := tb_3 (List.mem_of_getElem? (i := 173) rfl) rfl
theorem u3_174 : (Jvm.Cond.code ({ cls := "GapLinks", name := "receiver", desc := "(II)I" } : Jvm.MethodName) prog_1_method_9_code (3 : Nat) (Option.some Jvm.ClassFile.FieldType.int)) ∈ UU := tb_3 (List.mem_of_getElem? (i := 174) rfl) rfl
theorem u3_175 : (Jvm.Cond.methodLink "GapLinks" (151 : Nat) ({ cls := "GapLinks$Plan", name := "hasReceiver", desc := "(II)Z" } : Jvm.MethodName)) ∈ UU := tb_3 (List.mem_of_getElem? (i := 175) rfl) rfl
theorem u3_176 : (Jvm.Cond.instanceMethod ({ cls := "GapLinks$Plan", name := "hasReceiver", desc := "(II)Z" } : Jvm.MethodName)) ∈ UU := tb_3 (List.mem_of_getElem? (i := 176) rfl) rfl
theorem u3_177 : (Jvm.Cond.selects "GapLinks$Plan" ({ cls := "GapLinks$Plan", name := "hasReceiver", desc := "(II)Z" } : Jvm.MethodName) ({ cls := "GapLinks$Plan", name := "hasReceiver", desc := "(II)Z" } : Jvm.MethodName)) ∈ UU := tb_3 (List.mem_of_getElem? (i := 177) rfl) rfl
theorem u3_178 : (Jvm.Cond.code ({ cls := "GapLinks$Plan", name := "hasReceiver", desc := "(II)Z" } : Jvm.MethodName) prog_4_method_5_code (3 : Nat) (Option.some Jvm.ClassFile.FieldType.boolean)) ∈ UU := tb_3 (List.mem_of_getElem? (i := 178) rfl) rfl
theorem u3_179 : (Jvm.Cond.methodLink "GapLinks$Plan" (66 : Nat) ({ cls := "GapLinks$Plan", name := "hasLink", desc := "(I)Z" } : Jvm.MethodName)) ∈ UU := tb_3 (List.mem_of_getElem? (i := 179) rfl) rfl
theorem u3_180 : (Jvm.Cond.methodLink "GapLinks" (158 : Nat) ({ cls := "GapLinks", name := "earOf", desc := "(II)I" } : Jvm.MethodName)) ∈ UU := tb_3 (List.mem_of_getElem? (i := 180) rfl) rfl
theorem u3_181 : (Jvm.Cond.methodLink "GapLinksLaw" (56 : Nat) ({ cls := "GapLinks", name := "named", desc := "(J)I" } : Jvm.MethodName)) ∈ UU := tb_3 (List.mem_of_getElem? (i := 181) rfl) rfl
theorem u3_182 : (Jvm.Cond.instanceMethod ({ cls := "GapLinks", name := "named", desc := "(J)I" } : Jvm.MethodName)) ∈ UU := tb_3 (List.mem_of_getElem? (i := 182) rfl) rfl
theorem u3_183 : (Jvm.Cond.selects "GapLinks" ({ cls := "GapLinks", name := "named", desc := "(J)I" } : Jvm.MethodName) ({ cls := "GapLinks", name := "named", desc := "(J)I" } : Jvm.MethodName)) ∈ UU := tb_3 (List.mem_of_getElem? (i := 183) rfl) rfl
theorem u3_184 : (Jvm.Cond.code ({ cls := "GapLinks", name := "named", desc := "(J)I" } : Jvm.MethodName) prog_1_method_10_code (5 : Nat) (Option.some Jvm.ClassFile.FieldType.int)) ∈ UU := tb_3 (List.mem_of_getElem? (i := 184) rfl) rfl
theorem u3_185 : (Jvm.Cond.methodLink "GapLinks" (162 : Nat) ({ cls := "GapLinks$Plan", name := "endNamed", desc := "(J)I" } : Jvm.MethodName)) ∈ UU := tb_3 (List.mem_of_getElem? (i := 185) rfl) rfl
theorem u3_186 : (Jvm.Cond.methodLink "GapLinks" (166 : Nat) ({ cls := "GapLinks$Plan", name := "linkNamed", desc := "(J)I" } : Jvm.MethodName)) ∈ UU := tb_3 (List.mem_of_getElem? (i := 186) rfl) rfl
theorem u3_187 : (Jvm.Cond.methodLink "GapLinksLaw" (61 : Nat) ({ cls := "GapLinks", name := "way", desc := "(III)I" } : Jvm.MethodName)) ∈ UU := tb_3 (List.mem_of_getElem? (i := 187) rfl) rfl
theorem u3_188 : (Jvm.Cond.instanceMethod ({ cls := "GapLinks", name := "way", desc := "(III)I" } : Jvm.MethodName)) ∈ UU := tb_3 (List.mem_of_getElem? (i := 188) rfl) rfl
theorem u3_189 : (Jvm.Cond.selects "GapLinks" ({ cls := "GapLinks", name := "way", desc := "(III)I" } : Jvm.MethodName) ({ cls := "GapLinks", name := "way", desc := "(III)I" } : Jvm.MethodName)) ∈ UU := tb_3 (List.mem_of_getElem? (i := 189) rfl) rfl
theorem u3_190 : (Jvm.Cond.code ({ cls := "GapLinks", name := "way", desc := "(III)I" } : Jvm.MethodName) prog_1_method_11_code (4 : Nat) (Option.some Jvm.ClassFile.FieldType.int)) ∈ UU := tb_3 (List.mem_of_getElem? (i := 190) rfl) rfl
theorem u3_191 : (Jvm.Cond.methodLink "GapLinks" (169 : Nat) ({ cls := "GapLinks", name := "hasPortOnWay", desc := "(III)Z" } : Jvm.MethodName)) ∈ UU := tb_3 (List.mem_of_getElem? (i := 191) rfl) rfl
theorem u3_193 : (Jvm.Cond.instanceMethod ({ cls := "GapLinks", name := "hasPortOnWay", desc := "(III)Z" } : Jvm.MethodName)) ∈ UU := tb_3 (List.mem_of_getElem? (i := 193) rfl) rfl
theorem u3_194 : (Jvm.Cond.code ({ cls := "GapLinks", name := "hasPortOnWay", desc := "(III)Z" } : Jvm.MethodName) prog_1_method_46_code (4 : Nat) (Option.some Jvm.ClassFile.FieldType.boolean)) ∈ UU := tb_3 (List.mem_of_getElem? (i := 194) rfl) rfl
theorem u3_195 : (Jvm.Cond.methodLink "GapLinks" (173 : Nat) ({ cls := "GapLinks$Ways", name := "portAt", desc := "(II)I" } : Jvm.MethodName)) ∈ UU := tb_3 (List.mem_of_getElem? (i := 195) rfl) rfl
theorem u3_196 : (Jvm.Cond.methodLink "GapLinksLaw" (66 : Nat) ({ cls := "GapLinks", name := "waits", desc := "(II)I" } : Jvm.MethodName)) ∈ UU := tb_3 (List.mem_of_getElem? (i := 196) rfl) rfl
theorem u3_197 : (Jvm.Cond.instanceMethod ({ cls := "GapLinks", name := "waits", desc := "(II)I" } : Jvm.MethodName)) ∈ UU := tb_3 (List.mem_of_getElem? (i := 197) rfl) rfl
theorem u3_198 : (Jvm.Cond.selects "GapLinks" ({ cls := "GapLinks", name := "waits", desc := "(II)I" } : Jvm.MethodName) ({ cls := "GapLinks", name := "waits", desc := "(II)I" } : Jvm.MethodName)) ∈ UU := tb_3 (List.mem_of_getElem? (i := 198) rfl) rfl
theorem u3_199 : (Jvm.Cond.code ({ cls := "GapLinks", name := "waits", desc := "(II)I" } : Jvm.MethodName) prog_1_method_12_code (3 : Nat) (Option.some Jvm.ClassFile.FieldType.int)) ∈ UU := tb_3 (List.mem_of_getElem? (i := 199) rfl) rfl
theorem u3_200 : (Jvm.Cond.methodLink "GapLinksLaw" (70 : Nat) ({ cls := "GapLinks", name := "credit", desc := "(II)I" } : Jvm.MethodName)) ∈ UU := tb_3 (List.mem_of_getElem? (i := 200) rfl) rfl
theorem u3_201 : (Jvm.Cond.instanceMethod ({ cls := "GapLinks", name := "credit", desc := "(II)I" } : Jvm.MethodName)) ∈ UU := tb_3 (List.mem_of_getElem? (i := 201) rfl) rfl
theorem u3_202 : (Jvm.Cond.selects "GapLinks" ({ cls := "GapLinks", name := "credit", desc := "(II)I" } : Jvm.MethodName) ({ cls := "GapLinks", name := "credit", desc := "(II)I" } : Jvm.MethodName)) ∈ UU := tb_3 (List.mem_of_getElem? (i := 202) rfl) rfl
theorem u3_203 : (Jvm.Cond.code ({ cls := "GapLinks", name := "credit", desc := "(II)I" } : Jvm.MethodName) prog_1_method_13_code (3 : Nat) (Option.some Jvm.ClassFile.FieldType.int)) ∈ UU := tb_3 (List.mem_of_getElem? (i := 203) rfl) rfl
theorem u3_204 : (Jvm.Cond.methodLink "GapLinks" (191 : Nat) ({ cls := "GapLinks", name := "hasNet", desc := "(I)Z" } : Jvm.MethodName)) ∈ UU := tb_3 (List.mem_of_getElem? (i := 204) rfl) rfl
theorem u3_205 : (Jvm.Cond.static ({ cls := "GapLinks", name := "hasNet", desc := "(I)Z" } : Jvm.MethodName)) ∈ UU := tb_3 (List.mem_of_getElem? (i := 205) rfl) rfl
theorem u3_206 : (Jvm.Cond.code ({ cls := "GapLinks", name := "hasNet", desc := "(I)Z" } : Jvm.MethodName) prog_1_method_47_code (1 : Nat) (Option.some Jvm.ClassFile.FieldType.boolean)) ∈ UU := tb_3 (List.mem_of_getElem? (i := 206) rfl) rfl
theorem u3_207 : (Jvm.Cond.methodLink "GapLinksLaw" (74 : Nat) ({ cls := "GapLinks", name := "port", desc := "(III)I" } : Jvm.MethodName)) ∈ UU := tb_3 (List.mem_of_getElem? (i := 207) rfl) rfl
theorem u3_208 : (Jvm.Cond.instanceMethod ({ cls := "GapLinks", name := "port", desc := "(III)I" } : Jvm.MethodName)) ∈ UU := tb_3 (List.mem_of_getElem? (i := 208) rfl) rfl
theorem u3_209 : (Jvm.Cond.selects "GapLinks" ({ cls := "GapLinks", name := "port", desc := "(III)I" } : Jvm.MethodName) ({ cls := "GapLinks", name := "port", desc := "(III)I" } : Jvm.MethodName)) ∈ UU := tb_3 (List.mem_of_getElem? (i := 209) rfl) rfl
theorem u3_210 : (Jvm.Cond.code ({ cls := "GapLinks", name := "port", desc := "(III)I" } : Jvm.MethodName) prog_1_method_14_code (5 : Nat) (Option.some Jvm.ClassFile.FieldType.int)) ∈ UU := tb_3 (List.mem_of_getElem? (i := 210) rfl) rfl
theorem u3_211 : (Jvm.Cond.methodLink "GapLinks" (197 : Nat) ({ cls := "GapLinks$Plan", name := "hasPort", desc := "(I)Z" } : Jvm.MethodName)) ∈ UU := tb_3 (List.mem_of_getElem? (i := 211) rfl) rfl
theorem u3_212 : (Jvm.Cond.instanceMethod ({ cls := "GapLinks$Plan", name := "hasPort", desc := "(I)Z" } : Jvm.MethodName)) ∈ UU := tb_3 (List.mem_of_getElem? (i := 212) rfl) rfl
theorem u3_213 : (Jvm.Cond.selects "GapLinks$Plan" ({ cls := "GapLinks$Plan", name := "hasPort", desc := "(I)Z" } : Jvm.MethodName) ({ cls := "GapLinks$Plan", name := "hasPort", desc := "(I)Z" } : Jvm.MethodName)) ∈ UU := tb_3 (List.mem_of_getElem? (i := 213) rfl) rfl
theorem u3_214 : (Jvm.Cond.code ({ cls := "GapLinks$Plan", name := "hasPort", desc := "(I)Z" } : Jvm.MethodName) prog_4_method_6_code (2 : Nat) (Option.some Jvm.ClassFile.FieldType.boolean)) ∈ UU := tb_3 (List.mem_of_getElem? (i := 214) rfl) rfl
theorem u3_215 : (Jvm.Cond.methodLink "GapLinks$Plan" (70 : Nat) ({ cls := "GapLinks$Plan", name := "hasEnd", desc := "(I)Z" } : Jvm.MethodName)) ∈ UU := tb_3 (List.mem_of_getElem? (i := 215) rfl) rfl
theorem u3_216 : (Jvm.Cond.methodLink "GapLinks" (209 : Nat) ({ cls := "GapLinks$Ports", name := "linkBeingSent", desc := "(I)I" } : Jvm.MethodName)) ∈ UU := tb_3 (List.mem_of_getElem? (i := 216) rfl) rfl
theorem u3_217 : (Jvm.Cond.instanceMethod ({ cls := "GapLinks$Ports", name := "linkBeingSent", desc := "(I)I" } : Jvm.MethodName)) ∈ UU := tb_3 (List.mem_of_getElem? (i := 217) rfl) rfl
theorem u3_218 : (Jvm.Cond.selects "GapLinks$Ports" ({ cls := "GapLinks$Ports", name := "linkBeingSent", desc := "(I)I" } : Jvm.MethodName) ({ cls := "GapLinks$Ports", name := "linkBeingSent", desc := "(I)I" } : Jvm.MethodName)) ∈ UU := tb_3 (List.mem_of_getElem? (i := 218) rfl) rfl
theorem u3_219 : (Jvm.Cond.code ({ cls := "GapLinks$Ports", name := "linkBeingSent", desc := "(I)I" } : Jvm.MethodName) prog_5_method_6_code (2 : Nat) (Option.some Jvm.ClassFile.FieldType.int)) ∈ UU := tb_3 (List.mem_of_getElem? (i := 219) rfl) rfl
theorem u3_220 : (Jvm.Cond.methodLink "GapLinks$Ports" (47 : Nat) ({ cls := "GapLinks$Ports", name := "sends", desc := "(I)Z" } : Jvm.MethodName)) ∈ UU := tb_3 (List.mem_of_getElem? (i := 220) rfl) rfl
theorem u3_221 : (Jvm.Cond.instanceMethod ({ cls := "GapLinks$Ports", name := "sends", desc := "(I)Z" } : Jvm.MethodName)) ∈ UU := tb_3 (List.mem_of_getElem? (i := 221) rfl) rfl
theorem u3_222 : (Jvm.Cond.selects "GapLinks$Ports" ({ cls := "GapLinks$Ports", name := "sends", desc := "(I)Z" } : Jvm.MethodName) ({ cls := "GapLinks$Ports", name := "sends", desc := "(I)Z" } : Jvm.MethodName)) ∈ UU := tb_3 (List.mem_of_getElem? (i := 222) rfl) rfl
theorem u3_223 : (Jvm.Cond.code ({ cls := "GapLinks$Ports", name := "sends", desc := "(I)Z" } : Jvm.MethodName) prog_5_method_5_code (2 : Nat) (Option.some Jvm.ClassFile.FieldType.boolean)) ∈ UU := tb_3 (List.mem_of_getElem? (i := 223) rfl) rfl
theorem u3_224 : (Jvm.Cond.methodLink "GapLinks$Ports" (51 : Nat) ({ cls := "GapLinks$Ports", name := "slot", desc := "(II)I" } : Jvm.MethodName)) ∈ UU := tb_3 (List.mem_of_getElem? (i := 224) rfl) rfl
theorem u3_225 : (Jvm.Cond.instanceMethod ({ cls := "GapLinks$Ports", name := "slot", desc := "(II)I" } : Jvm.MethodName)) ∈ UU := tb_3 (List.mem_of_getElem? (i := 225) rfl) rfl
theorem u3_226 : (Jvm.Cond.selects "GapLinks$Ports" ({ cls := "GapLinks$Ports", name := "slot", desc := "(II)I" } : Jvm.MethodName) ({ cls := "GapLinks$Ports", name := "slot", desc := "(II)I" } : Jvm.MethodName)) ∈ UU := tb_3 (List.mem_of_getElem? (i := 226) rfl) rfl
theorem u3_227 : (Jvm.Cond.code ({ cls := "GapLinks$Ports", name := "slot", desc := "(II)I" } : Jvm.MethodName) prog_5_method_4_code (3 : Nat) (Option.some Jvm.ClassFile.FieldType.int)) ∈ UU := tb_3 (List.mem_of_getElem? (i := 227) rfl) rfl
theorem u3_228 : (Jvm.Cond.methodLink "GapLinksLaw" (78 : Nat) ({ cls := "GapLinks", name := "frame", desc := "(IIII)I" } : Jvm.MethodName)) ∈ UU := tb_3 (List.mem_of_getElem? (i := 228) rfl) rfl
theorem u3_229 : (Jvm.Cond.instanceMethod ({ cls := "GapLinks", name := "frame", desc := "(IIII)I" } : Jvm.MethodName)) ∈ UU := tb_3 (List.mem_of_getElem? (i := 229) rfl) rfl
theorem u3_230 : (Jvm.Cond.selects "GapLinks" ({ cls := "GapLinks", name := "frame", desc := "(IIII)I" } : Jvm.MethodName) ({ cls := "GapLinks", name := "frame", desc := "(IIII)I" } : Jvm.MethodName)) ∈ UU := tb_3 (List.mem_of_getElem? (i := 230) rfl) rfl
theorem u3_231 : (Jvm.Cond.code ({ cls := "GapLinks", name := "frame", desc := "(IIII)I" } : Jvm.MethodName) prog_1_method_15_code (7 : Nat) (Option.some Jvm.ClassFile.FieldType.int)) ∈ UU := tb_3 (List.mem_of_getElem? (i := 231) rfl) rfl
theorem u3_232 : (Jvm.Cond.methodLink "GapLinks" (218 : Nat) ({ cls := "GapLinks$Ports", name := "slot", desc := "(II)I" } : Jvm.MethodName)) ∈ UU := tb_3 (List.mem_of_getElem? (i := 232) rfl) rfl
theorem u3_233 : (Jvm.Cond.methodLink "GapLinksLaw" (83 : Nat) ({ cls := "GapLinks", name := "lost", desc := "(II)I" } : Jvm.MethodName)) ∈ UU := tb_3 (List.mem_of_getElem? (i := 233) rfl) rfl
theorem u3_234 : (Jvm.Cond.instanceMethod ({ cls := "GapLinks", name := "lost", desc := "(II)I" } : Jvm.MethodName)) ∈ UU := tb_3 (List.mem_of_getElem? (i := 234) rfl) rfl
theorem u3_235 : (Jvm.Cond.selects "GapLinks" ({ cls := "GapLinks", name := "lost", desc := "(II)I" } : Jvm.MethodName) ({ cls := "GapLinks", name := "lost", desc := "(II)I" } : Jvm.MethodName)) ∈ UU := tb_3 (List.mem_of_getElem? (i := 235) rfl) rfl
theorem u3_236 : (Jvm.Cond.code ({ cls := "GapLinks", name := "lost", desc := "(II)I" } : Jvm.MethodName) prog_1_method_16_code (3 : Nat) (Option.some Jvm.ClassFile.FieldType.int)) ∈ UU := tb_3 (List.mem_of_getElem? (i := 236) rfl) rfl
theorem u3_237 : (Jvm.Cond.methodLink "GapLinks" (226 : Nat) ({ cls := "GapLinks", name := "isLostSort", desc := "(I)Z" } : Jvm.MethodName)) ∈ UU := tb_3 (List.mem_of_getElem? (i := 237) rfl) rfl
theorem u3_238 : (Jvm.Cond.static ({ cls := "GapLinks", name := "isLostSort", desc := "(I)Z" } : Jvm.MethodName)) ∈ UU := tb_3 (List.mem_of_getElem? (i := 238) rfl) rfl
theorem u3_239 : (Jvm.Cond.code ({ cls := "GapLinks", name := "isLostSort", desc := "(I)Z" } : Jvm.MethodName) prog_1_method_48_code (1 : Nat) (Option.some Jvm.ClassFile.FieldType.boolean)) ∈ UU := tb_3 (List.mem_of_getElem? (i := 239) rfl) rfl
theorem u4_0 : (Jvm.Cond.methodLink "GapLinksLaw" (87 : Nat) ({ cls := "GapLinks", name := "policed", desc := "(II)I" } : Jvm.MethodName)) ∈ UU := tb_4 (List.mem_of_getElem? (i := 0) rfl) rfl
theorem u4_1 : (Jvm.Cond.instanceMethod ({ cls := "GapLinks", name := "policed", desc := "(II)I" } : Jvm.MethodName)) ∈ UU := tb_4 (List.mem_of_getElem? (i := 1) rfl) rfl
theorem u4_2 : (Jvm.Cond.selects "GapLinks" ({ cls := "GapLinks", name := "policed", desc := "(II)I" } : Jvm.MethodName) ({ cls := "GapLinks", name := "policed", desc := "(II)I" } : Jvm.MethodName)) ∈ UU := tb_4 (List.mem_of_getElem? (i := 2) rfl) rfl
theorem u4_3 : (Jvm.Cond.code ({ cls := "GapLinks", name := "policed", desc := "(II)I" } : Jvm.MethodName) prog_1_method_17_code (3 : Nat) (Option.some Jvm.ClassFile.FieldType.int)) ∈ UU := tb_4 (List.mem_of_getElem? (i := 3) rfl) rfl
theorem u4_4 : (Jvm.Cond.methodLink "GapLinksLaw" (91 : Nat) ({ cls := "GapLinks", name := "heard", desc := "(III)I" } : Jvm.MethodName)) ∈ UU := tb_4 (List.mem_of_getElem? (i := 4) rfl) rfl
theorem u4_5 : (Jvm.Cond.instanceMethod ({ cls := "GapLinks", name := "heard", desc := "(III)I" } : Jvm.MethodName)) ∈ UU := tb_4 (List.mem_of_getElem? (i := 5) rfl) rfl
theorem u4_6 : (Jvm.Cond.selects "GapLinks" ({ cls := "GapLinks", name := "heard", desc := "(III)I" } : Jvm.MethodName) ({ cls := "GapLinks", name := "heard", desc := "(III)I" } : Jvm.MethodName)) ∈ UU := tb_4 (List.mem_of_getElem? (i := 6) rfl) rfl
theorem u4_7 : (Jvm.Cond.code ({ cls := "GapLinks", name := "heard", desc := "(III)I" } : Jvm.MethodName) prog_1_method_18_code (4 : Nat) (Option.some Jvm.ClassFile.FieldType.int)) ∈ UU := tb_4 (List.mem_of_getElem? (i := 7) rfl) rfl
theorem u4_8 : (Jvm.Cond.methodLink "GapLinks" (235 : Nat) ({ cls := "GapLinks$Ears", name := "tells", desc := "(I)Z" } : Jvm.MethodName)) ∈ UU := tb_4 (List.mem_of_getElem? (i := 8) rfl) rfl
theorem u4_9 : (Jvm.Cond.static ({ cls := "GapLinks$Ears", name := "tells", desc := "(I)Z" } : Jvm.MethodName)) ∈ UU := tb_4 (List.mem_of_getElem? (i := 9) rfl) rfl
theorem u4_10 : (Jvm.Cond.code ({ cls := "GapLinks$Ears", name := "tells", desc := "(I)Z" } : Jvm.MethodName) prog_2_method_4_code (1 : Nat) (Option.some Jvm.ClassFile.FieldType.boolean)) ∈ UU := tb_4 (List.mem_of_getElem? (i := 10) rfl) rfl
theorem u4_11 : (Jvm.Cond.methodLink "GapLinks" (244 : Nat) ({ cls := "GapLinks$Ears", name := "told", desc := "(II)I" } : Jvm.MethodName)) ∈ UU := tb_4 (List.mem_of_getElem? (i := 11) rfl) rfl
theorem u4_12 : (Jvm.Cond.instanceMethod ({ cls := "GapLinks$Ears", name := "told", desc := "(II)I" } : Jvm.MethodName)) ∈ UU := tb_4 (List.mem_of_getElem? (i := 12) rfl) rfl
theorem u4_13 : (Jvm.Cond.selects "GapLinks$Ears" ({ cls := "GapLinks$Ears", name := "told", desc := "(II)I" } : Jvm.MethodName) ({ cls := "GapLinks$Ears", name := "told", desc := "(II)I" } : Jvm.MethodName)) ∈ UU := tb_4 (List.mem_of_getElem? (i := 13) rfl) rfl
theorem u4_14 : (Jvm.Cond.code ({ cls := "GapLinks$Ears", name := "told", desc := "(II)I" } : Jvm.MethodName) prog_2_method_5_code (3 : Nat) (Option.some Jvm.ClassFile.FieldType.int)) ∈ UU := tb_4 (List.mem_of_getElem? (i := 14) rfl) rfl
theorem u4_15 : (Jvm.Cond.methodLink "GapLinksLaw" (95 : Nat) ({ cls := "GapLinks", name := "seen", desc := "(III)I" } : Jvm.MethodName)) ∈ UU := tb_4 (List.mem_of_getElem? (i := 15) rfl) rfl
theorem u4_16 : (Jvm.Cond.instanceMethod ({ cls := "GapLinks", name := "seen", desc := "(III)I" } : Jvm.MethodName)) ∈ UU := tb_4 (List.mem_of_getElem? (i := 16) rfl) rfl
theorem u4_17 : (Jvm.Cond.selects "GapLinks" ({ cls := "GapLinks", name := "seen", desc := "(III)I" } : Jvm.MethodName) ({ cls := "GapLinks", name := "seen", desc := "(III)I" } : Jvm.MethodName)) ∈ UU := tb_4 (List.mem_of_getElem? (i := 17) rfl) rfl
theorem u4_18 : (Jvm.Cond.code ({ cls := "GapLinks", name := "seen", desc := "(III)I" } : Jvm.MethodName) prog_1_method_19_code (4 : Nat) (Option.some Jvm.ClassFile.FieldType.int)) ∈ UU := tb_4 (List.mem_of_getElem? (i := 18) rfl) rfl
theorem u4_19 : (Jvm.Cond.methodLink "GapLinksLaw" (99 : Nat) ({ cls := "GapLinks", name := "taken", desc := "(III)I" } : Jvm.MethodName)) ∈ UU := tb_4 (List.mem_of_getElem? (i := 19) rfl) rfl
theorem u4_20 : (Jvm.Cond.instanceMethod ({ cls := "GapLinks", name := "taken", desc := "(III)I" } : Jvm.MethodName)) ∈ UU := tb_4 (List.mem_of_getElem? (i := 20) rfl) rfl
theorem u4_21 : (Jvm.Cond.selects "GapLinks" ({ cls := "GapLinks", name := "taken", desc := "(III)I" } : Jvm.MethodName) ({ cls := "GapLinks", name := "taken", desc := "(III)I" } : Jvm.MethodName)) ∈ UU := tb_4 (List.mem_of_getElem? (i := 21) rfl) rfl
theorem u4_22 : (Jvm.Cond.code ({ cls := "GapLinks", name := "taken", desc := "(III)I" } : Jvm.MethodName) prog_1_method_20_code (4 : Nat) (Option.some Jvm.ClassFile.FieldType.int)) ∈ UU := tb_4 (List.mem_of_getElem? (i := 22) rfl) rfl
theorem u4_23 : (Jvm.Cond.methodLink "GapLinks" (250 : Nat) ({ cls := "GapLinks$Ears", name := "remembers", desc := "(II)Z" } : Jvm.MethodName)) ∈ UU := tb_4 (List.mem_of_getElem? (i := 23) rfl) rfl
theorem u4_24 : (Jvm.Cond.instanceMethod ({ cls := "GapLinks$Ears", name := "remembers", desc := "(II)Z" } : Jvm.MethodName)) ∈ UU := tb_4 (List.mem_of_getElem? (i := 24) rfl) rfl
theorem u4_25 : (Jvm.Cond.selects "GapLinks$Ears" ({ cls := "GapLinks$Ears", name := "remembers", desc := "(II)Z" } : Jvm.MethodName) ({ cls := "GapLinks$Ears", name := "remembers", desc := "(II)Z" } : Jvm.MethodName)) ∈ UU := tb_4 (List.mem_of_getElem? (i := 25) rfl) rfl
theorem u4_26 : (Jvm.Cond.code ({ cls := "GapLinks$Ears", name := "remembers", desc := "(II)Z" } : Jvm.MethodName) prog_2_method_6_code (3 : Nat) (Option.some Jvm.ClassFile.FieldType.boolean)) ∈ UU := tb_4 (List.mem_of_getElem? (i := 26) rfl) rfl
theorem u4_27 : (Jvm.Cond.methodLink "GapLinks$Ears" (56 : Nat) ({ cls := "java/lang/Math", name := "min", desc := "(II)I" } : Jvm.MethodName)) ∈ UU := tb_4 (List.mem_of_getElem? (i := 27) rfl) rfl
theorem u4_28 : (Jvm.Cond.methodLink "GapLinks" (253 : Nat) ({ cls := "GapLinks$Ears", name := "remembered", desc := "(II)I" } : Jvm.MethodName)) ∈ UU := tb_4 (List.mem_of_getElem? (i := 28) rfl) rfl
theorem u4_29 : (Jvm.Cond.instanceMethod ({ cls := "GapLinks$Ears", name := "remembered", desc := "(II)I" } : Jvm.MethodName)) ∈ UU := tb_4 (List.mem_of_getElem? (i := 29) rfl) rfl
theorem u4_30 : (Jvm.Cond.selects "GapLinks$Ears" ({ cls := "GapLinks$Ears", name := "remembered", desc := "(II)I" } : Jvm.MethodName) ({ cls := "GapLinks$Ears", name := "remembered", desc := "(II)I" } : Jvm.MethodName)) ∈ UU := tb_4 (List.mem_of_getElem? (i := 30) rfl) rfl
theorem u4_31 : (Jvm.Cond.code ({ cls := "GapLinks$Ears", name := "remembered", desc := "(II)I" } : Jvm.MethodName) prog_2_method_7_code (3 : Nat) (Option.some Jvm.ClassFile.FieldType.int)) ∈ UU := tb_4 (List.mem_of_getElem? (i := 31) rfl) rfl
theorem u4_32 : (Jvm.Cond.methodLink "GapLinks$Ears" (62 : Nat) ({ cls := "GapLinks$Ears", name := "memoryOf", desc := "(II)I" } : Jvm.MethodName)) ∈ UU := tb_4 (List.mem_of_getElem? (i := 32) rfl) rfl
theorem u4_33 : (Jvm.Cond.static ({ cls := "GapLinks$Ears", name := "memoryOf", desc := "(II)I" } : Jvm.MethodName)) ∈ UU := tb_4 (List.mem_of_getElem? (i := 33) rfl) rfl
theorem u4_34 : (Jvm.Cond.code ({ cls := "GapLinks$Ears", name := "memoryOf", desc := "(II)I" } : Jvm.MethodName) prog_2_method_8_code (2 : Nat) (Option.some Jvm.ClassFile.FieldType.int)) ∈ UU := tb_4 (List.mem_of_getElem? (i := 34) rfl) rfl
theorem u4_35 : (Jvm.Cond.methodLink "GapLinksLaw" (103 : Nat) ({ cls := "GapLinks", name := "load", desc := "(IZ)J" } : Jvm.MethodName)) ∈ UU := tb_4 (List.mem_of_getElem? (i := 35) rfl) rfl
theorem u4_36 : (Jvm.Cond.instanceMethod ({ cls := "GapLinks", name := "load", desc := "(IZ)J" } : Jvm.MethodName)) ∈ UU := tb_4 (List.mem_of_getElem? (i := 36) rfl) rfl
theorem u4_37 : (Jvm.Cond.selects "GapLinks" ({ cls := "GapLinks", name := "load", desc := "(IZ)J" } : Jvm.MethodName) ({ cls := "GapLinks", name := "load", desc := "(IZ)J" } : Jvm.MethodName)) ∈ UU := tb_4 (List.mem_of_getElem? (i := 37) rfl) rfl
theorem u4_38 : (Jvm.Cond.code ({ cls := "GapLinks", name := "load", desc := "(IZ)J" } : Jvm.MethodName) prog_1_method_21_code (3 : Nat) (Option.some Jvm.ClassFile.FieldType.long)) ∈ UU := tb_4 (List.mem_of_getElem? (i := 38) rfl) rfl
theorem u4_39 : (Jvm.Cond.methodLink "GapLinks" (256 : Nat) ({ cls := "GapLinks$Envelope", name := "loadOf", desc := "(I)J" } : Jvm.MethodName)) ∈ UU := tb_4 (List.mem_of_getElem? (i := 39) rfl) rfl
theorem u4_40 : (Jvm.Cond.instanceMethod ({ cls := "GapLinks$Envelope", name := "loadOf", desc := "(I)J" } : Jvm.MethodName)) ∈ UU := tb_4 (List.mem_of_getElem? (i := 40) rfl) rfl
theorem u4_41 : (Jvm.Cond.selects "GapLinks$Envelope" ({ cls := "GapLinks$Envelope", name := "loadOf", desc := "(I)J" } : Jvm.MethodName) ({ cls := "GapLinks$Envelope", name := "loadOf", desc := "(I)J" } : Jvm.MethodName)) ∈ UU := tb_4 (List.mem_of_getElem? (i := 41) rfl) rfl
theorem u4_42 : (Jvm.Cond.code ({ cls := "GapLinks$Envelope", name := "loadOf", desc := "(I)J" } : Jvm.MethodName) prog_3_method_8_code (2 : Nat) (Option.some Jvm.ClassFile.FieldType.long)) ∈ UU := tb_4 (List.mem_of_getElem? (i := 42) rfl) rfl
theorem u4_43 : (Jvm.Cond.constantLong "GapLinks$Envelope" (78 : Nat) (65536 : Int64)) ∈ UU := tb_4 (List.mem_of_getElem? (i := 43) rfl) rfl
theorem u4_44 : (Jvm.Cond.methodLink "GapLinks" (260 : Nat) ({ cls := "GapLinks", name := "part", desc := "(JZ)J" } : Jvm.MethodName)) ∈ UU := tb_4 (List.mem_of_getElem? (i := 44) rfl) rfl
theorem u4_46 : (Jvm.Cond.instanceMethod ({ cls := "GapLinks", name := "part", desc := "(JZ)J" } : Jvm.MethodName)) ∈ UU := tb_4 (List.mem_of_getElem? (i := 46) rfl) rfl
theorem u4_47 : (Jvm.Cond.code ({ cls := "GapLinks", name := "part", desc := "(JZ)J" } : Jvm.MethodName) prog_1_method_44_code (5 : Nat) (Option.some Jvm.ClassFile.FieldType.long)) ∈ UU := tb_4 (List.mem_of_getElem? (i := 47) rfl) rfl
theorem u4_48 : (Jvm.Cond.methodLink "GapLinks" (338 : Nat) ({ cls := "java/lang/Long", name := "numberOfTrailingZeros", desc := "(J)I" } : Jvm.MethodName)) ∈ UU := tb_4 (List.mem_of_getElem? (i := 48) rfl) rfl
theorem u4_49 : (Jvm.Cond.static ({ cls := "java/lang/Long", name := "numberOfTrailingZeros", desc := "(J)I" } : Jvm.MethodName)) ∈ UU := tb_4 (List.mem_of_getElem? (i := 49) rfl) rfl
theorem u4_50 : (Jvm.Cond.code ({ cls := "java/lang/Long", name := "numberOfTrailingZeros", desc := "(J)I" } : Jvm.MethodName) prog_16_method_49_code (3 : Nat) (Option.some Jvm.ClassFile.FieldType.int)) ∈ UU := tb_4 (List.mem_of_getElem? (i := 50) rfl) rfl
theorem u4_51 : (Jvm.Cond.methodLink "java/lang/Long" (311 : Nat) ({ cls := "java/lang/Integer", name := "numberOfTrailingZeros", desc := "(I)I" } : Jvm.MethodName)) ∈ UU := tb_4 (List.mem_of_getElem? (i := 51) rfl) rfl
theorem u4_52 : (Jvm.Cond.static ({ cls := "java/lang/Integer", name := "numberOfTrailingZeros", desc := "(I)I" } : Jvm.MethodName)) ∈ UU := tb_4 (List.mem_of_getElem? (i := 52) rfl) rfl
theorem u4_53 : (Jvm.Cond.code ({ cls := "java/lang/Integer", name := "numberOfTrailingZeros", desc := "(I)I" } : Jvm.MethodName) prog_15_method_48_code (2 : Nat) (Option.some Jvm.ClassFile.FieldType.int)) ∈ UU := tb_4 (List.mem_of_getElem? (i := 53) rfl) rfl
theorem u4_54 : (Jvm.Cond.constant "java/lang/Integer" (264 : Nat) (65536 : Int32)) ∈ UU := tb_4 (List.mem_of_getElem? (i := 54) rfl) rfl
theorem u4_55 : (Jvm.Cond.methodLink "GapLinks" (343 : Nat) ({ cls := "java/lang/Math", name := "min", desc := "(II)I" } : Jvm.MethodName)) ∈ UU := tb_4 (List.mem_of_getElem? (i := 55) rfl) rfl
theorem u4_56 : (Jvm.Cond.constantLong "GapLinks" (281 : Nat) (16777216 : Int64)) ∈ UU := tb_4 (List.mem_of_getElem? (i := 56) rfl) rfl
theorem u4_57 : (Jvm.Cond.methodLink "GapLinksLaw" (108 : Nat) ({ cls := "GapLinks", name := "delay", desc := "(IZ)J" } : Jvm.MethodName)) ∈ UU := tb_4 (List.mem_of_getElem? (i := 57) rfl) rfl
theorem u4_58 : (Jvm.Cond.instanceMethod ({ cls := "GapLinks", name := "delay", desc := "(IZ)J" } : Jvm.MethodName)) ∈ UU := tb_4 (List.mem_of_getElem? (i := 58) rfl) rfl
theorem u4_59 : (Jvm.Cond.selects "GapLinks" ({ cls := "GapLinks", name := "delay", desc := "(IZ)J" } : Jvm.MethodName) ({ cls := "GapLinks", name := "delay", desc := "(IZ)J" } : Jvm.MethodName)) ∈ UU := tb_4 (List.mem_of_getElem? (i := 59) rfl) rfl
theorem u4_60 : (Jvm.Cond.code ({ cls := "GapLinks", name := "delay", desc := "(IZ)J" } : Jvm.MethodName) prog_1_method_22_code (3 : Nat) (Option.some Jvm.ClassFile.FieldType.long)) ∈ UU := tb_4 (List.mem_of_getElem? (i := 60) rfl) rfl
theorem u4_61 : (Jvm.Cond.methodLink "GapLinksLaw" (112 : Nat) ({ cls := "GapLinks", name := "burst", desc := "(IIIZ)J" } : Jvm.MethodName)) ∈ UU := tb_4 (List.mem_of_getElem? (i := 61) rfl) rfl
theorem u4_62 : (Jvm.Cond.instanceMethod ({ cls := "GapLinks", name := "burst", desc := "(IIIZ)J" } : Jvm.MethodName)) ∈ UU := tb_4 (List.mem_of_getElem? (i := 62) rfl) rfl
theorem u4_63 : (Jvm.Cond.selects "GapLinks" ({ cls := "GapLinks", name := "burst", desc := "(IIIZ)J" } : Jvm.MethodName) ({ cls := "GapLinks", name := "burst", desc := "(IIIZ)J" } : Jvm.MethodName)) ∈ UU := tb_4 (List.mem_of_getElem? (i := 63) rfl) rfl
theorem u4_64 : (Jvm.Cond.code ({ cls := "GapLinks", name := "burst", desc := "(IIIZ)J" } : Jvm.MethodName) prog_1_method_23_code (5 : Nat) (Option.some Jvm.ClassFile.FieldType.long)) ∈ UU := tb_4 (List.mem_of_getElem? (i := 64) rfl) rfl
theorem u4_65 : (Jvm.Cond.methodLink "GapLinksLaw" (117 : Nat) ({ cls := "GapLinks", name := "bound", desc := "(IIZ)J" } : Jvm.MethodName)) ∈ UU := tb_4 (List.mem_of_getElem? (i := 65) rfl) rfl
theorem u4_66 : (Jvm.Cond.instanceMethod ({ cls := "GapLinks", name := "bound", desc := "(IIZ)J" } : Jvm.MethodName)) ∈ UU := tb_4 (List.mem_of_getElem? (i := 66) rfl) rfl
theorem u4_67 : (Jvm.Cond.selects "GapLinks" ({ cls := "GapLinks", name := "bound", desc := "(IIZ)J" } : Jvm.MethodName) ({ cls := "GapLinks", name := "bound", desc := "(IIZ)J" } : Jvm.MethodName)) ∈ UU := tb_4 (List.mem_of_getElem? (i := 67) rfl) rfl
theorem u4_68 : (Jvm.Cond.code ({ cls := "GapLinks", name := "bound", desc := "(IIZ)J" } : Jvm.MethodName) prog_1_method_24_code (4 : Nat) (Option.some Jvm.ClassFile.FieldType.long)) ∈ UU := tb_4 (List.mem_of_getElem? (i := 68) rfl) rfl
theorem u4_69 : (Jvm.Cond.methodLink "GapLinks" (274 : Nat) ({ cls := "GapLinks$Envelope", name := "boundOf", desc := "(LGapLinks$Plan;I)J" } : Jvm.MethodName)) ∈ UU := tb_4 (List.mem_of_getElem? (i := 69) rfl) rfl
theorem u4_70 : (Jvm.Cond.instanceMethod ({ cls := "GapLinks$Envelope", name := "boundOf", desc := "(LGapLinks$Plan;I)J" } : Jvm.MethodName)) ∈ UU := tb_4 (List.mem_of_getElem? (i := 70) rfl) rfl
theorem u4_71 : (Jvm.Cond.selects "GapLinks$Envelope" ({ cls := "GapLinks$Envelope", name := "boundOf", desc := "(LGapLinks$Plan;I)J" } : Jvm.MethodName) ({ cls := "GapLinks$Envelope", name := "boundOf", desc := "(LGapLinks$Plan;I)J" } : Jvm.MethodName)) ∈ UU := tb_4 (List.mem_of_getElem? (i := 71) rfl) rfl
theorem u4_72 : (Jvm.Cond.code ({ cls := "GapLinks$Envelope", name := "boundOf", desc := "(LGapLinks$Plan;I)J" } : Jvm.MethodName) prog_3_method_9_code (6 : Nat) (Option.some Jvm.ClassFile.FieldType.long)) ∈ UU := tb_4 (List.mem_of_getElem? (i := 72) rfl) rfl
theorem u4_73 : (Jvm.Cond.methodLink "GapLinks$Envelope" (83 : Nat) ({ cls := "GapLinks$Ways", name := "portAt", desc := "(II)I" } : Jvm.MethodName)) ∈ UU := tb_4 (List.mem_of_getElem? (i := 73) rfl) rfl
theorem u4_74 : (Jvm.Cond.methodLink "GapLinksLaw" (122 : Nat) ({ cls := "GapLinks", name := "keeps", desc := "(II)I" } : Jvm.MethodName)) ∈ UU := tb_4 (List.mem_of_getElem? (i := 74) rfl) rfl
theorem u4_75 : (Jvm.Cond.instanceMethod ({ cls := "GapLinks", name := "keeps", desc := "(II)I" } : Jvm.MethodName)) ∈ UU := tb_4 (List.mem_of_getElem? (i := 75) rfl) rfl
theorem u4_76 : (Jvm.Cond.selects "GapLinks" ({ cls := "GapLinks", name := "keeps", desc := "(II)I" } : Jvm.MethodName) ({ cls := "GapLinks", name := "keeps", desc := "(II)I" } : Jvm.MethodName)) ∈ UU := tb_4 (List.mem_of_getElem? (i := 76) rfl) rfl
theorem u4_77 : (Jvm.Cond.code ({ cls := "GapLinks", name := "keeps", desc := "(II)I" } : Jvm.MethodName) prog_1_method_25_code (6 : Nat) (Option.some Jvm.ClassFile.FieldType.int)) ∈ UU := tb_4 (List.mem_of_getElem? (i := 77) rfl) rfl
theorem u4_78 : (Jvm.Cond.methodLink "GapLinksLaw" (126 : Nat) ({ cls := "GapLinks", name := "fullest", desc := "()I" } : Jvm.MethodName)) ∈ UU := tb_4 (List.mem_of_getElem? (i := 78) rfl) rfl
theorem u4_79 : (Jvm.Cond.instanceMethod ({ cls := "GapLinks", name := "fullest", desc := "()I" } : Jvm.MethodName)) ∈ UU := tb_4 (List.mem_of_getElem? (i := 79) rfl) rfl
theorem u4_80 : (Jvm.Cond.selects "GapLinks" ({ cls := "GapLinks", name := "fullest", desc := "()I" } : Jvm.MethodName) ({ cls := "GapLinks", name := "fullest", desc := "()I" } : Jvm.MethodName)) ∈ UU := tb_4 (List.mem_of_getElem? (i := 80) rfl) rfl
theorem u4_81 : (Jvm.Cond.code ({ cls := "GapLinks", name := "fullest", desc := "()I" } : Jvm.MethodName) prog_1_method_26_code (1 : Nat) (Option.some Jvm.ClassFile.FieldType.int)) ∈ UU := tb_4 (List.mem_of_getElem? (i := 81) rfl) rfl
theorem u4_82 : (Jvm.Cond.methodLink "GapLinks" (283 : Nat) ({ cls := "GapLinks$Envelope", name := "fullestPort", desc := "()I" } : Jvm.MethodName)) ∈ UU := tb_4 (List.mem_of_getElem? (i := 82) rfl) rfl
theorem u4_83 : (Jvm.Cond.instanceMethod ({ cls := "GapLinks$Envelope", name := "fullestPort", desc := "()I" } : Jvm.MethodName)) ∈ UU := tb_4 (List.mem_of_getElem? (i := 83) rfl) rfl
theorem u4_84 : (Jvm.Cond.selects "GapLinks$Envelope" ({ cls := "GapLinks$Envelope", name := "fullestPort", desc := "()I" } : Jvm.MethodName) ({ cls := "GapLinks$Envelope", name := "fullestPort", desc := "()I" } : Jvm.MethodName)) ∈ UU := tb_4 (List.mem_of_getElem? (i := 84) rfl) rfl
theorem u4_85 : (Jvm.Cond.code ({ cls := "GapLinks$Envelope", name := "fullestPort", desc := "()I" } : Jvm.MethodName) prog_3_method_10_code (3 : Nat) (Option.some Jvm.ClassFile.FieldType.int)) ∈ UU := tb_4 (List.mem_of_getElem? (i := 85) rfl) rfl
theorem u4_86 : (Jvm.Cond.methodLink "GapLinksLaw" (130 : Nat) ({ cls := "GapLinks", name := "leastGap", desc := "(I)I" } : Jvm.MethodName)) ∈ UU := tb_4 (List.mem_of_getElem? (i := 86) rfl) rfl
theorem u4_87 : (Jvm.Cond.instanceMethod ({ cls := "GapLinks", name := "leastGap", desc := "(I)I" } : Jvm.MethodName)) ∈ UU := tb_4 (List.mem_of_getElem? (i := 87) rfl) rfl
theorem u4_88 : (Jvm.Cond.selects "GapLinks" ({ cls := "GapLinks", name := "leastGap", desc := "(I)I" } : Jvm.MethodName) ({ cls := "GapLinks", name := "leastGap", desc := "(I)I" } : Jvm.MethodName)) ∈ UU := tb_4 (List.mem_of_getElem? (i := 88) rfl) rfl
theorem u4_89 : (Jvm.Cond.code ({ cls := "GapLinks", name := "leastGap", desc := "(I)I" } : Jvm.MethodName) prog_1_method_27_code (2 : Nat) (Option.some Jvm.ClassFile.FieldType.int)) ∈ UU := tb_4 (List.mem_of_getElem? (i := 89) rfl) rfl
theorem u4_90 : (Jvm.Cond.methodLink "GapLinks" (287 : Nat) ({ cls := "GapLinks$Envelope", name := "leastGapFor", desc := "(LGapLinks$Plan;I)I" } : Jvm.MethodName)) ∈ UU := tb_4 (List.mem_of_getElem? (i := 90) rfl) rfl
theorem u4_91 : (Jvm.Cond.instanceMethod ({ cls := "GapLinks$Envelope", name := "leastGapFor", desc := "(LGapLinks$Plan;I)I" } : Jvm.MethodName)) ∈ UU := tb_4 (List.mem_of_getElem? (i := 91) rfl) rfl
theorem u4_92 : (Jvm.Cond.selects "GapLinks$Envelope" ({ cls := "GapLinks$Envelope", name := "leastGapFor", desc := "(LGapLinks$Plan;I)I" } : Jvm.MethodName) ({ cls := "GapLinks$Envelope", name := "leastGapFor", desc := "(LGapLinks$Plan;I)I" } : Jvm.MethodName)) ∈ UU := tb_4 (List.mem_of_getElem? (i := 92) rfl) rfl
theorem u4_93 : (Jvm.Cond.code ({ cls := "GapLinks$Envelope", name := "leastGapFor", desc := "(LGapLinks$Plan;I)I" } : Jvm.MethodName) prog_3_method_11_code (4 : Nat) (Option.some Jvm.ClassFile.FieldType.int)) ∈ UU := tb_4 (List.mem_of_getElem? (i := 93) rfl) rfl
theorem u4_94 : (Jvm.Cond.methodLink "GapLinks$Envelope" (87 : Nat) ({ cls := "GapLinks$Envelope", name := "bears", desc := "(LGapLinks$Plan;II)Z" } : Jvm.MethodName)) ∈ UU := tb_4 (List.mem_of_getElem? (i := 94) rfl) rfl
theorem u4_95 : (Jvm.Cond.static ({ cls := "GapLinks$Envelope", name := "bears", desc := "(LGapLinks$Plan;II)Z" } : Jvm.MethodName)) ∈ UU := tb_4 (List.mem_of_getElem? (i := 95) rfl) rfl
theorem u4_96 : (Jvm.Cond.code ({ cls := "GapLinks$Envelope", name := "bears", desc := "(LGapLinks$Plan;II)Z" } : Jvm.MethodName) prog_3_method_12_code (4 : Nat) (Option.some Jvm.ClassFile.FieldType.boolean)) ∈ UU := tb_4 (List.mem_of_getElem? (i := 96) rfl) rfl
theorem u4_97 : (Jvm.Cond.methodLink "GapLinksLaw" (134 : Nat) ({ cls := "GapLinks", name := "through", desc := "(I)I" } : Jvm.MethodName)) ∈ UU := tb_4 (List.mem_of_getElem? (i := 97) rfl) rfl
theorem u4_98 : (Jvm.Cond.instanceMethod ({ cls := "GapLinks", name := "through", desc := "(I)I" } : Jvm.MethodName)) ∈ UU := tb_4 (List.mem_of_getElem? (i := 98) rfl) rfl
theorem u4_99 : (Jvm.Cond.selects "GapLinks" ({ cls := "GapLinks", name := "through", desc := "(I)I" } : Jvm.MethodName) ({ cls := "GapLinks", name := "through", desc := "(I)I" } : Jvm.MethodName)) ∈ UU := tb_4 (List.mem_of_getElem? (i := 99) rfl) rfl
theorem u4_100 : (Jvm.Cond.code ({ cls := "GapLinks", name := "through", desc := "(I)I" } : Jvm.MethodName) prog_1_method_28_code (2 : Nat) (Option.some Jvm.ClassFile.FieldType.int)) ∈ UU := tb_4 (List.mem_of_getElem? (i := 100) rfl) rfl
theorem u4_101 : (Jvm.Cond.methodLink "GapLinksLaw" (138 : Nat) ({ cls := "GapLinks", name := "send", desc := "(II)I" } : Jvm.MethodName)) ∈ UU := tb_4 (List.mem_of_getElem? (i := 101) rfl) rfl
theorem u4_102 : (Jvm.Cond.instanceMethod ({ cls := "GapLinks", name := "send", desc := "(II)I" } : Jvm.MethodName)) ∈ UU := tb_4 (List.mem_of_getElem? (i := 102) rfl) rfl
theorem u4_103 : (Jvm.Cond.selects "GapLinks" ({ cls := "GapLinks", name := "send", desc := "(II)I" } : Jvm.MethodName) ({ cls := "GapLinks", name := "send", desc := "(II)I" } : Jvm.MethodName)) ∈ UU := tb_4 (List.mem_of_getElem? (i := 103) rfl) rfl
theorem u4_104 : (Jvm.Cond.code ({ cls := "GapLinks", name := "send", desc := "(II)I" } : Jvm.MethodName) prog_1_method_29_code (3 : Nat) (Option.some Jvm.ClassFile.FieldType.int)) ∈ UU := tb_4 (List.mem_of_getElem? (i := 104) rfl) rfl
theorem u4_105 : (Jvm.Cond.methodLink "GapLinksLaw" (142 : Nat) ({ cls := "GapLinks", name := "babble", desc := "(II)I" } : Jvm.MethodName)) ∈ UU := tb_4 (List.mem_of_getElem? (i := 105) rfl) rfl
theorem u4_106 : (Jvm.Cond.instanceMethod ({ cls := "GapLinks", name := "babble", desc := "(II)I" } : Jvm.MethodName)) ∈ UU := tb_4 (List.mem_of_getElem? (i := 106) rfl) rfl
theorem u4_107 : (Jvm.Cond.selects "GapLinks" ({ cls := "GapLinks", name := "babble", desc := "(II)I" } : Jvm.MethodName) ({ cls := "GapLinks", name := "babble", desc := "(II)I" } : Jvm.MethodName)) ∈ UU := tb_4 (List.mem_of_getElem? (i := 107) rfl) rfl
theorem u4_108 : (Jvm.Cond.code ({ cls := "GapLinks", name := "babble", desc := "(II)I" } : Jvm.MethodName) prog_1_method_30_code (5 : Nat) (Option.some Jvm.ClassFile.FieldType.int)) ∈ UU := tb_4 (List.mem_of_getElem? (i := 108) rfl) rfl
theorem u4_109 : (Jvm.Cond.methodLink "GapLinks" (294 : Nat) ({ cls := "GapLinks$State", name := "bear", desc := "(LGapLinks$Plan;I)I" } : Jvm.MethodName)) ∈ UU := tb_4 (List.mem_of_getElem? (i := 109) rfl) rfl
theorem u4_110 : (Jvm.Cond.instanceMethod ({ cls := "GapLinks$State", name := "bear", desc := "(LGapLinks$Plan;I)I" } : Jvm.MethodName)) ∈ UU := tb_4 (List.mem_of_getElem? (i := 110) rfl) rfl
theorem u4_111 : (Jvm.Cond.selects "GapLinks$State" ({ cls := "GapLinks$State", name := "bear", desc := "(LGapLinks$Plan;I)I" } : Jvm.MethodName) ({ cls := "GapLinks$State", name := "bear", desc := "(LGapLinks$Plan;I)I" } : Jvm.MethodName)) ∈ UU := tb_4 (List.mem_of_getElem? (i := 111) rfl) rfl
theorem u4_112 : (Jvm.Cond.code ({ cls := "GapLinks$State", name := "bear", desc := "(LGapLinks$Plan;I)I" } : Jvm.MethodName) prog_7_method_18_code (6 : Nat) (Option.some Jvm.ClassFile.FieldType.int)) ∈ UU := tb_4 (List.mem_of_getElem? (i := 112) rfl) rfl
theorem u4_113 : (Jvm.Cond.methodLink "GapLinks$State" (191 : Nat) ({ cls := "GapLinks$Ports", name := "admits", desc := "(IIIII)Z" } : Jvm.MethodName)) ∈ UU := tb_4 (List.mem_of_getElem? (i := 113) rfl) rfl
theorem u4_114 : (Jvm.Cond.instanceMethod ({ cls := "GapLinks$Ports", name := "admits", desc := "(IIIII)Z" } : Jvm.MethodName)) ∈ UU := tb_4 (List.mem_of_getElem? (i := 114) rfl) rfl
theorem u4_115 : (Jvm.Cond.selects "GapLinks$Ports" ({ cls := "GapLinks$Ports", name := "admits", desc := "(IIIII)Z" } : Jvm.MethodName) ({ cls := "GapLinks$Ports", name := "admits", desc := "(IIIII)Z" } : Jvm.MethodName)) ∈ UU := tb_4 (List.mem_of_getElem? (i := 115) rfl) rfl
theorem u4_116 : (Jvm.Cond.code ({ cls := "GapLinks$Ports", name := "admits", desc := "(IIIII)Z" } : Jvm.MethodName) prog_5_method_7_code (7 : Nat) (Option.some Jvm.ClassFile.FieldType.boolean)) ∈ UU := tb_4 (List.mem_of_getElem? (i := 116) rfl) rfl
theorem u4_118 : (Jvm.Cond.static ({ cls := "GapLinks", name := "numberBehind", desc := "(I)I" } : Jvm.MethodName)) ∈ UU := tb_4 (List.mem_of_getElem? (i := 118) rfl) rfl
theorem u4_119 : (Jvm.Cond.code ({ cls := "GapLinks", name := "numberBehind", desc := "(I)I" } : Jvm.MethodName) prog_1_method_51_code (1 : Nat) (Option.some Jvm.ClassFile.FieldType.int)) ∈ UU := tb_4 (List.mem_of_getElem? (i := 119) rfl) rfl
theorem u4_120 : (Jvm.Cond.methodLink "GapLinksLaw" (146 : Nat) ({ cls := "GapLinks", name := "down", desc := "(II)I" } : Jvm.MethodName)) ∈ UU := tb_4 (List.mem_of_getElem? (i := 120) rfl) rfl
theorem u4_121 : (Jvm.Cond.instanceMethod ({ cls := "GapLinks", name := "down", desc := "(II)I" } : Jvm.MethodName)) ∈ UU := tb_4 (List.mem_of_getElem? (i := 121) rfl) rfl
theorem u4_122 : (Jvm.Cond.selects "GapLinks" ({ cls := "GapLinks", name := "down", desc := "(II)I" } : Jvm.MethodName) ({ cls := "GapLinks", name := "down", desc := "(II)I" } : Jvm.MethodName)) ∈ UU := tb_4 (List.mem_of_getElem? (i := 122) rfl) rfl
theorem u4_123 : (Jvm.Cond.code ({ cls := "GapLinks", name := "down", desc := "(II)I" } : Jvm.MethodName) prog_1_method_31_code (4 : Nat) (Option.some Jvm.ClassFile.FieldType.int)) ∈ UU := tb_4 (List.mem_of_getElem? (i := 123) rfl) rfl
theorem u4_124 : (Jvm.Cond.methodLink "GapLinksLaw" (150 : Nat) ({ cls := "GapLinks", name := "anew", desc := "(I)I" } : Jvm.MethodName)) ∈ UU := tb_4 (List.mem_of_getElem? (i := 124) rfl) rfl
theorem u4_125 : (Jvm.Cond.instanceMethod ({ cls := "GapLinks", name := "anew", desc := "(I)I" } : Jvm.MethodName)) ∈ UU := tb_4 (List.mem_of_getElem? (i := 125) rfl) rfl
theorem u4_126 : (Jvm.Cond.selects "GapLinks" ({ cls := "GapLinks", name := "anew", desc := "(I)I" } : Jvm.MethodName) ({ cls := "GapLinks", name := "anew", desc := "(I)I" } : Jvm.MethodName)) ∈ UU := tb_4 (List.mem_of_getElem? (i := 126) rfl) rfl
theorem u4_127 : (Jvm.Cond.code ({ cls := "GapLinks", name := "anew", desc := "(I)I" } : Jvm.MethodName) prog_1_method_32_code (2 : Nat) (Option.some Jvm.ClassFile.FieldType.int)) ∈ UU := tb_4 (List.mem_of_getElem? (i := 127) rfl) rfl
theorem u4_128 : (Jvm.Cond.methodLink "GapLinks" (300 : Nat) ({ cls := "GapLinks$State", name := "beginAnew", desc := "(LGapLinks$Plan;I)I" } : Jvm.MethodName)) ∈ UU := tb_4 (List.mem_of_getElem? (i := 128) rfl) rfl
theorem u4_129 : (Jvm.Cond.instanceMethod ({ cls := "GapLinks$State", name := "beginAnew", desc := "(LGapLinks$Plan;I)I" } : Jvm.MethodName)) ∈ UU := tb_4 (List.mem_of_getElem? (i := 129) rfl) rfl
theorem u4_130 : (Jvm.Cond.selects "GapLinks$State" ({ cls := "GapLinks$State", name := "beginAnew", desc := "(LGapLinks$Plan;I)I" } : Jvm.MethodName) ({ cls := "GapLinks$State", name := "beginAnew", desc := "(LGapLinks$Plan;I)I" } : Jvm.MethodName)) ∈ UU := tb_4 (List.mem_of_getElem? (i := 130) rfl) rfl
theorem u4_131 : (Jvm.Cond.code ({ cls := "GapLinks$State", name := "beginAnew", desc := "(LGapLinks$Plan;I)I" } : Jvm.MethodName) prog_7_method_6_code (5 : Nat) (Option.some Jvm.ClassFile.FieldType.int)) ∈ UU := tb_4 (List.mem_of_getElem? (i := 131) rfl) rfl
theorem u4_132 : (Jvm.Cond.methodLink "GapLinksLaw" (154 : Nat) ({ cls := "GapLinks", name := "ticks", desc := "(I)I" } : Jvm.MethodName)) ∈ UU := tb_4 (List.mem_of_getElem? (i := 132) rfl) rfl
theorem u4_133 : (Jvm.Cond.instanceMethod ({ cls := "GapLinks", name := "ticks", desc := "(I)I" } : Jvm.MethodName)) ∈ UU := tb_4 (List.mem_of_getElem? (i := 133) rfl) rfl
theorem u4_134 : (Jvm.Cond.selects "GapLinks" ({ cls := "GapLinks", name := "ticks", desc := "(I)I" } : Jvm.MethodName) ({ cls := "GapLinks", name := "ticks", desc := "(I)I" } : Jvm.MethodName)) ∈ UU := tb_4 (List.mem_of_getElem? (i := 134) rfl) rfl
theorem u4_135 : (Jvm.Cond.code ({ cls := "GapLinks", name := "ticks", desc := "(I)I" } : Jvm.MethodName) prog_1_method_33_code (3 : Nat) (Option.some Jvm.ClassFile.FieldType.int)) ∈ UU := tb_4 (List.mem_of_getElem? (i := 135) rfl) rfl
theorem u4_136 : (Jvm.Cond.methodLink "GapLinks" (303 : Nat) ({ cls := "GapLinks", name := "isTicks", desc := "(I)Z" } : Jvm.MethodName)) ∈ UU := tb_4 (List.mem_of_getElem? (i := 136) rfl) rfl
theorem u4_137 : (Jvm.Cond.static ({ cls := "GapLinks", name := "isTicks", desc := "(I)Z" } : Jvm.MethodName)) ∈ UU := tb_4 (List.mem_of_getElem? (i := 137) rfl) rfl
theorem u4_138 : (Jvm.Cond.code ({ cls := "GapLinks", name := "isTicks", desc := "(I)Z" } : Jvm.MethodName) prog_1_method_49_code (1 : Nat) (Option.some Jvm.ClassFile.FieldType.boolean)) ∈ UU := tb_4 (List.mem_of_getElem? (i := 138) rfl) rfl
theorem u4_139 : (Jvm.Cond.methodLink "GapLinks" (309 : Nat) ({ cls := "GapLinks$State", name := "advance", desc := "(LGapLinks$Plan;I)V" } : Jvm.MethodName)) ∈ UU := tb_4 (List.mem_of_getElem? (i := 139) rfl) rfl
theorem u4_140 : (Jvm.Cond.instanceMethod ({ cls := "GapLinks$State", name := "advance", desc := "(LGapLinks$Plan;I)V" } : Jvm.MethodName)) ∈ UU := tb_4 (List.mem_of_getElem? (i := 140) rfl) rfl
theorem u4_141 : (Jvm.Cond.selects "GapLinks$State" ({ cls := "GapLinks$State", name := "advance", desc := "(LGapLinks$Plan;I)V" } : Jvm.MethodName) ({ cls := "GapLinks$State", name := "advance", desc := "(LGapLinks$Plan;I)V" } : Jvm.MethodName)) ∈ UU := tb_4 (List.mem_of_getElem? (i := 141) rfl) rfl
theorem u4_142 : (Jvm.Cond.code ({ cls := "GapLinks$State", name := "advance", desc := "(LGapLinks$Plan;I)V" } : Jvm.MethodName) prog_7_method_7_code (5 : Nat) (Option.none : Option Jvm.ClassFile.FieldType)) ∈ UU := tb_4 (List.mem_of_getElem? (i := 142) rfl) rfl
theorem u4_143 : (Jvm.Cond.methodLink "GapLinks$State" (97 : Nat) ({ cls := "GapLinks$State", name := "step", desc := "(LGapLinks$Plan;I)V" } : Jvm.MethodName)) ∈ UU := tb_4 (List.mem_of_getElem? (i := 143) rfl) rfl
theorem u4_144 : (Jvm.Cond.instanceMethod ({ cls := "GapLinks$State", name := "step", desc := "(LGapLinks$Plan;I)V" } : Jvm.MethodName)) ∈ UU := tb_4 (List.mem_of_getElem? (i := 144) rfl) rfl
theorem u4_145 : (Jvm.Cond.selects "GapLinks$State" ({ cls := "GapLinks$State", name := "step", desc := "(LGapLinks$Plan;I)V" } : Jvm.MethodName) ({ cls := "GapLinks$State", name := "step", desc := "(LGapLinks$Plan;I)V" } : Jvm.MethodName)) ∈ UU := tb_4 (List.mem_of_getElem? (i := 145) rfl) rfl
theorem u4_146 : (Jvm.Cond.code ({ cls := "GapLinks$State", name := "step", desc := "(LGapLinks$Plan;I)V" } : Jvm.MethodName) prog_7_method_8_code (4 : Nat) (Option.none : Option Jvm.ClassFile.FieldType)) ∈ UU := tb_4 (List.mem_of_getElem? (i := 146) rfl) rfl
theorem u4_147 : (Jvm.Cond.methodLink "GapLinks$State" (101 : Nat) ({ cls := "GapLinks$State", name := "nextChange", desc := "(LGapLinks$Plan;I)I" } : Jvm.MethodName)) ∈ UU := tb_4 (List.mem_of_getElem? (i := 147) rfl) rfl
theorem u4_149 : (Jvm.Cond.instanceMethod ({ cls := "GapLinks$State", name := "nextChange", desc := "(LGapLinks$Plan;I)I" } : Jvm.MethodName)) ∈ UU := tb_4 (List.mem_of_getElem? (i := 149) rfl) rfl
theorem u4_150 : (Jvm.Cond.code ({ cls := "GapLinks$State", name := "nextChange", desc := "(LGapLinks$Plan;I)I" } : Jvm.MethodName) prog_7_method_9_code (5 : Nat) (Option.some Jvm.ClassFile.FieldType.int)) ∈ UU := tb_4 (List.mem_of_getElem? (i := 150) rfl) rfl
theorem u4_151 : (Jvm.Cond.methodLink "GapLinks$State" (127 : Nat) ({ cls := "GapLinks$Ports", name := "nextChange", desc := "(II)I" } : Jvm.MethodName)) ∈ UU := tb_4 (List.mem_of_getElem? (i := 151) rfl) rfl
theorem u4_152 : (Jvm.Cond.instanceMethod ({ cls := "GapLinks$Ports", name := "nextChange", desc := "(II)I" } : Jvm.MethodName)) ∈ UU := tb_4 (List.mem_of_getElem? (i := 152) rfl) rfl
theorem u4_153 : (Jvm.Cond.selects "GapLinks$Ports" ({ cls := "GapLinks$Ports", name := "nextChange", desc := "(II)I" } : Jvm.MethodName) ({ cls := "GapLinks$Ports", name := "nextChange", desc := "(II)I" } : Jvm.MethodName)) ∈ UU := tb_4 (List.mem_of_getElem? (i := 153) rfl) rfl
theorem u4_154 : (Jvm.Cond.code ({ cls := "GapLinks$Ports", name := "nextChange", desc := "(II)I" } : Jvm.MethodName) prog_5_method_10_code (5 : Nat) (Option.some Jvm.ClassFile.FieldType.int)) ∈ UU := tb_4 (List.mem_of_getElem? (i := 154) rfl) rfl
theorem u4_155 : (Jvm.Cond.methodLink "GapLinks$Ports" (60 : Nat) ({ cls := "java/lang/Math", name := "min", desc := "(II)I" } : Jvm.MethodName)) ∈ UU := tb_4 (List.mem_of_getElem? (i := 155) rfl) rfl
theorem u4_156 : (Jvm.Cond.methodLink "GapLinks$State" (129 : Nat) ({ cls := "java/lang/Math", name := "min", desc := "(II)I" } : Jvm.MethodName)) ∈ UU := tb_4 (List.mem_of_getElem? (i := 156) rfl) rfl
theorem u4_157 : (Jvm.Cond.methodLink "GapLinks$State" (105 : Nat) ({ cls := "java/lang/Math", name := "max", desc := "(II)I" } : Jvm.MethodName)) ∈ UU := tb_4 (List.mem_of_getElem? (i := 157) rfl) rfl
theorem u4_158 : (Jvm.Cond.static ({ cls := "java/lang/Math", name := "max", desc := "(II)I" } : Jvm.MethodName)) ∈ UU := tb_4 (List.mem_of_getElem? (i := 158) rfl) rfl
theorem u4_159 : (Jvm.Cond.code ({ cls := "java/lang/Math", name := "max", desc := "(II)I" } : Jvm.MethodName) prog_17_method_65_code (2 : Nat) (Option.some Jvm.ClassFile.FieldType.int)) ∈ UU := tb_4 (List.mem_of_getElem? (i := 159) rfl) rfl
theorem u4_160 : (Jvm.Cond.methodLink "GapLinks$State" (111 : Nat) ({ cls := "GapLinks$Ports", name := "noteMost", desc := "()V" } : Jvm.MethodName)) ∈ UU := tb_4 (List.mem_of_getElem? (i := 160) rfl) rfl
theorem u4_161 : (Jvm.Cond.instanceMethod ({ cls := "GapLinks$Ports", name := "noteMost", desc := "()V" } : Jvm.MethodName)) ∈ UU := tb_4 (List.mem_of_getElem? (i := 161) rfl) rfl
theorem u4_162 : (Jvm.Cond.selects "GapLinks$Ports" ({ cls := "GapLinks$Ports", name := "noteMost", desc := "()V" } : Jvm.MethodName) ({ cls := "GapLinks$Ports", name := "noteMost", desc := "()V" } : Jvm.MethodName)) ∈ UU := tb_4 (List.mem_of_getElem? (i := 162) rfl) rfl
theorem u4_163 : (Jvm.Cond.code ({ cls := "GapLinks$Ports", name := "noteMost", desc := "()V" } : Jvm.MethodName) prog_5_method_9_code (2 : Nat) (Option.none : Option Jvm.ClassFile.FieldType)) ∈ UU := tb_4 (List.mem_of_getElem? (i := 163) rfl) rfl
theorem u4_164 : (Jvm.Cond.methodLink "GapLinks$Ports" (55 : Nat) ({ cls := "java/lang/Math", name := "max", desc := "(II)I" } : Jvm.MethodName)) ∈ UU := tb_4 (List.mem_of_getElem? (i := 164) rfl) rfl
theorem u4_165 : (Jvm.Cond.methodLink "GapLinks$State" (114 : Nat) ({ cls := "GapLinks$State", name := "growCredit", desc := "(LGapLinks$Plan;I)V" } : Jvm.MethodName)) ∈ UU := tb_4 (List.mem_of_getElem? (i := 165) rfl) rfl
theorem u4_167 : (Jvm.Cond.instanceMethod ({ cls := "GapLinks$State", name := "growCredit", desc := "(LGapLinks$Plan;I)V" } : Jvm.MethodName)) ∈ UU := tb_4 (List.mem_of_getElem? (i := 167) rfl) rfl
theorem u4_168 : (Jvm.Cond.code ({ cls := "GapLinks$State", name := "growCredit", desc := "(LGapLinks$Plan;I)V" } : Jvm.MethodName) prog_7_method_10_code (6 : Nat) (Option.none : Option Jvm.ClassFile.FieldType)) ∈ UU := tb_4 (List.mem_of_getElem? (i := 168) rfl) rfl
theorem u4_169 : (Jvm.Cond.methodLink "GapLinks$State" (117 : Nat) ({ cls := "GapLinks$State", name := "deliver", desc := "(LGapLinks$Plan;)V" } : Jvm.MethodName)) ∈ UU := tb_4 (List.mem_of_getElem? (i := 169) rfl) rfl
theorem u4_171 : (Jvm.Cond.instanceMethod ({ cls := "GapLinks$State", name := "deliver", desc := "(LGapLinks$Plan;)V" } : Jvm.MethodName)) ∈ UU := tb_4 (List.mem_of_getElem? (i := 171) rfl) rfl
theorem u4_172 : (Jvm.Cond.code ({ cls := "GapLinks$State", name := "deliver", desc := "(LGapLinks$Plan;)V" } : Jvm.MethodName) prog_7_method_11_code (4 : Nat) (Option.none : Option Jvm.ClassFile.FieldType)) ∈ UU := tb_4 (List.mem_of_getElem? (i := 172) rfl) rfl
theorem u4_173 : (Jvm.Cond.methodLink "GapLinks$State" (138 : Nat) ({ cls := "GapLinks$Ports", name := "slot", desc := "(II)I" } : Jvm.MethodName)) ∈ UU := tb_4 (List.mem_of_getElem? (i := 173) rfl) rfl
theorem u4_174 : (Jvm.Cond.methodLink "GapLinks$State" (141 : Nat) ({ cls := "GapLinks$Ports", name := "removeFirst", desc := "(I)V" } : Jvm.MethodName)) ∈ UU := tb_4 (List.mem_of_getElem? (i := 174) rfl) rfl
theorem u4_175 : (Jvm.Cond.instanceMethod ({ cls := "GapLinks$Ports", name := "removeFirst", desc := "(I)V" } : Jvm.MethodName)) ∈ UU := tb_4 (List.mem_of_getElem? (i := 175) rfl) rfl
theorem u4_176 : (Jvm.Cond.selects "GapLinks$Ports" ({ cls := "GapLinks$Ports", name := "removeFirst", desc := "(I)V" } : Jvm.MethodName) ({ cls := "GapLinks$Ports", name := "removeFirst", desc := "(I)V" } : Jvm.MethodName)) ∈ UU := tb_4 (List.mem_of_getElem? (i := 176) rfl) rfl
theorem u4_177 : (Jvm.Cond.code ({ cls := "GapLinks$Ports", name := "removeFirst", desc := "(I)V" } : Jvm.MethodName) prog_5_method_8_code (2 : Nat) (Option.none : Option Jvm.ClassFile.FieldType)) ∈ UU := tb_4 (List.mem_of_getElem? (i := 177) rfl) rfl
theorem u4_178 : (Jvm.Cond.methodLink "GapLinks$State" (145 : Nat) ({ cls := "GapLinks$State", name := "leadsToEnd", desc := "(I)Z" } : Jvm.MethodName)) ∈ UU := tb_4 (List.mem_of_getElem? (i := 178) rfl) rfl
theorem u4_179 : (Jvm.Cond.static ({ cls := "GapLinks$State", name := "leadsToEnd", desc := "(I)Z" } : Jvm.MethodName)) ∈ UU := tb_4 (List.mem_of_getElem? (i := 179) rfl) rfl
theorem u4_180 : (Jvm.Cond.code ({ cls := "GapLinks$State", name := "leadsToEnd", desc := "(I)Z" } : Jvm.MethodName) prog_7_method_12_code (2 : Nat) (Option.some Jvm.ClassFile.FieldType.boolean)) ∈ UU := tb_4 (List.mem_of_getElem? (i := 180) rfl) rfl
theorem u4_181 : (Jvm.Cond.methodLink "GapLinks$State" (149 : Nat) ({ cls := "GapLinks$State", name := "arriveAtEnd", desc := "(LGapLinks$Plan;II)V" } : Jvm.MethodName)) ∈ UU := tb_4 (List.mem_of_getElem? (i := 181) rfl) rfl
theorem u4_183 : (Jvm.Cond.instanceMethod ({ cls := "GapLinks$State", name := "arriveAtEnd", desc := "(LGapLinks$Plan;II)V" } : Jvm.MethodName)) ∈ UU := tb_4 (List.mem_of_getElem? (i := 183) rfl) rfl
theorem u4_184 : (Jvm.Cond.code ({ cls := "GapLinks$State", name := "arriveAtEnd", desc := "(LGapLinks$Plan;II)V" } : Jvm.MethodName) prog_7_method_13_code (5 : Nat) (Option.none : Option Jvm.ClassFile.FieldType)) ∈ UU := tb_4 (List.mem_of_getElem? (i := 184) rfl) rfl
theorem u4_185 : (Jvm.Cond.methodLink "GapLinks$State" (159 : Nat) ({ cls := "GapLinks$Plan", name := "earAt", desc := "(II)I" } : Jvm.MethodName)) ∈ UU := tb_4 (List.mem_of_getElem? (i := 185) rfl) rfl
theorem u4_186 : (Jvm.Cond.methodLink "GapLinks$State" (164 : Nat) ({ cls := "GapLinks$Ears", name := "hear", desc := "(LGapLinks$Plan;IIIII)V" } : Jvm.MethodName)) ∈ UU := tb_4 (List.mem_of_getElem? (i := 186) rfl) rfl
theorem u4_187 : (Jvm.Cond.instanceMethod ({ cls := "GapLinks$Ears", name := "hear", desc := "(LGapLinks$Plan;IIIII)V" } : Jvm.MethodName)) ∈ UU := tb_4 (List.mem_of_getElem? (i := 187) rfl) rfl
theorem u4_188 : (Jvm.Cond.selects "GapLinks$Ears" ({ cls := "GapLinks$Ears", name := "hear", desc := "(LGapLinks$Plan;IIIII)V" } : Jvm.MethodName) ({ cls := "GapLinks$Ears", name := "hear", desc := "(LGapLinks$Plan;IIIII)V" } : Jvm.MethodName)) ∈ UU := tb_4 (List.mem_of_getElem? (i := 188) rfl) rfl
theorem u4_189 : (Jvm.Cond.code ({ cls := "GapLinks$Ears", name := "hear", desc := "(LGapLinks$Plan;IIIII)V" } : Jvm.MethodName) prog_2_method_10_code (8 : Nat) (Option.none : Option Jvm.ClassFile.FieldType)) ∈ UU := tb_4 (List.mem_of_getElem? (i := 189) rfl) rfl
theorem u4_190 : (Jvm.Cond.methodLink "GapLinks$Ears" (68 : Nat) ({ cls := "GapLinks$Ears", name := "isWhole", desc := "(II)Z" } : Jvm.MethodName)) ∈ UU := tb_4 (List.mem_of_getElem? (i := 190) rfl) rfl
theorem u4_191 : (Jvm.Cond.static ({ cls := "GapLinks$Ears", name := "isWhole", desc := "(II)Z" } : Jvm.MethodName)) ∈ UU := tb_4 (List.mem_of_getElem? (i := 191) rfl) rfl
theorem u4_192 : (Jvm.Cond.code ({ cls := "GapLinks$Ears", name := "isWhole", desc := "(II)Z" } : Jvm.MethodName) prog_2_method_11_code (3 : Nat) (Option.some Jvm.ClassFile.FieldType.boolean)) ∈ UU := tb_4 (List.mem_of_getElem? (i := 192) rfl) rfl
theorem u4_194 : (Jvm.Cond.methodLink "GapLinks$Ears" (72 : Nat) ({ cls := "GapLinks$Ears", name := "isFresh", desc := "(LGapLinks$Plan;III)Z" } : Jvm.MethodName)) ∈ UU := tb_4 (List.mem_of_getElem? (i := 194) rfl) rfl
theorem u4_196 : (Jvm.Cond.instanceMethod ({ cls := "GapLinks$Ears", name := "isFresh", desc := "(LGapLinks$Plan;III)Z" } : Jvm.MethodName)) ∈ UU := tb_4 (List.mem_of_getElem? (i := 196) rfl) rfl
theorem u4_197 : (Jvm.Cond.code ({ cls := "GapLinks$Ears", name := "isFresh", desc := "(LGapLinks$Plan;III)Z" } : Jvm.MethodName) prog_2_method_12_code (7 : Nat) (Option.some Jvm.ClassFile.FieldType.boolean)) ∈ UU := tb_4 (List.mem_of_getElem? (i := 197) rfl) rfl
theorem u4_198 : (Jvm.Cond.methodLink "GapLinks$Ears" (76 : Nat) ({ cls := "GapLinks$Ears", name := "take", desc := "(IIIII)V" } : Jvm.MethodName)) ∈ UU := tb_4 (List.mem_of_getElem? (i := 198) rfl) rfl
theorem u4_200 : (Jvm.Cond.instanceMethod ({ cls := "GapLinks$Ears", name := "take", desc := "(IIIII)V" } : Jvm.MethodName)) ∈ UU := tb_4 (List.mem_of_getElem? (i := 200) rfl) rfl
theorem u4_201 : (Jvm.Cond.code ({ cls := "GapLinks$Ears", name := "take", desc := "(IIIII)V" } : Jvm.MethodName) prog_2_method_13_code (7 : Nat) (Option.none : Option Jvm.ClassFile.FieldType)) ∈ UU := tb_4 (List.mem_of_getElem? (i := 201) rfl) rfl
theorem u4_202 : (Jvm.Cond.methodLink "GapLinks$Ears" (92 : Nat) ({ cls := "java/lang/Math", name := "max", desc := "(II)I" } : Jvm.MethodName)) ∈ UU := tb_4 (List.mem_of_getElem? (i := 202) rfl) rfl
theorem u4_203 : (Jvm.Cond.methodLink "GapLinks$State" (153 : Nat) ({ cls := "GapLinks$State", name := "arriveAtSwitch", desc := "(LGapLinks$Plan;II)V" } : Jvm.MethodName)) ∈ UU := tb_4 (List.mem_of_getElem? (i := 203) rfl) rfl
theorem u4_205 : (Jvm.Cond.instanceMethod ({ cls := "GapLinks$State", name := "arriveAtSwitch", desc := "(LGapLinks$Plan;II)V" } : Jvm.MethodName)) ∈ UU := tb_4 (List.mem_of_getElem? (i := 205) rfl) rfl
theorem u4_206 : (Jvm.Cond.code ({ cls := "GapLinks$State", name := "arriveAtSwitch", desc := "(LGapLinks$Plan;II)V" } : Jvm.MethodName) prog_7_method_14_code (7 : Nat) (Option.none : Option Jvm.ClassFile.FieldType)) ∈ UU := tb_4 (List.mem_of_getElem? (i := 206) rfl) rfl
theorem u4_207 : (Jvm.Cond.methodLink "GapLinks$State" (168 : Nat) ({ cls := "GapLinks$State", name := "paysCredit", desc := "(LGapLinks$Plan;II)Z" } : Jvm.MethodName)) ∈ UU := tb_4 (List.mem_of_getElem? (i := 207) rfl) rfl
theorem u4_209 : (Jvm.Cond.instanceMethod ({ cls := "GapLinks$State", name := "paysCredit", desc := "(LGapLinks$Plan;II)Z" } : Jvm.MethodName)) ∈ UU := tb_4 (List.mem_of_getElem? (i := 209) rfl) rfl
theorem u4_210 : (Jvm.Cond.code ({ cls := "GapLinks$State", name := "paysCredit", desc := "(LGapLinks$Plan;II)Z" } : Jvm.MethodName) prog_7_method_15_code (5 : Nat) (Option.some Jvm.ClassFile.FieldType.boolean)) ∈ UU := tb_4 (List.mem_of_getElem? (i := 210) rfl) rfl
theorem u4_211 : (Jvm.Cond.methodLink "GapLinks$State" (181 : Nat) ({ cls := "GapLinks$State", name := "spread", desc := "(LGapLinks$Plan;III)V" } : Jvm.MethodName)) ∈ UU := tb_4 (List.mem_of_getElem? (i := 211) rfl) rfl
theorem u4_213 : (Jvm.Cond.instanceMethod ({ cls := "GapLinks$State", name := "spread", desc := "(LGapLinks$Plan;III)V" } : Jvm.MethodName)) ∈ UU := tb_4 (List.mem_of_getElem? (i := 213) rfl) rfl
theorem u4_214 : (Jvm.Cond.code ({ cls := "GapLinks$State", name := "spread", desc := "(LGapLinks$Plan;III)V" } : Jvm.MethodName) prog_7_method_16_code (8 : Nat) (Option.none : Option Jvm.ClassFile.FieldType)) ∈ UU := tb_4 (List.mem_of_getElem? (i := 214) rfl) rfl
theorem u4_215 : (Jvm.Cond.methodLink "GapLinks$State" (121 : Nat) ({ cls := "GapLinks$State", name := "release", desc := "(LGapLinks$Plan;)V" } : Jvm.MethodName)) ∈ UU := tb_4 (List.mem_of_getElem? (i := 215) rfl) rfl
theorem u4_217 : (Jvm.Cond.instanceMethod ({ cls := "GapLinks$State", name := "release", desc := "(LGapLinks$Plan;)V" } : Jvm.MethodName)) ∈ UU := tb_4 (List.mem_of_getElem? (i := 217) rfl) rfl
theorem u4_218 : (Jvm.Cond.code ({ cls := "GapLinks$State", name := "release", desc := "(LGapLinks$Plan;)V" } : Jvm.MethodName) prog_7_method_17_code (3 : Nat) (Option.none : Option Jvm.ClassFile.FieldType)) ∈ UU := tb_4 (List.mem_of_getElem? (i := 218) rfl) rfl
theorem u4_219 : (Jvm.Cond.methodLink "GapLinks$State" (195 : Nat) ({ cls := "GapLinks$State", name := "bear", desc := "(LGapLinks$Plan;I)I" } : Jvm.MethodName)) ∈ UU := tb_4 (List.mem_of_getElem? (i := 219) rfl) rfl
theorem u4_220 : (Jvm.Cond.methodLink "GapLinks$State" (124 : Nat) ({ cls := "GapLinks$State", name := "beginSending", desc := "(LGapLinks$Plan;)V" } : Jvm.MethodName)) ∈ UU := tb_4 (List.mem_of_getElem? (i := 220) rfl) rfl
theorem u4_222 : (Jvm.Cond.instanceMethod ({ cls := "GapLinks$State", name := "beginSending", desc := "(LGapLinks$Plan;)V" } : Jvm.MethodName)) ∈ UU := tb_4 (List.mem_of_getElem? (i := 222) rfl) rfl
theorem u4_223 : (Jvm.Cond.code ({ cls := "GapLinks$State", name := "beginSending", desc := "(LGapLinks$Plan;)V" } : Jvm.MethodName) prog_7_method_19_code (5 : Nat) (Option.none : Option Jvm.ClassFile.FieldType)) ∈ UU := tb_4 (List.mem_of_getElem? (i := 223) rfl) rfl
theorem u4_224 : (Jvm.Cond.methodLink "GapLinks$State" (204 : Nat) ({ cls := "GapLinks$Ports", name := "sends", desc := "(I)Z" } : Jvm.MethodName)) ∈ UU := tb_4 (List.mem_of_getElem? (i := 224) rfl) rfl
theorem u4_225 : (Jvm.Cond.methodLink "GapLinksLaw" (158 : Nat) ({ cls := "GapLinks", name := "willHear", desc := "(IIII)I" } : Jvm.MethodName)) ∈ UU := tb_4 (List.mem_of_getElem? (i := 225) rfl) rfl
theorem u4_226 : (Jvm.Cond.instanceMethod ({ cls := "GapLinks", name := "willHear", desc := "(IIII)I" } : Jvm.MethodName)) ∈ UU := tb_4 (List.mem_of_getElem? (i := 226) rfl) rfl
theorem u4_227 : (Jvm.Cond.selects "GapLinks" ({ cls := "GapLinks", name := "willHear", desc := "(IIII)I" } : Jvm.MethodName) ({ cls := "GapLinks", name := "willHear", desc := "(IIII)I" } : Jvm.MethodName)) ∈ UU := tb_4 (List.mem_of_getElem? (i := 227) rfl) rfl
theorem u4_228 : (Jvm.Cond.code ({ cls := "GapLinks", name := "willHear", desc := "(IIII)I" } : Jvm.MethodName) prog_1_method_34_code (5 : Nat) (Option.some Jvm.ClassFile.FieldType.int)) ∈ UU := tb_4 (List.mem_of_getElem? (i := 228) rfl) rfl
theorem u4_229 : (Jvm.Cond.methodLink "GapLinks" (313 : Nat) ({ cls := "GapLinks$State", name := "copy", desc := "(LGapLinks$State;)V" } : Jvm.MethodName)) ∈ UU := tb_4 (List.mem_of_getElem? (i := 229) rfl) rfl
theorem u4_230 : (Jvm.Cond.instanceMethod ({ cls := "GapLinks$State", name := "copy", desc := "(LGapLinks$State;)V" } : Jvm.MethodName)) ∈ UU := tb_4 (List.mem_of_getElem? (i := 230) rfl) rfl
theorem u4_231 : (Jvm.Cond.selects "GapLinks$State" ({ cls := "GapLinks$State", name := "copy", desc := "(LGapLinks$State;)V" } : Jvm.MethodName) ({ cls := "GapLinks$State", name := "copy", desc := "(LGapLinks$State;)V" } : Jvm.MethodName)) ∈ UU := tb_4 (List.mem_of_getElem? (i := 231) rfl) rfl
theorem u4_232 : (Jvm.Cond.code ({ cls := "GapLinks$State", name := "copy", desc := "(LGapLinks$State;)V" } : Jvm.MethodName) prog_7_method_3_code (2 : Nat) (Option.none : Option Jvm.ClassFile.FieldType)) ∈ UU := tb_4 (List.mem_of_getElem? (i := 232) rfl) rfl
theorem u4_234 : (Jvm.Cond.static ({ cls := "GapLinks", name := "copyAll", desc := "([I[I)V" } : Jvm.MethodName)) ∈ UU := tb_4 (List.mem_of_getElem? (i := 234) rfl) rfl
theorem u4_235 : (Jvm.Cond.code ({ cls := "GapLinks", name := "copyAll", desc := "([I[I)V" } : Jvm.MethodName) prog_1_method_52_code (2 : Nat) (Option.none : Option Jvm.ClassFile.FieldType)) ∈ UU := tb_4 (List.mem_of_getElem? (i := 235) rfl) rfl
theorem u4_236 : (Jvm.Cond.methodLink "GapLinks" (351 : Nat) ({ cls := "java/lang/System", name := "arraycopy", desc := "(Ljava/lang/Object;ILjava/lang/Object;II)V" } : Jvm.MethodName)) ∈ UU := tb_4 (List.mem_of_getElem? (i := 236) rfl) rfl
theorem u4_237 : (Jvm.Cond.static ({ cls := "java/lang/System", name := "arraycopy", desc := "(Ljava/lang/Object;ILjava/lang/Object;II)V" } : Jvm.MethodName)) ∈ UU := tb_4 (List.mem_of_getElem? (i := 237) rfl) rfl
theorem u4_238 : (Jvm.Cond.native ({ cls := "java/lang/System", name := "arraycopy", desc := "(Ljava/lang/Object;ILjava/lang/Object;II)V" } : Jvm.MethodName)) ∈ UU := tb_4 (List.mem_of_getElem? (i := 238) rfl) rfl
theorem u4_239 : (Jvm.Cond.methodLink "GapLinks$State" (80 : Nat) ({ cls := "GapLinks$Ports", name := "copy", desc := "(LGapLinks$Ports;)V" } : Jvm.MethodName)) ∈ UU := tb_4 (List.mem_of_getElem? (i := 239) rfl) rfl
theorem u5_0 : (Jvm.Cond.instanceMethod ({ cls := "GapLinks$Ports", name := "copy", desc := "(LGapLinks$Ports;)V" } : Jvm.MethodName)) ∈ UU := tb_5 (List.mem_of_getElem? (i := 0) rfl) rfl
theorem u5_1 : (Jvm.Cond.selects "GapLinks$Ports" ({ cls := "GapLinks$Ports", name := "copy", desc := "(LGapLinks$Ports;)V" } : Jvm.MethodName) ({ cls := "GapLinks$Ports", name := "copy", desc := "(LGapLinks$Ports;)V" } : Jvm.MethodName)) ∈ UU := tb_5 (List.mem_of_getElem? (i := 1) rfl) rfl
theorem u5_2 : (Jvm.Cond.code ({ cls := "GapLinks$Ports", name := "copy", desc := "(LGapLinks$Ports;)V" } : Jvm.MethodName) prog_5_method_3_code (2 : Nat) (Option.none : Option Jvm.ClassFile.FieldType)) ∈ UU := tb_5 (List.mem_of_getElem? (i := 2) rfl) rfl
theorem u5_4 : (Jvm.Cond.methodLink "GapLinks$State" (84 : Nat) ({ cls := "GapLinks$Ears", name := "copy", desc := "(LGapLinks$Ears;)V" } : Jvm.MethodName)) ∈ UU := tb_5 (List.mem_of_getElem? (i := 4) rfl) rfl
theorem u5_5 : (Jvm.Cond.instanceMethod ({ cls := "GapLinks$Ears", name := "copy", desc := "(LGapLinks$Ears;)V" } : Jvm.MethodName)) ∈ UU := tb_5 (List.mem_of_getElem? (i := 5) rfl) rfl
theorem u5_6 : (Jvm.Cond.selects "GapLinks$Ears" ({ cls := "GapLinks$Ears", name := "copy", desc := "(LGapLinks$Ears;)V" } : Jvm.MethodName) ({ cls := "GapLinks$Ears", name := "copy", desc := "(LGapLinks$Ears;)V" } : Jvm.MethodName)) ∈ UU := tb_5 (List.mem_of_getElem? (i := 6) rfl) rfl
theorem u5_7 : (Jvm.Cond.code ({ cls := "GapLinks$Ears", name := "copy", desc := "(LGapLinks$Ears;)V" } : Jvm.MethodName) prog_2_method_3_code (2 : Nat) (Option.none : Option Jvm.ClassFile.FieldType)) ∈ UU := tb_5 (List.mem_of_getElem? (i := 7) rfl) rfl
theorem u5_9 : (Jvm.Cond.methodLink "GapLinksLaw" (162 : Nat) ({ cls := "GapLinks", name := "willLose", desc := "(III)I" } : Jvm.MethodName)) ∈ UU := tb_5 (List.mem_of_getElem? (i := 9) rfl) rfl
theorem u5_10 : (Jvm.Cond.instanceMethod ({ cls := "GapLinks", name := "willLose", desc := "(III)I" } : Jvm.MethodName)) ∈ UU := tb_5 (List.mem_of_getElem? (i := 10) rfl) rfl
theorem u5_11 : (Jvm.Cond.selects "GapLinks" ({ cls := "GapLinks", name := "willLose", desc := "(III)I" } : Jvm.MethodName) ({ cls := "GapLinks", name := "willLose", desc := "(III)I" } : Jvm.MethodName)) ∈ UU := tb_5 (List.mem_of_getElem? (i := 11) rfl) rfl
theorem u5_12 : (Jvm.Cond.code ({ cls := "GapLinks", name := "willLose", desc := "(III)I" } : Jvm.MethodName) prog_1_method_35_code (4 : Nat) (Option.some Jvm.ClassFile.FieldType.int)) ∈ UU := tb_5 (List.mem_of_getElem? (i := 12) rfl) rfl
theorem u5_13 : (Jvm.Cond.methodLink "GapLinksLaw" (166 : Nat) ({ cls := "GapLinks", name := "quiet", desc := "()I" } : Jvm.MethodName)) ∈ UU := tb_5 (List.mem_of_getElem? (i := 13) rfl) rfl
theorem u5_14 : (Jvm.Cond.instanceMethod ({ cls := "GapLinks", name := "quiet", desc := "()I" } : Jvm.MethodName)) ∈ UU := tb_5 (List.mem_of_getElem? (i := 14) rfl) rfl
theorem u5_15 : (Jvm.Cond.selects "GapLinks" ({ cls := "GapLinks", name := "quiet", desc := "()I" } : Jvm.MethodName) ({ cls := "GapLinks", name := "quiet", desc := "()I" } : Jvm.MethodName)) ∈ UU := tb_5 (List.mem_of_getElem? (i := 15) rfl) rfl
theorem u5_16 : (Jvm.Cond.code ({ cls := "GapLinks", name := "quiet", desc := "()I" } : Jvm.MethodName) prog_1_method_36_code (3 : Nat) (Option.some Jvm.ClassFile.FieldType.int)) ∈ UU := tb_5 (List.mem_of_getElem? (i := 16) rfl) rfl
theorem u5_17 : (Jvm.Cond.methodLink "GapLinks" (317 : Nat) ({ cls := "GapLinks$State", name := "isQuiet", desc := "()Z" } : Jvm.MethodName)) ∈ UU := tb_5 (List.mem_of_getElem? (i := 17) rfl) rfl
theorem u5_18 : (Jvm.Cond.instanceMethod ({ cls := "GapLinks$State", name := "isQuiet", desc := "()Z" } : Jvm.MethodName)) ∈ UU := tb_5 (List.mem_of_getElem? (i := 18) rfl) rfl
theorem u5_19 : (Jvm.Cond.selects "GapLinks$State" ({ cls := "GapLinks$State", name := "isQuiet", desc := "()Z" } : Jvm.MethodName) ({ cls := "GapLinks$State", name := "isQuiet", desc := "()Z" } : Jvm.MethodName)) ∈ UU := tb_5 (List.mem_of_getElem? (i := 19) rfl) rfl
theorem u5_20 : (Jvm.Cond.code ({ cls := "GapLinks$State", name := "isQuiet", desc := "()Z" } : Jvm.MethodName) prog_7_method_5_code (1 : Nat) (Option.some Jvm.ClassFile.FieldType.boolean)) ∈ UU := tb_5 (List.mem_of_getElem? (i := 20) rfl) rfl
theorem u5_21 : (Jvm.Cond.methodLink "GapLinks$State" (90 : Nat) ({ cls := "GapLinks$State", name := "allWaiting", desc := "()I" } : Jvm.MethodName)) ∈ UU := tb_5 (List.mem_of_getElem? (i := 21) rfl) rfl
theorem u5_22 : (Jvm.Cond.instanceMethod ({ cls := "GapLinks$State", name := "allWaiting", desc := "()I" } : Jvm.MethodName)) ∈ UU := tb_5 (List.mem_of_getElem? (i := 22) rfl) rfl
theorem u5_23 : (Jvm.Cond.selects "GapLinks$State" ({ cls := "GapLinks$State", name := "allWaiting", desc := "()I" } : Jvm.MethodName) ({ cls := "GapLinks$State", name := "allWaiting", desc := "()I" } : Jvm.MethodName)) ∈ UU := tb_5 (List.mem_of_getElem? (i := 23) rfl) rfl
theorem u5_24 : (Jvm.Cond.code ({ cls := "GapLinks$State", name := "allWaiting", desc := "()I" } : Jvm.MethodName) prog_7_method_4_code (3 : Nat) (Option.some Jvm.ClassFile.FieldType.int)) ∈ UU := tb_5 (List.mem_of_getElem? (i := 24) rfl) rfl
theorem u5_25 : (Jvm.Cond.methodLink "GapLinks" (320 : Nat) ({ cls := "GapLinks$State", name := "step", desc := "(LGapLinks$Plan;I)V" } : Jvm.MethodName)) ∈ UU := tb_5 (List.mem_of_getElem? (i := 25) rfl) rfl
theorem u5_26 : (Jvm.Cond.methodLink "GapLinksLaw" (170 : Nat) ({ cls := "GapLinks", name := "keep", desc := "()Z" } : Jvm.MethodName)) ∈ UU := tb_5 (List.mem_of_getElem? (i := 26) rfl) rfl
theorem u5_27 : (Jvm.Cond.instanceMethod ({ cls := "GapLinks", name := "keep", desc := "()Z" } : Jvm.MethodName)) ∈ UU := tb_5 (List.mem_of_getElem? (i := 27) rfl) rfl
theorem u5_28 : (Jvm.Cond.selects "GapLinks" ({ cls := "GapLinks", name := "keep", desc := "()Z" } : Jvm.MethodName) ({ cls := "GapLinks", name := "keep", desc := "()Z" } : Jvm.MethodName)) ∈ UU := tb_5 (List.mem_of_getElem? (i := 28) rfl) rfl
theorem u5_29 : (Jvm.Cond.code ({ cls := "GapLinks", name := "keep", desc := "()Z" } : Jvm.MethodName) prog_1_method_37_code (1 : Nat) (Option.some Jvm.ClassFile.FieldType.boolean)) ∈ UU := tb_5 (List.mem_of_getElem? (i := 29) rfl) rfl
theorem u5_30 : (Jvm.Cond.methodLink "GapLinksLaw" (175 : Nat) ({ cls := "GapLinks", name := "back", desc := "()Z" } : Jvm.MethodName)) ∈ UU := tb_5 (List.mem_of_getElem? (i := 30) rfl) rfl
theorem u5_31 : (Jvm.Cond.instanceMethod ({ cls := "GapLinks", name := "back", desc := "()Z" } : Jvm.MethodName)) ∈ UU := tb_5 (List.mem_of_getElem? (i := 31) rfl) rfl
theorem u5_32 : (Jvm.Cond.selects "GapLinks" ({ cls := "GapLinks", name := "back", desc := "()Z" } : Jvm.MethodName) ({ cls := "GapLinks", name := "back", desc := "()Z" } : Jvm.MethodName)) ∈ UU := tb_5 (List.mem_of_getElem? (i := 32) rfl) rfl
theorem u5_33 : (Jvm.Cond.code ({ cls := "GapLinks", name := "back", desc := "()Z" } : Jvm.MethodName) prog_1_method_38_code (1 : Nat) (Option.some Jvm.ClassFile.FieldType.boolean)) ∈ UU := tb_5 (List.mem_of_getElem? (i := 33) rfl) rfl
theorem u5_34 : (Jvm.Cond.methodLink "GapLinksLaw" (188 : Nat) ({ cls := "GapLinks", name := "size", desc := "(I)I" } : Jvm.MethodName)) ∈ UU := tb_5 (List.mem_of_getElem? (i := 34) rfl) rfl
theorem u5_35 : (Jvm.Cond.instanceMethod ({ cls := "GapLinks", name := "size", desc := "(I)I" } : Jvm.MethodName)) ∈ UU := tb_5 (List.mem_of_getElem? (i := 35) rfl) rfl
theorem u5_36 : (Jvm.Cond.selects "GapLinks" ({ cls := "GapLinks", name := "size", desc := "(I)I" } : Jvm.MethodName) ({ cls := "GapLinks", name := "size", desc := "(I)I" } : Jvm.MethodName)) ∈ UU := tb_5 (List.mem_of_getElem? (i := 36) rfl) rfl
theorem u5_37 : (Jvm.Cond.code ({ cls := "GapLinks", name := "size", desc := "(I)I" } : Jvm.MethodName) prog_1_method_40_code (2 : Nat) (Option.some Jvm.ClassFile.FieldType.int)) ∈ UU := tb_5 (List.mem_of_getElem? (i := 37) rfl) rfl
theorem u5_38 : (Jvm.Cond.methodLink "GapLinks" (329 : Nat) ({ cls := "GapLinks$Plan", name := "allReceivers", desc := "()I" } : Jvm.MethodName)) ∈ UU := tb_5 (List.mem_of_getElem? (i := 38) rfl) rfl
theorem u5_39 : (Jvm.Cond.instanceMethod ({ cls := "GapLinks$Plan", name := "allReceivers", desc := "()I" } : Jvm.MethodName)) ∈ UU := tb_5 (List.mem_of_getElem? (i := 39) rfl) rfl
theorem u5_40 : (Jvm.Cond.selects "GapLinks$Plan" ({ cls := "GapLinks$Plan", name := "allReceivers", desc := "()I" } : Jvm.MethodName) ({ cls := "GapLinks$Plan", name := "allReceivers", desc := "()I" } : Jvm.MethodName)) ∈ UU := tb_5 (List.mem_of_getElem? (i := 40) rfl) rfl
theorem u5_41 : (Jvm.Cond.code ({ cls := "GapLinks$Plan", name := "allReceivers", desc := "()I" } : Jvm.MethodName) prog_4_method_9_code (3 : Nat) (Option.some Jvm.ClassFile.FieldType.int)) ∈ UU := tb_5 (List.mem_of_getElem? (i := 41) rfl) rfl
theorem u5_42 : (Jvm.Cond.methodLink "GapLinks" (332 : Nat) ({ cls := "GapLinks$State", name := "allWaiting", desc := "()I" } : Jvm.MethodName)) ∈ UU := tb_5 (List.mem_of_getElem? (i := 42) rfl) rfl
theorem u5_43 : (Jvm.Cond.methodLink "GapLinksLaw" (192 : Nat) ({ cls := "GapLinks", name := "trouble", desc := "()I" } : Jvm.MethodName)) ∈ UU := tb_5 (List.mem_of_getElem? (i := 43) rfl) rfl
theorem u5_44 : (Jvm.Cond.instanceMethod ({ cls := "GapLinks", name := "trouble", desc := "()I" } : Jvm.MethodName)) ∈ UU := tb_5 (List.mem_of_getElem? (i := 44) rfl) rfl
theorem u5_45 : (Jvm.Cond.selects "GapLinks" ({ cls := "GapLinks", name := "trouble", desc := "()I" } : Jvm.MethodName) ({ cls := "GapLinks", name := "trouble", desc := "()I" } : Jvm.MethodName)) ∈ UU := tb_5 (List.mem_of_getElem? (i := 45) rfl) rfl
theorem u5_46 : (Jvm.Cond.code ({ cls := "GapLinks", name := "trouble", desc := "()I" } : Jvm.MethodName) prog_1_method_41_code (1 : Nat) (Option.some Jvm.ClassFile.FieldType.int)) ∈ UU := tb_5 (List.mem_of_getElem? (i := 46) rfl) rfl
theorem u5_47 : (Jvm.Cond.methodLink "GapLinksLaw" (179 : Nat) ({ cls := "GapLinksLaw", name := "silent", desc := "(LGapLinks;I[J)I" } : Jvm.MethodName)) ∈ UU := tb_5 (List.mem_of_getElem? (i := 47) rfl) rfl
theorem u5_48 : (Jvm.Cond.static ({ cls := "GapLinksLaw", name := "silent", desc := "(LGapLinks;I[J)I" } : Jvm.MethodName)) ∈ UU := tb_5 (List.mem_of_getElem? (i := 48) rfl) rfl
theorem u5_50 : (Jvm.Cond.classLink "GapLinksLaw" (13 : Nat) "java/util/NoSuchElementException") ∈ UU := tb_5 (List.mem_of_getElem? (i := 50) rfl) rfl
theorem u5_51 : (Jvm.Cond.methodLink "GapLinksLaw" (7 : Nat) ({ cls := "GapLinks", name := "silent", desc := "(I)I" } : Jvm.MethodName)) ∈ UU := tb_5 (List.mem_of_getElem? (i := 51) rfl) rfl
theorem u5_52 : (Jvm.Cond.instanceMethod ({ cls := "GapLinks", name := "silent", desc := "(I)I" } : Jvm.MethodName)) ∈ UU := tb_5 (List.mem_of_getElem? (i := 52) rfl) rfl
theorem u5_53 : (Jvm.Cond.selects "GapLinks" ({ cls := "GapLinks", name := "silent", desc := "(I)I" } : Jvm.MethodName) ({ cls := "GapLinks", name := "silent", desc := "(I)I" } : Jvm.MethodName)) ∈ UU := tb_5 (List.mem_of_getElem? (i := 53) rfl) rfl
theorem u5_54 : (Jvm.Cond.code ({ cls := "GapLinks", name := "silent", desc := "(I)I" } : Jvm.MethodName) prog_1_method_39_code (4 : Nat) (Option.some Jvm.ClassFile.FieldType.int)) ∈ UU := tb_5 (List.mem_of_getElem? (i := 54) rfl) rfl
theorem u5_55 : (Jvm.Cond.methodLink "GapLinks" (323 : Nat) ({ cls := "GapLinks$Ears", name := "allTook", desc := "(II)Z" } : Jvm.MethodName)) ∈ UU := tb_5 (List.mem_of_getElem? (i := 55) rfl) rfl
theorem u5_56 : (Jvm.Cond.instanceMethod ({ cls := "GapLinks$Ears", name := "allTook", desc := "(II)Z" } : Jvm.MethodName)) ∈ UU := tb_5 (List.mem_of_getElem? (i := 56) rfl) rfl
theorem u5_57 : (Jvm.Cond.selects "GapLinks$Ears" ({ cls := "GapLinks$Ears", name := "allTook", desc := "(II)Z" } : Jvm.MethodName) ({ cls := "GapLinks$Ears", name := "allTook", desc := "(II)Z" } : Jvm.MethodName)) ∈ UU := tb_5 (List.mem_of_getElem? (i := 57) rfl) rfl
theorem u5_58 : (Jvm.Cond.code ({ cls := "GapLinks$Ears", name := "allTook", desc := "(II)Z" } : Jvm.MethodName) prog_2_method_9_code (4 : Nat) (Option.some Jvm.ClassFile.FieldType.boolean)) ∈ UU := tb_5 (List.mem_of_getElem? (i := 58) rfl) rfl
theorem u5_60 : (Jvm.Cond.classLink "GapLinks" (326 : Nat) "java/util/NoSuchElementException") ∈ UU := tb_5 (List.mem_of_getElem? (i := 60) rfl) rfl
theorem u5_61 : (Jvm.Cond.instantiable "java/util/NoSuchElementException" (6 : Nat)) ∈ UU := tb_5 (List.mem_of_getElem? (i := 61) rfl) rfl
theorem u5_69 : (Jvm.Cond.selects "java/util/NoSuchElementException" ({ cls := "java/lang/Throwable", name := "fillInStackTrace", desc := "(I)Ljava/lang/Throwable;" } : Jvm.MethodName) ({ cls := "java/lang/Throwable", name := "fillInStackTrace", desc := "(I)Ljava/lang/Throwable;" } : Jvm.MethodName)) ∈ UU := tb_5 (List.mem_of_getElem? (i := 69) rfl) rfl
theorem u5_70 : (Jvm.Cond.selects "java/util/NoSuchElementException" ({ cls := "java/lang/Throwable", name := "fillInStackTrace", desc := "()Ljava/lang/Throwable;" } : Jvm.MethodName) ({ cls := "java/lang/Throwable", name := "fillInStackTrace", desc := "()Ljava/lang/Throwable;" } : Jvm.MethodName)) ∈ UU := tb_5 (List.mem_of_getElem? (i := 70) rfl) rfl
theorem u5_71 : (Jvm.Cond.lays "java/util/NoSuchElementException" "java/lang/Throwable" "cause" "Ljava/lang/Throwable;") ∈ UU := tb_5 (List.mem_of_getElem? (i := 71) rfl) rfl
theorem u5_72 : (Jvm.Cond.lays "java/lang/Throwable" "java/lang/Throwable" "cause" "Ljava/lang/Throwable;") ∈ UU := tb_5 (List.mem_of_getElem? (i := 72) rfl) rfl
theorem u5_73 : (Jvm.Cond.lays "java/util/NoSuchElementException" "java/lang/Throwable" "stackTrace" "[Ljava/lang/StackTraceElement;") ∈ UU := tb_5 (List.mem_of_getElem? (i := 73) rfl) rfl
theorem u5_74 : (Jvm.Cond.lays "java/lang/Throwable" "java/lang/Throwable" "stackTrace" "[Ljava/lang/StackTraceElement;") ∈ UU := tb_5 (List.mem_of_getElem? (i := 74) rfl) rfl
theorem u5_75 : (Jvm.Cond.lays "java/util/NoSuchElementException" "java/lang/Throwable" "suppressedExceptions" "Ljava/util/List;") ∈ UU := tb_5 (List.mem_of_getElem? (i := 75) rfl) rfl
theorem u5_76 : (Jvm.Cond.lays "java/lang/Throwable" "java/lang/Throwable" "suppressedExceptions" "Ljava/util/List;") ∈ UU := tb_5 (List.mem_of_getElem? (i := 76) rfl) rfl
theorem u5_77 : (Jvm.Cond.lays "java/util/NoSuchElementException" "java/lang/Throwable" "detailMessage" "Ljava/lang/String;") ∈ UU := tb_5 (List.mem_of_getElem? (i := 77) rfl) rfl
theorem u5_78 : (Jvm.Cond.lays "java/lang/Throwable" "java/lang/Throwable" "detailMessage" "Ljava/lang/String;") ∈ UU := tb_5 (List.mem_of_getElem? (i := 78) rfl) rfl
theorem u5_79 : (Jvm.Cond.lays "java/util/NoSuchElementException" "java/lang/Throwable" "backtrace" "Ljava/lang/Object;") ∈ UU := tb_5 (List.mem_of_getElem? (i := 79) rfl) rfl
theorem u5_80 : (Jvm.Cond.lays "java/lang/Throwable" "java/lang/Throwable" "backtrace" "Ljava/lang/Object;") ∈ UU := tb_5 (List.mem_of_getElem? (i := 80) rfl) rfl
theorem u5_81 : (Jvm.Cond.fieldLink "java/lang/Throwable" (198 : Nat) "java/lang/Throwable" "backtrace" "Ljava/lang/Object;") ∈ UU := tb_5 (List.mem_of_getElem? (i := 81) rfl) rfl
theorem u5_82 : (Jvm.Cond.superclass "java/lang/Throwable" "java/lang/Object") ∈ UU := tb_5 (List.mem_of_getElem? (i := 82) rfl) rfl
theorem u5_83 : (Jvm.Cond.instanceMethod ({ cls := "java/lang/Throwable", name := "<init>", desc := "()V" } : Jvm.MethodName)) ∈ UU := tb_5 (List.mem_of_getElem? (i := 83) rfl) rfl
theorem u5_84 : (Jvm.Cond.code ({ cls := "java/lang/Throwable", name := "<init>", desc := "()V" } : Jvm.MethodName) prog_24_method_1_code (1 : Nat) (Option.none : Option Jvm.ClassFile.FieldType)) ∈ UU := tb_5 (List.mem_of_getElem? (i := 84) rfl) rfl
theorem u5_85 : (Jvm.Cond.methodLink "java/lang/Throwable" (1 : Nat) ({ cls := "java/lang/Object", name := "<init>", desc := "()V" } : Jvm.MethodName)) ∈ UU := tb_5 (List.mem_of_getElem? (i := 85) rfl) rfl
theorem u5_86 : (Jvm.Cond.fieldLink "java/lang/Throwable" (13 : Nat) "java/lang/Throwable" "UNASSIGNED_STACK" "[Ljava/lang/StackTraceElement;") ∈ UU := tb_5 (List.mem_of_getElem? (i := 86) rfl) rfl
theorem u5_88 : (Jvm.Cond.fieldLink "java/lang/Throwable" (20 : Nat) "java/lang/Throwable" "SUPPRESSED_SENTINEL" "Ljava/util/List;") ∈ UU := tb_5 (List.mem_of_getElem? (i := 88) rfl) rfl
theorem u5_90 : (Jvm.Cond.methodLink "java/lang/Throwable" (27 : Nat) ({ cls := "java/lang/Throwable", name := "fillInStackTrace", desc := "()Ljava/lang/Throwable;" } : Jvm.MethodName)) ∈ UU := tb_5 (List.mem_of_getElem? (i := 90) rfl) rfl
theorem u5_91 : (Jvm.Cond.instanceMethod ({ cls := "java/lang/Throwable", name := "fillInStackTrace", desc := "()Ljava/lang/Throwable;" } : Jvm.MethodName)) ∈ UU := tb_5 (List.mem_of_getElem? (i := 91) rfl) rfl
theorem u5_92 : (Jvm.Cond.sameMethod "java/lang/Throwable" "java/lang/Throwable" "fillInStackTrace" "()Ljava/lang/Throwable;") ∈ UU := tb_5 (List.mem_of_getElem? (i := 92) rfl) rfl
theorem u5_94 : (Jvm.Cond.methodLink "java/lang/Throwable" (202 : Nat) ({ cls := "java/lang/Throwable", name := "fillInStackTrace", desc := "(I)Ljava/lang/Throwable;" } : Jvm.MethodName)) ∈ UU := tb_5 (List.mem_of_getElem? (i := 94) rfl) rfl
theorem u5_96 : (Jvm.Cond.instanceMethod ({ cls := "java/lang/Throwable", name := "fillInStackTrace", desc := "(I)Ljava/lang/Throwable;" } : Jvm.MethodName)) ∈ UU := tb_5 (List.mem_of_getElem? (i := 96) rfl) rfl
theorem u5_97 : (Jvm.Cond.instantiable "java/lang/Throwable" (6 : Nat)) ∈ UU := tb_5 (List.mem_of_getElem? (i := 97) rfl) rfl
theorem u5_98 : (Jvm.Cond.native ({ cls := "java/lang/Throwable", name := "fillInStackTrace", desc := "(I)Ljava/lang/Throwable;" } : Jvm.MethodName)) ∈ UU := tb_5 (List.mem_of_getElem? (i := 98) rfl) rfl
theorem u5_99 : (Jvm.Cond.methodLink "GapLinks" (328 : Nat) ({ cls := "java/util/NoSuchElementException", name := "<init>", desc := "()V" } : Jvm.MethodName)) ∈ UU := tb_5 (List.mem_of_getElem? (i := 99) rfl) rfl
theorem u5_100 : (Jvm.Cond.instanceMethod ({ cls := "java/util/NoSuchElementException", name := "<init>", desc := "()V" } : Jvm.MethodName)) ∈ UU := tb_5 (List.mem_of_getElem? (i := 100) rfl) rfl
theorem u5_101 : (Jvm.Cond.code ({ cls := "java/util/NoSuchElementException", name := "<init>", desc := "()V" } : Jvm.MethodName) prog_28_method_1_code (1 : Nat) (Option.none : Option Jvm.ClassFile.FieldType)) ∈ UU := tb_5 (List.mem_of_getElem? (i := 101) rfl) rfl
theorem u5_102 : (Jvm.Cond.methodLink "java/util/NoSuchElementException" (1 : Nat) ({ cls := "java/lang/RuntimeException", name := "<init>", desc := "()V" } : Jvm.MethodName)) ∈ UU := tb_5 (List.mem_of_getElem? (i := 102) rfl) rfl
theorem u5_103 : (Jvm.Cond.instanceMethod ({ cls := "java/lang/RuntimeException", name := "<init>", desc := "()V" } : Jvm.MethodName)) ∈ UU := tb_5 (List.mem_of_getElem? (i := 103) rfl) rfl
theorem u5_104 : (Jvm.Cond.code ({ cls := "java/lang/RuntimeException", name := "<init>", desc := "()V" } : Jvm.MethodName) prog_19_method_1_code (1 : Nat) (Option.none : Option Jvm.ClassFile.FieldType)) ∈ UU := tb_5 (List.mem_of_getElem? (i := 104) rfl) rfl
theorem u5_105 : (Jvm.Cond.methodLink "java/lang/RuntimeException" (1 : Nat) ({ cls := "java/lang/Exception", name := "<init>", desc := "()V" } : Jvm.MethodName)) ∈ UU := tb_5 (List.mem_of_getElem? (i := 105) rfl) rfl
theorem u5_106 : (Jvm.Cond.instanceMethod ({ cls := "java/lang/Exception", name := "<init>", desc := "()V" } : Jvm.MethodName)) ∈ UU := tb_5 (List.mem_of_getElem? (i := 106) rfl) rfl
theorem u5_107 : (Jvm.Cond.code ({ cls := "java/lang/Exception", name := "<init>", desc := "()V" } : Jvm.MethodName) prog_14_method_1_code (1 : Nat) (Option.none : Option Jvm.ClassFile.FieldType)) ∈ UU := tb_5 (List.mem_of_getElem? (i := 107) rfl) rfl
theorem u5_108 : (Jvm.Cond.methodLink "java/lang/Exception" (1 : Nat) ({ cls := "java/lang/Throwable", name := "<init>", desc := "()V" } : Jvm.MethodName)) ∈ UU := tb_5 (List.mem_of_getElem? (i := 108) rfl) rfl
theorem u5_110 : (Jvm.Cond.fieldLink "java/lang/Throwable" (7 : Nat) "java/lang/Throwable" "cause" "Ljava/lang/Throwable;") ∈ UU := tb_5 (List.mem_of_getElem? (i := 110) rfl) rfl
theorem u5_111 : (Jvm.Cond.fieldLink "java/lang/Throwable" (17 : Nat) "java/lang/Throwable" "stackTrace" "[Ljava/lang/StackTraceElement;") ∈ UU := tb_5 (List.mem_of_getElem? (i := 111) rfl) rfl
theorem u5_112 : (Jvm.Cond.fieldLink "java/lang/Throwable" (24 : Nat) "java/lang/Throwable" "suppressedExceptions" "Ljava/util/List;") ∈ UU := tb_5 (List.mem_of_getElem? (i := 112) rfl) rfl
theorem u5_113 : (Jvm.Cond.soleField "java/lang/Throwable" "backtrace") ∈ UU := tb_5 (List.mem_of_getElem? (i := 113) rfl) rfl
theorem u5_114 : (Jvm.Cond.soleField "java/lang/Throwable" "detailMessage") ∈ UU := tb_5 (List.mem_of_getElem? (i := 114) rfl) rfl
theorem u5_115 : (Jvm.Cond.soleField "java/lang/Throwable" "cause") ∈ UU := tb_5 (List.mem_of_getElem? (i := 115) rfl) rfl
theorem u5_116 : (Jvm.Cond.soleField "java/lang/Throwable" "stackTrace") ∈ UU := tb_5 (List.mem_of_getElem? (i := 116) rfl) rfl
theorem u5_117 : (Jvm.Cond.lays "java/util/NoSuchElementException" "java/lang/Throwable" "depth" "I") ∈ UU := tb_5 (List.mem_of_getElem? (i := 117) rfl) rfl
theorem u5_118 : (Jvm.Cond.soleField "java/lang/Throwable" "depth") ∈ UU := tb_5 (List.mem_of_getElem? (i := 118) rfl) rfl
theorem u5_119 : (Jvm.Cond.soleField "java/lang/Throwable" "suppressedExceptions") ∈ UU := tb_5 (List.mem_of_getElem? (i := 119) rfl) rfl
theorem u5_120 : (Jvm.Cond.superclass "java/util/NoSuchElementException" "java/lang/RuntimeException") ∈ UU := tb_5 (List.mem_of_getElem? (i := 120) rfl) rfl
theorem u5_121 : (Jvm.Cond.classLink "GapLinksLaw" (16 : Nat) "GapLinksModel") ∈ UU := tb_5 (List.mem_of_getElem? (i := 121) rfl) rfl
theorem u5_122 : (Jvm.Cond.instantiable "GapLinksModel" (29 : Nat)) ∈ UU := tb_5 (List.mem_of_getElem? (i := 122) rfl) rfl
theorem u5_123 : (Jvm.Cond.methodLink "GapLinksLaw" (18 : Nat) ({ cls := "GapLinksModel", name := "<init>", desc := "()V" } : Jvm.MethodName)) ∈ UU := tb_5 (List.mem_of_getElem? (i := 123) rfl) rfl
theorem u5_124 : (Jvm.Cond.instanceMethod ({ cls := "GapLinksModel", name := "<init>", desc := "()V" } : Jvm.MethodName)) ∈ UU := tb_5 (List.mem_of_getElem? (i := 124) rfl) rfl
theorem u5_125 : (Jvm.Cond.code ({ cls := "GapLinksModel", name := "<init>", desc := "()V" } : Jvm.MethodName) prog_10_method_1_code (1 : Nat) (Option.none : Option Jvm.ClassFile.FieldType)) ∈ UU := tb_5 (List.mem_of_getElem? (i := 125) rfl) rfl
theorem u5_126 : (Jvm.Cond.methodLink "GapLinksModel" (3 : Nat) ({ cls := "java/lang/Object", name := "<init>", desc := "()V" } : Jvm.MethodName)) ∈ UU := tb_5 (List.mem_of_getElem? (i := 126) rfl) rfl
theorem u5_127 : (Jvm.Cond.fieldLink "GapLinksModel" (51 : Nat) "GapLinksModel" "thrown" "I") ∈ UU := tb_5 (List.mem_of_getElem? (i := 127) rfl) rfl
theorem u5_128 : (Jvm.Cond.fieldLink "GapLinksModel" (54 : Nat) "GapLinksModel" "trouble" "I") ∈ UU := tb_5 (List.mem_of_getElem? (i := 128) rfl) rfl
theorem u5_129 : (Jvm.Cond.fieldLink "GapLinksModel" (206 : Nat) "GapLinksModel" "fault" "I") ∈ UU := tb_5 (List.mem_of_getElem? (i := 129) rfl) rfl
theorem u5_130 : (Jvm.Cond.fieldLink "GapLinksModel" (9 : Nat) "GapLinksModel" "where" "I") ∈ UU := tb_5 (List.mem_of_getElem? (i := 130) rfl) rfl
theorem u5_131 : (Jvm.Cond.fieldLink "GapLinksModel" (13 : Nat) "GapLinksModel" "tape" "[I") ∈ UU := tb_5 (List.mem_of_getElem? (i := 131) rfl) rfl
theorem u5_132 : (Jvm.Cond.fieldLink "GapLinksModel" (57 : Nat) "GapLinksModel" "taped" "I") ∈ UU := tb_5 (List.mem_of_getElem? (i := 132) rfl) rfl
theorem u5_133 : (Jvm.Cond.fieldLink "GapLinksModel" (17 : Nat) "GapLinksModel" "is" "[I") ∈ UU := tb_5 (List.mem_of_getElem? (i := 133) rfl) rfl
theorem u5_134 : (Jvm.Cond.fieldLink "GapLinksModel" (20 : Nat) "GapLinksModel" "read" "[I") ∈ UU := tb_5 (List.mem_of_getElem? (i := 134) rfl) rfl
theorem u5_135 : (Jvm.Cond.fieldLink "GapLinksModel" (23 : Nat) "GapLinksModel" "endAt" "[I") ∈ UU := tb_5 (List.mem_of_getElem? (i := 135) rfl) rfl
theorem u5_136 : (Jvm.Cond.fieldLink "GapLinksModel" (26 : Nat) "GapLinksModel" "readAt" "[I") ∈ UU := tb_5 (List.mem_of_getElem? (i := 136) rfl) rfl
theorem u5_137 : (Jvm.Cond.fieldLink "GapLinksModel" (29 : Nat) "GapLinksModel" "links" "[I") ∈ UU := tb_5 (List.mem_of_getElem? (i := 137) rfl) rfl
theorem u5_138 : (Jvm.Cond.fieldLink "GapLinksModel" (32 : Nat) "GapLinksModel" "readLinks" "[I") ∈ UU := tb_5 (List.mem_of_getElem? (i := 138) rfl) rfl
theorem u5_139 : (Jvm.Cond.fieldLink "GapLinksModel" (35 : Nat) "GapLinksModel" "names" "[J") ∈ UU := tb_5 (List.mem_of_getElem? (i := 139) rfl) rfl
theorem u5_140 : (Jvm.Cond.fieldLink "GapLinksModel" (39 : Nat) "GapLinksModel" "readNames" "[J") ∈ UU := tb_5 (List.mem_of_getElem? (i := 140) rfl) rfl
theorem u5_141 : (Jvm.Cond.fieldLink "GapLinksModel" (212 : Nat) "GapLinksModel" "isTold" "Z") ∈ UU := tb_5 (List.mem_of_getElem? (i := 141) rfl) rfl
theorem u5_142 : (Jvm.Cond.fieldLink "GapLinksModel" (64 : Nat) "GapLinksModel" "textLong" "I") ∈ UU := tb_5 (List.mem_of_getElem? (i := 142) rfl) rfl
theorem u5_143 : (Jvm.Cond.fieldLink "GapLinksModel" (74 : Nat) "GapLinksModel" "place" "I") ∈ UU := tb_5 (List.mem_of_getElem? (i := 143) rfl) rfl
theorem u5_144 : (Jvm.Cond.fieldLink "GapLinksModel" (67 : Nat) "GapLinksModel" "spot" "I") ∈ UU := tb_5 (List.mem_of_getElem? (i := 144) rfl) rfl
theorem u5_145 : (Jvm.Cond.fieldLink "GapLinksModel" (77 : Nat) "GapLinksModel" "token" "I") ∈ UU := tb_5 (List.mem_of_getElem? (i := 145) rfl) rfl
theorem u5_146 : (Jvm.Cond.fieldLink "GapLinksModel" (87 : Nat) "GapLinksModel" "whole" "I") ∈ UU := tb_5 (List.mem_of_getElem? (i := 146) rfl) rfl
theorem u5_147 : (Jvm.Cond.fieldLink "GapLinksModel" (90 : Nat) "GapLinksModel" "name" "J") ∈ UU := tb_5 (List.mem_of_getElem? (i := 147) rfl) rfl
theorem u5_148 : (Jvm.Cond.fieldLink "GapLinksModel" (108 : Nat) "GapLinksModel" "readFault" "I") ∈ UU := tb_5 (List.mem_of_getElem? (i := 148) rfl) rfl
theorem u5_149 : (Jvm.Cond.fieldLink "GapLinksModel" (111 : Nat) "GapLinksModel" "readPlace" "I") ∈ UU := tb_5 (List.mem_of_getElem? (i := 149) rfl) rfl
theorem u5_150 : (Jvm.Cond.fieldLink "GapLinksModel" (141 : Nat) "GapLinksModel" "hasBus" "Z") ∈ UU := tb_5 (List.mem_of_getElem? (i := 150) rfl) rfl
theorem u5_151 : (Jvm.Cond.fieldLink "GapLinksModel" (42 : Nat) "GapLinksModel" "row" "[I") ∈ UU := tb_5 (List.mem_of_getElem? (i := 151) rfl) rfl
theorem u5_152 : (Jvm.Cond.fieldLink "GapLinksModel" (45 : Nat) "GapLinksModel" "aside" "[I") ∈ UU := tb_5 (List.mem_of_getElem? (i := 152) rfl) rfl
theorem u5_153 : (Jvm.Cond.fieldLink "GapLinksModel" (48 : Nat) "GapLinksModel" "kept" "[I") ∈ UU := tb_5 (List.mem_of_getElem? (i := 153) rfl) rfl
theorem u5_154 : (Jvm.Cond.fieldLink "GapLinksModel" (215 : Nat) "GapLinksModel" "isKept" "Z") ∈ UU := tb_5 (List.mem_of_getElem? (i := 154) rfl) rfl
theorem u5_155 : (Jvm.Cond.fieldLink "GapLinksModel" (274 : Nat) "GapLinksModel" "takenNow" "I") ∈ UU := tb_5 (List.mem_of_getElem? (i := 155) rfl) rfl
theorem u5_156 : (Jvm.Cond.lays "GapLinksModel" "GapLinksModel" "thrown" "I") ∈ UU := tb_5 (List.mem_of_getElem? (i := 156) rfl) rfl
theorem u5_157 : (Jvm.Cond.soleField "GapLinksModel" "thrown") ∈ UU := tb_5 (List.mem_of_getElem? (i := 157) rfl) rfl
theorem u5_158 : (Jvm.Cond.lays "GapLinksModel" "GapLinksModel" "trouble" "I") ∈ UU := tb_5 (List.mem_of_getElem? (i := 158) rfl) rfl
theorem u5_159 : (Jvm.Cond.soleField "GapLinksModel" "trouble") ∈ UU := tb_5 (List.mem_of_getElem? (i := 159) rfl) rfl
theorem u5_160 : (Jvm.Cond.lays "GapLinksModel" "GapLinksModel" "fault" "I") ∈ UU := tb_5 (List.mem_of_getElem? (i := 160) rfl) rfl
theorem u5_161 : (Jvm.Cond.soleField "GapLinksModel" "fault") ∈ UU := tb_5 (List.mem_of_getElem? (i := 161) rfl) rfl
theorem u5_162 : (Jvm.Cond.lays "GapLinksModel" "GapLinksModel" "where" "I") ∈ UU := tb_5 (List.mem_of_getElem? (i := 162) rfl) rfl
theorem u5_163 : (Jvm.Cond.soleField "GapLinksModel" "where") ∈ UU := tb_5 (List.mem_of_getElem? (i := 163) rfl) rfl
theorem u5_164 : (Jvm.Cond.laysFinal "GapLinksModel" "GapLinksModel" "tape" "[I") ∈ UU := tb_5 (List.mem_of_getElem? (i := 164) rfl) rfl
theorem u5_165 : (Jvm.Cond.soleField "GapLinksModel" "tape") ∈ UU := tb_5 (List.mem_of_getElem? (i := 165) rfl) rfl
theorem u5_166 : (Jvm.Cond.lays "GapLinksModel" "GapLinksModel" "taped" "I") ∈ UU := tb_5 (List.mem_of_getElem? (i := 166) rfl) rfl
theorem u5_167 : (Jvm.Cond.soleField "GapLinksModel" "taped") ∈ UU := tb_5 (List.mem_of_getElem? (i := 167) rfl) rfl
theorem u5_168 : (Jvm.Cond.laysFinal "GapLinksModel" "GapLinksModel" "is" "[I") ∈ UU := tb_5 (List.mem_of_getElem? (i := 168) rfl) rfl
theorem u5_169 : (Jvm.Cond.soleField "GapLinksModel" "is") ∈ UU := tb_5 (List.mem_of_getElem? (i := 169) rfl) rfl
theorem u5_170 : (Jvm.Cond.laysFinal "GapLinksModel" "GapLinksModel" "read" "[I") ∈ UU := tb_5 (List.mem_of_getElem? (i := 170) rfl) rfl
theorem u5_171 : (Jvm.Cond.soleField "GapLinksModel" "read") ∈ UU := tb_5 (List.mem_of_getElem? (i := 171) rfl) rfl
theorem u5_172 : (Jvm.Cond.laysFinal "GapLinksModel" "GapLinksModel" "endAt" "[I") ∈ UU := tb_5 (List.mem_of_getElem? (i := 172) rfl) rfl
theorem u5_173 : (Jvm.Cond.soleField "GapLinksModel" "endAt") ∈ UU := tb_5 (List.mem_of_getElem? (i := 173) rfl) rfl
theorem u5_174 : (Jvm.Cond.laysFinal "GapLinksModel" "GapLinksModel" "readAt" "[I") ∈ UU := tb_5 (List.mem_of_getElem? (i := 174) rfl) rfl
theorem u5_175 : (Jvm.Cond.soleField "GapLinksModel" "readAt") ∈ UU := tb_5 (List.mem_of_getElem? (i := 175) rfl) rfl
theorem u5_176 : (Jvm.Cond.laysFinal "GapLinksModel" "GapLinksModel" "links" "[I") ∈ UU := tb_5 (List.mem_of_getElem? (i := 176) rfl) rfl
theorem u5_177 : (Jvm.Cond.soleField "GapLinksModel" "links") ∈ UU := tb_5 (List.mem_of_getElem? (i := 177) rfl) rfl
theorem u5_178 : (Jvm.Cond.laysFinal "GapLinksModel" "GapLinksModel" "readLinks" "[I") ∈ UU := tb_5 (List.mem_of_getElem? (i := 178) rfl) rfl
theorem u5_179 : (Jvm.Cond.soleField "GapLinksModel" "readLinks") ∈ UU := tb_5 (List.mem_of_getElem? (i := 179) rfl) rfl
theorem u5_180 : (Jvm.Cond.laysFinal "GapLinksModel" "GapLinksModel" "names" "[J") ∈ UU := tb_5 (List.mem_of_getElem? (i := 180) rfl) rfl
theorem u5_181 : (Jvm.Cond.soleField "GapLinksModel" "names") ∈ UU := tb_5 (List.mem_of_getElem? (i := 181) rfl) rfl
theorem u5_182 : (Jvm.Cond.laysFinal "GapLinksModel" "GapLinksModel" "readNames" "[J") ∈ UU := tb_5 (List.mem_of_getElem? (i := 182) rfl) rfl
theorem u5_183 : (Jvm.Cond.soleField "GapLinksModel" "readNames") ∈ UU := tb_5 (List.mem_of_getElem? (i := 183) rfl) rfl
theorem u5_184 : (Jvm.Cond.lays "GapLinksModel" "GapLinksModel" "isTold" "Z") ∈ UU := tb_5 (List.mem_of_getElem? (i := 184) rfl) rfl
theorem u5_185 : (Jvm.Cond.soleField "GapLinksModel" "isTold") ∈ UU := tb_5 (List.mem_of_getElem? (i := 185) rfl) rfl
theorem u5_186 : (Jvm.Cond.lays "GapLinksModel" "GapLinksModel" "textLong" "I") ∈ UU := tb_5 (List.mem_of_getElem? (i := 186) rfl) rfl
theorem u5_187 : (Jvm.Cond.soleField "GapLinksModel" "textLong") ∈ UU := tb_5 (List.mem_of_getElem? (i := 187) rfl) rfl
theorem u5_188 : (Jvm.Cond.lays "GapLinksModel" "GapLinksModel" "place" "I") ∈ UU := tb_5 (List.mem_of_getElem? (i := 188) rfl) rfl
theorem u5_189 : (Jvm.Cond.soleField "GapLinksModel" "place") ∈ UU := tb_5 (List.mem_of_getElem? (i := 189) rfl) rfl
theorem u5_190 : (Jvm.Cond.lays "GapLinksModel" "GapLinksModel" "spot" "I") ∈ UU := tb_5 (List.mem_of_getElem? (i := 190) rfl) rfl
theorem u5_191 : (Jvm.Cond.soleField "GapLinksModel" "spot") ∈ UU := tb_5 (List.mem_of_getElem? (i := 191) rfl) rfl
theorem u5_192 : (Jvm.Cond.lays "GapLinksModel" "GapLinksModel" "token" "I") ∈ UU := tb_5 (List.mem_of_getElem? (i := 192) rfl) rfl
theorem u5_193 : (Jvm.Cond.soleField "GapLinksModel" "token") ∈ UU := tb_5 (List.mem_of_getElem? (i := 193) rfl) rfl
theorem u5_194 : (Jvm.Cond.lays "GapLinksModel" "GapLinksModel" "whole" "I") ∈ UU := tb_5 (List.mem_of_getElem? (i := 194) rfl) rfl
theorem u5_195 : (Jvm.Cond.soleField "GapLinksModel" "whole") ∈ UU := tb_5 (List.mem_of_getElem? (i := 195) rfl) rfl
theorem u5_196 : (Jvm.Cond.lays "GapLinksModel" "GapLinksModel" "name" "J") ∈ UU := tb_5 (List.mem_of_getElem? (i := 196) rfl) rfl
theorem u5_197 : (Jvm.Cond.soleField "GapLinksModel" "name") ∈ UU := tb_5 (List.mem_of_getElem? (i := 197) rfl) rfl
theorem u5_198 : (Jvm.Cond.lays "GapLinksModel" "GapLinksModel" "readFault" "I") ∈ UU := tb_5 (List.mem_of_getElem? (i := 198) rfl) rfl
theorem u5_199 : (Jvm.Cond.soleField "GapLinksModel" "readFault") ∈ UU := tb_5 (List.mem_of_getElem? (i := 199) rfl) rfl
theorem u5_200 : (Jvm.Cond.lays "GapLinksModel" "GapLinksModel" "readPlace" "I") ∈ UU := tb_5 (List.mem_of_getElem? (i := 200) rfl) rfl
theorem u5_201 : (Jvm.Cond.soleField "GapLinksModel" "readPlace") ∈ UU := tb_5 (List.mem_of_getElem? (i := 201) rfl) rfl
theorem u5_202 : (Jvm.Cond.lays "GapLinksModel" "GapLinksModel" "hasBus" "Z") ∈ UU := tb_5 (List.mem_of_getElem? (i := 202) rfl) rfl
theorem u5_203 : (Jvm.Cond.soleField "GapLinksModel" "hasBus") ∈ UU := tb_5 (List.mem_of_getElem? (i := 203) rfl) rfl
theorem u5_204 : (Jvm.Cond.laysFinal "GapLinksModel" "GapLinksModel" "row" "[I") ∈ UU := tb_5 (List.mem_of_getElem? (i := 204) rfl) rfl
theorem u5_205 : (Jvm.Cond.soleField "GapLinksModel" "row") ∈ UU := tb_5 (List.mem_of_getElem? (i := 205) rfl) rfl
theorem u5_206 : (Jvm.Cond.laysFinal "GapLinksModel" "GapLinksModel" "aside" "[I") ∈ UU := tb_5 (List.mem_of_getElem? (i := 206) rfl) rfl
theorem u5_207 : (Jvm.Cond.soleField "GapLinksModel" "aside") ∈ UU := tb_5 (List.mem_of_getElem? (i := 207) rfl) rfl
theorem u5_208 : (Jvm.Cond.laysFinal "GapLinksModel" "GapLinksModel" "kept" "[I") ∈ UU := tb_5 (List.mem_of_getElem? (i := 208) rfl) rfl
theorem u5_209 : (Jvm.Cond.soleField "GapLinksModel" "kept") ∈ UU := tb_5 (List.mem_of_getElem? (i := 209) rfl) rfl
theorem u5_210 : (Jvm.Cond.lays "GapLinksModel" "GapLinksModel" "isKept" "Z") ∈ UU := tb_5 (List.mem_of_getElem? (i := 210) rfl) rfl
theorem u5_211 : (Jvm.Cond.soleField "GapLinksModel" "isKept") ∈ UU := tb_5 (List.mem_of_getElem? (i := 211) rfl) rfl
theorem u5_212 : (Jvm.Cond.lays "GapLinksModel" "GapLinksModel" "takenNow" "I") ∈ UU := tb_5 (List.mem_of_getElem? (i := 212) rfl) rfl
theorem u5_213 : (Jvm.Cond.soleField "GapLinksModel" "takenNow") ∈ UU := tb_5 (List.mem_of_getElem? (i := 213) rfl) rfl
theorem u5_214 : (Jvm.Cond.superclass "GapLinksModel" "java/lang/Object") ∈ UU := tb_5 (List.mem_of_getElem? (i := 214) rfl) rfl
theorem u5_215 : (Jvm.Cond.methodLink "GapLinksLaw" (185 : Nat) ({ cls := "GapLinksModel", name := "thrown", desc := "()I" } : Jvm.MethodName)) ∈ UU := tb_5 (List.mem_of_getElem? (i := 215) rfl) rfl
theorem u5_216 : (Jvm.Cond.instanceMethod ({ cls := "GapLinksModel", name := "thrown", desc := "()I" } : Jvm.MethodName)) ∈ UU := tb_5 (List.mem_of_getElem? (i := 216) rfl) rfl
theorem u5_217 : (Jvm.Cond.selects "GapLinksModel" ({ cls := "GapLinksModel", name := "thrown", desc := "()I" } : Jvm.MethodName) ({ cls := "GapLinksModel", name := "thrown", desc := "()I" } : Jvm.MethodName)) ∈ UU := tb_5 (List.mem_of_getElem? (i := 217) rfl) rfl
theorem u5_218 : (Jvm.Cond.code ({ cls := "GapLinksModel", name := "thrown", desc := "()I" } : Jvm.MethodName) prog_10_method_2_code (1 : Nat) (Option.some Jvm.ClassFile.FieldType.int)) ∈ UU := tb_5 (List.mem_of_getElem? (i := 218) rfl) rfl
theorem u5_219 : (Jvm.Cond.methodLink "GapLinksLaw" (23 : Nat) ({ cls := "GapLinksModel", name := "feed", desc := "(IIIII)I" } : Jvm.MethodName)) ∈ UU := tb_5 (List.mem_of_getElem? (i := 219) rfl) rfl
theorem u5_220 : (Jvm.Cond.instanceMethod ({ cls := "GapLinksModel", name := "feed", desc := "(IIIII)I" } : Jvm.MethodName)) ∈ UU := tb_5 (List.mem_of_getElem? (i := 220) rfl) rfl
theorem u5_221 : (Jvm.Cond.selects "GapLinksModel" ({ cls := "GapLinksModel", name := "feed", desc := "(IIIII)I" } : Jvm.MethodName) ({ cls := "GapLinksModel", name := "feed", desc := "(IIIII)I" } : Jvm.MethodName)) ∈ UU := tb_5 (List.mem_of_getElem? (i := 221) rfl) rfl
theorem u5_222 : (Jvm.Cond.code ({ cls := "GapLinksModel", name := "feed", desc := "(IIIII)I" } : Jvm.MethodName) prog_10_method_6_code (6 : Nat) (Option.some Jvm.ClassFile.FieldType.int)) ∈ UU := tb_5 (List.mem_of_getElem? (i := 222) rfl) rfl
theorem u5_223 : (Jvm.Cond.methodLink "GapLinksModel" (60 : Nat) ({ cls := "GapLinksModel", name := "laysWord", desc := "(I)V" } : Jvm.MethodName)) ∈ UU := tb_5 (List.mem_of_getElem? (i := 223) rfl) rfl
theorem u5_225 : (Jvm.Cond.instanceMethod ({ cls := "GapLinksModel", name := "laysWord", desc := "(I)V" } : Jvm.MethodName)) ∈ UU := tb_5 (List.mem_of_getElem? (i := 225) rfl) rfl
theorem u5_226 : (Jvm.Cond.code ({ cls := "GapLinksModel", name := "laysWord", desc := "(I)V" } : Jvm.MethodName) prog_10_method_7_code (3 : Nat) (Option.none : Option Jvm.ClassFile.FieldType)) ∈ UU := tb_5 (List.mem_of_getElem? (i := 226) rfl) rfl
theorem u5_227 : (Jvm.Cond.methodLink "GapLinksLaw" (27 : Nat) ({ cls := "GapLinksModel", name := "bus", desc := "(I)I" } : Jvm.MethodName)) ∈ UU := tb_5 (List.mem_of_getElem? (i := 227) rfl) rfl
theorem u5_228 : (Jvm.Cond.instanceMethod ({ cls := "GapLinksModel", name := "bus", desc := "(I)I" } : Jvm.MethodName)) ∈ UU := tb_5 (List.mem_of_getElem? (i := 228) rfl) rfl
theorem u5_229 : (Jvm.Cond.selects "GapLinksModel" ({ cls := "GapLinksModel", name := "bus", desc := "(I)I" } : Jvm.MethodName) ({ cls := "GapLinksModel", name := "bus", desc := "(I)I" } : Jvm.MethodName)) ∈ UU := tb_5 (List.mem_of_getElem? (i := 229) rfl) rfl
theorem u5_230 : (Jvm.Cond.code ({ cls := "GapLinksModel", name := "bus", desc := "(I)I" } : Jvm.MethodName) prog_10_method_28_code (3 : Nat) (Option.some Jvm.ClassFile.FieldType.int)) ∈ UU := tb_5 (List.mem_of_getElem? (i := 230) rfl) rfl
theorem u5_231 : (Jvm.Cond.methodLink "GapLinksModel" (200 : Nat) ({ cls := "GapLinksModel", name := "fresh", desc := "()V" } : Jvm.MethodName)) ∈ UU := tb_5 (List.mem_of_getElem? (i := 231) rfl) rfl
theorem u5_233 : (Jvm.Cond.instanceMethod ({ cls := "GapLinksModel", name := "fresh", desc := "()V" } : Jvm.MethodName)) ∈ UU := tb_5 (List.mem_of_getElem? (i := 233) rfl) rfl
theorem u5_234 : (Jvm.Cond.code ({ cls := "GapLinksModel", name := "fresh", desc := "()V" } : Jvm.MethodName) prog_10_method_4_code (1 : Nat) (Option.none : Option Jvm.ClassFile.FieldType)) ∈ UU := tb_5 (List.mem_of_getElem? (i := 234) rfl) rfl
theorem u5_235 : (Jvm.Cond.methodLink "GapLinksModel" (80 : Nat) ({ cls := "GapLinksModel", name := "in", desc := "(III)Z" } : Jvm.MethodName)) ∈ UU := tb_5 (List.mem_of_getElem? (i := 235) rfl) rfl
theorem u5_236 : (Jvm.Cond.static ({ cls := "GapLinksModel", name := "in", desc := "(III)Z" } : Jvm.MethodName)) ∈ UU := tb_5 (List.mem_of_getElem? (i := 236) rfl) rfl
theorem u5_237 : (Jvm.Cond.code ({ cls := "GapLinksModel", name := "in", desc := "(III)Z" } : Jvm.MethodName) prog_10_method_3_code (3 : Nat) (Option.some Jvm.ClassFile.FieldType.boolean)) ∈ UU := tb_5 (List.mem_of_getElem? (i := 237) rfl) rfl
theorem u5_238 : (Jvm.Cond.methodLink "GapLinksModel" (203 : Nat) ({ cls := "GapLinksModel", name := "no", desc := "(I)I" } : Jvm.MethodName)) ∈ UU := tb_5 (List.mem_of_getElem? (i := 238) rfl) rfl
theorem u6_0 : (Jvm.Cond.instanceMethod ({ cls := "GapLinksModel", name := "no", desc := "(I)I" } : Jvm.MethodName)) ∈ UU := tb_6 (List.mem_of_getElem? (i := 0) rfl) rfl
theorem u6_1 : (Jvm.Cond.code ({ cls := "GapLinksModel", name := "no", desc := "(I)I" } : Jvm.MethodName) prog_10_method_5_code (2 : Nat) (Option.some Jvm.ClassFile.FieldType.int)) ∈ UU := tb_6 (List.mem_of_getElem? (i := 1) rfl) rfl
theorem u6_2 : (Jvm.Cond.methodLink "GapLinksModel" (209 : Nat) ({ cls := "GapLinksModel", name := "readAll", desc := "(I)I" } : Jvm.MethodName)) ∈ UU := tb_6 (List.mem_of_getElem? (i := 2) rfl) rfl
theorem u6_4 : (Jvm.Cond.instanceMethod ({ cls := "GapLinksModel", name := "readAll", desc := "(I)I" } : Jvm.MethodName)) ∈ UU := tb_6 (List.mem_of_getElem? (i := 4) rfl) rfl
theorem u6_5 : (Jvm.Cond.code ({ cls := "GapLinksModel", name := "readAll", desc := "(I)I" } : Jvm.MethodName) prog_10_method_27_code (2 : Nat) (Option.some Jvm.ClassFile.FieldType.int)) ∈ UU := tb_6 (List.mem_of_getElem? (i := 5) rfl) rfl
theorem u6_6 : (Jvm.Cond.methodLink "GapLinksModel" (117 : Nat) ({ cls := "GapLinksModel", name := "goesOn", desc := "()V" } : Jvm.MethodName)) ∈ UU := tb_6 (List.mem_of_getElem? (i := 6) rfl) rfl
theorem u6_8 : (Jvm.Cond.instanceMethod ({ cls := "GapLinksModel", name := "goesOn", desc := "()V" } : Jvm.MethodName)) ∈ UU := tb_6 (List.mem_of_getElem? (i := 8) rfl) rfl
theorem u6_9 : (Jvm.Cond.code ({ cls := "GapLinksModel", name := "goesOn", desc := "()V" } : Jvm.MethodName) prog_10_method_9_code (2 : Nat) (Option.none : Option Jvm.ClassFile.FieldType)) ∈ UU := tb_6 (List.mem_of_getElem? (i := 9) rfl) rfl
theorem u6_10 : (Jvm.Cond.methodLink "GapLinksModel" (70 : Nat) ({ cls := "GapLinksModel", name := "see", desc := "(I)I" } : Jvm.MethodName)) ∈ UU := tb_6 (List.mem_of_getElem? (i := 10) rfl) rfl
theorem u6_12 : (Jvm.Cond.instanceMethod ({ cls := "GapLinksModel", name := "see", desc := "(I)I" } : Jvm.MethodName)) ∈ UU := tb_6 (List.mem_of_getElem? (i := 12) rfl) rfl
theorem u6_13 : (Jvm.Cond.code ({ cls := "GapLinksModel", name := "see", desc := "(I)I" } : Jvm.MethodName) prog_10_method_8_code (2 : Nat) (Option.some Jvm.ClassFile.FieldType.int)) ∈ UU := tb_6 (List.mem_of_getElem? (i := 13) rfl) rfl
theorem u6_14 : (Jvm.Cond.methodLink "GapLinksModel" (84 : Nat) ({ cls := "GapLinksModel", name := "readsWord", desc := "()V" } : Jvm.MethodName)) ∈ UU := tb_6 (List.mem_of_getElem? (i := 14) rfl) rfl
theorem u6_16 : (Jvm.Cond.instanceMethod ({ cls := "GapLinksModel", name := "readsWord", desc := "()V" } : Jvm.MethodName)) ∈ UU := tb_6 (List.mem_of_getElem? (i := 16) rfl) rfl
theorem u6_17 : (Jvm.Cond.code ({ cls := "GapLinksModel", name := "readsWord", desc := "()V" } : Jvm.MethodName) prog_10_method_10_code (2 : Nat) (Option.none : Option Jvm.ClassFile.FieldType)) ∈ UU := tb_6 (List.mem_of_getElem? (i := 17) rfl) rfl
theorem u6_18 : (Jvm.Cond.constantLong "GapLinksModel" (94 : Nat) (256 : Int64)) ∈ UU := tb_6 (List.mem_of_getElem? (i := 18) rfl) rfl
theorem u6_19 : (Jvm.Cond.constantLong "GapLinksModel" (96 : Nat) (32 : Int64)) ∈ UU := tb_6 (List.mem_of_getElem? (i := 19) rfl) rfl
theorem u6_20 : (Jvm.Cond.methodLink "GapLinksModel" (197 : Nat) ({ cls := "GapLinksModel", name := "readLine", desc := "()I" } : Jvm.MethodName)) ∈ UU := tb_6 (List.mem_of_getElem? (i := 20) rfl) rfl
theorem u6_22 : (Jvm.Cond.instanceMethod ({ cls := "GapLinksModel", name := "readLine", desc := "()I" } : Jvm.MethodName)) ∈ UU := tb_6 (List.mem_of_getElem? (i := 22) rfl) rfl
theorem u6_23 : (Jvm.Cond.code ({ cls := "GapLinksModel", name := "readLine", desc := "()I" } : Jvm.MethodName) prog_10_method_26_code (1 : Nat) (Option.some Jvm.ClassFile.FieldType.int)) ∈ UU := tb_6 (List.mem_of_getElem? (i := 23) rfl) rfl
theorem u6_25 : (Jvm.Cond.methodLink "GapLinksModel" (120 : Nat) ({ cls := "GapLinksModel", name := "isWord", desc := "(Ljava/lang/String;)Z" } : Jvm.MethodName)) ∈ UU := tb_6 (List.mem_of_getElem? (i := 25) rfl) rfl
theorem u6_27 : (Jvm.Cond.instanceMethod ({ cls := "GapLinksModel", name := "isWord", desc := "(Ljava/lang/String;)Z" } : Jvm.MethodName)) ∈ UU := tb_6 (List.mem_of_getElem? (i := 27) rfl) rfl
theorem u6_28 : (Jvm.Cond.code ({ cls := "GapLinksModel", name := "isWord", desc := "(Ljava/lang/String;)Z" } : Jvm.MethodName) prog_10_method_11_code (3 : Nat) (Option.some Jvm.ClassFile.FieldType.boolean)) ∈ UU := tb_6 (List.mem_of_getElem? (i := 28) rfl) rfl
theorem u6_29 : (Jvm.Cond.methodLink "GapLinksModel" (98 : Nat) ({ cls := "java/lang/String", name := "length", desc := "()I" } : Jvm.MethodName)) ∈ UU := tb_6 (List.mem_of_getElem? (i := 29) rfl) rfl
theorem u6_30 : (Jvm.Cond.instanceMethod ({ cls := "java/lang/String", name := "length", desc := "()I" } : Jvm.MethodName)) ∈ UU := tb_6 (List.mem_of_getElem? (i := 30) rfl) rfl
theorem u6_31 : (Jvm.Cond.selects "java/lang/String" ({ cls := "java/lang/String", name := "length", desc := "()I" } : Jvm.MethodName) ({ cls := "java/lang/String", name := "length", desc := "()I" } : Jvm.MethodName)) ∈ UU := tb_6 (List.mem_of_getElem? (i := 31) rfl) rfl
theorem u6_32 : (Jvm.Cond.code ({ cls := "java/lang/String", name := "length", desc := "()I" } : Jvm.MethodName) prog_20_method_54_code (1 : Nat) (Option.some Jvm.ClassFile.FieldType.int)) ∈ UU := tb_6 (List.mem_of_getElem? (i := 32) rfl) rfl
theorem u6_33 : (Jvm.Cond.methodLink "java/lang/String" (335 : Nat) ({ cls := "java/lang/String", name := "coder", desc := "()B" } : Jvm.MethodName)) ∈ UU := tb_6 (List.mem_of_getElem? (i := 33) rfl) rfl
theorem u6_34 : (Jvm.Cond.instanceMethod ({ cls := "java/lang/String", name := "coder", desc := "()B" } : Jvm.MethodName)) ∈ UU := tb_6 (List.mem_of_getElem? (i := 34) rfl) rfl
theorem u6_35 : (Jvm.Cond.selects "java/lang/String" ({ cls := "java/lang/String", name := "coder", desc := "()B" } : Jvm.MethodName) ({ cls := "java/lang/String", name := "coder", desc := "()B" } : Jvm.MethodName)) ∈ UU := tb_6 (List.mem_of_getElem? (i := 35) rfl) rfl
theorem u6_36 : (Jvm.Cond.code ({ cls := "java/lang/String", name := "coder", desc := "()B" } : Jvm.MethodName) prog_20_method_152_code (1 : Nat) (Option.some Jvm.ClassFile.FieldType.byte)) ∈ UU := tb_6 (List.mem_of_getElem? (i := 36) rfl) rfl
theorem u6_37 : (Jvm.Cond.fieldLink "java/lang/String" (38 : Nat) "java/lang/String" "COMPACT_STRINGS" "Z") ∈ UU := tb_6 (List.mem_of_getElem? (i := 37) rfl) rfl
theorem u6_39 : (Jvm.Cond.methodLink "GapLinksModel" (104 : Nat) ({ cls := "java/lang/String", name := "charAt", desc := "(I)C" } : Jvm.MethodName)) ∈ UU := tb_6 (List.mem_of_getElem? (i := 39) rfl) rfl
theorem u6_40 : (Jvm.Cond.instanceMethod ({ cls := "java/lang/String", name := "charAt", desc := "(I)C" } : Jvm.MethodName)) ∈ UU := tb_6 (List.mem_of_getElem? (i := 40) rfl) rfl
theorem u6_41 : (Jvm.Cond.selects "java/lang/String" ({ cls := "java/lang/String", name := "charAt", desc := "(I)C" } : Jvm.MethodName) ({ cls := "java/lang/String", name := "charAt", desc := "(I)C" } : Jvm.MethodName)) ∈ UU := tb_6 (List.mem_of_getElem? (i := 41) rfl) rfl
theorem u6_42 : (Jvm.Cond.code ({ cls := "java/lang/String", name := "charAt", desc := "(I)C" } : Jvm.MethodName) prog_20_method_56_code (2 : Nat) (Option.some Jvm.ClassFile.FieldType.char)) ∈ UU := tb_6 (List.mem_of_getElem? (i := 42) rfl) rfl
theorem u6_43 : (Jvm.Cond.methodLink "java/lang/String" (492 : Nat) ({ cls := "java/lang/String", name := "isLatin1", desc := "()Z" } : Jvm.MethodName)) ∈ UU := tb_6 (List.mem_of_getElem? (i := 43) rfl) rfl
theorem u6_44 : (Jvm.Cond.instanceMethod ({ cls := "java/lang/String", name := "isLatin1", desc := "()Z" } : Jvm.MethodName)) ∈ UU := tb_6 (List.mem_of_getElem? (i := 44) rfl) rfl
theorem u6_45 : (Jvm.Cond.selects "java/lang/String" ({ cls := "java/lang/String", name := "isLatin1", desc := "()Z" } : Jvm.MethodName) ({ cls := "java/lang/String", name := "isLatin1", desc := "()Z" } : Jvm.MethodName)) ∈ UU := tb_6 (List.mem_of_getElem? (i := 45) rfl) rfl
theorem u6_46 : (Jvm.Cond.code ({ cls := "java/lang/String", name := "isLatin1", desc := "()Z" } : Jvm.MethodName) prog_20_method_154_code (1 : Nat) (Option.some Jvm.ClassFile.FieldType.boolean)) ∈ UU := tb_6 (List.mem_of_getElem? (i := 46) rfl) rfl
theorem u6_47 : (Jvm.Cond.methodLink "java/lang/String" (495 : Nat) ({ cls := "java/lang/StringLatin1", name := "charAt", desc := "([BI)C" } : Jvm.MethodName)) ∈ UU := tb_6 (List.mem_of_getElem? (i := 47) rfl) rfl
theorem u6_48 : (Jvm.Cond.static ({ cls := "java/lang/StringLatin1", name := "charAt", desc := "([BI)C" } : Jvm.MethodName)) ∈ UU := tb_6 (List.mem_of_getElem? (i := 48) rfl) rfl
theorem u6_49 : (Jvm.Cond.code ({ cls := "java/lang/StringLatin1", name := "charAt", desc := "([BI)C" } : Jvm.MethodName) prog_21_method_2_code (2 : Nat) (Option.some Jvm.ClassFile.FieldType.char)) ∈ UU := tb_6 (List.mem_of_getElem? (i := 49) rfl) rfl
theorem u6_50 : (Jvm.Cond.methodLink "java/lang/StringLatin1" (9 : Nat) ({ cls := "java/lang/String", name := "checkIndex", desc := "(II)V" } : Jvm.MethodName)) ∈ UU := tb_6 (List.mem_of_getElem? (i := 50) rfl) rfl
theorem u6_51 : (Jvm.Cond.static ({ cls := "java/lang/String", name := "checkIndex", desc := "(II)V" } : Jvm.MethodName)) ∈ UU := tb_6 (List.mem_of_getElem? (i := 51) rfl) rfl
theorem u6_52 : (Jvm.Cond.code ({ cls := "java/lang/String", name := "checkIndex", desc := "(II)V" } : Jvm.MethodName) prog_20_method_155_code (2 : Nat) (Option.none : Option Jvm.ClassFile.FieldType)) ∈ UU := tb_6 (List.mem_of_getElem? (i := 52) rfl) rfl
theorem u6_53 : (Jvm.Cond.fieldLink "java/lang/String" (1053 : Nat) "jdk/internal/util/Preconditions" "SIOOBE_FORMATTER" "Ljava/util/function/BiFunction;") ∈ UU := tb_6 (List.mem_of_getElem? (i := 53) rfl) rfl
theorem u6_55 : (Jvm.Cond.methodLink "java/lang/String" (1059 : Nat) ({ cls := "jdk/internal/util/Preconditions", name := "checkIndex", desc := "(IILjava/util/function/BiFunction;)I" } : Jvm.MethodName)) ∈ UU := tb_6 (List.mem_of_getElem? (i := 55) rfl) rfl
theorem u6_56 : (Jvm.Cond.static ({ cls := "jdk/internal/util/Preconditions", name := "checkIndex", desc := "(IILjava/util/function/BiFunction;)I" } : Jvm.MethodName)) ∈ UU := tb_6 (List.mem_of_getElem? (i := 56) rfl) rfl
theorem u6_57 : (Jvm.Cond.code ({ cls := "jdk/internal/util/Preconditions", name := "checkIndex", desc := "(IILjava/util/function/BiFunction;)I" } : Jvm.MethodName) prog_29_method_11_code (3 : Nat) (Option.some Jvm.ClassFile.FieldType.int)) ∈ UU := tb_6 (List.mem_of_getElem? (i := 57) rfl) rfl
theorem u6_58 : (Jvm.Cond.methodLink "java/lang/String" (498 : Nat) ({ cls := "java/lang/StringUTF16", name := "charAt", desc := "([BI)C" } : Jvm.MethodName)) ∈ UU := tb_6 (List.mem_of_getElem? (i := 58) rfl) rfl
theorem u6_59 : (Jvm.Cond.static ({ cls := "java/lang/StringUTF16", name := "charAt", desc := "([BI)C" } : Jvm.MethodName)) ∈ UU := tb_6 (List.mem_of_getElem? (i := 59) rfl) rfl
theorem u6_60 : (Jvm.Cond.code ({ cls := "java/lang/StringUTF16", name := "charAt", desc := "([BI)C" } : Jvm.MethodName) prog_22_method_83_code (2 : Nat) (Option.some Jvm.ClassFile.FieldType.char)) ∈ UU := tb_6 (List.mem_of_getElem? (i := 60) rfl) rfl
theorem u6_61 : (Jvm.Cond.methodLink "java/lang/StringUTF16" (67 : Nat) ({ cls := "java/lang/StringUTF16", name := "checkIndex", desc := "(I[B)V" } : Jvm.MethodName)) ∈ UU := tb_6 (List.mem_of_getElem? (i := 61) rfl) rfl
theorem u6_62 : (Jvm.Cond.static ({ cls := "java/lang/StringUTF16", name := "checkIndex", desc := "(I[B)V" } : Jvm.MethodName)) ∈ UU := tb_6 (List.mem_of_getElem? (i := 62) rfl) rfl
theorem u6_63 : (Jvm.Cond.code ({ cls := "java/lang/StringUTF16", name := "checkIndex", desc := "(I[B)V" } : Jvm.MethodName) prog_22_method_91_code (2 : Nat) (Option.none : Option Jvm.ClassFile.FieldType)) ∈ UU := tb_6 (List.mem_of_getElem? (i := 63) rfl) rfl
theorem u6_64 : (Jvm.Cond.methodLink "java/lang/StringUTF16" (48 : Nat) ({ cls := "java/lang/StringUTF16", name := "length", desc := "([B)I" } : Jvm.MethodName)) ∈ UU := tb_6 (List.mem_of_getElem? (i := 64) rfl) rfl
theorem u6_65 : (Jvm.Cond.static ({ cls := "java/lang/StringUTF16", name := "length", desc := "([B)I" } : Jvm.MethodName)) ∈ UU := tb_6 (List.mem_of_getElem? (i := 65) rfl) rfl
theorem u6_66 : (Jvm.Cond.code ({ cls := "java/lang/StringUTF16", name := "length", desc := "([B)I" } : Jvm.MethodName) prog_22_method_6_code (1 : Nat) (Option.some Jvm.ClassFile.FieldType.int)) ∈ UU := tb_6 (List.mem_of_getElem? (i := 66) rfl) rfl
theorem u6_67 : (Jvm.Cond.methodLink "java/lang/StringUTF16" (414 : Nat) ({ cls := "java/lang/String", name := "checkIndex", desc := "(II)V" } : Jvm.MethodName)) ∈ UU := tb_6 (List.mem_of_getElem? (i := 67) rfl) rfl
theorem u6_68 : (Jvm.Cond.methodLink "java/lang/StringUTF16" (71 : Nat) ({ cls := "java/lang/StringUTF16", name := "getChar", desc := "([BI)C" } : Jvm.MethodName)) ∈ UU := tb_6 (List.mem_of_getElem? (i := 68) rfl) rfl
theorem u6_69 : (Jvm.Cond.static ({ cls := "java/lang/StringUTF16", name := "getChar", desc := "([BI)C" } : Jvm.MethodName)) ∈ UU := tb_6 (List.mem_of_getElem? (i := 69) rfl) rfl
theorem u6_70 : (Jvm.Cond.code ({ cls := "java/lang/StringUTF16", name := "getChar", desc := "([BI)C" } : Jvm.MethodName) prog_22_method_5_code (2 : Nat) (Option.some Jvm.ClassFile.FieldType.char)) ∈ UU := tb_6 (List.mem_of_getElem? (i := 70) rfl) rfl
theorem u6_71 : (Jvm.Cond.fieldLink "java/lang/StringUTF16" (44 : Nat) "java/lang/StringUTF16" "$assertionsDisabled" "Z") ∈ UU := tb_6 (List.mem_of_getElem? (i := 71) rfl) rfl
theorem u6_73 : (Jvm.Cond.fieldLink "java/lang/StringUTF16" (59 : Nat) "java/lang/StringUTF16" "HI_BYTE_SHIFT" "I") ∈ UU := tb_6 (List.mem_of_getElem? (i := 73) rfl) rfl
theorem u6_75 : (Jvm.Cond.fieldLink "java/lang/StringUTF16" (63 : Nat) "java/lang/StringUTF16" "LO_BYTE_SHIFT" "I") ∈ UU := tb_6 (List.mem_of_getElem? (i := 75) rfl) rfl
theorem u6_77 : (Jvm.Cond.methodLink "GapLinksModel" (188 : Nat) ({ cls := "GapLinksModel", name := "readBus", desc := "()I" } : Jvm.MethodName)) ∈ UU := tb_6 (List.mem_of_getElem? (i := 77) rfl) rfl
theorem u6_79 : (Jvm.Cond.instanceMethod ({ cls := "GapLinksModel", name := "readBus", desc := "()I" } : Jvm.MethodName)) ∈ UU := tb_6 (List.mem_of_getElem? (i := 79) rfl) rfl
theorem u6_80 : (Jvm.Cond.code ({ cls := "GapLinksModel", name := "readBus", desc := "()I" } : Jvm.MethodName) prog_10_method_19_code (1 : Nat) (Option.some Jvm.ClassFile.FieldType.int)) ∈ UU := tb_6 (List.mem_of_getElem? (i := 80) rfl) rfl
theorem u6_81 : (Jvm.Cond.methodLink "GapLinksModel" (114 : Nat) ({ cls := "GapLinksModel", name := "errs", desc := "(I)I" } : Jvm.MethodName)) ∈ UU := tb_6 (List.mem_of_getElem? (i := 81) rfl) rfl
theorem u6_83 : (Jvm.Cond.instanceMethod ({ cls := "GapLinksModel", name := "errs", desc := "(I)I" } : Jvm.MethodName)) ∈ UU := tb_6 (List.mem_of_getElem? (i := 83) rfl) rfl
theorem u6_84 : (Jvm.Cond.code ({ cls := "GapLinksModel", name := "errs", desc := "(I)I" } : Jvm.MethodName) prog_10_method_12_code (2 : Nat) (Option.some Jvm.ClassFile.FieldType.int)) ∈ UU := tb_6 (List.mem_of_getElem? (i := 84) rfl) rfl
theorem u6_86 : (Jvm.Cond.methodLink "GapLinksModel" (147 : Nat) ({ cls := "GapLinksModel", name := "after", desc := "(Ljava/lang/String;II)I" } : Jvm.MethodName)) ∈ UU := tb_6 (List.mem_of_getElem? (i := 86) rfl) rfl
theorem u6_88 : (Jvm.Cond.instanceMethod ({ cls := "GapLinksModel", name := "after", desc := "(Ljava/lang/String;II)I" } : Jvm.MethodName)) ∈ UU := tb_6 (List.mem_of_getElem? (i := 88) rfl) rfl
theorem u6_89 : (Jvm.Cond.code ({ cls := "GapLinksModel", name := "after", desc := "(Ljava/lang/String;II)I" } : Jvm.MethodName) prog_10_method_14_code (4 : Nat) (Option.some Jvm.ClassFile.FieldType.int)) ∈ UU := tb_6 (List.mem_of_getElem? (i := 89) rfl) rfl
theorem u6_90 : (Jvm.Cond.methodLink "GapLinksModel" (124 : Nat) ({ cls := "GapLinksModel", name := "passes", desc := "(II)I" } : Jvm.MethodName)) ∈ UU := tb_6 (List.mem_of_getElem? (i := 90) rfl) rfl
theorem u6_92 : (Jvm.Cond.instanceMethod ({ cls := "GapLinksModel", name := "passes", desc := "(II)I" } : Jvm.MethodName)) ∈ UU := tb_6 (List.mem_of_getElem? (i := 92) rfl) rfl
theorem u6_93 : (Jvm.Cond.code ({ cls := "GapLinksModel", name := "passes", desc := "(II)I" } : Jvm.MethodName) prog_10_method_13_code (4 : Nat) (Option.some Jvm.ClassFile.FieldType.int)) ∈ UU := tb_6 (List.mem_of_getElem? (i := 93) rfl) rfl
theorem u6_99 : (Jvm.Cond.methodLink "GapLinksModel" (191 : Nat) ({ cls := "GapLinksModel", name := "readEnd", desc := "()I" } : Jvm.MethodName)) ∈ UU := tb_6 (List.mem_of_getElem? (i := 99) rfl) rfl
theorem u6_101 : (Jvm.Cond.instanceMethod ({ cls := "GapLinksModel", name := "readEnd", desc := "()I" } : Jvm.MethodName)) ∈ UU := tb_6 (List.mem_of_getElem? (i := 101) rfl) rfl
theorem u6_102 : (Jvm.Cond.code ({ cls := "GapLinksModel", name := "readEnd", desc := "()I" } : Jvm.MethodName) prog_10_method_20_code (2 : Nat) (Option.some Jvm.ClassFile.FieldType.int)) ∈ UU := tb_6 (List.mem_of_getElem? (i := 102) rfl) rfl
theorem u6_103 : (Jvm.Cond.methodLink "GapLinksModel" (159 : Nat) ({ cls := "GapLinksModel", name := "newName", desc := "(I)I" } : Jvm.MethodName)) ∈ UU := tb_6 (List.mem_of_getElem? (i := 103) rfl) rfl
theorem u6_105 : (Jvm.Cond.instanceMethod ({ cls := "GapLinksModel", name := "newName", desc := "(I)I" } : Jvm.MethodName)) ∈ UU := tb_6 (List.mem_of_getElem? (i := 105) rfl) rfl
theorem u6_106 : (Jvm.Cond.code ({ cls := "GapLinksModel", name := "newName", desc := "(I)I" } : Jvm.MethodName) prog_10_method_17_code (2 : Nat) (Option.some Jvm.ClassFile.FieldType.int)) ∈ UU := tb_6 (List.mem_of_getElem? (i := 106) rfl) rfl
theorem u6_107 : (Jvm.Cond.methodLink "GapLinksModel" (134 : Nat) ({ cls := "GapLinksModel", name := "isName", desc := "()Z" } : Jvm.MethodName)) ∈ UU := tb_6 (List.mem_of_getElem? (i := 107) rfl) rfl
theorem u6_109 : (Jvm.Cond.instanceMethod ({ cls := "GapLinksModel", name := "isName", desc := "()Z" } : Jvm.MethodName)) ∈ UU := tb_6 (List.mem_of_getElem? (i := 109) rfl) rfl
theorem u6_110 : (Jvm.Cond.code ({ cls := "GapLinksModel", name := "isName", desc := "()Z" } : Jvm.MethodName) prog_10_method_15_code (1 : Nat) (Option.some Jvm.ClassFile.FieldType.boolean)) ∈ UU := tb_6 (List.mem_of_getElem? (i := 110) rfl) rfl
theorem u6_112 : (Jvm.Cond.methodLink "GapLinksModel" (138 : Nat) ({ cls := "GapLinksModel", name := "told", desc := "()I" } : Jvm.MethodName)) ∈ UU := tb_6 (List.mem_of_getElem? (i := 112) rfl) rfl
theorem u6_114 : (Jvm.Cond.instanceMethod ({ cls := "GapLinksModel", name := "told", desc := "()I" } : Jvm.MethodName)) ∈ UU := tb_6 (List.mem_of_getElem? (i := 114) rfl) rfl
theorem u6_115 : (Jvm.Cond.code ({ cls := "GapLinksModel", name := "told", desc := "()I" } : Jvm.MethodName) prog_10_method_16_code (2 : Nat) (Option.some Jvm.ClassFile.FieldType.int)) ∈ UU := tb_6 (List.mem_of_getElem? (i := 115) rfl) rfl
theorem u6_117 : (Jvm.Cond.methodLink "GapLinksModel" (194 : Nat) ({ cls := "GapLinksModel", name := "readLink", desc := "()I" } : Jvm.MethodName)) ∈ UU := tb_6 (List.mem_of_getElem? (i := 117) rfl) rfl
theorem u6_119 : (Jvm.Cond.instanceMethod ({ cls := "GapLinksModel", name := "readLink", desc := "()I" } : Jvm.MethodName)) ∈ UU := tb_6 (List.mem_of_getElem? (i := 119) rfl) rfl
theorem u6_120 : (Jvm.Cond.code ({ cls := "GapLinksModel", name := "readLink", desc := "()I" } : Jvm.MethodName) prog_10_method_25_code (3 : Nat) (Option.some Jvm.ClassFile.FieldType.int)) ∈ UU := tb_6 (List.mem_of_getElem? (i := 120) rfl) rfl
theorem u6_122 : (Jvm.Cond.methodLink "GapLinksModel" (170 : Nat) ({ cls := "GapLinksModel", name := "endHere", desc := "()I" } : Jvm.MethodName)) ∈ UU := tb_6 (List.mem_of_getElem? (i := 122) rfl) rfl
theorem u6_124 : (Jvm.Cond.instanceMethod ({ cls := "GapLinksModel", name := "endHere", desc := "()I" } : Jvm.MethodName)) ∈ UU := tb_6 (List.mem_of_getElem? (i := 124) rfl) rfl
theorem u6_125 : (Jvm.Cond.code ({ cls := "GapLinksModel", name := "endHere", desc := "()I" } : Jvm.MethodName) prog_10_method_18_code (2 : Nat) (Option.some Jvm.ClassFile.FieldType.int)) ∈ UU := tb_6 (List.mem_of_getElem? (i := 125) rfl) rfl
theorem u6_126 : (Jvm.Cond.methodLink "GapLinksModel" (179 : Nat) ({ cls := "GapLinksModel", name := "readGap", desc := "()I" } : Jvm.MethodName)) ∈ UU := tb_6 (List.mem_of_getElem? (i := 126) rfl) rfl
theorem u6_128 : (Jvm.Cond.instanceMethod ({ cls := "GapLinksModel", name := "readGap", desc := "()I" } : Jvm.MethodName)) ∈ UU := tb_6 (List.mem_of_getElem? (i := 128) rfl) rfl
theorem u6_129 : (Jvm.Cond.code ({ cls := "GapLinksModel", name := "readGap", desc := "()I" } : Jvm.MethodName) prog_10_method_22_code (1 : Nat) (Option.some Jvm.ClassFile.FieldType.int)) ∈ UU := tb_6 (List.mem_of_getElem? (i := 129) rfl) rfl
theorem u6_131 : (Jvm.Cond.methodLink "GapLinksModel" (166 : Nat) ({ cls := "GapLinksModel", name := "isGap", desc := "(I)Z" } : Jvm.MethodName)) ∈ UU := tb_6 (List.mem_of_getElem? (i := 131) rfl) rfl
theorem u6_132 : (Jvm.Cond.static ({ cls := "GapLinksModel", name := "isGap", desc := "(I)Z" } : Jvm.MethodName)) ∈ UU := tb_6 (List.mem_of_getElem? (i := 132) rfl) rfl
theorem u6_133 : (Jvm.Cond.code ({ cls := "GapLinksModel", name := "isGap", desc := "(I)Z" } : Jvm.MethodName) prog_10_method_21_code (1 : Nat) (Option.some Jvm.ClassFile.FieldType.boolean)) ∈ UU := tb_6 (List.mem_of_getElem? (i := 133) rfl) rfl
theorem u6_136 : (Jvm.Cond.methodLink "GapLinksModel" (185 : Nat) ({ cls := "GapLinksModel", name := "readReceiver", desc := "(I)I" } : Jvm.MethodName)) ∈ UU := tb_6 (List.mem_of_getElem? (i := 136) rfl) rfl
theorem u6_138 : (Jvm.Cond.instanceMethod ({ cls := "GapLinksModel", name := "readReceiver", desc := "(I)I" } : Jvm.MethodName)) ∈ UU := tb_6 (List.mem_of_getElem? (i := 138) rfl) rfl
theorem u6_139 : (Jvm.Cond.code ({ cls := "GapLinksModel", name := "readReceiver", desc := "(I)I" } : Jvm.MethodName) prog_10_method_24_code (3 : Nat) (Option.some Jvm.ClassFile.FieldType.int)) ∈ UU := tb_6 (List.mem_of_getElem? (i := 139) rfl) rfl
theorem u6_140 : (Jvm.Cond.methodLink "GapLinksModel" (173 : Nat) ({ cls := "GapLinksModel", name := "isHeard", desc := "(II)Z" } : Jvm.MethodName)) ∈ UU := tb_6 (List.mem_of_getElem? (i := 140) rfl) rfl
theorem u6_142 : (Jvm.Cond.instanceMethod ({ cls := "GapLinksModel", name := "isHeard", desc := "(II)Z" } : Jvm.MethodName)) ∈ UU := tb_6 (List.mem_of_getElem? (i := 142) rfl) rfl
theorem u6_143 : (Jvm.Cond.code ({ cls := "GapLinksModel", name := "isHeard", desc := "(II)Z" } : Jvm.MethodName) prog_10_method_23_code (4 : Nat) (Option.some Jvm.ClassFile.FieldType.boolean)) ∈ UU := tb_6 (List.mem_of_getElem? (i := 143) rfl) rfl
theorem u6_144 : (Jvm.Cond.methodLink "GapLinksModel" (218 : Nat) ({ cls := "GapLinksModel", name := "begins", desc := "()V" } : Jvm.MethodName)) ∈ UU := tb_6 (List.mem_of_getElem? (i := 144) rfl) rfl
theorem u6_146 : (Jvm.Cond.instanceMethod ({ cls := "GapLinksModel", name := "begins", desc := "()V" } : Jvm.MethodName)) ∈ UU := tb_6 (List.mem_of_getElem? (i := 146) rfl) rfl
theorem u6_147 : (Jvm.Cond.code ({ cls := "GapLinksModel", name := "begins", desc := "()V" } : Jvm.MethodName) prog_10_method_51_code (4 : Nat) (Option.none : Option Jvm.ClassFile.FieldType)) ∈ UU := tb_6 (List.mem_of_getElem? (i := 147) rfl) rfl
theorem u6_148 : (Jvm.Cond.methodLink "GapLinksModel" (246 : Nat) ({ cls := "GapLinksModel", name := "linkAt", desc := "(II)I" } : Jvm.MethodName)) ∈ UU := tb_6 (List.mem_of_getElem? (i := 148) rfl) rfl
theorem u6_149 : (Jvm.Cond.static ({ cls := "GapLinksModel", name := "linkAt", desc := "(II)I" } : Jvm.MethodName)) ∈ UU := tb_6 (List.mem_of_getElem? (i := 149) rfl) rfl
theorem u6_150 : (Jvm.Cond.code ({ cls := "GapLinksModel", name := "linkAt", desc := "(II)I" } : Jvm.MethodName) prog_10_method_47_code (2 : Nat) (Option.some Jvm.ClassFile.FieldType.int)) ∈ UU := tb_6 (List.mem_of_getElem? (i := 150) rfl) rfl
theorem u6_151 : (Jvm.Cond.methodLink "GapLinksModel" (249 : Nat) ({ cls := "GapLinksModel", name := "mostCredit", desc := "(I)I" } : Jvm.MethodName)) ∈ UU := tb_6 (List.mem_of_getElem? (i := 151) rfl) rfl
theorem u6_153 : (Jvm.Cond.instanceMethod ({ cls := "GapLinksModel", name := "mostCredit", desc := "(I)I" } : Jvm.MethodName)) ∈ UU := tb_6 (List.mem_of_getElem? (i := 153) rfl) rfl
theorem u6_154 : (Jvm.Cond.code ({ cls := "GapLinksModel", name := "mostCredit", desc := "(I)I" } : Jvm.MethodName) prog_10_method_50_code (2 : Nat) (Option.some Jvm.ClassFile.FieldType.int)) ∈ UU := tb_6 (List.mem_of_getElem? (i := 154) rfl) rfl
theorem u6_155 : (Jvm.Cond.methodLink "GapLinksModel" (221 : Nat) ({ cls := "GapLinksModel", name := "linkOf", desc := "(II)I" } : Jvm.MethodName)) ∈ UU := tb_6 (List.mem_of_getElem? (i := 155) rfl) rfl
theorem u6_157 : (Jvm.Cond.instanceMethod ({ cls := "GapLinksModel", name := "linkOf", desc := "(II)I" } : Jvm.MethodName)) ∈ UU := tb_6 (List.mem_of_getElem? (i := 157) rfl) rfl
theorem u6_158 : (Jvm.Cond.code ({ cls := "GapLinksModel", name := "linkOf", desc := "(II)I" } : Jvm.MethodName) prog_10_method_31_code (3 : Nat) (Option.some Jvm.ClassFile.FieldType.int)) ∈ UU := tb_6 (List.mem_of_getElem? (i := 158) rfl) rfl
theorem u6_159 : (Jvm.Cond.methodLink "GapLinksModel" (252 : Nat) ({ cls := "GapLinksModel", name := "hearAt", desc := "(II)I" } : Jvm.MethodName)) ∈ UU := tb_6 (List.mem_of_getElem? (i := 159) rfl) rfl
theorem u6_160 : (Jvm.Cond.static ({ cls := "GapLinksModel", name := "hearAt", desc := "(II)I" } : Jvm.MethodName)) ∈ UU := tb_6 (List.mem_of_getElem? (i := 160) rfl) rfl
theorem u6_161 : (Jvm.Cond.code ({ cls := "GapLinksModel", name := "hearAt", desc := "(II)I" } : Jvm.MethodName) prog_10_method_49_code (2 : Nat) (Option.some Jvm.ClassFile.FieldType.int)) ∈ UU := tb_6 (List.mem_of_getElem? (i := 161) rfl) rfl
theorem u6_162 : (Jvm.Cond.methodLink "GapLinksLaw" (32 : Nat) ({ cls := "GapLinksModel", name := "fault", desc := "()I" } : Jvm.MethodName)) ∈ UU := tb_6 (List.mem_of_getElem? (i := 162) rfl) rfl
theorem u6_163 : (Jvm.Cond.instanceMethod ({ cls := "GapLinksModel", name := "fault", desc := "()I" } : Jvm.MethodName)) ∈ UU := tb_6 (List.mem_of_getElem? (i := 163) rfl) rfl
theorem u6_164 : (Jvm.Cond.selects "GapLinksModel" ({ cls := "GapLinksModel", name := "fault", desc := "()I" } : Jvm.MethodName) ({ cls := "GapLinksModel", name := "fault", desc := "()I" } : Jvm.MethodName)) ∈ UU := tb_6 (List.mem_of_getElem? (i := 164) rfl) rfl
theorem u6_165 : (Jvm.Cond.code ({ cls := "GapLinksModel", name := "fault", desc := "()I" } : Jvm.MethodName) prog_10_method_29_code (1 : Nat) (Option.some Jvm.ClassFile.FieldType.int)) ∈ UU := tb_6 (List.mem_of_getElem? (i := 165) rfl) rfl
theorem u6_166 : (Jvm.Cond.methodLink "GapLinksLaw" (36 : Nat) ({ cls := "GapLinksModel", name := "where", desc := "()I" } : Jvm.MethodName)) ∈ UU := tb_6 (List.mem_of_getElem? (i := 166) rfl) rfl
theorem u6_167 : (Jvm.Cond.instanceMethod ({ cls := "GapLinksModel", name := "where", desc := "()I" } : Jvm.MethodName)) ∈ UU := tb_6 (List.mem_of_getElem? (i := 167) rfl) rfl
theorem u6_168 : (Jvm.Cond.selects "GapLinksModel" ({ cls := "GapLinksModel", name := "where", desc := "()I" } : Jvm.MethodName) ({ cls := "GapLinksModel", name := "where", desc := "()I" } : Jvm.MethodName)) ∈ UU := tb_6 (List.mem_of_getElem? (i := 168) rfl) rfl
theorem u6_169 : (Jvm.Cond.code ({ cls := "GapLinksModel", name := "where", desc := "()I" } : Jvm.MethodName) prog_10_method_30_code (1 : Nat) (Option.some Jvm.ClassFile.FieldType.int)) ∈ UU := tb_6 (List.mem_of_getElem? (i := 169) rfl) rfl
theorem u6_170 : (Jvm.Cond.methodLink "GapLinksLaw" (40 : Nat) ({ cls := "GapLinksModel", name := "about", desc := "(I)I" } : Jvm.MethodName)) ∈ UU := tb_6 (List.mem_of_getElem? (i := 170) rfl) rfl
theorem u6_171 : (Jvm.Cond.instanceMethod ({ cls := "GapLinksModel", name := "about", desc := "(I)I" } : Jvm.MethodName)) ∈ UU := tb_6 (List.mem_of_getElem? (i := 171) rfl) rfl
theorem u6_172 : (Jvm.Cond.selects "GapLinksModel" ({ cls := "GapLinksModel", name := "about", desc := "(I)I" } : Jvm.MethodName) ({ cls := "GapLinksModel", name := "about", desc := "(I)I" } : Jvm.MethodName)) ∈ UU := tb_6 (List.mem_of_getElem? (i := 172) rfl) rfl
theorem u6_173 : (Jvm.Cond.code ({ cls := "GapLinksModel", name := "about", desc := "(I)I" } : Jvm.MethodName) prog_10_method_41_code (2 : Nat) (Option.some Jvm.ClassFile.FieldType.int)) ∈ UU := tb_6 (List.mem_of_getElem? (i := 173) rfl) rfl
theorem u6_174 : (Jvm.Cond.methodLink "GapLinksLaw" (44 : Nat) ({ cls := "GapLinksModel", name := "at", desc := "(I)I" } : Jvm.MethodName)) ∈ UU := tb_6 (List.mem_of_getElem? (i := 174) rfl) rfl
theorem u6_175 : (Jvm.Cond.instanceMethod ({ cls := "GapLinksModel", name := "at", desc := "(I)I" } : Jvm.MethodName)) ∈ UU := tb_6 (List.mem_of_getElem? (i := 175) rfl) rfl
theorem u6_176 : (Jvm.Cond.selects "GapLinksModel" ({ cls := "GapLinksModel", name := "at", desc := "(I)I" } : Jvm.MethodName) ({ cls := "GapLinksModel", name := "at", desc := "(I)I" } : Jvm.MethodName)) ∈ UU := tb_6 (List.mem_of_getElem? (i := 176) rfl) rfl
theorem u6_177 : (Jvm.Cond.code ({ cls := "GapLinksModel", name := "at", desc := "(I)I" } : Jvm.MethodName) prog_10_method_42_code (2 : Nat) (Option.some Jvm.ClassFile.FieldType.int)) ∈ UU := tb_6 (List.mem_of_getElem? (i := 177) rfl) rfl
theorem u6_178 : (Jvm.Cond.methodLink "GapLinksModel" (227 : Nat) ({ cls := "GapLinksModel", name := "isEnd", desc := "(I)Z" } : Jvm.MethodName)) ∈ UU := tb_6 (List.mem_of_getElem? (i := 178) rfl) rfl
theorem u6_180 : (Jvm.Cond.instanceMethod ({ cls := "GapLinksModel", name := "isEnd", desc := "(I)Z" } : Jvm.MethodName)) ∈ UU := tb_6 (List.mem_of_getElem? (i := 180) rfl) rfl
theorem u6_181 : (Jvm.Cond.code ({ cls := "GapLinksModel", name := "isEnd", desc := "(I)Z" } : Jvm.MethodName) prog_10_method_35_code (2 : Nat) (Option.some Jvm.ClassFile.FieldType.boolean)) ∈ UU := tb_6 (List.mem_of_getElem? (i := 181) rfl) rfl
theorem u6_182 : (Jvm.Cond.methodLink "GapLinksLaw" (49 : Nat) ({ cls := "GapLinksModel", name := "link", desc := "(II)I" } : Jvm.MethodName)) ∈ UU := tb_6 (List.mem_of_getElem? (i := 182) rfl) rfl
theorem u6_183 : (Jvm.Cond.instanceMethod ({ cls := "GapLinksModel", name := "link", desc := "(II)I" } : Jvm.MethodName)) ∈ UU := tb_6 (List.mem_of_getElem? (i := 183) rfl) rfl
theorem u6_184 : (Jvm.Cond.selects "GapLinksModel" ({ cls := "GapLinksModel", name := "link", desc := "(II)I" } : Jvm.MethodName) ({ cls := "GapLinksModel", name := "link", desc := "(II)I" } : Jvm.MethodName)) ∈ UU := tb_6 (List.mem_of_getElem? (i := 184) rfl) rfl
theorem u6_185 : (Jvm.Cond.code ({ cls := "GapLinksModel", name := "link", desc := "(II)I" } : Jvm.MethodName) prog_10_method_43_code (3 : Nat) (Option.some Jvm.ClassFile.FieldType.int)) ∈ UU := tb_6 (List.mem_of_getElem? (i := 185) rfl) rfl
theorem u6_186 : (Jvm.Cond.methodLink "GapLinksModel" (224 : Nat) ({ cls := "GapLinksModel", name := "isLink", desc := "(I)Z" } : Jvm.MethodName)) ∈ UU := tb_6 (List.mem_of_getElem? (i := 186) rfl) rfl
theorem u6_188 : (Jvm.Cond.instanceMethod ({ cls := "GapLinksModel", name := "isLink", desc := "(I)Z" } : Jvm.MethodName)) ∈ UU := tb_6 (List.mem_of_getElem? (i := 188) rfl) rfl
theorem u6_189 : (Jvm.Cond.code ({ cls := "GapLinksModel", name := "isLink", desc := "(I)Z" } : Jvm.MethodName) prog_10_method_33_code (2 : Nat) (Option.some Jvm.ClassFile.FieldType.boolean)) ∈ UU := tb_6 (List.mem_of_getElem? (i := 189) rfl) rfl
theorem u6_190 : (Jvm.Cond.methodLink "GapLinksLaw" (53 : Nat) ({ cls := "GapLinksModel", name := "receiver", desc := "(II)I" } : Jvm.MethodName)) ∈ UU := tb_6 (List.mem_of_getElem? (i := 190) rfl) rfl
theorem u6_191 : (Jvm.Cond.instanceMethod ({ cls := "GapLinksModel", name := "receiver", desc := "(II)I" } : Jvm.MethodName)) ∈ UU := tb_6 (List.mem_of_getElem? (i := 191) rfl) rfl
theorem u6_192 : (Jvm.Cond.selects "GapLinksModel" ({ cls := "GapLinksModel", name := "receiver", desc := "(II)I" } : Jvm.MethodName) ({ cls := "GapLinksModel", name := "receiver", desc := "(II)I" } : Jvm.MethodName)) ∈ UU := tb_6 (List.mem_of_getElem? (i := 192) rfl) rfl
theorem u6_193 : (Jvm.Cond.code ({ cls := "GapLinksModel", name := "receiver", desc := "(II)I" } : Jvm.MethodName) prog_10_method_44_code (3 : Nat) (Option.some Jvm.ClassFile.FieldType.int)) ∈ UU := tb_6 (List.mem_of_getElem? (i := 193) rfl) rfl
theorem u6_194 : (Jvm.Cond.methodLink "GapLinksModel" (243 : Nat) ({ cls := "GapLinksModel", name := "isReceiver", desc := "(III)Z" } : Jvm.MethodName)) ∈ UU := tb_6 (List.mem_of_getElem? (i := 194) rfl) rfl
theorem u6_196 : (Jvm.Cond.instanceMethod ({ cls := "GapLinksModel", name := "isReceiver", desc := "(III)Z" } : Jvm.MethodName)) ∈ UU := tb_6 (List.mem_of_getElem? (i := 196) rfl) rfl
theorem u6_197 : (Jvm.Cond.code ({ cls := "GapLinksModel", name := "isReceiver", desc := "(III)Z" } : Jvm.MethodName) prog_10_method_34_code (4 : Nat) (Option.some Jvm.ClassFile.FieldType.boolean)) ∈ UU := tb_6 (List.mem_of_getElem? (i := 197) rfl) rfl
theorem u6_198 : (Jvm.Cond.methodLink "GapLinksModel" (230 : Nat) ({ cls := "GapLinksModel", name := "receiverOf", desc := "(II)I" } : Jvm.MethodName)) ∈ UU := tb_6 (List.mem_of_getElem? (i := 198) rfl) rfl
theorem u6_200 : (Jvm.Cond.instanceMethod ({ cls := "GapLinksModel", name := "receiverOf", desc := "(II)I" } : Jvm.MethodName)) ∈ UU := tb_6 (List.mem_of_getElem? (i := 200) rfl) rfl
theorem u6_201 : (Jvm.Cond.code ({ cls := "GapLinksModel", name := "receiverOf", desc := "(II)I" } : Jvm.MethodName) prog_10_method_32_code (3 : Nat) (Option.some Jvm.ClassFile.FieldType.int)) ∈ UU := tb_6 (List.mem_of_getElem? (i := 201) rfl) rfl
theorem u6_202 : (Jvm.Cond.methodLink "GapLinksLaw" (60 : Nat) ({ cls := "GapLinksModel", name := "named", desc := "(J)I" } : Jvm.MethodName)) ∈ UU := tb_6 (List.mem_of_getElem? (i := 202) rfl) rfl
theorem u6_203 : (Jvm.Cond.instanceMethod ({ cls := "GapLinksModel", name := "named", desc := "(J)I" } : Jvm.MethodName)) ∈ UU := tb_6 (List.mem_of_getElem? (i := 203) rfl) rfl
theorem u6_204 : (Jvm.Cond.selects "GapLinksModel" ({ cls := "GapLinksModel", name := "named", desc := "(J)I" } : Jvm.MethodName) ({ cls := "GapLinksModel", name := "named", desc := "(J)I" } : Jvm.MethodName)) ∈ UU := tb_6 (List.mem_of_getElem? (i := 204) rfl) rfl
theorem u6_205 : (Jvm.Cond.code ({ cls := "GapLinksModel", name := "named", desc := "(J)I" } : Jvm.MethodName) prog_10_method_45_code (4 : Nat) (Option.some Jvm.ClassFile.FieldType.int)) ∈ UU := tb_6 (List.mem_of_getElem? (i := 205) rfl) rfl
theorem u6_206 : (Jvm.Cond.methodLink "GapLinksLaw" (65 : Nat) ({ cls := "GapLinksModel", name := "way", desc := "(III)I" } : Jvm.MethodName)) ∈ UU := tb_6 (List.mem_of_getElem? (i := 206) rfl) rfl
theorem u6_207 : (Jvm.Cond.instanceMethod ({ cls := "GapLinksModel", name := "way", desc := "(III)I" } : Jvm.MethodName)) ∈ UU := tb_6 (List.mem_of_getElem? (i := 207) rfl) rfl
theorem u6_208 : (Jvm.Cond.selects "GapLinksModel" ({ cls := "GapLinksModel", name := "way", desc := "(III)I" } : Jvm.MethodName) ({ cls := "GapLinksModel", name := "way", desc := "(III)I" } : Jvm.MethodName)) ∈ UU := tb_6 (List.mem_of_getElem? (i := 208) rfl) rfl
theorem u6_209 : (Jvm.Cond.code ({ cls := "GapLinksModel", name := "way", desc := "(III)I" } : Jvm.MethodName) prog_10_method_46_code (4 : Nat) (Option.some Jvm.ClassFile.FieldType.int)) ∈ UU := tb_6 (List.mem_of_getElem? (i := 209) rfl) rfl
theorem u6_210 : (Jvm.Cond.methodLink "GapLinksModel" (236 : Nat) ({ cls := "GapLinksModel", name := "wayLong", desc := "(II)I" } : Jvm.MethodName)) ∈ UU := tb_6 (List.mem_of_getElem? (i := 210) rfl) rfl
theorem u6_212 : (Jvm.Cond.instanceMethod ({ cls := "GapLinksModel", name := "wayLong", desc := "(II)I" } : Jvm.MethodName)) ∈ UU := tb_6 (List.mem_of_getElem? (i := 212) rfl) rfl
theorem u6_213 : (Jvm.Cond.code ({ cls := "GapLinksModel", name := "wayLong", desc := "(II)I" } : Jvm.MethodName) prog_10_method_38_code (3 : Nat) (Option.some Jvm.ClassFile.FieldType.int)) ∈ UU := tb_6 (List.mem_of_getElem? (i := 213) rfl) rfl
theorem u6_214 : (Jvm.Cond.methodLink "GapLinksModel" (233 : Nat) ({ cls := "GapLinksModel", name := "apart", desc := "(II)I" } : Jvm.MethodName)) ∈ UU := tb_6 (List.mem_of_getElem? (i := 214) rfl) rfl
theorem u6_215 : (Jvm.Cond.static ({ cls := "GapLinksModel", name := "apart", desc := "(II)I" } : Jvm.MethodName)) ∈ UU := tb_6 (List.mem_of_getElem? (i := 215) rfl) rfl
theorem u6_216 : (Jvm.Cond.code ({ cls := "GapLinksModel", name := "apart", desc := "(II)I" } : Jvm.MethodName) prog_10_method_37_code (2 : Nat) (Option.some Jvm.ClassFile.FieldType.int)) ∈ UU := tb_6 (List.mem_of_getElem? (i := 216) rfl) rfl
theorem u6_217 : (Jvm.Cond.methodLink "GapLinksModel" (239 : Nat) ({ cls := "GapLinksModel", name := "wayOf", desc := "(III)I" } : Jvm.MethodName)) ∈ UU := tb_6 (List.mem_of_getElem? (i := 217) rfl) rfl
theorem u6_219 : (Jvm.Cond.instanceMethod ({ cls := "GapLinksModel", name := "wayOf", desc := "(III)I" } : Jvm.MethodName)) ∈ UU := tb_6 (List.mem_of_getElem? (i := 219) rfl) rfl
theorem u6_220 : (Jvm.Cond.code ({ cls := "GapLinksModel", name := "wayOf", desc := "(III)I" } : Jvm.MethodName) prog_10_method_39_code (6 : Nat) (Option.some Jvm.ClassFile.FieldType.int)) ∈ UU := tb_6 (List.mem_of_getElem? (i := 220) rfl) rfl
theorem u6_221 : (Jvm.Cond.methodLink "GapLinksLaw" (69 : Nat) ({ cls := "GapLinksModel", name := "waits", desc := "(II)I" } : Jvm.MethodName)) ∈ UU := tb_6 (List.mem_of_getElem? (i := 221) rfl) rfl
theorem u6_222 : (Jvm.Cond.instanceMethod ({ cls := "GapLinksModel", name := "waits", desc := "(II)I" } : Jvm.MethodName)) ∈ UU := tb_6 (List.mem_of_getElem? (i := 222) rfl) rfl
theorem u6_223 : (Jvm.Cond.selects "GapLinksModel" ({ cls := "GapLinksModel", name := "waits", desc := "(II)I" } : Jvm.MethodName) ({ cls := "GapLinksModel", name := "waits", desc := "(II)I" } : Jvm.MethodName)) ∈ UU := tb_6 (List.mem_of_getElem? (i := 223) rfl) rfl
theorem u6_224 : (Jvm.Cond.code ({ cls := "GapLinksModel", name := "waits", desc := "(II)I" } : Jvm.MethodName) prog_10_method_69_code (3 : Nat) (Option.some Jvm.ClassFile.FieldType.int)) ∈ UU := tb_6 (List.mem_of_getElem? (i := 224) rfl) rfl
theorem u6_225 : (Jvm.Cond.methodLink "GapLinksLaw" (73 : Nat) ({ cls := "GapLinksModel", name := "credit", desc := "(II)I" } : Jvm.MethodName)) ∈ UU := tb_6 (List.mem_of_getElem? (i := 225) rfl) rfl
theorem u6_226 : (Jvm.Cond.instanceMethod ({ cls := "GapLinksModel", name := "credit", desc := "(II)I" } : Jvm.MethodName)) ∈ UU := tb_6 (List.mem_of_getElem? (i := 226) rfl) rfl
theorem u6_227 : (Jvm.Cond.selects "GapLinksModel" ({ cls := "GapLinksModel", name := "credit", desc := "(II)I" } : Jvm.MethodName) ({ cls := "GapLinksModel", name := "credit", desc := "(II)I" } : Jvm.MethodName)) ∈ UU := tb_6 (List.mem_of_getElem? (i := 227) rfl) rfl
theorem u6_228 : (Jvm.Cond.code ({ cls := "GapLinksModel", name := "credit", desc := "(II)I" } : Jvm.MethodName) prog_10_method_70_code (3 : Nat) (Option.some Jvm.ClassFile.FieldType.int)) ∈ UU := tb_6 (List.mem_of_getElem? (i := 228) rfl) rfl
theorem u6_229 : (Jvm.Cond.methodLink "GapLinksLaw" (77 : Nat) ({ cls := "GapLinksModel", name := "port", desc := "(III)I" } : Jvm.MethodName)) ∈ UU := tb_6 (List.mem_of_getElem? (i := 229) rfl) rfl
theorem u6_230 : (Jvm.Cond.instanceMethod ({ cls := "GapLinksModel", name := "port", desc := "(III)I" } : Jvm.MethodName)) ∈ UU := tb_6 (List.mem_of_getElem? (i := 230) rfl) rfl
theorem u6_231 : (Jvm.Cond.selects "GapLinksModel" ({ cls := "GapLinksModel", name := "port", desc := "(III)I" } : Jvm.MethodName) ({ cls := "GapLinksModel", name := "port", desc := "(III)I" } : Jvm.MethodName)) ∈ UU := tb_6 (List.mem_of_getElem? (i := 231) rfl) rfl
theorem u6_232 : (Jvm.Cond.code ({ cls := "GapLinksModel", name := "port", desc := "(III)I" } : Jvm.MethodName) prog_10_method_71_code (5 : Nat) (Option.some Jvm.ClassFile.FieldType.int)) ∈ UU := tb_6 (List.mem_of_getElem? (i := 232) rfl) rfl
theorem u6_233 : (Jvm.Cond.methodLink "GapLinksModel" (307 : Nat) ({ cls := "GapLinksModel", name := "isPort", desc := "(I)Z" } : Jvm.MethodName)) ∈ UU := tb_6 (List.mem_of_getElem? (i := 233) rfl) rfl
theorem u6_235 : (Jvm.Cond.instanceMethod ({ cls := "GapLinksModel", name := "isPort", desc := "(I)Z" } : Jvm.MethodName)) ∈ UU := tb_6 (List.mem_of_getElem? (i := 235) rfl) rfl
theorem u6_236 : (Jvm.Cond.code ({ cls := "GapLinksModel", name := "isPort", desc := "(I)Z" } : Jvm.MethodName) prog_10_method_36_code (2 : Nat) (Option.some Jvm.ClassFile.FieldType.boolean)) ∈ UU := tb_6 (List.mem_of_getElem? (i := 236) rfl) rfl
theorem u6_237 : (Jvm.Cond.methodLink "GapLinksModel" (255 : Nat) ({ cls := "GapLinksModel", name := "portAt", desc := "(II)I" } : Jvm.MethodName)) ∈ UU := tb_6 (List.mem_of_getElem? (i := 237) rfl) rfl
theorem u6_238 : (Jvm.Cond.static ({ cls := "GapLinksModel", name := "portAt", desc := "(II)I" } : Jvm.MethodName)) ∈ UU := tb_6 (List.mem_of_getElem? (i := 238) rfl) rfl
theorem u6_239 : (Jvm.Cond.code ({ cls := "GapLinksModel", name := "portAt", desc := "(II)I" } : Jvm.MethodName) prog_10_method_48_code (2 : Nat) (Option.some Jvm.ClassFile.FieldType.int)) ∈ UU := tb_6 (List.mem_of_getElem? (i := 239) rfl) rfl
theorem u7_0 : (Jvm.Cond.methodLink "GapLinksLaw" (82 : Nat) ({ cls := "GapLinksModel", name := "frame", desc := "(IIII)I" } : Jvm.MethodName)) ∈ UU := tb_7 (List.mem_of_getElem? (i := 0) rfl) rfl
theorem u7_1 : (Jvm.Cond.instanceMethod ({ cls := "GapLinksModel", name := "frame", desc := "(IIII)I" } : Jvm.MethodName)) ∈ UU := tb_7 (List.mem_of_getElem? (i := 1) rfl) rfl
theorem u7_2 : (Jvm.Cond.selects "GapLinksModel" ({ cls := "GapLinksModel", name := "frame", desc := "(IIII)I" } : Jvm.MethodName) ({ cls := "GapLinksModel", name := "frame", desc := "(IIII)I" } : Jvm.MethodName)) ∈ UU := tb_7 (List.mem_of_getElem? (i := 2) rfl) rfl
theorem u7_3 : (Jvm.Cond.code ({ cls := "GapLinksModel", name := "frame", desc := "(IIII)I" } : Jvm.MethodName) prog_10_method_72_code (5 : Nat) (Option.some Jvm.ClassFile.FieldType.int)) ∈ UU := tb_7 (List.mem_of_getElem? (i := 3) rfl) rfl
theorem u7_4 : (Jvm.Cond.methodLink "GapLinksLaw" (86 : Nat) ({ cls := "GapLinksModel", name := "lost", desc := "(II)I" } : Jvm.MethodName)) ∈ UU := tb_7 (List.mem_of_getElem? (i := 4) rfl) rfl
theorem u7_5 : (Jvm.Cond.instanceMethod ({ cls := "GapLinksModel", name := "lost", desc := "(II)I" } : Jvm.MethodName)) ∈ UU := tb_7 (List.mem_of_getElem? (i := 5) rfl) rfl
theorem u7_6 : (Jvm.Cond.selects "GapLinksModel" ({ cls := "GapLinksModel", name := "lost", desc := "(II)I" } : Jvm.MethodName) ({ cls := "GapLinksModel", name := "lost", desc := "(II)I" } : Jvm.MethodName)) ∈ UU := tb_7 (List.mem_of_getElem? (i := 6) rfl) rfl
theorem u7_7 : (Jvm.Cond.code ({ cls := "GapLinksModel", name := "lost", desc := "(II)I" } : Jvm.MethodName) prog_10_method_74_code (3 : Nat) (Option.some Jvm.ClassFile.FieldType.int)) ∈ UU := tb_7 (List.mem_of_getElem? (i := 7) rfl) rfl
theorem u7_8 : (Jvm.Cond.methodLink "GapLinksModel" (310 : Nat) ({ cls := "GapLinksModel", name := "isLoss", desc := "(II)Z" } : Jvm.MethodName)) ∈ UU := tb_7 (List.mem_of_getElem? (i := 8) rfl) rfl
theorem u7_10 : (Jvm.Cond.instanceMethod ({ cls := "GapLinksModel", name := "isLoss", desc := "(II)Z" } : Jvm.MethodName)) ∈ UU := tb_7 (List.mem_of_getElem? (i := 10) rfl) rfl
theorem u7_11 : (Jvm.Cond.code ({ cls := "GapLinksModel", name := "isLoss", desc := "(II)Z" } : Jvm.MethodName) prog_10_method_73_code (3 : Nat) (Option.some Jvm.ClassFile.FieldType.boolean)) ∈ UU := tb_7 (List.mem_of_getElem? (i := 11) rfl) rfl
theorem u7_12 : (Jvm.Cond.methodLink "GapLinksLaw" (90 : Nat) ({ cls := "GapLinksModel", name := "policed", desc := "(II)I" } : Jvm.MethodName)) ∈ UU := tb_7 (List.mem_of_getElem? (i := 12) rfl) rfl
theorem u7_13 : (Jvm.Cond.instanceMethod ({ cls := "GapLinksModel", name := "policed", desc := "(II)I" } : Jvm.MethodName)) ∈ UU := tb_7 (List.mem_of_getElem? (i := 13) rfl) rfl
theorem u7_14 : (Jvm.Cond.selects "GapLinksModel" ({ cls := "GapLinksModel", name := "policed", desc := "(II)I" } : Jvm.MethodName) ({ cls := "GapLinksModel", name := "policed", desc := "(II)I" } : Jvm.MethodName)) ∈ UU := tb_7 (List.mem_of_getElem? (i := 14) rfl) rfl
theorem u7_15 : (Jvm.Cond.code ({ cls := "GapLinksModel", name := "policed", desc := "(II)I" } : Jvm.MethodName) prog_10_method_75_code (3 : Nat) (Option.some Jvm.ClassFile.FieldType.int)) ∈ UU := tb_7 (List.mem_of_getElem? (i := 15) rfl) rfl
theorem u7_16 : (Jvm.Cond.methodLink "GapLinksLaw" (94 : Nat) ({ cls := "GapLinksModel", name := "heard", desc := "(III)I" } : Jvm.MethodName)) ∈ UU := tb_7 (List.mem_of_getElem? (i := 16) rfl) rfl
theorem u7_17 : (Jvm.Cond.instanceMethod ({ cls := "GapLinksModel", name := "heard", desc := "(III)I" } : Jvm.MethodName)) ∈ UU := tb_7 (List.mem_of_getElem? (i := 17) rfl) rfl
theorem u7_18 : (Jvm.Cond.selects "GapLinksModel" ({ cls := "GapLinksModel", name := "heard", desc := "(III)I" } : Jvm.MethodName) ({ cls := "GapLinksModel", name := "heard", desc := "(III)I" } : Jvm.MethodName)) ∈ UU := tb_7 (List.mem_of_getElem? (i := 18) rfl) rfl
theorem u7_19 : (Jvm.Cond.code ({ cls := "GapLinksModel", name := "heard", desc := "(III)I" } : Jvm.MethodName) prog_10_method_76_code (4 : Nat) (Option.some Jvm.ClassFile.FieldType.int)) ∈ UU := tb_7 (List.mem_of_getElem? (i := 19) rfl) rfl
theorem u7_20 : (Jvm.Cond.methodLink "GapLinksLaw" (98 : Nat) ({ cls := "GapLinksModel", name := "seen", desc := "(III)I" } : Jvm.MethodName)) ∈ UU := tb_7 (List.mem_of_getElem? (i := 20) rfl) rfl
theorem u7_21 : (Jvm.Cond.instanceMethod ({ cls := "GapLinksModel", name := "seen", desc := "(III)I" } : Jvm.MethodName)) ∈ UU := tb_7 (List.mem_of_getElem? (i := 21) rfl) rfl
theorem u7_22 : (Jvm.Cond.selects "GapLinksModel" ({ cls := "GapLinksModel", name := "seen", desc := "(III)I" } : Jvm.MethodName) ({ cls := "GapLinksModel", name := "seen", desc := "(III)I" } : Jvm.MethodName)) ∈ UU := tb_7 (List.mem_of_getElem? (i := 22) rfl) rfl
theorem u7_23 : (Jvm.Cond.code ({ cls := "GapLinksModel", name := "seen", desc := "(III)I" } : Jvm.MethodName) prog_10_method_77_code (4 : Nat) (Option.some Jvm.ClassFile.FieldType.int)) ∈ UU := tb_7 (List.mem_of_getElem? (i := 23) rfl) rfl
theorem u7_24 : (Jvm.Cond.methodLink "GapLinksLaw" (102 : Nat) ({ cls := "GapLinksModel", name := "taken", desc := "(III)I" } : Jvm.MethodName)) ∈ UU := tb_7 (List.mem_of_getElem? (i := 24) rfl) rfl
theorem u7_25 : (Jvm.Cond.instanceMethod ({ cls := "GapLinksModel", name := "taken", desc := "(III)I" } : Jvm.MethodName)) ∈ UU := tb_7 (List.mem_of_getElem? (i := 25) rfl) rfl
theorem u7_26 : (Jvm.Cond.selects "GapLinksModel" ({ cls := "GapLinksModel", name := "taken", desc := "(III)I" } : Jvm.MethodName) ({ cls := "GapLinksModel", name := "taken", desc := "(III)I" } : Jvm.MethodName)) ∈ UU := tb_7 (List.mem_of_getElem? (i := 26) rfl) rfl
theorem u7_27 : (Jvm.Cond.code ({ cls := "GapLinksModel", name := "taken", desc := "(III)I" } : Jvm.MethodName) prog_10_method_78_code (4 : Nat) (Option.some Jvm.ClassFile.FieldType.int)) ∈ UU := tb_7 (List.mem_of_getElem? (i := 27) rfl) rfl
theorem u7_28 : (Jvm.Cond.methodLink "GapLinksLaw" (107 : Nat) ({ cls := "GapLinksModel", name := "load", desc := "(IZ)J" } : Jvm.MethodName)) ∈ UU := tb_7 (List.mem_of_getElem? (i := 28) rfl) rfl
theorem u7_29 : (Jvm.Cond.instanceMethod ({ cls := "GapLinksModel", name := "load", desc := "(IZ)J" } : Jvm.MethodName)) ∈ UU := tb_7 (List.mem_of_getElem? (i := 29) rfl) rfl
theorem u7_30 : (Jvm.Cond.selects "GapLinksModel" ({ cls := "GapLinksModel", name := "load", desc := "(IZ)J" } : Jvm.MethodName) ({ cls := "GapLinksModel", name := "load", desc := "(IZ)J" } : Jvm.MethodName)) ∈ UU := tb_7 (List.mem_of_getElem? (i := 30) rfl) rfl
theorem u7_31 : (Jvm.Cond.code ({ cls := "GapLinksModel", name := "load", desc := "(IZ)J" } : Jvm.MethodName) prog_10_method_87_code (3 : Nat) (Option.some Jvm.ClassFile.FieldType.long)) ∈ UU := tb_7 (List.mem_of_getElem? (i := 31) rfl) rfl
theorem u7_32 : (Jvm.Cond.methodLink "GapLinksModel" (322 : Nat) ({ cls := "GapLinksModel", name := "loadOf", desc := "(I)J" } : Jvm.MethodName)) ∈ UU := tb_7 (List.mem_of_getElem? (i := 32) rfl) rfl
theorem u7_34 : (Jvm.Cond.instanceMethod ({ cls := "GapLinksModel", name := "loadOf", desc := "(I)J" } : Jvm.MethodName)) ∈ UU := tb_7 (List.mem_of_getElem? (i := 34) rfl) rfl
theorem u7_35 : (Jvm.Cond.code ({ cls := "GapLinksModel", name := "loadOf", desc := "(I)J" } : Jvm.MethodName) prog_10_method_81_code (5 : Nat) (Option.some Jvm.ClassFile.FieldType.long)) ∈ UU := tb_7 (List.mem_of_getElem? (i := 35) rfl) rfl
theorem u7_36 : (Jvm.Cond.methodLink "GapLinksModel" (315 : Nat) ({ cls := "GapLinksModel", name := "goesThrough", desc := "(II)Z" } : Jvm.MethodName)) ∈ UU := tb_7 (List.mem_of_getElem? (i := 36) rfl) rfl
theorem u7_38 : (Jvm.Cond.instanceMethod ({ cls := "GapLinksModel", name := "goesThrough", desc := "(II)Z" } : Jvm.MethodName)) ∈ UU := tb_7 (List.mem_of_getElem? (i := 38) rfl) rfl
theorem u7_39 : (Jvm.Cond.code ({ cls := "GapLinksModel", name := "goesThrough", desc := "(II)Z" } : Jvm.MethodName) prog_10_method_40_code (5 : Nat) (Option.some Jvm.ClassFile.FieldType.boolean)) ∈ UU := tb_7 (List.mem_of_getElem? (i := 39) rfl) rfl
theorem u7_40 : (Jvm.Cond.methodLink "GapLinksModel" (318 : Nat) ({ cls := "GapLinksModel", name := "rateOf", desc := "(I)J" } : Jvm.MethodName)) ∈ UU := tb_7 (List.mem_of_getElem? (i := 40) rfl) rfl
theorem u7_42 : (Jvm.Cond.instanceMethod ({ cls := "GapLinksModel", name := "rateOf", desc := "(I)J" } : Jvm.MethodName)) ∈ UU := tb_7 (List.mem_of_getElem? (i := 42) rfl) rfl
theorem u7_43 : (Jvm.Cond.code ({ cls := "GapLinksModel", name := "rateOf", desc := "(I)J" } : Jvm.MethodName) prog_10_method_80_code (2 : Nat) (Option.some Jvm.ClassFile.FieldType.long)) ∈ UU := tb_7 (List.mem_of_getElem? (i := 43) rfl) rfl
theorem u7_44 : (Jvm.Cond.constantLong "GapLinksModel" (313 : Nat) (16777216 : Int64)) ∈ UU := tb_7 (List.mem_of_getElem? (i := 44) rfl) rfl
theorem u7_45 : (Jvm.Cond.methodLink "GapLinksModel" (335 : Nat) ({ cls := "GapLinksModel", name := "part", desc := "(JJZ)J" } : Jvm.MethodName)) ∈ UU := tb_7 (List.mem_of_getElem? (i := 45) rfl) rfl
theorem u7_46 : (Jvm.Cond.static ({ cls := "GapLinksModel", name := "part", desc := "(JJZ)J" } : Jvm.MethodName)) ∈ UU := tb_7 (List.mem_of_getElem? (i := 46) rfl) rfl
theorem u7_47 : (Jvm.Cond.code ({ cls := "GapLinksModel", name := "part", desc := "(JJZ)J" } : Jvm.MethodName) prog_10_method_79_code (11 : Nat) (Option.some Jvm.ClassFile.FieldType.long)) ∈ UU := tb_7 (List.mem_of_getElem? (i := 47) rfl) rfl
theorem u7_48 : (Jvm.Cond.methodLink "GapLinksLaw" (111 : Nat) ({ cls := "GapLinksModel", name := "delay", desc := "(IZ)J" } : Jvm.MethodName)) ∈ UU := tb_7 (List.mem_of_getElem? (i := 48) rfl) rfl
theorem u7_49 : (Jvm.Cond.instanceMethod ({ cls := "GapLinksModel", name := "delay", desc := "(IZ)J" } : Jvm.MethodName)) ∈ UU := tb_7 (List.mem_of_getElem? (i := 49) rfl) rfl
theorem u7_50 : (Jvm.Cond.selects "GapLinksModel" ({ cls := "GapLinksModel", name := "delay", desc := "(IZ)J" } : Jvm.MethodName) ({ cls := "GapLinksModel", name := "delay", desc := "(IZ)J" } : Jvm.MethodName)) ∈ UU := tb_7 (List.mem_of_getElem? (i := 50) rfl) rfl
theorem u7_51 : (Jvm.Cond.code ({ cls := "GapLinksModel", name := "delay", desc := "(IZ)J" } : Jvm.MethodName) prog_10_method_88_code (3 : Nat) (Option.some Jvm.ClassFile.FieldType.long)) ∈ UU := tb_7 (List.mem_of_getElem? (i := 51) rfl) rfl
theorem u7_52 : (Jvm.Cond.methodLink "GapLinksModel" (339 : Nat) ({ cls := "GapLinksModel", name := "isBorne", desc := "()Z" } : Jvm.MethodName)) ∈ UU := tb_7 (List.mem_of_getElem? (i := 52) rfl) rfl
theorem u7_54 : (Jvm.Cond.instanceMethod ({ cls := "GapLinksModel", name := "isBorne", desc := "()Z" } : Jvm.MethodName)) ∈ UU := tb_7 (List.mem_of_getElem? (i := 54) rfl) rfl
theorem u7_55 : (Jvm.Cond.code ({ cls := "GapLinksModel", name := "isBorne", desc := "()Z" } : Jvm.MethodName) prog_10_method_82_code (2 : Nat) (Option.some Jvm.ClassFile.FieldType.boolean)) ∈ UU := tb_7 (List.mem_of_getElem? (i := 55) rfl) rfl
theorem u7_56 : (Jvm.Cond.methodLink "GapLinksModel" (332 : Nat) ({ cls := "GapLinksModel", name := "delayOf", desc := "(I)J" } : Jvm.MethodName)) ∈ UU := tb_7 (List.mem_of_getElem? (i := 56) rfl) rfl
theorem u7_58 : (Jvm.Cond.instanceMethod ({ cls := "GapLinksModel", name := "delayOf", desc := "(I)J" } : Jvm.MethodName)) ∈ UU := tb_7 (List.mem_of_getElem? (i := 58) rfl) rfl
theorem u7_59 : (Jvm.Cond.code ({ cls := "GapLinksModel", name := "delayOf", desc := "(I)J" } : Jvm.MethodName) prog_10_method_85_code (5 : Nat) (Option.some Jvm.ClassFile.FieldType.long)) ∈ UU := tb_7 (List.mem_of_getElem? (i := 59) rfl) rfl
theorem u7_60 : (Jvm.Cond.methodLink "GapLinksModel" (328 : Nat) ({ cls := "GapLinksModel", name := "burstOf", desc := "(II)J" } : Jvm.MethodName)) ∈ UU := tb_7 (List.mem_of_getElem? (i := 60) rfl) rfl
theorem u7_62 : (Jvm.Cond.instanceMethod ({ cls := "GapLinksModel", name := "burstOf", desc := "(II)J" } : Jvm.MethodName)) ∈ UU := tb_7 (List.mem_of_getElem? (i := 62) rfl) rfl
theorem u7_63 : (Jvm.Cond.code ({ cls := "GapLinksModel", name := "burstOf", desc := "(II)J" } : Jvm.MethodName) prog_10_method_84_code (4 : Nat) (Option.some Jvm.ClassFile.FieldType.long)) ∈ UU := tb_7 (List.mem_of_getElem? (i := 63) rfl) rfl
theorem u7_64 : (Jvm.Cond.methodLink "GapLinksModel" (325 : Nat) ({ cls := "GapLinksModel", name := "portAhead", desc := "(II)I" } : Jvm.MethodName)) ∈ UU := tb_7 (List.mem_of_getElem? (i := 64) rfl) rfl
theorem u7_66 : (Jvm.Cond.instanceMethod ({ cls := "GapLinksModel", name := "portAhead", desc := "(II)I" } : Jvm.MethodName)) ∈ UU := tb_7 (List.mem_of_getElem? (i := 66) rfl) rfl
theorem u7_67 : (Jvm.Cond.code ({ cls := "GapLinksModel", name := "portAhead", desc := "(II)I" } : Jvm.MethodName) prog_10_method_83_code (5 : Nat) (Option.some Jvm.ClassFile.FieldType.int)) ∈ UU := tb_7 (List.mem_of_getElem? (i := 67) rfl) rfl
theorem u7_68 : (Jvm.Cond.methodLink "GapLinksLaw" (116 : Nat) ({ cls := "GapLinksModel", name := "burst", desc := "(IIIZ)J" } : Jvm.MethodName)) ∈ UU := tb_7 (List.mem_of_getElem? (i := 68) rfl) rfl
theorem u7_69 : (Jvm.Cond.instanceMethod ({ cls := "GapLinksModel", name := "burst", desc := "(IIIZ)J" } : Jvm.MethodName)) ∈ UU := tb_7 (List.mem_of_getElem? (i := 69) rfl) rfl
theorem u7_70 : (Jvm.Cond.selects "GapLinksModel" ({ cls := "GapLinksModel", name := "burst", desc := "(IIIZ)J" } : Jvm.MethodName) ({ cls := "GapLinksModel", name := "burst", desc := "(IIIZ)J" } : Jvm.MethodName)) ∈ UU := tb_7 (List.mem_of_getElem? (i := 70) rfl) rfl
theorem u7_71 : (Jvm.Cond.code ({ cls := "GapLinksModel", name := "burst", desc := "(IIIZ)J" } : Jvm.MethodName) prog_10_method_89_code (5 : Nat) (Option.some Jvm.ClassFile.FieldType.long)) ∈ UU := tb_7 (List.mem_of_getElem? (i := 71) rfl) rfl
theorem u7_72 : (Jvm.Cond.methodLink "GapLinksLaw" (121 : Nat) ({ cls := "GapLinksModel", name := "bound", desc := "(IIZ)J" } : Jvm.MethodName)) ∈ UU := tb_7 (List.mem_of_getElem? (i := 72) rfl) rfl
theorem u7_73 : (Jvm.Cond.instanceMethod ({ cls := "GapLinksModel", name := "bound", desc := "(IIZ)J" } : Jvm.MethodName)) ∈ UU := tb_7 (List.mem_of_getElem? (i := 73) rfl) rfl
theorem u7_74 : (Jvm.Cond.selects "GapLinksModel" ({ cls := "GapLinksModel", name := "bound", desc := "(IIZ)J" } : Jvm.MethodName) ({ cls := "GapLinksModel", name := "bound", desc := "(IIZ)J" } : Jvm.MethodName)) ∈ UU := tb_7 (List.mem_of_getElem? (i := 74) rfl) rfl
theorem u7_75 : (Jvm.Cond.code ({ cls := "GapLinksModel", name := "bound", desc := "(IIZ)J" } : Jvm.MethodName) prog_10_method_90_code (4 : Nat) (Option.some Jvm.ClassFile.FieldType.long)) ∈ UU := tb_7 (List.mem_of_getElem? (i := 75) rfl) rfl
theorem u7_76 : (Jvm.Cond.methodLink "GapLinksModel" (342 : Nat) ({ cls := "GapLinksModel", name := "boundOf", desc := "(II)J" } : Jvm.MethodName)) ∈ UU := tb_7 (List.mem_of_getElem? (i := 76) rfl) rfl
theorem u7_78 : (Jvm.Cond.instanceMethod ({ cls := "GapLinksModel", name := "boundOf", desc := "(II)J" } : Jvm.MethodName)) ∈ UU := tb_7 (List.mem_of_getElem? (i := 78) rfl) rfl
theorem u7_79 : (Jvm.Cond.code ({ cls := "GapLinksModel", name := "boundOf", desc := "(II)J" } : Jvm.MethodName) prog_10_method_86_code (6 : Nat) (Option.some Jvm.ClassFile.FieldType.long)) ∈ UU := tb_7 (List.mem_of_getElem? (i := 79) rfl) rfl
theorem u7_80 : (Jvm.Cond.methodLink "GapLinksLaw" (125 : Nat) ({ cls := "GapLinksModel", name := "keeps", desc := "(II)I" } : Jvm.MethodName)) ∈ UU := tb_7 (List.mem_of_getElem? (i := 80) rfl) rfl
theorem u7_81 : (Jvm.Cond.instanceMethod ({ cls := "GapLinksModel", name := "keeps", desc := "(II)I" } : Jvm.MethodName)) ∈ UU := tb_7 (List.mem_of_getElem? (i := 81) rfl) rfl
theorem u7_82 : (Jvm.Cond.selects "GapLinksModel" ({ cls := "GapLinksModel", name := "keeps", desc := "(II)I" } : Jvm.MethodName) ({ cls := "GapLinksModel", name := "keeps", desc := "(II)I" } : Jvm.MethodName)) ∈ UU := tb_7 (List.mem_of_getElem? (i := 82) rfl) rfl
theorem u7_83 : (Jvm.Cond.code ({ cls := "GapLinksModel", name := "keeps", desc := "(II)I" } : Jvm.MethodName) prog_10_method_91_code (3 : Nat) (Option.some Jvm.ClassFile.FieldType.int)) ∈ UU := tb_7 (List.mem_of_getElem? (i := 83) rfl) rfl
theorem u7_84 : (Jvm.Cond.methodLink "GapLinksLaw" (129 : Nat) ({ cls := "GapLinksModel", name := "fullest", desc := "()I" } : Jvm.MethodName)) ∈ UU := tb_7 (List.mem_of_getElem? (i := 84) rfl) rfl
theorem u7_85 : (Jvm.Cond.instanceMethod ({ cls := "GapLinksModel", name := "fullest", desc := "()I" } : Jvm.MethodName)) ∈ UU := tb_7 (List.mem_of_getElem? (i := 85) rfl) rfl
theorem u7_86 : (Jvm.Cond.selects "GapLinksModel" ({ cls := "GapLinksModel", name := "fullest", desc := "()I" } : Jvm.MethodName) ({ cls := "GapLinksModel", name := "fullest", desc := "()I" } : Jvm.MethodName)) ∈ UU := tb_7 (List.mem_of_getElem? (i := 86) rfl) rfl
theorem u7_87 : (Jvm.Cond.code ({ cls := "GapLinksModel", name := "fullest", desc := "()I" } : Jvm.MethodName) prog_10_method_92_code (3 : Nat) (Option.some Jvm.ClassFile.FieldType.int)) ∈ UU := tb_7 (List.mem_of_getElem? (i := 87) rfl) rfl
theorem u7_88 : (Jvm.Cond.methodLink "GapLinksLaw" (133 : Nat) ({ cls := "GapLinksModel", name := "leastGap", desc := "(I)I" } : Jvm.MethodName)) ∈ UU := tb_7 (List.mem_of_getElem? (i := 88) rfl) rfl
theorem u7_89 : (Jvm.Cond.instanceMethod ({ cls := "GapLinksModel", name := "leastGap", desc := "(I)I" } : Jvm.MethodName)) ∈ UU := tb_7 (List.mem_of_getElem? (i := 89) rfl) rfl
theorem u7_90 : (Jvm.Cond.selects "GapLinksModel" ({ cls := "GapLinksModel", name := "leastGap", desc := "(I)I" } : Jvm.MethodName) ({ cls := "GapLinksModel", name := "leastGap", desc := "(I)I" } : Jvm.MethodName)) ∈ UU := tb_7 (List.mem_of_getElem? (i := 90) rfl) rfl
theorem u7_91 : (Jvm.Cond.code ({ cls := "GapLinksModel", name := "leastGap", desc := "(I)I" } : Jvm.MethodName) prog_10_method_93_code (5 : Nat) (Option.some Jvm.ClassFile.FieldType.int)) ∈ UU := tb_7 (List.mem_of_getElem? (i := 91) rfl) rfl
theorem u7_92 : (Jvm.Cond.methodLink "GapLinksLaw" (137 : Nat) ({ cls := "GapLinksModel", name := "through", desc := "(I)I" } : Jvm.MethodName)) ∈ UU := tb_7 (List.mem_of_getElem? (i := 92) rfl) rfl
theorem u7_93 : (Jvm.Cond.instanceMethod ({ cls := "GapLinksModel", name := "through", desc := "(I)I" } : Jvm.MethodName)) ∈ UU := tb_7 (List.mem_of_getElem? (i := 93) rfl) rfl
theorem u7_94 : (Jvm.Cond.selects "GapLinksModel" ({ cls := "GapLinksModel", name := "through", desc := "(I)I" } : Jvm.MethodName) ({ cls := "GapLinksModel", name := "through", desc := "(I)I" } : Jvm.MethodName)) ∈ UU := tb_7 (List.mem_of_getElem? (i := 94) rfl) rfl
theorem u7_95 : (Jvm.Cond.code ({ cls := "GapLinksModel", name := "through", desc := "(I)I" } : Jvm.MethodName) prog_10_method_94_code (4 : Nat) (Option.some Jvm.ClassFile.FieldType.int)) ∈ UU := tb_7 (List.mem_of_getElem? (i := 95) rfl) rfl
theorem u7_96 : (Jvm.Cond.methodLink "GapLinksLaw" (141 : Nat) ({ cls := "GapLinksModel", name := "send", desc := "(II)I" } : Jvm.MethodName)) ∈ UU := tb_7 (List.mem_of_getElem? (i := 96) rfl) rfl
theorem u7_97 : (Jvm.Cond.instanceMethod ({ cls := "GapLinksModel", name := "send", desc := "(II)I" } : Jvm.MethodName)) ∈ UU := tb_7 (List.mem_of_getElem? (i := 97) rfl) rfl
theorem u7_98 : (Jvm.Cond.selects "GapLinksModel" ({ cls := "GapLinksModel", name := "send", desc := "(II)I" } : Jvm.MethodName) ({ cls := "GapLinksModel", name := "send", desc := "(II)I" } : Jvm.MethodName)) ∈ UU := tb_7 (List.mem_of_getElem? (i := 98) rfl) rfl
theorem u7_99 : (Jvm.Cond.code ({ cls := "GapLinksModel", name := "send", desc := "(II)I" } : Jvm.MethodName) prog_10_method_95_code (3 : Nat) (Option.some Jvm.ClassFile.FieldType.int)) ∈ UU := tb_7 (List.mem_of_getElem? (i := 99) rfl) rfl
theorem u7_100 : (Jvm.Cond.methodLink "GapLinksLaw" (145 : Nat) ({ cls := "GapLinksModel", name := "babble", desc := "(II)I" } : Jvm.MethodName)) ∈ UU := tb_7 (List.mem_of_getElem? (i := 100) rfl) rfl
theorem u7_101 : (Jvm.Cond.instanceMethod ({ cls := "GapLinksModel", name := "babble", desc := "(II)I" } : Jvm.MethodName)) ∈ UU := tb_7 (List.mem_of_getElem? (i := 101) rfl) rfl
theorem u7_102 : (Jvm.Cond.selects "GapLinksModel" ({ cls := "GapLinksModel", name := "babble", desc := "(II)I" } : Jvm.MethodName) ({ cls := "GapLinksModel", name := "babble", desc := "(II)I" } : Jvm.MethodName)) ∈ UU := tb_7 (List.mem_of_getElem? (i := 102) rfl) rfl
theorem u7_103 : (Jvm.Cond.code ({ cls := "GapLinksModel", name := "babble", desc := "(II)I" } : Jvm.MethodName) prog_10_method_96_code (5 : Nat) (Option.some Jvm.ClassFile.FieldType.int)) ∈ UU := tb_7 (List.mem_of_getElem? (i := 103) rfl) rfl
theorem u7_104 : (Jvm.Cond.methodLink "GapLinksModel" (298 : Nat) ({ cls := "GapLinksModel", name := "isBorn", desc := "(I)I" } : Jvm.MethodName)) ∈ UU := tb_7 (List.mem_of_getElem? (i := 104) rfl) rfl
theorem u7_106 : (Jvm.Cond.instanceMethod ({ cls := "GapLinksModel", name := "isBorn", desc := "(I)I" } : Jvm.MethodName)) ∈ UU := tb_7 (List.mem_of_getElem? (i := 106) rfl) rfl
theorem u7_107 : (Jvm.Cond.code ({ cls := "GapLinksModel", name := "isBorn", desc := "(I)I" } : Jvm.MethodName) prog_10_method_56_code (5 : Nat) (Option.some Jvm.ClassFile.FieldType.int)) ∈ UU := tb_7 (List.mem_of_getElem? (i := 107) rfl) rfl
theorem u7_108 : (Jvm.Cond.methodLink "GapLinksModel" (258 : Nat) ({ cls := "GapLinksModel", name := "comes", desc := "(IIIII)Z" } : Jvm.MethodName)) ∈ UU := tb_7 (List.mem_of_getElem? (i := 108) rfl) rfl
theorem u7_110 : (Jvm.Cond.instanceMethod ({ cls := "GapLinksModel", name := "comes", desc := "(IIIII)Z" } : Jvm.MethodName)) ∈ UU := tb_7 (List.mem_of_getElem? (i := 110) rfl) rfl
theorem u7_111 : (Jvm.Cond.code ({ cls := "GapLinksModel", name := "comes", desc := "(IIIII)Z" } : Jvm.MethodName) prog_10_method_54_code (8 : Nat) (Option.some Jvm.ClassFile.FieldType.boolean)) ∈ UU := tb_7 (List.mem_of_getElem? (i := 111) rfl) rfl
theorem u7_112 : (Jvm.Cond.methodLink "GapLinksModel" (262 : Nat) ({ cls := "GapLinksModel", name := "behind", desc := "(I)I" } : Jvm.MethodName)) ∈ UU := tb_7 (List.mem_of_getElem? (i := 112) rfl) rfl
theorem u7_113 : (Jvm.Cond.static ({ cls := "GapLinksModel", name := "behind", desc := "(I)I" } : Jvm.MethodName)) ∈ UU := tb_7 (List.mem_of_getElem? (i := 113) rfl) rfl
theorem u7_114 : (Jvm.Cond.code ({ cls := "GapLinksModel", name := "behind", desc := "(I)I" } : Jvm.MethodName) prog_10_method_55_code (1 : Nat) (Option.some Jvm.ClassFile.FieldType.int)) ∈ UU := tb_7 (List.mem_of_getElem? (i := 114) rfl) rfl
theorem u7_115 : (Jvm.Cond.methodLink "GapLinksLaw" (149 : Nat) ({ cls := "GapLinksModel", name := "down", desc := "(II)I" } : Jvm.MethodName)) ∈ UU := tb_7 (List.mem_of_getElem? (i := 115) rfl) rfl
theorem u7_116 : (Jvm.Cond.instanceMethod ({ cls := "GapLinksModel", name := "down", desc := "(II)I" } : Jvm.MethodName)) ∈ UU := tb_7 (List.mem_of_getElem? (i := 116) rfl) rfl
theorem u7_117 : (Jvm.Cond.selects "GapLinksModel" ({ cls := "GapLinksModel", name := "down", desc := "(II)I" } : Jvm.MethodName) ({ cls := "GapLinksModel", name := "down", desc := "(II)I" } : Jvm.MethodName)) ∈ UU := tb_7 (List.mem_of_getElem? (i := 117) rfl) rfl
theorem u7_118 : (Jvm.Cond.code ({ cls := "GapLinksModel", name := "down", desc := "(II)I" } : Jvm.MethodName) prog_10_method_97_code (4 : Nat) (Option.some Jvm.ClassFile.FieldType.int)) ∈ UU := tb_7 (List.mem_of_getElem? (i := 118) rfl) rfl
theorem u7_119 : (Jvm.Cond.methodLink "GapLinksLaw" (153 : Nat) ({ cls := "GapLinksModel", name := "anew", desc := "(I)I" } : Jvm.MethodName)) ∈ UU := tb_7 (List.mem_of_getElem? (i := 119) rfl) rfl
theorem u7_120 : (Jvm.Cond.instanceMethod ({ cls := "GapLinksModel", name := "anew", desc := "(I)I" } : Jvm.MethodName)) ∈ UU := tb_7 (List.mem_of_getElem? (i := 120) rfl) rfl
theorem u7_121 : (Jvm.Cond.selects "GapLinksModel" ({ cls := "GapLinksModel", name := "anew", desc := "(I)I" } : Jvm.MethodName) ({ cls := "GapLinksModel", name := "anew", desc := "(I)I" } : Jvm.MethodName)) ∈ UU := tb_7 (List.mem_of_getElem? (i := 121) rfl) rfl
theorem u7_122 : (Jvm.Cond.code ({ cls := "GapLinksModel", name := "anew", desc := "(I)I" } : Jvm.MethodName) prog_10_method_98_code (4 : Nat) (Option.some Jvm.ClassFile.FieldType.int)) ∈ UU := tb_7 (List.mem_of_getElem? (i := 122) rfl) rfl
theorem u7_123 : (Jvm.Cond.methodLink "GapLinksLaw" (157 : Nat) ({ cls := "GapLinksModel", name := "ticks", desc := "(I)I" } : Jvm.MethodName)) ∈ UU := tb_7 (List.mem_of_getElem? (i := 123) rfl) rfl
theorem u7_124 : (Jvm.Cond.instanceMethod ({ cls := "GapLinksModel", name := "ticks", desc := "(I)I" } : Jvm.MethodName)) ∈ UU := tb_7 (List.mem_of_getElem? (i := 124) rfl) rfl
theorem u7_125 : (Jvm.Cond.selects "GapLinksModel" ({ cls := "GapLinksModel", name := "ticks", desc := "(I)I" } : Jvm.MethodName) ({ cls := "GapLinksModel", name := "ticks", desc := "(I)I" } : Jvm.MethodName)) ∈ UU := tb_7 (List.mem_of_getElem? (i := 125) rfl) rfl
theorem u7_126 : (Jvm.Cond.code ({ cls := "GapLinksModel", name := "ticks", desc := "(I)I" } : Jvm.MethodName) prog_10_method_99_code (2 : Nat) (Option.some Jvm.ClassFile.FieldType.int)) ∈ UU := tb_7 (List.mem_of_getElem? (i := 126) rfl) rfl
theorem u7_127 : (Jvm.Cond.methodLink "GapLinksModel" (345 : Nat) ({ cls := "GapLinksModel", name := "goes", desc := "(I)V" } : Jvm.MethodName)) ∈ UU := tb_7 (List.mem_of_getElem? (i := 127) rfl) rfl
theorem u7_129 : (Jvm.Cond.instanceMethod ({ cls := "GapLinksModel", name := "goes", desc := "(I)V" } : Jvm.MethodName)) ∈ UU := tb_7 (List.mem_of_getElem? (i := 129) rfl) rfl
theorem u7_130 : (Jvm.Cond.code ({ cls := "GapLinksModel", name := "goes", desc := "(I)V" } : Jvm.MethodName) prog_10_method_68_code (3 : Nat) (Option.none : Option Jvm.ClassFile.FieldType)) ∈ UU := tb_7 (List.mem_of_getElem? (i := 130) rfl) rfl
theorem u7_131 : (Jvm.Cond.methodLink "GapLinksModel" (304 : Nat) ({ cls := "GapLinksModel", name := "goesTick", desc := "()V" } : Jvm.MethodName)) ∈ UU := tb_7 (List.mem_of_getElem? (i := 131) rfl) rfl
theorem u7_133 : (Jvm.Cond.instanceMethod ({ cls := "GapLinksModel", name := "goesTick", desc := "()V" } : Jvm.MethodName)) ∈ UU := tb_7 (List.mem_of_getElem? (i := 133) rfl) rfl
theorem u7_134 : (Jvm.Cond.code ({ cls := "GapLinksModel", name := "goesTick", desc := "()V" } : Jvm.MethodName) prog_10_method_67_code (4 : Nat) (Option.none : Option Jvm.ClassFile.FieldType)) ∈ UU := tb_7 (List.mem_of_getElem? (i := 134) rfl) rfl
theorem u7_135 : (Jvm.Cond.methodLink "GapLinksModel" (294 : Nat) ({ cls := "GapLinksModel", name := "leaves", desc := "(II)V" } : Jvm.MethodName)) ∈ UU := tb_7 (List.mem_of_getElem? (i := 135) rfl) rfl
theorem u7_137 : (Jvm.Cond.instanceMethod ({ cls := "GapLinksModel", name := "leaves", desc := "(II)V" } : Jvm.MethodName)) ∈ UU := tb_7 (List.mem_of_getElem? (i := 137) rfl) rfl
theorem u7_138 : (Jvm.Cond.code ({ cls := "GapLinksModel", name := "leaves", desc := "(II)V" } : Jvm.MethodName) prog_10_method_65_code (8 : Nat) (Option.none : Option Jvm.ClassFile.FieldType)) ∈ UU := tb_7 (List.mem_of_getElem? (i := 138) rfl) rfl
theorem u7_139 : (Jvm.Cond.methodLink "GapLinksModel" (287 : Nat) ({ cls := "GapLinksModel", name := "arrivesAtEnd", desc := "(IIIII)V" } : Jvm.MethodName)) ∈ UU := tb_7 (List.mem_of_getElem? (i := 139) rfl) rfl
theorem u7_141 : (Jvm.Cond.instanceMethod ({ cls := "GapLinksModel", name := "arrivesAtEnd", desc := "(IIIII)V" } : Jvm.MethodName)) ∈ UU := tb_7 (List.mem_of_getElem? (i := 141) rfl) rfl
theorem u7_142 : (Jvm.Cond.code ({ cls := "GapLinksModel", name := "arrivesAtEnd", desc := "(IIIII)V" } : Jvm.MethodName) prog_10_method_64_code (9 : Nat) (Option.none : Option Jvm.ClassFile.FieldType)) ∈ UU := tb_7 (List.mem_of_getElem? (i := 142) rfl) rfl
theorem u7_143 : (Jvm.Cond.methodLink "GapLinksModel" (277 : Nat) ({ cls := "GapLinksModel", name := "isWhole", desc := "(III)Z" } : Jvm.MethodName)) ∈ UU := tb_7 (List.mem_of_getElem? (i := 143) rfl) rfl
theorem u7_145 : (Jvm.Cond.instanceMethod ({ cls := "GapLinksModel", name := "isWhole", desc := "(III)Z" } : Jvm.MethodName)) ∈ UU := tb_7 (List.mem_of_getElem? (i := 145) rfl) rfl
theorem u7_146 : (Jvm.Cond.code ({ cls := "GapLinksModel", name := "isWhole", desc := "(III)Z" } : Jvm.MethodName) prog_10_method_60_code (5 : Nat) (Option.some Jvm.ClassFile.FieldType.boolean)) ∈ UU := tb_7 (List.mem_of_getElem? (i := 146) rfl) rfl
theorem u7_147 : (Jvm.Cond.methodLink "GapLinksModel" (280 : Nat) ({ cls := "GapLinksModel", name := "isTaken", desc := "(II)Z" } : Jvm.MethodName)) ∈ UU := tb_7 (List.mem_of_getElem? (i := 147) rfl) rfl
theorem u7_149 : (Jvm.Cond.instanceMethod ({ cls := "GapLinksModel", name := "isTaken", desc := "(II)Z" } : Jvm.MethodName)) ∈ UU := tb_7 (List.mem_of_getElem? (i := 149) rfl) rfl
theorem u7_150 : (Jvm.Cond.code ({ cls := "GapLinksModel", name := "isTaken", desc := "(II)Z" } : Jvm.MethodName) prog_10_method_62_code (4 : Nat) (Option.some Jvm.ClassFile.FieldType.boolean)) ∈ UU := tb_7 (List.mem_of_getElem? (i := 150) rfl) rfl
theorem u7_151 : (Jvm.Cond.methodLink "GapLinksModel" (271 : Nat) ({ cls := "GapLinksModel", name := "ahead", desc := "(II)I" } : Jvm.MethodName)) ∈ UU := tb_7 (List.mem_of_getElem? (i := 151) rfl) rfl
theorem u7_152 : (Jvm.Cond.static ({ cls := "GapLinksModel", name := "ahead", desc := "(II)I" } : Jvm.MethodName)) ∈ UU := tb_7 (List.mem_of_getElem? (i := 152) rfl) rfl
theorem u7_153 : (Jvm.Cond.code ({ cls := "GapLinksModel", name := "ahead", desc := "(II)I" } : Jvm.MethodName) prog_10_method_61_code (2 : Nat) (Option.some Jvm.ClassFile.FieldType.int)) ∈ UU := tb_7 (List.mem_of_getElem? (i := 153) rfl) rfl
theorem u7_154 : (Jvm.Cond.methodLink "GapLinksModel" (283 : Nat) ({ cls := "GapLinksModel", name := "takes", desc := "(IIII)V" } : Jvm.MethodName)) ∈ UU := tb_7 (List.mem_of_getElem? (i := 154) rfl) rfl
theorem u7_156 : (Jvm.Cond.instanceMethod ({ cls := "GapLinksModel", name := "takes", desc := "(IIII)V" } : Jvm.MethodName)) ∈ UU := tb_7 (List.mem_of_getElem? (i := 156) rfl) rfl
theorem u7_157 : (Jvm.Cond.code ({ cls := "GapLinksModel", name := "takes", desc := "(IIII)V" } : Jvm.MethodName) prog_10_method_63_code (7 : Nat) (Option.none : Option Jvm.ClassFile.FieldType)) ∈ UU := tb_7 (List.mem_of_getElem? (i := 157) rfl) rfl
theorem u7_158 : (Jvm.Cond.methodLink "GapLinksModel" (291 : Nat) ({ cls := "GapLinksModel", name := "arrivesAtSwitch", desc := "(IIIII)V" } : Jvm.MethodName)) ∈ UU := tb_7 (List.mem_of_getElem? (i := 158) rfl) rfl
theorem u7_160 : (Jvm.Cond.instanceMethod ({ cls := "GapLinksModel", name := "arrivesAtSwitch", desc := "(IIIII)V" } : Jvm.MethodName)) ∈ UU := tb_7 (List.mem_of_getElem? (i := 160) rfl) rfl
theorem u7_161 : (Jvm.Cond.code ({ cls := "GapLinksModel", name := "arrivesAtSwitch", desc := "(IIIII)V" } : Jvm.MethodName) prog_10_method_59_code (9 : Nat) (Option.none : Option Jvm.ClassFile.FieldType)) ∈ UU := tb_7 (List.mem_of_getElem? (i := 161) rfl) rfl
theorem u7_162 : (Jvm.Cond.methodLink "GapLinksModel" (265 : Nat) ({ cls := "GapLinksModel", name := "switchBehind", desc := "(I)I" } : Jvm.MethodName)) ∈ UU := tb_7 (List.mem_of_getElem? (i := 162) rfl) rfl
theorem u7_164 : (Jvm.Cond.instanceMethod ({ cls := "GapLinksModel", name := "switchBehind", desc := "(I)I" } : Jvm.MethodName)) ∈ UU := tb_7 (List.mem_of_getElem? (i := 164) rfl) rfl
theorem u7_165 : (Jvm.Cond.code ({ cls := "GapLinksModel", name := "switchBehind", desc := "(I)I" } : Jvm.MethodName) prog_10_method_58_code (2 : Nat) (Option.some Jvm.ClassFile.FieldType.int)) ∈ UU := tb_7 (List.mem_of_getElem? (i := 165) rfl) rfl
theorem u7_166 : (Jvm.Cond.methodLink "GapLinksModel" (268 : Nat) ({ cls := "GapLinksModel", name := "liesBehind", desc := "(III)Z" } : Jvm.MethodName)) ∈ UU := tb_7 (List.mem_of_getElem? (i := 166) rfl) rfl
theorem u7_168 : (Jvm.Cond.instanceMethod ({ cls := "GapLinksModel", name := "liesBehind", desc := "(III)Z" } : Jvm.MethodName)) ∈ UU := tb_7 (List.mem_of_getElem? (i := 168) rfl) rfl
theorem u7_169 : (Jvm.Cond.code ({ cls := "GapLinksModel", name := "liesBehind", desc := "(III)Z" } : Jvm.MethodName) prog_10_method_57_code (7 : Nat) (Option.some Jvm.ClassFile.FieldType.boolean)) ∈ UU := tb_7 (List.mem_of_getElem? (i := 169) rfl) rfl
theorem u7_170 : (Jvm.Cond.methodLink "GapLinksModel" (301 : Nat) ({ cls := "GapLinksModel", name := "sends", desc := "(II)V" } : Jvm.MethodName)) ∈ UU := tb_7 (List.mem_of_getElem? (i := 170) rfl) rfl
theorem u7_172 : (Jvm.Cond.instanceMethod ({ cls := "GapLinksModel", name := "sends", desc := "(II)V" } : Jvm.MethodName)) ∈ UU := tb_7 (List.mem_of_getElem? (i := 172) rfl) rfl
theorem u7_173 : (Jvm.Cond.code ({ cls := "GapLinksModel", name := "sends", desc := "(II)V" } : Jvm.MethodName) prog_10_method_66_code (6 : Nat) (Option.none : Option Jvm.ClassFile.FieldType)) ∈ UU := tb_7 (List.mem_of_getElem? (i := 173) rfl) rfl
theorem u7_174 : (Jvm.Cond.methodLink "GapLinksLaw" (161 : Nat) ({ cls := "GapLinksModel", name := "willHear", desc := "(IIII)I" } : Jvm.MethodName)) ∈ UU := tb_7 (List.mem_of_getElem? (i := 174) rfl) rfl
theorem u7_175 : (Jvm.Cond.instanceMethod ({ cls := "GapLinksModel", name := "willHear", desc := "(IIII)I" } : Jvm.MethodName)) ∈ UU := tb_7 (List.mem_of_getElem? (i := 175) rfl) rfl
theorem u7_176 : (Jvm.Cond.selects "GapLinksModel" ({ cls := "GapLinksModel", name := "willHear", desc := "(IIII)I" } : Jvm.MethodName) ({ cls := "GapLinksModel", name := "willHear", desc := "(IIII)I" } : Jvm.MethodName)) ∈ UU := tb_7 (List.mem_of_getElem? (i := 176) rfl) rfl
theorem u7_177 : (Jvm.Cond.code ({ cls := "GapLinksModel", name := "willHear", desc := "(IIII)I" } : Jvm.MethodName) prog_10_method_100_code (6 : Nat) (Option.some Jvm.ClassFile.FieldType.int)) ∈ UU := tb_7 (List.mem_of_getElem? (i := 177) rfl) rfl
theorem u7_178 : (Jvm.Cond.methodLink "GapLinksModel" (348 : Nat) ({ cls := "GapLinksModel", name := "laysAside", desc := "()V" } : Jvm.MethodName)) ∈ UU := tb_7 (List.mem_of_getElem? (i := 178) rfl) rfl
theorem u7_180 : (Jvm.Cond.instanceMethod ({ cls := "GapLinksModel", name := "laysAside", desc := "()V" } : Jvm.MethodName)) ∈ UU := tb_7 (List.mem_of_getElem? (i := 180) rfl) rfl
theorem u7_181 : (Jvm.Cond.code ({ cls := "GapLinksModel", name := "laysAside", desc := "()V" } : Jvm.MethodName) prog_10_method_52_code (2 : Nat) (Option.none : Option Jvm.ClassFile.FieldType)) ∈ UU := tb_7 (List.mem_of_getElem? (i := 181) rfl) rfl
theorem u7_182 : (Jvm.Cond.methodLink "GapLinksModel" (351 : Nat) ({ cls := "GapLinksModel", name := "takesBack", desc := "()V" } : Jvm.MethodName)) ∈ UU := tb_7 (List.mem_of_getElem? (i := 182) rfl) rfl
theorem u7_184 : (Jvm.Cond.instanceMethod ({ cls := "GapLinksModel", name := "takesBack", desc := "()V" } : Jvm.MethodName)) ∈ UU := tb_7 (List.mem_of_getElem? (i := 184) rfl) rfl
theorem u7_185 : (Jvm.Cond.code ({ cls := "GapLinksModel", name := "takesBack", desc := "()V" } : Jvm.MethodName) prog_10_method_53_code (2 : Nat) (Option.none : Option Jvm.ClassFile.FieldType)) ∈ UU := tb_7 (List.mem_of_getElem? (i := 185) rfl) rfl
theorem u7_186 : (Jvm.Cond.methodLink "GapLinksLaw" (165 : Nat) ({ cls := "GapLinksModel", name := "willLose", desc := "(III)I" } : Jvm.MethodName)) ∈ UU := tb_7 (List.mem_of_getElem? (i := 186) rfl) rfl
theorem u7_187 : (Jvm.Cond.instanceMethod ({ cls := "GapLinksModel", name := "willLose", desc := "(III)I" } : Jvm.MethodName)) ∈ UU := tb_7 (List.mem_of_getElem? (i := 187) rfl) rfl
theorem u7_188 : (Jvm.Cond.selects "GapLinksModel" ({ cls := "GapLinksModel", name := "willLose", desc := "(III)I" } : Jvm.MethodName) ({ cls := "GapLinksModel", name := "willLose", desc := "(III)I" } : Jvm.MethodName)) ∈ UU := tb_7 (List.mem_of_getElem? (i := 188) rfl) rfl
theorem u7_189 : (Jvm.Cond.code ({ cls := "GapLinksModel", name := "willLose", desc := "(III)I" } : Jvm.MethodName) prog_10_method_101_code (5 : Nat) (Option.some Jvm.ClassFile.FieldType.int)) ∈ UU := tb_7 (List.mem_of_getElem? (i := 189) rfl) rfl
theorem u7_190 : (Jvm.Cond.methodLink "GapLinksLaw" (169 : Nat) ({ cls := "GapLinksModel", name := "quiet", desc := "()I" } : Jvm.MethodName)) ∈ UU := tb_7 (List.mem_of_getElem? (i := 190) rfl) rfl
theorem u7_191 : (Jvm.Cond.instanceMethod ({ cls := "GapLinksModel", name := "quiet", desc := "()I" } : Jvm.MethodName)) ∈ UU := tb_7 (List.mem_of_getElem? (i := 191) rfl) rfl
theorem u7_192 : (Jvm.Cond.selects "GapLinksModel" ({ cls := "GapLinksModel", name := "quiet", desc := "()I" } : Jvm.MethodName) ({ cls := "GapLinksModel", name := "quiet", desc := "()I" } : Jvm.MethodName)) ∈ UU := tb_7 (List.mem_of_getElem? (i := 192) rfl) rfl
theorem u7_193 : (Jvm.Cond.code ({ cls := "GapLinksModel", name := "quiet", desc := "()I" } : Jvm.MethodName) prog_10_method_104_code (2 : Nat) (Option.some Jvm.ClassFile.FieldType.int)) ∈ UU := tb_7 (List.mem_of_getElem? (i := 193) rfl) rfl
theorem u7_194 : (Jvm.Cond.methodLink "GapLinksModel" (354 : Nat) ({ cls := "GapLinksModel", name := "waitingMany", desc := "()I" } : Jvm.MethodName)) ∈ UU := tb_7 (List.mem_of_getElem? (i := 194) rfl) rfl
theorem u7_196 : (Jvm.Cond.instanceMethod ({ cls := "GapLinksModel", name := "waitingMany", desc := "()I" } : Jvm.MethodName)) ∈ UU := tb_7 (List.mem_of_getElem? (i := 196) rfl) rfl
theorem u7_197 : (Jvm.Cond.code ({ cls := "GapLinksModel", name := "waitingMany", desc := "()I" } : Jvm.MethodName) prog_10_method_102_code (3 : Nat) (Option.some Jvm.ClassFile.FieldType.int)) ∈ UU := tb_7 (List.mem_of_getElem? (i := 197) rfl) rfl
theorem u7_198 : (Jvm.Cond.methodLink "GapLinksModel" (357 : Nat) ({ cls := "GapLinksModel", name := "frameMany", desc := "()I" } : Jvm.MethodName)) ∈ UU := tb_7 (List.mem_of_getElem? (i := 198) rfl) rfl
theorem u7_200 : (Jvm.Cond.instanceMethod ({ cls := "GapLinksModel", name := "frameMany", desc := "()I" } : Jvm.MethodName)) ∈ UU := tb_7 (List.mem_of_getElem? (i := 200) rfl) rfl
theorem u7_201 : (Jvm.Cond.code ({ cls := "GapLinksModel", name := "frameMany", desc := "()I" } : Jvm.MethodName) prog_10_method_103_code (3 : Nat) (Option.some Jvm.ClassFile.FieldType.int)) ∈ UU := tb_7 (List.mem_of_getElem? (i := 201) rfl) rfl
theorem u7_202 : (Jvm.Cond.methodLink "GapLinksLaw" (174 : Nat) ({ cls := "GapLinksModel", name := "keep", desc := "()Z" } : Jvm.MethodName)) ∈ UU := tb_7 (List.mem_of_getElem? (i := 202) rfl) rfl
theorem u7_203 : (Jvm.Cond.instanceMethod ({ cls := "GapLinksModel", name := "keep", desc := "()Z" } : Jvm.MethodName)) ∈ UU := tb_7 (List.mem_of_getElem? (i := 203) rfl) rfl
theorem u7_204 : (Jvm.Cond.selects "GapLinksModel" ({ cls := "GapLinksModel", name := "keep", desc := "()Z" } : Jvm.MethodName) ({ cls := "GapLinksModel", name := "keep", desc := "()Z" } : Jvm.MethodName)) ∈ UU := tb_7 (List.mem_of_getElem? (i := 204) rfl) rfl
theorem u7_205 : (Jvm.Cond.code ({ cls := "GapLinksModel", name := "keep", desc := "()Z" } : Jvm.MethodName) prog_10_method_105_code (2 : Nat) (Option.some Jvm.ClassFile.FieldType.boolean)) ∈ UU := tb_7 (List.mem_of_getElem? (i := 205) rfl) rfl
theorem u7_206 : (Jvm.Cond.methodLink "GapLinksLaw" (178 : Nat) ({ cls := "GapLinksModel", name := "back", desc := "()Z" } : Jvm.MethodName)) ∈ UU := tb_7 (List.mem_of_getElem? (i := 206) rfl) rfl
theorem u7_207 : (Jvm.Cond.instanceMethod ({ cls := "GapLinksModel", name := "back", desc := "()Z" } : Jvm.MethodName)) ∈ UU := tb_7 (List.mem_of_getElem? (i := 207) rfl) rfl
theorem u7_208 : (Jvm.Cond.selects "GapLinksModel" ({ cls := "GapLinksModel", name := "back", desc := "()Z" } : Jvm.MethodName) ({ cls := "GapLinksModel", name := "back", desc := "()Z" } : Jvm.MethodName)) ∈ UU := tb_7 (List.mem_of_getElem? (i := 208) rfl) rfl
theorem u7_209 : (Jvm.Cond.code ({ cls := "GapLinksModel", name := "back", desc := "()Z" } : Jvm.MethodName) prog_10_method_106_code (2 : Nat) (Option.some Jvm.ClassFile.FieldType.boolean)) ∈ UU := tb_7 (List.mem_of_getElem? (i := 209) rfl) rfl
theorem u7_210 : (Jvm.Cond.methodLink "GapLinksLaw" (184 : Nat) ({ cls := "GapLinksModel", name := "silent", desc := "(I)I" } : Jvm.MethodName)) ∈ UU := tb_7 (List.mem_of_getElem? (i := 210) rfl) rfl
theorem u7_211 : (Jvm.Cond.instanceMethod ({ cls := "GapLinksModel", name := "silent", desc := "(I)I" } : Jvm.MethodName)) ∈ UU := tb_7 (List.mem_of_getElem? (i := 211) rfl) rfl
theorem u7_212 : (Jvm.Cond.selects "GapLinksModel" ({ cls := "GapLinksModel", name := "silent", desc := "(I)I" } : Jvm.MethodName) ({ cls := "GapLinksModel", name := "silent", desc := "(I)I" } : Jvm.MethodName)) ∈ UU := tb_7 (List.mem_of_getElem? (i := 212) rfl) rfl
theorem u7_213 : (Jvm.Cond.code ({ cls := "GapLinksModel", name := "silent", desc := "(I)I" } : Jvm.MethodName) prog_10_method_108_code (4 : Nat) (Option.some Jvm.ClassFile.FieldType.int)) ∈ UU := tb_7 (List.mem_of_getElem? (i := 213) rfl) rfl
theorem u7_214 : (Jvm.Cond.methodLink "GapLinksModel" (360 : Nat) ({ cls := "GapLinksModel", name := "isSilent", desc := "(I)Z" } : Jvm.MethodName)) ∈ UU := tb_7 (List.mem_of_getElem? (i := 214) rfl) rfl
theorem u7_216 : (Jvm.Cond.instanceMethod ({ cls := "GapLinksModel", name := "isSilent", desc := "(I)Z" } : Jvm.MethodName)) ∈ UU := tb_7 (List.mem_of_getElem? (i := 216) rfl) rfl
theorem u7_217 : (Jvm.Cond.code ({ cls := "GapLinksModel", name := "isSilent", desc := "(I)Z" } : Jvm.MethodName) prog_10_method_107_code (3 : Nat) (Option.some Jvm.ClassFile.FieldType.boolean)) ∈ UU := tb_7 (List.mem_of_getElem? (i := 217) rfl) rfl
theorem u7_218 : (Jvm.Cond.methodLink "GapLinksLaw" (191 : Nat) ({ cls := "GapLinksModel", name := "size", desc := "(I)I" } : Jvm.MethodName)) ∈ UU := tb_7 (List.mem_of_getElem? (i := 218) rfl) rfl
theorem u7_219 : (Jvm.Cond.instanceMethod ({ cls := "GapLinksModel", name := "size", desc := "(I)I" } : Jvm.MethodName)) ∈ UU := tb_7 (List.mem_of_getElem? (i := 219) rfl) rfl
theorem u7_220 : (Jvm.Cond.selects "GapLinksModel" ({ cls := "GapLinksModel", name := "size", desc := "(I)I" } : Jvm.MethodName) ({ cls := "GapLinksModel", name := "size", desc := "(I)I" } : Jvm.MethodName)) ∈ UU := tb_7 (List.mem_of_getElem? (i := 220) rfl) rfl
theorem u7_221 : (Jvm.Cond.code ({ cls := "GapLinksModel", name := "size", desc := "(I)I" } : Jvm.MethodName) prog_10_method_110_code (2 : Nat) (Option.some Jvm.ClassFile.FieldType.int)) ∈ UU := tb_7 (List.mem_of_getElem? (i := 221) rfl) rfl
theorem u7_222 : (Jvm.Cond.methodLink "GapLinksModel" (363 : Nat) ({ cls := "GapLinksModel", name := "receiverMany", desc := "()I" } : Jvm.MethodName)) ∈ UU := tb_7 (List.mem_of_getElem? (i := 222) rfl) rfl
theorem u7_224 : (Jvm.Cond.instanceMethod ({ cls := "GapLinksModel", name := "receiverMany", desc := "()I" } : Jvm.MethodName)) ∈ UU := tb_7 (List.mem_of_getElem? (i := 224) rfl) rfl
theorem u7_225 : (Jvm.Cond.code ({ cls := "GapLinksModel", name := "receiverMany", desc := "()I" } : Jvm.MethodName) prog_10_method_109_code (3 : Nat) (Option.some Jvm.ClassFile.FieldType.int)) ∈ UU := tb_7 (List.mem_of_getElem? (i := 225) rfl) rfl
theorem u7_226 : (Jvm.Cond.methodLink "GapLinksLaw" (195 : Nat) ({ cls := "GapLinksModel", name := "trouble", desc := "()I" } : Jvm.MethodName)) ∈ UU := tb_7 (List.mem_of_getElem? (i := 226) rfl) rfl
theorem u7_227 : (Jvm.Cond.instanceMethod ({ cls := "GapLinksModel", name := "trouble", desc := "()I" } : Jvm.MethodName)) ∈ UU := tb_7 (List.mem_of_getElem? (i := 227) rfl) rfl
theorem u7_228 : (Jvm.Cond.selects "GapLinksModel" ({ cls := "GapLinksModel", name := "trouble", desc := "()I" } : Jvm.MethodName) ({ cls := "GapLinksModel", name := "trouble", desc := "()I" } : Jvm.MethodName)) ∈ UU := tb_7 (List.mem_of_getElem? (i := 228) rfl) rfl
theorem u7_229 : (Jvm.Cond.code ({ cls := "GapLinksModel", name := "trouble", desc := "()I" } : Jvm.MethodName) prog_10_method_111_code (1 : Nat) (Option.some Jvm.ClassFile.FieldType.int)) ∈ UU := tb_7 (List.mem_of_getElem? (i := 229) rfl) rfl
theorem u7_230 : (Jvm.Cond.constantLong "GapLinksLaw" (54 : Nat) (4294967295 : Int64)) ∈ UU := tb_7 (List.mem_of_getElem? (i := 230) rfl) rfl
theorem u7_231 : (Jvm.Cond.sameMethod "java/lang/Throwable" "java/lang/Throwable" "fillInStackTrace" "(I)Ljava/lang/Throwable;") ∈ UU := tb_7 (List.mem_of_getElem? (i := 231) rfl) rfl
theorem u8_4 : (Jvm.Cond.fieldLink "java/lang/String" (9 : Nat) "java/lang/String" "value" "[B") ∈ UU := tb_8 (List.mem_of_getElem? (i := 4) rfl) rfl
theorem u8_5 : (Jvm.Cond.fieldLink "java/lang/String" (15 : Nat) "java/lang/String" "coder" "B") ∈ UU := tb_8 (List.mem_of_getElem? (i := 5) rfl) rfl
theorem us1_0 : Cond.selects "GapLinks" ⟨"GapLinks", "refuse", "(I)I"⟩ ⟨"GapLinks", "refuse", "(I)I"⟩ ∈ UU := pv_1 (List.mem_of_getElem? (i := 0) rfl)
theorem us1_1 : Cond.selects "GapLinks$Reader" ⟨"GapLinks$Reader", "step", "()V"⟩ ⟨"GapLinks$Reader", "step", "()V"⟩ ∈ UU := pv_1 (List.mem_of_getElem? (i := 1) rfl)
theorem us1_2 : Cond.selects "GapLinks$Reader" ⟨"GapLinks$Reader", "stepWord", "()V"⟩ ⟨"GapLinks$Reader", "stepWord", "()V"⟩ ∈ UU := pv_1 (List.mem_of_getElem? (i := 2) rfl)
theorem us1_3 : Cond.selects "GapLinks$Reader" ⟨"GapLinks$Reader", "stepWhole", "()V"⟩ ⟨"GapLinks$Reader", "stepWhole", "()V"⟩ ∈ UU := pv_1 (List.mem_of_getElem? (i := 3) rfl)
theorem us1_4 : Cond.selects "GapLinks$Reader" ⟨"GapLinks$Reader", "isWord", "(J)Z"⟩ ⟨"GapLinks$Reader", "isWord", "(J)Z"⟩ ∈ UU := pv_1 (List.mem_of_getElem? (i := 4) rfl)
theorem us1_5 : Cond.selects "GapLinks$Reader" ⟨"GapLinks$Reader", "readBus", "()V"⟩ ⟨"GapLinks$Reader", "readBus", "()V"⟩ ∈ UU := pv_1 (List.mem_of_getElem? (i := 5) rfl)
theorem us1_6 : Cond.selects "GapLinks$Reader" ⟨"GapLinks$Reader", "fail", "(I)V"⟩ ⟨"GapLinks$Reader", "fail", "(I)V"⟩ ∈ UU := pv_1 (List.mem_of_getElem? (i := 6) rfl)
theorem us1_7 : Cond.selects "GapLinks$Reader" ⟨"GapLinks$Reader", "pass", "(J)V"⟩ ⟨"GapLinks$Reader", "pass", "(J)V"⟩ ∈ UU := pv_1 (List.mem_of_getElem? (i := 7) rfl)
theorem us1_8 : Cond.selects "GapLinks$Reader" ⟨"GapLinks$Reader", "wholeWithin", "(II)I"⟩ ⟨"GapLinks$Reader", "wholeWithin", "(II)I"⟩ ∈ UU := pv_1 (List.mem_of_getElem? (i := 8) rfl)
theorem us1_9 : Cond.selects "GapLinks$Reader" ⟨"GapLinks$Reader", "checkedWhole", "(Z)I"⟩ ⟨"GapLinks$Reader", "checkedWhole", "(Z)I"⟩ ∈ UU := pv_1 (List.mem_of_getElem? (i := 9) rfl)
theorem us1_10 : Cond.selects "GapLinks$Reader" ⟨"GapLinks$Reader", "readEnd", "()V"⟩ ⟨"GapLinks$Reader", "readEnd", "()V"⟩ ∈ UU := pv_1 (List.mem_of_getElem? (i := 10) rfl)
theorem us1_11 : Cond.selects "GapLinks$Reader" ⟨"GapLinks$Reader", "beginLine", "(II)V"⟩ ⟨"GapLinks$Reader", "beginLine", "(II)V"⟩ ∈ UU := pv_1 (List.mem_of_getElem? (i := 11) rfl)
theorem us1_12 : Cond.selects "GapLinks$Reader" ⟨"GapLinks$Reader", "newName", "()J"⟩ ⟨"GapLinks$Reader", "newName", "()J"⟩ ∈ UU := pv_1 (List.mem_of_getElem? (i := 12) rfl)
theorem us1_13 : Cond.selects "GapLinks$Reader" ⟨"GapLinks$Reader", "isName", "()Z"⟩ ⟨"GapLinks$Reader", "isName", "()Z"⟩ ∈ UU := pv_1 (List.mem_of_getElem? (i := 13) rfl)
theorem us1_14 : Cond.selects "GapLinks$Reader" ⟨"GapLinks$Reader", "readLink", "()V"⟩ ⟨"GapLinks$Reader", "readLink", "()V"⟩ ∈ UU := pv_1 (List.mem_of_getElem? (i := 14) rfl)
theorem us1_15 : Cond.selects "GapLinks$Reader" ⟨"GapLinks$Reader", "knownEnd", "()I"⟩ ⟨"GapLinks$Reader", "knownEnd", "()I"⟩ ∈ UU := pv_1 (List.mem_of_getElem? (i := 15) rfl)
theorem us2_0 : Cond.selects "GapLinks$Reader" ⟨"GapLinks$Reader", "wholeGap", "()I"⟩ ⟨"GapLinks$Reader", "wholeGap", "()I"⟩ ∈ UU := pv_2 (List.mem_of_getElem? (i := 0) rfl)
theorem us2_1 : Cond.selects "GapLinks$Reader" ⟨"GapLinks$Reader", "readReceivers", "(I)V"⟩ ⟨"GapLinks$Reader", "readReceivers", "(I)V"⟩ ∈ UU := pv_2 (List.mem_of_getElem? (i := 1) rfl)
theorem us2_2 : Cond.selects "GapLinks$Ways" ⟨"GapLinks$Ways", "layOne", "(LGapLinks$Plan;II)V"⟩ ⟨"GapLinks$Ways", "layOne", "(LGapLinks$Plan;II)V"⟩ ∈ UU := pv_2 (List.mem_of_getElem? (i := 2) rfl)
theorem us2_3 : Cond.selects "GapLinks$Ways" ⟨"GapLinks$Ways", "lengthen", "(III)V"⟩ ⟨"GapLinks$Ways", "lengthen", "(III)V"⟩ ∈ UU := pv_2 (List.mem_of_getElem? (i := 3) rfl)
theorem us2_4 : Cond.selects "GapLinks$Envelope" ⟨"GapLinks$Envelope", "burstsThrough", "(LGapLinks$Plan;I)J"⟩ ⟨"GapLinks$Envelope", "burstsThrough", "(LGapLinks$Plan;I)J"⟩ ∈ UU := pv_2 (List.mem_of_getElem? (i := 4) rfl)
theorem us2_5 : Cond.selects "GapLinks$Envelope" ⟨"GapLinks$Envelope", "burstAt", "(LGapLinks$Plan;II)J"⟩ ⟨"GapLinks$Envelope", "burstAt", "(LGapLinks$Plan;II)J"⟩ ∈ UU := pv_2 (List.mem_of_getElem? (i := 5) rfl)
theorem us2_6 : Cond.selects "GapLinks" ⟨"GapLinks", "answer", "(I)I"⟩ ⟨"GapLinks", "answer", "(I)I"⟩ ∈ UU := pv_2 (List.mem_of_getElem? (i := 6) rfl)
theorem us2_7 : Cond.selects "GapLinks" ⟨"GapLinks", "noBus", "()Z"⟩ ⟨"GapLinks", "noBus", "()Z"⟩ ∈ UU := pv_2 (List.mem_of_getElem? (i := 7) rfl)
theorem us2_8 : Cond.selects "GapLinks" ⟨"GapLinks", "hasPortOnWay", "(III)Z"⟩ ⟨"GapLinks", "hasPortOnWay", "(III)Z"⟩ ∈ UU := pv_2 (List.mem_of_getElem? (i := 8) rfl)
theorem us2_9 : Cond.selects "GapLinks" ⟨"GapLinks", "part", "(JZ)J"⟩ ⟨"GapLinks", "part", "(JZ)J"⟩ ∈ UU := pv_2 (List.mem_of_getElem? (i := 9) rfl)
theorem us2_10 : Cond.selects "GapLinks$State" ⟨"GapLinks$State", "nextChange", "(LGapLinks$Plan;I)I"⟩ ⟨"GapLinks$State", "nextChange", "(LGapLinks$Plan;I)I"⟩ ∈ UU := pv_2 (List.mem_of_getElem? (i := 10) rfl)
theorem us2_11 : Cond.selects "GapLinks$State" ⟨"GapLinks$State", "growCredit", "(LGapLinks$Plan;I)V"⟩ ⟨"GapLinks$State", "growCredit", "(LGapLinks$Plan;I)V"⟩ ∈ UU := pv_2 (List.mem_of_getElem? (i := 11) rfl)
theorem us2_12 : Cond.selects "GapLinks$State" ⟨"GapLinks$State", "deliver", "(LGapLinks$Plan;)V"⟩ ⟨"GapLinks$State", "deliver", "(LGapLinks$Plan;)V"⟩ ∈ UU := pv_2 (List.mem_of_getElem? (i := 12) rfl)
theorem us2_13 : Cond.selects "GapLinks$State" ⟨"GapLinks$State", "arriveAtEnd", "(LGapLinks$Plan;II)V"⟩ ⟨"GapLinks$State", "arriveAtEnd", "(LGapLinks$Plan;II)V"⟩ ∈ UU := pv_2 (List.mem_of_getElem? (i := 13) rfl)
theorem us2_14 : Cond.selects "GapLinks$Ears" ⟨"GapLinks$Ears", "isFresh", "(LGapLinks$Plan;III)Z"⟩ ⟨"GapLinks$Ears", "isFresh", "(LGapLinks$Plan;III)Z"⟩ ∈ UU := pv_2 (List.mem_of_getElem? (i := 14) rfl)
theorem us2_15 : Cond.selects "GapLinks$Ears" ⟨"GapLinks$Ears", "take", "(IIIII)V"⟩ ⟨"GapLinks$Ears", "take", "(IIIII)V"⟩ ∈ UU := pv_2 (List.mem_of_getElem? (i := 15) rfl)
theorem us3_0 : Cond.selects "GapLinks$State" ⟨"GapLinks$State", "arriveAtSwitch", "(LGapLinks$Plan;II)V"⟩ ⟨"GapLinks$State", "arriveAtSwitch", "(LGapLinks$Plan;II)V"⟩ ∈ UU := pv_3 (List.mem_of_getElem? (i := 0) rfl)
theorem us3_1 : Cond.selects "GapLinks$State" ⟨"GapLinks$State", "paysCredit", "(LGapLinks$Plan;II)Z"⟩ ⟨"GapLinks$State", "paysCredit", "(LGapLinks$Plan;II)Z"⟩ ∈ UU := pv_3 (List.mem_of_getElem? (i := 1) rfl)
theorem us3_2 : Cond.selects "GapLinks$State" ⟨"GapLinks$State", "spread", "(LGapLinks$Plan;III)V"⟩ ⟨"GapLinks$State", "spread", "(LGapLinks$Plan;III)V"⟩ ∈ UU := pv_3 (List.mem_of_getElem? (i := 2) rfl)
theorem us3_3 : Cond.selects "GapLinks$State" ⟨"GapLinks$State", "release", "(LGapLinks$Plan;)V"⟩ ⟨"GapLinks$State", "release", "(LGapLinks$Plan;)V"⟩ ∈ UU := pv_3 (List.mem_of_getElem? (i := 3) rfl)
theorem us3_4 : Cond.selects "GapLinks$State" ⟨"GapLinks$State", "beginSending", "(LGapLinks$Plan;)V"⟩ ⟨"GapLinks$State", "beginSending", "(LGapLinks$Plan;)V"⟩ ∈ UU := pv_3 (List.mem_of_getElem? (i := 4) rfl)
theorem us3_5 : Cond.selects "java/lang/Throwable" ⟨"java/lang/Throwable", "fillInStackTrace", "(I)Ljava/lang/Throwable;"⟩ ⟨"java/lang/Throwable", "fillInStackTrace", "(I)Ljava/lang/Throwable;"⟩ ∈ UU := pv_3 (List.mem_of_getElem? (i := 5) rfl)
theorem us3_6 : Cond.selects "GapLinksModel" ⟨"GapLinksModel", "laysWord", "(I)V"⟩ ⟨"GapLinksModel", "laysWord", "(I)V"⟩ ∈ UU := pv_3 (List.mem_of_getElem? (i := 6) rfl)
theorem us3_7 : Cond.selects "GapLinksModel" ⟨"GapLinksModel", "fresh", "()V"⟩ ⟨"GapLinksModel", "fresh", "()V"⟩ ∈ UU := pv_3 (List.mem_of_getElem? (i := 7) rfl)
theorem us3_8 : Cond.selects "GapLinksModel" ⟨"GapLinksModel", "no", "(I)I"⟩ ⟨"GapLinksModel", "no", "(I)I"⟩ ∈ UU := pv_3 (List.mem_of_getElem? (i := 8) rfl)
theorem us3_9 : Cond.selects "GapLinksModel" ⟨"GapLinksModel", "readAll", "(I)I"⟩ ⟨"GapLinksModel", "readAll", "(I)I"⟩ ∈ UU := pv_3 (List.mem_of_getElem? (i := 9) rfl)
theorem us3_10 : Cond.selects "GapLinksModel" ⟨"GapLinksModel", "goesOn", "()V"⟩ ⟨"GapLinksModel", "goesOn", "()V"⟩ ∈ UU := pv_3 (List.mem_of_getElem? (i := 10) rfl)
theorem us3_11 : Cond.selects "GapLinksModel" ⟨"GapLinksModel", "see", "(I)I"⟩ ⟨"GapLinksModel", "see", "(I)I"⟩ ∈ UU := pv_3 (List.mem_of_getElem? (i := 11) rfl)
theorem us3_12 : Cond.selects "GapLinksModel" ⟨"GapLinksModel", "readsWord", "()V"⟩ ⟨"GapLinksModel", "readsWord", "()V"⟩ ∈ UU := pv_3 (List.mem_of_getElem? (i := 12) rfl)
theorem us3_13 : Cond.selects "GapLinksModel" ⟨"GapLinksModel", "readLine", "()I"⟩ ⟨"GapLinksModel", "readLine", "()I"⟩ ∈ UU := pv_3 (List.mem_of_getElem? (i := 13) rfl)
theorem us3_14 : Cond.selects "GapLinksModel" ⟨"GapLinksModel", "isWord", "(Ljava/lang/String;)Z"⟩ ⟨"GapLinksModel", "isWord", "(Ljava/lang/String;)Z"⟩ ∈ UU := pv_3 (List.mem_of_getElem? (i := 14) rfl)
theorem us3_15 : Cond.selects "GapLinksModel" ⟨"GapLinksModel", "readBus", "()I"⟩ ⟨"GapLinksModel", "readBus", "()I"⟩ ∈ UU := pv_3 (List.mem_of_getElem? (i := 15) rfl)
theorem us4_0 : Cond.selects "GapLinksModel" ⟨"GapLinksModel", "errs", "(I)I"⟩ ⟨"GapLinksModel", "errs", "(I)I"⟩ ∈ UU := pv_4 (List.mem_of_getElem? (i := 0) rfl)
theorem us4_1 : Cond.selects "GapLinksModel" ⟨"GapLinksModel", "after", "(Ljava/lang/String;II)I"⟩ ⟨"GapLinksModel", "after", "(Ljava/lang/String;II)I"⟩ ∈ UU := pv_4 (List.mem_of_getElem? (i := 1) rfl)
theorem us4_2 : Cond.selects "GapLinksModel" ⟨"GapLinksModel", "passes", "(II)I"⟩ ⟨"GapLinksModel", "passes", "(II)I"⟩ ∈ UU := pv_4 (List.mem_of_getElem? (i := 2) rfl)
theorem us4_3 : Cond.selects "GapLinksModel" ⟨"GapLinksModel", "readEnd", "()I"⟩ ⟨"GapLinksModel", "readEnd", "()I"⟩ ∈ UU := pv_4 (List.mem_of_getElem? (i := 3) rfl)
theorem us4_4 : Cond.selects "GapLinksModel" ⟨"GapLinksModel", "newName", "(I)I"⟩ ⟨"GapLinksModel", "newName", "(I)I"⟩ ∈ UU := pv_4 (List.mem_of_getElem? (i := 4) rfl)
theorem us4_5 : Cond.selects "GapLinksModel" ⟨"GapLinksModel", "isName", "()Z"⟩ ⟨"GapLinksModel", "isName", "()Z"⟩ ∈ UU := pv_4 (List.mem_of_getElem? (i := 5) rfl)
theorem us4_6 : Cond.selects "GapLinksModel" ⟨"GapLinksModel", "told", "()I"⟩ ⟨"GapLinksModel", "told", "()I"⟩ ∈ UU := pv_4 (List.mem_of_getElem? (i := 6) rfl)
theorem us4_7 : Cond.selects "GapLinksModel" ⟨"GapLinksModel", "readLink", "()I"⟩ ⟨"GapLinksModel", "readLink", "()I"⟩ ∈ UU := pv_4 (List.mem_of_getElem? (i := 7) rfl)
theorem us4_8 : Cond.selects "GapLinksModel" ⟨"GapLinksModel", "endHere", "()I"⟩ ⟨"GapLinksModel", "endHere", "()I"⟩ ∈ UU := pv_4 (List.mem_of_getElem? (i := 8) rfl)
theorem us4_9 : Cond.selects "GapLinksModel" ⟨"GapLinksModel", "readGap", "()I"⟩ ⟨"GapLinksModel", "readGap", "()I"⟩ ∈ UU := pv_4 (List.mem_of_getElem? (i := 9) rfl)
theorem us4_10 : Cond.selects "GapLinksModel" ⟨"GapLinksModel", "readReceiver", "(I)I"⟩ ⟨"GapLinksModel", "readReceiver", "(I)I"⟩ ∈ UU := pv_4 (List.mem_of_getElem? (i := 10) rfl)
theorem us4_11 : Cond.selects "GapLinksModel" ⟨"GapLinksModel", "isHeard", "(II)Z"⟩ ⟨"GapLinksModel", "isHeard", "(II)Z"⟩ ∈ UU := pv_4 (List.mem_of_getElem? (i := 11) rfl)
theorem us4_12 : Cond.selects "GapLinksModel" ⟨"GapLinksModel", "begins", "()V"⟩ ⟨"GapLinksModel", "begins", "()V"⟩ ∈ UU := pv_4 (List.mem_of_getElem? (i := 12) rfl)
theorem us4_13 : Cond.selects "GapLinksModel" ⟨"GapLinksModel", "mostCredit", "(I)I"⟩ ⟨"GapLinksModel", "mostCredit", "(I)I"⟩ ∈ UU := pv_4 (List.mem_of_getElem? (i := 13) rfl)
theorem us4_14 : Cond.selects "GapLinksModel" ⟨"GapLinksModel", "linkOf", "(II)I"⟩ ⟨"GapLinksModel", "linkOf", "(II)I"⟩ ∈ UU := pv_4 (List.mem_of_getElem? (i := 14) rfl)
theorem us4_15 : Cond.selects "GapLinksModel" ⟨"GapLinksModel", "isEnd", "(I)Z"⟩ ⟨"GapLinksModel", "isEnd", "(I)Z"⟩ ∈ UU := pv_4 (List.mem_of_getElem? (i := 15) rfl)
theorem us5_0 : Cond.selects "GapLinksModel" ⟨"GapLinksModel", "isLink", "(I)Z"⟩ ⟨"GapLinksModel", "isLink", "(I)Z"⟩ ∈ UU := pv_5 (List.mem_of_getElem? (i := 0) rfl)
theorem us5_1 : Cond.selects "GapLinksModel" ⟨"GapLinksModel", "isReceiver", "(III)Z"⟩ ⟨"GapLinksModel", "isReceiver", "(III)Z"⟩ ∈ UU := pv_5 (List.mem_of_getElem? (i := 1) rfl)
theorem us5_2 : Cond.selects "GapLinksModel" ⟨"GapLinksModel", "receiverOf", "(II)I"⟩ ⟨"GapLinksModel", "receiverOf", "(II)I"⟩ ∈ UU := pv_5 (List.mem_of_getElem? (i := 2) rfl)
theorem us5_3 : Cond.selects "GapLinksModel" ⟨"GapLinksModel", "wayLong", "(II)I"⟩ ⟨"GapLinksModel", "wayLong", "(II)I"⟩ ∈ UU := pv_5 (List.mem_of_getElem? (i := 3) rfl)
theorem us5_4 : Cond.selects "GapLinksModel" ⟨"GapLinksModel", "wayOf", "(III)I"⟩ ⟨"GapLinksModel", "wayOf", "(III)I"⟩ ∈ UU := pv_5 (List.mem_of_getElem? (i := 4) rfl)
theorem us5_5 : Cond.selects "GapLinksModel" ⟨"GapLinksModel", "isPort", "(I)Z"⟩ ⟨"GapLinksModel", "isPort", "(I)Z"⟩ ∈ UU := pv_5 (List.mem_of_getElem? (i := 5) rfl)
theorem us5_6 : Cond.selects "GapLinksModel" ⟨"GapLinksModel", "isLoss", "(II)Z"⟩ ⟨"GapLinksModel", "isLoss", "(II)Z"⟩ ∈ UU := pv_5 (List.mem_of_getElem? (i := 6) rfl)
theorem us5_7 : Cond.selects "GapLinksModel" ⟨"GapLinksModel", "loadOf", "(I)J"⟩ ⟨"GapLinksModel", "loadOf", "(I)J"⟩ ∈ UU := pv_5 (List.mem_of_getElem? (i := 7) rfl)
theorem us5_8 : Cond.selects "GapLinksModel" ⟨"GapLinksModel", "goesThrough", "(II)Z"⟩ ⟨"GapLinksModel", "goesThrough", "(II)Z"⟩ ∈ UU := pv_5 (List.mem_of_getElem? (i := 8) rfl)
theorem us5_9 : Cond.selects "GapLinksModel" ⟨"GapLinksModel", "rateOf", "(I)J"⟩ ⟨"GapLinksModel", "rateOf", "(I)J"⟩ ∈ UU := pv_5 (List.mem_of_getElem? (i := 9) rfl)
theorem us5_10 : Cond.selects "GapLinksModel" ⟨"GapLinksModel", "isBorne", "()Z"⟩ ⟨"GapLinksModel", "isBorne", "()Z"⟩ ∈ UU := pv_5 (List.mem_of_getElem? (i := 10) rfl)
theorem us5_11 : Cond.selects "GapLinksModel" ⟨"GapLinksModel", "delayOf", "(I)J"⟩ ⟨"GapLinksModel", "delayOf", "(I)J"⟩ ∈ UU := pv_5 (List.mem_of_getElem? (i := 11) rfl)
theorem us5_12 : Cond.selects "GapLinksModel" ⟨"GapLinksModel", "burstOf", "(II)J"⟩ ⟨"GapLinksModel", "burstOf", "(II)J"⟩ ∈ UU := pv_5 (List.mem_of_getElem? (i := 12) rfl)
theorem us5_13 : Cond.selects "GapLinksModel" ⟨"GapLinksModel", "portAhead", "(II)I"⟩ ⟨"GapLinksModel", "portAhead", "(II)I"⟩ ∈ UU := pv_5 (List.mem_of_getElem? (i := 13) rfl)
theorem us5_14 : Cond.selects "GapLinksModel" ⟨"GapLinksModel", "boundOf", "(II)J"⟩ ⟨"GapLinksModel", "boundOf", "(II)J"⟩ ∈ UU := pv_5 (List.mem_of_getElem? (i := 14) rfl)
theorem us5_15 : Cond.selects "GapLinksModel" ⟨"GapLinksModel", "isBorn", "(I)I"⟩ ⟨"GapLinksModel", "isBorn", "(I)I"⟩ ∈ UU := pv_5 (List.mem_of_getElem? (i := 15) rfl)
theorem us6_0 : Cond.selects "GapLinksModel" ⟨"GapLinksModel", "comes", "(IIIII)Z"⟩ ⟨"GapLinksModel", "comes", "(IIIII)Z"⟩ ∈ UU := pv_6 (List.mem_of_getElem? (i := 0) rfl)
theorem us6_1 : Cond.selects "GapLinksModel" ⟨"GapLinksModel", "goes", "(I)V"⟩ ⟨"GapLinksModel", "goes", "(I)V"⟩ ∈ UU := pv_6 (List.mem_of_getElem? (i := 1) rfl)
theorem us6_2 : Cond.selects "GapLinksModel" ⟨"GapLinksModel", "goesTick", "()V"⟩ ⟨"GapLinksModel", "goesTick", "()V"⟩ ∈ UU := pv_6 (List.mem_of_getElem? (i := 2) rfl)
theorem us6_3 : Cond.selects "GapLinksModel" ⟨"GapLinksModel", "leaves", "(II)V"⟩ ⟨"GapLinksModel", "leaves", "(II)V"⟩ ∈ UU := pv_6 (List.mem_of_getElem? (i := 3) rfl)
theorem us6_4 : Cond.selects "GapLinksModel" ⟨"GapLinksModel", "arrivesAtEnd", "(IIIII)V"⟩ ⟨"GapLinksModel", "arrivesAtEnd", "(IIIII)V"⟩ ∈ UU := pv_6 (List.mem_of_getElem? (i := 4) rfl)
theorem us6_5 : Cond.selects "GapLinksModel" ⟨"GapLinksModel", "isWhole", "(III)Z"⟩ ⟨"GapLinksModel", "isWhole", "(III)Z"⟩ ∈ UU := pv_6 (List.mem_of_getElem? (i := 5) rfl)
theorem us6_6 : Cond.selects "GapLinksModel" ⟨"GapLinksModel", "isTaken", "(II)Z"⟩ ⟨"GapLinksModel", "isTaken", "(II)Z"⟩ ∈ UU := pv_6 (List.mem_of_getElem? (i := 6) rfl)
theorem us6_7 : Cond.selects "GapLinksModel" ⟨"GapLinksModel", "takes", "(IIII)V"⟩ ⟨"GapLinksModel", "takes", "(IIII)V"⟩ ∈ UU := pv_6 (List.mem_of_getElem? (i := 7) rfl)
theorem us6_8 : Cond.selects "GapLinksModel" ⟨"GapLinksModel", "arrivesAtSwitch", "(IIIII)V"⟩ ⟨"GapLinksModel", "arrivesAtSwitch", "(IIIII)V"⟩ ∈ UU := pv_6 (List.mem_of_getElem? (i := 8) rfl)
theorem us6_9 : Cond.selects "GapLinksModel" ⟨"GapLinksModel", "switchBehind", "(I)I"⟩ ⟨"GapLinksModel", "switchBehind", "(I)I"⟩ ∈ UU := pv_6 (List.mem_of_getElem? (i := 9) rfl)
theorem us6_10 : Cond.selects "GapLinksModel" ⟨"GapLinksModel", "liesBehind", "(III)Z"⟩ ⟨"GapLinksModel", "liesBehind", "(III)Z"⟩ ∈ UU := pv_6 (List.mem_of_getElem? (i := 10) rfl)
theorem us6_11 : Cond.selects "GapLinksModel" ⟨"GapLinksModel", "sends", "(II)V"⟩ ⟨"GapLinksModel", "sends", "(II)V"⟩ ∈ UU := pv_6 (List.mem_of_getElem? (i := 11) rfl)
theorem us6_12 : Cond.selects "GapLinksModel" ⟨"GapLinksModel", "laysAside", "()V"⟩ ⟨"GapLinksModel", "laysAside", "()V"⟩ ∈ UU := pv_6 (List.mem_of_getElem? (i := 12) rfl)
theorem us6_13 : Cond.selects "GapLinksModel" ⟨"GapLinksModel", "takesBack", "()V"⟩ ⟨"GapLinksModel", "takesBack", "()V"⟩ ∈ UU := pv_6 (List.mem_of_getElem? (i := 13) rfl)
theorem us6_14 : Cond.selects "GapLinksModel" ⟨"GapLinksModel", "waitingMany", "()I"⟩ ⟨"GapLinksModel", "waitingMany", "()I"⟩ ∈ UU := pv_6 (List.mem_of_getElem? (i := 14) rfl)
theorem us6_15 : Cond.selects "GapLinksModel" ⟨"GapLinksModel", "frameMany", "()I"⟩ ⟨"GapLinksModel", "frameMany", "()I"⟩ ∈ UU := pv_6 (List.mem_of_getElem? (i := 15) rfl)
theorem us7_0 : Cond.selects "GapLinksModel" ⟨"GapLinksModel", "isSilent", "(I)Z"⟩ ⟨"GapLinksModel", "isSilent", "(I)Z"⟩ ∈ UU := pv_7 (List.mem_of_getElem? (i := 0) rfl)
theorem us7_1 : Cond.selects "GapLinksModel" ⟨"GapLinksModel", "receiverMany", "()I"⟩ ⟨"GapLinksModel", "receiverMany", "()I"⟩ ∈ UU := pv_7 (List.mem_of_getElem? (i := 1) rfl)
end
section
abbrev Hp : Type := (Nat → Nat → Nat → Int32) × (Nat → Nat → Nat → Int64) × (Nat → Nat)
abbrev Gm : Type := va_G × (Nat → Nat → Nat) × (ClassId × ClassId × ClassId) × Nat × (Nat → Nat) × (Nat → Nat)
def cntL : List Nat := [3, 1, 2, 3, 1, 3, 2, 1, 1, 3, 3, 3, 3, 3, 3, 3, 3, 3, 3, 1, 1, 1, 2, 2, 2, 2, 2, 2, 2, 2, 3, 3, 3, 3, 3, 3, 3, 1, 3, 3, 3, 3, 3, 3, 3, 3, 3, 2, 2, 2, 2, 2, 1, 1, 1, 1, 1, 1, 1, 1, 1, 1, 1, 1, 1]
def akdL : List Nat := [0, 0, 0, 0, 0, 0, 0, 0, 0, 1, 1, 1, 1, 1, 1, 1, 1, 1, 1, 1, 2, 2, 1, 2, 2, 1, 1, 1, 1, 1, 1, 1, 1, 1, 1, 1, 1, 3, 1, 1, 1, 1, 1, 1, 1, 1, 1, 1, 1, 1, 1, 1, 1, 1, 1, 1, 1, 1, 1, 2, 2, 1, 1, 1, 2]
def alnL : List Nat := [0, 0, 0, 0, 0, 0, 0, 0, 0, 24, 24, 24, 24, 24, 24, 24, 24, 48, 240, 16, 16, 128, 6, 6, 8, 8, 8, 8, 8, 24, 32, 32, 32, 32, 384, 384, 384, 900, 2, 6, 8, 8, 8, 8, 8, 16, 16, 96, 24, 16, 128, 128, 900, 7, 7, 6, 6, 56, 56, 14, 14, 1809, 1809, 1809, 1]
def cnt (n : Nat) : Nat := cntL.getD n 0
def akd (n : Nat) : Nat := akdL.getD n 0
def aln (n : Nat) : Nat := alnL.getD n 0
def fsp : Nat → List (Nat × Nat × Nat × Nat) := fun n => match n with
  | 0 => [(0, 0, 0, 0), (1, 2, 9, 0), (2, 2, 10, 0), (3, 2, 11, 0), (4, 2, 12, 0), (5, 2, 13, 0), (6, 2, 14, 0), (7, 2, 15, 0), (8, 2, 16, 0), (9, 2, 17, 0), (10, 2, 18, 0)]
  | 1 => [(0, 0, 0, 0), (1, 2, 19, 0), (2, 2, 20, 0), (3, 2, 21, 0)]
  | 2 => [(0, 0, 0, 0), (1, 0, 0, 0), (2, 0, 0, 0), (3, 0, 0, 0), (4, 0, 0, 0), (5, 0, 0, 0), (6, 0, 0, 0), (7, 2, 22, 0), (8, 2, 23, 0), (9, 2, 24, 0), (10, 2, 25, 0), (11, 2, 26, 0), (12, 2, 27, 0), (13, 2, 28, 0), (14, 2, 29, 0), (15, 2, 6, 0)]
  | 3 => [(0, 0, 0, 0), (1, 2, 30, 0), (2, 2, 31, 0), (3, 2, 32, 0), (4, 2, 33, 0), (5, 2, 34, 0), (6, 2, 35, 0), (7, 2, 36, 0)]
  | 4 => [(0, 2, 37, 0), (1, 0, 0, 0), (2, 3, 2, 1), (3, 0, 0, 0), (4, 0, 0, 0), (5, 0, 0, 0), (6, 0, 0, 0), (7, 1, 0, 0), (8, 0, 0, 0), (9, 0, 0, 0), (10, 0, 0, 0), (11, 0, 0, 0)]
  | 5 => [(0, 0, 0, 0), (1, 2, 38, 0), (2, 2, 39, 0), (3, 2, 40, 0), (4, 2, 41, 0), (5, 2, 42, 0), (6, 2, 43, 0), (7, 2, 44, 0), (8, 2, 45, 0), (9, 2, 46, 0), (10, 2, 3, 0), (11, 2, 0, 0)]
  | 6 => [(0, 2, 47, 0), (1, 2, 48, 0), (2, 2, 49, 0), (3, 2, 50, 0), (4, 2, 51, 0)]
  | 7 => [(0, 2, 4, 0), (1, 3, 2, 0), (2, 2, 1, 0), (3, 2, 5, 1), (4, 2, 5, 2), (5, 2, 5, 3), (6, 0, 0, 0), (7, 0, 0, 0), (8, 0, 0, 0), (9, 0, 0, 0)]
  | 8 => [(0, 0, 0, 0), (1, 0, 0, 0), (2, 0, 0, 0), (3, 0, 0, 0), (4, 2, 52, 0), (5, 0, 0, 0), (6, 2, 53, 0), (7, 2, 54, 0), (8, 2, 55, 0), (9, 2, 56, 0), (10, 2, 57, 0), (11, 2, 58, 0), (12, 2, 59, 0), (13, 2, 60, 0), (14, 0, 0, 0), (15, 0, 0, 0), (16, 0, 0, 0), (17, 0, 0, 0), (18, 0, 0, 0), (19, 0, 0, 0), (20, 1, 0, 0), (21, 0, 0, 0), (22, 0, 0, 0), (23, 0, 0, 0), (24, 2, 61, 0), (25, 2, 62, 0), (26, 2, 63, 0), (27, 0, 0, 0), (28, 0, 0, 0)]
  | _ => []
def dom : List (Nat × Nat) := [(0, 0), (0, 1), (0, 2), (1, 0), (2, 0), (2, 1), (3, 0), (3, 1), (3, 2), (4, 0), (5, 0), (5, 1), (5, 2), (6, 0), (6, 1), (7, 0), (8, 0), (9, 0), (9, 1), (9, 2), (10, 0), (10, 1), (10, 2), (11, 0), (11, 1), (11, 2), (12, 0), (12, 1), (12, 2), (13, 0), (13, 1), (13, 2), (14, 0), (14, 1), (14, 2), (15, 0), (15, 1), (15, 2), (16, 0), (16, 1), (16, 2), (17, 0), (17, 1), (17, 2), (18, 0), (18, 1), (18, 2), (19, 0), (20, 0), (21, 0), (22, 0), (22, 1), (23, 0), (23, 1), (24, 0), (24, 1), (25, 0), (25, 1), (26, 0), (26, 1), (27, 0), (27, 1), (28, 0), (28, 1), (29, 0), (29, 1), (30, 0), (30, 1), (30, 2), (31, 0), (31, 1), (31, 2), (32, 0), (32, 1), (32, 2), (33, 0), (33, 1), (33, 2), (34, 0), (34, 1), (34, 2), (35, 0), (35, 1), (35, 2), (36, 0), (36, 1), (36, 2), (37, 0), (38, 0), (38, 1), (38, 2), (39, 0), (39, 1), (39, 2), (40, 0), (40, 1), (40, 2), (41, 0), (41, 1), (41, 2), (42, 0), (42, 1), (42, 2), (43, 0), (43, 1), (43, 2), (44, 0), (44, 1), (44, 2), (45, 0), (45, 1), (45, 2), (46, 0), (46, 1), (46, 2), (47, 0), (47, 1), (48, 0), (48, 1), (49, 0), (49, 1), (50, 0), (50, 1), (51, 0), (51, 1), (52, 0), (53, 0), (54, 0), (55, 0), (56, 0), (57, 0), (58, 0), (59, 0), (60, 0), (61, 0), (62, 0), (63, 0), (64, 0)]
def nestL : List (String × Nat × MethodName × String) := [("GapLinks", 11, ⟨"GapLinks$Reader", "<init>", "()V"⟩, "GapLinks"), ("GapLinks$Reader", 21, ⟨"GapLinks$Plan", "<init>", "()V"⟩, "GapLinks"), ("GapLinks$Plan", 61, ⟨"GapLinks$Ways", "<init>", "()V"⟩, "GapLinks"), ("GapLinks", 18, ⟨"GapLinks$Plan", "<init>", "()V"⟩, "GapLinks"), ("GapLinks", 25, ⟨"GapLinks$Envelope", "<init>", "()V"⟩, "GapLinks"), ("GapLinks", 32, ⟨"GapLinks$State", "<init>", "()V"⟩, "GapLinks"), ("GapLinks$State", 45, ⟨"GapLinks$Ports", "<init>", "()V"⟩, "GapLinks"), ("GapLinks$State", 52, ⟨"GapLinks$Ears", "<init>", "()V"⟩, "GapLinks"), ("GapLinks$Plan", 73, ⟨"GapLinks", "earOf", "(II)I"⟩, "GapLinks"), ("GapLinks$Reader", 185, ⟨"GapLinks", "earOf", "(II)I"⟩, "GapLinks"), ("GapLinks$Ways", 42, ⟨"GapLinks", "earOf", "(II)I"⟩, "GapLinks"), ("GapLinks$State", 198, ⟨"GapLinks", "numberBehind", "(I)I"⟩, "GapLinks"), ("GapLinks$Ears", 80, ⟨"GapLinks", "numberBehind", "(I)I"⟩, "GapLinks"), ("GapLinks$State", 76, ⟨"GapLinks", "copyAll", "([I[I)V"⟩, "GapLinks"), ("GapLinks$Ports", 43, ⟨"GapLinks", "copyAll", "([I[I)V"⟩, "GapLinks"), ("GapLinks$Ears", 52, ⟨"GapLinks", "copyAll", "([I[I)V"⟩, "GapLinks"), ("GapLinks$Ears", 65, ⟨"GapLinks", "earOf", "(II)I"⟩, "GapLinks")]
def strL : List (Nat × String) := [(128, "bus"), (145, "switches"), (151, "room"), (153, "jitter"), (155, "window"), (157, "skew"), (130, "end"), (132, "link"), (162, "at"), (177, "from"), (164, "gap"), (182, "length"), (183, "to")]
def slen : List Nat := [3, 8, 4, 6, 6, 4, 3, 4, 2, 4, 3, 6, 2]
def sbyt : List (List Int32) := [[98, 117, 115], [115, 119, 105, 116, 99, 104, 101, 115], [114, 111, 111, 109], [106, 105, 116, 116, 101, 114], [119, 105, 110, 100, 111, 119], [115, 107, 101, 119], [101, 110, 100], [108, 105, 110, 107], [97, 116], [102, 114, 111, 109], [103, 97, 112], [108, 101, 110, 103, 116, 104], [116, 111]]
def dsv : List Int32 := [12, 13, 15, 14, 6, 7, 8, 9, 10, 11]
def gD (g : Gm) : va_G := g.1
def gad (g : Gm) : Nat → Nat → Nat := g.2.1
def gBc (g : Gm) : ClassId := g.2.2.1.1
def gIc (g : Gm) : ClassId := g.2.2.1.2.1
def gJc (g : Gm) : ClassId := g.2.2.1.2.2
def gT (g : Gm) : Nat := g.2.2.2.1
def gK (g : Gm) : Nat → Nat := g.2.2.2.2.1
def gV (g : Gm) : Nat → Nat := g.2.2.2.2.2
def ctys (g : Gm) : List (ClassId × FieldType) := [(gBc g, .byte), (gIc g, .int), (gJc g, .long)]
/-- the cells of the logical heap lie apart -/
def GI (g : Gm) : Prop := ∀ n i a b, i < cnt n → b < cnt a → gad g n i = gad g a b → n = a ∧ i = b
def gA (g : Gm) : Nat → Prop := fun q => ∃ n i, i < cnt n ∧ q = gad g n i
def gI (σ : Hp) (n i k : Nat) : Int32 := σ.1 n i k
def gL (σ : Hp) (n i k : Nat) : Int64 := σ.2.1 n i k
def gR (σ : Hp) (r : Nat) : Nat := σ.2.2 r
def sI (σ : Hp) (n i k : Nat) (v : Int32) : Hp := (fun a b c => if a = n ∧ b = i ∧ c = k then v else σ.1 a b c, σ.2)
def sL (σ : Hp) (n i k : Nat) (v : Int64) : Hp := (σ.1, fun a b c => if a = n ∧ b = i ∧ c = k then v else σ.2.1 a b c, σ.2.2)
def sR (σ : Hp) (r : Nat) (v : Nat) : Hp := (σ.1, σ.2.1, fun q => if q = r then v else σ.2.2 q)
def fval (g : Gm) (fi : Nat → Int32) (fl : Nat → Int64) (fr : Nat → Nat) (i : Nat) (q : Nat × Nat × Nat × Nat) : Value := match q.2.1 with
  | 0 => .int (fi q.1)
  | 1 => .long (fl q.1)
  | 2 => .ref (gad g q.2.2.1 (if q.2.2.2 = 0 then i else q.2.2.2 - 1))
  | _ => .ref (gad g q.2.2.1 (fr q.2.2.2))
def fsO (g : Gm) (fi : Nat → Int32) (fl : Nat → Int64) (fr : Nat → Nat) (n i : Nat) : List Value := (fsp n).map (fval g fi fl fr i)
def cell0 (g : Gm) (fi : Nat → Int32) (fl : Nat → Int64) (fr : Nat → Nat) (n i : Nat) : va_E := match akd n with
  | 0 => .inr (n, fsO g fi fl fr n i)
  | 1 => .inl (gIc g, aln n, .inl fi)
  | 2 => .inl (gJc g, aln n, .inr (.inl fl))
  | _ => .inl (gBc g, aln n, .inl fi)
def fsOf (g : Gm) (σ : Hp) (n i : Nat) : List Value := fsO g (σ.1 n i) (σ.2.1 n i) σ.2.2 n i
def cell (g : Gm) (σ : Hp) (n i : Nat) : va_E := cell0 g (σ.1 n i) (σ.2.1 n i) σ.2.2 n i
def WS (g : Gm) (σ : Hp) : va_W := dom.map (fun q => (gad g q.1 q.2, cell g σ q.1 q.2))
theorem dom_nd : dom.Nodup := by decide +kernel
theorem dom_cnt : ∀ q ∈ dom, q.2 < cnt q.1 := by decide +kernel
theorem dom_allB : ((List.range 65).all fun n => (List.range 3).all fun i => !(decide (i < cnt n)) || dom.contains (n, i)) = true := by decide +kernel
theorem dom_all (n : Nat) (hn : n < 65) (i : Nat) (hi : i < 3) (h : i < cnt n) : (n, i) ∈ dom := by
  have h1 := List.all_eq_true.mp (List.all_eq_true.mp dom_allB n (List.mem_range.mpr hn)) i (List.mem_range.mpr hi)
  simp only [Bool.or_eq_true, Bool.not_eq_true', decide_eq_false_iff_not, List.contains_iff_mem] at h1
  exact h1.resolve_left (fun q => q h)
theorem cnt_le3 : ∀ n, n < 65 → cnt n ≤ 3 := by decide +kernel
theorem cnt_big {n : Nat} (h : 65 ≤ n) : cnt n = 0 := by
  unfold cnt
  rw [List.getD_eq_getElem?_getD, List.getElem?_eq_none (by exact h)]
  rfl
theorem in_dom {n i : Nat} (h : i < cnt n) : (n, i) ∈ dom := by
  rcases Nat.lt_or_ge n 65 with q | q
  · exact dom_all n q i (Nat.lt_of_lt_of_le h (cnt_le3 n q)) h
  · rw [cnt_big q] at h
    exact absurd h (Nat.not_lt_zero _)
theorem WS_at (g : Gm) (σ : Hp) {n i : Nat} (h : i < cnt n) : ∃ k : Nat, dom[k]? = some (n, i) ∧ (WS g σ)[k]? = some (gad g n i, cell g σ n i) := by
  obtain ⟨k, hk⟩ := List.getElem?_of_mem (in_dom h)
  exact ⟨k, hk, by rw [WS, List.getElem?_map, hk]; rfl⟩
theorem WS_of (g : Gm) (σ : Hp) {k : Nat} {q : Nat × va_E} (h : (WS g σ)[k]? = some q) : ∃ n i, dom[k]? = some (n, i) ∧ i < cnt n ∧ q = (gad g n i, cell g σ n i) := by
  rw [WS, List.getElem?_map] at h
  cases hd : dom[k]? with
  | none => rw [hd] at h; cases h
  | some p =>
    rw [hd] at h
    obtain ⟨n, i⟩ := p
    exact ⟨n, i, rfl, dom_cnt _ (List.mem_of_getElem? hd), (Option.some.inj h).symm⟩
theorem WS_D {g : Gm} (hg : GI g) (σ : Hp) : va_D (gA g) (WS g σ) := by
  refine ⟨fun i j p q hi hj hpq => ?_, fun k q hk => ?_⟩
  · obtain ⟨n, a, h1, h2, rfl⟩ := WS_of g σ hi
    obtain ⟨n', a', h1', h2', rfl⟩ := WS_of g σ hj
    obtain ⟨rfl, rfl⟩ := hg _ _ _ _ h2 h2' hpq
    have hli : i < dom.length := (List.getElem?_eq_some_iff.mp h1).1
    exact (List.getElem?_inj hli dom_nd).mp (h1.trans h1'.symm)
  · obtain ⟨n, a, -, h2, rfl⟩ := WS_of g σ hk
    exact ⟨n, a, h2, rfl⟩
theorem WS_set {g : Gm} {σ σ' : Hp} {n i k : Nat} {e : va_E} {H : Heap} {D : va_G} {cl : List vw_C} (hd : dom[k]? = some (n, i)) (hP : va_P D cl ((WS g σ).set k (gad g n i, e)) H) (he : cell g σ' n i = e) (ho : ∀ a b, b < cnt a → ¬ (a = n ∧ b = i) → cell g σ' a b = cell g σ a b) : va_P D cl (WS g σ') H := by
  intro j q hj
  obtain ⟨a, b, h1, h2, rfl⟩ := WS_of g σ' hj
  have hlk : k < (WS g σ).length := by rw [WS, List.length_map]; exact (List.getElem?_eq_some_iff.mp hd).1
  by_cases hab : a = n ∧ b = i
  · obtain ⟨rfl, rfl⟩ := hab
    have := hP k (gad g a b, e) (by rw [List.getElem?_set_self hlk])
    rw [he]
    exact this
  · have hjk : k ≠ j := fun h => hab (by rw [← h, hd] at h1; exact ⟨congrArg Prod.fst (Option.some.inj h1).symm, congrArg Prod.snd (Option.some.inj h1).symm⟩)
    have := hP j (gad g a b, cell g σ a b) (by rw [List.getElem?_set_ne hjk, WS, List.getElem?_map, h1]; rfl)
    rw [ho a b h2 hab]
    exact this
theorem sI_fi {σ : Hp} {n i k a b : Nat} {v : Int32} (h : ¬ (a = n ∧ b = i)) : (sI σ n i k v).1 a b = σ.1 a b := by
  funext c
  exact if_neg (fun q => h ⟨q.1, q.2.1⟩)
theorem sL_fl {σ : Hp} {n i k a b : Nat} {v : Int64} (h : ¬ (a = n ∧ b = i)) : (sL σ n i k v).2.1 a b = σ.2.1 a b := by
  funext c
  exact if_neg (fun q => h ⟨q.1, q.2.1⟩)
theorem sI_self {σ : Hp} {n i k : Nat} {v : Int32} : (sI σ n i k v).1 n i = upd (σ.1 n i) k v := by
  funext c
  by_cases h : c = k
  · subst h; simp [sI, upd]
  · simp [sI, upd, h]
theorem sL_self {σ : Hp} {n i k : Nat} {v : Int64} : (sL σ n i k v).2.1 n i = vp_updL (σ.2.1 n i) k v := by
  funext c
  by_cases h : c = k
  · subst h; simp [sL, vp_updL]
  · simp [sL, vp_updL, h]
theorem cell_sI_ne {g : Gm} {σ : Hp} {n i k a b : Nat} {v : Int32} (h : ¬ (a = n ∧ b = i)) : cell g (sI σ n i k v) a b = cell g σ a b := by
  unfold cell
  rw [sI_fi h]
  rfl
theorem cell_sL_ne {g : Gm} {σ : Hp} {n i k a b : Nat} {v : Int64} (h : ¬ (a = n ∧ b = i)) : cell g (sL σ n i k v) a b = cell g σ a b := by
  unfold cell
  rw [sL_fl h]
  rfl
theorem cell_i {g : Gm} {σ : Hp} {n i : Nat} (h : akd n = 1) : cell g σ n i = .inl (gIc g, aln n, .inl (σ.1 n i)) := by
  unfold cell cell0; rw [h]; rfl
theorem cell_l {g : Gm} {σ : Hp} {n i : Nat} (h : akd n = 2) : cell g σ n i = .inl (gJc g, aln n, .inr (.inl (σ.2.1 n i))) := by
  unfold cell cell0; rw [h]; rfl
theorem cell_b {g : Gm} {σ : Hp} {n i : Nat} (h : akd n = 3) : cell g σ n i = .inl (gBc g, aln n, .inl (σ.1 n i)) := by
  unfold cell cell0; rw [h]; rfl
theorem cell_o {g : Gm} {σ : Hp} {n i : Nat} (h : akd n = 0) : cell g σ n i = .inr (n, fsOf g σ n i) := by
  unfold cell cell0; rw [h]; rfl
/-! what stands outside the logical heap: classes, nest mates, the static row, String constants -/
def St (g : Gm) (V : State) : Prop :=
  GI g ∧ va_K (gD g) vwCl (ctys g) V ∧ (∀ q ∈ nestL, va_Nw (.methodLinkNest q.1 q.2.1 q.2.2.1 q.2.2.2) V) ∧
  (va_Z "GapLinks$Envelope" "DOWNSTREAM" "[I" (.ref (gT g)) (gA g) V V.heap ∧ va_T .int (gT g) 10 (fun j => .int (dsv.getD j 0)) (gA g) V V.heap) ∧
  (vk_S 13 slen sbyt (gK g) (gV g) (gA g) V V.heap ∧ ∀ j, j < 13 → vk_R "GapLinksModel" (strL.getD j (0, "")).1 (strL.getD j (0, "")).2 (gK g j) V) ∧
  va_Z "java/lang/String" "COMPACT_STRINGS" "Z" (.int 1) (gA g) V V.heap
theorem St.call {g : Gm} {s U : State} {H : Heap} {locs : List Loc} (h : St g s) (hS : va_S (gA g) s.heap H locs) (hU : U.heap = H) (hW : s.WarmedH U.vm) : St g U := by
  obtain ⟨h1, h2, h3, ⟨h4, h5⟩, ⟨h6, h7⟩, h8⟩ := h
  subst hU
  exact ⟨h1, va_K.moved hW.alike h2, fun q hq => (h3 q hq).warmM hW, ⟨(h4.moved hW.alike).kept hS.2.1, (h5.moved hW.alike).kept hS.2.1⟩, ⟨(h6.moved hW.alike).kept hS.2.1, fun j hj => (h7 j hj).warm hW⟩, (h8.moved hW.alike).kept hS.2.1⟩
theorem St.same {g : Gm} {u U : State} (hv : U.vm = u.vm) (hh : U.heap = u.heap) (h : St g u) : St g U := by
  obtain ⟨h1, h2, h3, ⟨h4, h5⟩, ⟨h6, h7⟩, h8⟩ := h
  have ha : u.vm.Alike U.vm := by rw [hv]; exact Vm.Alike.refl _
  exact ⟨h1, va_K.moved ha h2, fun q hq => (h3 q hq).same rfl hv.symm, ⟨by rw [hh]; exact h4.moved ha, by rw [hh]; exact h5.moved ha⟩, ⟨by rw [hh]; exact h6.moved ha, fun j hj => (h7 j hj).same hv⟩, by rw [hh]; exact h8.moved ha⟩
/-! the judgement G, contracts Ct -/
def rmH (h : Nat) : Room := { frames := h, cells := 0, slots := 0, locals := 64 * h }
def QcOf (g : Gm) (Q : Option Value → Hp → Prop) : Array Value → State → Outcome → State → Prop := fun _ st oc t => (∃ (r : Option Value) (σ : Hp), oc = .returned r ∧ Q r σ ∧ va_P (gD g) vwCl (WS g σ) t.heap) ∧ va_F (gA g) st t
def PcOf (g : Gm) (av : List Value) (σ : Hp) : Array Value → State → Prop := va_Pc av (fun V => va_P (gD g) vwCl (WS g σ) V.heap ∧ St g V)
def Ct (l : Launch) (g : Gm) (y : MethodName) (cc : ByteArray) (maxL : Nat) (ret : Option FieldType) (h : Nat) (av : List Value) (σ : Hp) (Q : Option Value → Hp → Prop) : Prop :=
  Met l y (.code y cc maxL ret :: UU) (rmH h) (PcOf g av σ) (QcOf g Q) 0 0 (gA g)
def Cx (g : Gm) (p : Program) (R : Room) (s : State) (m : MethodId) (args : Array Value) (meth : Method) (c : Code) (cc : ByteArray) (nL : Nat) (own : String) (ret : Option FieldType) (h : Nat) : Prop :=
  p.tables.exec = Jvm.exec ∧ c.code = cc ∧ c.maxLocals = nL ∧ s.vm.findClass own = some m.cls ∧ (∀ w ∈ UU, w.before args s = true) ∧ St g s ∧ meth.locks = false ∧ R = rmH h ∧ meth.sig.returnType = ret
def G (g : Gm) (p : Program) (l : Launch) (e : Env) (R : Room) (s : State) (m : MethodId) (args : Array Value) (below : List Frame) (meth : Method) (c : Code) (Q : Option Value → Hp → Prop) (nL : Nat) (pc : Nat) (lv : List (Nat × Value)) (st : List Value) (σ : Hp) : Prop :=
  ∀ (H : Heap) (locs : List Loc) (ls : Array Slot), va_P (gD g) vwCl (WS g σ) H → va_S (gA g) s.heap H locs → lv_has ls nL lv → W p l e R s m args below meth c H locs 0 0 (MQ below (QcOf g Q) args s 0 0 (gA g)) (F0 m pc ls st)
theorem Ct.of {l : Launch} {g : Gm} {y : MethodName} {cc : ByteArray} {maxL : Nat} {ret : Option FieldType} {h : Nat} {av : List Value} {σ : Hp} {Q : Option Value → Hp → Prop} (hy : plainName y.cls = true) (ha : (lg_sl av).length ≤ maxL)
    (body : ∀ p e R s m args below meth c, Cx g p R s m args meth c cc maxL y.cls ret h → G g p l e R s m args below meth c Q maxL 0 (lv_args 0 av) [] σ) : Ct l g y cc maxL ret h av σ Q := by
  refine Met.ofW (cc := cc) (maxL := maxL) (ret := ret) hy rfl ?_
  intro p e s m args below meth c s₁ B hml hv
  obtain ⟨rfl, hP, hSt⟩ := hv
  have hts := atoms_spec (ws := .code y cc maxL ret :: UU) B.pre
  have hl := lv_entry av (n := maxL) ha
  rw [lg_entry_eq]
  exact body p e (rmH h) s m _ below meth c ⟨B.exec, B.bytes, hml, findClass_of_methodNamed B.named, fun w hw => hts w (List.mem_cons_of_mem _ hw), hSt, B.notSynchronized, rfl, B.returns⟩ s.heap [] _ hP va_S.rf hl
end
section
section GRows
variable {g : Gm} {p : Program} {l : Launch} {e : Env} {R : Room} {s : State} {m : MethodId} {args : Array Value} {below : List Frame} {meth : Method} {c : Code} {Q : Option Value → Hp → Prop} {cc : ByteArray} {nL : Nat} {own : String} {ret : Option FieldType} {h pc : Nat} {lv lv' : List (Nat × Value)} {st : List Value} {σ : Hp}
theorem Cx.ex (C : Cx g p R s m args meth c cc nL own ret h) : p.tables.exec = Jvm.exec := C.1
theorem Cx.cd (C : Cx g p R s m args meth c cc nL own ret h) : c.code = cc := C.2.1
theorem Cx.ml (C : Cx g p R s m args meth c cc nL own ret h) : c.maxLocals = nL := C.2.2.1
theorem Cx.ow (C : Cx g p R s m args meth c cc nL own ret h) : s.vm.findClass own = some m.cls := C.2.2.2.1
theorem Cx.ts (C : Cx g p R s m args meth c cc nL own ret h) : ∀ w ∈ UU, w.before args s = true := C.2.2.2.2.1
theorem Cx.so (C : Cx g p R s m args meth c cc nL own ret h) : St g s := C.2.2.2.2.2.1
theorem Cx.lk (C : Cx g p R s m args meth c cc nL own ret h) : meth.locks = false := C.2.2.2.2.2.2.1
theorem Cx.rm (C : Cx g p R s m args meth c cc nL own ret h) : R = rmH h := C.2.2.2.2.2.2.2.1
theorem Cx.rt (C : Cx g p R s m args meth c cc nL own ret h) : meth.sig.returnType = ret := C.2.2.2.2.2.2.2.2
theorem r_iadd {x y : Int32} (C : Cx g p R s m args meth c cc nL own ret h) (hd : decode cc pc = .ok (.iadd, 1)) (k : G g p l e R s m args below meth c Q nL (pc + 1) lv (.int (x + y) :: st) σ) : G g p l e R s m args below meth c Q nL pc lv (.int y :: .int x :: st) σ := fun H locs ls hP hS hl => lv_iadd C.ex C.cd hd (k H locs ls hP hS hl)
theorem r_isub {x y : Int32} (C : Cx g p R s m args meth c cc nL own ret h) (hd : decode cc pc = .ok (.isub, 1)) (k : G g p l e R s m args below meth c Q nL (pc + 1) lv (.int (x - y) :: st) σ) : G g p l e R s m args below meth c Q nL pc lv (.int y :: .int x :: st) σ := fun H locs ls hP hS hl => lv_isub C.ex C.cd hd (k H locs ls hP hS hl)
theorem r_imul {x y : Int32} (C : Cx g p R s m args meth c cc nL own ret h) (hd : decode cc pc = .ok (.imul, 1)) (k : G g p l e R s m args below meth c Q nL (pc + 1) lv (.int (x * y) :: st) σ) : G g p l e R s m args below meth c Q nL pc lv (.int y :: .int x :: st) σ := fun H locs ls hP hS hl => lv_imul C.ex C.cd hd (k H locs ls hP hS hl)
theorem r_iand {x y : Int32} (C : Cx g p R s m args meth c cc nL own ret h) (hd : decode cc pc = .ok (.iand, 1)) (k : G g p l e R s m args below meth c Q nL (pc + 1) lv (.int (x &&& y) :: st) σ) : G g p l e R s m args below meth c Q nL pc lv (.int y :: .int x :: st) σ := fun H locs ls hP hS hl => lv_iand C.ex C.cd hd (k H locs ls hP hS hl)
theorem r_ior {x y : Int32} (C : Cx g p R s m args meth c cc nL own ret h) (hd : decode cc pc = .ok (.ior, 1)) (k : G g p l e R s m args below meth c Q nL (pc + 1) lv (.int (x ||| y) :: st) σ) : G g p l e R s m args below meth c Q nL pc lv (.int y :: .int x :: st) σ := fun H locs ls hP hS hl => lv_ior C.ex C.cd hd (k H locs ls hP hS hl)
theorem r_ixor {x y : Int32} (C : Cx g p R s m args meth c cc nL own ret h) (hd : decode cc pc = .ok (.ixor, 1)) (k : G g p l e R s m args below meth c Q nL (pc + 1) lv (.int (x ^^^ y) :: st) σ) : G g p l e R s m args below meth c Q nL pc lv (.int y :: .int x :: st) σ := fun H locs ls hP hS hl => lv_ixor C.ex C.cd hd (k H locs ls hP hS hl)
theorem r_ishl {x y : Int32} (C : Cx g p R s m args meth c cc nL own ret h) (hd : decode cc pc = .ok (.ishl, 1)) (k : G g p l e R s m args below meth c Q nL (pc + 1) lv (.int (x <<< (y &&& 31)) :: st) σ) : G g p l e R s m args below meth c Q nL pc lv (.int y :: .int x :: st) σ := fun H locs ls hP hS hl => lv_ishl C.ex C.cd hd (k H locs ls hP hS hl)
theorem r_ishr {x y : Int32} (C : Cx g p R s m args meth c cc nL own ret h) (hd : decode cc pc = .ok (.ishr, 1)) (k : G g p l e R s m args below meth c Q nL (pc + 1) lv (.int (x >>> (y &&& 31)) :: st) σ) : G g p l e R s m args below meth c Q nL pc lv (.int y :: .int x :: st) σ := fun H locs ls hP hS hl => lv_ishr C.ex C.cd hd (k H locs ls hP hS hl)
theorem r_iushr {x y : Int32} (C : Cx g p R s m args meth c cc nL own ret h) (hd : decode cc pc = .ok (.iushr, 1)) (k : G g p l e R s m args below meth c Q nL (pc + 1) lv (.int ((x.toUInt32 >>> (y.toUInt32 &&& Int32.toUInt32 31)).toInt32) :: st) σ) : G g p l e R s m args below meth c Q nL pc lv (.int y :: .int x :: st) σ := fun H locs ls hP hS hl => lv_iushr C.ex C.cd hd rfl (k H locs ls hP hS hl)
theorem r_idiv {x y : Int32} (C : Cx g p R s m args meth c cc nL own ret h) (hd : decode cc pc = .ok (.idiv, 1)) (hne : ¬ y = 0) (k : G g p l e R s m args below meth c Q nL (pc + 1) lv (.int (x / y) :: st) σ) : G g p l e R s m args below meth c Q nL pc lv (.int y :: .int x :: st) σ := fun H locs ls hP hS hl => lv_idiv C.ex C.cd hd hne (k H locs ls hP hS hl)
theorem r_irem {x y : Int32} (C : Cx g p R s m args meth c cc nL own ret h) (hd : decode cc pc = .ok (.irem, 1)) (hne : ¬ y = 0) (k : G g p l e R s m args below meth c Q nL (pc + 1) lv (.int (x - x / y * y) :: st) σ) : G g p l e R s m args below meth c Q nL pc lv (.int y :: .int x :: st) σ := fun H locs ls hP hS hl => lv_irem C.ex C.cd hd hne (k H locs ls hP hS hl)
theorem r_ladd {x y : Int64} (C : Cx g p R s m args meth c cc nL own ret h) (hd : decode cc pc = .ok (.ladd, 1)) (k : G g p l e R s m args below meth c Q nL (pc + 1) lv (.long (x + y) :: st) σ) : G g p l e R s m args below meth c Q nL pc lv (.long y :: .long x :: st) σ := fun H locs ls hP hS hl => lv_ladd C.ex C.cd hd (k H locs ls hP hS hl)
theorem r_lsub {x y : Int64} (C : Cx g p R s m args meth c cc nL own ret h) (hd : decode cc pc = .ok (.lsub, 1)) (k : G g p l e R s m args below meth c Q nL (pc + 1) lv (.long (x - y) :: st) σ) : G g p l e R s m args below meth c Q nL pc lv (.long y :: .long x :: st) σ := fun H locs ls hP hS hl => lv_lsub C.ex C.cd hd (k H locs ls hP hS hl)
theorem r_lmul {x y : Int64} (C : Cx g p R s m args meth c cc nL own ret h) (hd : decode cc pc = .ok (.lmul, 1)) (k : G g p l e R s m args below meth c Q nL (pc + 1) lv (.long (x * y) :: st) σ) : G g p l e R s m args below meth c Q nL pc lv (.long y :: .long x :: st) σ := fun H locs ls hP hS hl => lv_lmul C.ex C.cd hd (k H locs ls hP hS hl)
theorem r_land {x y : Int64} (C : Cx g p R s m args meth c cc nL own ret h) (hd : decode cc pc = .ok (.land, 1)) (k : G g p l e R s m args below meth c Q nL (pc + 1) lv (.long (x &&& y) :: st) σ) : G g p l e R s m args below meth c Q nL pc lv (.long y :: .long x :: st) σ := fun H locs ls hP hS hl => lv_land C.ex C.cd hd (k H locs ls hP hS hl)
theorem r_lor {x y : Int64} (C : Cx g p R s m args meth c cc nL own ret h) (hd : decode cc pc = .ok (.lor, 1)) (k : G g p l e R s m args below meth c Q nL (pc + 1) lv (.long (x ||| y) :: st) σ) : G g p l e R s m args below meth c Q nL pc lv (.long y :: .long x :: st) σ := fun H locs ls hP hS hl => lv_lor C.ex C.cd hd (k H locs ls hP hS hl)
theorem r_ldiv {x y : Int64} (C : Cx g p R s m args meth c cc nL own ret h) (hd : decode cc pc = .ok (.ldiv, 1)) (hne : ¬ y = 0) (k : G g p l e R s m args below meth c Q nL (pc + 1) lv (.long (x / y) :: st) σ) : G g p l e R s m args below meth c Q nL pc lv (.long y :: .long x :: st) σ := fun H locs ls hP hS hl => lv_ldiv C.ex C.cd hd hne (k H locs ls hP hS hl)
theorem r_lrem {x y : Int64} (C : Cx g p R s m args meth c cc nL own ret h) (hd : decode cc pc = .ok (.lrem, 1)) (hne : ¬ y = 0) (k : G g p l e R s m args below meth c Q nL (pc + 1) lv (.long (x - x / y * y) :: st) σ) : G g p l e R s m args below meth c Q nL pc lv (.long y :: .long x :: st) σ := fun H locs ls hP hS hl => lv_lrem C.ex C.cd hd hne (k H locs ls hP hS hl)
theorem r_lshl {x : Int64} {y : Int32} (C : Cx g p R s m args meth c cc nL own ret h) (hd : decode cc pc = .ok (.lshl, 1)) (k : G g p l e R s m args below meth c Q nL (pc + 1) lv (.long (x <<< (y.toInt64 &&& 63)) :: st) σ) : G g p l e R s m args below meth c Q nL pc lv (.int y :: .long x :: st) σ := fun H locs ls hP hS hl => lv_lshl C.ex C.cd hd rfl (k H locs ls hP hS hl)
theorem r_lshr {x : Int64} {y : Int32} (C : Cx g p R s m args meth c cc nL own ret h) (hd : decode cc pc = .ok (.lshr, 1)) (k : G g p l e R s m args below meth c Q nL (pc + 1) lv (.long (x >>> (y.toInt64 &&& 63)) :: st) σ) : G g p l e R s m args below meth c Q nL pc lv (.int y :: .long x :: st) σ := fun H locs ls hP hS hl => lv_lshr C.ex C.cd hd rfl (k H locs ls hP hS hl)
theorem r_lushr {x : Int64} {y : Int32} (C : Cx g p R s m args meth c cc nL own ret h) (hd : decode cc pc = .ok (.lushr, 1)) (k : G g p l e R s m args below meth c Q nL (pc + 1) lv (.long ((x.toUInt64 >>> (y.toInt64.toUInt64 &&& Int64.toUInt64 63)).toInt64) :: st) σ) : G g p l e R s m args below meth c Q nL pc lv (.int y :: .long x :: st) σ := fun H locs ls hP hS hl => lv_lushr C.ex C.cd hd rfl (k H locs ls hP hS hl)
theorem r_i2l {x : Int32} (C : Cx g p R s m args meth c cc nL own ret h) (hd : decode cc pc = .ok (.i2l, 1)) (k : G g p l e R s m args below meth c Q nL (pc + 1) lv (.long x.toInt64 :: st) σ) : G g p l e R s m args below meth c Q nL pc lv (.int x :: st) σ := fun H locs ls hP hS hl => lv_i2l C.ex C.cd hd rfl (k H locs ls hP hS hl)
theorem r_l2i {x : Int64} (C : Cx g p R s m args meth c cc nL own ret h) (hd : decode cc pc = .ok (.l2i, 1)) (k : G g p l e R s m args below meth c Q nL (pc + 1) lv (.int x.toInt32 :: st) σ) : G g p l e R s m args below meth c Q nL pc lv (.long x :: st) σ := fun H locs ls hP hS hl => lv_l2i C.ex C.cd hd rfl (k H locs ls hP hS hl)
theorem r_i2b {x : Int32} (C : Cx g p R s m args meth c cc nL own ret h) (hd : decode cc pc = .ok (.i2b, 1)) (k : G g p l e R s m args below meth c Q nL (pc + 1) lv (.int x.toInt8.toInt32 :: st) σ) : G g p l e R s m args below meth c Q nL pc lv (.int x :: st) σ := fun H locs ls hP hS hl => lv_i2b C.ex C.cd hd rfl (k H locs ls hP hS hl)
theorem r_i2c {x v : Int32} (C : Cx g p R s m args meth c cc nL own ret h) (hd : decode cc pc = .ok (.i2c, 1)) (hv : (x.toUInt32 % 65536).toInt32 = v) (k : G g p l e R s m args below meth c Q nL (pc + 1) lv (.int v :: st) σ) : G g p l e R s m args below meth c Q nL pc lv (.int x :: st) σ := fun H locs ls hP hS hl => lv_i2c C.ex C.cd hd hv (k H locs ls hP hS hl)
theorem r_ineg {x : Int32} (C : Cx g p R s m args meth c cc nL own ret h) (hd : decode cc pc = .ok (.ineg, 1)) (k : G g p l e R s m args below meth c Q nL (pc + 1) lv (.int (-x) :: st) σ) : G g p l e R s m args below meth c Q nL pc lv (.int x :: st) σ := fun H locs ls hP hS hl => lv_ineg C.ex C.cd hd (k H locs ls hP hS hl)
theorem r_lcmp {x y : Int64} (C : Cx g p R s m args meth c cc nL own ret h) (hd : decode cc pc = .ok (.lcmp, 1)) (k : G g p l e R s m args below meth c Q nL (pc + 1) lv (.int (lg_cmp x y) :: st) σ) : G g p l e R s m args below meth c Q nL pc lv (.long y :: .long x :: st) σ := fun H locs ls hP hS hl => W.lcmp C.ex C.cd hd (k H locs ls hP hS hl)
theorem r_dup {va : Value} (C : Cx g p R s m args meth c cc nL own ret h) (hd : decode cc pc = .ok (.dup, 1)) (hva : va.category = 1) (k : G g p l e R s m args below meth c Q nL (pc + 1) lv (va :: va :: st) σ) : G g p l e R s m args below meth c Q nL pc lv (va :: st) σ := fun H locs ls hP hS hl => lv_dup C.ex C.cd hd hva (k H locs ls hP hS hl)
theorem r_pop {va : Value} (C : Cx g p R s m args meth c cc nL own ret h) (hd : decode cc pc = .ok (.pop, 1)) (hva : va.category = 1) (k : G g p l e R s m args below meth c Q nL (pc + 1) lv st σ) : G g p l e R s m args below meth c Q nL pc lv (va :: st) σ := fun H locs ls hP hS hl => lv_pop C.ex C.cd hd hva (k H locs ls hP hS hl)
theorem r_dup2 {va vb : Value} (C : Cx g p R s m args meth c cc nL own ret h) (hd : decode cc pc = .ok (.dup2, 1)) (hva : va.category = 1) (hvb : vb.category = 1) (k : G g p l e R s m args below meth c Q nL (pc + 1) lv (va :: vb :: va :: vb :: st) σ) : G g p l e R s m args below meth c Q nL pc lv (va :: vb :: st) σ := fun H locs ls hP hS hl => lv_dup2_11 C.ex C.cd hd hva hvb (k H locs ls hP hS hl)
theorem r_iconst {n : Int} {v : Int32} (C : Cx g p R s m args meth c cc nL own ret h) (hd : decode cc pc = .ok (.iconst n, 1)) (hv : Int32.ofInt n = v) (k : G g p l e R s m args below meth c Q nL (pc + 1) lv (.int v :: st) σ) : G g p l e R s m args below meth c Q nL pc lv st σ := fun H locs ls hP hS hl => lv_iconst C.ex C.cd hd hv (k H locs ls hP hS hl)
theorem r_bipush {n : Int} {v : Int32} (C : Cx g p R s m args meth c cc nL own ret h) (hd : decode cc pc = .ok (.bipush n, 2)) (hv : (Int8.ofInt n).toInt32 = v) (k : G g p l e R s m args below meth c Q nL (pc + 2) lv (.int v :: st) σ) : G g p l e R s m args below meth c Q nL pc lv st σ := fun H locs ls hP hS hl => lv_bipush C.ex C.cd hd hv (k H locs ls hP hS hl)
theorem r_sipush {n : Int} {v : Int32} (C : Cx g p R s m args meth c cc nL own ret h) (hd : decode cc pc = .ok (.sipush n, 3)) (hv : (Int16.ofInt n).toInt32 = v) (k : G g p l e R s m args below meth c Q nL (pc + 3) lv (.int v :: st) σ) : G g p l e R s m args below meth c Q nL pc lv st σ := fun H locs ls hP hS hl => lv_sipush C.ex C.cd hd hv (k H locs ls hP hS hl)
theorem r_lconst {n : Fin 2} {v : Int64} (C : Cx g p R s m args meth c cc nL own ret h) (hd : decode cc pc = .ok (.lconst n, 1)) (hv : Int64.ofNat (n : Nat) = v) (k : G g p l e R s m args below meth c Q nL (pc + 1) lv (.long v :: st) σ) : G g p l e R s m args below meth c Q nL pc lv st σ := fun H locs ls hP hS hl => lv_lconst C.ex C.cd hd hv (k H locs ls hP hS hl)
theorem r_ldc {index : Nat} {v : Int32} (C : Cx g p R s m args meth c cc nL own ret h) (hd : decode cc pc = .ok (.ldc index, 2)) (hw : Cond.constant own index v ∈ UU) (k : G g p l e R s m args below meth c Q nL (pc + 2) lv (.int v :: st) σ) : G g p l e R s m args below meth c Q nL pc lv st σ := fun H locs ls hP hS hl => lv_ldc C.ex C.cd C.ow (C.ts _ hw) hd (k H locs ls hP hS hl)
theorem r_ldc2 {index : Nat} {v : Int64} (C : Cx g p R s m args meth c cc nL own ret h) (hd : decode cc pc = .ok (.ldc2_w index, 3)) (hw : Cond.constantLong own index v ∈ UU) (k : G g p l e R s m args below meth c Q nL (pc + 3) lv (.long v :: st) σ) : G g p l e R s m args below meth c Q nL pc lv st σ := fun H locs ls hP hS hl => lv_ldc2 C.ex C.cd C.ow (C.ts _ hw) hd (k H locs ls hP hS hl)
theorem r_iload_n {n : Fin 4} {i : Nat} {x : Int32} (C : Cx g p R s m args meth c cc nL own ret h) (hd : decode cc pc = .ok (.iload_n n, 1)) (hi : (n : Nat) = i) (j : Nat) (hj : lv[j]? = some (i, .int x)) (k : G g p l e R s m args below meth c Q nL (pc + 1) lv (.int x :: st) σ) : G g p l e R s m args below meth c Q nL pc lv st σ := fun H locs ls hP hS hl => lv_iload_n C.ex C.cd hd hi (lv_at hl j hj) (k H locs ls hP hS hl)
theorem r_iload {i : Nat} {x : Int32} (C : Cx g p R s m args meth c cc nL own ret h) (hd : decode cc pc = .ok (.iload i, 2)) (j : Nat) (hj : lv[j]? = some (i, .int x)) (k : G g p l e R s m args below meth c Q nL (pc + 2) lv (.int x :: st) σ) : G g p l e R s m args below meth c Q nL pc lv st σ := fun H locs ls hP hS hl => lv_iload C.ex C.cd hd (lv_at hl j hj) (k H locs ls hP hS hl)
theorem r_lload_n {n : Fin 4} {i : Nat} {x : Int64} (C : Cx g p R s m args meth c cc nL own ret h) (hd : decode cc pc = .ok (.lload_n n, 1)) (hi : (n : Nat) = i) (j : Nat) (hj : lv[j]? = some (i, .long x)) (k : G g p l e R s m args below meth c Q nL (pc + 1) lv (.long x :: st) σ) : G g p l e R s m args below meth c Q nL pc lv st σ := fun H locs ls hP hS hl => lv_lload_n C.ex C.cd hd hi (lv_at hl j hj) (k H locs ls hP hS hl)
theorem r_lload {i : Nat} {x : Int64} (C : Cx g p R s m args meth c cc nL own ret h) (hd : decode cc pc = .ok (.lload i, 2)) (j : Nat) (hj : lv[j]? = some (i, .long x)) (k : G g p l e R s m args below meth c Q nL (pc + 2) lv (.long x :: st) σ) : G g p l e R s m args below meth c Q nL pc lv st σ := fun H locs ls hP hS hl => lv_lload C.ex C.cd hd (lv_at hl j hj) (k H locs ls hP hS hl)
theorem r_aload_n {n : Fin 4} {i : Nat} {x : Nat} (C : Cx g p R s m args meth c cc nL own ret h) (hd : decode cc pc = .ok (.aload_n n, 1)) (hi : (n : Nat) = i) (j : Nat) (hj : lv[j]? = some (i, .ref x)) (k : G g p l e R s m args below meth c Q nL (pc + 1) lv (.ref x :: st) σ) : G g p l e R s m args below meth c Q nL pc lv st σ := fun H locs ls hP hS hl => lv_aload_n C.ex C.cd hd hi (lv_at hl j hj) (k H locs ls hP hS hl)
theorem r_aload {i : Nat} {x : Nat} (C : Cx g p R s m args meth c cc nL own ret h) (hd : decode cc pc = .ok (.aload i, 2)) (j : Nat) (hj : lv[j]? = some (i, .ref x)) (k : G g p l e R s m args below meth c Q nL (pc + 2) lv (.ref x :: st) σ) : G g p l e R s m args below meth c Q nL pc lv st σ := fun H locs ls hP hS hl => lv_aload C.ex C.cd hd (lv_at hl j hj) (k H locs ls hP hS hl)
theorem r_istore_n {n : Fin 4} {i : Nat} {x : Int32} (C : Cx g p R s m args meth c cc nL own ret h) (hd : decode cc pc = .ok (.istore_n n, 1)) (hi : (n : Nat) = i) (hn : i < nL) (hv : (i, Value.int x) :: lv.filter (fun q => !(q.1 == i) && !(q.1 + 1 == i && q.2.category == 2)) = lv') (k : G g p l e R s m args below meth c Q nL (pc + 1) lv' st σ) : G g p l e R s m args below meth c Q nL pc lv (.int x :: st) σ := fun H locs ls hP hS hl => lv_istore_n C.ex C.cd hd hi hl hn hv (fun ls' hl' => k H locs ls' hP hS hl')
theorem r_istore {i : Nat} {x : Int32} (C : Cx g p R s m args meth c cc nL own ret h) (hd : decode cc pc = .ok (.istore i, 2)) (hn : i < nL) (hv : (i, Value.int x) :: lv.filter (fun q => !(q.1 == i) && !(q.1 + 1 == i && q.2.category == 2)) = lv') (k : G g p l e R s m args below meth c Q nL (pc + 2) lv' st σ) : G g p l e R s m args below meth c Q nL pc lv (.int x :: st) σ := fun H locs ls hP hS hl => lv_istore C.ex C.cd hd hl hn hv (fun ls' hl' => k H locs ls' hP hS hl')
theorem r_lstore_n {n : Fin 4} {i : Nat} {x : Int64} (C : Cx g p R s m args meth c cc nL own ret h) (hd : decode cc pc = .ok (.lstore_n n, 1)) (hi : (n : Nat) = i) (hn : i + 1 < nL) (hv : (i, Value.long x) :: lv.filter (fun q => !(q.1 == i) && (!(q.1 == i + 1) && !(q.1 + 1 == i && q.2.category == 2))) = lv') (k : G g p l e R s m args below meth c Q nL (pc + 1) lv' st σ) : G g p l e R s m args below meth c Q nL pc lv (.long x :: st) σ := fun H locs ls hP hS hl => lv_lstore_n C.ex C.cd hd hi hl hn hv (fun ls' hl' => k H locs ls' hP hS hl')
theorem r_lstore {i : Nat} {x : Int64} (C : Cx g p R s m args meth c cc nL own ret h) (hd : decode cc pc = .ok (.lstore i, 2)) (hn : i + 1 < nL) (hv : (i, Value.long x) :: lv.filter (fun q => !(q.1 == i) && (!(q.1 == i + 1) && !(q.1 + 1 == i && q.2.category == 2))) = lv') (k : G g p l e R s m args below meth c Q nL (pc + 2) lv' st σ) : G g p l e R s m args below meth c Q nL pc lv (.long x :: st) σ := fun H locs ls hP hS hl => lv_lstore C.ex C.cd hd hl hn hv (fun ls' hl' => k H locs ls' hP hS hl')
theorem r_astore_n {n : Fin 4} {i : Nat} {x : Nat} (C : Cx g p R s m args meth c cc nL own ret h) (hd : decode cc pc = .ok (.astore_n n, 1)) (hi : (n : Nat) = i) (hn : i < nL) (hv : (i, Value.ref x) :: lv.filter (fun q => !(q.1 == i) && !(q.1 + 1 == i && q.2.category == 2)) = lv') (k : G g p l e R s m args below meth c Q nL (pc + 1) lv' st σ) : G g p l e R s m args below meth c Q nL pc lv (.ref x :: st) σ := fun H locs ls hP hS hl => lv_astore_n C.ex C.cd hd hi hl hn hv (fun ls' hl' => k H locs ls' hP hS hl')
theorem r_astore {i : Nat} {x : Nat} (C : Cx g p R s m args meth c cc nL own ret h) (hd : decode cc pc = .ok (.astore i, 2)) (hn : i < nL) (hv : (i, Value.ref x) :: lv.filter (fun q => !(q.1 == i) && !(q.1 + 1 == i && q.2.category == 2)) = lv') (k : G g p l e R s m args below meth c Q nL (pc + 2) lv' st σ) : G g p l e R s m args below meth c Q nL pc lv (.ref x :: st) σ := fun H locs ls hP hS hl => lv_astore C.ex C.cd hd hl hn hv (fun ls' hl' => k H locs ls' hP hS hl')
theorem r_iinc {i : Nat} {n : Int} {x v : Int32} (C : Cx g p R s m args meth c cc nL own ret h) (hd : decode cc pc = .ok (.iinc i n, 3)) (j : Nat) (hj : lv[j]? = some (i, .int x)) (hx : x + Int32.ofInt n = v) (hn : i < nL) (hv : (i, Value.int v) :: lv.filter (fun q => !(q.1 == i) && !(q.1 + 1 == i && q.2.category == 2)) = lv') (k : G g p l e R s m args below meth c Q nL (pc + 3) lv' st σ) : G g p l e R s m args below meth c Q nL pc lv st σ := fun H locs ls hP hS hl => lv_iinc C.ex C.cd hd hl (k := j) hj hx hn hv (fun ls' hl' => k H locs ls' hP hS hl')
theorem r_icmp_eq {x y : Int32} {off : Int} {tgt : Nat} (C : Cx g p R s m args meth c cc nL own ret h) (hd : decode cc pc = .ok (.if_icmp .eq off, 3)) (ht : (pc : Int) + off = (tgt : Int)) (kt : x = y → G g p l e R s m args below meth c Q nL tgt lv st σ) (kf : ¬ x = y → G g p l e R s m args below meth c Q nL (pc + 3) lv st σ) : G g p l e R s m args below meth c Q nL pc lv (.int y :: .int x :: st) σ := fun H locs ls hP hS hl => lv_icmp_eq C.ex C.cd hd ht (fun q => kt q H locs ls hP hS hl) (fun q => kf q H locs ls hP hS hl)
theorem r_if_eq {x : Int32} {off : Int} {tgt : Nat} (C : Cx g p R s m args meth c cc nL own ret h) (hd : decode cc pc = .ok (.ifCond .eq off, 3)) (ht : (pc : Int) + off = (tgt : Int)) (kt : x = 0 → G g p l e R s m args below meth c Q nL tgt lv st σ) (kf : ¬ x = 0 → G g p l e R s m args below meth c Q nL (pc + 3) lv st σ) : G g p l e R s m args below meth c Q nL pc lv (.int x :: st) σ := fun H locs ls hP hS hl => lv_if_eq C.ex C.cd hd ht (fun q => kt q H locs ls hP hS hl) (fun q => kf q H locs ls hP hS hl)
theorem r_icmp_ne {x y : Int32} {off : Int} {tgt : Nat} (C : Cx g p R s m args meth c cc nL own ret h) (hd : decode cc pc = .ok (.if_icmp .ne off, 3)) (ht : (pc : Int) + off = (tgt : Int)) (kt : ¬ x = y → G g p l e R s m args below meth c Q nL tgt lv st σ) (kf : x = y → G g p l e R s m args below meth c Q nL (pc + 3) lv st σ) : G g p l e R s m args below meth c Q nL pc lv (.int y :: .int x :: st) σ := fun H locs ls hP hS hl => lv_icmp_ne C.ex C.cd hd ht (fun q => kt q H locs ls hP hS hl) (fun q => kf q H locs ls hP hS hl)
theorem r_if_ne {x : Int32} {off : Int} {tgt : Nat} (C : Cx g p R s m args meth c cc nL own ret h) (hd : decode cc pc = .ok (.ifCond .ne off, 3)) (ht : (pc : Int) + off = (tgt : Int)) (kt : ¬ x = 0 → G g p l e R s m args below meth c Q nL tgt lv st σ) (kf : x = 0 → G g p l e R s m args below meth c Q nL (pc + 3) lv st σ) : G g p l e R s m args below meth c Q nL pc lv (.int x :: st) σ := fun H locs ls hP hS hl => lv_if_ne C.ex C.cd hd ht (fun q => kt q H locs ls hP hS hl) (fun q => kf q H locs ls hP hS hl)
theorem r_icmp_lt {x y : Int32} {off : Int} {tgt : Nat} (C : Cx g p R s m args meth c cc nL own ret h) (hd : decode cc pc = .ok (.if_icmp .lt off, 3)) (ht : (pc : Int) + off = (tgt : Int)) (kt : x < y → G g p l e R s m args below meth c Q nL tgt lv st σ) (kf : ¬ x < y → G g p l e R s m args below meth c Q nL (pc + 3) lv st σ) : G g p l e R s m args below meth c Q nL pc lv (.int y :: .int x :: st) σ := fun H locs ls hP hS hl => lv_icmp_lt C.ex C.cd hd ht (fun q => kt q H locs ls hP hS hl) (fun q => kf q H locs ls hP hS hl)
theorem r_if_lt {x : Int32} {off : Int} {tgt : Nat} (C : Cx g p R s m args meth c cc nL own ret h) (hd : decode cc pc = .ok (.ifCond .lt off, 3)) (ht : (pc : Int) + off = (tgt : Int)) (kt : x < 0 → G g p l e R s m args below meth c Q nL tgt lv st σ) (kf : ¬ x < 0 → G g p l e R s m args below meth c Q nL (pc + 3) lv st σ) : G g p l e R s m args below meth c Q nL pc lv (.int x :: st) σ := fun H locs ls hP hS hl => lv_if_lt C.ex C.cd hd ht (fun q => kt q H locs ls hP hS hl) (fun q => kf q H locs ls hP hS hl)
theorem r_icmp_ge {x y : Int32} {off : Int} {tgt : Nat} (C : Cx g p R s m args meth c cc nL own ret h) (hd : decode cc pc = .ok (.if_icmp .ge off, 3)) (ht : (pc : Int) + off = (tgt : Int)) (kt : y ≤ x → G g p l e R s m args below meth c Q nL tgt lv st σ) (kf : ¬ y ≤ x → G g p l e R s m args below meth c Q nL (pc + 3) lv st σ) : G g p l e R s m args below meth c Q nL pc lv (.int y :: .int x :: st) σ := fun H locs ls hP hS hl => lv_icmp_ge C.ex C.cd hd ht (fun q => kt q H locs ls hP hS hl) (fun q => kf q H locs ls hP hS hl)
theorem r_if_ge {x : Int32} {off : Int} {tgt : Nat} (C : Cx g p R s m args meth c cc nL own ret h) (hd : decode cc pc = .ok (.ifCond .ge off, 3)) (ht : (pc : Int) + off = (tgt : Int)) (kt : 0 ≤ x → G g p l e R s m args below meth c Q nL tgt lv st σ) (kf : ¬ 0 ≤ x → G g p l e R s m args below meth c Q nL (pc + 3) lv st σ) : G g p l e R s m args below meth c Q nL pc lv (.int x :: st) σ := fun H locs ls hP hS hl => lv_if_ge C.ex C.cd hd ht (fun q => kt q H locs ls hP hS hl) (fun q => kf q H locs ls hP hS hl)
theorem r_icmp_gt {x y : Int32} {off : Int} {tgt : Nat} (C : Cx g p R s m args meth c cc nL own ret h) (hd : decode cc pc = .ok (.if_icmp .gt off, 3)) (ht : (pc : Int) + off = (tgt : Int)) (kt : y < x → G g p l e R s m args below meth c Q nL tgt lv st σ) (kf : ¬ y < x → G g p l e R s m args below meth c Q nL (pc + 3) lv st σ) : G g p l e R s m args below meth c Q nL pc lv (.int y :: .int x :: st) σ := fun H locs ls hP hS hl => lv_icmp_gt C.ex C.cd hd ht (fun q => kt q H locs ls hP hS hl) (fun q => kf q H locs ls hP hS hl)
theorem r_if_gt {x : Int32} {off : Int} {tgt : Nat} (C : Cx g p R s m args meth c cc nL own ret h) (hd : decode cc pc = .ok (.ifCond .gt off, 3)) (ht : (pc : Int) + off = (tgt : Int)) (kt : 0 < x → G g p l e R s m args below meth c Q nL tgt lv st σ) (kf : ¬ 0 < x → G g p l e R s m args below meth c Q nL (pc + 3) lv st σ) : G g p l e R s m args below meth c Q nL pc lv (.int x :: st) σ := fun H locs ls hP hS hl => lv_if_gt C.ex C.cd hd ht (fun q => kt q H locs ls hP hS hl) (fun q => kf q H locs ls hP hS hl)
theorem r_icmp_le {x y : Int32} {off : Int} {tgt : Nat} (C : Cx g p R s m args meth c cc nL own ret h) (hd : decode cc pc = .ok (.if_icmp .le off, 3)) (ht : (pc : Int) + off = (tgt : Int)) (kt : x ≤ y → G g p l e R s m args below meth c Q nL tgt lv st σ) (kf : ¬ x ≤ y → G g p l e R s m args below meth c Q nL (pc + 3) lv st σ) : G g p l e R s m args below meth c Q nL pc lv (.int y :: .int x :: st) σ := fun H locs ls hP hS hl => lv_icmp_le C.ex C.cd hd ht (fun q => kt q H locs ls hP hS hl) (fun q => kf q H locs ls hP hS hl)
theorem r_if_le {x : Int32} {off : Int} {tgt : Nat} (C : Cx g p R s m args meth c cc nL own ret h) (hd : decode cc pc = .ok (.ifCond .le off, 3)) (ht : (pc : Int) + off = (tgt : Int)) (kt : x ≤ 0 → G g p l e R s m args below meth c Q nL tgt lv st σ) (kf : ¬ x ≤ 0 → G g p l e R s m args below meth c Q nL (pc + 3) lv st σ) : G g p l e R s m args below meth c Q nL pc lv (.int x :: st) σ := fun H locs ls hP hS hl => lv_if_le C.ex C.cd hd ht (fun q => kt q H locs ls hP hS hl) (fun q => kf q H locs ls hP hS hl)
theorem r_goto {off : Int} {tgt : Nat} (C : Cx g p R s m args meth c cc nL own ret h) (hd : decode cc pc = .ok (.goto off, 3)) (ht : (pc : Int) + off = (tgt : Int)) (k : G g p l e R s m args below meth c Q nL tgt lv st σ) : G g p l e R s m args below meth c Q nL pc lv st σ := fun H locs ls hP hS hl => lv_goto C.ex C.cd hd ht (k H locs ls hP hS hl)
theorem r_tableOut {dflt lo hi : Int} {offs : Array Int} {len : Nat} {x : Int32} {tgt : Nat} (C : Cx g p R s m args meth c cc nL own ret h) (hd : decode cc pc = .ok (.tableswitch dflt lo hi offs, len)) (hx : x.toInt < lo ∨ hi < x.toInt) (ht : (pc : Int) + dflt = (tgt : Int)) (k : G g p l e R s m args below meth c Q nL tgt lv st σ) : G g p l e R s m args below meth c Q nL pc lv (.int x :: st) σ := fun H locs ls hP hS hl => lv_tableOut C.ex C.cd hd hx ht (k H locs ls hP hS hl)
theorem r_tableIn {dflt lo hi : Int} {offs : Array Int} {len : Nat} {x : Int32} {off : Int} {tgt : Nat} (C : Cx g p R s m args meth c cc nL own ret h) (hd : decode cc pc = .ok (.tableswitch dflt lo hi offs, len)) (h1 : ¬ x.toInt < lo) (h2 : ¬ hi < x.toInt) (ho : offs[(x.toInt - lo).toNat]? = some off) (ht : (pc : Int) + off = (tgt : Int)) (k : G g p l e R s m args below meth c Q nL tgt lv st σ) : G g p l e R s m args below meth c Q nL pc lv (.int x :: st) σ := fun H locs ls hP hS hl => lv_tableIn C.ex C.cd hd h1 h2 ho ht (k H locs ls hP hS hl)
theorem r_sub (ks : List Nat) (hv : lv_pick lv ks = lv') (k : G g p l e R s m args below meth c Q nL pc lv' st σ) : G g p l e R s m args below meth c Q nL pc lv st σ := fun H locs ls hP hS hl => k H locs ls hP hS (lv_sub hl ks hv)
theorem r_iaload {n i N : Nat} {x : Int32} (C : Cx g p R s m args meth c cc nL own ret h) (hd : decode cc pc = .ok (.iaload, 1)) (ha : akd n = 1) (hi : i < cnt n) (hN : aln n = N) (hin : vp_in x N) (k : G g p l e R s m args below meth c Q nL (pc + 1) lv (.int (gI σ n i x.toNatClampNeg) :: st) σ) : G g p l e R s m args below meth c Q nL pc lv (.int x :: .ref (gad g n i) :: st) σ := by
  intro H locs ls hP hS hl
  obtain ⟨q, -, hq⟩ := WS_at g σ hi
  rw [cell_i ha, hN] at hq
  exact va_iald C.ex C.cd C.so.2.1 hP q 1 hq rfl hin hd (k H locs ls hP hS hl)
theorem r_iastore {n i N : Nat} {x : Int32} {v : Int32} (C : Cx g p R s m args meth c cc nL own ret h) (hd : decode cc pc = .ok (.iastore, 1)) (ha : akd n = 1) (hi : i < cnt n) (hN : aln n = N) (hin : vp_in x N) (k : G g p l e R s m args below meth c Q nL (pc + 1) lv st (sI σ n i x.toNatClampNeg v)) : G g p l e R s m args below meth c Q nL pc lv (.int v :: .int x :: .ref (gad g n i) :: st) σ := by
  intro H locs ls hP hS hl
  obtain ⟨q, hq0, hq⟩ := WS_at g σ hi
  rw [cell_i ha, hN] at hq
  exact va_iast C.ex C.cd C.so.2.1 hP (WS_D C.so.1 σ) hS q 1 hq rfl hin hd (fun H1 locs1 hP1 _ hS1 => k H1 locs1 ls (WS_set hq0 hP1 (by rw [cell_i ha, hN, sI_self]) (fun a b _ hab => cell_sI_ne hab)) hS1 hl)
theorem r_laload {n i N : Nat} {x : Int32} (C : Cx g p R s m args meth c cc nL own ret h) (hd : decode cc pc = .ok (.laload, 1)) (ha : akd n = 2) (hi : i < cnt n) (hN : aln n = N) (hin : vp_in x N) (k : G g p l e R s m args below meth c Q nL (pc + 1) lv (.long (gL σ n i x.toNatClampNeg) :: st) σ) : G g p l e R s m args below meth c Q nL pc lv (.int x :: .ref (gad g n i) :: st) σ := by
  intro H locs ls hP hS hl
  obtain ⟨q, -, hq⟩ := WS_at g σ hi
  rw [cell_l ha, hN] at hq
  exact va_lald C.ex C.cd C.so.2.1 hP q 2 hq rfl hin hd (k H locs ls hP hS hl)
theorem r_lastore {n i N : Nat} {x : Int32} {v : Int64} (C : Cx g p R s m args meth c cc nL own ret h) (hd : decode cc pc = .ok (.lastore, 1)) (ha : akd n = 2) (hi : i < cnt n) (hN : aln n = N) (hin : vp_in x N) (k : G g p l e R s m args below meth c Q nL (pc + 1) lv st (sL σ n i x.toNatClampNeg v)) : G g p l e R s m args below meth c Q nL pc lv (.long v :: .int x :: .ref (gad g n i) :: st) σ := by
  intro H locs ls hP hS hl
  obtain ⟨q, hq0, hq⟩ := WS_at g σ hi
  rw [cell_l ha, hN] at hq
  exact va_last C.ex C.cd C.so.2.1 hP (WS_D C.so.1 σ) hS q 2 hq rfl hin hd (fun H1 locs1 hP1 _ hS1 => k H1 locs1 ls (WS_set hq0 hP1 (by rw [cell_l ha, hN, sL_self]) (fun a b _ hab => cell_sL_ne hab)) hS1 hl)
theorem r_baload {n i N : Nat} {x : Int32} (C : Cx g p R s m args meth c cc nL own ret h) (hd : decode cc pc = .ok (.baload, 1)) (ha : akd n = 3) (hi : i < cnt n) (hN : aln n = N) (hin : vp_in x N) (k : G g p l e R s m args below meth c Q nL (pc + 1) lv (.int (gI σ n i x.toNatClampNeg) :: st) σ) : G g p l e R s m args below meth c Q nL pc lv (.int x :: .ref (gad g n i) :: st) σ := by
  intro H locs ls hP hS hl
  obtain ⟨q, -, hq⟩ := WS_at g σ hi
  rw [cell_b ha, hN] at hq
  exact va_bald C.ex C.cd C.so.2.1 hP q 0 hq rfl hin hd (k H locs ls hP hS hl)
theorem r_bastore {n i N : Nat} {x : Int32} {v : Int32} (C : Cx g p R s m args meth c cc nL own ret h) (hd : decode cc pc = .ok (.bastore, 1)) (ha : akd n = 3) (hi : i < cnt n) (hN : aln n = N) (hin : vp_in x N) (k : G g p l e R s m args below meth c Q nL (pc + 1) lv st (sI σ n i x.toNatClampNeg (vp_nar .byte v))) : G g p l e R s m args below meth c Q nL pc lv (.int v :: .int x :: .ref (gad g n i) :: st) σ := by
  intro H locs ls hP hS hl
  obtain ⟨q, hq0, hq⟩ := WS_at g σ hi
  rw [cell_b ha, hN] at hq
  exact va_bast C.ex C.cd C.so.2.1 hP (WS_D C.so.1 σ) hS q 0 hq rfl hin hd (fun H1 locs1 hP1 _ hS1 => k H1 locs1 ls (WS_set hq0 hP1 (by rw [cell_b ha, hN, sI_self]) (fun a b _ hab => cell_sI_ne hab)) hS1 hl)
theorem r_alen {n i : Nat} {v : Int32} (C : Cx g p R s m args meth c cc nL own ret h) (hd : decode cc pc = .ok (.arraylength, 1)) (ha : akd n = 1) (hi : i < cnt n) (hv : Int32.ofNat (aln n) = v) (k : G g p l e R s m args below meth c Q nL (pc + 1) lv (.int v :: st) σ) : G g p l e R s m args below meth c Q nL pc lv (.ref (gad g n i) :: st) σ := by
  intro H locs ls hP hS hl
  obtain ⟨q, -, hq⟩ := WS_at g σ hi
  rw [cell_i ha] at hq
  exact va_alen C.ex C.cd C.so.2.1 hP q 1 hq rfl hv hd (k H locs ls hP hS hl)
theorem r_get {n i j N index : Nat} {CN ref : String} {TN : u_T} {v : Value} (C : Cx g p R s m args meth c cc nL own ret h) (hd : decode cc pc = .ok (.getfield index, 3)) (hc : vwCl[n]? = some (CN, TN, N)) (hin : ∀ w ∈ u_ws CN TN N, w ∈ UU) (ha : akd n = 0) (hj : j < N) (hw : Cond.fieldLink own index ref (TN j).2.1 (TN j).2.2.1 ∈ UU) (hr : (TN j).1 = ref) (hi : i < cnt n) (hv : (fsOf g σ n i)[j]? = some v) (k : G g p l e R s m args below meth c Q nL (pc + 3) lv (v :: st) σ) : G g p l e R s m args below meth c Q nL pc lv (.ref (gad g n i) :: st) σ := by
  intro H locs ls hP hS hl
  obtain ⟨q, -, hq⟩ := WS_at g σ hi
  rw [cell_o ha] at hq
  exact va_get C.ex C.cd C.ts hin C.ow C.so.2.1 hP q hq hc j hj (C.ts _ hw) (fun x hx => by rw [← hr]; exact hx) hv hd (k H locs ls hP hS hl)
theorem r_put {n i j N index : Nat} {CN ref : String} {TN : u_T} {v : Value} {ty : FieldType} {σ' : Hp} (C : Cx g p R s m args meth c cc nL own ret h) (hd : decode cc pc = .ok (.putfield index, 3)) (hc : vwCl[n]? = some (CN, TN, N)) (hin : ∀ w ∈ u_ws CN TN N, w ∈ UU) (ty0 : Nat → FieldType) (hty : ∀ k, k < N → parseFieldDescriptor (TN k).2.2.1 = some (ty0 k)) (hnm : ∀ a, a < N → ∀ b, b < N → a ≠ b → (TN a).2.1 ≠ (TN b).2.1) (ha : akd n = 0) (hj : j < N) (hw : Cond.fieldLink own index ref (TN j).2.1 (TN j).2.2.1 ∈ UU) (hr : (TN j).1 = ref) (hf : (TN j).2.2.2 = false) (hpd : parseFieldDescriptor (TN j).2.2.1 = some ty) (hnv : narrow ty v = v) (hfit : fits ty v = true) (hi : i < cnt n) (hl0 : j < (fsOf g σ n i).length) (hs : fsOf g σ' n i = (fsOf g σ n i).set j v) (ho : ∀ a b, b < cnt a → ¬ (a = n ∧ b = i) → cell g σ' a b = cell g σ a b) (k : G g p l e R s m args below meth c Q nL (pc + 3) lv st σ') : G g p l e R s m args below meth c Q nL pc lv (v :: .ref (gad g n i) :: st) σ := by
  intro H locs ls hP hS hl
  obtain ⟨q, hq0, hq⟩ := WS_at g σ hi
  rw [cell_o ha] at hq
  exact va_put C.ex C.cd C.ts hin ty0 hty hnm C.ow C.so.2.1 hP (WS_D C.so.1 σ) hS q hq hc j hj (C.ts _ hw) (fun x hx => by rw [← hr]; exact hx) hf hpd hnv hfit hl0 hd (fun H1 locs1 hP1 _ hS1 => k H1 locs1 ls (WS_set hq0 hP1 (by rw [cell_o ha, hs]) ho) hS1 hl)
theorem r_ireturn {x : Int32} (C : Cx g p R s m args meth c cc nL own (some .int) h) (hd : decode cc pc = .ok (.ireturn, 1)) (hq : Q (some (.int x)) σ) : G g p l e R s m args below meth c Q nL pc lv [.int x] σ := fun H locs ls hP hS hl => W.iret C.ex C.cd C.rt (fun t ht _ => ⟨⟨_, σ, rfl, hq, by rw [ht]; exact hP⟩, hS.F ht⟩) hS.2.2 hd C.lk
theorem r_lreturn {x : Int64} (C : Cx g p R s m args meth c cc nL own (some .long) h) (hd : decode cc pc = .ok (.lreturn, 1)) (hq : Q (some (.long x)) σ) : G g p l e R s m args below meth c Q nL pc lv [.long x] σ := fun H locs ls hP hS hl => W.lret C.ex C.cd C.rt (fun t ht _ => ⟨⟨_, σ, rfl, hq, by rw [ht]; exact hP⟩, hS.F ht⟩) hS.2.2 hd C.lk
theorem r_return (C : Cx g p R s m args meth c cc nL own (none) h) (hd : decode cc pc = .ok (.return_, 1)) (hq : Q (none) σ) : G g p l e R s m args below meth c Q nL pc lv [] σ := fun H locs ls hP hS hl => W.vret C.ex C.cd C.rt (fun t ht _ => ⟨⟨_, σ, rfl, hq, by rw [ht]; exact hP⟩, hS.F ht⟩) hS.2.2 hd C.lk
theorem r_zreturn {x : Int32} (C : Cx g p R s m args meth c cc nL own (some .boolean) h) (hd : decode cc pc = .ok (.ireturn, 1)) (hz : narrow .boolean (.int x) = .int x) (hq : Q (some (.int x)) σ) : G g p l e R s m args below meth c Q nL pc lv [.int x] σ := fun H locs ls hP hS hl => W.zret C.ex C.cd C.rt hz (fun t ht _ => ⟨⟨_, σ, rfl, hq, by rw [ht]; exact hP⟩, hS.F ht⟩) hS.2.2 hd C.lk
theorem r_areturn {x : Nat} {cn : String} (C : Cx g p R s m args meth c cc nL own (some (.object cn)) h) (hd : decode cc pc = .ok (.areturn, 1)) (hq : Q (some (.ref x)) σ) : G g p l e R s m args below meth c Q nL pc lv [.ref x] σ := fun H locs ls hP hS hl => W.aret (v := .ref x) C.ex C.cd C.rt (Or.inl ⟨_, rfl⟩) (Or.inr ⟨_, rfl⟩) (fun t ht _ => ⟨⟨_, σ, rfl, hq, by rw [ht]; exact hP⟩, hS.F ht⟩) hS.2.2 hd C.lk
theorem G_run {H : Heap} {locs : List Loc} {ls : Array Slot} {st0 rest : List Value} {Q' : Option Value → Hp → Prop} {a : Array Value} (hr : va_Run p l e R s m args below meth c H locs 0 0 0 0 (F0 m pc ls st0) rest (QcOf g Q' a) (gA g)) (hS : va_S (gA g) s.heap H locs) (hl : lv_has ls nL lv) (k : ∀ r σ', Q' r σ' → G g p l e R s m args below meth c Q nL (pc + 3) lv (r.toList ++ rest) σ') : W p l e R s m args below meth c H locs 0 0 (MQ below (QcOf g Q) args s 0 0 (gA g)) (F0 m pc ls st0) := by
  intro T hT X
  obtain ⟨v, st₀, t, T', L, h0, X', hL, e1, e2, ⟨⟨r, σ', hv, hq, hp⟩, hz, hk⟩, st⟩ := hr T hT X
  cases hv
  rw [h0] at hz hk
  obtain ⟨t2, a1, b1⟩ := k v σ' hq T'.heap (locs ++ L) ls (by rw [e1]; exact hp)
    ⟨Nat.le_trans hS.1 (by rw [e1]; exact hz), fun q h1 h2 => by rw [e1, hk q (Nat.lt_of_lt_of_le h1 hS.1) h2]; exact hS.2.1 q h1 h2, fun q hq => by
      rcases List.mem_append.mp hq with h | h
      · exact hS.2.2 q h
      · exact hL q h⟩ hl T' rfl X'
  exact ⟨t2, st t2 a1, b1⟩
theorem Pc_blind {av : List Value} : FrameBlind (PcOf g av σ) := by
  intro a U g1 mk q
  obtain ⟨q0, q1, q2⟩ := q
  exact ⟨q0, q1, St.same rfl rfl q2⟩
theorem good_UU {y : MethodName} {c2 : ByteArray} {mL : Nat} {rt : Option FieldType} (hc : Cond.code y c2 mL rt ∈ UU) : GoodIn UU (.code y c2 mL rt :: UU) := by
  intro w hw
  rcases List.mem_cons.mp hw with rfl | hw
  · exact ⟨hc, good_of_word (UU_good hc)⟩
  · exact ⟨hw, good_of_word (UU_good hw)⟩
end GRows
def CWb (own : String) (index : Nat) (y : MethodName) (c2 : ByteArray) (mL : Nat) (rt : Option FieldType) (nA : Nat) : Prop := Cond.methodLink own index y ∈ UU ∧ Cond.initialized y.cls ∈ UU ∧ Cond.code y c2 mL rt ∈ UU ∧ (y.cls ≠ "java/lang/invoke/MethodHandle" ∧ y.cls ≠ "java/lang/invoke/VarHandle" ∧ (parseMethodDescriptor y.desc).map (fun d => d.parameters.length) = some nA) ∧ mL ≤ 45
def CWv (own : String) (index : Nat) (y : MethodName) (c2 : ByteArray) (mL : Nat) (rt : Option FieldType) (nA : Nat) : Prop := CWb own index y c2 mL rt nA ∧ Cond.instanceMethod y ∈ UU ∧ Cond.selects y.cls y y ∈ UU
def CWs (own : String) (index : Nat) (y : MethodName) (c2 : ByteArray) (mL : Nat) (rt : Option FieldType) (nA : Nat) : Prop := CWb own index y c2 mL rt nA ∧ Cond.static y ∈ UU
def CWn (own : String) (index : Nat) (y : MethodName) (c2 : ByteArray) (mL : Nat) (rt : Option FieldType) (nA : Nat) : Prop := (∃ host, (own, index, y, host) ∈ nestL) ∧ Cond.initialized y.cls ∈ UU ∧ Cond.code y c2 mL rt ∈ UU ∧ (y.cls ≠ "java/lang/invoke/MethodHandle" ∧ y.cls ≠ "java/lang/invoke/VarHandle" ∧ (parseMethodDescriptor y.desc).map (fun d => d.parameters.length) = some nA) ∧ mL ≤ 45 ∧ Cond.static y ∈ UU
section GCalls
variable {g : Gm} {p : Program} {l : Launch} {e : Env} {R : Room} {s : State} {m : MethodId} {args : Array Value} {below : List Frame} {meth : Method} {c : Code} {Q : Option Value → Hp → Prop} {cc : ByteArray} {nL : Nat} {own : String} {ret : Option FieldType} {h pc : Nat} {lv lv' : List (Nat × Value)} {st : List Value} {σ : Hp}
theorem callB_UU {y : MethodName} {c2 : ByteArray} {mL h2 index nA : Nat} {rt : Option FieldType} (C : Cx g p R s m args meth c cc nL own ret h) (w : CWb own index y c2 mL rt nA) (hh : h2 + 1 ≤ h) : CallB R s args own index y c2 mL rt (.code y c2 mL rt :: UU) (rmH h2) 0 0 nA := by
  obtain ⟨w1, w2, w3, w4, w5⟩ := w
  have hR := C.rm
  subst hR
  exact callB_of nA C.ts (good_UU w3) rfl rfl rfl (C.ts _ w2) (C.ts _ w1) w4 ⟨hh, by show 8 + (mL + 11) + 64 * h2 ≤ 64 * h; omega⟩
theorem r_callV {y : MethodName} {c2 : ByteArray} {mL h2 index nA n i : Nat} {rt : Option FieldType} {As st0 rest : List Value} {q : vw_C} {Q' : Option Value → Hp → Prop} (C : Cx g p R s m args meth c cc nL own ret h) (hd : decode cc pc = .ok (.invokevirtual index, 3)) (w : CWv own index y c2 mL rt nA) (hM : Ct l g y c2 mL rt h2 (.ref (gad g n i) :: As) σ Q') (hh : h2 + 1 ≤ h) (hc : vwCl[n]? = some q) (hy : q.1 = y.cls) (ha : akd n = 0) (hi : i < cnt n) (hst : st0 = As.reverse ++ .ref (gad g n i) :: rest) (hn : As.length = nA) (hrest : (rest.map fun v => v.category).sum ≤ 8) (k : ∀ r σ', Q' r σ' → G g p l e R s m args below meth c Q nL (pc + 3) lv (r.toList ++ rest) σ') : G g p l e R s m args below meth c Q nL pc lv st0 σ := by
  intro H locs ls hP hS hl
  obtain ⟨q0, -, hq0⟩ := WS_at g σ hi
  rw [cell_o ha] at hq0
  refine G_run (a := (Value.ref (gad g n i) :: As).toArray) (rest := rest) (va_runV (C := y.cls) (b := gad g n i) (As := As) (Ts := UU) ⟨C.ex, C.cd, C.ml, C.ow, C.ts⟩ hM ⟨callB_UU C w.1 hh, C.ts _ w.2.1, C.ts _ w.2.2⟩ ⟨Pc_blind, ?_, fun U hU hW => ⟨rfl, by rw [hU]; exact hP, C.so.call hS hU hW⟩⟩ rfl hn hl.1 hst (lv_room hrest) hd ⟨Nat.zero_le _, Nat.zero_le _⟩) hS hl k
  rw [← hy]
  exact va_recv C.so.2.1 hP hc hq0
theorem r_callS {y : MethodName} {c2 : ByteArray} {mL h2 index nA : Nat} {rt : Option FieldType} {As st0 rest : List Value} {Q' : Option Value → Hp → Prop} (C : Cx g p R s m args meth c cc nL own ret h) (hd : decode cc pc = .ok (.invokestatic index, 3)) (w : CWs own index y c2 mL rt nA) (hM : Ct l g y c2 mL rt h2 As σ Q') (hh : h2 + 1 ≤ h) (hst : st0 = As.reverse ++ rest) (hn : As.length = nA) (hrest : (rest.map fun v => v.category).sum ≤ 8) (k : ∀ r σ', Q' r σ' → G g p l e R s m args below meth c Q nL (pc + 3) lv (r.toList ++ rest) σ') : G g p l e R s m args below meth c Q nL pc lv st0 σ := by
  intro H locs ls hP hS hl
  exact G_run (a := As.toArray) (rest := rest) (va_runS (As := As) (Ts := UU) ⟨C.ex, C.cd, C.ml, C.ow, C.ts⟩ hM ⟨callB_UU C w.1 hh, C.ts _ w.2⟩ ⟨Pc_blind, fun U hU hW => ⟨rfl, by rw [hU]; exact hP, C.so.call hS hU hW⟩⟩ rfl hn hl.1 hst (lv_room hrest) hd ⟨Nat.zero_le _, Nat.zero_le _⟩) hS hl k
theorem r_callN {y : MethodName} {c2 : ByteArray} {mL h2 index nA : Nat} {rt : Option FieldType} {As st0 rest : List Value} {Q' : Option Value → Hp → Prop} (C : Cx g p R s m args meth c cc nL own ret h) (hd : decode cc pc = .ok (.invokestatic index, 3)) (w : CWn own index y c2 mL rt nA) (hM : Ct l g y c2 mL rt h2 As σ Q') (hh : h2 + 1 ≤ h) (hst : st0 = As.reverse ++ rest) (hn : As.length = nA) (hrest : (rest.map fun v => v.category).sum ≤ 8) (k : ∀ r σ', Q' r σ' → G g p l e R s m args below meth c Q nL (pc + 3) lv (r.toList ++ rest) σ') : G g p l e R s m args below meth c Q nL pc lv st0 σ := by
  intro H locs ls hP hS hl
  obtain ⟨⟨host, w0⟩, w2, w3, w4, w5, w6⟩ := w
  have hR := C.rm
  subst hR
  exact G_run (a := As.toArray) (rest := rest) (va_runSN (As := As) (Ts := UU) (host := host) ⟨C.ex, C.cd, C.ml, C.ow, C.ts⟩ hM ⟨va_cnB nA C.ts (good_UU w3) rfl rfl rfl (C.so.2.2.1 _ w0) (C.ts _ w2) w4 ⟨hh, by show 8 + (mL + 11) + 64 * h2 ≤ 64 * h; omega⟩, C.ts _ w6, trivial⟩ ⟨Pc_blind, fun U hU hW => ⟨rfl, by rw [hU]; exact hP, C.so.call hS hU hW⟩⟩ rfl hn hl.1 hst (lv_room hrest) hd ⟨Nat.zero_le _, Nat.zero_le _⟩) hS hl k
theorem r_max {x y : Int32} {index : Nat} (C : Cx g p R s m args meth c cc nL own ret h) (hd : decode cc pc = .ok (.invokestatic index, 3)) (w1 : Cond.methodLink own index Lib.Math.max.name ∈ UU) (w2 : Cond.static Lib.Math.max.name ∈ UU) (w3 : Cond.initialized "java/lang/Math" ∈ UU) (w4 : Cond.code Lib.Math.max.name Lib.Math.max.code 2 (some .int) ∈ UU) (hh : 1 ≤ h) (hrest : (st.map fun v => v.category).sum ≤ 8) (k : G g p l e R s m args below meth c Q nL (pc + 3) lv (.int (if x < y then y else x) :: st) σ) : G g p l e R s m args below meth c Q nL pc lv (.int y :: .int x :: st) σ := by
  intro H locs ls hP hS hl
  have hR := C.rm
  subst hR
  exact va_mmax C.ex C.cd (C.ml.trans hl.1.symm) C.ow (C.ts _ w1) (C.ts _ w2) (C.ts _ w3) (C.ts _ w4) hh (by show _ ≤ 64 * h; omega) (Nat.zero_le _) (Nat.zero_le _) hd (k H locs ls hP hS hl)
theorem r_min {x y : Int32} {index : Nat} (C : Cx g p R s m args meth c cc nL own ret h) (hd : decode cc pc = .ok (.invokestatic index, 3)) (w1 : Cond.methodLink own index Lib.Math.min.name ∈ UU) (w2 : Cond.static Lib.Math.min.name ∈ UU) (w3 : Cond.initialized "java/lang/Math" ∈ UU) (w4 : Cond.code Lib.Math.min.name Lib.Math.min.code 2 (some .int) ∈ UU) (hh : 1 ≤ h) (hrest : (st.map fun v => v.category).sum ≤ 8) (k : G g p l e R s m args below meth c Q nL (pc + 3) lv (.int (if y < x then y else x) :: st) σ) : G g p l e R s m args below meth c Q nL pc lv (.int y :: .int x :: st) σ := by
  intro H locs ls hP hS hl
  have hR := C.rm
  subst hR
  exact va_mmin C.ex C.cd (C.ml.trans hl.1.symm) C.ow (C.ts _ w1) (C.ts _ w2) (C.ts _ w3) (C.ts _ w4) hh (by show _ ≤ 64 * h; omega) (Nat.zero_le _) (Nat.zero_le _) hd (k H locs ls hP hS hl)
/-- a copy of one int row over another -/
def cpyI (σ : Hp) (n i a b sp dp k : Nat) : Hp := (fun x y z => if x = a ∧ y = b then va_cpy (σ.1 n i) (σ.1 a b) sp dp k z else σ.1 x y z, σ.2)
theorem r_arraycopy {n i a b index : Nat} {sp dp z : Int32} (C : Cx g p R s m args meth c cc nL own ret h) (hd : decode cc pc = .ok (.invokestatic index, 3)) (w1 : Cond.methodLink own index arraycopyName ∈ UU) (w2 : Cond.native arraycopyName ∈ UU) (w3 : Cond.static arraycopyName ∈ UU) (w4 : Cond.initialized "java/lang/System" ∈ UU) (ha : akd n = 1) (hi : i < cnt n) (hb : akd a = 1) (hj : b < cnt a) (h1 : ¬ sp < 0) (h2 : ¬ dp < 0) (h3 : ¬ z < 0) (h4 : sp.toNatClampNeg + z.toNatClampNeg ≤ aln n) (h5 : dp.toNatClampNeg + z.toNatClampNeg ≤ aln a) (hh : 1 ≤ h) (hrest : (st.map fun v => v.category).sum ≤ 8) (k : G g p l e R s m args below meth c Q nL (pc + 3) lv st (cpyI σ n i a b sp.toNatClampNeg dp.toNatClampNeg z.toNatClampNeg)) : G g p l e R s m args below meth c Q nL pc lv (.int z :: .int dp :: .ref (gad g a b) :: .int sp :: .ref (gad g n i) :: st) σ := by
  intro H locs ls hP hS hl
  have hR := C.rm
  subst hR
  obtain ⟨q, -, hq⟩ := WS_at g σ hi
  obtain ⟨q1, hq0, hq1⟩ := WS_at g σ hj
  rw [cell_i ha] at hq
  rw [cell_i hb] at hq1
  refine va_copyi C.ex C.cd (C.ml.trans hl.1.symm) C.ow (C.ts _ w1) (C.ts _ w2) (C.ts _ w3) (C.ts _ w4) C.so.2.1 hP (WS_D C.so.1 σ) hS q q1 1 1 hq hq1 rfl rfl rfl h1 h2 h3 h4 h5 (fun _ _ => rfl) hh ?_ hd (fun H1 locs1 hP1 _ hS1 => k H1 locs1 ls (WS_set hq0 hP1 ?_ ?_) hS1 hl)
  · have : nativeFrameWords "java/lang/System" "arraycopy" 5 ≤ 40 := by decide +kernel
    show _ ≤ 64 * h
    omega
  · rw [cell_i hb]
    have : (cpyI σ n i a b sp.toNatClampNeg dp.toNatClampNeg z.toNatClampNeg).1 a b = va_cpy (σ.1 n i) (σ.1 a b) sp.toNatClampNeg dp.toNatClampNeg z.toNatClampNeg := by
      funext w
      simp [cpyI]
    rw [this]
  · intro x y _ hxy
    unfold cell
    have : (cpyI σ n i a b sp.toNatClampNeg dp.toNatClampNeg z.toNatClampNeg).1 x y = σ.1 x y := by
      funext w
      exact if_neg hxy
    rw [this]
    rfl
end GCalls
end
section
theorem inU0 : ∀ w ∈ u_ws RX0 TX0 11, w ∈ UU := List.forall_mem_cons.mpr ⟨u2_64, List.forall_mem_cons.mpr ⟨u2_66, List.forall_mem_cons.mpr ⟨u2_68, List.forall_mem_cons.mpr ⟨u2_70, List.forall_mem_cons.mpr ⟨u2_72, List.forall_mem_cons.mpr ⟨u2_74, List.forall_mem_cons.mpr ⟨u2_76, List.forall_mem_cons.mpr ⟨u2_78, List.forall_mem_cons.mpr ⟨u2_80, List.forall_mem_cons.mpr ⟨u2_82, List.forall_mem_cons.mpr ⟨u2_84, fun _ h => absurd h List.not_mem_nil⟩⟩⟩⟩⟩⟩⟩⟩⟩⟩⟩
theorem inU1 : ∀ w ∈ u_ws RX1 TX1 4, w ∈ UU := List.forall_mem_cons.mpr ⟨u1_225, List.forall_mem_cons.mpr ⟨u1_227, List.forall_mem_cons.mpr ⟨u1_229, List.forall_mem_cons.mpr ⟨u1_231, fun _ h => absurd h List.not_mem_nil⟩⟩⟩⟩
theorem inU2 : ∀ w ∈ u_ws RX2 TX2 16, w ∈ UU := List.forall_mem_cons.mpr ⟨u1_137, List.forall_mem_cons.mpr ⟨u1_139, List.forall_mem_cons.mpr ⟨u1_141, List.forall_mem_cons.mpr ⟨u1_143, List.forall_mem_cons.mpr ⟨u1_145, List.forall_mem_cons.mpr ⟨u1_147, List.forall_mem_cons.mpr ⟨u1_149, List.forall_mem_cons.mpr ⟨u1_151, List.forall_mem_cons.mpr ⟨u1_153, List.forall_mem_cons.mpr ⟨u1_155, List.forall_mem_cons.mpr ⟨u1_157, List.forall_mem_cons.mpr ⟨u1_159, List.forall_mem_cons.mpr ⟨u1_161, List.forall_mem_cons.mpr ⟨u1_163, List.forall_mem_cons.mpr ⟨u1_165, List.forall_mem_cons.mpr ⟨u1_167, fun _ h => absurd h List.not_mem_nil⟩⟩⟩⟩⟩⟩⟩⟩⟩⟩⟩⟩⟩⟩⟩⟩
theorem inU3 : ∀ w ∈ u_ws RX3 TX3 8, w ∈ UU := List.forall_mem_cons.mpr ⟨u2_27, List.forall_mem_cons.mpr ⟨u2_29, List.forall_mem_cons.mpr ⟨u2_31, List.forall_mem_cons.mpr ⟨u2_33, List.forall_mem_cons.mpr ⟨u2_35, List.forall_mem_cons.mpr ⟨u2_37, List.forall_mem_cons.mpr ⟨u2_39, List.forall_mem_cons.mpr ⟨u2_41, fun _ h => absurd h List.not_mem_nil⟩⟩⟩⟩⟩⟩⟩⟩
theorem inU4 : ∀ w ∈ u_ws RX4 TX4 12, w ∈ UU := List.forall_mem_cons.mpr ⟨u1_185, List.forall_mem_cons.mpr ⟨u1_187, List.forall_mem_cons.mpr ⟨u1_189, List.forall_mem_cons.mpr ⟨u1_191, List.forall_mem_cons.mpr ⟨u1_193, List.forall_mem_cons.mpr ⟨u1_195, List.forall_mem_cons.mpr ⟨u1_197, List.forall_mem_cons.mpr ⟨u1_199, List.forall_mem_cons.mpr ⟨u1_201, List.forall_mem_cons.mpr ⟨u1_203, List.forall_mem_cons.mpr ⟨u1_205, List.forall_mem_cons.mpr ⟨u1_207, fun _ h => absurd h List.not_mem_nil⟩⟩⟩⟩⟩⟩⟩⟩⟩⟩⟩⟩
theorem inU5 : ∀ w ∈ u_ws RX5 TX5 12, w ∈ UU := List.forall_mem_cons.mpr ⟨u2_111, List.forall_mem_cons.mpr ⟨u2_113, List.forall_mem_cons.mpr ⟨u2_115, List.forall_mem_cons.mpr ⟨u2_117, List.forall_mem_cons.mpr ⟨u2_119, List.forall_mem_cons.mpr ⟨u2_121, List.forall_mem_cons.mpr ⟨u2_123, List.forall_mem_cons.mpr ⟨u2_125, List.forall_mem_cons.mpr ⟨u2_127, List.forall_mem_cons.mpr ⟨u2_129, List.forall_mem_cons.mpr ⟨u2_131, List.forall_mem_cons.mpr ⟨u2_133, fun _ h => absurd h List.not_mem_nil⟩⟩⟩⟩⟩⟩⟩⟩⟩⟩⟩⟩
theorem inU6 : ∀ w ∈ u_ws RX6 TX6 5, w ∈ UU := List.forall_mem_cons.mpr ⟨u1_60, List.forall_mem_cons.mpr ⟨u1_62, List.forall_mem_cons.mpr ⟨u1_64, List.forall_mem_cons.mpr ⟨u1_66, List.forall_mem_cons.mpr ⟨u1_68, fun _ h => absurd h List.not_mem_nil⟩⟩⟩⟩⟩
theorem inU7 : ∀ w ∈ u_ws RX7 TX7 10, w ∈ UU := List.forall_mem_cons.mpr ⟨u2_146, List.forall_mem_cons.mpr ⟨u2_148, List.forall_mem_cons.mpr ⟨u2_150, List.forall_mem_cons.mpr ⟨u2_152, List.forall_mem_cons.mpr ⟨u2_154, List.forall_mem_cons.mpr ⟨u2_156, List.forall_mem_cons.mpr ⟨u2_158, List.forall_mem_cons.mpr ⟨u2_160, List.forall_mem_cons.mpr ⟨u2_162, List.forall_mem_cons.mpr ⟨u2_164, fun _ h => absurd h List.not_mem_nil⟩⟩⟩⟩⟩⟩⟩⟩⟩⟩
theorem inU8 : ∀ w ∈ u_ws RX8 TX8 29, w ∈ UU := List.forall_mem_cons.mpr ⟨u5_156, List.forall_mem_cons.mpr ⟨u5_158, List.forall_mem_cons.mpr ⟨u5_160, List.forall_mem_cons.mpr ⟨u5_162, List.forall_mem_cons.mpr ⟨u5_164, List.forall_mem_cons.mpr ⟨u5_166, List.forall_mem_cons.mpr ⟨u5_168, List.forall_mem_cons.mpr ⟨u5_170, List.forall_mem_cons.mpr ⟨u5_172, List.forall_mem_cons.mpr ⟨u5_174, List.forall_mem_cons.mpr ⟨u5_176, List.forall_mem_cons.mpr ⟨u5_178, List.forall_mem_cons.mpr ⟨u5_180, List.forall_mem_cons.mpr ⟨u5_182, List.forall_mem_cons.mpr ⟨u5_184, List.forall_mem_cons.mpr ⟨u5_186, List.forall_mem_cons.mpr ⟨u5_188, List.forall_mem_cons.mpr ⟨u5_190, List.forall_mem_cons.mpr ⟨u5_192, List.forall_mem_cons.mpr ⟨u5_194, List.forall_mem_cons.mpr ⟨u5_196, List.forall_mem_cons.mpr ⟨u5_198, List.forall_mem_cons.mpr ⟨u5_200, List.forall_mem_cons.mpr ⟨u5_202, List.forall_mem_cons.mpr ⟨u5_204, List.forall_mem_cons.mpr ⟨u5_206, List.forall_mem_cons.mpr ⟨u5_208, List.forall_mem_cons.mpr ⟨u5_210, List.forall_mem_cons.mpr ⟨u5_212, fun _ h => absurd h List.not_mem_nil⟩⟩⟩⟩⟩⟩⟩⟩⟩⟩⟩⟩⟩⟩⟩⟩⟩⟩⟩⟩⟩⟩⟩⟩⟩⟩⟩⟩⟩
theorem cn_0 {i : Nat} (h : i < 3) : i < cnt 0 := h
theorem ak_0 : akd 0 = 0 := rfl
theorem cn_1 {i : Nat} (h : i < 1) : i < cnt 1 := h
theorem ak_1 : akd 1 = 0 := rfl
theorem cn_2 {i : Nat} (h : i < 2) : i < cnt 2 := h
theorem ak_2 : akd 2 = 0 := rfl
theorem cn_3 {i : Nat} (h : i < 3) : i < cnt 3 := h
theorem ak_3 : akd 3 = 0 := rfl
theorem cn_4 {i : Nat} (h : i < 1) : i < cnt 4 := h
theorem ak_4 : akd 4 = 0 := rfl
theorem cn_5 {i : Nat} (h : i < 3) : i < cnt 5 := h
theorem ak_5 : akd 5 = 0 := rfl
theorem cn_6 {i : Nat} (h : i < 2) : i < cnt 6 := h
theorem ak_6 : akd 6 = 0 := rfl
theorem cn_7 {i : Nat} (h : i < 1) : i < cnt 7 := h
theorem ak_7 : akd 7 = 0 := rfl
theorem cn_8 {i : Nat} (h : i < 1) : i < cnt 8 := h
theorem ak_8 : akd 8 = 0 := rfl
theorem cn_9 {i : Nat} (h : i < 3) : i < cnt 9 := h
theorem ak_9 : akd 9 = 1 := rfl
theorem al_9 : aln 9 = 24 := rfl
theorem cn_10 {i : Nat} (h : i < 3) : i < cnt 10 := h
theorem ak_10 : akd 10 = 1 := rfl
theorem al_10 : aln 10 = 24 := rfl
theorem cn_11 {i : Nat} (h : i < 3) : i < cnt 11 := h
theorem ak_11 : akd 11 = 1 := rfl
theorem al_11 : aln 11 = 24 := rfl
theorem cn_12 {i : Nat} (h : i < 3) : i < cnt 12 := h
theorem ak_12 : akd 12 = 1 := rfl
theorem al_12 : aln 12 = 24 := rfl
theorem cn_13 {i : Nat} (h : i < 3) : i < cnt 13 := h
theorem ak_13 : akd 13 = 1 := rfl
theorem al_13 : aln 13 = 24 := rfl
theorem cn_14 {i : Nat} (h : i < 3) : i < cnt 14 := h
theorem ak_14 : akd 14 = 1 := rfl
theorem al_14 : aln 14 = 24 := rfl
theorem cn_15 {i : Nat} (h : i < 3) : i < cnt 15 := h
theorem ak_15 : akd 15 = 1 := rfl
theorem al_15 : aln 15 = 24 := rfl
theorem cn_16 {i : Nat} (h : i < 3) : i < cnt 16 := h
theorem ak_16 : akd 16 = 1 := rfl
theorem al_16 : aln 16 = 24 := rfl
theorem cn_17 {i : Nat} (h : i < 3) : i < cnt 17 := h
theorem ak_17 : akd 17 = 1 := rfl
theorem al_17 : aln 17 = 48 := rfl
theorem cn_18 {i : Nat} (h : i < 3) : i < cnt 18 := h
theorem ak_18 : akd 18 = 1 := rfl
theorem al_18 : aln 18 = 240 := rfl
theorem cn_19 {i : Nat} (h : i < 1) : i < cnt 19 := h
theorem ak_19 : akd 19 = 1 := rfl
theorem al_19 : aln 19 = 16 := rfl
theorem cn_20 {i : Nat} (h : i < 1) : i < cnt 20 := h
theorem ak_20 : akd 20 = 2 := rfl
theorem al_20 : aln 20 = 16 := rfl
theorem cn_21 {i : Nat} (h : i < 1) : i < cnt 21 := h
theorem ak_21 : akd 21 = 2 := rfl
theorem al_21 : aln 21 = 128 := rfl
theorem cn_22 {i : Nat} (h : i < 2) : i < cnt 22 := h
theorem ak_22 : akd 22 = 1 := rfl
theorem al_22 : aln 22 = 6 := rfl
theorem cn_23 {i : Nat} (h : i < 2) : i < cnt 23 := h
theorem ak_23 : akd 23 = 2 := rfl
theorem al_23 : aln 23 = 6 := rfl
theorem cn_24 {i : Nat} (h : i < 2) : i < cnt 24 := h
theorem ak_24 : akd 24 = 2 := rfl
theorem al_24 : aln 24 = 8 := rfl
theorem cn_25 {i : Nat} (h : i < 2) : i < cnt 25 := h
theorem ak_25 : akd 25 = 1 := rfl
theorem al_25 : aln 25 = 8 := rfl
theorem cn_26 {i : Nat} (h : i < 2) : i < cnt 26 := h
theorem ak_26 : akd 26 = 1 := rfl
theorem al_26 : aln 26 = 8 := rfl
theorem cn_27 {i : Nat} (h : i < 2) : i < cnt 27 := h
theorem ak_27 : akd 27 = 1 := rfl
theorem al_27 : aln 27 = 8 := rfl
theorem cn_28 {i : Nat} (h : i < 2) : i < cnt 28 := h
theorem ak_28 : akd 28 = 1 := rfl
theorem al_28 : aln 28 = 8 := rfl
theorem cn_29 {i : Nat} (h : i < 2) : i < cnt 29 := h
theorem ak_29 : akd 29 = 1 := rfl
theorem al_29 : aln 29 = 24 := rfl
theorem cn_30 {i : Nat} (h : i < 3) : i < cnt 30 := h
theorem ak_30 : akd 30 = 1 := rfl
theorem al_30 : aln 30 = 32 := rfl
theorem cn_31 {i : Nat} (h : i < 3) : i < cnt 31 := h
theorem ak_31 : akd 31 = 1 := rfl
theorem al_31 : aln 31 = 32 := rfl
theorem cn_32 {i : Nat} (h : i < 3) : i < cnt 32 := h
theorem ak_32 : akd 32 = 1 := rfl
theorem al_32 : aln 32 = 32 := rfl
theorem cn_33 {i : Nat} (h : i < 3) : i < cnt 33 := h
theorem ak_33 : akd 33 = 1 := rfl
theorem al_33 : aln 33 = 32 := rfl
theorem cn_34 {i : Nat} (h : i < 3) : i < cnt 34 := h
theorem ak_34 : akd 34 = 1 := rfl
theorem al_34 : aln 34 = 384 := rfl
theorem cn_35 {i : Nat} (h : i < 3) : i < cnt 35 := h
theorem ak_35 : akd 35 = 1 := rfl
theorem al_35 : aln 35 = 384 := rfl
theorem cn_36 {i : Nat} (h : i < 3) : i < cnt 36 := h
theorem ak_36 : akd 36 = 1 := rfl
theorem al_36 : aln 36 = 384 := rfl
theorem cn_37 {i : Nat} (h : i < 1) : i < cnt 37 := h
theorem ak_37 : akd 37 = 3 := rfl
theorem al_37 : aln 37 = 900 := rfl
theorem cn_38 {i : Nat} (h : i < 3) : i < cnt 38 := h
theorem ak_38 : akd 38 = 1 := rfl
theorem al_38 : aln 38 = 2 := rfl
theorem cn_39 {i : Nat} (h : i < 3) : i < cnt 39 := h
theorem ak_39 : akd 39 = 1 := rfl
theorem al_39 : aln 39 = 6 := rfl
theorem cn_40 {i : Nat} (h : i < 3) : i < cnt 40 := h
theorem ak_40 : akd 40 = 1 := rfl
theorem al_40 : aln 40 = 8 := rfl
theorem cn_41 {i : Nat} (h : i < 3) : i < cnt 41 := h
theorem ak_41 : akd 41 = 1 := rfl
theorem al_41 : aln 41 = 8 := rfl
theorem cn_42 {i : Nat} (h : i < 3) : i < cnt 42 := h
theorem ak_42 : akd 42 = 1 := rfl
theorem al_42 : aln 42 = 8 := rfl
theorem cn_43 {i : Nat} (h : i < 3) : i < cnt 43 := h
theorem ak_43 : akd 43 = 1 := rfl
theorem al_43 : aln 43 = 8 := rfl
theorem cn_44 {i : Nat} (h : i < 3) : i < cnt 44 := h
theorem ak_44 : akd 44 = 1 := rfl
theorem al_44 : aln 44 = 8 := rfl
theorem cn_45 {i : Nat} (h : i < 3) : i < cnt 45 := h
theorem ak_45 : akd 45 = 1 := rfl
theorem al_45 : aln 45 = 16 := rfl
theorem cn_46 {i : Nat} (h : i < 3) : i < cnt 46 := h
theorem ak_46 : akd 46 = 1 := rfl
theorem al_46 : aln 46 = 16 := rfl
theorem cn_47 {i : Nat} (h : i < 2) : i < cnt 47 := h
theorem ak_47 : akd 47 = 1 := rfl
theorem al_47 : aln 47 = 96 := rfl
theorem cn_48 {i : Nat} (h : i < 2) : i < cnt 48 := h
theorem ak_48 : akd 48 = 1 := rfl
theorem al_48 : aln 48 = 24 := rfl
theorem cn_49 {i : Nat} (h : i < 2) : i < cnt 49 := h
theorem ak_49 : akd 49 = 1 := rfl
theorem al_49 : aln 49 = 16 := rfl
theorem cn_50 {i : Nat} (h : i < 2) : i < cnt 50 := h
theorem ak_50 : akd 50 = 1 := rfl
theorem al_50 : aln 50 = 128 := rfl
theorem cn_51 {i : Nat} (h : i < 2) : i < cnt 51 := h
theorem ak_51 : akd 51 = 1 := rfl
theorem al_51 : aln 51 = 128 := rfl
theorem cn_52 {i : Nat} (h : i < 1) : i < cnt 52 := h
theorem ak_52 : akd 52 = 1 := rfl
theorem al_52 : aln 52 = 900 := rfl
theorem cn_53 {i : Nat} (h : i < 1) : i < cnt 53 := h
theorem ak_53 : akd 53 = 1 := rfl
theorem al_53 : aln 53 = 7 := rfl
theorem cn_54 {i : Nat} (h : i < 1) : i < cnt 54 := h
theorem ak_54 : akd 54 = 1 := rfl
theorem al_54 : aln 54 = 7 := rfl
theorem cn_55 {i : Nat} (h : i < 1) : i < cnt 55 := h
theorem ak_55 : akd 55 = 1 := rfl
theorem al_55 : aln 55 = 6 := rfl
theorem cn_56 {i : Nat} (h : i < 1) : i < cnt 56 := h
theorem ak_56 : akd 56 = 1 := rfl
theorem al_56 : aln 56 = 6 := rfl
theorem cn_57 {i : Nat} (h : i < 1) : i < cnt 57 := h
theorem ak_57 : akd 57 = 1 := rfl
theorem al_57 : aln 57 = 56 := rfl
theorem cn_58 {i : Nat} (h : i < 1) : i < cnt 58 := h
theorem ak_58 : akd 58 = 1 := rfl
theorem al_58 : aln 58 = 56 := rfl
theorem cn_59 {i : Nat} (h : i < 1) : i < cnt 59 := h
theorem ak_59 : akd 59 = 2 := rfl
theorem al_59 : aln 59 = 14 := rfl
theorem cn_60 {i : Nat} (h : i < 1) : i < cnt 60 := h
theorem ak_60 : akd 60 = 2 := rfl
theorem al_60 : aln 60 = 14 := rfl
theorem cn_61 {i : Nat} (h : i < 1) : i < cnt 61 := h
theorem ak_61 : akd 61 = 1 := rfl
theorem al_61 : aln 61 = 1809 := rfl
theorem cn_62 {i : Nat} (h : i < 1) : i < cnt 62 := h
theorem ak_62 : akd 62 = 1 := rfl
theorem al_62 : aln 62 = 1809 := rfl
theorem cn_63 {i : Nat} (h : i < 1) : i < cnt 63 := h
theorem ak_63 : akd 63 = 1 := rfl
theorem al_63 : aln 63 = 1809 := rfl
theorem cn_64 {i : Nat} (h : i < 1) : i < cnt 64 := h
theorem ak_64 : akd 64 = 2 := rfl
theorem al_64 : aln 64 = 1 := rfl
def zb (v : Int32) : Prop := narrow .boolean (.int v) = .int v ∧ fits .boolean (.int v) = true
theorem zb0 : zb 0 := ⟨by decide +kernel, by decide +kernel⟩
theorem zb1 : zb 1 := ⟨by decide +kernel, by decide +kernel⟩
theorem cell_sR0 {g : Gm} {σ : Hp} {v : Nat} (a b : Nat) (hb : b < cnt a) (h : ¬ (a = 7 ∧ b = 0)) : cell g (sR σ 0 v) a b = cell g σ a b := by
  match a, hb, h with
  | 0, _, _ => rfl
  | 1, _, _ => rfl
  | 2, _, _ => rfl
  | 3, _, _ => rfl
  | 4, _, _ => rfl
  | 5, _, _ => rfl
  | 6, _, _ => rfl
  | 7, hb, h => exact absurd ⟨rfl, Nat.lt_one_iff.mp hb⟩ h
  | 8, _, _ => rfl
  | n + 9, _, _ => rfl
theorem cell_sR1 {g : Gm} {σ : Hp} {v : Nat} (a b : Nat) (hb : b < cnt a) (h : ¬ (a = 4 ∧ b = 0)) : cell g (sR σ 1 v) a b = cell g σ a b := by
  match a, hb, h with
  | 0, _, _ => rfl
  | 1, _, _ => rfl
  | 2, _, _ => rfl
  | 3, _, _ => rfl
  | 4, hb, h => exact absurd ⟨rfl, Nat.lt_one_iff.mp hb⟩ h
  | 5, _, _ => rfl
  | 6, _, _ => rfl
  | 7, _, _ => rfl
  | 8, _, _ => rfl
  | n + 9, _, _ => rfl
section GLinks
variable {g : Gm} {p : Program} {l : Launch} {e : Env} {R : Room} {s : State} {m : MethodId} {args : Array Value} {below : List Frame} {meth : Method} {c : Code} {Q : Option Value → Hp → Prop} {cc : ByteArray} {nL : Nat} {ret : Option FieldType} {h pc : Nat} {lv lv' : List (Nat × Value)} {st : List Value} {σ : Hp}
theorem gf_6_9 {i : Nat} (C : Cx g p R s m args meth c cc nL RX6 ret h) (hd : decode cc pc = .ok (.getfield 9, 3)) (hi : i < cnt 6) (k : G g p l e R s m args below meth c Q nL (pc + 3) lv (.ref (gad g 47 i) :: st) σ) : G g p l e R s m args below meth c Q nL pc lv (.ref (gad g 6 i) :: st) σ := r_get (j := 0) C hd rfl inU6 rfl (by decide) u1_50 rfl hi rfl k
theorem gf_6_15 {i : Nat} (C : Cx g p R s m args meth c cc nL RX6 ret h) (hd : decode cc pc = .ok (.getfield 15, 3)) (hi : i < cnt 6) (k : G g p l e R s m args below meth c Q nL (pc + 3) lv (.ref (gad g 48 i) :: st) σ) : G g p l e R s m args below meth c Q nL pc lv (.ref (gad g 6 i) :: st) σ := r_get (j := 1) C hd rfl inU6 rfl (by decide) u1_51 rfl hi rfl k
theorem gf_1_80 {i : Nat} (C : Cx g p R s m args meth c cc nL RX1 ret h) (hd : decode cc pc = .ok (.getfield 80, 3)) (hi : i < cnt 6) (k : G g p l e R s m args below meth c Q nL (pc + 3) lv (.ref (gad g 48 i) :: st) σ) : G g p l e R s m args below meth c Q nL pc lv (.ref (gad g 6 i) :: st) σ := r_get (j := 1) C hd rfl inU6 rfl (by decide) u1_52 rfl hi rfl k
theorem gf_7_348 {i : Nat} (C : Cx g p R s m args meth c cc nL RX7 ret h) (hd : decode cc pc = .ok (.getfield 348, 3)) (hi : i < cnt 6) (k : G g p l e R s m args below meth c Q nL (pc + 3) lv (.ref (gad g 48 i) :: st) σ) : G g p l e R s m args below meth c Q nL pc lv (.ref (gad g 6 i) :: st) σ := r_get (j := 1) C hd rfl inU6 rfl (by decide) u1_53 rfl hi rfl k
theorem gf_6_18 {i : Nat} (C : Cx g p R s m args meth c cc nL RX6 ret h) (hd : decode cc pc = .ok (.getfield 18, 3)) (hi : i < cnt 6) (k : G g p l e R s m args below meth c Q nL (pc + 3) lv (.ref (gad g 49 i) :: st) σ) : G g p l e R s m args below meth c Q nL pc lv (.ref (gad g 6 i) :: st) σ := r_get (j := 2) C hd rfl inU6 rfl (by decide) u1_54 rfl hi rfl k
theorem gf_7_291 {i : Nat} (C : Cx g p R s m args meth c cc nL RX7 ret h) (hd : decode cc pc = .ok (.getfield 291, 3)) (hi : i < cnt 6) (k : G g p l e R s m args below meth c Q nL (pc + 3) lv (.ref (gad g 49 i) :: st) σ) : G g p l e R s m args below meth c Q nL pc lv (.ref (gad g 6 i) :: st) σ := r_get (j := 2) C hd rfl inU6 rfl (by decide) u1_55 rfl hi rfl k
theorem gf_6_21 {i : Nat} (C : Cx g p R s m args meth c cc nL RX6 ret h) (hd : decode cc pc = .ok (.getfield 21, 3)) (hi : i < cnt 6) (k : G g p l e R s m args below meth c Q nL (pc + 3) lv (.ref (gad g 50 i) :: st) σ) : G g p l e R s m args below meth c Q nL pc lv (.ref (gad g 6 i) :: st) σ := r_get (j := 3) C hd rfl inU6 rfl (by decide) u1_56 rfl hi rfl k
theorem gf_5_176 {i : Nat} (C : Cx g p R s m args meth c cc nL RX5 ret h) (hd : decode cc pc = .ok (.getfield 176, 3)) (hi : i < cnt 6) (k : G g p l e R s m args below meth c Q nL (pc + 3) lv (.ref (gad g 50 i) :: st) σ) : G g p l e R s m args below meth c Q nL pc lv (.ref (gad g 6 i) :: st) σ := r_get (j := 3) C hd rfl inU6 rfl (by decide) u1_57 rfl hi rfl k
theorem gf_6_24 {i : Nat} (C : Cx g p R s m args meth c cc nL RX6 ret h) (hd : decode cc pc = .ok (.getfield 24, 3)) (hi : i < cnt 6) (k : G g p l e R s m args below meth c Q nL (pc + 3) lv (.ref (gad g 51 i) :: st) σ) : G g p l e R s m args below meth c Q nL pc lv (.ref (gad g 6 i) :: st) σ := r_get (j := 4) C hd rfl inU6 rfl (by decide) u1_58 rfl hi rfl k
theorem gf_1_68 {i : Nat} (C : Cx g p R s m args meth c cc nL RX1 ret h) (hd : decode cc pc = .ok (.getfield 68, 3)) (hi : i < cnt 6) (k : G g p l e R s m args below meth c Q nL (pc + 3) lv (.ref (gad g 51 i) :: st) σ) : G g p l e R s m args below meth c Q nL pc lv (.ref (gad g 6 i) :: st) σ := r_get (j := 4) C hd rfl inU6 rfl (by decide) u1_59 rfl hi rfl k
theorem gf_2_9 {i : Nat} (C : Cx g p R s m args meth c cc nL RX2 ret h) (hd : decode cc pc = .ok (.getfield 9, 3)) (hi : i < cnt 2) (k : G g p l e R s m args below meth c Q nL (pc + 3) lv (.int (gI σ 2 i 0) :: st) σ) : G g p l e R s m args below meth c Q nL pc lv (.ref (gad g 2 i) :: st) σ := r_get (j := 0) C hd rfl inU2 rfl (by decide) u1_74 rfl hi rfl k
theorem pf_2_9 {i : Nat} {v : Int32} (C : Cx g p R s m args meth c cc nL RX2 ret h) (hd : decode cc pc = .ok (.putfield 9, 3)) (hi : i < cnt 2) (k : G g p l e R s m args below meth c Q nL (pc + 3) lv st (sI σ 2 i 0 v)) : G g p l e R s m args below meth c Q nL pc lv (.int v :: .ref (gad g 2 i) :: st) σ := r_put (j := 0) C hd rfl inU2 tyX2 tyX2_ok nmX2 rfl (by decide) u1_74 rfl rfl (ty := .int) (by decide +kernel) rfl rfl hi (Nat.le_of_ble_eq_true rfl) (by simp [fsOf, fsO, fsp, fval, sI]) (fun _ _ _ q => cell_sI_ne q) k
theorem gf_4_102 {i : Nat} (C : Cx g p R s m args meth c cc nL RX4 ret h) (hd : decode cc pc = .ok (.getfield 102, 3)) (hi : i < cnt 2) (k : G g p l e R s m args below meth c Q nL (pc + 3) lv (.int (gI σ 2 i 0) :: st) σ) : G g p l e R s m args below meth c Q nL pc lv (.ref (gad g 2 i) :: st) σ := r_get (j := 0) C hd rfl inU2 rfl (by decide) u1_75 rfl hi rfl k
theorem pf_4_102 {i : Nat} {v : Int32} (C : Cx g p R s m args meth c cc nL RX4 ret h) (hd : decode cc pc = .ok (.putfield 102, 3)) (hi : i < cnt 2) (k : G g p l e R s m args below meth c Q nL (pc + 3) lv st (sI σ 2 i 0 v)) : G g p l e R s m args below meth c Q nL pc lv (.int v :: .ref (gad g 2 i) :: st) σ := r_put (j := 0) C hd rfl inU2 tyX2 tyX2_ok nmX2 rfl (by decide) u1_75 rfl rfl (ty := .int) (by decide +kernel) rfl rfl hi (Nat.le_of_ble_eq_true rfl) (by simp [fsOf, fsO, fsp, fval, sI]) (fun _ _ _ q => cell_sI_ne q) k
theorem gf_7_107 {i : Nat} (C : Cx g p R s m args meth c cc nL RX7 ret h) (hd : decode cc pc = .ok (.getfield 107, 3)) (hi : i < cnt 2) (k : G g p l e R s m args below meth c Q nL (pc + 3) lv (.int (gI σ 2 i 0) :: st) σ) : G g p l e R s m args below meth c Q nL pc lv (.ref (gad g 2 i) :: st) σ := r_get (j := 0) C hd rfl inU2 rfl (by decide) u1_76 rfl hi rfl k
theorem pf_7_107 {i : Nat} {v : Int32} (C : Cx g p R s m args meth c cc nL RX7 ret h) (hd : decode cc pc = .ok (.putfield 107, 3)) (hi : i < cnt 2) (k : G g p l e R s m args below meth c Q nL (pc + 3) lv st (sI σ 2 i 0 v)) : G g p l e R s m args below meth c Q nL pc lv (.int v :: .ref (gad g 2 i) :: st) σ := r_put (j := 0) C hd rfl inU2 tyX2 tyX2_ok nmX2 rfl (by decide) u1_76 rfl rfl (ty := .int) (by decide +kernel) rfl rfl hi (Nat.le_of_ble_eq_true rfl) (by simp [fsOf, fsO, fsp, fval, sI]) (fun _ _ _ q => cell_sI_ne q) k
theorem gf_2_15 {i : Nat} (C : Cx g p R s m args meth c cc nL RX2 ret h) (hd : decode cc pc = .ok (.getfield 15, 3)) (hi : i < cnt 2) (k : G g p l e R s m args below meth c Q nL (pc + 3) lv (.int (gI σ 2 i 1) :: st) σ) : G g p l e R s m args below meth c Q nL pc lv (.ref (gad g 2 i) :: st) σ := r_get (j := 1) C hd rfl inU2 rfl (by decide) u1_77 rfl hi rfl k
theorem pf_2_15 {i : Nat} {v : Int32} (C : Cx g p R s m args meth c cc nL RX2 ret h) (hd : decode cc pc = .ok (.putfield 15, 3)) (hi : i < cnt 2) (k : G g p l e R s m args below meth c Q nL (pc + 3) lv st (sI σ 2 i 1 v)) : G g p l e R s m args below meth c Q nL pc lv (.int v :: .ref (gad g 2 i) :: st) σ := r_put (j := 1) C hd rfl inU2 tyX2 tyX2_ok nmX2 rfl (by decide) u1_77 rfl rfl (ty := .int) (by decide +kernel) rfl rfl hi (Nat.le_of_ble_eq_true rfl) (by simp [fsOf, fsO, fsp, fval, sI]) (fun _ _ _ q => cell_sI_ne q) k
theorem gf_4_107 {i : Nat} (C : Cx g p R s m args meth c cc nL RX4 ret h) (hd : decode cc pc = .ok (.getfield 107, 3)) (hi : i < cnt 2) (k : G g p l e R s m args below meth c Q nL (pc + 3) lv (.int (gI σ 2 i 1) :: st) σ) : G g p l e R s m args below meth c Q nL pc lv (.ref (gad g 2 i) :: st) σ := r_get (j := 1) C hd rfl inU2 rfl (by decide) u1_78 rfl hi rfl k
theorem pf_4_107 {i : Nat} {v : Int32} (C : Cx g p R s m args meth c cc nL RX4 ret h) (hd : decode cc pc = .ok (.putfield 107, 3)) (hi : i < cnt 2) (k : G g p l e R s m args below meth c Q nL (pc + 3) lv st (sI σ 2 i 1 v)) : G g p l e R s m args below meth c Q nL pc lv (.int v :: .ref (gad g 2 i) :: st) σ := r_put (j := 1) C hd rfl inU2 tyX2 tyX2_ok nmX2 rfl (by decide) u1_78 rfl rfl (ty := .int) (by decide +kernel) rfl rfl hi (Nat.le_of_ble_eq_true rfl) (by simp [fsOf, fsO, fsp, fval, sI]) (fun _ _ _ q => cell_sI_ne q) k
theorem gf_7_110 {i : Nat} (C : Cx g p R s m args meth c cc nL RX7 ret h) (hd : decode cc pc = .ok (.getfield 110, 3)) (hi : i < cnt 2) (k : G g p l e R s m args below meth c Q nL (pc + 3) lv (.int (gI σ 2 i 1) :: st) σ) : G g p l e R s m args below meth c Q nL pc lv (.ref (gad g 2 i) :: st) σ := r_get (j := 1) C hd rfl inU2 rfl (by decide) u1_79 rfl hi rfl k
theorem pf_7_110 {i : Nat} {v : Int32} (C : Cx g p R s m args meth c cc nL RX7 ret h) (hd : decode cc pc = .ok (.putfield 110, 3)) (hi : i < cnt 2) (k : G g p l e R s m args below meth c Q nL (pc + 3) lv st (sI σ 2 i 1 v)) : G g p l e R s m args below meth c Q nL pc lv (.int v :: .ref (gad g 2 i) :: st) σ := r_put (j := 1) C hd rfl inU2 tyX2 tyX2_ok nmX2 rfl (by decide) u1_79 rfl rfl (ty := .int) (by decide +kernel) rfl rfl hi (Nat.le_of_ble_eq_true rfl) (by simp [fsOf, fsO, fsp, fval, sI]) (fun _ _ _ q => cell_sI_ne q) k
theorem gf_5_188 {i : Nat} (C : Cx g p R s m args meth c cc nL RX5 ret h) (hd : decode cc pc = .ok (.getfield 188, 3)) (hi : i < cnt 2) (k : G g p l e R s m args below meth c Q nL (pc + 3) lv (.int (gI σ 2 i 1) :: st) σ) : G g p l e R s m args below meth c Q nL pc lv (.ref (gad g 2 i) :: st) σ := r_get (j := 1) C hd rfl inU2 rfl (by decide) u1_80 rfl hi rfl k
theorem pf_5_188 {i : Nat} {v : Int32} (C : Cx g p R s m args meth c cc nL RX5 ret h) (hd : decode cc pc = .ok (.putfield 188, 3)) (hi : i < cnt 2) (k : G g p l e R s m args below meth c Q nL (pc + 3) lv st (sI σ 2 i 1 v)) : G g p l e R s m args below meth c Q nL pc lv (.int v :: .ref (gad g 2 i) :: st) σ := r_put (j := 1) C hd rfl inU2 tyX2 tyX2_ok nmX2 rfl (by decide) u1_80 rfl rfl (ty := .int) (by decide +kernel) rfl rfl hi (Nat.le_of_ble_eq_true rfl) (by simp [fsOf, fsO, fsp, fval, sI]) (fun _ _ _ q => cell_sI_ne q) k
theorem gf_2_18 {i : Nat} (C : Cx g p R s m args meth c cc nL RX2 ret h) (hd : decode cc pc = .ok (.getfield 18, 3)) (hi : i < cnt 2) (k : G g p l e R s m args below meth c Q nL (pc + 3) lv (.int (gI σ 2 i 2) :: st) σ) : G g p l e R s m args below meth c Q nL pc lv (.ref (gad g 2 i) :: st) σ := r_get (j := 2) C hd rfl inU2 rfl (by decide) u1_81 rfl hi rfl k
theorem pf_2_18 {i : Nat} {v : Int32} (C : Cx g p R s m args meth c cc nL RX2 ret h) (hd : decode cc pc = .ok (.putfield 18, 3)) (hi : i < cnt 2) (k : G g p l e R s m args below meth c Q nL (pc + 3) lv st (sI σ 2 i 2 v)) : G g p l e R s m args below meth c Q nL pc lv (.int v :: .ref (gad g 2 i) :: st) σ := r_put (j := 2) C hd rfl inU2 tyX2 tyX2_ok nmX2 rfl (by decide) u1_81 rfl rfl (ty := .int) (by decide +kernel) rfl rfl hi (Nat.le_of_ble_eq_true rfl) (by simp [fsOf, fsO, fsp, fval, sI]) (fun _ _ _ q => cell_sI_ne q) k
theorem gf_1_71 {i : Nat} (C : Cx g p R s m args meth c cc nL RX1 ret h) (hd : decode cc pc = .ok (.getfield 71, 3)) (hi : i < cnt 2) (k : G g p l e R s m args below meth c Q nL (pc + 3) lv (.int (gI σ 2 i 2) :: st) σ) : G g p l e R s m args below meth c Q nL pc lv (.ref (gad g 2 i) :: st) σ := r_get (j := 2) C hd rfl inU2 rfl (by decide) u1_82 rfl hi rfl k
theorem pf_1_71 {i : Nat} {v : Int32} (C : Cx g p R s m args meth c cc nL RX1 ret h) (hd : decode cc pc = .ok (.putfield 71, 3)) (hi : i < cnt 2) (k : G g p l e R s m args below meth c Q nL (pc + 3) lv st (sI σ 2 i 2 v)) : G g p l e R s m args below meth c Q nL pc lv (.int v :: .ref (gad g 2 i) :: st) σ := r_put (j := 2) C hd rfl inU2 tyX2 tyX2_ok nmX2 rfl (by decide) u1_82 rfl rfl (ty := .int) (by decide +kernel) rfl rfl hi (Nat.le_of_ble_eq_true rfl) (by simp [fsOf, fsO, fsp, fval, sI]) (fun _ _ _ q => cell_sI_ne q) k
theorem gf_4_112 {i : Nat} (C : Cx g p R s m args meth c cc nL RX4 ret h) (hd : decode cc pc = .ok (.getfield 112, 3)) (hi : i < cnt 2) (k : G g p l e R s m args below meth c Q nL (pc + 3) lv (.int (gI σ 2 i 2) :: st) σ) : G g p l e R s m args below meth c Q nL pc lv (.ref (gad g 2 i) :: st) σ := r_get (j := 2) C hd rfl inU2 rfl (by decide) u1_83 rfl hi rfl k
theorem pf_4_112 {i : Nat} {v : Int32} (C : Cx g p R s m args meth c cc nL RX4 ret h) (hd : decode cc pc = .ok (.putfield 112, 3)) (hi : i < cnt 2) (k : G g p l e R s m args below meth c Q nL (pc + 3) lv st (sI σ 2 i 2 v)) : G g p l e R s m args below meth c Q nL pc lv (.int v :: .ref (gad g 2 i) :: st) σ := r_put (j := 2) C hd rfl inU2 tyX2 tyX2_ok nmX2 rfl (by decide) u1_83 rfl rfl (ty := .int) (by decide +kernel) rfl rfl hi (Nat.le_of_ble_eq_true rfl) (by simp [fsOf, fsO, fsp, fval, sI]) (fun _ _ _ q => cell_sI_ne q) k
theorem gf_7_113 {i : Nat} (C : Cx g p R s m args meth c cc nL RX7 ret h) (hd : decode cc pc = .ok (.getfield 113, 3)) (hi : i < cnt 2) (k : G g p l e R s m args below meth c Q nL (pc + 3) lv (.int (gI σ 2 i 2) :: st) σ) : G g p l e R s m args below meth c Q nL pc lv (.ref (gad g 2 i) :: st) σ := r_get (j := 2) C hd rfl inU2 rfl (by decide) u1_84 rfl hi rfl k
theorem pf_7_113 {i : Nat} {v : Int32} (C : Cx g p R s m args meth c cc nL RX7 ret h) (hd : decode cc pc = .ok (.putfield 113, 3)) (hi : i < cnt 2) (k : G g p l e R s m args below meth c Q nL (pc + 3) lv st (sI σ 2 i 2 v)) : G g p l e R s m args below meth c Q nL pc lv (.int v :: .ref (gad g 2 i) :: st) σ := r_put (j := 2) C hd rfl inU2 tyX2 tyX2_ok nmX2 rfl (by decide) u1_84 rfl rfl (ty := .int) (by decide +kernel) rfl rfl hi (Nat.le_of_ble_eq_true rfl) (by simp [fsOf, fsO, fsp, fval, sI]) (fun _ _ _ q => cell_sI_ne q) k
theorem gf_2_21 {i : Nat} (C : Cx g p R s m args meth c cc nL RX2 ret h) (hd : decode cc pc = .ok (.getfield 21, 3)) (hi : i < cnt 2) (k : G g p l e R s m args below meth c Q nL (pc + 3) lv (.int (gI σ 2 i 3) :: st) σ) : G g p l e R s m args below meth c Q nL pc lv (.ref (gad g 2 i) :: st) σ := r_get (j := 3) C hd rfl inU2 rfl (by decide) u1_85 rfl hi rfl k
theorem pf_2_21 {i : Nat} {v : Int32} (C : Cx g p R s m args meth c cc nL RX2 ret h) (hd : decode cc pc = .ok (.putfield 21, 3)) (hi : i < cnt 2) (k : G g p l e R s m args below meth c Q nL (pc + 3) lv st (sI σ 2 i 3 v)) : G g p l e R s m args below meth c Q nL pc lv (.int v :: .ref (gad g 2 i) :: st) σ := r_put (j := 3) C hd rfl inU2 tyX2 tyX2_ok nmX2 rfl (by decide) u1_85 rfl rfl (ty := .int) (by decide +kernel) rfl rfl hi (Nat.le_of_ble_eq_true rfl) (by simp [fsOf, fsO, fsp, fval, sI]) (fun _ _ _ q => cell_sI_ne q) k
theorem gf_7_116 {i : Nat} (C : Cx g p R s m args meth c cc nL RX7 ret h) (hd : decode cc pc = .ok (.getfield 116, 3)) (hi : i < cnt 2) (k : G g p l e R s m args below meth c Q nL (pc + 3) lv (.int (gI σ 2 i 3) :: st) σ) : G g p l e R s m args below meth c Q nL pc lv (.ref (gad g 2 i) :: st) σ := r_get (j := 3) C hd rfl inU2 rfl (by decide) u1_86 rfl hi rfl k
theorem pf_7_116 {i : Nat} {v : Int32} (C : Cx g p R s m args meth c cc nL RX7 ret h) (hd : decode cc pc = .ok (.putfield 116, 3)) (hi : i < cnt 2) (k : G g p l e R s m args below meth c Q nL (pc + 3) lv st (sI σ 2 i 3 v)) : G g p l e R s m args below meth c Q nL pc lv (.int v :: .ref (gad g 2 i) :: st) σ := r_put (j := 3) C hd rfl inU2 tyX2 tyX2_ok nmX2 rfl (by decide) u1_86 rfl rfl (ty := .int) (by decide +kernel) rfl rfl hi (Nat.le_of_ble_eq_true rfl) (by simp [fsOf, fsO, fsp, fval, sI]) (fun _ _ _ q => cell_sI_ne q) k
theorem gf_4_117 {i : Nat} (C : Cx g p R s m args meth c cc nL RX4 ret h) (hd : decode cc pc = .ok (.getfield 117, 3)) (hi : i < cnt 2) (k : G g p l e R s m args below meth c Q nL (pc + 3) lv (.int (gI σ 2 i 3) :: st) σ) : G g p l e R s m args below meth c Q nL pc lv (.ref (gad g 2 i) :: st) σ := r_get (j := 3) C hd rfl inU2 rfl (by decide) u1_87 rfl hi rfl k
theorem pf_4_117 {i : Nat} {v : Int32} (C : Cx g p R s m args meth c cc nL RX4 ret h) (hd : decode cc pc = .ok (.putfield 117, 3)) (hi : i < cnt 2) (k : G g p l e R s m args below meth c Q nL (pc + 3) lv st (sI σ 2 i 3 v)) : G g p l e R s m args below meth c Q nL pc lv (.int v :: .ref (gad g 2 i) :: st) σ := r_put (j := 3) C hd rfl inU2 tyX2 tyX2_ok nmX2 rfl (by decide) u1_87 rfl rfl (ty := .int) (by decide +kernel) rfl rfl hi (Nat.le_of_ble_eq_true rfl) (by simp [fsOf, fsO, fsp, fval, sI]) (fun _ _ _ q => cell_sI_ne q) k
theorem gf_0_89 {i : Nat} (C : Cx g p R s m args meth c cc nL RX0 ret h) (hd : decode cc pc = .ok (.getfield 89, 3)) (hi : i < cnt 2) (k : G g p l e R s m args below meth c Q nL (pc + 3) lv (.int (gI σ 2 i 3) :: st) σ) : G g p l e R s m args below meth c Q nL pc lv (.ref (gad g 2 i) :: st) σ := r_get (j := 3) C hd rfl inU2 rfl (by decide) u1_88 rfl hi rfl k
theorem pf_0_89 {i : Nat} {v : Int32} (C : Cx g p R s m args meth c cc nL RX0 ret h) (hd : decode cc pc = .ok (.putfield 89, 3)) (hi : i < cnt 2) (k : G g p l e R s m args below meth c Q nL (pc + 3) lv st (sI σ 2 i 3 v)) : G g p l e R s m args below meth c Q nL pc lv (.int v :: .ref (gad g 2 i) :: st) σ := r_put (j := 3) C hd rfl inU2 tyX2 tyX2_ok nmX2 rfl (by decide) u1_88 rfl rfl (ty := .int) (by decide +kernel) rfl rfl hi (Nat.le_of_ble_eq_true rfl) (by simp [fsOf, fsO, fsp, fval, sI]) (fun _ _ _ q => cell_sI_ne q) k
theorem gf_2_24 {i : Nat} (C : Cx g p R s m args meth c cc nL RX2 ret h) (hd : decode cc pc = .ok (.getfield 24, 3)) (hi : i < cnt 2) (k : G g p l e R s m args below meth c Q nL (pc + 3) lv (.int (gI σ 2 i 4) :: st) σ) : G g p l e R s m args below meth c Q nL pc lv (.ref (gad g 2 i) :: st) σ := r_get (j := 4) C hd rfl inU2 rfl (by decide) u1_89 rfl hi rfl k
theorem pf_2_24 {i : Nat} {v : Int32} (C : Cx g p R s m args meth c cc nL RX2 ret h) (hd : decode cc pc = .ok (.putfield 24, 3)) (hi : i < cnt 2) (k : G g p l e R s m args below meth c Q nL (pc + 3) lv st (sI σ 2 i 4 v)) : G g p l e R s m args below meth c Q nL pc lv (.int v :: .ref (gad g 2 i) :: st) σ := r_put (j := 4) C hd rfl inU2 tyX2 tyX2_ok nmX2 rfl (by decide) u1_89 rfl rfl (ty := .int) (by decide +kernel) rfl rfl hi (Nat.le_of_ble_eq_true rfl) (by simp [fsOf, fsO, fsp, fval, sI]) (fun _ _ _ q => cell_sI_ne q) k
theorem gf_7_119 {i : Nat} (C : Cx g p R s m args meth c cc nL RX7 ret h) (hd : decode cc pc = .ok (.getfield 119, 3)) (hi : i < cnt 2) (k : G g p l e R s m args below meth c Q nL (pc + 3) lv (.int (gI σ 2 i 4) :: st) σ) : G g p l e R s m args below meth c Q nL pc lv (.ref (gad g 2 i) :: st) σ := r_get (j := 4) C hd rfl inU2 rfl (by decide) u1_90 rfl hi rfl k
theorem pf_7_119 {i : Nat} {v : Int32} (C : Cx g p R s m args meth c cc nL RX7 ret h) (hd : decode cc pc = .ok (.putfield 119, 3)) (hi : i < cnt 2) (k : G g p l e R s m args below meth c Q nL (pc + 3) lv st (sI σ 2 i 4 v)) : G g p l e R s m args below meth c Q nL pc lv (.int v :: .ref (gad g 2 i) :: st) σ := r_put (j := 4) C hd rfl inU2 tyX2 tyX2_ok nmX2 rfl (by decide) u1_90 rfl rfl (ty := .int) (by decide +kernel) rfl rfl hi (Nat.le_of_ble_eq_true rfl) (by simp [fsOf, fsO, fsp, fval, sI]) (fun _ _ _ q => cell_sI_ne q) k
theorem gf_4_122 {i : Nat} (C : Cx g p R s m args meth c cc nL RX4 ret h) (hd : decode cc pc = .ok (.getfield 122, 3)) (hi : i < cnt 2) (k : G g p l e R s m args below meth c Q nL (pc + 3) lv (.int (gI σ 2 i 4) :: st) σ) : G g p l e R s m args below meth c Q nL pc lv (.ref (gad g 2 i) :: st) σ := r_get (j := 4) C hd rfl inU2 rfl (by decide) u1_91 rfl hi rfl k
theorem pf_4_122 {i : Nat} {v : Int32} (C : Cx g p R s m args meth c cc nL RX4 ret h) (hd : decode cc pc = .ok (.putfield 122, 3)) (hi : i < cnt 2) (k : G g p l e R s m args below meth c Q nL (pc + 3) lv st (sI σ 2 i 4 v)) : G g p l e R s m args below meth c Q nL pc lv (.int v :: .ref (gad g 2 i) :: st) σ := r_put (j := 4) C hd rfl inU2 tyX2 tyX2_ok nmX2 rfl (by decide) u1_91 rfl rfl (ty := .int) (by decide +kernel) rfl rfl hi (Nat.le_of_ble_eq_true rfl) (by simp [fsOf, fsO, fsp, fval, sI]) (fun _ _ _ q => cell_sI_ne q) k
theorem gf_0_84 {i : Nat} (C : Cx g p R s m args meth c cc nL RX0 ret h) (hd : decode cc pc = .ok (.getfield 84, 3)) (hi : i < cnt 2) (k : G g p l e R s m args below meth c Q nL (pc + 3) lv (.int (gI σ 2 i 4) :: st) σ) : G g p l e R s m args below meth c Q nL pc lv (.ref (gad g 2 i) :: st) σ := r_get (j := 4) C hd rfl inU2 rfl (by decide) u1_92 rfl hi rfl k
theorem pf_0_84 {i : Nat} {v : Int32} (C : Cx g p R s m args meth c cc nL RX0 ret h) (hd : decode cc pc = .ok (.putfield 84, 3)) (hi : i < cnt 2) (k : G g p l e R s m args below meth c Q nL (pc + 3) lv st (sI σ 2 i 4 v)) : G g p l e R s m args below meth c Q nL pc lv (.int v :: .ref (gad g 2 i) :: st) σ := r_put (j := 4) C hd rfl inU2 tyX2 tyX2_ok nmX2 rfl (by decide) u1_92 rfl rfl (ty := .int) (by decide +kernel) rfl rfl hi (Nat.le_of_ble_eq_true rfl) (by simp [fsOf, fsO, fsp, fval, sI]) (fun _ _ _ q => cell_sI_ne q) k
theorem gf_2_27 {i : Nat} (C : Cx g p R s m args meth c cc nL RX2 ret h) (hd : decode cc pc = .ok (.getfield 27, 3)) (hi : i < cnt 2) (k : G g p l e R s m args below meth c Q nL (pc + 3) lv (.int (gI σ 2 i 5) :: st) σ) : G g p l e R s m args below meth c Q nL pc lv (.ref (gad g 2 i) :: st) σ := r_get (j := 5) C hd rfl inU2 rfl (by decide) u1_93 rfl hi rfl k
theorem pf_2_27 {i : Nat} {v : Int32} (C : Cx g p R s m args meth c cc nL RX2 ret h) (hd : decode cc pc = .ok (.putfield 27, 3)) (hi : i < cnt 2) (k : G g p l e R s m args below meth c Q nL (pc + 3) lv st (sI σ 2 i 5 v)) : G g p l e R s m args below meth c Q nL pc lv (.int v :: .ref (gad g 2 i) :: st) σ := r_put (j := 5) C hd rfl inU2 tyX2 tyX2_ok nmX2 rfl (by decide) u1_93 rfl rfl (ty := .int) (by decide +kernel) rfl rfl hi (Nat.le_of_ble_eq_true rfl) (by simp [fsOf, fsO, fsp, fval, sI]) (fun _ _ _ q => cell_sI_ne q) k
theorem gf_7_122 {i : Nat} (C : Cx g p R s m args meth c cc nL RX7 ret h) (hd : decode cc pc = .ok (.getfield 122, 3)) (hi : i < cnt 2) (k : G g p l e R s m args below meth c Q nL (pc + 3) lv (.int (gI σ 2 i 5) :: st) σ) : G g p l e R s m args below meth c Q nL pc lv (.ref (gad g 2 i) :: st) σ := r_get (j := 5) C hd rfl inU2 rfl (by decide) u1_94 rfl hi rfl k
theorem pf_7_122 {i : Nat} {v : Int32} (C : Cx g p R s m args meth c cc nL RX7 ret h) (hd : decode cc pc = .ok (.putfield 122, 3)) (hi : i < cnt 2) (k : G g p l e R s m args below meth c Q nL (pc + 3) lv st (sI σ 2 i 5 v)) : G g p l e R s m args below meth c Q nL pc lv (.int v :: .ref (gad g 2 i) :: st) σ := r_put (j := 5) C hd rfl inU2 tyX2 tyX2_ok nmX2 rfl (by decide) u1_94 rfl rfl (ty := .int) (by decide +kernel) rfl rfl hi (Nat.le_of_ble_eq_true rfl) (by simp [fsOf, fsO, fsp, fval, sI]) (fun _ _ _ q => cell_sI_ne q) k
theorem gf_4_125 {i : Nat} (C : Cx g p R s m args meth c cc nL RX4 ret h) (hd : decode cc pc = .ok (.getfield 125, 3)) (hi : i < cnt 2) (k : G g p l e R s m args below meth c Q nL (pc + 3) lv (.int (gI σ 2 i 5) :: st) σ) : G g p l e R s m args below meth c Q nL pc lv (.ref (gad g 2 i) :: st) σ := r_get (j := 5) C hd rfl inU2 rfl (by decide) u1_95 rfl hi rfl k
theorem pf_4_125 {i : Nat} {v : Int32} (C : Cx g p R s m args meth c cc nL RX4 ret h) (hd : decode cc pc = .ok (.putfield 125, 3)) (hi : i < cnt 2) (k : G g p l e R s m args below meth c Q nL (pc + 3) lv st (sI σ 2 i 5 v)) : G g p l e R s m args below meth c Q nL pc lv (.int v :: .ref (gad g 2 i) :: st) σ := r_put (j := 5) C hd rfl inU2 tyX2 tyX2_ok nmX2 rfl (by decide) u1_95 rfl rfl (ty := .int) (by decide +kernel) rfl rfl hi (Nat.le_of_ble_eq_true rfl) (by simp [fsOf, fsO, fsp, fval, sI]) (fun _ _ _ q => cell_sI_ne q) k
theorem gf_2_30 {i : Nat} (C : Cx g p R s m args meth c cc nL RX2 ret h) (hd : decode cc pc = .ok (.getfield 30, 3)) (hi : i < cnt 2) (k : G g p l e R s m args below meth c Q nL (pc + 3) lv (.int (gI σ 2 i 6) :: st) σ) : G g p l e R s m args below meth c Q nL pc lv (.ref (gad g 2 i) :: st) σ := r_get (j := 6) C hd rfl inU2 rfl (by decide) u1_96 rfl hi rfl k
theorem pf_2_30 {i : Nat} {v : Int32} (C : Cx g p R s m args meth c cc nL RX2 ret h) (hd : decode cc pc = .ok (.putfield 30, 3)) (hi : i < cnt 2) (k : G g p l e R s m args below meth c Q nL (pc + 3) lv st (sI σ 2 i 6 v)) : G g p l e R s m args below meth c Q nL pc lv (.int v :: .ref (gad g 2 i) :: st) σ := r_put (j := 6) C hd rfl inU2 tyX2 tyX2_ok nmX2 rfl (by decide) u1_96 rfl rfl (ty := .int) (by decide +kernel) rfl rfl hi (Nat.le_of_ble_eq_true rfl) (by simp [fsOf, fsO, fsp, fval, sI]) (fun _ _ _ q => cell_sI_ne q) k
theorem gf_6_33 {i : Nat} (C : Cx g p R s m args meth c cc nL RX6 ret h) (hd : decode cc pc = .ok (.getfield 33, 3)) (hi : i < cnt 2) (k : G g p l e R s m args below meth c Q nL (pc + 3) lv (.int (gI σ 2 i 6) :: st) σ) : G g p l e R s m args below meth c Q nL pc lv (.ref (gad g 2 i) :: st) σ := r_get (j := 6) C hd rfl inU2 rfl (by decide) u1_97 rfl hi rfl k
theorem pf_6_33 {i : Nat} {v : Int32} (C : Cx g p R s m args meth c cc nL RX6 ret h) (hd : decode cc pc = .ok (.putfield 33, 3)) (hi : i < cnt 2) (k : G g p l e R s m args below meth c Q nL (pc + 3) lv st (sI σ 2 i 6 v)) : G g p l e R s m args below meth c Q nL pc lv (.int v :: .ref (gad g 2 i) :: st) σ := r_put (j := 6) C hd rfl inU2 tyX2 tyX2_ok nmX2 rfl (by decide) u1_97 rfl rfl (ty := .int) (by decide +kernel) rfl rfl hi (Nat.le_of_ble_eq_true rfl) (by simp [fsOf, fsO, fsp, fval, sI]) (fun _ _ _ q => cell_sI_ne q) k
theorem gf_5_63 {i : Nat} (C : Cx g p R s m args meth c cc nL RX5 ret h) (hd : decode cc pc = .ok (.getfield 63, 3)) (hi : i < cnt 2) (k : G g p l e R s m args below meth c Q nL (pc + 3) lv (.int (gI σ 2 i 6) :: st) σ) : G g p l e R s m args below meth c Q nL pc lv (.ref (gad g 2 i) :: st) σ := r_get (j := 6) C hd rfl inU2 rfl (by decide) u1_98 rfl hi rfl k
theorem pf_5_63 {i : Nat} {v : Int32} (C : Cx g p R s m args meth c cc nL RX5 ret h) (hd : decode cc pc = .ok (.putfield 63, 3)) (hi : i < cnt 2) (k : G g p l e R s m args below meth c Q nL (pc + 3) lv st (sI σ 2 i 6 v)) : G g p l e R s m args below meth c Q nL pc lv (.int v :: .ref (gad g 2 i) :: st) σ := r_put (j := 6) C hd rfl inU2 tyX2 tyX2_ok nmX2 rfl (by decide) u1_98 rfl rfl (ty := .int) (by decide +kernel) rfl rfl hi (Nat.le_of_ble_eq_true rfl) (by simp [fsOf, fsO, fsp, fval, sI]) (fun _ _ _ q => cell_sI_ne q) k
theorem gf_1_42 {i : Nat} (C : Cx g p R s m args meth c cc nL RX1 ret h) (hd : decode cc pc = .ok (.getfield 42, 3)) (hi : i < cnt 2) (k : G g p l e R s m args below meth c Q nL (pc + 3) lv (.int (gI σ 2 i 6) :: st) σ) : G g p l e R s m args below meth c Q nL pc lv (.ref (gad g 2 i) :: st) σ := r_get (j := 6) C hd rfl inU2 rfl (by decide) u1_99 rfl hi rfl k
theorem pf_1_42 {i : Nat} {v : Int32} (C : Cx g p R s m args meth c cc nL RX1 ret h) (hd : decode cc pc = .ok (.putfield 42, 3)) (hi : i < cnt 2) (k : G g p l e R s m args below meth c Q nL (pc + 3) lv st (sI σ 2 i 6 v)) : G g p l e R s m args below meth c Q nL pc lv (.int v :: .ref (gad g 2 i) :: st) σ := r_put (j := 6) C hd rfl inU2 tyX2 tyX2_ok nmX2 rfl (by decide) u1_99 rfl rfl (ty := .int) (by decide +kernel) rfl rfl hi (Nat.le_of_ble_eq_true rfl) (by simp [fsOf, fsO, fsp, fval, sI]) (fun _ _ _ q => cell_sI_ne q) k
theorem gf_7_97 {i : Nat} (C : Cx g p R s m args meth c cc nL RX7 ret h) (hd : decode cc pc = .ok (.getfield 97, 3)) (hi : i < cnt 2) (k : G g p l e R s m args below meth c Q nL (pc + 3) lv (.int (gI σ 2 i 6) :: st) σ) : G g p l e R s m args below meth c Q nL pc lv (.ref (gad g 2 i) :: st) σ := r_get (j := 6) C hd rfl inU2 rfl (by decide) u1_100 rfl hi rfl k
theorem pf_7_97 {i : Nat} {v : Int32} (C : Cx g p R s m args meth c cc nL RX7 ret h) (hd : decode cc pc = .ok (.putfield 97, 3)) (hi : i < cnt 2) (k : G g p l e R s m args below meth c Q nL (pc + 3) lv st (sI σ 2 i 6 v)) : G g p l e R s m args below meth c Q nL pc lv (.int v :: .ref (gad g 2 i) :: st) σ := r_put (j := 6) C hd rfl inU2 tyX2 tyX2_ok nmX2 rfl (by decide) u1_100 rfl rfl (ty := .int) (by decide +kernel) rfl rfl hi (Nat.le_of_ble_eq_true rfl) (by simp [fsOf, fsO, fsp, fval, sI]) (fun _ _ _ q => cell_sI_ne q) k
theorem gf_4_90 {i : Nat} (C : Cx g p R s m args meth c cc nL RX4 ret h) (hd : decode cc pc = .ok (.getfield 90, 3)) (hi : i < cnt 2) (k : G g p l e R s m args below meth c Q nL (pc + 3) lv (.int (gI σ 2 i 6) :: st) σ) : G g p l e R s m args below meth c Q nL pc lv (.ref (gad g 2 i) :: st) σ := r_get (j := 6) C hd rfl inU2 rfl (by decide) u1_101 rfl hi rfl k
theorem pf_4_90 {i : Nat} {v : Int32} (C : Cx g p R s m args meth c cc nL RX4 ret h) (hd : decode cc pc = .ok (.putfield 90, 3)) (hi : i < cnt 2) (k : G g p l e R s m args below meth c Q nL (pc + 3) lv st (sI σ 2 i 6 v)) : G g p l e R s m args below meth c Q nL pc lv (.int v :: .ref (gad g 2 i) :: st) σ := r_put (j := 6) C hd rfl inU2 tyX2 tyX2_ok nmX2 rfl (by decide) u1_101 rfl rfl (ty := .int) (by decide +kernel) rfl rfl hi (Nat.le_of_ble_eq_true rfl) (by simp [fsOf, fsO, fsp, fval, sI]) (fun _ _ _ q => cell_sI_ne q) k
theorem gf_2_33 {i : Nat} (C : Cx g p R s m args meth c cc nL RX2 ret h) (hd : decode cc pc = .ok (.getfield 33, 3)) (hi : i < cnt 2) (k : G g p l e R s m args below meth c Q nL (pc + 3) lv (.ref (gad g 22 i) :: st) σ) : G g p l e R s m args below meth c Q nL pc lv (.ref (gad g 2 i) :: st) σ := r_get (j := 7) C hd rfl inU2 rfl (by decide) u1_102 rfl hi rfl k
theorem gf_6_53 {i : Nat} (C : Cx g p R s m args meth c cc nL RX6 ret h) (hd : decode cc pc = .ok (.getfield 53, 3)) (hi : i < cnt 2) (k : G g p l e R s m args below meth c Q nL (pc + 3) lv (.ref (gad g 22 i) :: st) σ) : G g p l e R s m args below meth c Q nL pc lv (.ref (gad g 2 i) :: st) σ := r_get (j := 7) C hd rfl inU2 rfl (by decide) u1_103 rfl hi rfl k
theorem gf_7_132 {i : Nat} (C : Cx g p R s m args meth c cc nL RX7 ret h) (hd : decode cc pc = .ok (.getfield 132, 3)) (hi : i < cnt 2) (k : G g p l e R s m args below meth c Q nL (pc + 3) lv (.ref (gad g 22 i) :: st) σ) : G g p l e R s m args below meth c Q nL pc lv (.ref (gad g 2 i) :: st) σ := r_get (j := 7) C hd rfl inU2 rfl (by decide) u1_104 rfl hi rfl k
theorem gf_4_142 {i : Nat} (C : Cx g p R s m args meth c cc nL RX4 ret h) (hd : decode cc pc = .ok (.getfield 142, 3)) (hi : i < cnt 2) (k : G g p l e R s m args below meth c Q nL (pc + 3) lv (.ref (gad g 22 i) :: st) σ) : G g p l e R s m args below meth c Q nL pc lv (.ref (gad g 2 i) :: st) σ := r_get (j := 7) C hd rfl inU2 rfl (by decide) u1_105 rfl hi rfl k
theorem gf_2_37 {i : Nat} (C : Cx g p R s m args meth c cc nL RX2 ret h) (hd : decode cc pc = .ok (.getfield 37, 3)) (hi : i < cnt 2) (k : G g p l e R s m args below meth c Q nL (pc + 3) lv (.ref (gad g 23 i) :: st) σ) : G g p l e R s m args below meth c Q nL pc lv (.ref (gad g 2 i) :: st) σ := r_get (j := 8) C hd rfl inU2 rfl (by decide) u1_106 rfl hi rfl k
theorem gf_4_138 {i : Nat} (C : Cx g p R s m args meth c cc nL RX4 ret h) (hd : decode cc pc = .ok (.getfield 138, 3)) (hi : i < cnt 2) (k : G g p l e R s m args below meth c Q nL (pc + 3) lv (.ref (gad g 23 i) :: st) σ) : G g p l e R s m args below meth c Q nL pc lv (.ref (gad g 2 i) :: st) σ := r_get (j := 8) C hd rfl inU2 rfl (by decide) u1_107 rfl hi rfl k
theorem gf_2_41 {i : Nat} (C : Cx g p R s m args meth c cc nL RX2 ret h) (hd : decode cc pc = .ok (.getfield 41, 3)) (hi : i < cnt 2) (k : G g p l e R s m args below meth c Q nL (pc + 3) lv (.ref (gad g 24 i) :: st) σ) : G g p l e R s m args below meth c Q nL pc lv (.ref (gad g 2 i) :: st) σ := r_get (j := 9) C hd rfl inU2 rfl (by decide) u1_108 rfl hi rfl k
theorem gf_4_161 {i : Nat} (C : Cx g p R s m args meth c cc nL RX4 ret h) (hd : decode cc pc = .ok (.getfield 161, 3)) (hi : i < cnt 2) (k : G g p l e R s m args below meth c Q nL (pc + 3) lv (.ref (gad g 24 i) :: st) σ) : G g p l e R s m args below meth c Q nL pc lv (.ref (gad g 2 i) :: st) σ := r_get (j := 9) C hd rfl inU2 rfl (by decide) u1_109 rfl hi rfl k
theorem gf_2_44 {i : Nat} (C : Cx g p R s m args meth c cc nL RX2 ret h) (hd : decode cc pc = .ok (.getfield 44, 3)) (hi : i < cnt 2) (k : G g p l e R s m args below meth c Q nL (pc + 3) lv (.ref (gad g 25 i) :: st) σ) : G g p l e R s m args below meth c Q nL pc lv (.ref (gad g 2 i) :: st) σ := r_get (j := 10) C hd rfl inU2 rfl (by decide) u1_110 rfl hi rfl k
theorem gf_6_56 {i : Nat} (C : Cx g p R s m args meth c cc nL RX6 ret h) (hd : decode cc pc = .ok (.getfield 56, 3)) (hi : i < cnt 2) (k : G g p l e R s m args below meth c Q nL (pc + 3) lv (.ref (gad g 25 i) :: st) σ) : G g p l e R s m args below meth c Q nL pc lv (.ref (gad g 2 i) :: st) σ := r_get (j := 10) C hd rfl inU2 rfl (by decide) u1_111 rfl hi rfl k
theorem gf_5_94 {i : Nat} (C : Cx g p R s m args meth c cc nL RX5 ret h) (hd : decode cc pc = .ok (.getfield 94, 3)) (hi : i < cnt 2) (k : G g p l e R s m args below meth c Q nL (pc + 3) lv (.ref (gad g 25 i) :: st) σ) : G g p l e R s m args below meth c Q nL pc lv (.ref (gad g 2 i) :: st) σ := r_get (j := 10) C hd rfl inU2 rfl (by decide) u1_112 rfl hi rfl k
theorem gf_7_139 {i : Nat} (C : Cx g p R s m args meth c cc nL RX7 ret h) (hd : decode cc pc = .ok (.getfield 139, 3)) (hi : i < cnt 2) (k : G g p l e R s m args below meth c Q nL (pc + 3) lv (.ref (gad g 25 i) :: st) σ) : G g p l e R s m args below meth c Q nL pc lv (.ref (gad g 2 i) :: st) σ := r_get (j := 10) C hd rfl inU2 rfl (by decide) u1_113 rfl hi rfl k
theorem gf_4_164 {i : Nat} (C : Cx g p R s m args meth c cc nL RX4 ret h) (hd : decode cc pc = .ok (.getfield 164, 3)) (hi : i < cnt 2) (k : G g p l e R s m args below meth c Q nL (pc + 3) lv (.ref (gad g 25 i) :: st) σ) : G g p l e R s m args below meth c Q nL pc lv (.ref (gad g 2 i) :: st) σ := r_get (j := 10) C hd rfl inU2 rfl (by decide) u1_114 rfl hi rfl k
theorem gf_2_47 {i : Nat} (C : Cx g p R s m args meth c cc nL RX2 ret h) (hd : decode cc pc = .ok (.getfield 47, 3)) (hi : i < cnt 2) (k : G g p l e R s m args below meth c Q nL (pc + 3) lv (.ref (gad g 26 i) :: st) σ) : G g p l e R s m args below meth c Q nL pc lv (.ref (gad g 2 i) :: st) σ := r_get (j := 11) C hd rfl inU2 rfl (by decide) u1_115 rfl hi rfl k
theorem gf_1_48 {i : Nat} (C : Cx g p R s m args meth c cc nL RX1 ret h) (hd : decode cc pc = .ok (.getfield 48, 3)) (hi : i < cnt 2) (k : G g p l e R s m args below meth c Q nL (pc + 3) lv (.ref (gad g 26 i) :: st) σ) : G g p l e R s m args below meth c Q nL pc lv (.ref (gad g 2 i) :: st) σ := r_get (j := 11) C hd rfl inU2 rfl (by decide) u1_116 rfl hi rfl k
theorem gf_7_142 {i : Nat} (C : Cx g p R s m args meth c cc nL RX7 ret h) (hd : decode cc pc = .ok (.getfield 142, 3)) (hi : i < cnt 2) (k : G g p l e R s m args below meth c Q nL (pc + 3) lv (.ref (gad g 26 i) :: st) σ) : G g p l e R s m args below meth c Q nL pc lv (.ref (gad g 2 i) :: st) σ := r_get (j := 11) C hd rfl inU2 rfl (by decide) u1_117 rfl hi rfl k
theorem gf_4_167 {i : Nat} (C : Cx g p R s m args meth c cc nL RX4 ret h) (hd : decode cc pc = .ok (.getfield 167, 3)) (hi : i < cnt 2) (k : G g p l e R s m args below meth c Q nL (pc + 3) lv (.ref (gad g 26 i) :: st) σ) : G g p l e R s m args below meth c Q nL pc lv (.ref (gad g 2 i) :: st) σ := r_get (j := 11) C hd rfl inU2 rfl (by decide) u1_118 rfl hi rfl k
theorem gf_5_185 {i : Nat} (C : Cx g p R s m args meth c cc nL RX5 ret h) (hd : decode cc pc = .ok (.getfield 185, 3)) (hi : i < cnt 2) (k : G g p l e R s m args below meth c Q nL (pc + 3) lv (.ref (gad g 26 i) :: st) σ) : G g p l e R s m args below meth c Q nL pc lv (.ref (gad g 2 i) :: st) σ := r_get (j := 11) C hd rfl inU2 rfl (by decide) u1_119 rfl hi rfl k
theorem gf_2_50 {i : Nat} (C : Cx g p R s m args meth c cc nL RX2 ret h) (hd : decode cc pc = .ok (.getfield 50, 3)) (hi : i < cnt 2) (k : G g p l e R s m args below meth c Q nL (pc + 3) lv (.ref (gad g 27 i) :: st) σ) : G g p l e R s m args below meth c Q nL pc lv (.ref (gad g 2 i) :: st) σ := r_get (j := 12) C hd rfl inU2 rfl (by decide) u1_120 rfl hi rfl k
theorem gf_1_61 {i : Nat} (C : Cx g p R s m args meth c cc nL RX1 ret h) (hd : decode cc pc = .ok (.getfield 61, 3)) (hi : i < cnt 2) (k : G g p l e R s m args below meth c Q nL (pc + 3) lv (.ref (gad g 27 i) :: st) σ) : G g p l e R s m args below meth c Q nL pc lv (.ref (gad g 2 i) :: st) σ := r_get (j := 12) C hd rfl inU2 rfl (by decide) u1_121 rfl hi rfl k
theorem gf_7_145 {i : Nat} (C : Cx g p R s m args meth c cc nL RX7 ret h) (hd : decode cc pc = .ok (.getfield 145, 3)) (hi : i < cnt 2) (k : G g p l e R s m args below meth c Q nL (pc + 3) lv (.ref (gad g 27 i) :: st) σ) : G g p l e R s m args below meth c Q nL pc lv (.ref (gad g 2 i) :: st) σ := r_get (j := 12) C hd rfl inU2 rfl (by decide) u1_122 rfl hi rfl k
theorem gf_4_170 {i : Nat} (C : Cx g p R s m args meth c cc nL RX4 ret h) (hd : decode cc pc = .ok (.getfield 170, 3)) (hi : i < cnt 2) (k : G g p l e R s m args below meth c Q nL (pc + 3) lv (.ref (gad g 27 i) :: st) σ) : G g p l e R s m args below meth c Q nL pc lv (.ref (gad g 2 i) :: st) σ := r_get (j := 12) C hd rfl inU2 rfl (by decide) u1_123 rfl hi rfl k
theorem gf_5_132 {i : Nat} (C : Cx g p R s m args meth c cc nL RX5 ret h) (hd : decode cc pc = .ok (.getfield 132, 3)) (hi : i < cnt 2) (k : G g p l e R s m args below meth c Q nL (pc + 3) lv (.ref (gad g 27 i) :: st) σ) : G g p l e R s m args below meth c Q nL pc lv (.ref (gad g 2 i) :: st) σ := r_get (j := 12) C hd rfl inU2 rfl (by decide) u1_124 rfl hi rfl k
theorem gf_2_53 {i : Nat} (C : Cx g p R s m args meth c cc nL RX2 ret h) (hd : decode cc pc = .ok (.getfield 53, 3)) (hi : i < cnt 2) (k : G g p l e R s m args below meth c Q nL (pc + 3) lv (.ref (gad g 28 i) :: st) σ) : G g p l e R s m args below meth c Q nL pc lv (.ref (gad g 2 i) :: st) σ := r_get (j := 13) C hd rfl inU2 rfl (by decide) u1_125 rfl hi rfl k
theorem gf_6_39 {i : Nat} (C : Cx g p R s m args meth c cc nL RX6 ret h) (hd : decode cc pc = .ok (.getfield 39, 3)) (hi : i < cnt 2) (k : G g p l e R s m args below meth c Q nL (pc + 3) lv (.ref (gad g 28 i) :: st) σ) : G g p l e R s m args below meth c Q nL pc lv (.ref (gad g 2 i) :: st) σ := r_get (j := 13) C hd rfl inU2 rfl (by decide) u1_126 rfl hi rfl k
theorem gf_7_148 {i : Nat} (C : Cx g p R s m args meth c cc nL RX7 ret h) (hd : decode cc pc = .ok (.getfield 148, 3)) (hi : i < cnt 2) (k : G g p l e R s m args below meth c Q nL (pc + 3) lv (.ref (gad g 28 i) :: st) σ) : G g p l e R s m args below meth c Q nL pc lv (.ref (gad g 2 i) :: st) σ := r_get (j := 13) C hd rfl inU2 rfl (by decide) u1_127 rfl hi rfl k
theorem gf_4_176 {i : Nat} (C : Cx g p R s m args meth c cc nL RX4 ret h) (hd : decode cc pc = .ok (.getfield 176, 3)) (hi : i < cnt 2) (k : G g p l e R s m args below meth c Q nL (pc + 3) lv (.ref (gad g 28 i) :: st) σ) : G g p l e R s m args below meth c Q nL pc lv (.ref (gad g 2 i) :: st) σ := r_get (j := 13) C hd rfl inU2 rfl (by decide) u1_128 rfl hi rfl k
theorem gf_2_56 {i : Nat} (C : Cx g p R s m args meth c cc nL RX2 ret h) (hd : decode cc pc = .ok (.getfield 56, 3)) (hi : i < cnt 2) (k : G g p l e R s m args below meth c Q nL (pc + 3) lv (.ref (gad g 29 i) :: st) σ) : G g p l e R s m args below meth c Q nL pc lv (.ref (gad g 2 i) :: st) σ := r_get (j := 14) C hd rfl inU2 rfl (by decide) u1_129 rfl hi rfl k
theorem gf_6_50 {i : Nat} (C : Cx g p R s m args meth c cc nL RX6 ret h) (hd : decode cc pc = .ok (.getfield 50, 3)) (hi : i < cnt 2) (k : G g p l e R s m args below meth c Q nL (pc + 3) lv (.ref (gad g 29 i) :: st) σ) : G g p l e R s m args below meth c Q nL pc lv (.ref (gad g 2 i) :: st) σ := r_get (j := 14) C hd rfl inU2 rfl (by decide) u1_130 rfl hi rfl k
theorem gf_7_155 {i : Nat} (C : Cx g p R s m args meth c cc nL RX7 ret h) (hd : decode cc pc = .ok (.getfield 155, 3)) (hi : i < cnt 2) (k : G g p l e R s m args below meth c Q nL (pc + 3) lv (.ref (gad g 29 i) :: st) σ) : G g p l e R s m args below meth c Q nL pc lv (.ref (gad g 2 i) :: st) σ := r_get (j := 14) C hd rfl inU2 rfl (by decide) u1_131 rfl hi rfl k
theorem gf_4_182 {i : Nat} (C : Cx g p R s m args meth c cc nL RX4 ret h) (hd : decode cc pc = .ok (.getfield 182, 3)) (hi : i < cnt 2) (k : G g p l e R s m args below meth c Q nL (pc + 3) lv (.ref (gad g 29 i) :: st) σ) : G g p l e R s m args below meth c Q nL pc lv (.ref (gad g 2 i) :: st) σ := r_get (j := 14) C hd rfl inU2 rfl (by decide) u1_132 rfl hi rfl k
theorem gf_2_62 {i : Nat} (C : Cx g p R s m args meth c cc nL RX2 ret h) (hd : decode cc pc = .ok (.getfield 62, 3)) (hi : i < cnt 2) (k : G g p l e R s m args below meth c Q nL (pc + 3) lv (.ref (gad g 6 i) :: st) σ) : G g p l e R s m args below meth c Q nL pc lv (.ref (gad g 2 i) :: st) σ := r_get (j := 15) C hd rfl inU2 rfl (by decide) u1_133 rfl hi rfl k
theorem gf_1_51 {i : Nat} (C : Cx g p R s m args meth c cc nL RX1 ret h) (hd : decode cc pc = .ok (.getfield 51, 3)) (hi : i < cnt 2) (k : G g p l e R s m args below meth c Q nL (pc + 3) lv (.ref (gad g 6 i) :: st) σ) : G g p l e R s m args below meth c Q nL pc lv (.ref (gad g 2 i) :: st) σ := r_get (j := 15) C hd rfl inU2 rfl (by decide) u1_134 rfl hi rfl k
theorem gf_7_81 {i : Nat} (C : Cx g p R s m args meth c cc nL RX7 ret h) (hd : decode cc pc = .ok (.getfield 81, 3)) (hi : i < cnt 2) (k : G g p l e R s m args below meth c Q nL (pc + 3) lv (.ref (gad g 6 i) :: st) σ) : G g p l e R s m args below meth c Q nL pc lv (.ref (gad g 2 i) :: st) σ := r_get (j := 15) C hd rfl inU2 rfl (by decide) u1_135 rfl hi rfl k
theorem gf_5_172 {i : Nat} (C : Cx g p R s m args meth c cc nL RX5 ret h) (hd : decode cc pc = .ok (.getfield 172, 3)) (hi : i < cnt 2) (k : G g p l e R s m args below meth c Q nL (pc + 3) lv (.ref (gad g 6 i) :: st) σ) : G g p l e R s m args below meth c Q nL pc lv (.ref (gad g 2 i) :: st) σ := r_get (j := 15) C hd rfl inU2 rfl (by decide) u1_136 rfl hi rfl k
theorem gf_4_9 {i : Nat} (C : Cx g p R s m args meth c cc nL RX4 ret h) (hd : decode cc pc = .ok (.getfield 9, 3)) (hi : i < cnt 4) (k : G g p l e R s m args below meth c Q nL (pc + 3) lv (.ref (gad g 37 i) :: st) σ) : G g p l e R s m args below meth c Q nL pc lv (.ref (gad g 4 i) :: st) σ := r_get (j := 0) C hd rfl inU4 rfl (by decide) u1_170 rfl hi rfl k
theorem gf_4_15 {i : Nat} (C : Cx g p R s m args meth c cc nL RX4 ret h) (hd : decode cc pc = .ok (.getfield 15, 3)) (hi : i < cnt 4) (k : G g p l e R s m args below meth c Q nL (pc + 3) lv (.int (gI σ 4 i 1) :: st) σ) : G g p l e R s m args below meth c Q nL pc lv (.ref (gad g 4 i) :: st) σ := r_get (j := 1) C hd rfl inU4 rfl (by decide) u1_171 rfl hi rfl k
theorem pf_4_15 {i : Nat} {v : Int32} (C : Cx g p R s m args meth c cc nL RX4 ret h) (hd : decode cc pc = .ok (.putfield 15, 3)) (hi : i < cnt 4) (k : G g p l e R s m args below meth c Q nL (pc + 3) lv st (sI σ 4 i 1 v)) : G g p l e R s m args below meth c Q nL pc lv (.int v :: .ref (gad g 4 i) :: st) σ := r_put (j := 1) C hd rfl inU4 tyX4 tyX4_ok nmX4 rfl (by decide) u1_171 rfl rfl (ty := .int) (by decide +kernel) rfl rfl hi (Nat.le_of_ble_eq_true rfl) (by simp [fsOf, fsO, fsp, fval, sI]) (fun _ _ _ q => cell_sI_ne q) k
theorem gf_7_57 {i : Nat} (C : Cx g p R s m args meth c cc nL RX7 ret h) (hd : decode cc pc = .ok (.getfield 57, 3)) (hi : i < cnt 4) (k : G g p l e R s m args below meth c Q nL (pc + 3) lv (.int (gI σ 4 i 1) :: st) σ) : G g p l e R s m args below meth c Q nL pc lv (.ref (gad g 4 i) :: st) σ := r_get (j := 1) C hd rfl inU4 rfl (by decide) u1_172 rfl hi rfl k
theorem pf_7_57 {i : Nat} {v : Int32} (C : Cx g p R s m args meth c cc nL RX7 ret h) (hd : decode cc pc = .ok (.putfield 57, 3)) (hi : i < cnt 4) (k : G g p l e R s m args below meth c Q nL (pc + 3) lv st (sI σ 4 i 1 v)) : G g p l e R s m args below meth c Q nL pc lv (.int v :: .ref (gad g 4 i) :: st) σ := r_put (j := 1) C hd rfl inU4 tyX4 tyX4_ok nmX4 rfl (by decide) u1_172 rfl rfl (ty := .int) (by decide +kernel) rfl rfl hi (Nat.le_of_ble_eq_true rfl) (by simp [fsOf, fsO, fsp, fval, sI]) (fun _ _ _ q => cell_sI_ne q) k
theorem gf_4_22 {i : Nat} (C : Cx g p R s m args meth c cc nL RX4 ret h) (hd : decode cc pc = .ok (.getfield 22, 3)) (hi : i < cnt 4) (k : G g p l e R s m args below meth c Q nL (pc + 3) lv (.ref (gad g 2 (gR σ 1)) :: st) σ) : G g p l e R s m args below meth c Q nL pc lv (.ref (gad g 4 i) :: st) σ := r_get (j := 2) C hd rfl inU4 rfl (by decide) u1_173 rfl hi rfl k
theorem pf_4_22 {v : Nat} (C : Cx g p R s m args meth c cc nL RX4 ret h) (hd : decode cc pc = .ok (.putfield 22, 3)) (k : G g p l e R s m args below meth c Q nL (pc + 3) lv st (sR σ 1 v)) : G g p l e R s m args below meth c Q nL pc lv (.ref (gad g 2 v) :: .ref (gad g 4 0) :: st) σ := r_put (j := 2) C hd rfl inU4 tyX4 tyX4_ok nmX4 rfl (by decide) u1_173 rfl rfl (ty := .object "GapLinks$Plan") (by decide +kernel) rfl rfl (Nat.zero_lt_one : 0 < cnt 4) (Nat.le_of_ble_eq_true rfl) (by simp [fsOf, fsO, fsp, fval, sR]) cell_sR1 k
theorem gf_4_26 {i : Nat} (C : Cx g p R s m args meth c cc nL RX4 ret h) (hd : decode cc pc = .ok (.getfield 26, 3)) (hi : i < cnt 4) (k : G g p l e R s m args below meth c Q nL (pc + 3) lv (.int (gI σ 4 i 3) :: st) σ) : G g p l e R s m args below meth c Q nL pc lv (.ref (gad g 4 i) :: st) σ := r_get (j := 3) C hd rfl inU4 rfl (by decide) u1_174 rfl hi rfl k
theorem pf_4_26 {i : Nat} {v : Int32} (C : Cx g p R s m args meth c cc nL RX4 ret h) (hd : decode cc pc = .ok (.putfield 26, 3)) (hi : i < cnt 4) (k : G g p l e R s m args below meth c Q nL (pc + 3) lv st (sI σ 4 i 3 v)) : G g p l e R s m args below meth c Q nL pc lv (.int v :: .ref (gad g 4 i) :: st) σ := r_put (j := 3) C hd rfl inU4 tyX4 tyX4_ok nmX4 rfl (by decide) u1_174 rfl rfl (ty := .int) (by decide +kernel) rfl rfl hi (Nat.le_of_ble_eq_true rfl) (by simp [fsOf, fsO, fsp, fval, sI]) (fun _ _ _ q => cell_sI_ne q) k
theorem gf_4_29 {i : Nat} (C : Cx g p R s m args meth c cc nL RX4 ret h) (hd : decode cc pc = .ok (.getfield 29, 3)) (hi : i < cnt 4) (k : G g p l e R s m args below meth c Q nL (pc + 3) lv (.int (gI σ 4 i 4) :: st) σ) : G g p l e R s m args below meth c Q nL pc lv (.ref (gad g 4 i) :: st) σ := r_get (j := 4) C hd rfl inU4 rfl (by decide) u1_175 rfl hi rfl k
theorem pf_4_29 {i : Nat} {v : Int32} (C : Cx g p R s m args meth c cc nL RX4 ret h) (hd : decode cc pc = .ok (.putfield 29, 3)) (hi : i < cnt 4) (k : G g p l e R s m args below meth c Q nL (pc + 3) lv st (sI σ 4 i 4 v)) : G g p l e R s m args below meth c Q nL pc lv (.int v :: .ref (gad g 4 i) :: st) σ := r_put (j := 4) C hd rfl inU4 tyX4 tyX4_ok nmX4 rfl (by decide) u1_175 rfl rfl (ty := .int) (by decide +kernel) rfl rfl hi (Nat.le_of_ble_eq_true rfl) (by simp [fsOf, fsO, fsp, fval, sI]) (fun _ _ _ q => cell_sI_ne q) k
theorem gf_4_32 {i : Nat} (C : Cx g p R s m args meth c cc nL RX4 ret h) (hd : decode cc pc = .ok (.getfield 32, 3)) (hi : i < cnt 4) (k : G g p l e R s m args below meth c Q nL (pc + 3) lv (.int (gI σ 4 i 5) :: st) σ) : G g p l e R s m args below meth c Q nL pc lv (.ref (gad g 4 i) :: st) σ := r_get (j := 5) C hd rfl inU4 rfl (by decide) u1_176 rfl hi rfl k
theorem pf_4_32 {i : Nat} {v : Int32} (C : Cx g p R s m args meth c cc nL RX4 ret h) (hd : decode cc pc = .ok (.putfield 32, 3)) (hi : i < cnt 4) (k : G g p l e R s m args below meth c Q nL (pc + 3) lv st (sI σ 4 i 5 v)) : G g p l e R s m args below meth c Q nL pc lv (.int v :: .ref (gad g 4 i) :: st) σ := r_put (j := 5) C hd rfl inU4 tyX4 tyX4_ok nmX4 rfl (by decide) u1_176 rfl rfl (ty := .int) (by decide +kernel) rfl rfl hi (Nat.le_of_ble_eq_true rfl) (by simp [fsOf, fsO, fsp, fval, sI]) (fun _ _ _ q => cell_sI_ne q) k
theorem gf_4_35 {i : Nat} (C : Cx g p R s m args meth c cc nL RX4 ret h) (hd : decode cc pc = .ok (.getfield 35, 3)) (hi : i < cnt 4) (k : G g p l e R s m args below meth c Q nL (pc + 3) lv (.int (gI σ 4 i 6) :: st) σ) : G g p l e R s m args below meth c Q nL pc lv (.ref (gad g 4 i) :: st) σ := r_get (j := 6) C hd rfl inU4 rfl (by decide) u1_177 rfl hi rfl k
theorem pf_4_35 {i : Nat} {v : Int32} (C : Cx g p R s m args meth c cc nL RX4 ret h) (hd : decode cc pc = .ok (.putfield 35, 3)) (hi : i < cnt 4) (k : G g p l e R s m args below meth c Q nL (pc + 3) lv st (sI σ 4 i 6 v)) : G g p l e R s m args below meth c Q nL pc lv (.int v :: .ref (gad g 4 i) :: st) σ := r_put (j := 6) C hd rfl inU4 tyX4 tyX4_ok nmX4 rfl (by decide) u1_177 rfl rfl (ty := .int) (by decide +kernel) rfl rfl hi (Nat.le_of_ble_eq_true rfl) (by simp [fsOf, fsO, fsp, fval, sI]) (fun _ _ _ q => cell_sI_ne q) k
theorem gf_4_38 {i : Nat} (C : Cx g p R s m args meth c cc nL RX4 ret h) (hd : decode cc pc = .ok (.getfield 38, 3)) (hi : i < cnt 4) (k : G g p l e R s m args below meth c Q nL (pc + 3) lv (.long (gL σ 4 i 7) :: st) σ) : G g p l e R s m args below meth c Q nL pc lv (.ref (gad g 4 i) :: st) σ := r_get (j := 7) C hd rfl inU4 rfl (by decide) u1_178 rfl hi rfl k
theorem pf_4_38 {i : Nat} {v : Int64} (C : Cx g p R s m args meth c cc nL RX4 ret h) (hd : decode cc pc = .ok (.putfield 38, 3)) (hi : i < cnt 4) (k : G g p l e R s m args below meth c Q nL (pc + 3) lv st (sL σ 4 i 7 v)) : G g p l e R s m args below meth c Q nL pc lv (.long v :: .ref (gad g 4 i) :: st) σ := r_put (j := 7) C hd rfl inU4 tyX4 tyX4_ok nmX4 rfl (by decide) u1_178 rfl rfl (ty := .long) (by decide +kernel) rfl rfl hi (Nat.le_of_ble_eq_true rfl) (by simp [fsOf, fsO, fsp, fval, sL]) (fun _ _ _ q => cell_sL_ne q) k
theorem gf_4_42 {i : Nat} (C : Cx g p R s m args meth c cc nL RX4 ret h) (hd : decode cc pc = .ok (.getfield 42, 3)) (hi : i < cnt 4) (k : G g p l e R s m args below meth c Q nL (pc + 3) lv (.int (gI σ 4 i 8) :: st) σ) : G g p l e R s m args below meth c Q nL pc lv (.ref (gad g 4 i) :: st) σ := r_get (j := 8) C hd rfl inU4 rfl (by decide) u1_179 rfl hi rfl k
theorem pf_4_42 {i : Nat} {v : Int32} (C : Cx g p R s m args meth c cc nL RX4 ret h) (hd : decode cc pc = .ok (.putfield 42, 3)) (hi : i < cnt 4) (k : G g p l e R s m args below meth c Q nL (pc + 3) lv st (sI σ 4 i 8 v)) : G g p l e R s m args below meth c Q nL pc lv (.int v :: .ref (gad g 4 i) :: st) σ := r_put (j := 8) C hd rfl inU4 tyX4 tyX4_ok nmX4 rfl (by decide) u1_179 rfl rfl (ty := .int) (by decide +kernel) rfl rfl hi (Nat.le_of_ble_eq_true rfl) (by simp [fsOf, fsO, fsp, fval, sI]) (fun _ _ _ q => cell_sI_ne q) k
theorem gf_4_45 {i : Nat} (C : Cx g p R s m args meth c cc nL RX4 ret h) (hd : decode cc pc = .ok (.getfield 45, 3)) (hi : i < cnt 4) (k : G g p l e R s m args below meth c Q nL (pc + 3) lv (.int (gI σ 4 i 9) :: st) σ) : G g p l e R s m args below meth c Q nL pc lv (.ref (gad g 4 i) :: st) σ := r_get (j := 9) C hd rfl inU4 rfl (by decide) u1_180 rfl hi rfl k
theorem pf_4_45 {i : Nat} {v : Int32} (C : Cx g p R s m args meth c cc nL RX4 ret h) (hd : decode cc pc = .ok (.putfield 45, 3)) (hz : zb v) (hi : i < cnt 4) (k : G g p l e R s m args below meth c Q nL (pc + 3) lv st (sI σ 4 i 9 v)) : G g p l e R s m args below meth c Q nL pc lv (.int v :: .ref (gad g 4 i) :: st) σ := r_put (j := 9) C hd rfl inU4 tyX4 tyX4_ok nmX4 rfl (by decide) u1_180 rfl rfl (ty := .boolean) (by decide +kernel) hz.1 hz.2 hi (Nat.le_of_ble_eq_true rfl) (by simp [fsOf, fsO, fsp, fval, sI]) (fun _ _ _ q => cell_sI_ne q) k
theorem gf_4_49 {i : Nat} (C : Cx g p R s m args meth c cc nL RX4 ret h) (hd : decode cc pc = .ok (.getfield 49, 3)) (hi : i < cnt 4) (k : G g p l e R s m args below meth c Q nL (pc + 3) lv (.int (gI σ 4 i 10) :: st) σ) : G g p l e R s m args below meth c Q nL pc lv (.ref (gad g 4 i) :: st) σ := r_get (j := 10) C hd rfl inU4 rfl (by decide) u1_181 rfl hi rfl k
theorem pf_4_49 {i : Nat} {v : Int32} (C : Cx g p R s m args meth c cc nL RX4 ret h) (hd : decode cc pc = .ok (.putfield 49, 3)) (hi : i < cnt 4) (k : G g p l e R s m args below meth c Q nL (pc + 3) lv st (sI σ 4 i 10 v)) : G g p l e R s m args below meth c Q nL pc lv (.int v :: .ref (gad g 4 i) :: st) σ := r_put (j := 10) C hd rfl inU4 tyX4 tyX4_ok nmX4 rfl (by decide) u1_181 rfl rfl (ty := .int) (by decide +kernel) rfl rfl hi (Nat.le_of_ble_eq_true rfl) (by simp [fsOf, fsO, fsp, fval, sI]) (fun _ _ _ q => cell_sI_ne q) k
theorem gf_7_71 {i : Nat} (C : Cx g p R s m args meth c cc nL RX7 ret h) (hd : decode cc pc = .ok (.getfield 71, 3)) (hi : i < cnt 4) (k : G g p l e R s m args below meth c Q nL (pc + 3) lv (.int (gI σ 4 i 10) :: st) σ) : G g p l e R s m args below meth c Q nL pc lv (.ref (gad g 4 i) :: st) σ := r_get (j := 10) C hd rfl inU4 rfl (by decide) u1_182 rfl hi rfl k
theorem pf_7_71 {i : Nat} {v : Int32} (C : Cx g p R s m args meth c cc nL RX7 ret h) (hd : decode cc pc = .ok (.putfield 71, 3)) (hi : i < cnt 4) (k : G g p l e R s m args below meth c Q nL (pc + 3) lv st (sI σ 4 i 10 v)) : G g p l e R s m args below meth c Q nL pc lv (.int v :: .ref (gad g 4 i) :: st) σ := r_put (j := 10) C hd rfl inU4 tyX4 tyX4_ok nmX4 rfl (by decide) u1_182 rfl rfl (ty := .int) (by decide +kernel) rfl rfl hi (Nat.le_of_ble_eq_true rfl) (by simp [fsOf, fsO, fsp, fval, sI]) (fun _ _ _ q => cell_sI_ne q) k
theorem gf_4_52 {i : Nat} (C : Cx g p R s m args meth c cc nL RX4 ret h) (hd : decode cc pc = .ok (.getfield 52, 3)) (hi : i < cnt 4) (k : G g p l e R s m args below meth c Q nL (pc + 3) lv (.int (gI σ 4 i 11) :: st) σ) : G g p l e R s m args below meth c Q nL pc lv (.ref (gad g 4 i) :: st) σ := r_get (j := 11) C hd rfl inU4 rfl (by decide) u1_183 rfl hi rfl k
theorem pf_4_52 {i : Nat} {v : Int32} (C : Cx g p R s m args meth c cc nL RX4 ret h) (hd : decode cc pc = .ok (.putfield 52, 3)) (hi : i < cnt 4) (k : G g p l e R s m args below meth c Q nL (pc + 3) lv st (sI σ 4 i 11 v)) : G g p l e R s m args below meth c Q nL pc lv (.int v :: .ref (gad g 4 i) :: st) σ := r_put (j := 11) C hd rfl inU4 tyX4 tyX4_ok nmX4 rfl (by decide) u1_183 rfl rfl (ty := .int) (by decide +kernel) rfl rfl hi (Nat.le_of_ble_eq_true rfl) (by simp [fsOf, fsO, fsp, fval, sI]) (fun _ _ _ q => cell_sI_ne q) k
theorem gf_7_74 {i : Nat} (C : Cx g p R s m args meth c cc nL RX7 ret h) (hd : decode cc pc = .ok (.getfield 74, 3)) (hi : i < cnt 4) (k : G g p l e R s m args below meth c Q nL (pc + 3) lv (.int (gI σ 4 i 11) :: st) σ) : G g p l e R s m args below meth c Q nL pc lv (.ref (gad g 4 i) :: st) σ := r_get (j := 11) C hd rfl inU4 rfl (by decide) u1_184 rfl hi rfl k
theorem pf_7_74 {i : Nat} {v : Int32} (C : Cx g p R s m args meth c cc nL RX7 ret h) (hd : decode cc pc = .ok (.putfield 74, 3)) (hi : i < cnt 4) (k : G g p l e R s m args below meth c Q nL (pc + 3) lv st (sI σ 4 i 11 v)) : G g p l e R s m args below meth c Q nL pc lv (.int v :: .ref (gad g 4 i) :: st) σ := r_put (j := 11) C hd rfl inU4 tyX4 tyX4_ok nmX4 rfl (by decide) u1_184 rfl rfl (ty := .int) (by decide +kernel) rfl rfl hi (Nat.le_of_ble_eq_true rfl) (by simp [fsOf, fsO, fsp, fval, sI]) (fun _ _ _ q => cell_sI_ne q) k
theorem gf_1_11 {i : Nat} (C : Cx g p R s m args meth c cc nL RX1 ret h) (hd : decode cc pc = .ok (.getfield 11, 3)) (hi : i < cnt 1) (k : G g p l e R s m args below meth c Q nL (pc + 3) lv (.int (gI σ 1 i 0) :: st) σ) : G g p l e R s m args below meth c Q nL pc lv (.ref (gad g 1 i) :: st) σ := r_get (j := 0) C hd rfl inU1 rfl (by decide) u1_218 rfl hi rfl k
theorem pf_1_11 {i : Nat} {v : Int32} (C : Cx g p R s m args meth c cc nL RX1 ret h) (hd : decode cc pc = .ok (.putfield 11, 3)) (hz : zb v) (hi : i < cnt 1) (k : G g p l e R s m args below meth c Q nL (pc + 3) lv st (sI σ 1 i 0 v)) : G g p l e R s m args below meth c Q nL pc lv (.int v :: .ref (gad g 1 i) :: st) σ := r_put (j := 0) C hd rfl inU1 tyX1 tyX1_ok nmX1 rfl (by decide) u1_218 rfl rfl (ty := .boolean) (by decide +kernel) hz.1 hz.2 hi (Nat.le_of_ble_eq_true rfl) (by simp [fsOf, fsO, fsp, fval, sI]) (fun _ _ _ q => cell_sI_ne q) k
theorem gf_7_264 {i : Nat} (C : Cx g p R s m args meth c cc nL RX7 ret h) (hd : decode cc pc = .ok (.getfield 264, 3)) (hi : i < cnt 1) (k : G g p l e R s m args below meth c Q nL (pc + 3) lv (.int (gI σ 1 i 0) :: st) σ) : G g p l e R s m args below meth c Q nL pc lv (.ref (gad g 1 i) :: st) σ := r_get (j := 0) C hd rfl inU1 rfl (by decide) u1_219 rfl hi rfl k
theorem pf_7_264 {i : Nat} {v : Int32} (C : Cx g p R s m args meth c cc nL RX7 ret h) (hd : decode cc pc = .ok (.putfield 264, 3)) (hz : zb v) (hi : i < cnt 1) (k : G g p l e R s m args below meth c Q nL (pc + 3) lv st (sI σ 1 i 0 v)) : G g p l e R s m args below meth c Q nL pc lv (.int v :: .ref (gad g 1 i) :: st) σ := r_put (j := 0) C hd rfl inU1 tyX1 tyX1_ok nmX1 rfl (by decide) u1_219 rfl rfl (ty := .boolean) (by decide +kernel) hz.1 hz.2 hi (Nat.le_of_ble_eq_true rfl) (by simp [fsOf, fsO, fsp, fval, sI]) (fun _ _ _ q => cell_sI_ne q) k
theorem gf_1_15 {i : Nat} (C : Cx g p R s m args meth c cc nL RX1 ret h) (hd : decode cc pc = .ok (.getfield 15, 3)) (hi : i < cnt 1) (k : G g p l e R s m args below meth c Q nL (pc + 3) lv (.ref (gad g 19 i) :: st) σ) : G g p l e R s m args below meth c Q nL pc lv (.ref (gad g 1 i) :: st) σ := r_get (j := 1) C hd rfl inU1 rfl (by decide) u1_220 rfl hi rfl k
theorem gf_1_19 {i : Nat} (C : Cx g p R s m args meth c cc nL RX1 ret h) (hd : decode cc pc = .ok (.getfield 19, 3)) (hi : i < cnt 1) (k : G g p l e R s m args below meth c Q nL (pc + 3) lv (.ref (gad g 20 i) :: st) σ) : G g p l e R s m args below meth c Q nL pc lv (.ref (gad g 1 i) :: st) σ := r_get (j := 2) C hd rfl inU1 rfl (by decide) u1_221 rfl hi rfl k
theorem gf_7_267 {i : Nat} (C : Cx g p R s m args meth c cc nL RX7 ret h) (hd : decode cc pc = .ok (.getfield 267, 3)) (hi : i < cnt 1) (k : G g p l e R s m args below meth c Q nL (pc + 3) lv (.ref (gad g 20 i) :: st) σ) : G g p l e R s m args below meth c Q nL pc lv (.ref (gad g 1 i) :: st) σ := r_get (j := 2) C hd rfl inU1 rfl (by decide) u1_222 rfl hi rfl k
theorem gf_1_23 {i : Nat} (C : Cx g p R s m args meth c cc nL RX1 ret h) (hd : decode cc pc = .ok (.getfield 23, 3)) (hi : i < cnt 1) (k : G g p l e R s m args below meth c Q nL (pc + 3) lv (.ref (gad g 21 i) :: st) σ) : G g p l e R s m args below meth c Q nL pc lv (.ref (gad g 1 i) :: st) σ := r_get (j := 3) C hd rfl inU1 rfl (by decide) u1_223 rfl hi rfl k
theorem gf_7_271 {i : Nat} (C : Cx g p R s m args meth c cc nL RX7 ret h) (hd : decode cc pc = .ok (.getfield 271, 3)) (hi : i < cnt 1) (k : G g p l e R s m args below meth c Q nL (pc + 3) lv (.ref (gad g 21 i) :: st) σ) : G g p l e R s m args below meth c Q nL pc lv (.ref (gad g 1 i) :: st) σ := r_get (j := 3) C hd rfl inU1 rfl (by decide) u1_224 rfl hi rfl k
theorem gf_3_9 {i : Nat} (C : Cx g p R s m args meth c cc nL RX3 ret h) (hd : decode cc pc = .ok (.getfield 9, 3)) (hi : i < cnt 3) (k : G g p l e R s m args below meth c Q nL (pc + 3) lv (.int (gI σ 3 i 0) :: st) σ) : G g p l e R s m args below meth c Q nL pc lv (.ref (gad g 3 i) :: st) σ := r_get (j := 0) C hd rfl inU3 rfl (by decide) u2_6 rfl hi rfl k
theorem pf_3_9 {i : Nat} {v : Int32} (C : Cx g p R s m args meth c cc nL RX3 ret h) (hd : decode cc pc = .ok (.putfield 9, 3)) (hi : i < cnt 3) (k : G g p l e R s m args below meth c Q nL (pc + 3) lv st (sI σ 3 i 0 v)) : G g p l e R s m args below meth c Q nL pc lv (.int v :: .ref (gad g 3 i) :: st) σ := r_put (j := 0) C hd rfl inU3 tyX3 tyX3_ok nmX3 rfl (by decide) u2_6 rfl rfl (ty := .int) (by decide +kernel) rfl rfl hi (Nat.le_of_ble_eq_true rfl) (by simp [fsOf, fsO, fsp, fval, sI]) (fun _ _ _ q => cell_sI_ne q) k
theorem gf_5_87 {i : Nat} (C : Cx g p R s m args meth c cc nL RX5 ret h) (hd : decode cc pc = .ok (.getfield 87, 3)) (hi : i < cnt 3) (k : G g p l e R s m args below meth c Q nL (pc + 3) lv (.int (gI σ 3 i 0) :: st) σ) : G g p l e R s m args below meth c Q nL pc lv (.ref (gad g 3 i) :: st) σ := r_get (j := 0) C hd rfl inU3 rfl (by decide) u2_7 rfl hi rfl k
theorem pf_5_87 {i : Nat} {v : Int32} (C : Cx g p R s m args meth c cc nL RX5 ret h) (hd : decode cc pc = .ok (.putfield 87, 3)) (hi : i < cnt 3) (k : G g p l e R s m args below meth c Q nL (pc + 3) lv st (sI σ 3 i 0 v)) : G g p l e R s m args below meth c Q nL pc lv (.int v :: .ref (gad g 3 i) :: st) σ := r_put (j := 0) C hd rfl inU3 tyX3 tyX3_ok nmX3 rfl (by decide) u2_7 rfl rfl (ty := .int) (by decide +kernel) rfl rfl hi (Nat.le_of_ble_eq_true rfl) (by simp [fsOf, fsO, fsp, fval, sI]) (fun _ _ _ q => cell_sI_ne q) k
theorem gf_7_335 {i : Nat} (C : Cx g p R s m args meth c cc nL RX7 ret h) (hd : decode cc pc = .ok (.getfield 335, 3)) (hi : i < cnt 3) (k : G g p l e R s m args below meth c Q nL (pc + 3) lv (.int (gI σ 3 i 0) :: st) σ) : G g p l e R s m args below meth c Q nL pc lv (.ref (gad g 3 i) :: st) σ := r_get (j := 0) C hd rfl inU3 rfl (by decide) u2_8 rfl hi rfl k
theorem pf_7_335 {i : Nat} {v : Int32} (C : Cx g p R s m args meth c cc nL RX7 ret h) (hd : decode cc pc = .ok (.putfield 335, 3)) (hi : i < cnt 3) (k : G g p l e R s m args below meth c Q nL (pc + 3) lv st (sI σ 3 i 0 v)) : G g p l e R s m args below meth c Q nL pc lv (.int v :: .ref (gad g 3 i) :: st) σ := r_put (j := 0) C hd rfl inU3 tyX3 tyX3_ok nmX3 rfl (by decide) u2_8 rfl rfl (ty := .int) (by decide +kernel) rfl rfl hi (Nat.le_of_ble_eq_true rfl) (by simp [fsOf, fsO, fsp, fval, sI]) (fun _ _ _ q => cell_sI_ne q) k
theorem gf_3_15 {i : Nat} (C : Cx g p R s m args meth c cc nL RX3 ret h) (hd : decode cc pc = .ok (.getfield 15, 3)) (hi : i < cnt 3) (k : G g p l e R s m args below meth c Q nL (pc + 3) lv (.ref (gad g 30 i) :: st) σ) : G g p l e R s m args below meth c Q nL pc lv (.ref (gad g 3 i) :: st) σ := r_get (j := 1) C hd rfl inU3 rfl (by decide) u2_9 rfl hi rfl k
theorem gf_7_204 {i : Nat} (C : Cx g p R s m args meth c cc nL RX7 ret h) (hd : decode cc pc = .ok (.getfield 204, 3)) (hi : i < cnt 3) (k : G g p l e R s m args below meth c Q nL (pc + 3) lv (.ref (gad g 30 i) :: st) σ) : G g p l e R s m args below meth c Q nL pc lv (.ref (gad g 3 i) :: st) σ := r_get (j := 1) C hd rfl inU3 rfl (by decide) u2_10 rfl hi rfl k
theorem gf_5_201 {i : Nat} (C : Cx g p R s m args meth c cc nL RX5 ret h) (hd : decode cc pc = .ok (.getfield 201, 3)) (hi : i < cnt 3) (k : G g p l e R s m args below meth c Q nL (pc + 3) lv (.ref (gad g 30 i) :: st) σ) : G g p l e R s m args below meth c Q nL pc lv (.ref (gad g 3 i) :: st) σ := r_get (j := 1) C hd rfl inU3 rfl (by decide) u2_11 rfl hi rfl k
theorem gf_3_19 {i : Nat} (C : Cx g p R s m args meth c cc nL RX3 ret h) (hd : decode cc pc = .ok (.getfield 19, 3)) (hi : i < cnt 3) (k : G g p l e R s m args below meth c Q nL (pc + 3) lv (.ref (gad g 31 i) :: st) σ) : G g p l e R s m args below meth c Q nL pc lv (.ref (gad g 3 i) :: st) σ := r_get (j := 2) C hd rfl inU3 rfl (by decide) u2_12 rfl hi rfl k
theorem gf_3_22 {i : Nat} (C : Cx g p R s m args meth c cc nL RX3 ret h) (hd : decode cc pc = .ok (.getfield 22, 3)) (hi : i < cnt 3) (k : G g p l e R s m args below meth c Q nL (pc + 3) lv (.ref (gad g 32 i) :: st) σ) : G g p l e R s m args below meth c Q nL pc lv (.ref (gad g 3 i) :: st) σ := r_get (j := 3) C hd rfl inU3 rfl (by decide) u2_13 rfl hi rfl k
theorem gf_5_135 {i : Nat} (C : Cx g p R s m args meth c cc nL RX5 ret h) (hd : decode cc pc = .ok (.getfield 135, 3)) (hi : i < cnt 3) (k : G g p l e R s m args below meth c Q nL (pc + 3) lv (.ref (gad g 32 i) :: st) σ) : G g p l e R s m args below meth c Q nL pc lv (.ref (gad g 3 i) :: st) σ := r_get (j := 3) C hd rfl inU3 rfl (by decide) u2_14 rfl hi rfl k
theorem gf_7_212 {i : Nat} (C : Cx g p R s m args meth c cc nL RX7 ret h) (hd : decode cc pc = .ok (.getfield 212, 3)) (hi : i < cnt 3) (k : G g p l e R s m args below meth c Q nL (pc + 3) lv (.ref (gad g 32 i) :: st) σ) : G g p l e R s m args below meth c Q nL pc lv (.ref (gad g 3 i) :: st) σ := r_get (j := 3) C hd rfl inU3 rfl (by decide) u2_15 rfl hi rfl k
theorem gf_3_25 {i : Nat} (C : Cx g p R s m args meth c cc nL RX3 ret h) (hd : decode cc pc = .ok (.getfield 25, 3)) (hi : i < cnt 3) (k : G g p l e R s m args below meth c Q nL (pc + 3) lv (.ref (gad g 33 i) :: st) σ) : G g p l e R s m args below meth c Q nL pc lv (.ref (gad g 3 i) :: st) σ := r_get (j := 4) C hd rfl inU3 rfl (by decide) u2_16 rfl hi rfl k
theorem gf_7_215 {i : Nat} (C : Cx g p R s m args meth c cc nL RX7 ret h) (hd : decode cc pc = .ok (.getfield 215, 3)) (hi : i < cnt 3) (k : G g p l e R s m args below meth c Q nL (pc + 3) lv (.ref (gad g 33 i) :: st) σ) : G g p l e R s m args below meth c Q nL pc lv (.ref (gad g 3 i) :: st) σ := r_get (j := 4) C hd rfl inU3 rfl (by decide) u2_17 rfl hi rfl k
theorem gf_3_28 {i : Nat} (C : Cx g p R s m args meth c cc nL RX3 ret h) (hd : decode cc pc = .ok (.getfield 28, 3)) (hi : i < cnt 3) (k : G g p l e R s m args below meth c Q nL (pc + 3) lv (.ref (gad g 34 i) :: st) σ) : G g p l e R s m args below meth c Q nL pc lv (.ref (gad g 3 i) :: st) σ := r_get (j := 5) C hd rfl inU3 rfl (by decide) u2_18 rfl hi rfl k
theorem gf_5_156 {i : Nat} (C : Cx g p R s m args meth c cc nL RX5 ret h) (hd : decode cc pc = .ok (.getfield 156, 3)) (hi : i < cnt 3) (k : G g p l e R s m args below meth c Q nL (pc + 3) lv (.ref (gad g 34 i) :: st) σ) : G g p l e R s m args below meth c Q nL pc lv (.ref (gad g 3 i) :: st) σ := r_get (j := 5) C hd rfl inU3 rfl (by decide) u2_19 rfl hi rfl k
theorem gf_7_221 {i : Nat} (C : Cx g p R s m args meth c cc nL RX7 ret h) (hd : decode cc pc = .ok (.getfield 221, 3)) (hi : i < cnt 3) (k : G g p l e R s m args below meth c Q nL (pc + 3) lv (.ref (gad g 34 i) :: st) σ) : G g p l e R s m args below meth c Q nL pc lv (.ref (gad g 3 i) :: st) σ := r_get (j := 5) C hd rfl inU3 rfl (by decide) u2_20 rfl hi rfl k
theorem gf_3_31 {i : Nat} (C : Cx g p R s m args meth c cc nL RX3 ret h) (hd : decode cc pc = .ok (.getfield 31, 3)) (hi : i < cnt 3) (k : G g p l e R s m args below meth c Q nL (pc + 3) lv (.ref (gad g 35 i) :: st) σ) : G g p l e R s m args below meth c Q nL pc lv (.ref (gad g 3 i) :: st) σ := r_get (j := 6) C hd rfl inU3 rfl (by decide) u2_21 rfl hi rfl k
theorem gf_5_162 {i : Nat} (C : Cx g p R s m args meth c cc nL RX5 ret h) (hd : decode cc pc = .ok (.getfield 162, 3)) (hi : i < cnt 3) (k : G g p l e R s m args below meth c Q nL (pc + 3) lv (.ref (gad g 35 i) :: st) σ) : G g p l e R s m args below meth c Q nL pc lv (.ref (gad g 3 i) :: st) σ := r_get (j := 6) C hd rfl inU3 rfl (by decide) u2_22 rfl hi rfl k
theorem gf_7_224 {i : Nat} (C : Cx g p R s m args meth c cc nL RX7 ret h) (hd : decode cc pc = .ok (.getfield 224, 3)) (hi : i < cnt 3) (k : G g p l e R s m args below meth c Q nL (pc + 3) lv (.ref (gad g 35 i) :: st) σ) : G g p l e R s m args below meth c Q nL pc lv (.ref (gad g 3 i) :: st) σ := r_get (j := 6) C hd rfl inU3 rfl (by decide) u2_23 rfl hi rfl k
theorem gf_3_34 {i : Nat} (C : Cx g p R s m args meth c cc nL RX3 ret h) (hd : decode cc pc = .ok (.getfield 34, 3)) (hi : i < cnt 3) (k : G g p l e R s m args below meth c Q nL (pc + 3) lv (.ref (gad g 36 i) :: st) σ) : G g p l e R s m args below meth c Q nL pc lv (.ref (gad g 3 i) :: st) σ := r_get (j := 7) C hd rfl inU3 rfl (by decide) u2_24 rfl hi rfl k
theorem gf_5_163 {i : Nat} (C : Cx g p R s m args meth c cc nL RX5 ret h) (hd : decode cc pc = .ok (.getfield 163, 3)) (hi : i < cnt 3) (k : G g p l e R s m args below meth c Q nL (pc + 3) lv (.ref (gad g 36 i) :: st) σ) : G g p l e R s m args below meth c Q nL pc lv (.ref (gad g 3 i) :: st) σ := r_get (j := 7) C hd rfl inU3 rfl (by decide) u2_25 rfl hi rfl k
theorem gf_7_225 {i : Nat} (C : Cx g p R s m args meth c cc nL RX7 ret h) (hd : decode cc pc = .ok (.getfield 225, 3)) (hi : i < cnt 3) (k : G g p l e R s m args below meth c Q nL (pc + 3) lv (.ref (gad g 36 i) :: st) σ) : G g p l e R s m args below meth c Q nL pc lv (.ref (gad g 3 i) :: st) σ := r_get (j := 7) C hd rfl inU3 rfl (by decide) u2_26 rfl hi rfl k
theorem gf_0_9 {i : Nat} (C : Cx g p R s m args meth c cc nL RX0 ret h) (hd : decode cc pc = .ok (.getfield 9, 3)) (hi : i < cnt 0) (k : G g p l e R s m args below meth c Q nL (pc + 3) lv (.int (gI σ 0 i 0) :: st) σ) : G g p l e R s m args below meth c Q nL pc lv (.ref (gad g 0 i) :: st) σ := r_get (j := 0) C hd rfl inU0 rfl (by decide) u2_50 rfl hi rfl k
theorem pf_0_9 {i : Nat} {v : Int32} (C : Cx g p R s m args meth c cc nL RX0 ret h) (hd : decode cc pc = .ok (.putfield 9, 3)) (hi : i < cnt 0) (k : G g p l e R s m args below meth c Q nL (pc + 3) lv st (sI σ 0 i 0 v)) : G g p l e R s m args below meth c Q nL pc lv (.int v :: .ref (gad g 0 i) :: st) σ := r_put (j := 0) C hd rfl inU0 tyX0 tyX0_ok nmX0 rfl (by decide) u2_50 rfl rfl (ty := .int) (by decide +kernel) rfl rfl hi (Nat.le_of_ble_eq_true rfl) (by simp [fsOf, fsO, fsp, fval, sI]) (fun _ _ _ q => cell_sI_ne q) k
theorem gf_7_306 {i : Nat} (C : Cx g p R s m args meth c cc nL RX7 ret h) (hd : decode cc pc = .ok (.getfield 306, 3)) (hi : i < cnt 0) (k : G g p l e R s m args below meth c Q nL (pc + 3) lv (.int (gI σ 0 i 0) :: st) σ) : G g p l e R s m args below meth c Q nL pc lv (.ref (gad g 0 i) :: st) σ := r_get (j := 0) C hd rfl inU0 rfl (by decide) u2_51 rfl hi rfl k
theorem pf_7_306 {i : Nat} {v : Int32} (C : Cx g p R s m args meth c cc nL RX7 ret h) (hd : decode cc pc = .ok (.putfield 306, 3)) (hi : i < cnt 0) (k : G g p l e R s m args below meth c Q nL (pc + 3) lv st (sI σ 0 i 0 v)) : G g p l e R s m args below meth c Q nL pc lv (.int v :: .ref (gad g 0 i) :: st) σ := r_put (j := 0) C hd rfl inU0 tyX0 tyX0_ok nmX0 rfl (by decide) u2_51 rfl rfl (ty := .int) (by decide +kernel) rfl rfl hi (Nat.le_of_ble_eq_true rfl) (by simp [fsOf, fsO, fsp, fval, sI]) (fun _ _ _ q => cell_sI_ne q) k
theorem gf_0_15 {i : Nat} (C : Cx g p R s m args meth c cc nL RX0 ret h) (hd : decode cc pc = .ok (.getfield 15, 3)) (hi : i < cnt 0) (k : G g p l e R s m args below meth c Q nL (pc + 3) lv (.ref (gad g 9 i) :: st) σ) : G g p l e R s m args below meth c Q nL pc lv (.ref (gad g 0 i) :: st) σ := r_get (j := 1) C hd rfl inU0 rfl (by decide) u2_52 rfl hi rfl k
theorem gf_0_19 {i : Nat} (C : Cx g p R s m args meth c cc nL RX0 ret h) (hd : decode cc pc = .ok (.getfield 19, 3)) (hi : i < cnt 0) (k : G g p l e R s m args below meth c Q nL (pc + 3) lv (.ref (gad g 10 i) :: st) σ) : G g p l e R s m args below meth c Q nL pc lv (.ref (gad g 0 i) :: st) σ := r_get (j := 2) C hd rfl inU0 rfl (by decide) u2_53 rfl hi rfl k
theorem gf_0_22 {i : Nat} (C : Cx g p R s m args meth c cc nL RX0 ret h) (hd : decode cc pc = .ok (.getfield 22, 3)) (hi : i < cnt 0) (k : G g p l e R s m args below meth c Q nL (pc + 3) lv (.ref (gad g 11 i) :: st) σ) : G g p l e R s m args below meth c Q nL pc lv (.ref (gad g 0 i) :: st) σ := r_get (j := 3) C hd rfl inU0 rfl (by decide) u2_54 rfl hi rfl k
theorem gf_0_25 {i : Nat} (C : Cx g p R s m args meth c cc nL RX0 ret h) (hd : decode cc pc = .ok (.getfield 25, 3)) (hi : i < cnt 0) (k : G g p l e R s m args below meth c Q nL (pc + 3) lv (.ref (gad g 12 i) :: st) σ) : G g p l e R s m args below meth c Q nL pc lv (.ref (gad g 0 i) :: st) σ := r_get (j := 4) C hd rfl inU0 rfl (by decide) u2_55 rfl hi rfl k
theorem gf_0_28 {i : Nat} (C : Cx g p R s m args meth c cc nL RX0 ret h) (hd : decode cc pc = .ok (.getfield 28, 3)) (hi : i < cnt 0) (k : G g p l e R s m args below meth c Q nL (pc + 3) lv (.ref (gad g 13 i) :: st) σ) : G g p l e R s m args below meth c Q nL pc lv (.ref (gad g 0 i) :: st) σ := r_get (j := 5) C hd rfl inU0 rfl (by decide) u2_56 rfl hi rfl k
theorem gf_0_31 {i : Nat} (C : Cx g p R s m args meth c cc nL RX0 ret h) (hd : decode cc pc = .ok (.getfield 31, 3)) (hi : i < cnt 0) (k : G g p l e R s m args below meth c Q nL (pc + 3) lv (.ref (gad g 14 i) :: st) σ) : G g p l e R s m args below meth c Q nL pc lv (.ref (gad g 0 i) :: st) σ := r_get (j := 6) C hd rfl inU0 rfl (by decide) u2_57 rfl hi rfl k
theorem gf_0_34 {i : Nat} (C : Cx g p R s m args meth c cc nL RX0 ret h) (hd : decode cc pc = .ok (.getfield 34, 3)) (hi : i < cnt 0) (k : G g p l e R s m args below meth c Q nL (pc + 3) lv (.ref (gad g 15 i) :: st) σ) : G g p l e R s m args below meth c Q nL pc lv (.ref (gad g 0 i) :: st) σ := r_get (j := 7) C hd rfl inU0 rfl (by decide) u2_58 rfl hi rfl k
theorem gf_7_278 {i : Nat} (C : Cx g p R s m args meth c cc nL RX7 ret h) (hd : decode cc pc = .ok (.getfield 278, 3)) (hi : i < cnt 0) (k : G g p l e R s m args below meth c Q nL (pc + 3) lv (.ref (gad g 15 i) :: st) σ) : G g p l e R s m args below meth c Q nL pc lv (.ref (gad g 0 i) :: st) σ := r_get (j := 7) C hd rfl inU0 rfl (by decide) u2_59 rfl hi rfl k
theorem gf_0_37 {i : Nat} (C : Cx g p R s m args meth c cc nL RX0 ret h) (hd : decode cc pc = .ok (.getfield 37, 3)) (hi : i < cnt 0) (k : G g p l e R s m args below meth c Q nL (pc + 3) lv (.ref (gad g 16 i) :: st) σ) : G g p l e R s m args below meth c Q nL pc lv (.ref (gad g 0 i) :: st) σ := r_get (j := 8) C hd rfl inU0 rfl (by decide) u2_60 rfl hi rfl k
theorem gf_0_40 {i : Nat} (C : Cx g p R s m args meth c cc nL RX0 ret h) (hd : decode cc pc = .ok (.getfield 40, 3)) (hi : i < cnt 0) (k : G g p l e R s m args below meth c Q nL (pc + 3) lv (.ref (gad g 17 i) :: st) σ) : G g p l e R s m args below meth c Q nL pc lv (.ref (gad g 0 i) :: st) σ := r_get (j := 9) C hd rfl inU0 rfl (by decide) u2_61 rfl hi rfl k
theorem gf_7_247 {i : Nat} (C : Cx g p R s m args meth c cc nL RX7 ret h) (hd : decode cc pc = .ok (.getfield 247, 3)) (hi : i < cnt 0) (k : G g p l e R s m args below meth c Q nL (pc + 3) lv (.ref (gad g 17 i) :: st) σ) : G g p l e R s m args below meth c Q nL pc lv (.ref (gad g 0 i) :: st) σ := r_get (j := 9) C hd rfl inU0 rfl (by decide) u2_62 rfl hi rfl k
theorem gf_0_43 {i : Nat} (C : Cx g p R s m args meth c cc nL RX0 ret h) (hd : decode cc pc = .ok (.getfield 43, 3)) (hi : i < cnt 0) (k : G g p l e R s m args below meth c Q nL (pc + 3) lv (.ref (gad g 18 i) :: st) σ) : G g p l e R s m args below meth c Q nL pc lv (.ref (gad g 0 i) :: st) σ := r_get (j := 10) C hd rfl inU0 rfl (by decide) u2_63 rfl hi rfl k
theorem gf_5_9 {i : Nat} (C : Cx g p R s m args meth c cc nL RX5 ret h) (hd : decode cc pc = .ok (.getfield 9, 3)) (hi : i < cnt 5) (k : G g p l e R s m args below meth c Q nL (pc + 3) lv (.int (gI σ 5 i 0) :: st) σ) : G g p l e R s m args below meth c Q nL pc lv (.ref (gad g 5 i) :: st) σ := r_get (j := 0) C hd rfl inU5 rfl (by decide) u2_87 rfl hi rfl k
theorem pf_5_9 {i : Nat} {v : Int32} (C : Cx g p R s m args meth c cc nL RX5 ret h) (hd : decode cc pc = .ok (.putfield 9, 3)) (hi : i < cnt 5) (k : G g p l e R s m args below meth c Q nL (pc + 3) lv st (sI σ 5 i 0 v)) : G g p l e R s m args below meth c Q nL pc lv (.int v :: .ref (gad g 5 i) :: st) σ := r_put (j := 0) C hd rfl inU5 tyX5 tyX5_ok nmX5 rfl (by decide) u2_87 rfl rfl (ty := .int) (by decide +kernel) rfl rfl hi (Nat.le_of_ble_eq_true rfl) (by simp [fsOf, fsO, fsp, fval, sI]) (fun _ _ _ q => cell_sI_ne q) k
theorem gf_7_125 {i : Nat} (C : Cx g p R s m args meth c cc nL RX7 ret h) (hd : decode cc pc = .ok (.getfield 125, 3)) (hi : i < cnt 5) (k : G g p l e R s m args below meth c Q nL (pc + 3) lv (.int (gI σ 5 i 0) :: st) σ) : G g p l e R s m args below meth c Q nL pc lv (.ref (gad g 5 i) :: st) σ := r_get (j := 0) C hd rfl inU5 rfl (by decide) u2_88 rfl hi rfl k
theorem pf_7_125 {i : Nat} {v : Int32} (C : Cx g p R s m args meth c cc nL RX7 ret h) (hd : decode cc pc = .ok (.putfield 125, 3)) (hi : i < cnt 5) (k : G g p l e R s m args below meth c Q nL (pc + 3) lv st (sI σ 5 i 0 v)) : G g p l e R s m args below meth c Q nL pc lv (.int v :: .ref (gad g 5 i) :: st) σ := r_put (j := 0) C hd rfl inU5 tyX5 tyX5_ok nmX5 rfl (by decide) u2_88 rfl rfl (ty := .int) (by decide +kernel) rfl rfl hi (Nat.le_of_ble_eq_true rfl) (by simp [fsOf, fsO, fsp, fval, sI]) (fun _ _ _ q => cell_sI_ne q) k
theorem gf_5_15 {i : Nat} (C : Cx g p R s m args meth c cc nL RX5 ret h) (hd : decode cc pc = .ok (.getfield 15, 3)) (hi : i < cnt 5) (k : G g p l e R s m args below meth c Q nL (pc + 3) lv (.ref (gad g 38 i) :: st) σ) : G g p l e R s m args below meth c Q nL pc lv (.ref (gad g 5 i) :: st) σ := r_get (j := 1) C hd rfl inU5 rfl (by decide) u2_89 rfl hi rfl k
theorem gf_7_297 {i : Nat} (C : Cx g p R s m args meth c cc nL RX7 ret h) (hd : decode cc pc = .ok (.getfield 297, 3)) (hi : i < cnt 5) (k : G g p l e R s m args below meth c Q nL (pc + 3) lv (.ref (gad g 38 i) :: st) σ) : G g p l e R s m args below meth c Q nL pc lv (.ref (gad g 5 i) :: st) σ := r_get (j := 1) C hd rfl inU5 rfl (by decide) u2_90 rfl hi rfl k
theorem gf_5_19 {i : Nat} (C : Cx g p R s m args meth c cc nL RX5 ret h) (hd : decode cc pc = .ok (.getfield 19, 3)) (hi : i < cnt 5) (k : G g p l e R s m args below meth c Q nL (pc + 3) lv (.ref (gad g 39 i) :: st) σ) : G g p l e R s m args below meth c Q nL pc lv (.ref (gad g 5 i) :: st) σ := r_get (j := 2) C hd rfl inU5 rfl (by decide) u2_91 rfl hi rfl k
theorem gf_7_229 {i : Nat} (C : Cx g p R s m args meth c cc nL RX7 ret h) (hd : decode cc pc = .ok (.getfield 229, 3)) (hi : i < cnt 5) (k : G g p l e R s m args below meth c Q nL (pc + 3) lv (.ref (gad g 39 i) :: st) σ) : G g p l e R s m args below meth c Q nL pc lv (.ref (gad g 5 i) :: st) σ := r_get (j := 2) C hd rfl inU5 rfl (by decide) u2_92 rfl hi rfl k
theorem gf_5_22 {i : Nat} (C : Cx g p R s m args meth c cc nL RX5 ret h) (hd : decode cc pc = .ok (.getfield 22, 3)) (hi : i < cnt 5) (k : G g p l e R s m args below meth c Q nL (pc + 3) lv (.ref (gad g 40 i) :: st) σ) : G g p l e R s m args below meth c Q nL pc lv (.ref (gad g 5 i) :: st) σ := r_get (j := 3) C hd rfl inU5 rfl (by decide) u2_93 rfl hi rfl k
theorem gf_7_176 {i : Nat} (C : Cx g p R s m args meth c cc nL RX7 ret h) (hd : decode cc pc = .ok (.getfield 176, 3)) (hi : i < cnt 5) (k : G g p l e R s m args below meth c Q nL (pc + 3) lv (.ref (gad g 40 i) :: st) σ) : G g p l e R s m args below meth c Q nL pc lv (.ref (gad g 5 i) :: st) σ := r_get (j := 3) C hd rfl inU5 rfl (by decide) u2_94 rfl hi rfl k
theorem gf_5_25 {i : Nat} (C : Cx g p R s m args meth c cc nL RX5 ret h) (hd : decode cc pc = .ok (.getfield 25, 3)) (hi : i < cnt 5) (k : G g p l e R s m args below meth c Q nL (pc + 3) lv (.ref (gad g 41 i) :: st) σ) : G g p l e R s m args below meth c Q nL pc lv (.ref (gad g 5 i) :: st) σ := r_get (j := 4) C hd rfl inU5 rfl (by decide) u2_95 rfl hi rfl k
theorem gf_7_179 {i : Nat} (C : Cx g p R s m args meth c cc nL RX7 ret h) (hd : decode cc pc = .ok (.getfield 179, 3)) (hi : i < cnt 5) (k : G g p l e R s m args below meth c Q nL (pc + 3) lv (.ref (gad g 41 i) :: st) σ) : G g p l e R s m args below meth c Q nL pc lv (.ref (gad g 5 i) :: st) σ := r_get (j := 4) C hd rfl inU5 rfl (by decide) u2_96 rfl hi rfl k
theorem gf_5_28 {i : Nat} (C : Cx g p R s m args meth c cc nL RX5 ret h) (hd : decode cc pc = .ok (.getfield 28, 3)) (hi : i < cnt 5) (k : G g p l e R s m args below meth c Q nL (pc + 3) lv (.ref (gad g 42 i) :: st) σ) : G g p l e R s m args below meth c Q nL pc lv (.ref (gad g 5 i) :: st) σ := r_get (j := 5) C hd rfl inU5 rfl (by decide) u2_97 rfl hi rfl k
theorem gf_7_182 {i : Nat} (C : Cx g p R s m args meth c cc nL RX7 ret h) (hd : decode cc pc = .ok (.getfield 182, 3)) (hi : i < cnt 5) (k : G g p l e R s m args below meth c Q nL (pc + 3) lv (.ref (gad g 42 i) :: st) σ) : G g p l e R s m args below meth c Q nL pc lv (.ref (gad g 5 i) :: st) σ := r_get (j := 5) C hd rfl inU5 rfl (by decide) u2_98 rfl hi rfl k
theorem gf_5_31 {i : Nat} (C : Cx g p R s m args meth c cc nL RX5 ret h) (hd : decode cc pc = .ok (.getfield 31, 3)) (hi : i < cnt 5) (k : G g p l e R s m args below meth c Q nL (pc + 3) lv (.ref (gad g 43 i) :: st) σ) : G g p l e R s m args below meth c Q nL pc lv (.ref (gad g 5 i) :: st) σ := r_get (j := 6) C hd rfl inU5 rfl (by decide) u2_99 rfl hi rfl k
theorem gf_7_185 {i : Nat} (C : Cx g p R s m args meth c cc nL RX7 ret h) (hd : decode cc pc = .ok (.getfield 185, 3)) (hi : i < cnt 5) (k : G g p l e R s m args below meth c Q nL (pc + 3) lv (.ref (gad g 43 i) :: st) σ) : G g p l e R s m args below meth c Q nL pc lv (.ref (gad g 5 i) :: st) σ := r_get (j := 6) C hd rfl inU5 rfl (by decide) u2_100 rfl hi rfl k
theorem gf_5_34 {i : Nat} (C : Cx g p R s m args meth c cc nL RX5 ret h) (hd : decode cc pc = .ok (.getfield 34, 3)) (hi : i < cnt 5) (k : G g p l e R s m args below meth c Q nL (pc + 3) lv (.ref (gad g 44 i) :: st) σ) : G g p l e R s m args below meth c Q nL pc lv (.ref (gad g 5 i) :: st) σ := r_get (j := 7) C hd rfl inU5 rfl (by decide) u2_101 rfl hi rfl k
theorem gf_7_188 {i : Nat} (C : Cx g p R s m args meth c cc nL RX7 ret h) (hd : decode cc pc = .ok (.getfield 188, 3)) (hi : i < cnt 5) (k : G g p l e R s m args below meth c Q nL (pc + 3) lv (.ref (gad g 44 i) :: st) σ) : G g p l e R s m args below meth c Q nL pc lv (.ref (gad g 5 i) :: st) σ := r_get (j := 7) C hd rfl inU5 rfl (by decide) u2_102 rfl hi rfl k
theorem gf_5_37 {i : Nat} (C : Cx g p R s m args meth c cc nL RX5 ret h) (hd : decode cc pc = .ok (.getfield 37, 3)) (hi : i < cnt 5) (k : G g p l e R s m args below meth c Q nL (pc + 3) lv (.ref (gad g 45 i) :: st) σ) : G g p l e R s m args below meth c Q nL pc lv (.ref (gad g 5 i) :: st) σ := r_get (j := 8) C hd rfl inU5 rfl (by decide) u2_103 rfl hi rfl k
theorem gf_7_194 {i : Nat} (C : Cx g p R s m args meth c cc nL RX7 ret h) (hd : decode cc pc = .ok (.getfield 194, 3)) (hi : i < cnt 5) (k : G g p l e R s m args below meth c Q nL (pc + 3) lv (.ref (gad g 45 i) :: st) σ) : G g p l e R s m args below meth c Q nL pc lv (.ref (gad g 5 i) :: st) σ := r_get (j := 8) C hd rfl inU5 rfl (by decide) u2_104 rfl hi rfl k
theorem gf_5_40 {i : Nat} (C : Cx g p R s m args meth c cc nL RX5 ret h) (hd : decode cc pc = .ok (.getfield 40, 3)) (hi : i < cnt 5) (k : G g p l e R s m args below meth c Q nL (pc + 3) lv (.ref (gad g 46 i) :: st) σ) : G g p l e R s m args below meth c Q nL pc lv (.ref (gad g 5 i) :: st) σ := r_get (j := 9) C hd rfl inU5 rfl (by decide) u2_105 rfl hi rfl k
theorem gf_7_232 {i : Nat} (C : Cx g p R s m args meth c cc nL RX7 ret h) (hd : decode cc pc = .ok (.getfield 232, 3)) (hi : i < cnt 5) (k : G g p l e R s m args below meth c Q nL (pc + 3) lv (.ref (gad g 46 i) :: st) σ) : G g p l e R s m args below meth c Q nL pc lv (.ref (gad g 5 i) :: st) σ := r_get (j := 9) C hd rfl inU5 rfl (by decide) u2_106 rfl hi rfl k
theorem gf_5_46 {i : Nat} (C : Cx g p R s m args meth c cc nL RX5 ret h) (hd : decode cc pc = .ok (.getfield 46, 3)) (hi : i < cnt 5) (k : G g p l e R s m args below meth c Q nL (pc + 3) lv (.ref (gad g 3 i) :: st) σ) : G g p l e R s m args below meth c Q nL pc lv (.ref (gad g 5 i) :: st) σ := r_get (j := 10) C hd rfl inU5 rfl (by decide) u2_107 rfl hi rfl k
theorem gf_7_200 {i : Nat} (C : Cx g p R s m args meth c cc nL RX7 ret h) (hd : decode cc pc = .ok (.getfield 200, 3)) (hi : i < cnt 5) (k : G g p l e R s m args below meth c Q nL (pc + 3) lv (.ref (gad g 3 i) :: st) σ) : G g p l e R s m args below meth c Q nL pc lv (.ref (gad g 5 i) :: st) σ := r_get (j := 10) C hd rfl inU5 rfl (by decide) u2_108 rfl hi rfl k
theorem gf_5_53 {i : Nat} (C : Cx g p R s m args meth c cc nL RX5 ret h) (hd : decode cc pc = .ok (.getfield 53, 3)) (hi : i < cnt 5) (k : G g p l e R s m args below meth c Q nL (pc + 3) lv (.ref (gad g 0 i) :: st) σ) : G g p l e R s m args below meth c Q nL pc lv (.ref (gad g 5 i) :: st) σ := r_get (j := 11) C hd rfl inU5 rfl (by decide) u2_109 rfl hi rfl k
theorem gf_7_240 {i : Nat} (C : Cx g p R s m args meth c cc nL RX7 ret h) (hd : decode cc pc = .ok (.getfield 240, 3)) (hi : i < cnt 5) (k : G g p l e R s m args below meth c Q nL (pc + 3) lv (.ref (gad g 0 i) :: st) σ) : G g p l e R s m args below meth c Q nL pc lv (.ref (gad g 5 i) :: st) σ := r_get (j := 11) C hd rfl inU5 rfl (by decide) u2_110 rfl hi rfl k
theorem gf_7_12 {i : Nat} (C : Cx g p R s m args meth c cc nL RX7 ret h) (hd : decode cc pc = .ok (.getfield 12, 3)) (hi : i < cnt 7) (k : G g p l e R s m args below meth c Q nL (pc + 3) lv (.ref (gad g 4 i) :: st) σ) : G g p l e R s m args below meth c Q nL pc lv (.ref (gad g 7 i) :: st) σ := r_get (j := 0) C hd rfl inU7 rfl (by decide) u2_136 rfl hi rfl k
theorem gf_7_19 {i : Nat} (C : Cx g p R s m args meth c cc nL RX7 ret h) (hd : decode cc pc = .ok (.getfield 19, 3)) (hi : i < cnt 7) (k : G g p l e R s m args below meth c Q nL (pc + 3) lv (.ref (gad g 2 (gR σ 0)) :: st) σ) : G g p l e R s m args below meth c Q nL pc lv (.ref (gad g 7 i) :: st) σ := r_get (j := 1) C hd rfl inU7 rfl (by decide) u2_137 rfl hi rfl k
theorem pf_7_19 {v : Nat} (C : Cx g p R s m args meth c cc nL RX7 ret h) (hd : decode cc pc = .ok (.putfield 19, 3)) (k : G g p l e R s m args below meth c Q nL (pc + 3) lv st (sR σ 0 v)) : G g p l e R s m args below meth c Q nL pc lv (.ref (gad g 2 v) :: .ref (gad g 7 0) :: st) σ := r_put (j := 1) C hd rfl inU7 tyX7 tyX7_ok nmX7 rfl (by decide) u2_137 rfl rfl (ty := .object "GapLinks$Plan") (by decide +kernel) rfl rfl (Nat.zero_lt_one : 0 < cnt 7) (Nat.le_of_ble_eq_true rfl) (by simp [fsOf, fsO, fsp, fval, sR]) cell_sR0 k
theorem gf_7_26 {i : Nat} (C : Cx g p R s m args meth c cc nL RX7 ret h) (hd : decode cc pc = .ok (.getfield 26, 3)) (hi : i < cnt 7) (k : G g p l e R s m args below meth c Q nL (pc + 3) lv (.ref (gad g 1 i) :: st) σ) : G g p l e R s m args below meth c Q nL pc lv (.ref (gad g 7 i) :: st) σ := r_get (j := 2) C hd rfl inU7 rfl (by decide) u2_138 rfl hi rfl k
theorem gf_7_33 {i : Nat} (C : Cx g p R s m args meth c cc nL RX7 ret h) (hd : decode cc pc = .ok (.getfield 33, 3)) (hi : i < cnt 7) (k : G g p l e R s m args below meth c Q nL (pc + 3) lv (.ref (gad g 5 0) :: st) σ) : G g p l e R s m args below meth c Q nL pc lv (.ref (gad g 7 i) :: st) σ := r_get (j := 3) C hd rfl inU7 rfl (by decide) u2_139 rfl hi rfl k
theorem gf_7_37 {i : Nat} (C : Cx g p R s m args meth c cc nL RX7 ret h) (hd : decode cc pc = .ok (.getfield 37, 3)) (hi : i < cnt 7) (k : G g p l e R s m args below meth c Q nL (pc + 3) lv (.ref (gad g 5 1) :: st) σ) : G g p l e R s m args below meth c Q nL pc lv (.ref (gad g 7 i) :: st) σ := r_get (j := 4) C hd rfl inU7 rfl (by decide) u2_140 rfl hi rfl k
theorem gf_7_40 {i : Nat} (C : Cx g p R s m args meth c cc nL RX7 ret h) (hd : decode cc pc = .ok (.getfield 40, 3)) (hi : i < cnt 7) (k : G g p l e R s m args below meth c Q nL (pc + 3) lv (.ref (gad g 5 2) :: st) σ) : G g p l e R s m args below meth c Q nL pc lv (.ref (gad g 7 i) :: st) σ := r_get (j := 5) C hd rfl inU7 rfl (by decide) u2_141 rfl hi rfl k
theorem gf_7_43 {i : Nat} (C : Cx g p R s m args meth c cc nL RX7 ret h) (hd : decode cc pc = .ok (.getfield 43, 3)) (hi : i < cnt 7) (k : G g p l e R s m args below meth c Q nL (pc + 3) lv (.int (gI σ 7 i 6) :: st) σ) : G g p l e R s m args below meth c Q nL pc lv (.ref (gad g 7 i) :: st) σ := r_get (j := 6) C hd rfl inU7 rfl (by decide) u2_142 rfl hi rfl k
theorem pf_7_43 {i : Nat} {v : Int32} (C : Cx g p R s m args meth c cc nL RX7 ret h) (hd : decode cc pc = .ok (.putfield 43, 3)) (hz : zb v) (hi : i < cnt 7) (k : G g p l e R s m args below meth c Q nL (pc + 3) lv st (sI σ 7 i 6 v)) : G g p l e R s m args below meth c Q nL pc lv (.int v :: .ref (gad g 7 i) :: st) σ := r_put (j := 6) C hd rfl inU7 tyX7 tyX7_ok nmX7 rfl (by decide) u2_142 rfl rfl (ty := .boolean) (by decide +kernel) hz.1 hz.2 hi (Nat.le_of_ble_eq_true rfl) (by simp [fsOf, fsO, fsp, fval, sI]) (fun _ _ _ q => cell_sI_ne q) k
theorem gf_7_47 {i : Nat} (C : Cx g p R s m args meth c cc nL RX7 ret h) (hd : decode cc pc = .ok (.getfield 47, 3)) (hi : i < cnt 7) (k : G g p l e R s m args below meth c Q nL (pc + 3) lv (.int (gI σ 7 i 7) :: st) σ) : G g p l e R s m args below meth c Q nL pc lv (.ref (gad g 7 i) :: st) σ := r_get (j := 7) C hd rfl inU7 rfl (by decide) u2_143 rfl hi rfl k
theorem pf_7_47 {i : Nat} {v : Int32} (C : Cx g p R s m args meth c cc nL RX7 ret h) (hd : decode cc pc = .ok (.putfield 47, 3)) (hi : i < cnt 7) (k : G g p l e R s m args below meth c Q nL (pc + 3) lv st (sI σ 7 i 7 v)) : G g p l e R s m args below meth c Q nL pc lv (.int v :: .ref (gad g 7 i) :: st) σ := r_put (j := 7) C hd rfl inU7 tyX7 tyX7_ok nmX7 rfl (by decide) u2_143 rfl rfl (ty := .int) (by decide +kernel) rfl rfl hi (Nat.le_of_ble_eq_true rfl) (by simp [fsOf, fsO, fsp, fval, sI]) (fun _ _ _ q => cell_sI_ne q) k
theorem gf_7_51 {i : Nat} (C : Cx g p R s m args meth c cc nL RX7 ret h) (hd : decode cc pc = .ok (.getfield 51, 3)) (hi : i < cnt 7) (k : G g p l e R s m args below meth c Q nL (pc + 3) lv (.int (gI σ 7 i 8) :: st) σ) : G g p l e R s m args below meth c Q nL pc lv (.ref (gad g 7 i) :: st) σ := r_get (j := 8) C hd rfl inU7 rfl (by decide) u2_144 rfl hi rfl k
theorem pf_7_51 {i : Nat} {v : Int32} (C : Cx g p R s m args meth c cc nL RX7 ret h) (hd : decode cc pc = .ok (.putfield 51, 3)) (hi : i < cnt 7) (k : G g p l e R s m args below meth c Q nL (pc + 3) lv st (sI σ 7 i 8 v)) : G g p l e R s m args below meth c Q nL pc lv (.int v :: .ref (gad g 7 i) :: st) σ := r_put (j := 8) C hd rfl inU7 tyX7 tyX7_ok nmX7 rfl (by decide) u2_144 rfl rfl (ty := .int) (by decide +kernel) rfl rfl hi (Nat.le_of_ble_eq_true rfl) (by simp [fsOf, fsO, fsp, fval, sI]) (fun _ _ _ q => cell_sI_ne q) k
theorem gf_7_54 {i : Nat} (C : Cx g p R s m args meth c cc nL RX7 ret h) (hd : decode cc pc = .ok (.getfield 54, 3)) (hi : i < cnt 7) (k : G g p l e R s m args below meth c Q nL (pc + 3) lv (.int (gI σ 7 i 9) :: st) σ) : G g p l e R s m args below meth c Q nL pc lv (.ref (gad g 7 i) :: st) σ := r_get (j := 9) C hd rfl inU7 rfl (by decide) u2_145 rfl hi rfl k
theorem pf_7_54 {i : Nat} {v : Int32} (C : Cx g p R s m args meth c cc nL RX7 ret h) (hd : decode cc pc = .ok (.putfield 54, 3)) (hi : i < cnt 7) (k : G g p l e R s m args below meth c Q nL (pc + 3) lv st (sI σ 7 i 9 v)) : G g p l e R s m args below meth c Q nL pc lv (.int v :: .ref (gad g 7 i) :: st) σ := r_put (j := 9) C hd rfl inU7 tyX7 tyX7_ok nmX7 rfl (by decide) u2_145 rfl rfl (ty := .int) (by decide +kernel) rfl rfl hi (Nat.le_of_ble_eq_true rfl) (by simp [fsOf, fsO, fsp, fval, sI]) (fun _ _ _ q => cell_sI_ne q) k
theorem gf_8_51 {i : Nat} (C : Cx g p R s m args meth c cc nL RX8 ret h) (hd : decode cc pc = .ok (.getfield 51, 3)) (hi : i < cnt 8) (k : G g p l e R s m args below meth c Q nL (pc + 3) lv (.int (gI σ 8 i 0) :: st) σ) : G g p l e R s m args below meth c Q nL pc lv (.ref (gad g 8 i) :: st) σ := r_get (j := 0) C hd rfl inU8 rfl (by decide) u5_127 rfl hi rfl k
theorem pf_8_51 {i : Nat} {v : Int32} (C : Cx g p R s m args meth c cc nL RX8 ret h) (hd : decode cc pc = .ok (.putfield 51, 3)) (hi : i < cnt 8) (k : G g p l e R s m args below meth c Q nL (pc + 3) lv st (sI σ 8 i 0 v)) : G g p l e R s m args below meth c Q nL pc lv (.int v :: .ref (gad g 8 i) :: st) σ := r_put (j := 0) C hd rfl inU8 tyX8 tyX8_ok nmX8 rfl (by decide) u5_127 rfl rfl (ty := .int) (by decide +kernel) rfl rfl hi (Nat.le_of_ble_eq_true rfl) (by simp [fsOf, fsO, fsp, fval, sI]) (fun _ _ _ q => cell_sI_ne q) k
theorem gf_8_54 {i : Nat} (C : Cx g p R s m args meth c cc nL RX8 ret h) (hd : decode cc pc = .ok (.getfield 54, 3)) (hi : i < cnt 8) (k : G g p l e R s m args below meth c Q nL (pc + 3) lv (.int (gI σ 8 i 1) :: st) σ) : G g p l e R s m args below meth c Q nL pc lv (.ref (gad g 8 i) :: st) σ := r_get (j := 1) C hd rfl inU8 rfl (by decide) u5_128 rfl hi rfl k
theorem pf_8_54 {i : Nat} {v : Int32} (C : Cx g p R s m args meth c cc nL RX8 ret h) (hd : decode cc pc = .ok (.putfield 54, 3)) (hi : i < cnt 8) (k : G g p l e R s m args below meth c Q nL (pc + 3) lv st (sI σ 8 i 1 v)) : G g p l e R s m args below meth c Q nL pc lv (.int v :: .ref (gad g 8 i) :: st) σ := r_put (j := 1) C hd rfl inU8 tyX8 tyX8_ok nmX8 rfl (by decide) u5_128 rfl rfl (ty := .int) (by decide +kernel) rfl rfl hi (Nat.le_of_ble_eq_true rfl) (by simp [fsOf, fsO, fsp, fval, sI]) (fun _ _ _ q => cell_sI_ne q) k
theorem gf_8_206 {i : Nat} (C : Cx g p R s m args meth c cc nL RX8 ret h) (hd : decode cc pc = .ok (.getfield 206, 3)) (hi : i < cnt 8) (k : G g p l e R s m args below meth c Q nL (pc + 3) lv (.int (gI σ 8 i 2) :: st) σ) : G g p l e R s m args below meth c Q nL pc lv (.ref (gad g 8 i) :: st) σ := r_get (j := 2) C hd rfl inU8 rfl (by decide) u5_129 rfl hi rfl k
theorem pf_8_206 {i : Nat} {v : Int32} (C : Cx g p R s m args meth c cc nL RX8 ret h) (hd : decode cc pc = .ok (.putfield 206, 3)) (hi : i < cnt 8) (k : G g p l e R s m args below meth c Q nL (pc + 3) lv st (sI σ 8 i 2 v)) : G g p l e R s m args below meth c Q nL pc lv (.int v :: .ref (gad g 8 i) :: st) σ := r_put (j := 2) C hd rfl inU8 tyX8 tyX8_ok nmX8 rfl (by decide) u5_129 rfl rfl (ty := .int) (by decide +kernel) rfl rfl hi (Nat.le_of_ble_eq_true rfl) (by simp [fsOf, fsO, fsp, fval, sI]) (fun _ _ _ q => cell_sI_ne q) k
theorem gf_8_9 {i : Nat} (C : Cx g p R s m args meth c cc nL RX8 ret h) (hd : decode cc pc = .ok (.getfield 9, 3)) (hi : i < cnt 8) (k : G g p l e R s m args below meth c Q nL (pc + 3) lv (.int (gI σ 8 i 3) :: st) σ) : G g p l e R s m args below meth c Q nL pc lv (.ref (gad g 8 i) :: st) σ := r_get (j := 3) C hd rfl inU8 rfl (by decide) u5_130 rfl hi rfl k
theorem pf_8_9 {i : Nat} {v : Int32} (C : Cx g p R s m args meth c cc nL RX8 ret h) (hd : decode cc pc = .ok (.putfield 9, 3)) (hi : i < cnt 8) (k : G g p l e R s m args below meth c Q nL (pc + 3) lv st (sI σ 8 i 3 v)) : G g p l e R s m args below meth c Q nL pc lv (.int v :: .ref (gad g 8 i) :: st) σ := r_put (j := 3) C hd rfl inU8 tyX8 tyX8_ok nmX8 rfl (by decide) u5_130 rfl rfl (ty := .int) (by decide +kernel) rfl rfl hi (Nat.le_of_ble_eq_true rfl) (by simp [fsOf, fsO, fsp, fval, sI]) (fun _ _ _ q => cell_sI_ne q) k
theorem gf_8_13 {i : Nat} (C : Cx g p R s m args meth c cc nL RX8 ret h) (hd : decode cc pc = .ok (.getfield 13, 3)) (hi : i < cnt 8) (k : G g p l e R s m args below meth c Q nL (pc + 3) lv (.ref (gad g 52 i) :: st) σ) : G g p l e R s m args below meth c Q nL pc lv (.ref (gad g 8 i) :: st) σ := r_get (j := 4) C hd rfl inU8 rfl (by decide) u5_131 rfl hi rfl k
theorem gf_8_57 {i : Nat} (C : Cx g p R s m args meth c cc nL RX8 ret h) (hd : decode cc pc = .ok (.getfield 57, 3)) (hi : i < cnt 8) (k : G g p l e R s m args below meth c Q nL (pc + 3) lv (.int (gI σ 8 i 5) :: st) σ) : G g p l e R s m args below meth c Q nL pc lv (.ref (gad g 8 i) :: st) σ := r_get (j := 5) C hd rfl inU8 rfl (by decide) u5_132 rfl hi rfl k
theorem pf_8_57 {i : Nat} {v : Int32} (C : Cx g p R s m args meth c cc nL RX8 ret h) (hd : decode cc pc = .ok (.putfield 57, 3)) (hi : i < cnt 8) (k : G g p l e R s m args below meth c Q nL (pc + 3) lv st (sI σ 8 i 5 v)) : G g p l e R s m args below meth c Q nL pc lv (.int v :: .ref (gad g 8 i) :: st) σ := r_put (j := 5) C hd rfl inU8 tyX8 tyX8_ok nmX8 rfl (by decide) u5_132 rfl rfl (ty := .int) (by decide +kernel) rfl rfl hi (Nat.le_of_ble_eq_true rfl) (by simp [fsOf, fsO, fsp, fval, sI]) (fun _ _ _ q => cell_sI_ne q) k
theorem gf_8_17 {i : Nat} (C : Cx g p R s m args meth c cc nL RX8 ret h) (hd : decode cc pc = .ok (.getfield 17, 3)) (hi : i < cnt 8) (k : G g p l e R s m args below meth c Q nL (pc + 3) lv (.ref (gad g 53 i) :: st) σ) : G g p l e R s m args below meth c Q nL pc lv (.ref (gad g 8 i) :: st) σ := r_get (j := 6) C hd rfl inU8 rfl (by decide) u5_133 rfl hi rfl k
theorem gf_8_20 {i : Nat} (C : Cx g p R s m args meth c cc nL RX8 ret h) (hd : decode cc pc = .ok (.getfield 20, 3)) (hi : i < cnt 8) (k : G g p l e R s m args below meth c Q nL (pc + 3) lv (.ref (gad g 54 i) :: st) σ) : G g p l e R s m args below meth c Q nL pc lv (.ref (gad g 8 i) :: st) σ := r_get (j := 7) C hd rfl inU8 rfl (by decide) u5_134 rfl hi rfl k
theorem gf_8_23 {i : Nat} (C : Cx g p R s m args meth c cc nL RX8 ret h) (hd : decode cc pc = .ok (.getfield 23, 3)) (hi : i < cnt 8) (k : G g p l e R s m args below meth c Q nL (pc + 3) lv (.ref (gad g 55 i) :: st) σ) : G g p l e R s m args below meth c Q nL pc lv (.ref (gad g 8 i) :: st) σ := r_get (j := 8) C hd rfl inU8 rfl (by decide) u5_135 rfl hi rfl k
theorem gf_8_26 {i : Nat} (C : Cx g p R s m args meth c cc nL RX8 ret h) (hd : decode cc pc = .ok (.getfield 26, 3)) (hi : i < cnt 8) (k : G g p l e R s m args below meth c Q nL (pc + 3) lv (.ref (gad g 56 i) :: st) σ) : G g p l e R s m args below meth c Q nL pc lv (.ref (gad g 8 i) :: st) σ := r_get (j := 9) C hd rfl inU8 rfl (by decide) u5_136 rfl hi rfl k
theorem gf_8_29 {i : Nat} (C : Cx g p R s m args meth c cc nL RX8 ret h) (hd : decode cc pc = .ok (.getfield 29, 3)) (hi : i < cnt 8) (k : G g p l e R s m args below meth c Q nL (pc + 3) lv (.ref (gad g 57 i) :: st) σ) : G g p l e R s m args below meth c Q nL pc lv (.ref (gad g 8 i) :: st) σ := r_get (j := 10) C hd rfl inU8 rfl (by decide) u5_137 rfl hi rfl k
theorem gf_8_32 {i : Nat} (C : Cx g p R s m args meth c cc nL RX8 ret h) (hd : decode cc pc = .ok (.getfield 32, 3)) (hi : i < cnt 8) (k : G g p l e R s m args below meth c Q nL (pc + 3) lv (.ref (gad g 58 i) :: st) σ) : G g p l e R s m args below meth c Q nL pc lv (.ref (gad g 8 i) :: st) σ := r_get (j := 11) C hd rfl inU8 rfl (by decide) u5_138 rfl hi rfl k
theorem gf_8_35 {i : Nat} (C : Cx g p R s m args meth c cc nL RX8 ret h) (hd : decode cc pc = .ok (.getfield 35, 3)) (hi : i < cnt 8) (k : G g p l e R s m args below meth c Q nL (pc + 3) lv (.ref (gad g 59 i) :: st) σ) : G g p l e R s m args below meth c Q nL pc lv (.ref (gad g 8 i) :: st) σ := r_get (j := 12) C hd rfl inU8 rfl (by decide) u5_139 rfl hi rfl k
theorem gf_8_39 {i : Nat} (C : Cx g p R s m args meth c cc nL RX8 ret h) (hd : decode cc pc = .ok (.getfield 39, 3)) (hi : i < cnt 8) (k : G g p l e R s m args below meth c Q nL (pc + 3) lv (.ref (gad g 60 i) :: st) σ) : G g p l e R s m args below meth c Q nL pc lv (.ref (gad g 8 i) :: st) σ := r_get (j := 13) C hd rfl inU8 rfl (by decide) u5_140 rfl hi rfl k
theorem gf_8_212 {i : Nat} (C : Cx g p R s m args meth c cc nL RX8 ret h) (hd : decode cc pc = .ok (.getfield 212, 3)) (hi : i < cnt 8) (k : G g p l e R s m args below meth c Q nL (pc + 3) lv (.int (gI σ 8 i 14) :: st) σ) : G g p l e R s m args below meth c Q nL pc lv (.ref (gad g 8 i) :: st) σ := r_get (j := 14) C hd rfl inU8 rfl (by decide) u5_141 rfl hi rfl k
theorem pf_8_212 {i : Nat} {v : Int32} (C : Cx g p R s m args meth c cc nL RX8 ret h) (hd : decode cc pc = .ok (.putfield 212, 3)) (hz : zb v) (hi : i < cnt 8) (k : G g p l e R s m args below meth c Q nL (pc + 3) lv st (sI σ 8 i 14 v)) : G g p l e R s m args below meth c Q nL pc lv (.int v :: .ref (gad g 8 i) :: st) σ := r_put (j := 14) C hd rfl inU8 tyX8 tyX8_ok nmX8 rfl (by decide) u5_141 rfl rfl (ty := .boolean) (by decide +kernel) hz.1 hz.2 hi (Nat.le_of_ble_eq_true rfl) (by simp [fsOf, fsO, fsp, fval, sI]) (fun _ _ _ q => cell_sI_ne q) k
theorem gf_8_64 {i : Nat} (C : Cx g p R s m args meth c cc nL RX8 ret h) (hd : decode cc pc = .ok (.getfield 64, 3)) (hi : i < cnt 8) (k : G g p l e R s m args below meth c Q nL (pc + 3) lv (.int (gI σ 8 i 15) :: st) σ) : G g p l e R s m args below meth c Q nL pc lv (.ref (gad g 8 i) :: st) σ := r_get (j := 15) C hd rfl inU8 rfl (by decide) u5_142 rfl hi rfl k
theorem pf_8_64 {i : Nat} {v : Int32} (C : Cx g p R s m args meth c cc nL RX8 ret h) (hd : decode cc pc = .ok (.putfield 64, 3)) (hi : i < cnt 8) (k : G g p l e R s m args below meth c Q nL (pc + 3) lv st (sI σ 8 i 15 v)) : G g p l e R s m args below meth c Q nL pc lv (.int v :: .ref (gad g 8 i) :: st) σ := r_put (j := 15) C hd rfl inU8 tyX8 tyX8_ok nmX8 rfl (by decide) u5_142 rfl rfl (ty := .int) (by decide +kernel) rfl rfl hi (Nat.le_of_ble_eq_true rfl) (by simp [fsOf, fsO, fsp, fval, sI]) (fun _ _ _ q => cell_sI_ne q) k
theorem gf_8_74 {i : Nat} (C : Cx g p R s m args meth c cc nL RX8 ret h) (hd : decode cc pc = .ok (.getfield 74, 3)) (hi : i < cnt 8) (k : G g p l e R s m args below meth c Q nL (pc + 3) lv (.int (gI σ 8 i 16) :: st) σ) : G g p l e R s m args below meth c Q nL pc lv (.ref (gad g 8 i) :: st) σ := r_get (j := 16) C hd rfl inU8 rfl (by decide) u5_143 rfl hi rfl k
theorem pf_8_74 {i : Nat} {v : Int32} (C : Cx g p R s m args meth c cc nL RX8 ret h) (hd : decode cc pc = .ok (.putfield 74, 3)) (hi : i < cnt 8) (k : G g p l e R s m args below meth c Q nL (pc + 3) lv st (sI σ 8 i 16 v)) : G g p l e R s m args below meth c Q nL pc lv (.int v :: .ref (gad g 8 i) :: st) σ := r_put (j := 16) C hd rfl inU8 tyX8 tyX8_ok nmX8 rfl (by decide) u5_143 rfl rfl (ty := .int) (by decide +kernel) rfl rfl hi (Nat.le_of_ble_eq_true rfl) (by simp [fsOf, fsO, fsp, fval, sI]) (fun _ _ _ q => cell_sI_ne q) k
theorem gf_8_67 {i : Nat} (C : Cx g p R s m args meth c cc nL RX8 ret h) (hd : decode cc pc = .ok (.getfield 67, 3)) (hi : i < cnt 8) (k : G g p l e R s m args below meth c Q nL (pc + 3) lv (.int (gI σ 8 i 17) :: st) σ) : G g p l e R s m args below meth c Q nL pc lv (.ref (gad g 8 i) :: st) σ := r_get (j := 17) C hd rfl inU8 rfl (by decide) u5_144 rfl hi rfl k
theorem pf_8_67 {i : Nat} {v : Int32} (C : Cx g p R s m args meth c cc nL RX8 ret h) (hd : decode cc pc = .ok (.putfield 67, 3)) (hi : i < cnt 8) (k : G g p l e R s m args below meth c Q nL (pc + 3) lv st (sI σ 8 i 17 v)) : G g p l e R s m args below meth c Q nL pc lv (.int v :: .ref (gad g 8 i) :: st) σ := r_put (j := 17) C hd rfl inU8 tyX8 tyX8_ok nmX8 rfl (by decide) u5_144 rfl rfl (ty := .int) (by decide +kernel) rfl rfl hi (Nat.le_of_ble_eq_true rfl) (by simp [fsOf, fsO, fsp, fval, sI]) (fun _ _ _ q => cell_sI_ne q) k
theorem gf_8_77 {i : Nat} (C : Cx g p R s m args meth c cc nL RX8 ret h) (hd : decode cc pc = .ok (.getfield 77, 3)) (hi : i < cnt 8) (k : G g p l e R s m args below meth c Q nL (pc + 3) lv (.int (gI σ 8 i 18) :: st) σ) : G g p l e R s m args below meth c Q nL pc lv (.ref (gad g 8 i) :: st) σ := r_get (j := 18) C hd rfl inU8 rfl (by decide) u5_145 rfl hi rfl k
theorem pf_8_77 {i : Nat} {v : Int32} (C : Cx g p R s m args meth c cc nL RX8 ret h) (hd : decode cc pc = .ok (.putfield 77, 3)) (hi : i < cnt 8) (k : G g p l e R s m args below meth c Q nL (pc + 3) lv st (sI σ 8 i 18 v)) : G g p l e R s m args below meth c Q nL pc lv (.int v :: .ref (gad g 8 i) :: st) σ := r_put (j := 18) C hd rfl inU8 tyX8 tyX8_ok nmX8 rfl (by decide) u5_145 rfl rfl (ty := .int) (by decide +kernel) rfl rfl hi (Nat.le_of_ble_eq_true rfl) (by simp [fsOf, fsO, fsp, fval, sI]) (fun _ _ _ q => cell_sI_ne q) k
theorem gf_8_87 {i : Nat} (C : Cx g p R s m args meth c cc nL RX8 ret h) (hd : decode cc pc = .ok (.getfield 87, 3)) (hi : i < cnt 8) (k : G g p l e R s m args below meth c Q nL (pc + 3) lv (.int (gI σ 8 i 19) :: st) σ) : G g p l e R s m args below meth c Q nL pc lv (.ref (gad g 8 i) :: st) σ := r_get (j := 19) C hd rfl inU8 rfl (by decide) u5_146 rfl hi rfl k
theorem pf_8_87 {i : Nat} {v : Int32} (C : Cx g p R s m args meth c cc nL RX8 ret h) (hd : decode cc pc = .ok (.putfield 87, 3)) (hi : i < cnt 8) (k : G g p l e R s m args below meth c Q nL (pc + 3) lv st (sI σ 8 i 19 v)) : G g p l e R s m args below meth c Q nL pc lv (.int v :: .ref (gad g 8 i) :: st) σ := r_put (j := 19) C hd rfl inU8 tyX8 tyX8_ok nmX8 rfl (by decide) u5_146 rfl rfl (ty := .int) (by decide +kernel) rfl rfl hi (Nat.le_of_ble_eq_true rfl) (by simp [fsOf, fsO, fsp, fval, sI]) (fun _ _ _ q => cell_sI_ne q) k
theorem gf_8_90 {i : Nat} (C : Cx g p R s m args meth c cc nL RX8 ret h) (hd : decode cc pc = .ok (.getfield 90, 3)) (hi : i < cnt 8) (k : G g p l e R s m args below meth c Q nL (pc + 3) lv (.long (gL σ 8 i 20) :: st) σ) : G g p l e R s m args below meth c Q nL pc lv (.ref (gad g 8 i) :: st) σ := r_get (j := 20) C hd rfl inU8 rfl (by decide) u5_147 rfl hi rfl k
theorem pf_8_90 {i : Nat} {v : Int64} (C : Cx g p R s m args meth c cc nL RX8 ret h) (hd : decode cc pc = .ok (.putfield 90, 3)) (hi : i < cnt 8) (k : G g p l e R s m args below meth c Q nL (pc + 3) lv st (sL σ 8 i 20 v)) : G g p l e R s m args below meth c Q nL pc lv (.long v :: .ref (gad g 8 i) :: st) σ := r_put (j := 20) C hd rfl inU8 tyX8 tyX8_ok nmX8 rfl (by decide) u5_147 rfl rfl (ty := .long) (by decide +kernel) rfl rfl hi (Nat.le_of_ble_eq_true rfl) (by simp [fsOf, fsO, fsp, fval, sL]) (fun _ _ _ q => cell_sL_ne q) k
theorem gf_8_108 {i : Nat} (C : Cx g p R s m args meth c cc nL RX8 ret h) (hd : decode cc pc = .ok (.getfield 108, 3)) (hi : i < cnt 8) (k : G g p l e R s m args below meth c Q nL (pc + 3) lv (.int (gI σ 8 i 21) :: st) σ) : G g p l e R s m args below meth c Q nL pc lv (.ref (gad g 8 i) :: st) σ := r_get (j := 21) C hd rfl inU8 rfl (by decide) u5_148 rfl hi rfl k
theorem pf_8_108 {i : Nat} {v : Int32} (C : Cx g p R s m args meth c cc nL RX8 ret h) (hd : decode cc pc = .ok (.putfield 108, 3)) (hi : i < cnt 8) (k : G g p l e R s m args below meth c Q nL (pc + 3) lv st (sI σ 8 i 21 v)) : G g p l e R s m args below meth c Q nL pc lv (.int v :: .ref (gad g 8 i) :: st) σ := r_put (j := 21) C hd rfl inU8 tyX8 tyX8_ok nmX8 rfl (by decide) u5_148 rfl rfl (ty := .int) (by decide +kernel) rfl rfl hi (Nat.le_of_ble_eq_true rfl) (by simp [fsOf, fsO, fsp, fval, sI]) (fun _ _ _ q => cell_sI_ne q) k
theorem gf_8_111 {i : Nat} (C : Cx g p R s m args meth c cc nL RX8 ret h) (hd : decode cc pc = .ok (.getfield 111, 3)) (hi : i < cnt 8) (k : G g p l e R s m args below meth c Q nL (pc + 3) lv (.int (gI σ 8 i 22) :: st) σ) : G g p l e R s m args below meth c Q nL pc lv (.ref (gad g 8 i) :: st) σ := r_get (j := 22) C hd rfl inU8 rfl (by decide) u5_149 rfl hi rfl k
theorem pf_8_111 {i : Nat} {v : Int32} (C : Cx g p R s m args meth c cc nL RX8 ret h) (hd : decode cc pc = .ok (.putfield 111, 3)) (hi : i < cnt 8) (k : G g p l e R s m args below meth c Q nL (pc + 3) lv st (sI σ 8 i 22 v)) : G g p l e R s m args below meth c Q nL pc lv (.int v :: .ref (gad g 8 i) :: st) σ := r_put (j := 22) C hd rfl inU8 tyX8 tyX8_ok nmX8 rfl (by decide) u5_149 rfl rfl (ty := .int) (by decide +kernel) rfl rfl hi (Nat.le_of_ble_eq_true rfl) (by simp [fsOf, fsO, fsp, fval, sI]) (fun _ _ _ q => cell_sI_ne q) k
theorem gf_8_141 {i : Nat} (C : Cx g p R s m args meth c cc nL RX8 ret h) (hd : decode cc pc = .ok (.getfield 141, 3)) (hi : i < cnt 8) (k : G g p l e R s m args below meth c Q nL (pc + 3) lv (.int (gI σ 8 i 23) :: st) σ) : G g p l e R s m args below meth c Q nL pc lv (.ref (gad g 8 i) :: st) σ := r_get (j := 23) C hd rfl inU8 rfl (by decide) u5_150 rfl hi rfl k
theorem pf_8_141 {i : Nat} {v : Int32} (C : Cx g p R s m args meth c cc nL RX8 ret h) (hd : decode cc pc = .ok (.putfield 141, 3)) (hz : zb v) (hi : i < cnt 8) (k : G g p l e R s m args below meth c Q nL (pc + 3) lv st (sI σ 8 i 23 v)) : G g p l e R s m args below meth c Q nL pc lv (.int v :: .ref (gad g 8 i) :: st) σ := r_put (j := 23) C hd rfl inU8 tyX8 tyX8_ok nmX8 rfl (by decide) u5_150 rfl rfl (ty := .boolean) (by decide +kernel) hz.1 hz.2 hi (Nat.le_of_ble_eq_true rfl) (by simp [fsOf, fsO, fsp, fval, sI]) (fun _ _ _ q => cell_sI_ne q) k
theorem gf_8_42 {i : Nat} (C : Cx g p R s m args meth c cc nL RX8 ret h) (hd : decode cc pc = .ok (.getfield 42, 3)) (hi : i < cnt 8) (k : G g p l e R s m args below meth c Q nL (pc + 3) lv (.ref (gad g 61 i) :: st) σ) : G g p l e R s m args below meth c Q nL pc lv (.ref (gad g 8 i) :: st) σ := r_get (j := 24) C hd rfl inU8 rfl (by decide) u5_151 rfl hi rfl k
theorem gf_8_45 {i : Nat} (C : Cx g p R s m args meth c cc nL RX8 ret h) (hd : decode cc pc = .ok (.getfield 45, 3)) (hi : i < cnt 8) (k : G g p l e R s m args below meth c Q nL (pc + 3) lv (.ref (gad g 62 i) :: st) σ) : G g p l e R s m args below meth c Q nL pc lv (.ref (gad g 8 i) :: st) σ := r_get (j := 25) C hd rfl inU8 rfl (by decide) u5_152 rfl hi rfl k
theorem gf_8_48 {i : Nat} (C : Cx g p R s m args meth c cc nL RX8 ret h) (hd : decode cc pc = .ok (.getfield 48, 3)) (hi : i < cnt 8) (k : G g p l e R s m args below meth c Q nL (pc + 3) lv (.ref (gad g 63 i) :: st) σ) : G g p l e R s m args below meth c Q nL pc lv (.ref (gad g 8 i) :: st) σ := r_get (j := 26) C hd rfl inU8 rfl (by decide) u5_153 rfl hi rfl k
theorem gf_8_215 {i : Nat} (C : Cx g p R s m args meth c cc nL RX8 ret h) (hd : decode cc pc = .ok (.getfield 215, 3)) (hi : i < cnt 8) (k : G g p l e R s m args below meth c Q nL (pc + 3) lv (.int (gI σ 8 i 27) :: st) σ) : G g p l e R s m args below meth c Q nL pc lv (.ref (gad g 8 i) :: st) σ := r_get (j := 27) C hd rfl inU8 rfl (by decide) u5_154 rfl hi rfl k
theorem pf_8_215 {i : Nat} {v : Int32} (C : Cx g p R s m args meth c cc nL RX8 ret h) (hd : decode cc pc = .ok (.putfield 215, 3)) (hz : zb v) (hi : i < cnt 8) (k : G g p l e R s m args below meth c Q nL (pc + 3) lv st (sI σ 8 i 27 v)) : G g p l e R s m args below meth c Q nL pc lv (.int v :: .ref (gad g 8 i) :: st) σ := r_put (j := 27) C hd rfl inU8 tyX8 tyX8_ok nmX8 rfl (by decide) u5_154 rfl rfl (ty := .boolean) (by decide +kernel) hz.1 hz.2 hi (Nat.le_of_ble_eq_true rfl) (by simp [fsOf, fsO, fsp, fval, sI]) (fun _ _ _ q => cell_sI_ne q) k
theorem gf_8_274 {i : Nat} (C : Cx g p R s m args meth c cc nL RX8 ret h) (hd : decode cc pc = .ok (.getfield 274, 3)) (hi : i < cnt 8) (k : G g p l e R s m args below meth c Q nL (pc + 3) lv (.int (gI σ 8 i 28) :: st) σ) : G g p l e R s m args below meth c Q nL pc lv (.ref (gad g 8 i) :: st) σ := r_get (j := 28) C hd rfl inU8 rfl (by decide) u5_155 rfl hi rfl k
theorem pf_8_274 {i : Nat} {v : Int32} (C : Cx g p R s m args meth c cc nL RX8 ret h) (hd : decode cc pc = .ok (.putfield 274, 3)) (hi : i < cnt 8) (k : G g p l e R s m args below meth c Q nL (pc + 3) lv st (sI σ 8 i 28 v)) : G g p l e R s m args below meth c Q nL pc lv (.int v :: .ref (gad g 8 i) :: st) σ := r_put (j := 28) C hd rfl inU8 tyX8 tyX8_ok nmX8 rfl (by decide) u5_155 rfl rfl (ty := .int) (by decide +kernel) rfl rfl hi (Nat.le_of_ble_eq_true rfl) (by simp [fsOf, fsO, fsp, fval, sI]) (fun _ _ _ q => cell_sI_ne q) k
end GLinks
theorem w_L_19 : CWv RL 19 yX7_feed cX7_feed 6 (some .int) 5 := ⟨⟨u2_167, u1_1, u2_170, ⟨by decide +kernel, by decide +kernel, by decide +kernel⟩, by decide⟩, u2_168, u2_169⟩
theorem w_7_60 : CWv RX7 60 yX4_append cX4_append 3 none 1 := ⟨⟨u2_171, u1_2, u2_174, ⟨by decide +kernel, by decide +kernel, by decide +kernel⟩, by decide⟩, u2_172, u2_173⟩
theorem w_L_24 : CWv RL 24 yX7_bus cX7_bus 2 (some .int) 1 := ⟨⟨u2_175, u1_1, u2_178, ⟨by decide +kernel, by decide +kernel, by decide +kernel⟩, by decide⟩, u2_176, u2_177⟩
theorem w_7_64 : CWv RX7 64 yX7_refuse cX7_refuse 2 (some .int) 1 := ⟨⟨u2_179, u1_1, u2_182, ⟨by decide +kernel, by decide +kernel, by decide +kernel⟩, by decide⟩, u2_181, us1_0⟩
theorem w_7_68 : CWv RX7 68 yX4_read cX4_read 3 none 1 := ⟨⟨u2_183, u1_2, u2_186, ⟨by decide +kernel, by decide +kernel, by decide +kernel⟩, by decide⟩, u2_184, u2_185⟩
theorem w_4_55 : CWs RX4 55 yJ9_min_7cf53 cJ9_min_7cf53 2 (some .int) 2 := ⟨⟨u2_187, u1_10, u2_189, ⟨by decide +kernel, by decide +kernel, by decide +kernel⟩, by decide⟩, u2_188⟩
theorem w_4_61 : CWv RX4 61 yX2_clear cX2_clear 1 none 0 := ⟨⟨u2_190, u1_3, u2_193, ⟨by decide +kernel, by decide +kernel, by decide +kernel⟩, by decide⟩, u2_191, u2_192⟩
theorem w_4_64 : CWv RX4 64 yX4_step cX4_step 1 none 0 := ⟨⟨u2_194, u1_2, u2_197, ⟨by decide +kernel, by decide +kernel, by decide +kernel⟩, by decide⟩, u2_196, us1_1⟩
theorem w_4_209 : CWs RX4 209 yX4_isLetter cX4_isLetter 1 (some .boolean) 1 := ⟨⟨u2_198, u1_2, u2_200, ⟨by decide +kernel, by decide +kernel, by decide +kernel⟩, by decide⟩, u2_199⟩
theorem w_4_213 : CWv RX4 213 yX4_stepWord cX4_stepWord 2 none 0 := ⟨⟨u2_201, u1_2, u2_204, ⟨by decide +kernel, by decide +kernel, by decide +kernel⟩, by decide⟩, u2_203, us1_2⟩
theorem w_4_216 : CWs RX4 216 yX4_isDigit cX4_isDigit 1 (some .boolean) 1 := ⟨⟨u2_206, u1_2, u2_208, ⟨by decide +kernel, by decide +kernel, by decide +kernel⟩, by decide⟩, u2_207⟩
theorem w_4_219 : CWv RX4 219 yX4_stepWhole cX4_stepWhole 1 none 0 := ⟨⟨u2_209, u1_2, u2_212, ⟨by decide +kernel, by decide +kernel, by decide +kernel⟩, by decide⟩, u2_211, us1_3⟩
theorem w_4_69 : CWv RX4 69 yX4_isWord cX4_isWord 3 (some .boolean) 1 := ⟨⟨u2_214, u1_2, u2_217, ⟨by decide +kernel, by decide +kernel, by decide +kernel⟩, by decide⟩, u2_216, us1_4⟩
theorem w_4_73 : CWv RX4 73 yX4_readBus cX4_readBus 1 none 0 := ⟨⟨u2_218, u1_2, u2_221, ⟨by decide +kernel, by decide +kernel, by decide +kernel⟩, by decide⟩, u2_220, us1_5⟩
theorem w_4_86 : CWv RX4 86 yX4_fail cX4_fail 2 none 1 := ⟨⟨u2_222, u1_2, u2_225, ⟨by decide +kernel, by decide +kernel, by decide +kernel⟩, by decide⟩, u2_224, us1_6⟩
theorem w_4_93 : CWv RX4 93 yX4_pass cX4_pass 3 none 1 := ⟨⟨u2_226, u1_2, u2_229, ⟨by decide +kernel, by decide +kernel, by decide +kernel⟩, by decide⟩, u2_228, us1_7⟩
theorem w_4_99 : CWv RX4 99 yX4_wholeWithin cX4_wholeWithin 3 (some .int) 2 := ⟨⟨u2_231, u1_2, u2_234, ⟨by decide +kernel, by decide +kernel, by decide +kernel⟩, by decide⟩, u2_233, us1_8⟩
theorem w_4_199 : CWv RX4 199 yX4_checkedWhole cX4_checkedWhole 3 (some .int) 1 := ⟨⟨u2_235, u1_2, u2_238, ⟨by decide +kernel, by decide +kernel, by decide +kernel⟩, by decide⟩, u2_237, us1_9⟩
theorem w_4_78 : CWv RX4 78 yX4_readEnd cX4_readEnd 4 none 0 := ⟨⟨u3_4, u1_2, u3_7, ⟨by decide +kernel, by decide +kernel, by decide +kernel⟩, by decide⟩, u3_6, us1_10⟩
theorem w_4_128 : CWv RX4 128 yX4_beginLine cX4_beginLine 3 none 2 := ⟨⟨u3_8, u1_2, u3_11, ⟨by decide +kernel, by decide +kernel, by decide +kernel⟩, by decide⟩, u3_10, us1_11⟩
theorem w_4_132 : CWv RX4 132 yX4_newName cX4_newName 3 (some .long) 0 := ⟨⟨u3_12, u1_2, u3_15, ⟨by decide +kernel, by decide +kernel, by decide +kernel⟩, by decide⟩, u3_14, us1_12⟩
theorem w_4_188 : CWv RX4 188 yX4_isName cX4_isName 1 (some .boolean) 0 := ⟨⟨u3_16, u1_2, u3_19, ⟨by decide +kernel, by decide +kernel, by decide +kernel⟩, by decide⟩, u3_18, us1_13⟩
theorem w_4_192 : CWv RX4 192 yX2_endNamed cX2_endNamed 4 (some .int) 1 := ⟨⟨u3_21, u1_3, u3_24, ⟨by decide +kernel, by decide +kernel, by decide +kernel⟩, by decide⟩, u3_22, u3_23⟩
theorem w_4_196 : CWv RX4 196 yX2_linkNamed cX2_linkNamed 4 (some .int) 1 := ⟨⟨u3_25, u1_3, u3_28, ⟨by decide +kernel, by decide +kernel, by decide +kernel⟩, by decide⟩, u3_26, u3_27⟩
theorem w_4_83 : CWv RX4 83 yX4_readLink cX4_readLink 7 none 0 := ⟨⟨u3_30, u1_2, u3_33, ⟨by decide +kernel, by decide +kernel, by decide +kernel⟩, by decide⟩, u3_32, us1_14⟩
theorem w_4_148 : CWv RX4 148 yX4_knownEnd cX4_knownEnd 2 (some .int) 0 := ⟨⟨u3_35, u1_2, u3_38, ⟨by decide +kernel, by decide +kernel, by decide +kernel⟩, by decide⟩, u3_37, us1_15⟩
theorem w_4_154 : CWv RX4 154 yX4_wholeGap cX4_wholeGap 1 (some .int) 0 := ⟨⟨u3_40, u1_2, u3_43, ⟨by decide +kernel, by decide +kernel, by decide +kernel⟩, by decide⟩, u3_42, us2_0⟩
theorem w_4_203 : CWs RX4 203 yJ6_bitCount_0f7a4 cJ6_bitCount_0f7a4 1 (some .int) 1 := ⟨⟨u3_44, u1_12, u3_46, ⟨by decide +kernel, by decide +kernel, by decide +kernel⟩, by decide⟩, u3_45⟩
theorem w_4_173 : CWv RX4 173 yX4_readReceivers cX4_readReceivers 5 none 1 := ⟨⟨u3_52, u1_2, u3_55, ⟨by decide +kernel, by decide +kernel, by decide +kernel⟩, by decide⟩, u3_54, us2_1⟩
theorem w_4_179 : CWv RX4 179 yX2_earAt cX2_earAt 4 (some .int) 2 := ⟨⟨u3_56, u1_3, u3_59, ⟨by decide +kernel, by decide +kernel, by decide +kernel⟩, by decide⟩, u3_57, u3_58⟩
theorem w_2_73 : CWn RX2 73 yX7_earOf cX7_earOf 2 (some .int) 2 := ⟨⟨_, List.mem_of_getElem? (i := 8) rfl⟩, u1_1, u3_62, ⟨by decide +kernel, by decide +kernel, by decide +kernel⟩, by decide, u3_61⟩
theorem w_4_185 : CWn RX4 185 yX7_earOf cX7_earOf 2 (some .int) 2 := ⟨⟨_, List.mem_of_getElem? (i := 9) rfl⟩, u1_1, u3_62, ⟨by decide +kernel, by decide +kernel, by decide +kernel⟩, by decide, u3_61⟩
theorem w_7_77 : CWv RX7 77 yX4_handOver cX4_handOver 3 (some (.object "GapLinks$Plan")) 1 := ⟨⟨u3_64, u1_2, u3_67, ⟨by decide +kernel, by decide +kernel, by decide +kernel⟩, by decide⟩, u3_65, u3_66⟩
theorem w_7_85 : CWv RX7 85 yX6_lay cX6_lay 4 none 1 := ⟨⟨u3_68, u1_4, u3_71, ⟨by decide +kernel, by decide +kernel, by decide +kernel⟩, by decide⟩, u3_69, u3_70⟩
theorem w_6_27 : CWs RX6 27 yJ7_fill_53178 cJ7_fill_53178 4 none 2 := ⟨⟨u3_72, u1_13, u3_74, ⟨by decide +kernel, by decide +kernel, by decide +kernel⟩, by decide⟩, u3_73⟩
theorem w_6_42 : CWn RX6 42 yX7_earOf cX7_earOf 2 (some .int) 2 := ⟨⟨_, List.mem_of_getElem? (i := 10) rfl⟩, u1_1, u3_62, ⟨by decide +kernel, by decide +kernel, by decide +kernel⟩, by decide, u3_61⟩
theorem w_6_46 : CWv RX6 46 yX6_layOne cX6_layOne 7 none 3 := ⟨⟨u3_76, u1_4, u3_79, ⟨by decide +kernel, by decide +kernel, by decide +kernel⟩, by decide⟩, u3_78, us2_2⟩
theorem w_6_59 : CWv RX6 59 yX6_lengthen cX6_lengthen 6 none 3 := ⟨⟨u3_80, u1_4, u3_83, ⟨by decide +kernel, by decide +kernel, by decide +kernel⟩, by decide⟩, u3_82, us2_3⟩
theorem w_6_63 : CWv RX6 63 yX6_portAt cX6_portAt 3 (some .int) 2 := ⟨⟨u3_84, u1_4, u3_87, ⟨by decide +kernel, by decide +kernel, by decide +kernel⟩, by decide⟩, u3_85, u3_86⟩
theorem w_7_91 : CWv RX7 91 yX1_measure cX1_measure 6 none 1 := ⟨⟨u3_88, u1_5, u3_91, ⟨by decide +kernel, by decide +kernel, by decide +kernel⟩, by decide⟩, u3_89, u3_90⟩
theorem w_1_26 : CWs RX1 26 yX1_loadWith cX1_loadWith 7 (some .int) 4 := ⟨⟨u3_92, u1_5, u3_94, ⟨by decide +kernel, by decide +kernel, by decide +kernel⟩, by decide⟩, u3_93⟩
theorem w_1_55 : CWv RX1 55 yX6_uses cX6_uses 3 (some .boolean) 2 := ⟨⟨u3_95, u1_4, u3_98, ⟨by decide +kernel, by decide +kernel, by decide +kernel⟩, by decide⟩, u3_96, u3_97⟩
theorem w_1_30 : CWs RX1 30 yX1_lengthsThrough cX1_lengthsThrough 5 (some .long) 2 := ⟨⟨u3_99, u1_5, u3_101, ⟨by decide +kernel, by decide +kernel, by decide +kernel⟩, by decide⟩, u3_100⟩
theorem w_1_39 : CWv RX1 39 yX1_burstsThrough cX1_burstsThrough 6 (some .long) 2 := ⟨⟨u3_105, u1_5, u3_108, ⟨by decide +kernel, by decide +kernel, by decide +kernel⟩, by decide⟩, u3_107, us2_4⟩
theorem w_1_64 : CWv RX1 64 yX1_burstAt cX1_burstAt 5 (some .long) 3 := ⟨⟨u3_109, u1_5, u3_112, ⟨by decide +kernel, by decide +kernel, by decide +kernel⟩, by decide⟩, u3_111, us2_5⟩
theorem w_1_74 : CWs RX1 74 yX1_perGap cX1_perGap 5 (some .long) 3 := ⟨⟨u3_113, u1_5, u3_115, ⟨by decide +kernel, by decide +kernel, by decide +kernel⟩, by decide⟩, u3_114⟩
theorem w_7_94 : CWv RX7 94 yX5_beginWith cX5_beginWith 3 none 1 := ⟨⟨u3_116, u1_6, u3_119, ⟨by decide +kernel, by decide +kernel, by decide +kernel⟩, by decide⟩, u3_117, u3_118⟩
theorem w_5_57 : CWs RX5 57 yJ7_fill_53178 cJ7_fill_53178 4 none 2 := ⟨⟨u3_120, u1_13, u3_74, ⟨by decide +kernel, by decide +kernel, by decide +kernel⟩, by decide⟩, u3_73⟩
theorem w_5_68 : CWv RX5 68 yX2_creditLimit cX2_creditLimit 2 (some .int) 1 := ⟨⟨u3_121, u1_3, u3_124, ⟨by decide +kernel, by decide +kernel, by decide +kernel⟩, by decide⟩, u3_122, u3_123⟩
theorem w_5_72 : CWv RX5 72 yX3_clear cX3_clear 1 none 0 := ⟨⟨u3_125, u1_7, u3_128, ⟨by decide +kernel, by decide +kernel, by decide +kernel⟩, by decide⟩, u3_126, u3_127⟩
theorem w_3_37 : CWs RX3 37 yJ7_fill_53178 cJ7_fill_53178 4 none 2 := ⟨⟨u3_129, u1_13, u3_74, ⟨by decide +kernel, by decide +kernel, by decide +kernel⟩, by decide⟩, u3_73⟩
theorem w_5_75 : CWv RX5 75 yX0_clear cX0_clear 1 none 0 := ⟨⟨u3_130, u1_8, u3_133, ⟨by decide +kernel, by decide +kernel, by decide +kernel⟩, by decide⟩, u3_131, u3_132⟩
theorem w_0_46 : CWs RX0 46 yJ7_fill_53178 cJ7_fill_53178 4 none 2 := ⟨⟨u3_134, u1_13, u3_74, ⟨by decide +kernel, by decide +kernel, by decide +kernel⟩, by decide⟩, u3_73⟩
theorem w_7_100 : CWv RX7 100 yX7_answer cX7_answer 2 (some .int) 1 := ⟨⟨u3_135, u1_1, u3_138, ⟨by decide +kernel, by decide +kernel, by decide +kernel⟩, by decide⟩, u3_137, us2_6⟩
theorem w_L_28 : CWv RL 28 yX7_fault cX7_fault 1 (some .int) 0 := ⟨⟨u3_139, u1_1, u3_142, ⟨by decide +kernel, by decide +kernel, by decide +kernel⟩, by decide⟩, u3_140, u3_141⟩
theorem w_L_33 : CWv RL 33 yX7_where cX7_where 1 (some .int) 0 := ⟨⟨u3_143, u1_1, u3_146, ⟨by decide +kernel, by decide +kernel, by decide +kernel⟩, by decide⟩, u3_144, u3_145⟩
theorem w_L_37 : CWv RL 37 yX7_about cX7_about 2 (some .int) 1 := ⟨⟨u3_147, u1_1, u3_150, ⟨by decide +kernel, by decide +kernel, by decide +kernel⟩, by decide⟩, u3_148, u3_149⟩
theorem w_7_103 : CWv RX7 103 yX7_noBus cX7_noBus 1 (some .boolean) 0 := ⟨⟨u3_151, u1_1, u3_154, ⟨by decide +kernel, by decide +kernel, by decide +kernel⟩, by decide⟩, u3_153, us2_7⟩
theorem w_L_41 : CWv RL 41 yX7_at cX7_at 2 (some .int) 1 := ⟨⟨u3_155, u1_1, u3_158, ⟨by decide +kernel, by decide +kernel, by decide +kernel⟩, by decide⟩, u3_156, u3_157⟩
theorem w_7_128 : CWv RX7 128 yX2_hasEnd cX2_hasEnd 2 (some .boolean) 1 := ⟨⟨u3_159, u1_3, u3_162, ⟨by decide +kernel, by decide +kernel, by decide +kernel⟩, by decide⟩, u3_160, u3_161⟩
theorem w_L_45 : CWv RL 45 yX7_link cX7_link 3 (some .int) 2 := ⟨⟨u3_163, u1_1, u3_166, ⟨by decide +kernel, by decide +kernel, by decide +kernel⟩, by decide⟩, u3_164, u3_165⟩
theorem w_7_136 : CWv RX7 136 yX2_hasLink cX2_hasLink 2 (some .boolean) 1 := ⟨⟨u3_167, u1_3, u3_170, ⟨by decide +kernel, by decide +kernel, by decide +kernel⟩, by decide⟩, u3_168, u3_169⟩
theorem w_L_50 : CWv RL 50 yX7_receiver cX7_receiver 3 (some .int) 2 := ⟨⟨u3_171, u1_1, u3_174, ⟨by decide +kernel, by decide +kernel, by decide +kernel⟩, by decide⟩, u3_172, u3_173⟩
theorem w_7_151 : CWv RX7 151 yX2_hasReceiver cX2_hasReceiver 3 (some .boolean) 2 := ⟨⟨u3_175, u1_3, u3_178, ⟨by decide +kernel, by decide +kernel, by decide +kernel⟩, by decide⟩, u3_176, u3_177⟩
theorem w_2_66 : CWv RX2 66 yX2_hasLink cX2_hasLink 2 (some .boolean) 1 := ⟨⟨u3_179, u1_3, u3_170, ⟨by decide +kernel, by decide +kernel, by decide +kernel⟩, by decide⟩, u3_168, u3_169⟩
theorem w_7_158 : CWs RX7 158 yX7_earOf cX7_earOf 2 (some .int) 2 := ⟨⟨u3_180, u1_1, u3_62, ⟨by decide +kernel, by decide +kernel, by decide +kernel⟩, by decide⟩, u3_61⟩
theorem w_L_56 : CWv RL 56 yX7_named cX7_named 5 (some .int) 1 := ⟨⟨u3_181, u1_1, u3_184, ⟨by decide +kernel, by decide +kernel, by decide +kernel⟩, by decide⟩, u3_182, u3_183⟩
theorem w_7_162 : CWv RX7 162 yX2_endNamed cX2_endNamed 4 (some .int) 1 := ⟨⟨u3_185, u1_3, u3_24, ⟨by decide +kernel, by decide +kernel, by decide +kernel⟩, by decide⟩, u3_22, u3_23⟩
theorem w_7_166 : CWv RX7 166 yX2_linkNamed cX2_linkNamed 4 (some .int) 1 := ⟨⟨u3_186, u1_3, u3_28, ⟨by decide +kernel, by decide +kernel, by decide +kernel⟩, by decide⟩, u3_26, u3_27⟩
theorem w_L_61 : CWv RL 61 yX7_way cX7_way 4 (some .int) 3 := ⟨⟨u3_187, u1_1, u3_190, ⟨by decide +kernel, by decide +kernel, by decide +kernel⟩, by decide⟩, u3_188, u3_189⟩
theorem w_7_169 : CWv RX7 169 yX7_hasPortOnWay cX7_hasPortOnWay 4 (some .boolean) 3 := ⟨⟨u3_191, u1_1, u3_194, ⟨by decide +kernel, by decide +kernel, by decide +kernel⟩, by decide⟩, u3_193, us2_8⟩
theorem w_7_173 : CWv RX7 173 yX6_portAt cX6_portAt 3 (some .int) 2 := ⟨⟨u3_195, u1_4, u3_87, ⟨by decide +kernel, by decide +kernel, by decide +kernel⟩, by decide⟩, u3_85, u3_86⟩
theorem w_L_66 : CWv RL 66 yX7_waits cX7_waits 3 (some .int) 2 := ⟨⟨u3_196, u1_1, u3_199, ⟨by decide +kernel, by decide +kernel, by decide +kernel⟩, by decide⟩, u3_197, u3_198⟩
theorem w_L_70 : CWv RL 70 yX7_credit cX7_credit 3 (some .int) 2 := ⟨⟨u3_200, u1_1, u3_203, ⟨by decide +kernel, by decide +kernel, by decide +kernel⟩, by decide⟩, u3_201, u3_202⟩
theorem w_7_191 : CWs RX7 191 yX7_hasNet cX7_hasNet 1 (some .boolean) 1 := ⟨⟨u3_204, u1_1, u3_206, ⟨by decide +kernel, by decide +kernel, by decide +kernel⟩, by decide⟩, u3_205⟩
theorem w_L_74 : CWv RL 74 yX7_port cX7_port 5 (some .int) 3 := ⟨⟨u3_207, u1_1, u3_210, ⟨by decide +kernel, by decide +kernel, by decide +kernel⟩, by decide⟩, u3_208, u3_209⟩
theorem w_7_197 : CWv RX7 197 yX2_hasPort cX2_hasPort 2 (some .boolean) 1 := ⟨⟨u3_211, u1_3, u3_214, ⟨by decide +kernel, by decide +kernel, by decide +kernel⟩, by decide⟩, u3_212, u3_213⟩
theorem w_2_70 : CWv RX2 70 yX2_hasEnd cX2_hasEnd 2 (some .boolean) 1 := ⟨⟨u3_215, u1_3, u3_162, ⟨by decide +kernel, by decide +kernel, by decide +kernel⟩, by decide⟩, u3_160, u3_161⟩
theorem w_7_209 : CWv RX7 209 yX3_linkBeingSent cX3_linkBeingSent 2 (some .int) 1 := ⟨⟨u3_216, u1_7, u3_219, ⟨by decide +kernel, by decide +kernel, by decide +kernel⟩, by decide⟩, u3_217, u3_218⟩
theorem w_3_47 : CWv RX3 47 yX3_sends cX3_sends 2 (some .boolean) 1 := ⟨⟨u3_220, u1_7, u3_223, ⟨by decide +kernel, by decide +kernel, by decide +kernel⟩, by decide⟩, u3_221, u3_222⟩
theorem w_3_51 : CWv RX3 51 yX3_slot cX3_slot 3 (some .int) 2 := ⟨⟨u3_224, u1_7, u3_227, ⟨by decide +kernel, by decide +kernel, by decide +kernel⟩, by decide⟩, u3_225, u3_226⟩
theorem w_L_78 : CWv RL 78 yX7_frame cX7_frame 7 (some .int) 4 := ⟨⟨u3_228, u1_1, u3_231, ⟨by decide +kernel, by decide +kernel, by decide +kernel⟩, by decide⟩, u3_229, u3_230⟩
theorem w_7_218 : CWv RX7 218 yX3_slot cX3_slot 3 (some .int) 2 := ⟨⟨u3_232, u1_7, u3_227, ⟨by decide +kernel, by decide +kernel, by decide +kernel⟩, by decide⟩, u3_225, u3_226⟩
theorem w_L_83 : CWv RL 83 yX7_lost cX7_lost 3 (some .int) 2 := ⟨⟨u3_233, u1_1, u3_236, ⟨by decide +kernel, by decide +kernel, by decide +kernel⟩, by decide⟩, u3_234, u3_235⟩
theorem w_7_226 : CWs RX7 226 yX7_isLostSort cX7_isLostSort 1 (some .boolean) 1 := ⟨⟨u3_237, u1_1, u3_239, ⟨by decide +kernel, by decide +kernel, by decide +kernel⟩, by decide⟩, u3_238⟩
theorem w_L_87 : CWv RL 87 yX7_policed cX7_policed 3 (some .int) 2 := ⟨⟨u4_0, u1_1, u4_3, ⟨by decide +kernel, by decide +kernel, by decide +kernel⟩, by decide⟩, u4_1, u4_2⟩
theorem w_L_91 : CWv RL 91 yX7_heard cX7_heard 4 (some .int) 3 := ⟨⟨u4_4, u1_1, u4_7, ⟨by decide +kernel, by decide +kernel, by decide +kernel⟩, by decide⟩, u4_5, u4_6⟩
theorem w_7_235 : CWs RX7 235 yX0_tells cX0_tells 1 (some .boolean) 1 := ⟨⟨u4_8, u1_8, u4_10, ⟨by decide +kernel, by decide +kernel, by decide +kernel⟩, by decide⟩, u4_9⟩
theorem w_7_244 : CWv RX7 244 yX0_told cX0_told 3 (some .int) 2 := ⟨⟨u4_11, u1_8, u4_14, ⟨by decide +kernel, by decide +kernel, by decide +kernel⟩, by decide⟩, u4_12, u4_13⟩
theorem w_L_95 : CWv RL 95 yX7_seen cX7_seen 4 (some .int) 3 := ⟨⟨u4_15, u1_1, u4_18, ⟨by decide +kernel, by decide +kernel, by decide +kernel⟩, by decide⟩, u4_16, u4_17⟩
theorem w_L_99 : CWv RL 99 yX7_taken cX7_taken 4 (some .int) 3 := ⟨⟨u4_19, u1_1, u4_22, ⟨by decide +kernel, by decide +kernel, by decide +kernel⟩, by decide⟩, u4_20, u4_21⟩
theorem w_7_250 : CWv RX7 250 yX0_remembers cX0_remembers 3 (some .boolean) 2 := ⟨⟨u4_23, u1_8, u4_26, ⟨by decide +kernel, by decide +kernel, by decide +kernel⟩, by decide⟩, u4_24, u4_25⟩
theorem w_0_56 : CWs RX0 56 yJ9_min_7cf53 cJ9_min_7cf53 2 (some .int) 2 := ⟨⟨u4_27, u1_10, u2_189, ⟨by decide +kernel, by decide +kernel, by decide +kernel⟩, by decide⟩, u2_188⟩
theorem w_7_253 : CWv RX7 253 yX0_remembered cX0_remembered 3 (some .int) 2 := ⟨⟨u4_28, u1_8, u4_31, ⟨by decide +kernel, by decide +kernel, by decide +kernel⟩, by decide⟩, u4_29, u4_30⟩
theorem w_0_62 : CWs RX0 62 yX0_memoryOf cX0_memoryOf 2 (some .int) 2 := ⟨⟨u4_32, u1_8, u4_34, ⟨by decide +kernel, by decide +kernel, by decide +kernel⟩, by decide⟩, u4_33⟩
theorem w_L_103 : CWv RL 103 yX7_load cX7_load 3 (some .long) 2 := ⟨⟨u4_35, u1_1, u4_38, ⟨by decide +kernel, by decide +kernel, by decide +kernel⟩, by decide⟩, u4_36, u4_37⟩
theorem w_7_256 : CWv RX7 256 yX1_loadOf cX1_loadOf 2 (some .long) 1 := ⟨⟨u4_39, u1_5, u4_42, ⟨by decide +kernel, by decide +kernel, by decide +kernel⟩, by decide⟩, u4_40, u4_41⟩
theorem w_7_260 : CWv RX7 260 yX7_part cX7_part 5 (some .long) 2 := ⟨⟨u4_44, u1_1, u4_47, ⟨by decide +kernel, by decide +kernel, by decide +kernel⟩, by decide⟩, u4_46, us2_9⟩
theorem w_7_338 : CWs RX7 338 yJ13_numberOfTrailingZeros_95d88 cJ13_numberOfTrailingZeros_95d88 3 (some .int) 1 := ⟨⟨u4_48, u1_18, u4_50, ⟨by decide +kernel, by decide +kernel, by decide +kernel⟩, by decide⟩, u4_49⟩
theorem w_J13_311 : CWs RJ13 311 yJ6_numberOfTrailingZeros_0f7a4 cJ6_numberOfTrailingZeros_0f7a4 2 (some .int) 1 := ⟨⟨u4_51, u1_12, u4_53, ⟨by decide +kernel, by decide +kernel, by decide +kernel⟩, by decide⟩, u4_52⟩
theorem w_7_343 : CWs RX7 343 yJ9_min_7cf53 cJ9_min_7cf53 2 (some .int) 2 := ⟨⟨u4_55, u1_10, u2_189, ⟨by decide +kernel, by decide +kernel, by decide +kernel⟩, by decide⟩, u2_188⟩
theorem w_L_108 : CWv RL 108 yX7_delay cX7_delay 3 (some .long) 2 := ⟨⟨u4_57, u1_1, u4_60, ⟨by decide +kernel, by decide +kernel, by decide +kernel⟩, by decide⟩, u4_58, u4_59⟩
theorem w_L_112 : CWv RL 112 yX7_burst cX7_burst 5 (some .long) 4 := ⟨⟨u4_61, u1_1, u4_64, ⟨by decide +kernel, by decide +kernel, by decide +kernel⟩, by decide⟩, u4_62, u4_63⟩
theorem w_L_117 : CWv RL 117 yX7_bound cX7_bound 4 (some .long) 3 := ⟨⟨u4_65, u1_1, u4_68, ⟨by decide +kernel, by decide +kernel, by decide +kernel⟩, by decide⟩, u4_66, u4_67⟩
theorem w_7_274 : CWv RX7 274 yX1_boundOf cX1_boundOf 6 (some .long) 2 := ⟨⟨u4_69, u1_5, u4_72, ⟨by decide +kernel, by decide +kernel, by decide +kernel⟩, by decide⟩, u4_70, u4_71⟩
theorem w_1_83 : CWv RX1 83 yX6_portAt cX6_portAt 3 (some .int) 2 := ⟨⟨u4_73, u1_4, u3_87, ⟨by decide +kernel, by decide +kernel, by decide +kernel⟩, by decide⟩, u3_85, u3_86⟩
theorem w_L_122 : CWv RL 122 yX7_keeps cX7_keeps 6 (some .int) 2 := ⟨⟨u4_74, u1_1, u4_77, ⟨by decide +kernel, by decide +kernel, by decide +kernel⟩, by decide⟩, u4_75, u4_76⟩
theorem w_L_126 : CWv RL 126 yX7_fullest cX7_fullest 1 (some .int) 0 := ⟨⟨u4_78, u1_1, u4_81, ⟨by decide +kernel, by decide +kernel, by decide +kernel⟩, by decide⟩, u4_79, u4_80⟩
theorem w_7_283 : CWv RX7 283 yX1_fullestPort cX1_fullestPort 3 (some .int) 0 := ⟨⟨u4_82, u1_5, u4_85, ⟨by decide +kernel, by decide +kernel, by decide +kernel⟩, by decide⟩, u4_83, u4_84⟩
theorem w_L_130 : CWv RL 130 yX7_leastGap cX7_leastGap 2 (some .int) 1 := ⟨⟨u4_86, u1_1, u4_89, ⟨by decide +kernel, by decide +kernel, by decide +kernel⟩, by decide⟩, u4_87, u4_88⟩
theorem w_7_287 : CWv RX7 287 yX1_leastGapFor cX1_leastGapFor 4 (some .int) 2 := ⟨⟨u4_90, u1_5, u4_93, ⟨by decide +kernel, by decide +kernel, by decide +kernel⟩, by decide⟩, u4_91, u4_92⟩
theorem w_1_87 : CWs RX1 87 yX1_bears cX1_bears 4 (some .boolean) 3 := ⟨⟨u4_94, u1_5, u4_96, ⟨by decide +kernel, by decide +kernel, by decide +kernel⟩, by decide⟩, u4_95⟩
theorem w_L_134 : CWv RL 134 yX7_through cX7_through 2 (some .int) 1 := ⟨⟨u4_97, u1_1, u4_100, ⟨by decide +kernel, by decide +kernel, by decide +kernel⟩, by decide⟩, u4_98, u4_99⟩
theorem w_L_138 : CWv RL 138 yX7_send cX7_send 3 (some .int) 2 := ⟨⟨u4_101, u1_1, u4_104, ⟨by decide +kernel, by decide +kernel, by decide +kernel⟩, by decide⟩, u4_102, u4_103⟩
theorem w_L_142 : CWv RL 142 yX7_babble cX7_babble 5 (some .int) 2 := ⟨⟨u4_105, u1_1, u4_108, ⟨by decide +kernel, by decide +kernel, by decide +kernel⟩, by decide⟩, u4_106, u4_107⟩
theorem w_7_294 : CWv RX7 294 yX5_bear cX5_bear 6 (some .int) 2 := ⟨⟨u4_109, u1_6, u4_112, ⟨by decide +kernel, by decide +kernel, by decide +kernel⟩, by decide⟩, u4_110, u4_111⟩
theorem w_5_191 : CWv RX5 191 yX3_admits cX3_admits 7 (some .boolean) 5 := ⟨⟨u4_113, u1_7, u4_116, ⟨by decide +kernel, by decide +kernel, by decide +kernel⟩, by decide⟩, u4_114, u4_115⟩
theorem w_5_198 : CWn RX5 198 yX7_numberBehind cX7_numberBehind 1 (some .int) 1 := ⟨⟨_, List.mem_of_getElem? (i := 11) rfl⟩, u1_1, u4_119, ⟨by decide +kernel, by decide +kernel, by decide +kernel⟩, by decide, u4_118⟩
theorem w_L_146 : CWv RL 146 yX7_down cX7_down 4 (some .int) 2 := ⟨⟨u4_120, u1_1, u4_123, ⟨by decide +kernel, by decide +kernel, by decide +kernel⟩, by decide⟩, u4_121, u4_122⟩
theorem w_L_150 : CWv RL 150 yX7_anew cX7_anew 2 (some .int) 1 := ⟨⟨u4_124, u1_1, u4_127, ⟨by decide +kernel, by decide +kernel, by decide +kernel⟩, by decide⟩, u4_125, u4_126⟩
theorem w_7_300 : CWv RX7 300 yX5_beginAnew cX5_beginAnew 5 (some .int) 2 := ⟨⟨u4_128, u1_6, u4_131, ⟨by decide +kernel, by decide +kernel, by decide +kernel⟩, by decide⟩, u4_129, u4_130⟩
theorem w_L_154 : CWv RL 154 yX7_ticks cX7_ticks 3 (some .int) 1 := ⟨⟨u4_132, u1_1, u4_135, ⟨by decide +kernel, by decide +kernel, by decide +kernel⟩, by decide⟩, u4_133, u4_134⟩
theorem w_7_303 : CWs RX7 303 yX7_isTicks cX7_isTicks 1 (some .boolean) 1 := ⟨⟨u4_136, u1_1, u4_138, ⟨by decide +kernel, by decide +kernel, by decide +kernel⟩, by decide⟩, u4_137⟩
theorem w_7_309 : CWv RX7 309 yX5_advance cX5_advance 5 none 2 := ⟨⟨u4_139, u1_6, u4_142, ⟨by decide +kernel, by decide +kernel, by decide +kernel⟩, by decide⟩, u4_140, u4_141⟩
theorem w_5_97 : CWv RX5 97 yX5_step cX5_step 4 none 2 := ⟨⟨u4_143, u1_6, u4_146, ⟨by decide +kernel, by decide +kernel, by decide +kernel⟩, by decide⟩, u4_144, u4_145⟩
theorem w_5_101 : CWv RX5 101 yX5_nextChange cX5_nextChange 5 (some .int) 2 := ⟨⟨u4_147, u1_6, u4_150, ⟨by decide +kernel, by decide +kernel, by decide +kernel⟩, by decide⟩, u4_149, us2_10⟩
theorem w_5_127 : CWv RX5 127 yX3_nextChange cX3_nextChange 5 (some .int) 2 := ⟨⟨u4_151, u1_7, u4_154, ⟨by decide +kernel, by decide +kernel, by decide +kernel⟩, by decide⟩, u4_152, u4_153⟩
theorem w_3_60 : CWs RX3 60 yJ9_min_7cf53 cJ9_min_7cf53 2 (some .int) 2 := ⟨⟨u4_155, u1_10, u2_189, ⟨by decide +kernel, by decide +kernel, by decide +kernel⟩, by decide⟩, u2_188⟩
theorem w_5_129 : CWs RX5 129 yJ9_min_7cf53 cJ9_min_7cf53 2 (some .int) 2 := ⟨⟨u4_156, u1_10, u2_189, ⟨by decide +kernel, by decide +kernel, by decide +kernel⟩, by decide⟩, u2_188⟩
theorem w_5_105 : CWs RX5 105 yJ9_max_7cf53 cJ9_max_7cf53 2 (some .int) 2 := ⟨⟨u4_157, u1_10, u4_159, ⟨by decide +kernel, by decide +kernel, by decide +kernel⟩, by decide⟩, u4_158⟩
theorem w_5_111 : CWv RX5 111 yX3_noteMost cX3_noteMost 2 none 0 := ⟨⟨u4_160, u1_7, u4_163, ⟨by decide +kernel, by decide +kernel, by decide +kernel⟩, by decide⟩, u4_161, u4_162⟩
theorem w_3_55 : CWs RX3 55 yJ9_max_7cf53 cJ9_max_7cf53 2 (some .int) 2 := ⟨⟨u4_164, u1_10, u4_159, ⟨by decide +kernel, by decide +kernel, by decide +kernel⟩, by decide⟩, u4_158⟩
theorem w_5_114 : CWv RX5 114 yX5_growCredit cX5_growCredit 6 none 2 := ⟨⟨u4_165, u1_6, u4_168, ⟨by decide +kernel, by decide +kernel, by decide +kernel⟩, by decide⟩, u4_167, us2_11⟩
theorem w_5_117 : CWv RX5 117 yX5_deliver cX5_deliver 4 none 1 := ⟨⟨u4_169, u1_6, u4_172, ⟨by decide +kernel, by decide +kernel, by decide +kernel⟩, by decide⟩, u4_171, us2_12⟩
theorem w_5_138 : CWv RX5 138 yX3_slot cX3_slot 3 (some .int) 2 := ⟨⟨u4_173, u1_7, u3_227, ⟨by decide +kernel, by decide +kernel, by decide +kernel⟩, by decide⟩, u3_225, u3_226⟩
theorem w_5_141 : CWv RX5 141 yX3_removeFirst cX3_removeFirst 2 none 1 := ⟨⟨u4_174, u1_7, u4_177, ⟨by decide +kernel, by decide +kernel, by decide +kernel⟩, by decide⟩, u4_175, u4_176⟩
theorem w_5_145 : CWs RX5 145 yX5_leadsToEnd cX5_leadsToEnd 2 (some .boolean) 1 := ⟨⟨u4_178, u1_6, u4_180, ⟨by decide +kernel, by decide +kernel, by decide +kernel⟩, by decide⟩, u4_179⟩
theorem w_5_149 : CWv RX5 149 yX5_arriveAtEnd cX5_arriveAtEnd 5 none 3 := ⟨⟨u4_181, u1_6, u4_184, ⟨by decide +kernel, by decide +kernel, by decide +kernel⟩, by decide⟩, u4_183, us2_13⟩
theorem w_5_159 : CWv RX5 159 yX2_earAt cX2_earAt 4 (some .int) 2 := ⟨⟨u4_185, u1_3, u3_59, ⟨by decide +kernel, by decide +kernel, by decide +kernel⟩, by decide⟩, u3_57, u3_58⟩
theorem w_5_164 : CWv RX5 164 yX0_hear cX0_hear 8 none 6 := ⟨⟨u4_186, u1_8, u4_189, ⟨by decide +kernel, by decide +kernel, by decide +kernel⟩, by decide⟩, u4_187, u4_188⟩
theorem w_0_68 : CWs RX0 68 yX0_isWhole cX0_isWhole 3 (some .boolean) 2 := ⟨⟨u4_190, u1_8, u4_192, ⟨by decide +kernel, by decide +kernel, by decide +kernel⟩, by decide⟩, u4_191⟩
theorem w_0_80 : CWn RX0 80 yX7_numberBehind cX7_numberBehind 1 (some .int) 1 := ⟨⟨_, List.mem_of_getElem? (i := 12) rfl⟩, u1_1, u4_119, ⟨by decide +kernel, by decide +kernel, by decide +kernel⟩, by decide, u4_118⟩
theorem w_0_72 : CWv RX0 72 yX0_isFresh cX0_isFresh 7 (some .boolean) 4 := ⟨⟨u4_194, u1_8, u4_197, ⟨by decide +kernel, by decide +kernel, by decide +kernel⟩, by decide⟩, u4_196, us2_14⟩
theorem w_0_76 : CWv RX0 76 yX0_take cX0_take 7 none 5 := ⟨⟨u4_198, u1_8, u4_201, ⟨by decide +kernel, by decide +kernel, by decide +kernel⟩, by decide⟩, u4_200, us2_15⟩
theorem w_0_92 : CWs RX0 92 yJ9_max_7cf53 cJ9_max_7cf53 2 (some .int) 2 := ⟨⟨u4_202, u1_10, u4_159, ⟨by decide +kernel, by decide +kernel, by decide +kernel⟩, by decide⟩, u4_158⟩
theorem w_5_153 : CWv RX5 153 yX5_arriveAtSwitch cX5_arriveAtSwitch 7 none 3 := ⟨⟨u4_203, u1_6, u4_206, ⟨by decide +kernel, by decide +kernel, by decide +kernel⟩, by decide⟩, u4_205, us3_0⟩
theorem w_5_168 : CWv RX5 168 yX5_paysCredit cX5_paysCredit 5 (some .boolean) 3 := ⟨⟨u4_207, u1_6, u4_210, ⟨by decide +kernel, by decide +kernel, by decide +kernel⟩, by decide⟩, u4_209, us3_1⟩
theorem w_5_181 : CWv RX5 181 yX5_spread cX5_spread 8 none 4 := ⟨⟨u4_211, u1_6, u4_214, ⟨by decide +kernel, by decide +kernel, by decide +kernel⟩, by decide⟩, u4_213, us3_2⟩
theorem w_5_121 : CWv RX5 121 yX5_release cX5_release 3 none 1 := ⟨⟨u4_215, u1_6, u4_218, ⟨by decide +kernel, by decide +kernel, by decide +kernel⟩, by decide⟩, u4_217, us3_3⟩
theorem w_5_195 : CWv RX5 195 yX5_bear cX5_bear 6 (some .int) 2 := ⟨⟨u4_219, u1_6, u4_112, ⟨by decide +kernel, by decide +kernel, by decide +kernel⟩, by decide⟩, u4_110, u4_111⟩
theorem w_5_124 : CWv RX5 124 yX5_beginSending cX5_beginSending 5 none 1 := ⟨⟨u4_220, u1_6, u4_223, ⟨by decide +kernel, by decide +kernel, by decide +kernel⟩, by decide⟩, u4_222, us3_4⟩
theorem w_5_204 : CWv RX5 204 yX3_sends cX3_sends 2 (some .boolean) 1 := ⟨⟨u4_224, u1_7, u3_223, ⟨by decide +kernel, by decide +kernel, by decide +kernel⟩, by decide⟩, u3_221, u3_222⟩
theorem w_L_158 : CWv RL 158 yX7_willHear cX7_willHear 5 (some .int) 4 := ⟨⟨u4_225, u1_1, u4_228, ⟨by decide +kernel, by decide +kernel, by decide +kernel⟩, by decide⟩, u4_226, u4_227⟩
theorem w_7_313 : CWv RX7 313 yX5_copy cX5_copy 2 none 1 := ⟨⟨u4_229, u1_6, u4_232, ⟨by decide +kernel, by decide +kernel, by decide +kernel⟩, by decide⟩, u4_230, u4_231⟩
theorem w_5_76 : CWn RX5 76 yX7_copyAll cX7_copyAll 2 none 2 := ⟨⟨_, List.mem_of_getElem? (i := 13) rfl⟩, u1_1, u4_235, ⟨by decide +kernel, by decide +kernel, by decide +kernel⟩, by decide, u4_234⟩
theorem w_5_80 : CWv RX5 80 yX3_copy cX3_copy 2 none 1 := ⟨⟨u4_239, u1_7, u5_2, ⟨by decide +kernel, by decide +kernel, by decide +kernel⟩, by decide⟩, u5_0, u5_1⟩
theorem w_3_43 : CWn RX3 43 yX7_copyAll cX7_copyAll 2 none 2 := ⟨⟨_, List.mem_of_getElem? (i := 14) rfl⟩, u1_1, u4_235, ⟨by decide +kernel, by decide +kernel, by decide +kernel⟩, by decide, u4_234⟩
theorem w_5_84 : CWv RX5 84 yX0_copy cX0_copy 2 none 1 := ⟨⟨u5_4, u1_8, u5_7, ⟨by decide +kernel, by decide +kernel, by decide +kernel⟩, by decide⟩, u5_5, u5_6⟩
theorem w_0_52 : CWn RX0 52 yX7_copyAll cX7_copyAll 2 none 2 := ⟨⟨_, List.mem_of_getElem? (i := 15) rfl⟩, u1_1, u4_235, ⟨by decide +kernel, by decide +kernel, by decide +kernel⟩, by decide, u4_234⟩
theorem w_L_162 : CWv RL 162 yX7_willLose cX7_willLose 4 (some .int) 3 := ⟨⟨u5_9, u1_1, u5_12, ⟨by decide +kernel, by decide +kernel, by decide +kernel⟩, by decide⟩, u5_10, u5_11⟩
theorem w_L_166 : CWv RL 166 yX7_quiet cX7_quiet 3 (some .int) 0 := ⟨⟨u5_13, u1_1, u5_16, ⟨by decide +kernel, by decide +kernel, by decide +kernel⟩, by decide⟩, u5_14, u5_15⟩
theorem w_7_317 : CWv RX7 317 yX5_isQuiet cX5_isQuiet 1 (some .boolean) 0 := ⟨⟨u5_17, u1_6, u5_20, ⟨by decide +kernel, by decide +kernel, by decide +kernel⟩, by decide⟩, u5_18, u5_19⟩
theorem w_5_90 : CWv RX5 90 yX5_allWaiting cX5_allWaiting 3 (some .int) 0 := ⟨⟨u5_21, u1_6, u5_24, ⟨by decide +kernel, by decide +kernel, by decide +kernel⟩, by decide⟩, u5_22, u5_23⟩
theorem w_7_320 : CWv RX7 320 yX5_step cX5_step 4 none 2 := ⟨⟨u5_25, u1_6, u4_146, ⟨by decide +kernel, by decide +kernel, by decide +kernel⟩, by decide⟩, u4_144, u4_145⟩
theorem w_L_170 : CWv RL 170 yX7_keep cX7_keep 1 (some .boolean) 0 := ⟨⟨u5_26, u1_1, u5_29, ⟨by decide +kernel, by decide +kernel, by decide +kernel⟩, by decide⟩, u5_27, u5_28⟩
theorem w_L_175 : CWv RL 175 yX7_back cX7_back 1 (some .boolean) 0 := ⟨⟨u5_30, u1_1, u5_33, ⟨by decide +kernel, by decide +kernel, by decide +kernel⟩, by decide⟩, u5_31, u5_32⟩
theorem w_L_188 : CWv RL 188 yX7_size cX7_size 2 (some .int) 1 := ⟨⟨u5_34, u1_1, u5_37, ⟨by decide +kernel, by decide +kernel, by decide +kernel⟩, by decide⟩, u5_35, u5_36⟩
theorem w_7_329 : CWv RX7 329 yX2_allReceivers cX2_allReceivers 3 (some .int) 0 := ⟨⟨u5_38, u1_3, u5_41, ⟨by decide +kernel, by decide +kernel, by decide +kernel⟩, by decide⟩, u5_39, u5_40⟩
theorem w_7_332 : CWv RX7 332 yX5_allWaiting cX5_allWaiting 3 (some .int) 0 := ⟨⟨u5_42, u1_6, u5_24, ⟨by decide +kernel, by decide +kernel, by decide +kernel⟩, by decide⟩, u5_22, u5_23⟩
theorem w_L_192 : CWv RL 192 yX7_trouble cX7_trouble 1 (some .int) 0 := ⟨⟨u5_43, u1_1, u5_46, ⟨by decide +kernel, by decide +kernel, by decide +kernel⟩, by decide⟩, u5_44, u5_45⟩
theorem w_L_7 : CWv RL 7 yX7_silent cX7_silent 4 (some .int) 1 := ⟨⟨u5_51, u1_1, u5_54, ⟨by decide +kernel, by decide +kernel, by decide +kernel⟩, by decide⟩, u5_52, u5_53⟩
theorem w_7_323 : CWv RX7 323 yX0_allTook cX0_allTook 4 (some .boolean) 2 := ⟨⟨u5_55, u1_8, u5_58, ⟨by decide +kernel, by decide +kernel, by decide +kernel⟩, by decide⟩, u5_56, u5_57⟩
theorem w_0_65 : CWn RX0 65 yX7_earOf cX7_earOf 2 (some .int) 2 := ⟨⟨_, List.mem_of_getElem? (i := 16) rfl⟩, u1_1, u3_62, ⟨by decide +kernel, by decide +kernel, by decide +kernel⟩, by decide, u3_61⟩
theorem w_L_185 : CWv RL 185 yX8_thrown cX8_thrown 1 (some .int) 0 := ⟨⟨u5_215, u1_9, u5_218, ⟨by decide +kernel, by decide +kernel, by decide +kernel⟩, by decide⟩, u5_216, u5_217⟩
theorem w_L_23 : CWv RL 23 yX8_feed cX8_feed 6 (some .int) 5 := ⟨⟨u5_219, u1_9, u5_222, ⟨by decide +kernel, by decide +kernel, by decide +kernel⟩, by decide⟩, u5_220, u5_221⟩
theorem w_8_60 : CWv RX8 60 yX8_laysWord cX8_laysWord 3 none 1 := ⟨⟨u5_223, u1_9, u5_226, ⟨by decide +kernel, by decide +kernel, by decide +kernel⟩, by decide⟩, u5_225, us3_6⟩
theorem w_L_27 : CWv RL 27 yX8_bus cX8_bus 3 (some .int) 1 := ⟨⟨u5_227, u1_9, u5_230, ⟨by decide +kernel, by decide +kernel, by decide +kernel⟩, by decide⟩, u5_228, u5_229⟩
theorem w_8_200 : CWv RX8 200 yX8_fresh cX8_fresh 1 none 0 := ⟨⟨u5_231, u1_9, u5_234, ⟨by decide +kernel, by decide +kernel, by decide +kernel⟩, by decide⟩, u5_233, us3_7⟩
theorem w_8_80 : CWs RX8 80 yX8_in cX8_in 3 (some .boolean) 3 := ⟨⟨u5_235, u1_9, u5_237, ⟨by decide +kernel, by decide +kernel, by decide +kernel⟩, by decide⟩, u5_236⟩
theorem w_8_203 : CWv RX8 203 yX8_no cX8_no 2 (some .int) 1 := ⟨⟨u5_238, u1_9, u6_1, ⟨by decide +kernel, by decide +kernel, by decide +kernel⟩, by decide⟩, u6_0, us3_8⟩
theorem w_8_209 : CWv RX8 209 yX8_readAll cX8_readAll 2 (some .int) 1 := ⟨⟨u6_2, u1_9, u6_5, ⟨by decide +kernel, by decide +kernel, by decide +kernel⟩, by decide⟩, u6_4, us3_9⟩
theorem w_8_117 : CWv RX8 117 yX8_goesOn cX8_goesOn 2 none 0 := ⟨⟨u6_6, u1_9, u6_9, ⟨by decide +kernel, by decide +kernel, by decide +kernel⟩, by decide⟩, u6_8, us3_10⟩
theorem w_8_70 : CWv RX8 70 yX8_see cX8_see 2 (some .int) 1 := ⟨⟨u6_10, u1_9, u6_13, ⟨by decide +kernel, by decide +kernel, by decide +kernel⟩, by decide⟩, u6_12, us3_11⟩
theorem w_8_84 : CWv RX8 84 yX8_readsWord cX8_readsWord 2 none 0 := ⟨⟨u6_14, u1_9, u6_17, ⟨by decide +kernel, by decide +kernel, by decide +kernel⟩, by decide⟩, u6_16, us3_12⟩
theorem w_8_197 : CWv RX8 197 yX8_readLine cX8_readLine 1 (some .int) 0 := ⟨⟨u6_20, u1_9, u6_23, ⟨by decide +kernel, by decide +kernel, by decide +kernel⟩, by decide⟩, u6_22, us3_13⟩
theorem w_8_120 : CWv RX8 120 yX8_isWord cX8_isWord 3 (some .boolean) 1 := ⟨⟨u6_25, u1_9, u6_28, ⟨by decide +kernel, by decide +kernel, by decide +kernel⟩, by decide⟩, u6_27, us3_14⟩
theorem w_8_98 : CWv RX8 98 yJ0_length_8abf5 cJ0_length_8abf5 1 (some .int) 0 := ⟨⟨u6_29, u1_14, u6_32, ⟨by decide +kernel, by decide +kernel, by decide +kernel⟩, by decide⟩, u6_30, u6_31⟩
theorem w_J0_335 : CWv RJ0 335 yJ0_coder_7d493 cJ0_coder_7d493 1 (some .byte) 0 := ⟨⟨u6_33, u1_14, u6_36, ⟨by decide +kernel, by decide +kernel, by decide +kernel⟩, by decide⟩, u6_34, u6_35⟩
theorem w_8_104 : CWv RX8 104 yJ0_charAt_5068e cJ0_charAt_5068e 2 (some .char) 1 := ⟨⟨u6_39, u1_14, u6_42, ⟨by decide +kernel, by decide +kernel, by decide +kernel⟩, by decide⟩, u6_40, u6_41⟩
theorem w_J0_492 : CWv RJ0 492 yJ0_isLatin1_aae02 cJ0_isLatin1_aae02 1 (some .boolean) 0 := ⟨⟨u6_43, u1_14, u6_46, ⟨by decide +kernel, by decide +kernel, by decide +kernel⟩, by decide⟩, u6_44, u6_45⟩
theorem w_J0_495 : CWs RJ0 495 yJ1_charAt_3b067 cJ1_charAt_3b067 2 (some .char) 2 := ⟨⟨u6_47, u1_15, u6_49, ⟨by decide +kernel, by decide +kernel, by decide +kernel⟩, by decide⟩, u6_48⟩
theorem w_J1_9 : CWs RJ1 9 yJ0_checkIndex_df160 cJ0_checkIndex_df160 2 none 2 := ⟨⟨u6_50, u1_14, u6_52, ⟨by decide +kernel, by decide +kernel, by decide +kernel⟩, by decide⟩, u6_51⟩
theorem w_J0_1059 : CWs RJ0 1059 yJ3_checkIndex_8e157 cJ3_checkIndex_8e157 3 (some .int) 3 := ⟨⟨u6_55, u1_16, u6_57, ⟨by decide +kernel, by decide +kernel, by decide +kernel⟩, by decide⟩, u6_56⟩
theorem w_J0_498 : CWs RJ0 498 yJ2_charAt_3b067 cJ2_charAt_3b067 2 (some .char) 2 := ⟨⟨u6_58, u1_17, u6_60, ⟨by decide +kernel, by decide +kernel, by decide +kernel⟩, by decide⟩, u6_59⟩
theorem w_J2_67 : CWs RJ2 67 yJ2_checkIndex_2214a cJ2_checkIndex_2214a 2 none 2 := ⟨⟨u6_61, u1_17, u6_63, ⟨by decide +kernel, by decide +kernel, by decide +kernel⟩, by decide⟩, u6_62⟩
theorem w_J2_48 : CWs RJ2 48 yJ2_length_9d52b cJ2_length_9d52b 1 (some .int) 1 := ⟨⟨u6_64, u1_17, u6_66, ⟨by decide +kernel, by decide +kernel, by decide +kernel⟩, by decide⟩, u6_65⟩
theorem w_J2_414 : CWs RJ2 414 yJ0_checkIndex_df160 cJ0_checkIndex_df160 2 none 2 := ⟨⟨u6_67, u1_14, u6_52, ⟨by decide +kernel, by decide +kernel, by decide +kernel⟩, by decide⟩, u6_51⟩
theorem w_J2_71 : CWs RJ2 71 yJ2_getChar_3b067 cJ2_getChar_3b067 2 (some .char) 2 := ⟨⟨u6_68, u1_17, u6_70, ⟨by decide +kernel, by decide +kernel, by decide +kernel⟩, by decide⟩, u6_69⟩
theorem w_8_188 : CWv RX8 188 yX8_readBus cX8_readBus 1 (some .int) 0 := ⟨⟨u6_77, u1_9, u6_80, ⟨by decide +kernel, by decide +kernel, by decide +kernel⟩, by decide⟩, u6_79, us3_15⟩
theorem w_8_114 : CWv RX8 114 yX8_errs cX8_errs 2 (some .int) 1 := ⟨⟨u6_81, u1_9, u6_84, ⟨by decide +kernel, by decide +kernel, by decide +kernel⟩, by decide⟩, u6_83, us4_0⟩
theorem w_8_147 : CWv RX8 147 yX8_after cX8_after 4 (some .int) 3 := ⟨⟨u6_86, u1_9, u6_89, ⟨by decide +kernel, by decide +kernel, by decide +kernel⟩, by decide⟩, u6_88, us4_1⟩
theorem w_8_124 : CWv RX8 124 yX8_passes cX8_passes 4 (some .int) 2 := ⟨⟨u6_90, u1_9, u6_93, ⟨by decide +kernel, by decide +kernel, by decide +kernel⟩, by decide⟩, u6_92, us4_2⟩
theorem w_8_191 : CWv RX8 191 yX8_readEnd cX8_readEnd 2 (some .int) 0 := ⟨⟨u6_99, u1_9, u6_102, ⟨by decide +kernel, by decide +kernel, by decide +kernel⟩, by decide⟩, u6_101, us4_3⟩
theorem w_8_159 : CWv RX8 159 yX8_newName cX8_newName 2 (some .int) 1 := ⟨⟨u6_103, u1_9, u6_106, ⟨by decide +kernel, by decide +kernel, by decide +kernel⟩, by decide⟩, u6_105, us4_4⟩
theorem w_8_134 : CWv RX8 134 yX8_isName cX8_isName 1 (some .boolean) 0 := ⟨⟨u6_107, u1_9, u6_110, ⟨by decide +kernel, by decide +kernel, by decide +kernel⟩, by decide⟩, u6_109, us4_5⟩
theorem w_8_138 : CWv RX8 138 yX8_told cX8_told 2 (some .int) 0 := ⟨⟨u6_112, u1_9, u6_115, ⟨by decide +kernel, by decide +kernel, by decide +kernel⟩, by decide⟩, u6_114, us4_6⟩
theorem w_8_194 : CWv RX8 194 yX8_readLink cX8_readLink 3 (some .int) 0 := ⟨⟨u6_117, u1_9, u6_120, ⟨by decide +kernel, by decide +kernel, by decide +kernel⟩, by decide⟩, u6_119, us4_7⟩
theorem w_8_170 : CWv RX8 170 yX8_endHere cX8_endHere 2 (some .int) 0 := ⟨⟨u6_122, u1_9, u6_125, ⟨by decide +kernel, by decide +kernel, by decide +kernel⟩, by decide⟩, u6_124, us4_8⟩
theorem w_8_179 : CWv RX8 179 yX8_readGap cX8_readGap 1 (some .int) 0 := ⟨⟨u6_126, u1_9, u6_129, ⟨by decide +kernel, by decide +kernel, by decide +kernel⟩, by decide⟩, u6_128, us4_9⟩
theorem w_8_166 : CWs RX8 166 yX8_isGap cX8_isGap 1 (some .boolean) 1 := ⟨⟨u6_131, u1_9, u6_133, ⟨by decide +kernel, by decide +kernel, by decide +kernel⟩, by decide⟩, u6_132⟩
theorem w_8_185 : CWv RX8 185 yX8_readReceiver cX8_readReceiver 3 (some .int) 1 := ⟨⟨u6_136, u1_9, u6_139, ⟨by decide +kernel, by decide +kernel, by decide +kernel⟩, by decide⟩, u6_138, us4_10⟩
theorem w_8_173 : CWv RX8 173 yX8_isHeard cX8_isHeard 4 (some .boolean) 2 := ⟨⟨u6_140, u1_9, u6_143, ⟨by decide +kernel, by decide +kernel, by decide +kernel⟩, by decide⟩, u6_142, us4_11⟩
theorem w_8_218 : CWv RX8 218 yX8_begins cX8_begins 4 none 0 := ⟨⟨u6_144, u1_9, u6_147, ⟨by decide +kernel, by decide +kernel, by decide +kernel⟩, by decide⟩, u6_146, us4_12⟩
theorem w_8_246 : CWs RX8 246 yX8_linkAt cX8_linkAt 2 (some .int) 2 := ⟨⟨u6_148, u1_9, u6_150, ⟨by decide +kernel, by decide +kernel, by decide +kernel⟩, by decide⟩, u6_149⟩
theorem w_8_249 : CWv RX8 249 yX8_mostCredit cX8_mostCredit 2 (some .int) 1 := ⟨⟨u6_151, u1_9, u6_154, ⟨by decide +kernel, by decide +kernel, by decide +kernel⟩, by decide⟩, u6_153, us4_13⟩
theorem w_8_221 : CWv RX8 221 yX8_linkOf cX8_linkOf 3 (some .int) 2 := ⟨⟨u6_155, u1_9, u6_158, ⟨by decide +kernel, by decide +kernel, by decide +kernel⟩, by decide⟩, u6_157, us4_14⟩
theorem w_8_252 : CWs RX8 252 yX8_hearAt cX8_hearAt 2 (some .int) 2 := ⟨⟨u6_159, u1_9, u6_161, ⟨by decide +kernel, by decide +kernel, by decide +kernel⟩, by decide⟩, u6_160⟩
theorem w_L_32 : CWv RL 32 yX8_fault cX8_fault 1 (some .int) 0 := ⟨⟨u6_162, u1_9, u6_165, ⟨by decide +kernel, by decide +kernel, by decide +kernel⟩, by decide⟩, u6_163, u6_164⟩
theorem w_L_36 : CWv RL 36 yX8_where cX8_where 1 (some .int) 0 := ⟨⟨u6_166, u1_9, u6_169, ⟨by decide +kernel, by decide +kernel, by decide +kernel⟩, by decide⟩, u6_167, u6_168⟩
theorem w_L_40 : CWv RL 40 yX8_about cX8_about 2 (some .int) 1 := ⟨⟨u6_170, u1_9, u6_173, ⟨by decide +kernel, by decide +kernel, by decide +kernel⟩, by decide⟩, u6_171, u6_172⟩
theorem w_L_44 : CWv RL 44 yX8_at cX8_at 2 (some .int) 1 := ⟨⟨u6_174, u1_9, u6_177, ⟨by decide +kernel, by decide +kernel, by decide +kernel⟩, by decide⟩, u6_175, u6_176⟩
theorem w_8_227 : CWv RX8 227 yX8_isEnd cX8_isEnd 2 (some .boolean) 1 := ⟨⟨u6_178, u1_9, u6_181, ⟨by decide +kernel, by decide +kernel, by decide +kernel⟩, by decide⟩, u6_180, us4_15⟩
theorem w_L_49 : CWv RL 49 yX8_link cX8_link 3 (some .int) 2 := ⟨⟨u6_182, u1_9, u6_185, ⟨by decide +kernel, by decide +kernel, by decide +kernel⟩, by decide⟩, u6_183, u6_184⟩
theorem w_8_224 : CWv RX8 224 yX8_isLink cX8_isLink 2 (some .boolean) 1 := ⟨⟨u6_186, u1_9, u6_189, ⟨by decide +kernel, by decide +kernel, by decide +kernel⟩, by decide⟩, u6_188, us5_0⟩
theorem w_L_53 : CWv RL 53 yX8_receiver cX8_receiver 3 (some .int) 2 := ⟨⟨u6_190, u1_9, u6_193, ⟨by decide +kernel, by decide +kernel, by decide +kernel⟩, by decide⟩, u6_191, u6_192⟩
theorem w_8_243 : CWv RX8 243 yX8_isReceiver cX8_isReceiver 4 (some .boolean) 3 := ⟨⟨u6_194, u1_9, u6_197, ⟨by decide +kernel, by decide +kernel, by decide +kernel⟩, by decide⟩, u6_196, us5_1⟩
theorem w_8_230 : CWv RX8 230 yX8_receiverOf cX8_receiverOf 3 (some .int) 2 := ⟨⟨u6_198, u1_9, u6_201, ⟨by decide +kernel, by decide +kernel, by decide +kernel⟩, by decide⟩, u6_200, us5_2⟩
theorem w_L_60 : CWv RL 60 yX8_named cX8_named 4 (some .int) 1 := ⟨⟨u6_202, u1_9, u6_205, ⟨by decide +kernel, by decide +kernel, by decide +kernel⟩, by decide⟩, u6_203, u6_204⟩
theorem w_L_65 : CWv RL 65 yX8_way cX8_way 4 (some .int) 3 := ⟨⟨u6_206, u1_9, u6_209, ⟨by decide +kernel, by decide +kernel, by decide +kernel⟩, by decide⟩, u6_207, u6_208⟩
theorem w_8_236 : CWv RX8 236 yX8_wayLong cX8_wayLong 3 (some .int) 2 := ⟨⟨u6_210, u1_9, u6_213, ⟨by decide +kernel, by decide +kernel, by decide +kernel⟩, by decide⟩, u6_212, us5_3⟩
theorem w_8_233 : CWs RX8 233 yX8_apart cX8_apart 2 (some .int) 2 := ⟨⟨u6_214, u1_9, u6_216, ⟨by decide +kernel, by decide +kernel, by decide +kernel⟩, by decide⟩, u6_215⟩
theorem w_8_239 : CWv RX8 239 yX8_wayOf cX8_wayOf 6 (some .int) 3 := ⟨⟨u6_217, u1_9, u6_220, ⟨by decide +kernel, by decide +kernel, by decide +kernel⟩, by decide⟩, u6_219, us5_4⟩
theorem w_L_69 : CWv RL 69 yX8_waits cX8_waits 3 (some .int) 2 := ⟨⟨u6_221, u1_9, u6_224, ⟨by decide +kernel, by decide +kernel, by decide +kernel⟩, by decide⟩, u6_222, u6_223⟩
theorem w_L_73 : CWv RL 73 yX8_credit cX8_credit 3 (some .int) 2 := ⟨⟨u6_225, u1_9, u6_228, ⟨by decide +kernel, by decide +kernel, by decide +kernel⟩, by decide⟩, u6_226, u6_227⟩
theorem w_L_77 : CWv RL 77 yX8_port cX8_port 5 (some .int) 3 := ⟨⟨u6_229, u1_9, u6_232, ⟨by decide +kernel, by decide +kernel, by decide +kernel⟩, by decide⟩, u6_230, u6_231⟩
theorem w_8_307 : CWv RX8 307 yX8_isPort cX8_isPort 2 (some .boolean) 1 := ⟨⟨u6_233, u1_9, u6_236, ⟨by decide +kernel, by decide +kernel, by decide +kernel⟩, by decide⟩, u6_235, us5_5⟩
theorem w_8_255 : CWs RX8 255 yX8_portAt cX8_portAt 2 (some .int) 2 := ⟨⟨u6_237, u1_9, u6_239, ⟨by decide +kernel, by decide +kernel, by decide +kernel⟩, by decide⟩, u6_238⟩
theorem w_L_82 : CWv RL 82 yX8_frame cX8_frame 5 (some .int) 4 := ⟨⟨u7_0, u1_9, u7_3, ⟨by decide +kernel, by decide +kernel, by decide +kernel⟩, by decide⟩, u7_1, u7_2⟩
theorem w_L_86 : CWv RL 86 yX8_lost cX8_lost 3 (some .int) 2 := ⟨⟨u7_4, u1_9, u7_7, ⟨by decide +kernel, by decide +kernel, by decide +kernel⟩, by decide⟩, u7_5, u7_6⟩
theorem w_8_310 : CWv RX8 310 yX8_isLoss cX8_isLoss 3 (some .boolean) 2 := ⟨⟨u7_8, u1_9, u7_11, ⟨by decide +kernel, by decide +kernel, by decide +kernel⟩, by decide⟩, u7_10, us5_6⟩
theorem w_L_90 : CWv RL 90 yX8_policed cX8_policed 3 (some .int) 2 := ⟨⟨u7_12, u1_9, u7_15, ⟨by decide +kernel, by decide +kernel, by decide +kernel⟩, by decide⟩, u7_13, u7_14⟩
theorem w_L_94 : CWv RL 94 yX8_heard cX8_heard 4 (some .int) 3 := ⟨⟨u7_16, u1_9, u7_19, ⟨by decide +kernel, by decide +kernel, by decide +kernel⟩, by decide⟩, u7_17, u7_18⟩
theorem w_L_98 : CWv RL 98 yX8_seen cX8_seen 4 (some .int) 3 := ⟨⟨u7_20, u1_9, u7_23, ⟨by decide +kernel, by decide +kernel, by decide +kernel⟩, by decide⟩, u7_21, u7_22⟩
theorem w_L_102 : CWv RL 102 yX8_taken cX8_taken 4 (some .int) 3 := ⟨⟨u7_24, u1_9, u7_27, ⟨by decide +kernel, by decide +kernel, by decide +kernel⟩, by decide⟩, u7_25, u7_26⟩
theorem w_L_107 : CWv RL 107 yX8_load cX8_load 3 (some .long) 2 := ⟨⟨u7_28, u1_9, u7_31, ⟨by decide +kernel, by decide +kernel, by decide +kernel⟩, by decide⟩, u7_29, u7_30⟩
theorem w_8_322 : CWv RX8 322 yX8_loadOf cX8_loadOf 5 (some .long) 1 := ⟨⟨u7_32, u1_9, u7_35, ⟨by decide +kernel, by decide +kernel, by decide +kernel⟩, by decide⟩, u7_34, us5_7⟩
theorem w_8_315 : CWv RX8 315 yX8_goesThrough cX8_goesThrough 5 (some .boolean) 2 := ⟨⟨u7_36, u1_9, u7_39, ⟨by decide +kernel, by decide +kernel, by decide +kernel⟩, by decide⟩, u7_38, us5_8⟩
theorem w_8_318 : CWv RX8 318 yX8_rateOf cX8_rateOf 2 (some .long) 1 := ⟨⟨u7_40, u1_9, u7_43, ⟨by decide +kernel, by decide +kernel, by decide +kernel⟩, by decide⟩, u7_42, us5_9⟩
theorem w_8_335 : CWs RX8 335 yX8_part cX8_part 11 (some .long) 3 := ⟨⟨u7_45, u1_9, u7_47, ⟨by decide +kernel, by decide +kernel, by decide +kernel⟩, by decide⟩, u7_46⟩
theorem w_L_111 : CWv RL 111 yX8_delay cX8_delay 3 (some .long) 2 := ⟨⟨u7_48, u1_9, u7_51, ⟨by decide +kernel, by decide +kernel, by decide +kernel⟩, by decide⟩, u7_49, u7_50⟩
theorem w_8_339 : CWv RX8 339 yX8_isBorne cX8_isBorne 2 (some .boolean) 0 := ⟨⟨u7_52, u1_9, u7_55, ⟨by decide +kernel, by decide +kernel, by decide +kernel⟩, by decide⟩, u7_54, us5_10⟩
theorem w_8_332 : CWv RX8 332 yX8_delayOf cX8_delayOf 5 (some .long) 1 := ⟨⟨u7_56, u1_9, u7_59, ⟨by decide +kernel, by decide +kernel, by decide +kernel⟩, by decide⟩, u7_58, us5_11⟩
theorem w_8_328 : CWv RX8 328 yX8_burstOf cX8_burstOf 4 (some .long) 2 := ⟨⟨u7_60, u1_9, u7_63, ⟨by decide +kernel, by decide +kernel, by decide +kernel⟩, by decide⟩, u7_62, us5_12⟩
theorem w_8_325 : CWv RX8 325 yX8_portAhead cX8_portAhead 5 (some .int) 2 := ⟨⟨u7_64, u1_9, u7_67, ⟨by decide +kernel, by decide +kernel, by decide +kernel⟩, by decide⟩, u7_66, us5_13⟩
theorem w_L_116 : CWv RL 116 yX8_burst cX8_burst 5 (some .long) 4 := ⟨⟨u7_68, u1_9, u7_71, ⟨by decide +kernel, by decide +kernel, by decide +kernel⟩, by decide⟩, u7_69, u7_70⟩
theorem w_L_121 : CWv RL 121 yX8_bound cX8_bound 4 (some .long) 3 := ⟨⟨u7_72, u1_9, u7_75, ⟨by decide +kernel, by decide +kernel, by decide +kernel⟩, by decide⟩, u7_73, u7_74⟩
theorem w_8_342 : CWv RX8 342 yX8_boundOf cX8_boundOf 6 (some .long) 2 := ⟨⟨u7_76, u1_9, u7_79, ⟨by decide +kernel, by decide +kernel, by decide +kernel⟩, by decide⟩, u7_78, us5_14⟩
theorem w_L_125 : CWv RL 125 yX8_keeps cX8_keeps 3 (some .int) 2 := ⟨⟨u7_80, u1_9, u7_83, ⟨by decide +kernel, by decide +kernel, by decide +kernel⟩, by decide⟩, u7_81, u7_82⟩
theorem w_L_129 : CWv RL 129 yX8_fullest cX8_fullest 3 (some .int) 0 := ⟨⟨u7_84, u1_9, u7_87, ⟨by decide +kernel, by decide +kernel, by decide +kernel⟩, by decide⟩, u7_85, u7_86⟩
theorem w_L_133 : CWv RL 133 yX8_leastGap cX8_leastGap 5 (some .int) 1 := ⟨⟨u7_88, u1_9, u7_91, ⟨by decide +kernel, by decide +kernel, by decide +kernel⟩, by decide⟩, u7_89, u7_90⟩
theorem w_L_137 : CWv RL 137 yX8_through cX8_through 4 (some .int) 1 := ⟨⟨u7_92, u1_9, u7_95, ⟨by decide +kernel, by decide +kernel, by decide +kernel⟩, by decide⟩, u7_93, u7_94⟩
theorem w_L_141 : CWv RL 141 yX8_send cX8_send 3 (some .int) 2 := ⟨⟨u7_96, u1_9, u7_99, ⟨by decide +kernel, by decide +kernel, by decide +kernel⟩, by decide⟩, u7_97, u7_98⟩
theorem w_L_145 : CWv RL 145 yX8_babble cX8_babble 5 (some .int) 2 := ⟨⟨u7_100, u1_9, u7_103, ⟨by decide +kernel, by decide +kernel, by decide +kernel⟩, by decide⟩, u7_101, u7_102⟩
theorem w_8_298 : CWv RX8 298 yX8_isBorn cX8_isBorn 5 (some .int) 1 := ⟨⟨u7_104, u1_9, u7_107, ⟨by decide +kernel, by decide +kernel, by decide +kernel⟩, by decide⟩, u7_106, us5_15⟩
theorem w_8_258 : CWv RX8 258 yX8_comes cX8_comes 8 (some .boolean) 5 := ⟨⟨u7_108, u1_9, u7_111, ⟨by decide +kernel, by decide +kernel, by decide +kernel⟩, by decide⟩, u7_110, us6_0⟩
theorem w_8_262 : CWs RX8 262 yX8_behind cX8_behind 1 (some .int) 1 := ⟨⟨u7_112, u1_9, u7_114, ⟨by decide +kernel, by decide +kernel, by decide +kernel⟩, by decide⟩, u7_113⟩
theorem w_L_149 : CWv RL 149 yX8_down cX8_down 4 (some .int) 2 := ⟨⟨u7_115, u1_9, u7_118, ⟨by decide +kernel, by decide +kernel, by decide +kernel⟩, by decide⟩, u7_116, u7_117⟩
theorem w_L_153 : CWv RL 153 yX8_anew cX8_anew 4 (some .int) 1 := ⟨⟨u7_119, u1_9, u7_122, ⟨by decide +kernel, by decide +kernel, by decide +kernel⟩, by decide⟩, u7_120, u7_121⟩
theorem w_L_157 : CWv RL 157 yX8_ticks cX8_ticks 2 (some .int) 1 := ⟨⟨u7_123, u1_9, u7_126, ⟨by decide +kernel, by decide +kernel, by decide +kernel⟩, by decide⟩, u7_124, u7_125⟩
theorem w_8_345 : CWv RX8 345 yX8_goes cX8_goes 3 none 1 := ⟨⟨u7_127, u1_9, u7_130, ⟨by decide +kernel, by decide +kernel, by decide +kernel⟩, by decide⟩, u7_129, us6_1⟩
theorem w_8_304 : CWv RX8 304 yX8_goesTick cX8_goesTick 4 none 0 := ⟨⟨u7_131, u1_9, u7_134, ⟨by decide +kernel, by decide +kernel, by decide +kernel⟩, by decide⟩, u7_133, us6_2⟩
theorem w_8_294 : CWv RX8 294 yX8_leaves cX8_leaves 8 none 2 := ⟨⟨u7_135, u1_9, u7_138, ⟨by decide +kernel, by decide +kernel, by decide +kernel⟩, by decide⟩, u7_137, us6_3⟩
theorem w_8_287 : CWv RX8 287 yX8_arrivesAtEnd cX8_arrivesAtEnd 9 none 5 := ⟨⟨u7_139, u1_9, u7_142, ⟨by decide +kernel, by decide +kernel, by decide +kernel⟩, by decide⟩, u7_141, us6_4⟩
theorem w_8_277 : CWv RX8 277 yX8_isWhole cX8_isWhole 5 (some .boolean) 3 := ⟨⟨u7_143, u1_9, u7_146, ⟨by decide +kernel, by decide +kernel, by decide +kernel⟩, by decide⟩, u7_145, us6_5⟩
theorem w_8_280 : CWv RX8 280 yX8_isTaken cX8_isTaken 4 (some .boolean) 2 := ⟨⟨u7_147, u1_9, u7_150, ⟨by decide +kernel, by decide +kernel, by decide +kernel⟩, by decide⟩, u7_149, us6_6⟩
theorem w_8_271 : CWs RX8 271 yX8_ahead cX8_ahead 2 (some .int) 2 := ⟨⟨u7_151, u1_9, u7_153, ⟨by decide +kernel, by decide +kernel, by decide +kernel⟩, by decide⟩, u7_152⟩
theorem w_8_283 : CWv RX8 283 yX8_takes cX8_takes 7 none 4 := ⟨⟨u7_154, u1_9, u7_157, ⟨by decide +kernel, by decide +kernel, by decide +kernel⟩, by decide⟩, u7_156, us6_7⟩
theorem w_8_291 : CWv RX8 291 yX8_arrivesAtSwitch cX8_arrivesAtSwitch 9 none 5 := ⟨⟨u7_158, u1_9, u7_161, ⟨by decide +kernel, by decide +kernel, by decide +kernel⟩, by decide⟩, u7_160, us6_8⟩
theorem w_8_265 : CWv RX8 265 yX8_switchBehind cX8_switchBehind 2 (some .int) 1 := ⟨⟨u7_162, u1_9, u7_165, ⟨by decide +kernel, by decide +kernel, by decide +kernel⟩, by decide⟩, u7_164, us6_9⟩
theorem w_8_268 : CWv RX8 268 yX8_liesBehind cX8_liesBehind 7 (some .boolean) 3 := ⟨⟨u7_166, u1_9, u7_169, ⟨by decide +kernel, by decide +kernel, by decide +kernel⟩, by decide⟩, u7_168, us6_10⟩
theorem w_8_301 : CWv RX8 301 yX8_sends cX8_sends 6 none 2 := ⟨⟨u7_170, u1_9, u7_173, ⟨by decide +kernel, by decide +kernel, by decide +kernel⟩, by decide⟩, u7_172, us6_11⟩
theorem w_L_161 : CWv RL 161 yX8_willHear cX8_willHear 6 (some .int) 4 := ⟨⟨u7_174, u1_9, u7_177, ⟨by decide +kernel, by decide +kernel, by decide +kernel⟩, by decide⟩, u7_175, u7_176⟩
theorem w_8_348 : CWv RX8 348 yX8_laysAside cX8_laysAside 2 none 0 := ⟨⟨u7_178, u1_9, u7_181, ⟨by decide +kernel, by decide +kernel, by decide +kernel⟩, by decide⟩, u7_180, us6_12⟩
theorem w_8_351 : CWv RX8 351 yX8_takesBack cX8_takesBack 2 none 0 := ⟨⟨u7_182, u1_9, u7_185, ⟨by decide +kernel, by decide +kernel, by decide +kernel⟩, by decide⟩, u7_184, us6_13⟩
theorem w_L_165 : CWv RL 165 yX8_willLose cX8_willLose 5 (some .int) 3 := ⟨⟨u7_186, u1_9, u7_189, ⟨by decide +kernel, by decide +kernel, by decide +kernel⟩, by decide⟩, u7_187, u7_188⟩
theorem w_L_169 : CWv RL 169 yX8_quiet cX8_quiet 2 (some .int) 0 := ⟨⟨u7_190, u1_9, u7_193, ⟨by decide +kernel, by decide +kernel, by decide +kernel⟩, by decide⟩, u7_191, u7_192⟩
theorem w_8_354 : CWv RX8 354 yX8_waitingMany cX8_waitingMany 3 (some .int) 0 := ⟨⟨u7_194, u1_9, u7_197, ⟨by decide +kernel, by decide +kernel, by decide +kernel⟩, by decide⟩, u7_196, us6_14⟩
theorem w_8_357 : CWv RX8 357 yX8_frameMany cX8_frameMany 3 (some .int) 0 := ⟨⟨u7_198, u1_9, u7_201, ⟨by decide +kernel, by decide +kernel, by decide +kernel⟩, by decide⟩, u7_200, us6_15⟩
theorem w_L_174 : CWv RL 174 yX8_keep cX8_keep 2 (some .boolean) 0 := ⟨⟨u7_202, u1_9, u7_205, ⟨by decide +kernel, by decide +kernel, by decide +kernel⟩, by decide⟩, u7_203, u7_204⟩
theorem w_L_178 : CWv RL 178 yX8_back cX8_back 2 (some .boolean) 0 := ⟨⟨u7_206, u1_9, u7_209, ⟨by decide +kernel, by decide +kernel, by decide +kernel⟩, by decide⟩, u7_207, u7_208⟩
theorem w_L_184 : CWv RL 184 yX8_silent cX8_silent 4 (some .int) 1 := ⟨⟨u7_210, u1_9, u7_213, ⟨by decide +kernel, by decide +kernel, by decide +kernel⟩, by decide⟩, u7_211, u7_212⟩
theorem w_8_360 : CWv RX8 360 yX8_isSilent cX8_isSilent 3 (some .boolean) 1 := ⟨⟨u7_214, u1_9, u7_217, ⟨by decide +kernel, by decide +kernel, by decide +kernel⟩, by decide⟩, u7_216, us7_0⟩
theorem w_L_191 : CWv RL 191 yX8_size cX8_size 2 (some .int) 1 := ⟨⟨u7_218, u1_9, u7_221, ⟨by decide +kernel, by decide +kernel, by decide +kernel⟩, by decide⟩, u7_219, u7_220⟩
theorem w_8_363 : CWv RX8 363 yX8_receiverMany cX8_receiverMany 3 (some .int) 0 := ⟨⟨u7_222, u1_9, u7_225, ⟨by decide +kernel, by decide +kernel, by decide +kernel⟩, by decide⟩, u7_224, us7_1⟩
theorem w_L_195 : CWv RL 195 yX8_trouble cX8_trouble 1 (some .int) 0 := ⟨⟨u7_226, u1_9, u7_229, ⟨by decide +kernel, by decide +kernel, by decide +kernel⟩, by decide⟩, u7_227, u7_228⟩
theorem ic_m1 : Int32.ofInt (-1) = (-1) := by decide +kernel
theorem ic_0 : Int32.ofInt (0) = 0 := by decide +kernel
theorem ic_1 : Int32.ofInt (1) = 1 := by decide +kernel
theorem ic_2 : Int32.ofInt (2) = 2 := by decide +kernel
theorem ic_3 : Int32.ofInt (3) = 3 := by decide +kernel
theorem ic_4 : Int32.ofInt (4) = 4 := by decide +kernel
theorem ic_5 : Int32.ofInt (5) = 5 := by decide +kernel
theorem bi_m2 : (Int8.ofInt (-2)).toInt32 = (-2) := by decide +kernel
theorem bi_6 : (Int8.ofInt (6)).toInt32 = 6 := by decide +kernel
theorem bi_7 : (Int8.ofInt (7)).toInt32 = 7 := by decide +kernel
theorem bi_8 : (Int8.ofInt (8)).toInt32 = 8 := by decide +kernel
theorem bi_9 : (Int8.ofInt (9)).toInt32 = 9 := by decide +kernel
theorem bi_10 : (Int8.ofInt (10)).toInt32 = 10 := by decide +kernel
theorem bi_11 : (Int8.ofInt (11)).toInt32 = 11 := by decide +kernel
theorem bi_12 : (Int8.ofInt (12)).toInt32 = 12 := by decide +kernel
theorem bi_13 : (Int8.ofInt (13)).toInt32 = 13 := by decide +kernel
theorem bi_14 : (Int8.ofInt (14)).toInt32 = 14 := by decide +kernel
theorem bi_15 : (Int8.ofInt (15)).toInt32 = 15 := by decide +kernel
theorem bi_16 : (Int8.ofInt (16)).toInt32 = 16 := by decide +kernel
theorem bi_20 : (Int8.ofInt (20)).toInt32 = 20 := by decide +kernel
theorem bi_24 : (Int8.ofInt (24)).toInt32 = 24 := by decide +kernel
theorem bi_32 : (Int8.ofInt (32)).toInt32 = 32 := by decide +kernel
theorem bi_39 : (Int8.ofInt (39)).toInt32 = 39 := by decide +kernel
theorem bi_40 : (Int8.ofInt (40)).toInt32 = 40 := by decide +kernel
theorem bi_41 : (Int8.ofInt (41)).toInt32 = 41 := by decide +kernel
theorem bi_48 : (Int8.ofInt (48)).toInt32 = 48 := by decide +kernel
theorem bi_49 : (Int8.ofInt (49)).toInt32 = 49 := by decide +kernel
theorem bi_56 : (Int8.ofInt (56)).toInt32 = 56 := by decide +kernel
theorem bi_57 : (Int8.ofInt (57)).toInt32 = 57 := by decide +kernel
theorem bi_59 : (Int8.ofInt (59)).toInt32 = 59 := by decide +kernel
theorem bi_63 : (Int8.ofInt (63)).toInt32 = 63 := by decide +kernel
theorem bi_64 : (Int8.ofInt (64)).toInt32 = 64 := by decide +kernel
theorem bi_73 : (Int8.ofInt (73)).toInt32 = 73 := by decide +kernel
theorem bi_79 : (Int8.ofInt (79)).toInt32 = 79 := by decide +kernel
theorem bi_81 : (Int8.ofInt (81)).toInt32 = 81 := by decide +kernel
theorem bi_96 : (Int8.ofInt (96)).toInt32 = 96 := by decide +kernel
theorem bi_97 : (Int8.ofInt (97)).toInt32 = 97 := by decide +kernel
theorem bi_100 : (Int8.ofInt (100)).toInt32 = 100 := by decide +kernel
theorem bi_122 : (Int8.ofInt (122)).toInt32 = 122 := by decide +kernel
theorem si_128 : (Int16.ofInt (128)).toInt32 = 128 := by decide +kernel
theorem si_240 : (Int16.ofInt (240)).toInt32 = 240 := by decide +kernel
theorem si_255 : (Int16.ofInt (255)).toInt32 = 255 := by decide +kernel
theorem si_256 : (Int16.ofInt (256)).toInt32 = 256 := by decide +kernel
theorem si_384 : (Int16.ofInt (384)).toInt32 = 384 := by decide +kernel
theorem si_400 : (Int16.ofInt (400)).toInt32 = 400 := by decide +kernel
theorem si_600 : (Int16.ofInt (600)).toInt32 = 600 := by decide +kernel
theorem si_880 : (Int16.ofInt (880)).toInt32 = 880 := by decide +kernel
theorem si_900 : (Int16.ofInt (900)).toInt32 = 900 := by decide +kernel
theorem si_999 : (Int16.ofInt (999)).toInt32 = 999 := by decide +kernel
theorem si_1329 : (Int16.ofInt (1329)).toInt32 = 1329 := by decide +kernel
theorem si_1809 : (Int16.ofInt (1809)).toInt32 = 1809 := by decide +kernel
theorem si_2000 : (Int16.ofInt (2000)).toInt32 = 2000 := by decide +kernel
end
