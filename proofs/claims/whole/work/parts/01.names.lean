-- ===== PART A: goes FIRST, ahead of the names: the tables' words, and 'selects' of the private methods out of them =====
/-- a private method of a class that the tables say can be made, by its rows of tables_1 -/
def lw_okq (q : MethodName × Nat) : Prop := (q.1.cls ≠ "java/lang/invoke/MethodHandle" ∧ q.1.cls ≠ "java/lang/invoke/VarHandle") ∧ Cond.instantiable q.1.cls q.2 ∈ tables_1 ∧ Cond.privateMethod q.1 ∈ tables_1 ∧ Cond.instanceMethod q.1 ∈ tables_1
theorem lw_p0 : lw_okq (⟨"BasisWalk", "tableAt", "(I)LBasisWalk$Table;"⟩, 3) := ⟨⟨by decide +kernel, by decide +kernel⟩, List.mem_of_getElem? (i := 12) (by decide +kernel), List.mem_of_getElem? (i := 141) (by decide +kernel), List.mem_of_getElem? (i := 142) (by decide +kernel)⟩
theorem lw_p1 : lw_okq (⟨"BasisWalk", "studyOf", "(LBasisWalk$Table;)LBasisWalk$Study;"⟩, 3) := ⟨⟨by decide +kernel, by decide +kernel⟩, List.mem_of_getElem? (i := 12) (by decide +kernel), List.mem_of_getElem? (i := 185) (by decide +kernel), List.mem_of_getElem? (i := 186) (by decide +kernel)⟩
theorem lw_p2 : lw_okq (⟨"BasisWalk$Order", "oneLess", "(I)I"⟩, 4) := ⟨⟨by decide +kernel, by decide +kernel⟩, List.mem_of_getElem? (i := 87) (by decide +kernel), List.mem_of_getElem? (i := 202) (by decide +kernel), List.mem_of_getElem? (i := 203) (by decide +kernel)⟩
theorem lw_p3 : lw_okq (⟨"BasisWalk$Study", "takeRows", "(LBasisWalk$Table;LBasisWalk$Order;LBasisWalk$Minors;)I"⟩, 7) := ⟨⟨by decide +kernel, by decide +kernel⟩, List.mem_of_getElem? (i := 27) (by decide +kernel), List.mem_of_getElem? (i := 210) (by decide +kernel), List.mem_of_getElem? (i := 211) (by decide +kernel)⟩
theorem lw_p4 : lw_okq (⟨"BasisWalk$Minors", "expand", "(LBasisWalk$Table;II)V"⟩, 3) := ⟨⟨by decide +kernel, by decide +kernel⟩, List.mem_of_getElem? (i := 110) (by decide +kernel), List.mem_of_getElem? (i := 222) (by decide +kernel), List.mem_of_getElem? (i := 223) (by decide +kernel)⟩
theorem lw_p5 : lw_okq (⟨"BasisWalk$Study", "learnSigns", "(LBasisWalk$Order;LBasisWalk$Minors;)V"⟩, 7) := ⟨⟨by decide +kernel, by decide +kernel⟩, List.mem_of_getElem? (i := 27) (by decide +kernel), List.mem_of_getElem? (i := 234) (by decide +kernel), List.mem_of_getElem? (i := 235) (by decide +kernel)⟩
theorem lw_p6 : lw_okq (⟨"BasisWalk$Study", "markIndependent", "()V"⟩, 7) := ⟨⟨by decide +kernel, by decide +kernel⟩, List.mem_of_getElem? (i := 27) (by decide +kernel), List.mem_of_getElem? (i := 239) (by decide +kernel), List.mem_of_getElem? (i := 240) (by decide +kernel)⟩
theorem lw_p7 : lw_okq (⟨"BasisWalk$Study", "hasIndependentAbove", "(I)Z"⟩, 7) := ⟨⟨by decide +kernel, by decide +kernel⟩, List.mem_of_getElem? (i := 27) (by decide +kernel), List.mem_of_getElem? (i := 244) (by decide +kernel), List.mem_of_getElem? (i := 245) (by decide +kernel)⟩
theorem lw_p8 : lw_okq (⟨"BasisWalk$Study", "learnRanks", "()V"⟩, 7) := ⟨⟨by decide +kernel, by decide +kernel⟩, List.mem_of_getElem? (i := 27) (by decide +kernel), List.mem_of_getElem? (i := 248) (by decide +kernel), List.mem_of_getElem? (i := 249) (by decide +kernel)⟩
theorem lw_p9 : lw_okq (⟨"BasisWalk$Study", "greatestRankUnder", "(I)I"⟩, 7) := ⟨⟨by decide +kernel, by decide +kernel⟩, List.mem_of_getElem? (i := 27) (by decide +kernel), List.mem_of_getElem? (i := 252) (by decide +kernel), List.mem_of_getElem? (i := 253) (by decide +kernel)⟩
theorem lw_p10 : lw_okq (⟨"BasisWalk$Study", "learnDefects", "()V"⟩, 7) := ⟨⟨by decide +kernel, by decide +kernel⟩, List.mem_of_getElem? (i := 27) (by decide +kernel), List.mem_of_getElem? (i := 256) (by decide +kernel), List.mem_of_getElem? (i := 257) (by decide +kernel)⟩
theorem lw_p11 : lw_okq (⟨"BasisWalk$Study", "learnMembers", "(LBasisWalk$Order;)V"⟩, 7) := ⟨⟨by decide +kernel, by decide +kernel⟩, List.mem_of_getElem? (i := 27) (by decide +kernel), List.mem_of_getElem? (i := 261) (by decide +kernel), List.mem_of_getElem? (i := 262) (by decide +kernel)⟩
theorem lw_p12 : lw_okq (⟨"BasisWalk$Study", "isOfKind", "(II)Z"⟩, 7) := ⟨⟨by decide +kernel, by decide +kernel⟩, List.mem_of_getElem? (i := 27) (by decide +kernel), List.mem_of_getElem? (i := 265) (by decide +kernel), List.mem_of_getElem? (i := 266) (by decide +kernel)⟩
theorem lw_p13 : lw_okq (⟨"BasisWalk$Study", "isCircuit", "(I)Z"⟩, 7) := ⟨⟨by decide +kernel, by decide +kernel⟩, List.mem_of_getElem? (i := 27) (by decide +kernel), List.mem_of_getElem? (i := 269) (by decide +kernel), List.mem_of_getElem? (i := 270) (by decide +kernel)⟩
theorem lw_p14 : lw_okq (⟨"BasisWalk$Study", "isHyperplane", "(I)Z"⟩, 7) := ⟨⟨by decide +kernel, by decide +kernel⟩, List.mem_of_getElem? (i := 27) (by decide +kernel), List.mem_of_getElem? (i := 273) (by decide +kernel), List.mem_of_getElem? (i := 274) (by decide +kernel)⟩
theorem lw_p15 : lw_okq (⟨"BasisWalk$Study", "isFlat", "(I)Z"⟩, 7) := ⟨⟨by decide +kernel, by decide +kernel⟩, List.mem_of_getElem? (i := 27) (by decide +kernel), List.mem_of_getElem? (i := 277) (by decide +kernel), List.mem_of_getElem? (i := 278) (by decide +kernel)⟩
def lw_privs_1 : List (MethodName × Nat) := [(⟨"BasisWalk", "tableAt", "(I)LBasisWalk$Table;"⟩, 3), (⟨"BasisWalk", "studyOf", "(LBasisWalk$Table;)LBasisWalk$Study;"⟩, 3), (⟨"BasisWalk$Order", "oneLess", "(I)I"⟩, 4), (⟨"BasisWalk$Study", "takeRows", "(LBasisWalk$Table;LBasisWalk$Order;LBasisWalk$Minors;)I"⟩, 7), (⟨"BasisWalk$Minors", "expand", "(LBasisWalk$Table;II)V"⟩, 3), (⟨"BasisWalk$Study", "learnSigns", "(LBasisWalk$Order;LBasisWalk$Minors;)V"⟩, 7), (⟨"BasisWalk$Study", "markIndependent", "()V"⟩, 7), (⟨"BasisWalk$Study", "hasIndependentAbove", "(I)Z"⟩, 7), (⟨"BasisWalk$Study", "learnRanks", "()V"⟩, 7), (⟨"BasisWalk$Study", "greatestRankUnder", "(I)I"⟩, 7), (⟨"BasisWalk$Study", "learnDefects", "()V"⟩, 7), (⟨"BasisWalk$Study", "learnMembers", "(LBasisWalk$Order;)V"⟩, 7), (⟨"BasisWalk$Study", "isOfKind", "(II)Z"⟩, 7), (⟨"BasisWalk$Study", "isCircuit", "(I)Z"⟩, 7), (⟨"BasisWalk$Study", "isHyperplane", "(I)Z"⟩, 7), (⟨"BasisWalk$Study", "isFlat", "(I)Z"⟩, 7)]
theorem lw_r1 : ∀ q ∈ lw_privs_1, lw_okq q := List.forall_mem_cons.mpr ⟨lw_p0, List.forall_mem_cons.mpr ⟨lw_p1, List.forall_mem_cons.mpr ⟨lw_p2, List.forall_mem_cons.mpr ⟨lw_p3, List.forall_mem_cons.mpr ⟨lw_p4, List.forall_mem_cons.mpr ⟨lw_p5, List.forall_mem_cons.mpr ⟨lw_p6, List.forall_mem_cons.mpr ⟨lw_p7, List.forall_mem_cons.mpr ⟨lw_p8, List.forall_mem_cons.mpr ⟨lw_p9, List.forall_mem_cons.mpr ⟨lw_p10, List.forall_mem_cons.mpr ⟨lw_p11, List.forall_mem_cons.mpr ⟨lw_p12, List.forall_mem_cons.mpr ⟨lw_p13, List.forall_mem_cons.mpr ⟨lw_p14, List.forall_mem_cons.mpr ⟨lw_p15, fun _ h => absurd h List.not_mem_nil⟩⟩⟩⟩⟩⟩⟩⟩⟩⟩⟩⟩⟩⟩⟩⟩
theorem lw_p16 : lw_okq (⟨"BasisWalk$Study", "widened", "(I)I"⟩, 7) := ⟨⟨by decide +kernel, by decide +kernel⟩, List.mem_of_getElem? (i := 27) (by decide +kernel), List.mem_of_getElem? (i := 323) (by decide +kernel), List.mem_of_getElem? (i := 324) (by decide +kernel)⟩
theorem lw_p17 : lw_okq (⟨"BasisWalkModel", "list", "(IIII)I"⟩, 31) := ⟨⟨by decide +kernel, by decide +kernel⟩, List.mem_of_getElem? (i := 327) (by decide +kernel), List.mem_of_getElem? (i := 352) (by decide +kernel), List.mem_of_getElem? (i := 353) (by decide +kernel)⟩
theorem lw_p18 : lw_okq (⟨"BasisWalkModel", "learn", "(I)Z"⟩, 31) := ⟨⟨by decide +kernel, by decide +kernel⟩, List.mem_of_getElem? (i := 327) (by decide +kernel), List.mem_of_getElem? (i := 474) (by decide +kernel), List.mem_of_getElem? (i := 475) (by decide +kernel)⟩
theorem lw_p19 : lw_okq (⟨"BasisWalkModel", "empty", "(II)V"⟩, 31) := ⟨⟨by decide +kernel, by decide +kernel⟩, List.mem_of_getElem? (i := 327) (by decide +kernel), List.mem_of_getElem? (i := 478) (by decide +kernel), List.mem_of_getElem? (i := 479) (by decide +kernel)⟩
theorem lw_p20 : lw_okq (⟨"BasisWalkModel", "lay", "(IIJ)V"⟩, 31) := ⟨⟨by decide +kernel, by decide +kernel⟩, List.mem_of_getElem? (i := 327) (by decide +kernel), List.mem_of_getElem? (i := 482) (by decide +kernel), List.mem_of_getElem? (i := 483) (by decide +kernel)⟩
theorem lw_p21 : lw_okq (⟨"BasisWalkModel", "at", "(II)LBasisWalkModel$Num;"⟩, 31) := ⟨⟨by decide +kernel, by decide +kernel⟩, List.mem_of_getElem? (i := 327) (by decide +kernel), List.mem_of_getElem? (i := 486) (by decide +kernel), List.mem_of_getElem? (i := 487) (by decide +kernel)⟩
theorem lw_p22 : lw_okq (⟨"BasisWalkModel", "reduce", "()V"⟩, 31) := ⟨⟨by decide +kernel, by decide +kernel⟩, List.mem_of_getElem? (i := 327) (by decide +kernel), List.mem_of_getElem? (i := 499) (by decide +kernel), List.mem_of_getElem? (i := 500) (by decide +kernel)⟩
theorem lw_p23 : lw_okq (⟨"BasisWalkModel", "isZero", "(II)Z"⟩, 31) := ⟨⟨by decide +kernel, by decide +kernel⟩, List.mem_of_getElem? (i := 327) (by decide +kernel), List.mem_of_getElem? (i := 503) (by decide +kernel), List.mem_of_getElem? (i := 504) (by decide +kernel)⟩
theorem lw_p24 : lw_okq (⟨"BasisWalkModel", "swap", "(II)V"⟩, 31) := ⟨⟨by decide +kernel, by decide +kernel⟩, List.mem_of_getElem? (i := 327) (by decide +kernel), List.mem_of_getElem? (i := 507) (by decide +kernel), List.mem_of_getElem? (i := 508) (by decide +kernel)⟩
theorem lw_p25 : lw_okq (⟨"BasisWalkModel", "take", "(III)V"⟩, 31) := ⟨⟨by decide +kernel, by decide +kernel⟩, List.mem_of_getElem? (i := 327) (by decide +kernel), List.mem_of_getElem? (i := 515) (by decide +kernel), List.mem_of_getElem? (i := 516) (by decide +kernel)⟩
theorem lw_p26 : lw_okq (⟨"BasisWalkModel", "inverse", "(I)I"⟩, 31) := ⟨⟨by decide +kernel, by decide +kernel⟩, List.mem_of_getElem? (i := 327) (by decide +kernel), List.mem_of_getElem? (i := 519) (by decide +kernel), List.mem_of_getElem? (i := 520) (by decide +kernel)⟩
theorem lw_p27 : lw_okq (⟨"BasisWalkModel", "shorten", "(I)V"⟩, 31) := ⟨⟨by decide +kernel, by decide +kernel⟩, List.mem_of_getElem? (i := 327) (by decide +kernel), List.mem_of_getElem? (i := 540) (by decide +kernel), List.mem_of_getElem? (i := 541) (by decide +kernel)⟩
theorem lw_p28 : lw_okq (⟨"BasisWalkModel", "divisor", "(LBasisWalkModel$Num;LBasisWalkModel$Num;)V"⟩, 31) := ⟨⟨by decide +kernel, by decide +kernel⟩, List.mem_of_getElem? (i := 327) (by decide +kernel), List.mem_of_getElem? (i := 545) (by decide +kernel), List.mem_of_getElem? (i := 546) (by decide +kernel)⟩
theorem lw_p29 : lw_okq (⟨"BasisWalkModel", "settle", "(I)V"⟩, 31) := ⟨⟨by decide +kernel, by decide +kernel⟩, List.mem_of_getElem? (i := 327) (by decide +kernel), List.mem_of_getElem? (i := 565) (by decide +kernel), List.mem_of_getElem? (i := 566) (by decide +kernel)⟩
theorem lw_p30 : lw_okq (⟨"BasisWalkModel", "measure", "(I)V"⟩, 31) := ⟨⟨by decide +kernel, by decide +kernel⟩, List.mem_of_getElem? (i := 327) (by decide +kernel), List.mem_of_getElem? (i := 573) (by decide +kernel), List.mem_of_getElem? (i := 574) (by decide +kernel)⟩
theorem lw_p31 : lw_okq (⟨"BasisWalkModel", "minorOf", "(I)I"⟩, 31) := ⟨⟨by decide +kernel, by decide +kernel⟩, List.mem_of_getElem? (i := 327) (by decide +kernel), List.mem_of_getElem? (i := 577) (by decide +kernel), List.mem_of_getElem? (i := 578) (by decide +kernel)⟩
def lw_privs_2 : List (MethodName × Nat) := [(⟨"BasisWalk$Study", "widened", "(I)I"⟩, 7), (⟨"BasisWalkModel", "list", "(IIII)I"⟩, 31), (⟨"BasisWalkModel", "learn", "(I)Z"⟩, 31), (⟨"BasisWalkModel", "empty", "(II)V"⟩, 31), (⟨"BasisWalkModel", "lay", "(IIJ)V"⟩, 31), (⟨"BasisWalkModel", "at", "(II)LBasisWalkModel$Num;"⟩, 31), (⟨"BasisWalkModel", "reduce", "()V"⟩, 31), (⟨"BasisWalkModel", "isZero", "(II)Z"⟩, 31), (⟨"BasisWalkModel", "swap", "(II)V"⟩, 31), (⟨"BasisWalkModel", "take", "(III)V"⟩, 31), (⟨"BasisWalkModel", "inverse", "(I)I"⟩, 31), (⟨"BasisWalkModel", "shorten", "(I)V"⟩, 31), (⟨"BasisWalkModel", "divisor", "(LBasisWalkModel$Num;LBasisWalkModel$Num;)V"⟩, 31), (⟨"BasisWalkModel", "settle", "(I)V"⟩, 31), (⟨"BasisWalkModel", "measure", "(I)V"⟩, 31), (⟨"BasisWalkModel", "minorOf", "(I)I"⟩, 31)]
theorem lw_r2 : ∀ q ∈ lw_privs_2, lw_okq q := List.forall_mem_cons.mpr ⟨lw_p16, List.forall_mem_cons.mpr ⟨lw_p17, List.forall_mem_cons.mpr ⟨lw_p18, List.forall_mem_cons.mpr ⟨lw_p19, List.forall_mem_cons.mpr ⟨lw_p20, List.forall_mem_cons.mpr ⟨lw_p21, List.forall_mem_cons.mpr ⟨lw_p22, List.forall_mem_cons.mpr ⟨lw_p23, List.forall_mem_cons.mpr ⟨lw_p24, List.forall_mem_cons.mpr ⟨lw_p25, List.forall_mem_cons.mpr ⟨lw_p26, List.forall_mem_cons.mpr ⟨lw_p27, List.forall_mem_cons.mpr ⟨lw_p28, List.forall_mem_cons.mpr ⟨lw_p29, List.forall_mem_cons.mpr ⟨lw_p30, List.forall_mem_cons.mpr ⟨lw_p31, fun _ h => absurd h List.not_mem_nil⟩⟩⟩⟩⟩⟩⟩⟩⟩⟩⟩⟩⟩⟩⟩⟩
theorem lw_p32 : lw_okq (⟨"BasisWalkModel", "smallDeterminant", "(I)I"⟩, 31) := ⟨⟨by decide +kernel, by decide +kernel⟩, List.mem_of_getElem? (i := 327) (by decide +kernel), List.mem_of_getElem? (i := 587) (by decide +kernel), List.mem_of_getElem? (i := 588) (by decide +kernel)⟩
theorem lw_p33 : lw_okq (⟨"BasisWalkModel", "determinant", "(I)I"⟩, 31) := ⟨⟨by decide +kernel, by decide +kernel⟩, List.mem_of_getElem? (i := 327) (by decide +kernel), List.mem_of_getElem? (i := 591) (by decide +kernel), List.mem_of_getElem? (i := 592) (by decide +kernel)⟩
theorem lw_p34 : lw_okq (⟨"BasisWalkModel", "whole", "(I)I"⟩, 31) := ⟨⟨by decide +kernel, by decide +kernel⟩, List.mem_of_getElem? (i := 327) (by decide +kernel), List.mem_of_getElem? (i := 599) (by decide +kernel), List.mem_of_getElem? (i := 600) (by decide +kernel)⟩
theorem lw_p35 : lw_okq (⟨"BasisWalkModel", "\x72", "(II)I"⟩, 31) := ⟨⟨by decide +kernel, by decide +kernel⟩, List.mem_of_getElem? (i := 327) (by decide +kernel), List.mem_of_getElem? (i := 603) (by decide +kernel), List.mem_of_getElem? (i := 604) (by decide +kernel)⟩
theorem lw_p36 : lw_okq (⟨"BasisWalkModel", "howMany", "(II)I"⟩, 31) := ⟨⟨by decide +kernel, by decide +kernel⟩, List.mem_of_getElem? (i := 327) (by decide +kernel), List.mem_of_getElem? (i := 611) (by decide +kernel), List.mem_of_getElem? (i := 612) (by decide +kernel)⟩
theorem lw_p37 : lw_okq (⟨"BasisWalkModel", "isOf", "(III)Z"⟩, 31) := ⟨⟨by decide +kernel, by decide +kernel⟩, List.mem_of_getElem? (i := 327) (by decide +kernel), List.mem_of_getElem? (i := 615) (by decide +kernel), List.mem_of_getElem? (i := 616) (by decide +kernel)⟩
theorem lw_p38 : lw_okq (⟨"BasisWalkModel", "isFree", "(II)Z"⟩, 31) := ⟨⟨by decide +kernel, by decide +kernel⟩, List.mem_of_getElem? (i := 327) (by decide +kernel), List.mem_of_getElem? (i := 619) (by decide +kernel), List.mem_of_getElem? (i := 620) (by decide +kernel)⟩
theorem lw_p39 : lw_okq (⟨"BasisWalkModel", "isFlat", "(II)Z"⟩, 31) := ⟨⟨by decide +kernel, by decide +kernel⟩, List.mem_of_getElem? (i := 327) (by decide +kernel), List.mem_of_getElem? (i := 623) (by decide +kernel), List.mem_of_getElem? (i := 624) (by decide +kernel)⟩
theorem lw_p40 : lw_okq (⟨"BasisWalkModel", "isCircuit", "(IIZ)Z"⟩, 31) := ⟨⟨by decide +kernel, by decide +kernel⟩, List.mem_of_getElem? (i := 327) (by decide +kernel), List.mem_of_getElem? (i := 627) (by decide +kernel), List.mem_of_getElem? (i := 628) (by decide +kernel)⟩
theorem lw_p41 : lw_okq (⟨"BasisWalkModel", "dualRank", "(II)I"⟩, 31) := ⟨⟨by decide +kernel, by decide +kernel⟩, List.mem_of_getElem? (i := 327) (by decide +kernel), List.mem_of_getElem? (i := 631) (by decide +kernel), List.mem_of_getElem? (i := 632) (by decide +kernel)⟩
theorem lw_p42 : lw_okq (⟨"BasisWalkModel", "theOne", "(III)I"⟩, 31) := ⟨⟨by decide +kernel, by decide +kernel⟩, List.mem_of_getElem? (i := 327) (by decide +kernel), List.mem_of_getElem? (i := 639) (by decide +kernel), List.mem_of_getElem? (i := 640) (by decide +kernel)⟩
theorem lw_p43 : lw_okq (⟨"BasisWalkModel", "polynomial", "(I)V"⟩, 31) := ⟨⟨by decide +kernel, by decide +kernel⟩, List.mem_of_getElem? (i := 327) (by decide +kernel), List.mem_of_getElem? (i := 647) (by decide +kernel), List.mem_of_getElem? (i := 648) (by decide +kernel)⟩
theorem lw_p44 : lw_okq (⟨"BasisWalkModel", "belowOf", "(II)I"⟩, 31) := ⟨⟨by decide +kernel, by decide +kernel⟩, List.mem_of_getElem? (i := 327) (by decide +kernel), List.mem_of_getElem? (i := 659) (by decide +kernel), List.mem_of_getElem? (i := 660) (by decide +kernel)⟩
theorem lw_p45 : lw_okq (⟨"BasisWalkModel", "determinantOf", "(III)I"⟩, 31) := ⟨⟨by decide +kernel, by decide +kernel⟩, List.mem_of_getElem? (i := 327) (by decide +kernel), List.mem_of_getElem? (i := 663) (by decide +kernel), List.mem_of_getElem? (i := 664) (by decide +kernel)⟩
def lw_privs_3 : List (MethodName × Nat) := [(⟨"BasisWalkModel", "smallDeterminant", "(I)I"⟩, 31), (⟨"BasisWalkModel", "determinant", "(I)I"⟩, 31), (⟨"BasisWalkModel", "whole", "(I)I"⟩, 31), (⟨"BasisWalkModel", "\x72", "(II)I"⟩, 31), (⟨"BasisWalkModel", "howMany", "(II)I"⟩, 31), (⟨"BasisWalkModel", "isOf", "(III)Z"⟩, 31), (⟨"BasisWalkModel", "isFree", "(II)Z"⟩, 31), (⟨"BasisWalkModel", "isFlat", "(II)Z"⟩, 31), (⟨"BasisWalkModel", "isCircuit", "(IIZ)Z"⟩, 31), (⟨"BasisWalkModel", "dualRank", "(II)I"⟩, 31), (⟨"BasisWalkModel", "theOne", "(III)I"⟩, 31), (⟨"BasisWalkModel", "polynomial", "(I)V"⟩, 31), (⟨"BasisWalkModel", "belowOf", "(II)I"⟩, 31), (⟨"BasisWalkModel", "determinantOf", "(III)I"⟩, 31)]
theorem lw_r3 : ∀ q ∈ lw_privs_3, lw_okq q := List.forall_mem_cons.mpr ⟨lw_p32, List.forall_mem_cons.mpr ⟨lw_p33, List.forall_mem_cons.mpr ⟨lw_p34, List.forall_mem_cons.mpr ⟨lw_p35, List.forall_mem_cons.mpr ⟨lw_p36, List.forall_mem_cons.mpr ⟨lw_p37, List.forall_mem_cons.mpr ⟨lw_p38, List.forall_mem_cons.mpr ⟨lw_p39, List.forall_mem_cons.mpr ⟨lw_p40, List.forall_mem_cons.mpr ⟨lw_p41, List.forall_mem_cons.mpr ⟨lw_p42, List.forall_mem_cons.mpr ⟨lw_p43, List.forall_mem_cons.mpr ⟨lw_p44, List.forall_mem_cons.mpr ⟨lw_p45, fun _ h => absurd h List.not_mem_nil⟩⟩⟩⟩⟩⟩⟩⟩⟩⟩⟩⟩⟩⟩
def lw_privs : List (MethodName × Nat) := lw_privs_1 ++ (lw_privs_2 ++ (lw_privs_3))
def lw_tbl : List Cond := k2_sels lw_privs ++ tables_1
theorem lw_privs_ok : ∀ q ∈ lw_privs, lw_okq q := by
  show ∀ q ∈ lw_privs_1 ++ (lw_privs_2 ++ (lw_privs_3)), lw_okq q
  exact List.forall_mem_append.mpr ⟨lw_r1, List.forall_mem_append.mpr ⟨lw_r2, lw_r3⟩⟩

/-- the words of the tables that a callee may rely on -/
def tb_w : List Cond := lw_tbl.filter goodWord
theorem tb_good : ∀ w ∈ tb_w, goodWord w = true := fun _ h => (List.mem_filter.mp h).2
theorem tb_in {w : Cond} {i : Nat} (hi : tables_1[i]? = some w) (hg : goodWord w = true) : w ∈ tb_w := List.mem_filter.mpr ⟨List.mem_append_right _ (List.mem_of_getElem? hi), hg⟩
theorem tb_ip {w : Cond} {i : Nat} (hi : (k2_sels lw_privs)[i]? = some w) (hg : goodWord w = true) : w ∈ tb_w := List.mem_filter.mpr ⟨List.mem_append_left _ (List.mem_of_getElem? hi), hg⟩
/-- words that are kept by another road: links among nest mates, arrays over a class -/
def nw_ok : Cond → Bool
  | .fieldLinkNest _ _ _ _ _ _ => true
  | .methodLinkNest _ _ _ _ => true
  | .arrayOver (.object _) => true
  | _ => false
def tb_n : List Cond := lw_tbl.filter nw_ok
def NW (U : State) : Prop := ∀ w ∈ tb_n, va_Nw w U
theorem nw_in {w : Cond} {i : Nat} (hi : tables_1[i]? = some w) (hg : nw_ok w = true) : w ∈ tb_n := List.mem_filter.mpr ⟨List.mem_append_right _ (List.mem_of_getElem? hi), hg⟩
theorem NW.warm {s U : State} (h : NW s) (hW : s.WarmedH U.vm) : NW U := by
  intro w hw
  have h1 := h w hw
  have h2 := (List.mem_filter.mp hw).2
  unfold nw_ok at h2
  split at h2
  · exact va_Nw.warmF hW h1
  · exact va_Nw.warmM hW h1
  · exact va_AO.moved hW.alike h1
  · cases h2
theorem NW.same {s U : State} (h : NW s) (e : s.vm = U.vm) : NW U := by
  intro w hw
  have h1 := h w hw
  have h2 := (List.mem_filter.mp hw).2
  unfold nw_ok at h2
  split at h2
  · exact va_Nw.same rfl e h1
  · exact va_Nw.same rfl e h1
  · exact va_AO.moved (by rw [e]; exact Vm.Alike.refl _) h1
  · cases h2
theorem tb_G {c1 c2 : Cond} (h : c2 ∈ tb_w) : GoodIn (c1 :: tb_w) (c2 :: tb_w) := by
  intro w hw
  have hm : w ∈ tb_w := by
    rcases List.mem_cons.mp hw with e | e
    · rw [e]; exact h
    · exact e
  exact ⟨List.mem_cons_of_mem _ hm, good_of_word (tb_good w hm)⟩
theorem tb_A {c1 c2 : Cond} {ws : List Cond} (hs : ∀ w ∈ ws, w ∈ tb_w) (h : c2 ∈ tb_w) : GoodIn (c1 :: tb_w) (ws ++ (c2 :: tb_w)) := by
  intro w hw
  rcases List.mem_append.mp hw with e | e
  · exact ⟨List.mem_cons_of_mem _ (hs w e), good_of_word (tb_good w (hs w e))⟩
  · exact tb_G h w e
theorem tb_V {c1 c2 : Cond} {own C : String} {idx : Nat} {y : MethodName} (h1 : Cond.methodLink own idx y ∈ tb_w) (h2 : Cond.instanceMethod y ∈ tb_w) (h3 : Cond.selects C y y ∈ tb_w) (h4 : Cond.initialized C ∈ tb_w) (h : c2 ∈ tb_w) : GoodIn (c1 :: tb_w) (wsV own idx C y (c2 :: tb_w)) := by
  refine tb_A (fun w hw => ?_) h
  simp only [List.mem_cons, List.not_mem_nil, or_false] at hw
  rcases hw with e | e | e | e <;> rw [e] <;> assumption
theorem tb_S {c1 c2 : Cond} {own : String} {idx : Nat} {y : MethodName} (h1 : Cond.methodLink own idx y ∈ tb_w) (h2 : Cond.static y ∈ tb_w) (h3 : Cond.initialized y.cls ∈ tb_w) (h : c2 ∈ tb_w) : GoodIn (c1 :: tb_w) (va_wsS own idx y (c2 :: tb_w)) := by
  refine tb_A (fun w hw => ?_) h
  simp only [List.mem_cons, List.not_mem_nil, or_false] at hw
  rcases hw with e | e | e <;> rw [e] <;> assumption
/-- of two classes of arrays of one kind of numbers: they are one -/
theorem ty_one {D : va_G} {cl : List vw_C} {tys : List (ClassId × FieldType)} {U : State} {i j : Nat} {a b : ClassId} {ty : FieldType} (hK : va_K D cl tys U) (hn : ty = .int ∨ ty = .long ∨ ty = .byte ∨ ty = .boolean) (hi : tys[i]? = some (a, ty)) (hj : tys[j]? = some (b, ty)) : a = b := by
  have h1 := (hK.2 i _ hi).2
  have h2 := (hK.2 j _ hj).2
  rcases hn with rfl | rfl | rfl | rfl <;> exact Option.some.inj (h1.symm.trans h2)
def T_Mi : u_T := fun k => match k with
  | 0 => ("BasisWalk$Minors", "low", "[J", true)
  | 1 => ("BasisWalk$Minors", "middle", "[J", true)
  | _ => ("BasisWalk$Minors", "high", "[J", true)
def ty_Mi : Nat → FieldType := fun k => match k with
  | 0 => .array .long
  | 1 => .array .long
  | _ => .array .long
theorem nm_Mi : ∀ a, a < 3 → ∀ b, b < 3 → a ≠ b → (T_Mi a).2.1 ≠ (T_Mi b).2.1 := by decide +kernel
theorem tyok_Mi : ∀ k, k < 3 → parseFieldDescriptor (T_Mi k).2.2.1 = some (ty_Mi k) := by decide +kernel
theorem in_Mi : ∀ w ∈ u_ws "BasisWalk$Minors" T_Mi 3, w ∈ tb_w := by decide +kernel
def T_Or : u_T := fun k => match k with
  | 0 => ("BasisWalk$Order", "columnCount", "I", false)
  | 1 => ("BasisWalk$Order", "sets", "[I", true)
  | 2 => ("BasisWalk$Order", "starts", "[I", true)
  | _ => ("BasisWalk$Order", "nexts", "[I", true)
def ty_Or : Nat → FieldType := fun k => match k with
  | 0 => .int
  | 1 => .array .int
  | 2 => .array .int
  | _ => .array .int
theorem nm_Or : ∀ a, a < 4 → ∀ b, b < 4 → a ≠ b → (T_Or a).2.1 ≠ (T_Or b).2.1 := by decide +kernel
theorem tyok_Or : ∀ k, k < 4 → parseFieldDescriptor (T_Or k).2.2.1 = some (ty_Or k) := by decide +kernel
theorem in_Or : ∀ w ∈ u_ws "BasisWalk$Order" T_Or 4, w ∈ tb_w := by decide +kernel
def T_St : u_T := fun k => match k with
  | 0 => ("BasisWalk$Study", "columnCount", "I", false)
  | 1 => ("BasisWalk$Study", "fullRank", "I", false)
  | 2 => ("BasisWalk$Study", "ranks", "[I", true)
  | 3 => ("BasisWalk$Study", "signs", "[I", true)
  | 4 => ("BasisWalk$Study", "members", "[I", true)
  | 5 => ("BasisWalk$Study", "starts", "[I", true)
  | _ => ("BasisWalk$Study", "defects", "[I", true)
def ty_St : Nat → FieldType := fun k => match k with
  | 0 => .int
  | 1 => .int
  | 2 => .array .int
  | 3 => .array .int
  | 4 => .array .int
  | 5 => .array .int
  | _ => .array .int
theorem nm_St : ∀ a, a < 7 → ∀ b, b < 7 → a ≠ b → (T_St a).2.1 ≠ (T_St b).2.1 := by decide +kernel
theorem tyok_St : ∀ k, k < 7 → parseFieldDescriptor (T_St k).2.2.1 = some (ty_St k) := by decide +kernel
theorem in_St : ∀ w ∈ u_ws "BasisWalk$Study" T_St 7, w ∈ tb_w := by decide +kernel
def T_Ta : u_T := fun k => match k with
  | 0 => ("BasisWalk$Table", "field", "I", false)
  | 1 => ("BasisWalk$Table", "rowCount", "I", false)
  | 2 => ("BasisWalk$Table", "columnCount", "I", false)
  | 3 => ("BasisWalk$Table", "numbers", "[I", true)
  | 4 => ("BasisWalk$Table", "studied", "Z", false)
  | _ => ("BasisWalk$Table", "study", "LBasisWalk$Study;", true)
def ty_Ta : Nat → FieldType := fun k => match k with
  | 0 => .int
  | 1 => .int
  | 2 => .int
  | 3 => .array .int
  | 4 => .boolean
  | _ => .object "BasisWalk$Study"
theorem nm_Ta : ∀ a, a < 6 → ∀ b, b < 6 → a ≠ b → (T_Ta a).2.1 ≠ (T_Ta b).2.1 := by decide +kernel
theorem tyok_Ta : ∀ k, k < 6 → parseFieldDescriptor (T_Ta k).2.2.1 = some (ty_Ta k) := by decide +kernel
theorem in_Ta : ∀ w ∈ u_ws "BasisWalk$Table" T_Ta 6, w ∈ tb_w := by decide +kernel
def T_Bw : u_T := fun k => match k with
  | 0 => ("BasisWalk", "tables", "[LBasisWalk$Table;", true)
  | 1 => ("BasisWalk", "order", "LBasisWalk$Order;", true)
  | _ => ("BasisWalk", "minors", "LBasisWalk$Minors;", true)
def ty_Bw : Nat → FieldType := fun k => match k with
  | 0 => .array (.object "BasisWalk$Table")
  | 1 => .object "BasisWalk$Order"
  | _ => .object "BasisWalk$Minors"
theorem nm_Bw : ∀ a, a < 3 → ∀ b, b < 3 → a ≠ b → (T_Bw a).2.1 ≠ (T_Bw b).2.1 := by decide +kernel
theorem tyok_Bw : ∀ k, k < 3 → parseFieldDescriptor (T_Bw k).2.2.1 = some (ty_Bw k) := by decide +kernel
theorem in_Bw : ∀ w ∈ u_ws "BasisWalk" T_Bw 3, w ∈ tb_w := by decide +kernel
def T_Nu : u_T := fun k => match k with
  | 0 => ("BasisWalkModel$Num", "d", "[I", true)
  | 1 => ("BasisWalkModel$Num", "n", "I", false)
  | _ => ("BasisWalkModel$Num", "minus", "Z", false)
def ty_Nu : Nat → FieldType := fun k => match k with
  | 0 => .array .int
  | 1 => .int
  | _ => .boolean
theorem nm_Nu : ∀ a, a < 3 → ∀ b, b < 3 → a ≠ b → (T_Nu a).2.1 ≠ (T_Nu b).2.1 := by decide +kernel
theorem tyok_Nu : ∀ k, k < 3 → parseFieldDescriptor (T_Nu k).2.2.1 = some (ty_Nu k) := by decide +kernel
theorem in_Nu : ∀ w ∈ u_ws "BasisWalkModel$Num" T_Nu 3, w ∈ tb_w := by decide +kernel
def T_Mo : u_T := fun k => match k with
  | 0 => ("BasisWalkModel", "one", "LBasisWalkModel$Num;", true)
  | 1 => ("BasisWalkModel", "two", "LBasisWalkModel$Num;", true)
  | 2 => ("BasisWalkModel", "three", "LBasisWalkModel$Num;", true)
  | 3 => ("BasisWalkModel", "four", "LBasisWalkModel$Num;", true)
  | 4 => ("BasisWalkModel", "five", "LBasisWalkModel$Num;", true)
  | 5 => ("BasisWalkModel", "six", "LBasisWalkModel$Num;", true)
  | 6 => ("BasisWalkModel", "seven", "LBasisWalkModel$Num;", true)
  | 7 => ("BasisWalkModel", "eight", "LBasisWalkModel$Num;", true)
  | 8 => ("BasisWalkModel", "work", "[LBasisWalkModel$Num;", true)
  | 9 => ("BasisWalkModel", "small", "[I", true)
  | 10 => ("BasisWalkModel", "rows", "I", false)
  | 11 => ("BasisWalkModel", "columns", "I", false)
  | 12 => ("BasisWalkModel", "prime", "I", false)
  | 13 => ("BasisWalkModel", "pivots", "[I", true)
  | 14 => ("BasisWalkModel", "freeRows", "[I", true)
  | 15 => ("BasisWalkModel", "freeColumns", "[I", true)
  | 16 => ("BasisWalkModel", "minor", "[LBasisWalkModel$Num;", true)
  | 17 => ("BasisWalkModel", "smallMinor", "[I", true)
  | 18 => ("BasisWalkModel", "fields", "[I", true)
  | 19 => ("BasisWalkModel", "rowCounts", "[I", true)
  | 20 => ("BasisWalkModel", "elements", "[I", true)
  | 21 => ("BasisWalkModel", "numbers", "[I", true)
  | 22 => ("BasisWalkModel", "known", "[Z", true)
  | 23 => ("BasisWalkModel", "ranks", "[I", true)
  | 24 => ("BasisWalkModel", "rankOf", "[B", true)
  | 25 => ("BasisWalkModel", "signOf", "[B", true)
  | 26 => ("BasisWalkModel", "order", "[I", true)
  | 27 => ("BasisWalkModel", "sizes", "[I", true)
  | 28 => ("BasisWalkModel", "coefficients", "[J", true)
  | 29 => ("BasisWalkModel", "choices", "[J", true)
  | _ => ("BasisWalkModel", "sorted", "[I", true)
def ty_Mo : Nat → FieldType := fun k => match k with
  | 0 => .object "BasisWalkModel$Num"
  | 1 => .object "BasisWalkModel$Num"
  | 2 => .object "BasisWalkModel$Num"
  | 3 => .object "BasisWalkModel$Num"
  | 4 => .object "BasisWalkModel$Num"
  | 5 => .object "BasisWalkModel$Num"
  | 6 => .object "BasisWalkModel$Num"
  | 7 => .object "BasisWalkModel$Num"
  | 8 => .array (.object "BasisWalkModel$Num")
  | 9 => .array .int
  | 10 => .int
  | 11 => .int
  | 12 => .int
  | 13 => .array .int
  | 14 => .array .int
  | 15 => .array .int
  | 16 => .array (.object "BasisWalkModel$Num")
  | 17 => .array .int
  | 18 => .array .int
  | 19 => .array .int
  | 20 => .array .int
  | 21 => .array .int
  | 22 => .array .boolean
  | 23 => .array .int
  | 24 => .array .byte
  | 25 => .array .byte
  | 26 => .array .int
  | 27 => .array .int
  | 28 => .array .long
  | 29 => .array .long
  | _ => .array .int
theorem nm_Mo : ∀ a, a < 31 → ∀ b, b < 31 → a ≠ b → (T_Mo a).2.1 ≠ (T_Mo b).2.1 := by decide +kernel
theorem tyok_Mo : ∀ k, k < 31 → parseFieldDescriptor (T_Mo k).2.2.1 = some (ty_Mo k) := by decide +kernel
theorem in_Mo : ∀ w ∈ u_ws "BasisWalkModel" T_Mo 31, w ∈ tb_w := by decide +kernel
abbrev cl_all : List vw_C := [("BasisWalk$Minors", T_Mi, 3), ("BasisWalk$Order", T_Or, 4), ("BasisWalk$Study", T_St, 7), ("BasisWalk$Table", T_Ta, 6), ("BasisWalk", T_Bw, 3), ("BasisWalkModel$Num", T_Nu, 3), ("BasisWalkModel", T_Mo, 31)]
def y_Bw_init : MethodName := ⟨"BasisWalk", "<init>", "()V"⟩
def w_Bw_init : List Cond := .code y_Bw_init prog_1_method_1_code 2 (Option.none : Option Jvm.ClassFile.FieldType) :: tb_w
def y_Ta_init : MethodName := ⟨"BasisWalk$Table", "<init>", "()V"⟩
def w_Ta_init : List Cond := .code y_Ta_init prog_5_method_1_code 1 (Option.none : Option Jvm.ClassFile.FieldType) :: tb_w
def y_St_init : MethodName := ⟨"BasisWalk$Study", "<init>", "()V"⟩
def w_St_init : List Cond := .code y_St_init prog_4_method_1_code 1 (Option.none : Option Jvm.ClassFile.FieldType) :: tb_w
def y_Or_init : MethodName := ⟨"BasisWalk$Order", "<init>", "()V"⟩
def w_Or_init : List Cond := .code y_Or_init prog_3_method_1_code 1 (Option.none : Option Jvm.ClassFile.FieldType) :: tb_w
def y_Mi_init : MethodName := ⟨"BasisWalk$Minors", "<init>", "()V"⟩
def w_Mi_init : List Cond := .code y_Mi_init prog_2_method_1_code 1 (Option.none : Option Jvm.ClassFile.FieldType) :: tb_w
def y_Bw_begin : MethodName := ⟨"BasisWalk", "begin", "(IIII)Z"⟩
def w_Bw_begin : List Cond := .code y_Bw_begin prog_1_method_2_code 6 (Option.some Jvm.ClassFile.FieldType.boolean) :: tb_w
def y_Bw_tableAt : MethodName := ⟨"BasisWalk", "tableAt", "(I)LBasisWalk$Table;"⟩
def w_Bw_tableAt : List Cond := .code y_Bw_tableAt prog_1_method_11_code 2 (Option.some (Jvm.ClassFile.FieldType.object "BasisWalk$Table")) :: tb_w
def y_Bw_isField : MethodName := ⟨"BasisWalk", "isField", "(I)Z"⟩
def w_Bw_isField : List Cond := .code y_Bw_isField prog_1_method_15_code 2 (Option.some Jvm.ClassFile.FieldType.boolean) :: tb_w
def y_Bw_isLineCount : MethodName := ⟨"BasisWalk", "isLineCount", "(I)Z"⟩
def w_Bw_isLineCount : List Cond := .code y_Bw_isLineCount prog_1_method_13_code 1 (Option.some Jvm.ClassFile.FieldType.boolean) :: tb_w
def y_Ta_clear : MethodName := ⟨"BasisWalk$Table", "clear", "(III)V"⟩
def w_Ta_clear : List Cond := .code y_Ta_clear prog_5_method_2_code 4 (Option.none : Option Jvm.ClassFile.FieldType) :: tb_w
def y_Ar_fill : MethodName := ⟨"java/util/Arrays", "fill", "([II)V"⟩
def w_Ar_fill : List Cond := .code y_Ar_fill prog_11_method_103_code 4 (Option.none : Option Jvm.ClassFile.FieldType) :: tb_w
def y_Bw_put : MethodName := ⟨"BasisWalk", "put", "(IIII)Z"⟩
def w_Bw_put : List Cond := .code y_Bw_put prog_1_method_3_code 6 (Option.some Jvm.ClassFile.FieldType.boolean) :: tb_w
def y_Ta_hasPlace : MethodName := ⟨"BasisWalk$Table", "hasPlace", "(II)Z"⟩
def w_Ta_hasPlace : List Cond := .code y_Ta_hasPlace prog_5_method_3_code 3 (Option.some Jvm.ClassFile.FieldType.boolean) :: tb_w
def y_Ta_write : MethodName := ⟨"BasisWalk$Table", "write", "(III)V"⟩
def w_Ta_write : List Cond := .code y_Ta_write prog_5_method_5_code 4 (Option.none : Option Jvm.ClassFile.FieldType) :: tb_w
def y_Ma_floorMod_0 : MethodName := ⟨"java/lang/Math", "floorMod", "(II)I"⟩
def w_Ma_floorMod_0 : List Cond := .code y_Ma_floorMod_0 prog_10_method_50_code 3 (Option.some Jvm.ClassFile.FieldType.int) :: tb_w
def y_Bw_columns : MethodName := ⟨"BasisWalk", "columns", "(I)I"⟩
def w_Bw_columns : List Cond := .code y_Bw_columns prog_1_method_4_code 3 (Option.some Jvm.ClassFile.FieldType.int) :: tb_w
def y_Bw_rank : MethodName := ⟨"BasisWalk", "rank", "(II)I"⟩
def w_Bw_rank : List Cond := .code y_Bw_rank prog_1_method_5_code 4 (Option.some Jvm.ClassFile.FieldType.int) :: tb_w
def y_Ta_hasSet : MethodName := ⟨"BasisWalk$Table", "hasSet", "(I)Z"⟩
def w_Ta_hasSet : List Cond := .code y_Ta_hasSet prog_5_method_4_code 2 (Option.some Jvm.ClassFile.FieldType.boolean) :: tb_w
def y_Bw_studyOf : MethodName := ⟨"BasisWalk", "studyOf", "(LBasisWalk$Table;)LBasisWalk$Study;"⟩
def w_Bw_studyOf : List Cond := .code y_Bw_studyOf prog_1_method_12_code 2 (Option.some (Jvm.ClassFile.FieldType.object "BasisWalk$Study")) :: tb_w
def y_Or_fit : MethodName := ⟨"BasisWalk$Order", "fit", "(I)V"⟩
def w_Or_fit : List Cond := .code y_Or_fit prog_3_method_2_code 6 (Option.none : Option Jvm.ClassFile.FieldType) :: tb_w
def y_Bw_choose : MethodName := ⟨"BasisWalk", "choose", "(II)I"⟩
def w_Bw_choose : List Cond := .code y_Bw_choose prog_1_method_16_code 4 (Option.some Jvm.ClassFile.FieldType.int) :: tb_w
def y_In_bitCount : MethodName := ⟨"java/lang/Integer", "bitCount", "(I)I"⟩
def w_In_bitCount : List Cond := .code y_In_bitCount prog_9_method_49_code 1 (Option.some Jvm.ClassFile.FieldType.int) :: tb_w
def y_Or_oneLess : MethodName := ⟨"BasisWalk$Order", "oneLess", "(I)I"⟩
def w_Or_oneLess : List Cond := .code y_Or_oneLess prog_3_method_3_code 4 (Option.some Jvm.ClassFile.FieldType.int) :: tb_w
def y_St_learn : MethodName := ⟨"BasisWalk$Study", "learn", "(LBasisWalk$Table;LBasisWalk$Order;LBasisWalk$Minors;)V"⟩
def w_St_learn : List Cond := .code y_St_learn prog_4_method_2_code 4 (Option.none : Option Jvm.ClassFile.FieldType) :: tb_w
def y_St_takeRows : MethodName := ⟨"BasisWalk$Study", "takeRows", "(LBasisWalk$Table;LBasisWalk$Order;LBasisWalk$Minors;)I"⟩
def w_St_takeRows : List Cond := .code y_St_takeRows prog_4_method_8_code 6 (Option.some Jvm.ClassFile.FieldType.int) :: tb_w
def y_Mi_restart : MethodName := ⟨"BasisWalk$Minors", "restart", "()V"⟩
def w_Mi_restart : List Cond := .code y_Mi_restart prog_2_method_2_code 1 (Option.none : Option Jvm.ClassFile.FieldType) :: tb_w
def y_Mi_takeRow : MethodName := ⟨"BasisWalk$Minors", "takeRow", "(LBasisWalk$Table;ILBasisWalk$Order;I)Z"⟩
def w_Mi_takeRow : List Cond := .code y_Mi_takeRow prog_2_method_3_code 8 (Option.some Jvm.ClassFile.FieldType.boolean) :: tb_w
def y_Mi_expand : MethodName := ⟨"BasisWalk$Minors", "expand", "(LBasisWalk$Table;II)V"⟩
def w_Mi_expand : List Cond := .code y_Mi_expand prog_2_method_5_code 15 (Option.none : Option Jvm.ClassFile.FieldType) :: tb_w
def y_Ma_floorMod_1 : MethodName := ⟨"java/lang/Math", "floorMod", "(JJ)J"⟩
def w_Ma_floorMod_1 : List Cond := .code y_Ma_floorMod_1 prog_10_method_52_code 6 (Option.some Jvm.ClassFile.FieldType.long) :: tb_w
def y_Mi_signOf : MethodName := ⟨"BasisWalk$Minors", "signOf", "(I)I"⟩
def w_Mi_signOf : List Cond := .code y_Mi_signOf prog_2_method_4_code 2 (Option.some Jvm.ClassFile.FieldType.int) :: tb_w
def y_St_learnSigns : MethodName := ⟨"BasisWalk$Study", "learnSigns", "(LBasisWalk$Order;LBasisWalk$Minors;)V"⟩
def w_St_learnSigns : List Cond := .code y_St_learnSigns prog_4_method_9_code 7 (Option.none : Option Jvm.ClassFile.FieldType) :: tb_w
def y_St_markIndependent : MethodName := ⟨"BasisWalk$Study", "markIndependent", "()V"⟩
def w_St_markIndependent : List Cond := .code y_St_markIndependent prog_4_method_10_code 4 (Option.none : Option Jvm.ClassFile.FieldType) :: tb_w
def y_St_hasIndependentAbove : MethodName := ⟨"BasisWalk$Study", "hasIndependentAbove", "(I)Z"⟩
def w_St_hasIndependentAbove : List Cond := .code y_St_hasIndependentAbove prog_4_method_11_code 4 (Option.some Jvm.ClassFile.FieldType.boolean) :: tb_w
def y_St_learnRanks : MethodName := ⟨"BasisWalk$Study", "learnRanks", "()V"⟩
def w_St_learnRanks : List Cond := .code y_St_learnRanks prog_4_method_12_code 2 (Option.none : Option Jvm.ClassFile.FieldType) :: tb_w
def y_St_greatestRankUnder : MethodName := ⟨"BasisWalk$Study", "greatestRankUnder", "(I)I"⟩
def w_St_greatestRankUnder : List Cond := .code y_St_greatestRankUnder prog_4_method_13_code 5 (Option.some Jvm.ClassFile.FieldType.int) :: tb_w
def y_St_learnDefects : MethodName := ⟨"BasisWalk$Study", "learnDefects", "()V"⟩
def w_St_learnDefects : List Cond := .code y_St_learnDefects prog_4_method_14_code 4 (Option.none : Option Jvm.ClassFile.FieldType) :: tb_w
def y_St_learnMembers : MethodName := ⟨"BasisWalk$Study", "learnMembers", "(LBasisWalk$Order;)V"⟩
def w_St_learnMembers : List Cond := .code y_St_learnMembers prog_4_method_15_code 6 (Option.none : Option Jvm.ClassFile.FieldType) :: tb_w
def y_St_isOfKind : MethodName := ⟨"BasisWalk$Study", "isOfKind", "(II)Z"⟩
def w_St_isOfKind : List Cond := .code y_St_isOfKind prog_4_method_16_code 3 (Option.some Jvm.ClassFile.FieldType.boolean) :: tb_w
def y_St_isCircuit : MethodName := ⟨"BasisWalk$Study", "isCircuit", "(I)Z"⟩
def w_St_isCircuit : List Cond := .code y_St_isCircuit prog_4_method_17_code 5 (Option.some Jvm.ClassFile.FieldType.boolean) :: tb_w
def y_St_isHyperplane : MethodName := ⟨"BasisWalk$Study", "isHyperplane", "(I)Z"⟩
def w_St_isHyperplane : List Cond := .code y_St_isHyperplane prog_4_method_18_code 2 (Option.some Jvm.ClassFile.FieldType.boolean) :: tb_w
def y_St_isFlat : MethodName := ⟨"BasisWalk$Study", "isFlat", "(I)Z"⟩
def w_St_isFlat : List Cond := .code y_St_isFlat prog_4_method_19_code 4 (Option.some Jvm.ClassFile.FieldType.boolean) :: tb_w
def y_Bw_count : MethodName := ⟨"BasisWalk", "count", "(II)I"⟩
def w_Bw_count : List Cond := .code y_Bw_count prog_1_method_6_code 4 (Option.some Jvm.ClassFile.FieldType.int) :: tb_w
def y_Bw_isKind : MethodName := ⟨"BasisWalk", "isKind", "(I)Z"⟩
def w_Bw_isKind : List Cond := .code y_Bw_isKind prog_1_method_14_code 1 (Option.some Jvm.ClassFile.FieldType.boolean) :: tb_w
def y_St_howMany : MethodName := ⟨"BasisWalk$Study", "howMany", "(I)I"⟩
def w_St_howMany : List Cond := .code y_St_howMany prog_4_method_3_code 2 (Option.some Jvm.ClassFile.FieldType.int) :: tb_w
def y_Bw_member : MethodName := ⟨"BasisWalk", "member", "(III)I"⟩
def w_Bw_member : List Cond := .code y_Bw_member prog_1_method_7_code 5 (Option.some Jvm.ClassFile.FieldType.int) :: tb_w
def y_St_memberAt : MethodName := ⟨"BasisWalk$Study", "memberAt", "(II)I"⟩
def w_St_memberAt : List Cond := .code y_St_memberAt prog_4_method_4_code 3 (Option.some Jvm.ClassFile.FieldType.int) :: tb_w
def y_Bw_tutte : MethodName := ⟨"BasisWalk", "tutte", "(III)J"⟩
def w_Bw_tutte : List Cond := .code y_Bw_tutte prog_1_method_8_code 5 (Option.some Jvm.ClassFile.FieldType.long) :: tb_w
def y_St_coefficient : MethodName := ⟨"BasisWalk$Study", "coefficient", "(II)J"⟩
def w_St_coefficient : List Cond := .code y_St_coefficient prog_4_method_5_code 9 (Option.some Jvm.ClassFile.FieldType.long) :: tb_w
def y_Bw_sign : MethodName := ⟨"BasisWalk", "sign", "(II)I"⟩
def w_Bw_sign : List Cond := .code y_Bw_sign prog_1_method_9_code 5 (Option.some Jvm.ClassFile.FieldType.int) :: tb_w
def y_Bw_below : MethodName := ⟨"BasisWalk", "below", "(II)I"⟩
def w_Bw_below : List Cond := .code y_Bw_below prog_1_method_10_code 6 (Option.some Jvm.ClassFile.FieldType.int) :: tb_w
def y_St_negativePart : MethodName := ⟨"BasisWalk$Study", "negativePart", "(I)I"⟩
def w_St_negativePart : List Cond := .code y_St_negativePart prog_4_method_6_code 9 (Option.some Jvm.ClassFile.FieldType.int) :: tb_w
def y_St_widened : MethodName := ⟨"BasisWalk$Study", "widened", "(I)I"⟩
def w_St_widened : List Cond := .code y_St_widened prog_4_method_7_code 4 (Option.some Jvm.ClassFile.FieldType.int) :: tb_w
def y_Mo_init : MethodName := ⟨"BasisWalkModel", "<init>", "()V"⟩
def w_Mo_init : List Cond := .code y_Mo_init prog_7_method_17_code 3 (Option.none : Option Jvm.ClassFile.FieldType) :: tb_w
def y_Nu_init : MethodName := ⟨"BasisWalkModel$Num", "<init>", "()V"⟩
def w_Nu_init : List Cond := .code y_Nu_init prog_8_method_1_code 1 (Option.none : Option Jvm.ClassFile.FieldType) :: tb_w
def y_Mo_list : MethodName := ⟨"BasisWalkModel", "list", "(IIII)I"⟩
def w_Mo_list : List Cond := .code y_Mo_list prog_7_method_19_code 7 (Option.some Jvm.ClassFile.FieldType.int) :: tb_w
def y_Mo_begin : MethodName := ⟨"BasisWalkModel", "begin", "(IIII)Z"⟩
def w_Mo_begin : List Cond := .code y_Mo_begin prog_7_method_22_code 6 (Option.some Jvm.ClassFile.FieldType.boolean) :: tb_w
def y_Mo_isTable : MethodName := ⟨"BasisWalkModel", "isTable", "(I)Z"⟩
def w_Mo_isTable : List Cond := .code y_Mo_isTable prog_7_method_20_code 1 (Option.some Jvm.ClassFile.FieldType.boolean) :: tb_w
def y_Mo_isField : MethodName := ⟨"BasisWalkModel", "isField", "(I)Z"⟩
def w_Mo_isField : List Cond := .code y_Mo_isField prog_7_method_21_code 3 (Option.some Jvm.ClassFile.FieldType.boolean) :: tb_w
def y_Mo_put : MethodName := ⟨"BasisWalkModel", "put", "(IIII)Z"⟩
def w_Mo_put : List Cond := .code y_Mo_put prog_7_method_23_code 5 (Option.some Jvm.ClassFile.FieldType.boolean) :: tb_w
def y_Mo_columns : MethodName := ⟨"BasisWalkModel", "columns", "(I)I"⟩
def w_Mo_columns : List Cond := .code y_Mo_columns prog_7_method_39_code 2 (Option.some Jvm.ClassFile.FieldType.int) :: tb_w
def y_Mo_rank : MethodName := ⟨"BasisWalkModel", "rank", "(II)I"⟩
def w_Mo_rank : List Cond := .code y_Mo_rank prog_7_method_40_code 3 (Option.some Jvm.ClassFile.FieldType.int) :: tb_w
def y_Mo_learn : MethodName := ⟨"BasisWalkModel", "learn", "(I)Z"⟩
def w_Mo_learn : List Cond := .code y_Mo_learn prog_7_method_24_code 4 (Option.some Jvm.ClassFile.FieldType.boolean) :: tb_w
def y_Mo_empty : MethodName := ⟨"BasisWalkModel", "empty", "(II)V"⟩
def w_Mo_empty : List Cond := .code y_Mo_empty prog_7_method_3_code 3 (Option.none : Option Jvm.ClassFile.FieldType) :: tb_w
def y_Mo_lay : MethodName := ⟨"BasisWalkModel", "lay", "(IIJ)V"⟩
def w_Mo_lay : List Cond := .code y_Mo_lay prog_7_method_4_code 5 (Option.none : Option Jvm.ClassFile.FieldType) :: tb_w
def y_Mo_at : MethodName := ⟨"BasisWalkModel", "at", "(II)LBasisWalkModel$Num;"⟩
def w_Mo_at : List Cond := .code y_Mo_at prog_7_method_2_code 3 (Option.some (Jvm.ClassFile.FieldType.object "BasisWalkModel$Num")) :: tb_w
def y_Nu_small : MethodName := ⟨"BasisWalkModel$Num", "small", "(J)V"⟩
def w_Nu_small : List Cond := .code y_Nu_small prog_8_method_4_code 5 (Option.none : Option Jvm.ClassFile.FieldType) :: tb_w
def y_Nu_zero : MethodName := ⟨"BasisWalkModel$Num", "zero", "()V"⟩
def w_Nu_zero : List Cond := .code y_Nu_zero prog_8_method_2_code 1 (Option.none : Option Jvm.ClassFile.FieldType) :: tb_w
def y_Mo_reduce : MethodName := ⟨"BasisWalkModel", "reduce", "()V"⟩
def w_Mo_reduce : List Cond := .code y_Mo_reduce prog_7_method_10_code 5 (Option.none : Option Jvm.ClassFile.FieldType) :: tb_w
def y_Mo_isZero : MethodName := ⟨"BasisWalkModel", "isZero", "(II)Z"⟩
def w_Mo_isZero : List Cond := .code y_Mo_isZero prog_7_method_5_code 3 (Option.some Jvm.ClassFile.FieldType.boolean) :: tb_w
def y_Mo_swap : MethodName := ⟨"BasisWalkModel", "swap", "(II)V"⟩
def w_Mo_swap : List Cond := .code y_Mo_swap prog_7_method_6_code 5 (Option.none : Option Jvm.ClassFile.FieldType) :: tb_w
def y_Nu_copy : MethodName := ⟨"BasisWalkModel$Num", "copy", "(LBasisWalkModel$Num;)V"⟩
def w_Nu_copy : List Cond := .code y_Nu_copy prog_8_method_3_code 3 (Option.none : Option Jvm.ClassFile.FieldType) :: tb_w
def y_Mo_take : MethodName := ⟨"BasisWalkModel", "take", "(III)V"⟩
def w_Mo_take : List Cond := .code y_Mo_take prog_7_method_8_code 7 (Option.none : Option Jvm.ClassFile.FieldType) :: tb_w
def y_Mo_inverse : MethodName := ⟨"BasisWalkModel", "inverse", "(I)I"⟩
def w_Mo_inverse : List Cond := .code y_Mo_inverse prog_7_method_7_code 3 (Option.some Jvm.ClassFile.FieldType.int) :: tb_w
def y_Nu_product : MethodName := ⟨"BasisWalkModel$Num", "product", "(LBasisWalkModel$Num;LBasisWalkModel$Num;)V"⟩
def w_Nu_product : List Cond := .code y_Nu_product prog_8_method_11_code 7 (Option.none : Option Jvm.ClassFile.FieldType) :: tb_w
def y_Nu_trim : MethodName := ⟨"BasisWalkModel$Num", "trim", "()V"⟩
def w_Nu_trim : List Cond := .code y_Nu_trim prog_8_method_8_code 1 (Option.none : Option Jvm.ClassFile.FieldType) :: tb_w
def y_Nu_less : MethodName := ⟨"BasisWalkModel$Num", "less", "(LBasisWalkModel$Num;LBasisWalkModel$Num;)V"⟩
def w_Nu_less : List Cond := .code y_Nu_less prog_8_method_10_code 10 (Option.none : Option Jvm.ClassFile.FieldType) :: tb_w
def y_Nu_compareSize : MethodName := ⟨"BasisWalkModel$Num", "compareSize", "(LBasisWalkModel$Num;)I"⟩
def w_Nu_compareSize : List Cond := .code y_Nu_compareSize prog_8_method_9_code 3 (Option.some Jvm.ClassFile.FieldType.int) :: tb_w
def y_Mo_shorten : MethodName := ⟨"BasisWalkModel", "shorten", "(I)V"⟩
def w_Mo_shorten : List Cond := .code y_Mo_shorten prog_7_method_9_code 3 (Option.none : Option Jvm.ClassFile.FieldType) :: tb_w
def y_Mo_divisor : MethodName := ⟨"BasisWalkModel", "divisor", "(LBasisWalkModel$Num;LBasisWalkModel$Num;)V"⟩
def w_Mo_divisor : List Cond := .code y_Mo_divisor prog_7_method_1_code 3 (Option.none : Option Jvm.ClassFile.FieldType) :: tb_w
def y_Nu_quotient : MethodName := ⟨"BasisWalkModel$Num", "quotient", "(LBasisWalkModel$Num;LBasisWalkModel$Num;LBasisWalkModel$Num;)V"⟩
def w_Nu_quotient : List Cond := .code y_Nu_quotient prog_8_method_12_code 6 (Option.none : Option Jvm.ClassFile.FieldType) :: tb_w
def y_Nu_often : MethodName := ⟨"BasisWalkModel$Num", "often", "(LBasisWalkModel$Num;LBasisWalkModel$Num;)I"⟩
def w_Nu_often : List Cond := .code y_Nu_often prog_8_method_13_code 9 (Option.some Jvm.ClassFile.FieldType.int) :: tb_w
def y_Nu_isAtMost : MethodName := ⟨"BasisWalkModel$Num", "isAtMost", "(LBasisWalkModel$Num;ILBasisWalkModel$Num;)Z"⟩
def w_Nu_isAtMost : List Cond := .code y_Nu_isAtMost prog_8_method_14_code 8 (Option.some Jvm.ClassFile.FieldType.boolean) :: tb_w
def y_Nu_isOne : MethodName := ⟨"BasisWalkModel$Num", "isOne", "()Z"⟩
def w_Nu_isOne : List Cond := .code y_Nu_isOne prog_8_method_5_code 1 (Option.some Jvm.ClassFile.FieldType.boolean) :: tb_w
def y_Mo_settle : MethodName := ⟨"BasisWalkModel", "settle", "(I)V"⟩
def w_Mo_settle : List Cond := .code y_Mo_settle prog_7_method_11_code 4 (Option.none : Option Jvm.ClassFile.FieldType) :: tb_w
def y_Nu_turn : MethodName := ⟨"BasisWalkModel$Num", "turn", "()V"⟩
def w_Nu_turn : List Cond := .code y_Nu_turn prog_8_method_7_code 1 (Option.none : Option Jvm.ClassFile.FieldType) :: tb_w
def y_Mo_measure : MethodName := ⟨"BasisWalkModel", "measure", "(I)V"⟩
def w_Mo_measure : List Cond := .code y_Mo_measure prog_7_method_25_code 8 (Option.none : Option Jvm.ClassFile.FieldType) :: tb_w
def y_Mo_minorOf : MethodName := ⟨"BasisWalkModel", "minorOf", "(I)I"⟩
def w_Mo_minorOf : List Cond := .code y_Mo_minorOf prog_7_method_12_code 7 (Option.some Jvm.ClassFile.FieldType.int) :: tb_w
def y_Mo_placeOf : MethodName := ⟨"BasisWalkModel", "placeOf", "([III)I"⟩
def w_Mo_placeOf : List Cond := .code y_Mo_placeOf prog_7_method_13_code 4 (Option.some Jvm.ClassFile.FieldType.int) :: tb_w
def y_Mo_remove : MethodName := ⟨"BasisWalkModel", "remove", "([III)V"⟩
def w_Mo_remove : List Cond := .code y_Mo_remove prog_7_method_14_code 4 (Option.none : Option Jvm.ClassFile.FieldType) :: tb_w
def y_Mo_smallDeterminant : MethodName := ⟨"BasisWalkModel", "smallDeterminant", "(I)I"⟩
def w_Mo_smallDeterminant : List Cond := .code y_Mo_smallDeterminant prog_7_method_15_code 8 (Option.some Jvm.ClassFile.FieldType.int) :: tb_w
def y_Mo_determinant : MethodName := ⟨"BasisWalkModel", "determinant", "(I)I"⟩
def w_Mo_determinant : List Cond := .code y_Mo_determinant prog_7_method_16_code 7 (Option.some Jvm.ClassFile.FieldType.int) :: tb_w
def y_Nu_sign : MethodName := ⟨"BasisWalkModel$Num", "sign", "()I"⟩
def w_Nu_sign : List Cond := .code y_Nu_sign prog_8_method_6_code 1 (Option.some Jvm.ClassFile.FieldType.int) :: tb_w
def y_Mo_whole : MethodName := ⟨"BasisWalkModel", "whole", "(I)I"⟩
def w_Mo_whole : List Cond := .code y_Mo_whole prog_7_method_27_code 2 (Option.some Jvm.ClassFile.FieldType.int) :: tb_w
def y_Mo_r : MethodName := ⟨"BasisWalkModel", "\x72", "(II)I"⟩
def w_Mo_r : List Cond := .code y_Mo_r prog_7_method_26_code 3 (Option.some Jvm.ClassFile.FieldType.int) :: tb_w
def y_Mo_count : MethodName := ⟨"BasisWalkModel", "count", "(II)I"⟩
def w_Mo_count : List Cond := .code y_Mo_count prog_7_method_41_code 3 (Option.some Jvm.ClassFile.FieldType.int) :: tb_w
def y_Mo_howMany : MethodName := ⟨"BasisWalkModel", "howMany", "(II)I"⟩
def w_Mo_howMany : List Cond := .code y_Mo_howMany prog_7_method_33_code 5 (Option.some Jvm.ClassFile.FieldType.int) :: tb_w
def y_Mo_isOf : MethodName := ⟨"BasisWalkModel", "isOf", "(III)Z"⟩
def w_Mo_isOf : List Cond := .code y_Mo_isOf prog_7_method_32_code 4 (Option.some Jvm.ClassFile.FieldType.boolean) :: tb_w
def y_Mo_isFree : MethodName := ⟨"BasisWalkModel", "isFree", "(II)Z"⟩
def w_Mo_isFree : List Cond := .code y_Mo_isFree prog_7_method_28_code 3 (Option.some Jvm.ClassFile.FieldType.boolean) :: tb_w
def y_Mo_isFlat : MethodName := ⟨"BasisWalkModel", "isFlat", "(II)Z"⟩
def w_Mo_isFlat : List Cond := .code y_Mo_isFlat prog_7_method_31_code 5 (Option.some Jvm.ClassFile.FieldType.boolean) :: tb_w
def y_Mo_isCircuit : MethodName := ⟨"BasisWalkModel", "isCircuit", "(IIZ)Z"⟩
def w_Mo_isCircuit : List Cond := .code y_Mo_isCircuit prog_7_method_30_code 7 (Option.some Jvm.ClassFile.FieldType.boolean) :: tb_w
def y_Mo_dualRank : MethodName := ⟨"BasisWalkModel", "dualRank", "(II)I"⟩
def w_Mo_dualRank : List Cond := .code y_Mo_dualRank prog_7_method_29_code 3 (Option.some Jvm.ClassFile.FieldType.int) :: tb_w
def y_Mo_member : MethodName := ⟨"BasisWalkModel", "member", "(III)I"⟩
def w_Mo_member : List Cond := .code y_Mo_member prog_7_method_42_code 4 (Option.some Jvm.ClassFile.FieldType.int) :: tb_w
def y_Mo_theOne : MethodName := ⟨"BasisWalkModel", "theOne", "(III)I"⟩
def w_Mo_theOne : List Cond := .code y_Mo_theOne prog_7_method_34_code 6 (Option.some Jvm.ClassFile.FieldType.int) :: tb_w
def y_Mo_tutte : MethodName := ⟨"BasisWalkModel", "tutte", "(III)J"⟩
def w_Mo_tutte : List Cond := .code y_Mo_tutte prog_7_method_43_code 4 (Option.some Jvm.ClassFile.FieldType.long) :: tb_w
def y_Mo_polynomial : MethodName := ⟨"BasisWalkModel", "polynomial", "(I)V"⟩
def w_Mo_polynomial : List Cond := .code y_Mo_polynomial prog_7_method_35_code 9 (Option.none : Option Jvm.ClassFile.FieldType) :: tb_w
def y_Mo_sign : MethodName := ⟨"BasisWalkModel", "sign", "(II)I"⟩
def w_Mo_sign : List Cond := .code y_Mo_sign prog_7_method_44_code 4 (Option.some Jvm.ClassFile.FieldType.int) :: tb_w
def y_Mo_below : MethodName := ⟨"BasisWalkModel", "below", "(II)I"⟩
def w_Mo_below : List Cond := .code y_Mo_below prog_7_method_45_code 4 (Option.some Jvm.ClassFile.FieldType.int) :: tb_w
def y_Mo_belowOf : MethodName := ⟨"BasisWalkModel", "belowOf", "(II)I"⟩
def w_Mo_belowOf : List Cond := .code y_Mo_belowOf prog_7_method_37_code 11 (Option.some Jvm.ClassFile.FieldType.int) :: tb_w
def y_Mo_determinantOf : MethodName := ⟨"BasisWalkModel", "determinantOf", "(III)I"⟩
def w_Mo_determinantOf : List Cond := .code y_Mo_determinantOf prog_7_method_38_code 7 (Option.some Jvm.ClassFile.FieldType.int) :: tb_w
def y_Mo_isEven : MethodName := ⟨"BasisWalkModel", "isEven", "([II)Z"⟩
def w_Mo_isEven : List Cond := .code y_Mo_isEven prog_7_method_36_code 5 (Option.some Jvm.ClassFile.FieldType.boolean) :: tb_w
