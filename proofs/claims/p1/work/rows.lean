section
-- ===== PART A: goes FIRST, ahead of the names: the tables' words, and 'selects' of the private methods out of them =====
/-- a private method of a class that the tables say can be made, by its rows of tables_1 -/
def lw_okq (q : MethodName × Nat) : Prop := (q.1.cls ≠ "java/lang/invoke/MethodHandle" ∧ q.1.cls ≠ "java/lang/invoke/VarHandle") ∧ Cond.instantiable q.1.cls q.2 ∈ tables_1 ∧ Cond.privateMethod q.1 ∈ tables_1 ∧ Cond.instanceMethod q.1 ∈ tables_1
theorem lw_p0 : lw_okq (⟨"BasisWalk", "tableAt", "(I)LBasisWalk$Table;"⟩, 3) := ⟨⟨by decide +kernel, by decide +kernel⟩, List.mem_of_getElem? (i := 12) (by decide +kernel), List.mem_of_getElem? (i := 141) (by decide +kernel), List.mem_of_getElem? (i := 142) (by decide +kernel)⟩
theorem lw_p1 : lw_okq (⟨"BasisWalk", "studyOf", "(LBasisWalk$Table;)LBasisWalk$Study;"⟩, 3) := ⟨⟨by decide +kernel, by decide +kernel⟩, List.mem_of_getElem? (i := 12) (by decide +kernel), List.mem_of_getElem? (i := 185) (by decide +kernel), List.mem_of_getElem? (i := 186) (by decide +kernel)⟩
theorem lw_p2 : lw_okq (⟨"BasisWalk$Order", "oneLess", "(I)I"⟩, 4) := ⟨⟨by decide +kernel, by decide +kernel⟩, List.mem_of_getElem? (i := 87) (by decide +kernel), List.mem_of_getElem? (i := 202) (by decide +kernel), List.mem_of_getElem? (i := 203) (by decide +kernel)⟩
theorem lw_p3 : lw_okq (⟨"BasisWalk$Study", "makeRoom", "()V"⟩, 7) := ⟨⟨by decide +kernel, by decide +kernel⟩, List.mem_of_getElem? (i := 27) (by decide +kernel), List.mem_of_getElem? (i := 210) (by decide +kernel), List.mem_of_getElem? (i := 211) (by decide +kernel)⟩
theorem lw_p4 : lw_okq (⟨"BasisWalk$Study", "takeRows", "(LBasisWalk$Table;LBasisWalk$Order;LBasisWalk$Minors;)I"⟩, 7) := ⟨⟨by decide +kernel, by decide +kernel⟩, List.mem_of_getElem? (i := 27) (by decide +kernel), List.mem_of_getElem? (i := 215) (by decide +kernel), List.mem_of_getElem? (i := 216) (by decide +kernel)⟩
theorem lw_p5 : lw_okq (⟨"BasisWalk$Minors", "expand", "(LBasisWalk$Table;II)V"⟩, 3) := ⟨⟨by decide +kernel, by decide +kernel⟩, List.mem_of_getElem? (i := 110) (by decide +kernel), List.mem_of_getElem? (i := 227) (by decide +kernel), List.mem_of_getElem? (i := 228) (by decide +kernel)⟩
theorem lw_p6 : lw_okq (⟨"BasisWalk$Study", "learnSigns", "(LBasisWalk$Order;LBasisWalk$Minors;)V"⟩, 7) := ⟨⟨by decide +kernel, by decide +kernel⟩, List.mem_of_getElem? (i := 27) (by decide +kernel), List.mem_of_getElem? (i := 239) (by decide +kernel), List.mem_of_getElem? (i := 240) (by decide +kernel)⟩
theorem lw_p7 : lw_okq (⟨"BasisWalk$Study", "markIndependent", "()V"⟩, 7) := ⟨⟨by decide +kernel, by decide +kernel⟩, List.mem_of_getElem? (i := 27) (by decide +kernel), List.mem_of_getElem? (i := 244) (by decide +kernel), List.mem_of_getElem? (i := 245) (by decide +kernel)⟩
theorem lw_p8 : lw_okq (⟨"BasisWalk$Study", "hasIndependentAbove", "(I)Z"⟩, 7) := ⟨⟨by decide +kernel, by decide +kernel⟩, List.mem_of_getElem? (i := 27) (by decide +kernel), List.mem_of_getElem? (i := 249) (by decide +kernel), List.mem_of_getElem? (i := 250) (by decide +kernel)⟩
theorem lw_p9 : lw_okq (⟨"BasisWalk$Study", "learnRanks", "()V"⟩, 7) := ⟨⟨by decide +kernel, by decide +kernel⟩, List.mem_of_getElem? (i := 27) (by decide +kernel), List.mem_of_getElem? (i := 253) (by decide +kernel), List.mem_of_getElem? (i := 254) (by decide +kernel)⟩
theorem lw_p10 : lw_okq (⟨"BasisWalk$Study", "greatestRankUnder", "(I)I"⟩, 7) := ⟨⟨by decide +kernel, by decide +kernel⟩, List.mem_of_getElem? (i := 27) (by decide +kernel), List.mem_of_getElem? (i := 257) (by decide +kernel), List.mem_of_getElem? (i := 258) (by decide +kernel)⟩
theorem lw_p11 : lw_okq (⟨"BasisWalk$Study", "learnDefects", "()V"⟩, 7) := ⟨⟨by decide +kernel, by decide +kernel⟩, List.mem_of_getElem? (i := 27) (by decide +kernel), List.mem_of_getElem? (i := 261) (by decide +kernel), List.mem_of_getElem? (i := 262) (by decide +kernel)⟩
theorem lw_p12 : lw_okq (⟨"BasisWalk$Study", "learnMembers", "(LBasisWalk$Order;)V"⟩, 7) := ⟨⟨by decide +kernel, by decide +kernel⟩, List.mem_of_getElem? (i := 27) (by decide +kernel), List.mem_of_getElem? (i := 266) (by decide +kernel), List.mem_of_getElem? (i := 267) (by decide +kernel)⟩
theorem lw_p13 : lw_okq (⟨"BasisWalk$Study", "isOfKind", "(II)Z"⟩, 7) := ⟨⟨by decide +kernel, by decide +kernel⟩, List.mem_of_getElem? (i := 27) (by decide +kernel), List.mem_of_getElem? (i := 270) (by decide +kernel), List.mem_of_getElem? (i := 271) (by decide +kernel)⟩
theorem lw_p14 : lw_okq (⟨"BasisWalk$Study", "isCircuit", "(I)Z"⟩, 7) := ⟨⟨by decide +kernel, by decide +kernel⟩, List.mem_of_getElem? (i := 27) (by decide +kernel), List.mem_of_getElem? (i := 274) (by decide +kernel), List.mem_of_getElem? (i := 275) (by decide +kernel)⟩
theorem lw_p15 : lw_okq (⟨"BasisWalk$Study", "isHyperplane", "(I)Z"⟩, 7) := ⟨⟨by decide +kernel, by decide +kernel⟩, List.mem_of_getElem? (i := 27) (by decide +kernel), List.mem_of_getElem? (i := 278) (by decide +kernel), List.mem_of_getElem? (i := 279) (by decide +kernel)⟩
def lw_privs_1 : List (MethodName × Nat) := [(⟨"BasisWalk", "tableAt", "(I)LBasisWalk$Table;"⟩, 3), (⟨"BasisWalk", "studyOf", "(LBasisWalk$Table;)LBasisWalk$Study;"⟩, 3), (⟨"BasisWalk$Order", "oneLess", "(I)I"⟩, 4), (⟨"BasisWalk$Study", "makeRoom", "()V"⟩, 7), (⟨"BasisWalk$Study", "takeRows", "(LBasisWalk$Table;LBasisWalk$Order;LBasisWalk$Minors;)I"⟩, 7), (⟨"BasisWalk$Minors", "expand", "(LBasisWalk$Table;II)V"⟩, 3), (⟨"BasisWalk$Study", "learnSigns", "(LBasisWalk$Order;LBasisWalk$Minors;)V"⟩, 7), (⟨"BasisWalk$Study", "markIndependent", "()V"⟩, 7), (⟨"BasisWalk$Study", "hasIndependentAbove", "(I)Z"⟩, 7), (⟨"BasisWalk$Study", "learnRanks", "()V"⟩, 7), (⟨"BasisWalk$Study", "greatestRankUnder", "(I)I"⟩, 7), (⟨"BasisWalk$Study", "learnDefects", "()V"⟩, 7), (⟨"BasisWalk$Study", "learnMembers", "(LBasisWalk$Order;)V"⟩, 7), (⟨"BasisWalk$Study", "isOfKind", "(II)Z"⟩, 7), (⟨"BasisWalk$Study", "isCircuit", "(I)Z"⟩, 7), (⟨"BasisWalk$Study", "isHyperplane", "(I)Z"⟩, 7)]
theorem lw_r1 : ∀ q ∈ lw_privs_1, lw_okq q := List.forall_mem_cons.mpr ⟨lw_p0, List.forall_mem_cons.mpr ⟨lw_p1, List.forall_mem_cons.mpr ⟨lw_p2, List.forall_mem_cons.mpr ⟨lw_p3, List.forall_mem_cons.mpr ⟨lw_p4, List.forall_mem_cons.mpr ⟨lw_p5, List.forall_mem_cons.mpr ⟨lw_p6, List.forall_mem_cons.mpr ⟨lw_p7, List.forall_mem_cons.mpr ⟨lw_p8, List.forall_mem_cons.mpr ⟨lw_p9, List.forall_mem_cons.mpr ⟨lw_p10, List.forall_mem_cons.mpr ⟨lw_p11, List.forall_mem_cons.mpr ⟨lw_p12, List.forall_mem_cons.mpr ⟨lw_p13, List.forall_mem_cons.mpr ⟨lw_p14, List.forall_mem_cons.mpr ⟨lw_p15, fun _ h => absurd h List.not_mem_nil⟩⟩⟩⟩⟩⟩⟩⟩⟩⟩⟩⟩⟩⟩⟩⟩
theorem lw_p16 : lw_okq (⟨"BasisWalk$Study", "isFlat", "(I)Z"⟩, 7) := ⟨⟨by decide +kernel, by decide +kernel⟩, List.mem_of_getElem? (i := 27) (by decide +kernel), List.mem_of_getElem? (i := 282) (by decide +kernel), List.mem_of_getElem? (i := 283) (by decide +kernel)⟩
theorem lw_p17 : lw_okq (⟨"BasisWalk$Study", "widened", "(I)I"⟩, 7) := ⟨⟨by decide +kernel, by decide +kernel⟩, List.mem_of_getElem? (i := 27) (by decide +kernel), List.mem_of_getElem? (i := 327) (by decide +kernel), List.mem_of_getElem? (i := 328) (by decide +kernel)⟩
theorem lw_p18 : lw_okq (⟨"BasisWalkModel", "list", "(IIII)I"⟩, 31) := ⟨⟨by decide +kernel, by decide +kernel⟩, List.mem_of_getElem? (i := 331) (by decide +kernel), List.mem_of_getElem? (i := 356) (by decide +kernel), List.mem_of_getElem? (i := 357) (by decide +kernel)⟩
theorem lw_p19 : lw_okq (⟨"BasisWalkModel", "learn", "(I)Z"⟩, 31) := ⟨⟨by decide +kernel, by decide +kernel⟩, List.mem_of_getElem? (i := 331) (by decide +kernel), List.mem_of_getElem? (i := 478) (by decide +kernel), List.mem_of_getElem? (i := 479) (by decide +kernel)⟩
theorem lw_p20 : lw_okq (⟨"BasisWalkModel", "empty", "(II)V"⟩, 31) := ⟨⟨by decide +kernel, by decide +kernel⟩, List.mem_of_getElem? (i := 331) (by decide +kernel), List.mem_of_getElem? (i := 482) (by decide +kernel), List.mem_of_getElem? (i := 483) (by decide +kernel)⟩
theorem lw_p21 : lw_okq (⟨"BasisWalkModel", "lay", "(IIJ)V"⟩, 31) := ⟨⟨by decide +kernel, by decide +kernel⟩, List.mem_of_getElem? (i := 331) (by decide +kernel), List.mem_of_getElem? (i := 486) (by decide +kernel), List.mem_of_getElem? (i := 487) (by decide +kernel)⟩
theorem lw_p22 : lw_okq (⟨"BasisWalkModel", "at", "(II)LBasisWalkModel$Num;"⟩, 31) := ⟨⟨by decide +kernel, by decide +kernel⟩, List.mem_of_getElem? (i := 331) (by decide +kernel), List.mem_of_getElem? (i := 490) (by decide +kernel), List.mem_of_getElem? (i := 491) (by decide +kernel)⟩
theorem lw_p23 : lw_okq (⟨"BasisWalkModel", "reduce", "()V"⟩, 31) := ⟨⟨by decide +kernel, by decide +kernel⟩, List.mem_of_getElem? (i := 331) (by decide +kernel), List.mem_of_getElem? (i := 503) (by decide +kernel), List.mem_of_getElem? (i := 504) (by decide +kernel)⟩
theorem lw_p24 : lw_okq (⟨"BasisWalkModel", "isZero", "(II)Z"⟩, 31) := ⟨⟨by decide +kernel, by decide +kernel⟩, List.mem_of_getElem? (i := 331) (by decide +kernel), List.mem_of_getElem? (i := 507) (by decide +kernel), List.mem_of_getElem? (i := 508) (by decide +kernel)⟩
theorem lw_p25 : lw_okq (⟨"BasisWalkModel", "swap", "(II)V"⟩, 31) := ⟨⟨by decide +kernel, by decide +kernel⟩, List.mem_of_getElem? (i := 331) (by decide +kernel), List.mem_of_getElem? (i := 511) (by decide +kernel), List.mem_of_getElem? (i := 512) (by decide +kernel)⟩
theorem lw_p26 : lw_okq (⟨"BasisWalkModel", "take", "(III)V"⟩, 31) := ⟨⟨by decide +kernel, by decide +kernel⟩, List.mem_of_getElem? (i := 331) (by decide +kernel), List.mem_of_getElem? (i := 519) (by decide +kernel), List.mem_of_getElem? (i := 520) (by decide +kernel)⟩
theorem lw_p27 : lw_okq (⟨"BasisWalkModel", "inverse", "(I)I"⟩, 31) := ⟨⟨by decide +kernel, by decide +kernel⟩, List.mem_of_getElem? (i := 331) (by decide +kernel), List.mem_of_getElem? (i := 523) (by decide +kernel), List.mem_of_getElem? (i := 524) (by decide +kernel)⟩
theorem lw_p28 : lw_okq (⟨"BasisWalkModel", "shorten", "(I)V"⟩, 31) := ⟨⟨by decide +kernel, by decide +kernel⟩, List.mem_of_getElem? (i := 331) (by decide +kernel), List.mem_of_getElem? (i := 544) (by decide +kernel), List.mem_of_getElem? (i := 545) (by decide +kernel)⟩
theorem lw_p29 : lw_okq (⟨"BasisWalkModel", "divisor", "(LBasisWalkModel$Num;LBasisWalkModel$Num;)V"⟩, 31) := ⟨⟨by decide +kernel, by decide +kernel⟩, List.mem_of_getElem? (i := 331) (by decide +kernel), List.mem_of_getElem? (i := 549) (by decide +kernel), List.mem_of_getElem? (i := 550) (by decide +kernel)⟩
theorem lw_p30 : lw_okq (⟨"BasisWalkModel", "settle", "(I)V"⟩, 31) := ⟨⟨by decide +kernel, by decide +kernel⟩, List.mem_of_getElem? (i := 331) (by decide +kernel), List.mem_of_getElem? (i := 569) (by decide +kernel), List.mem_of_getElem? (i := 570) (by decide +kernel)⟩
theorem lw_p31 : lw_okq (⟨"BasisWalkModel", "measure", "(I)V"⟩, 31) := ⟨⟨by decide +kernel, by decide +kernel⟩, List.mem_of_getElem? (i := 331) (by decide +kernel), List.mem_of_getElem? (i := 577) (by decide +kernel), List.mem_of_getElem? (i := 578) (by decide +kernel)⟩
def lw_privs_2 : List (MethodName × Nat) := [(⟨"BasisWalk$Study", "isFlat", "(I)Z"⟩, 7), (⟨"BasisWalk$Study", "widened", "(I)I"⟩, 7), (⟨"BasisWalkModel", "list", "(IIII)I"⟩, 31), (⟨"BasisWalkModel", "learn", "(I)Z"⟩, 31), (⟨"BasisWalkModel", "empty", "(II)V"⟩, 31), (⟨"BasisWalkModel", "lay", "(IIJ)V"⟩, 31), (⟨"BasisWalkModel", "at", "(II)LBasisWalkModel$Num;"⟩, 31), (⟨"BasisWalkModel", "reduce", "()V"⟩, 31), (⟨"BasisWalkModel", "isZero", "(II)Z"⟩, 31), (⟨"BasisWalkModel", "swap", "(II)V"⟩, 31), (⟨"BasisWalkModel", "take", "(III)V"⟩, 31), (⟨"BasisWalkModel", "inverse", "(I)I"⟩, 31), (⟨"BasisWalkModel", "shorten", "(I)V"⟩, 31), (⟨"BasisWalkModel", "divisor", "(LBasisWalkModel$Num;LBasisWalkModel$Num;)V"⟩, 31), (⟨"BasisWalkModel", "settle", "(I)V"⟩, 31), (⟨"BasisWalkModel", "measure", "(I)V"⟩, 31)]
theorem lw_r2 : ∀ q ∈ lw_privs_2, lw_okq q := List.forall_mem_cons.mpr ⟨lw_p16, List.forall_mem_cons.mpr ⟨lw_p17, List.forall_mem_cons.mpr ⟨lw_p18, List.forall_mem_cons.mpr ⟨lw_p19, List.forall_mem_cons.mpr ⟨lw_p20, List.forall_mem_cons.mpr ⟨lw_p21, List.forall_mem_cons.mpr ⟨lw_p22, List.forall_mem_cons.mpr ⟨lw_p23, List.forall_mem_cons.mpr ⟨lw_p24, List.forall_mem_cons.mpr ⟨lw_p25, List.forall_mem_cons.mpr ⟨lw_p26, List.forall_mem_cons.mpr ⟨lw_p27, List.forall_mem_cons.mpr ⟨lw_p28, List.forall_mem_cons.mpr ⟨lw_p29, List.forall_mem_cons.mpr ⟨lw_p30, List.forall_mem_cons.mpr ⟨lw_p31, fun _ h => absurd h List.not_mem_nil⟩⟩⟩⟩⟩⟩⟩⟩⟩⟩⟩⟩⟩⟩⟩⟩
theorem lw_p32 : lw_okq (⟨"BasisWalkModel", "minorOf", "(I)I"⟩, 31) := ⟨⟨by decide +kernel, by decide +kernel⟩, List.mem_of_getElem? (i := 331) (by decide +kernel), List.mem_of_getElem? (i := 581) (by decide +kernel), List.mem_of_getElem? (i := 582) (by decide +kernel)⟩
theorem lw_p33 : lw_okq (⟨"BasisWalkModel", "smallDeterminant", "(I)I"⟩, 31) := ⟨⟨by decide +kernel, by decide +kernel⟩, List.mem_of_getElem? (i := 331) (by decide +kernel), List.mem_of_getElem? (i := 591) (by decide +kernel), List.mem_of_getElem? (i := 592) (by decide +kernel)⟩
theorem lw_p34 : lw_okq (⟨"BasisWalkModel", "determinant", "(I)I"⟩, 31) := ⟨⟨by decide +kernel, by decide +kernel⟩, List.mem_of_getElem? (i := 331) (by decide +kernel), List.mem_of_getElem? (i := 595) (by decide +kernel), List.mem_of_getElem? (i := 596) (by decide +kernel)⟩
theorem lw_p35 : lw_okq (⟨"BasisWalkModel", "whole", "(I)I"⟩, 31) := ⟨⟨by decide +kernel, by decide +kernel⟩, List.mem_of_getElem? (i := 331) (by decide +kernel), List.mem_of_getElem? (i := 603) (by decide +kernel), List.mem_of_getElem? (i := 604) (by decide +kernel)⟩
theorem lw_p36 : lw_okq (⟨"BasisWalkModel", "\x72", "(II)I"⟩, 31) := ⟨⟨by decide +kernel, by decide +kernel⟩, List.mem_of_getElem? (i := 331) (by decide +kernel), List.mem_of_getElem? (i := 607) (by decide +kernel), List.mem_of_getElem? (i := 608) (by decide +kernel)⟩
theorem lw_p37 : lw_okq (⟨"BasisWalkModel", "howMany", "(II)I"⟩, 31) := ⟨⟨by decide +kernel, by decide +kernel⟩, List.mem_of_getElem? (i := 331) (by decide +kernel), List.mem_of_getElem? (i := 615) (by decide +kernel), List.mem_of_getElem? (i := 616) (by decide +kernel)⟩
theorem lw_p38 : lw_okq (⟨"BasisWalkModel", "isOf", "(III)Z"⟩, 31) := ⟨⟨by decide +kernel, by decide +kernel⟩, List.mem_of_getElem? (i := 331) (by decide +kernel), List.mem_of_getElem? (i := 619) (by decide +kernel), List.mem_of_getElem? (i := 620) (by decide +kernel)⟩
theorem lw_p39 : lw_okq (⟨"BasisWalkModel", "isFree", "(II)Z"⟩, 31) := ⟨⟨by decide +kernel, by decide +kernel⟩, List.mem_of_getElem? (i := 331) (by decide +kernel), List.mem_of_getElem? (i := 623) (by decide +kernel), List.mem_of_getElem? (i := 624) (by decide +kernel)⟩
theorem lw_p40 : lw_okq (⟨"BasisWalkModel", "isFlat", "(II)Z"⟩, 31) := ⟨⟨by decide +kernel, by decide +kernel⟩, List.mem_of_getElem? (i := 331) (by decide +kernel), List.mem_of_getElem? (i := 627) (by decide +kernel), List.mem_of_getElem? (i := 628) (by decide +kernel)⟩
theorem lw_p41 : lw_okq (⟨"BasisWalkModel", "isCircuit", "(IIZ)Z"⟩, 31) := ⟨⟨by decide +kernel, by decide +kernel⟩, List.mem_of_getElem? (i := 331) (by decide +kernel), List.mem_of_getElem? (i := 631) (by decide +kernel), List.mem_of_getElem? (i := 632) (by decide +kernel)⟩
theorem lw_p42 : lw_okq (⟨"BasisWalkModel", "dualRank", "(II)I"⟩, 31) := ⟨⟨by decide +kernel, by decide +kernel⟩, List.mem_of_getElem? (i := 331) (by decide +kernel), List.mem_of_getElem? (i := 635) (by decide +kernel), List.mem_of_getElem? (i := 636) (by decide +kernel)⟩
theorem lw_p43 : lw_okq (⟨"BasisWalkModel", "theOne", "(III)I"⟩, 31) := ⟨⟨by decide +kernel, by decide +kernel⟩, List.mem_of_getElem? (i := 331) (by decide +kernel), List.mem_of_getElem? (i := 643) (by decide +kernel), List.mem_of_getElem? (i := 644) (by decide +kernel)⟩
theorem lw_p44 : lw_okq (⟨"BasisWalkModel", "polynomial", "(I)V"⟩, 31) := ⟨⟨by decide +kernel, by decide +kernel⟩, List.mem_of_getElem? (i := 331) (by decide +kernel), List.mem_of_getElem? (i := 651) (by decide +kernel), List.mem_of_getElem? (i := 652) (by decide +kernel)⟩
theorem lw_p45 : lw_okq (⟨"BasisWalkModel", "belowOf", "(II)I"⟩, 31) := ⟨⟨by decide +kernel, by decide +kernel⟩, List.mem_of_getElem? (i := 331) (by decide +kernel), List.mem_of_getElem? (i := 663) (by decide +kernel), List.mem_of_getElem? (i := 664) (by decide +kernel)⟩
theorem lw_p46 : lw_okq (⟨"BasisWalkModel", "determinantOf", "(III)I"⟩, 31) := ⟨⟨by decide +kernel, by decide +kernel⟩, List.mem_of_getElem? (i := 331) (by decide +kernel), List.mem_of_getElem? (i := 667) (by decide +kernel), List.mem_of_getElem? (i := 668) (by decide +kernel)⟩
def lw_privs_3 : List (MethodName × Nat) := [(⟨"BasisWalkModel", "minorOf", "(I)I"⟩, 31), (⟨"BasisWalkModel", "smallDeterminant", "(I)I"⟩, 31), (⟨"BasisWalkModel", "determinant", "(I)I"⟩, 31), (⟨"BasisWalkModel", "whole", "(I)I"⟩, 31), (⟨"BasisWalkModel", "\x72", "(II)I"⟩, 31), (⟨"BasisWalkModel", "howMany", "(II)I"⟩, 31), (⟨"BasisWalkModel", "isOf", "(III)Z"⟩, 31), (⟨"BasisWalkModel", "isFree", "(II)Z"⟩, 31), (⟨"BasisWalkModel", "isFlat", "(II)Z"⟩, 31), (⟨"BasisWalkModel", "isCircuit", "(IIZ)Z"⟩, 31), (⟨"BasisWalkModel", "dualRank", "(II)I"⟩, 31), (⟨"BasisWalkModel", "theOne", "(III)I"⟩, 31), (⟨"BasisWalkModel", "polynomial", "(I)V"⟩, 31), (⟨"BasisWalkModel", "belowOf", "(II)I"⟩, 31), (⟨"BasisWalkModel", "determinantOf", "(III)I"⟩, 31)]
theorem lw_r3 : ∀ q ∈ lw_privs_3, lw_okq q := List.forall_mem_cons.mpr ⟨lw_p32, List.forall_mem_cons.mpr ⟨lw_p33, List.forall_mem_cons.mpr ⟨lw_p34, List.forall_mem_cons.mpr ⟨lw_p35, List.forall_mem_cons.mpr ⟨lw_p36, List.forall_mem_cons.mpr ⟨lw_p37, List.forall_mem_cons.mpr ⟨lw_p38, List.forall_mem_cons.mpr ⟨lw_p39, List.forall_mem_cons.mpr ⟨lw_p40, List.forall_mem_cons.mpr ⟨lw_p41, List.forall_mem_cons.mpr ⟨lw_p42, List.forall_mem_cons.mpr ⟨lw_p43, List.forall_mem_cons.mpr ⟨lw_p44, List.forall_mem_cons.mpr ⟨lw_p45, List.forall_mem_cons.mpr ⟨lw_p46, fun _ h => absurd h List.not_mem_nil⟩⟩⟩⟩⟩⟩⟩⟩⟩⟩⟩⟩⟩⟩⟩
def lw_privs : List (MethodName × Nat) := lw_privs_1 ++ (lw_privs_2 ++ (lw_privs_3))
def lw_tbl : List Cond := k2_sels lw_privs ++ tables_1
theorem lw_privs_ok : ∀ q ∈ lw_privs, lw_okq q := by
  show ∀ q ∈ lw_privs_1 ++ (lw_privs_2 ++ (lw_privs_3)), lw_okq q
  exact List.forall_mem_append.mpr ⟨lw_r1, List.forall_mem_append.mpr ⟨lw_r2, lw_r3⟩⟩

/-- the words of the tables that a callee may rely on -/
def tb_w : List Cond := lw_tbl.filter goodWord
theorem tb_good : ∀ w ∈ tb_w, goodWord w = true := fun _ h => (List.mem_filter.mp h).2
theorem tb_in {w : Cond} {i : Nat} (hi : tables_1[i]? = some w) (hg : goodWord w = true) : w ∈ tb_w := List.mem_filter.mpr ⟨List.mem_append_right _ (List.mem_of_getElem? hi), hg⟩
theorem tb_ip {w : Cond} {i : Nat} (hi : (k2_sels lw_privs)[i]? = some w) (hg : goodWord w = true) : w ∈ tb_w := List.mem_filter.mpr ⟨List.mem_append_left _ (List.mem_of_getElem? hi), hg⟩
/-- words that are kept by another road: links among nest mates, arrays over a class -/
def nw_ok : Cond → Bool
  | .fieldLinkNest _ _ _ _ _ _ => true
  | .methodLinkNest _ _ _ _ => true
  | .arrayOver (.object _) => true
  | _ => false
def tb_n : List Cond := lw_tbl.filter nw_ok
def NW (U : State) : Prop := ∀ w ∈ tb_n, va_Nw w U
theorem nw_in {w : Cond} {i : Nat} (hi : tables_1[i]? = some w) (hg : nw_ok w = true) : w ∈ tb_n := List.mem_filter.mpr ⟨List.mem_append_right _ (List.mem_of_getElem? hi), hg⟩
theorem NW.warm {s U : State} (h : NW s) (hW : s.WarmedH U.vm) : NW U := by
  intro w hw
  have h1 := h w hw
  have h2 := (List.mem_filter.mp hw).2
  unfold nw_ok at h2
  split at h2
  · exact va_Nw.warmF hW h1
  · exact va_Nw.warmM hW h1
  · exact va_AO.moved hW.alike h1
  · cases h2
theorem NW.same {s U : State} (h : NW s) (e : s.vm = U.vm) : NW U := by
  intro w hw
  have h1 := h w hw
  have h2 := (List.mem_filter.mp hw).2
  unfold nw_ok at h2
  split at h2
  · exact va_Nw.same rfl e h1
  · exact va_Nw.same rfl e h1
  · exact va_AO.moved (by rw [e]; exact Vm.Alike.refl _) h1
  · cases h2
theorem tb_G {c1 c2 : Cond} (h : c2 ∈ tb_w) : GoodIn (c1 :: tb_w) (c2 :: tb_w) := by
  intro w hw
  have hm : w ∈ tb_w := by
    rcases List.mem_cons.mp hw with e | e
    · rw [e]; exact h
    · exact e
  exact ⟨List.mem_cons_of_mem _ hm, good_of_word (tb_good w hm)⟩
theorem tb_A {c1 c2 : Cond} {ws : List Cond} (hs : ∀ w ∈ ws, w ∈ tb_w) (h : c2 ∈ tb_w) : GoodIn (c1 :: tb_w) (ws ++ (c2 :: tb_w)) := by
  intro w hw
  rcases List.mem_append.mp hw with e | e
  · exact ⟨List.mem_cons_of_mem _ (hs w e), good_of_word (tb_good w (hs w e))⟩
  · exact tb_G h w e
theorem tb_V {c1 c2 : Cond} {own C : String} {idx : Nat} {y : MethodName} (h1 : Cond.methodLink own idx y ∈ tb_w) (h2 : Cond.instanceMethod y ∈ tb_w) (h3 : Cond.selects C y y ∈ tb_w) (h4 : Cond.initialized C ∈ tb_w) (h : c2 ∈ tb_w) : GoodIn (c1 :: tb_w) (wsV own idx C y (c2 :: tb_w)) := by
  refine tb_A (fun w hw => ?_) h
  simp only [List.mem_cons, List.not_mem_nil, or_false] at hw
  rcases hw with e | e | e | e <;> rw [e] <;> assumption
theorem tb_S {c1 c2 : Cond} {own : String} {idx : Nat} {y : MethodName} (h1 : Cond.methodLink own idx y ∈ tb_w) (h2 : Cond.static y ∈ tb_w) (h3 : Cond.initialized y.cls ∈ tb_w) (h : c2 ∈ tb_w) : GoodIn (c1 :: tb_w) (va_wsS own idx y (c2 :: tb_w)) := by
  refine tb_A (fun w hw => ?_) h
  simp only [List.mem_cons, List.not_mem_nil, or_false] at hw
  rcases hw with e | e | e <;> rw [e] <;> assumption
/-- of two classes of arrays of one kind of numbers: they are one -/
theorem ty_one {D : va_G} {cl : List vw_C} {tys : List (ClassId × FieldType)} {U : State} {i j : Nat} {a b : ClassId} {ty : FieldType} (hK : va_K D cl tys U) (hn : ty = .int ∨ ty = .long ∨ ty = .byte ∨ ty = .boolean) (hi : tys[i]? = some (a, ty)) (hj : tys[j]? = some (b, ty)) : a = b := by
  have h1 := (hK.2 i _ hi).2
  have h2 := (hK.2 j _ hj).2
  rcases hn with rfl | rfl | rfl | rfl <;> exact Option.some.inj (h1.symm.trans h2)
def T_Mi : u_T := fun k => match k with
  | 0 => ("BasisWalk$Minors", "low", "[J", false)
  | 1 => ("BasisWalk$Minors", "middle", "[J", false)
  | _ => ("BasisWalk$Minors", "high", "[J", false)
def ty_Mi : Nat → FieldType := fun k => match k with
  | 0 => .array .long
  | 1 => .array .long
  | _ => .array .long
theorem nm_Mi : ∀ a, a < 3 → ∀ b, b < 3 → a ≠ b → (T_Mi a).2.1 ≠ (T_Mi b).2.1 := by decide +kernel
theorem tyok_Mi : ∀ k, k < 3 → parseFieldDescriptor (T_Mi k).2.2.1 = some (ty_Mi k) := by decide +kernel
theorem in_Mi : ∀ w ∈ u_ws "BasisWalk$Minors" T_Mi 3, w ∈ tb_w := by decide +kernel
def T_Or : u_T := fun k => match k with
  | 0 => ("BasisWalk$Order", "columnCount", "I", false)
  | 1 => ("BasisWalk$Order", "sets", "[I", false)
  | 2 => ("BasisWalk$Order", "starts", "[I", true)
  | _ => ("BasisWalk$Order", "nexts", "[I", true)
def ty_Or : Nat → FieldType := fun k => match k with
  | 0 => .int
  | 1 => .array .int
  | 2 => .array .int
  | _ => .array .int
theorem nm_Or : ∀ a, a < 4 → ∀ b, b < 4 → a ≠ b → (T_Or a).2.1 ≠ (T_Or b).2.1 := by decide +kernel
theorem tyok_Or : ∀ k, k < 4 → parseFieldDescriptor (T_Or k).2.2.1 = some (ty_Or k) := by decide +kernel
theorem in_Or : ∀ w ∈ u_ws "BasisWalk$Order" T_Or 4, w ∈ tb_w := by decide +kernel
def T_St : u_T := fun k => match k with
  | 0 => ("BasisWalk$Study", "columnCount", "I", false)
  | 1 => ("BasisWalk$Study", "fullRank", "I", false)
  | 2 => ("BasisWalk$Study", "ranks", "[I", false)
  | 3 => ("BasisWalk$Study", "signs", "[I", false)
  | 4 => ("BasisWalk$Study", "members", "[I", false)
  | 5 => ("BasisWalk$Study", "starts", "[I", true)
  | _ => ("BasisWalk$Study", "defects", "[I", true)
def ty_St : Nat → FieldType := fun k => match k with
  | 0 => .int
  | 1 => .int
  | 2 => .array .int
  | 3 => .array .int
  | 4 => .array .int
  | 5 => .array .int
  | _ => .array .int
theorem nm_St : ∀ a, a < 7 → ∀ b, b < 7 → a ≠ b → (T_St a).2.1 ≠ (T_St b).2.1 := by decide +kernel
theorem tyok_St : ∀ k, k < 7 → parseFieldDescriptor (T_St k).2.2.1 = some (ty_St k) := by decide +kernel
theorem in_St : ∀ w ∈ u_ws "BasisWalk$Study" T_St 7, w ∈ tb_w := by decide +kernel
def T_Ta : u_T := fun k => match k with
  | 0 => ("BasisWalk$Table", "field", "I", false)
  | 1 => ("BasisWalk$Table", "rowCount", "I", false)
  | 2 => ("BasisWalk$Table", "columnCount", "I", false)
  | 3 => ("BasisWalk$Table", "numbers", "[I", true)
  | 4 => ("BasisWalk$Table", "studied", "Z", false)
  | _ => ("BasisWalk$Table", "study", "LBasisWalk$Study;", true)
def ty_Ta : Nat → FieldType := fun k => match k with
  | 0 => .int
  | 1 => .int
  | 2 => .int
  | 3 => .array .int
  | 4 => .boolean
  | _ => .object "BasisWalk$Study"
theorem nm_Ta : ∀ a, a < 6 → ∀ b, b < 6 → a ≠ b → (T_Ta a).2.1 ≠ (T_Ta b).2.1 := by decide +kernel
theorem tyok_Ta : ∀ k, k < 6 → parseFieldDescriptor (T_Ta k).2.2.1 = some (ty_Ta k) := by decide +kernel
theorem in_Ta : ∀ w ∈ u_ws "BasisWalk$Table" T_Ta 6, w ∈ tb_w := by decide +kernel
def T_Bw : u_T := fun k => match k with
  | 0 => ("BasisWalk", "tables", "[LBasisWalk$Table;", true)
  | 1 => ("BasisWalk", "order", "LBasisWalk$Order;", true)
  | _ => ("BasisWalk", "minors", "LBasisWalk$Minors;", true)
def ty_Bw : Nat → FieldType := fun k => match k with
  | 0 => .array (.object "BasisWalk$Table")
  | 1 => .object "BasisWalk$Order"
  | _ => .object "BasisWalk$Minors"
theorem nm_Bw : ∀ a, a < 3 → ∀ b, b < 3 → a ≠ b → (T_Bw a).2.1 ≠ (T_Bw b).2.1 := by decide +kernel
theorem tyok_Bw : ∀ k, k < 3 → parseFieldDescriptor (T_Bw k).2.2.1 = some (ty_Bw k) := by decide +kernel
theorem in_Bw : ∀ w ∈ u_ws "BasisWalk" T_Bw 3, w ∈ tb_w := by decide +kernel
def T_Nu : u_T := fun k => match k with
  | 0 => ("BasisWalkModel$Num", "d", "[I", true)
  | 1 => ("BasisWalkModel$Num", "n", "I", false)
  | _ => ("BasisWalkModel$Num", "minus", "Z", false)
def ty_Nu : Nat → FieldType := fun k => match k with
  | 0 => .array .int
  | 1 => .int
  | _ => .boolean
theorem nm_Nu : ∀ a, a < 3 → ∀ b, b < 3 → a ≠ b → (T_Nu a).2.1 ≠ (T_Nu b).2.1 := by decide +kernel
theorem tyok_Nu : ∀ k, k < 3 → parseFieldDescriptor (T_Nu k).2.2.1 = some (ty_Nu k) := by decide +kernel
theorem in_Nu : ∀ w ∈ u_ws "BasisWalkModel$Num" T_Nu 3, w ∈ tb_w := by decide +kernel
def T_Mo : u_T := fun k => match k with
  | 0 => ("BasisWalkModel", "one", "LBasisWalkModel$Num;", true)
  | 1 => ("BasisWalkModel", "two", "LBasisWalkModel$Num;", true)
  | 2 => ("BasisWalkModel", "three", "LBasisWalkModel$Num;", true)
  | 3 => ("BasisWalkModel", "four", "LBasisWalkModel$Num;", true)
  | 4 => ("BasisWalkModel", "five", "LBasisWalkModel$Num;", true)
  | 5 => ("BasisWalkModel", "six", "LBasisWalkModel$Num;", true)
  | 6 => ("BasisWalkModel", "seven", "LBasisWalkModel$Num;", true)
  | 7 => ("BasisWalkModel", "eight", "LBasisWalkModel$Num;", true)
  | 8 => ("BasisWalkModel", "work", "[LBasisWalkModel$Num;", true)
  | 9 => ("BasisWalkModel", "small", "[I", true)
  | 10 => ("BasisWalkModel", "rows", "I", false)
  | 11 => ("BasisWalkModel", "columns", "I", false)
  | 12 => ("BasisWalkModel", "prime", "I", false)
  | 13 => ("BasisWalkModel", "pivots", "[I", true)
  | 14 => ("BasisWalkModel", "freeRows", "[I", true)
  | 15 => ("BasisWalkModel", "freeColumns", "[I", true)
  | 16 => ("BasisWalkModel", "minor", "[LBasisWalkModel$Num;", true)
  | 17 => ("BasisWalkModel", "smallMinor", "[I", true)
  | 18 => ("BasisWalkModel", "fields", "[I", true)
  | 19 => ("BasisWalkModel", "rowCounts", "[I", true)
  | 20 => ("BasisWalkModel", "elements", "[I", true)
  | 21 => ("BasisWalkModel", "numbers", "[I", true)
  | 22 => ("BasisWalkModel", "known", "[Z", true)
  | 23 => ("BasisWalkModel", "ranks", "[I", true)
  | 24 => ("BasisWalkModel", "rankOf", "[B", true)
  | 25 => ("BasisWalkModel", "signOf", "[B", true)
  | 26 => ("BasisWalkModel", "order", "[I", true)
  | 27 => ("BasisWalkModel", "sizes", "[I", true)
  | 28 => ("BasisWalkModel", "coefficients", "[J", true)
  | 29 => ("BasisWalkModel", "choices", "[J", true)
  | _ => ("BasisWalkModel", "sorted", "[I", true)
def ty_Mo : Nat → FieldType := fun k => match k with
  | 0 => .object "BasisWalkModel$Num"
  | 1 => .object "BasisWalkModel$Num"
  | 2 => .object "BasisWalkModel$Num"
  | 3 => .object "BasisWalkModel$Num"
  | 4 => .object "BasisWalkModel$Num"
  | 5 => .object "BasisWalkModel$Num"
  | 6 => .object "BasisWalkModel$Num"
  | 7 => .object "BasisWalkModel$Num"
  | 8 => .array (.object "BasisWalkModel$Num")
  | 9 => .array .int
  | 10 => .int
  | 11 => .int
  | 12 => .int
  | 13 => .array .int
  | 14 => .array .int
  | 15 => .array .int
  | 16 => .array (.object "BasisWalkModel$Num")
  | 17 => .array .int
  | 18 => .array .int
  | 19 => .array .int
  | 20 => .array .int
  | 21 => .array .int
  | 22 => .array .boolean
  | 23 => .array .int
  | 24 => .array .byte
  | 25 => .array .byte
  | 26 => .array .int
  | 27 => .array .int
  | 28 => .array .long
  | 29 => .array .long
  | _ => .array .int
theorem nm_Mo : ∀ a, a < 31 → ∀ b, b < 31 → a ≠ b → (T_Mo a).2.1 ≠ (T_Mo b).2.1 := by decide +kernel
theorem tyok_Mo : ∀ k, k < 31 → parseFieldDescriptor (T_Mo k).2.2.1 = some (ty_Mo k) := by decide +kernel
theorem in_Mo : ∀ w ∈ u_ws "BasisWalkModel" T_Mo 31, w ∈ tb_w := by decide +kernel
abbrev cl_all : List vw_C := [("BasisWalk$Minors", T_Mi, 3), ("BasisWalk$Order", T_Or, 4), ("BasisWalk$Study", T_St, 7), ("BasisWalk$Table", T_Ta, 6), ("BasisWalk", T_Bw, 3), ("BasisWalkModel$Num", T_Nu, 3), ("BasisWalkModel", T_Mo, 31)]
def y_Bw_init : MethodName := ⟨"BasisWalk", "<init>", "()V"⟩
def w_Bw_init : List Cond := .code y_Bw_init prog_1_method_1_code 2 (Option.none : Option Jvm.ClassFile.FieldType) :: tb_w
def y_Ta_init : MethodName := ⟨"BasisWalk$Table", "<init>", "()V"⟩
def w_Ta_init : List Cond := .code y_Ta_init prog_5_method_1_code 1 (Option.none : Option Jvm.ClassFile.FieldType) :: tb_w
def y_St_init : MethodName := ⟨"BasisWalk$Study", "<init>", "()V"⟩
def w_St_init : List Cond := .code y_St_init prog_4_method_1_code 1 (Option.none : Option Jvm.ClassFile.FieldType) :: tb_w
def y_Or_init : MethodName := ⟨"BasisWalk$Order", "<init>", "()V"⟩
def w_Or_init : List Cond := .code y_Or_init prog_3_method_1_code 1 (Option.none : Option Jvm.ClassFile.FieldType) :: tb_w
def y_Mi_init : MethodName := ⟨"BasisWalk$Minors", "<init>", "()V"⟩
def w_Mi_init : List Cond := .code y_Mi_init prog_2_method_1_code 1 (Option.none : Option Jvm.ClassFile.FieldType) :: tb_w
def y_Bw_begin : MethodName := ⟨"BasisWalk", "begin", "(IIII)Z"⟩
def w_Bw_begin : List Cond := .code y_Bw_begin prog_1_method_2_code 6 (Option.some Jvm.ClassFile.FieldType.boolean) :: tb_w
def y_Bw_tableAt : MethodName := ⟨"BasisWalk", "tableAt", "(I)LBasisWalk$Table;"⟩
def w_Bw_tableAt : List Cond := .code y_Bw_tableAt prog_1_method_11_code 2 (Option.some (Jvm.ClassFile.FieldType.object "BasisWalk$Table")) :: tb_w
def y_Bw_isField : MethodName := ⟨"BasisWalk", "isField", "(I)Z"⟩
def w_Bw_isField : List Cond := .code y_Bw_isField prog_1_method_15_code 2 (Option.some Jvm.ClassFile.FieldType.boolean) :: tb_w
def y_Bw_isLineCount : MethodName := ⟨"BasisWalk", "isLineCount", "(I)Z"⟩
def w_Bw_isLineCount : List Cond := .code y_Bw_isLineCount prog_1_method_13_code 1 (Option.some Jvm.ClassFile.FieldType.boolean) :: tb_w
def y_Ta_clear : MethodName := ⟨"BasisWalk$Table", "clear", "(III)V"⟩
def w_Ta_clear : List Cond := .code y_Ta_clear prog_5_method_2_code 4 (Option.none : Option Jvm.ClassFile.FieldType) :: tb_w
def y_Ar_fill : MethodName := ⟨"java/util/Arrays", "fill", "([II)V"⟩
def w_Ar_fill : List Cond := .code y_Ar_fill prog_11_method_103_code 4 (Option.none : Option Jvm.ClassFile.FieldType) :: tb_w
def y_Bw_put : MethodName := ⟨"BasisWalk", "put", "(IIII)Z"⟩
def w_Bw_put : List Cond := .code y_Bw_put prog_1_method_3_code 6 (Option.some Jvm.ClassFile.FieldType.boolean) :: tb_w
def y_Ta_hasPlace : MethodName := ⟨"BasisWalk$Table", "hasPlace", "(II)Z"⟩
def w_Ta_hasPlace : List Cond := .code y_Ta_hasPlace prog_5_method_3_code 3 (Option.some Jvm.ClassFile.FieldType.boolean) :: tb_w
def y_Ta_write : MethodName := ⟨"BasisWalk$Table", "write", "(III)V"⟩
def w_Ta_write : List Cond := .code y_Ta_write prog_5_method_5_code 4 (Option.none : Option Jvm.ClassFile.FieldType) :: tb_w
def y_Ma_floorMod_0 : MethodName := ⟨"java/lang/Math", "floorMod", "(II)I"⟩
def w_Ma_floorMod_0 : List Cond := .code y_Ma_floorMod_0 prog_10_method_50_code 3 (Option.some Jvm.ClassFile.FieldType.int) :: tb_w
def y_Bw_columns : MethodName := ⟨"BasisWalk", "columns", "(I)I"⟩
def w_Bw_columns : List Cond := .code y_Bw_columns prog_1_method_4_code 3 (Option.some Jvm.ClassFile.FieldType.int) :: tb_w
def y_Bw_rank : MethodName := ⟨"BasisWalk", "rank", "(II)I"⟩
def w_Bw_rank : List Cond := .code y_Bw_rank prog_1_method_5_code 4 (Option.some Jvm.ClassFile.FieldType.int) :: tb_w
def y_Ta_hasSet : MethodName := ⟨"BasisWalk$Table", "hasSet", "(I)Z"⟩
def w_Ta_hasSet : List Cond := .code y_Ta_hasSet prog_5_method_4_code 2 (Option.some Jvm.ClassFile.FieldType.boolean) :: tb_w
def y_Bw_studyOf : MethodName := ⟨"BasisWalk", "studyOf", "(LBasisWalk$Table;)LBasisWalk$Study;"⟩
def w_Bw_studyOf : List Cond := .code y_Bw_studyOf prog_1_method_12_code 2 (Option.some (Jvm.ClassFile.FieldType.object "BasisWalk$Study")) :: tb_w
def y_Or_fit : MethodName := ⟨"BasisWalk$Order", "fit", "(I)V"⟩
def w_Or_fit : List Cond := .code y_Or_fit prog_3_method_2_code 6 (Option.none : Option Jvm.ClassFile.FieldType) :: tb_w
def y_Bw_choose : MethodName := ⟨"BasisWalk", "choose", "(II)I"⟩
def w_Bw_choose : List Cond := .code y_Bw_choose prog_1_method_16_code 4 (Option.some Jvm.ClassFile.FieldType.int) :: tb_w
def y_In_bitCount : MethodName := ⟨"java/lang/Integer", "bitCount", "(I)I"⟩
def w_In_bitCount : List Cond := .code y_In_bitCount prog_9_method_49_code 1 (Option.some Jvm.ClassFile.FieldType.int) :: tb_w
def y_Or_oneLess : MethodName := ⟨"BasisWalk$Order", "oneLess", "(I)I"⟩
def w_Or_oneLess : List Cond := .code y_Or_oneLess prog_3_method_3_code 4 (Option.some Jvm.ClassFile.FieldType.int) :: tb_w
def y_St_learn : MethodName := ⟨"BasisWalk$Study", "learn", "(LBasisWalk$Table;LBasisWalk$Order;LBasisWalk$Minors;)V"⟩
def w_St_learn : List Cond := .code y_St_learn prog_4_method_2_code 4 (Option.none : Option Jvm.ClassFile.FieldType) :: tb_w
def y_St_makeRoom : MethodName := ⟨"BasisWalk$Study", "makeRoom", "()V"⟩
def w_St_makeRoom : List Cond := .code y_St_makeRoom prog_4_method_8_code 2 (Option.none : Option Jvm.ClassFile.FieldType) :: tb_w
def y_St_takeRows : MethodName := ⟨"BasisWalk$Study", "takeRows", "(LBasisWalk$Table;LBasisWalk$Order;LBasisWalk$Minors;)I"⟩
def w_St_takeRows : List Cond := .code y_St_takeRows prog_4_method_9_code 6 (Option.some Jvm.ClassFile.FieldType.int) :: tb_w
def y_Mi_restart : MethodName := ⟨"BasisWalk$Minors", "restart", "(I)V"⟩
def w_Mi_restart : List Cond := .code y_Mi_restart prog_2_method_2_code 2 (Option.none : Option Jvm.ClassFile.FieldType) :: tb_w
def y_Mi_takeRow : MethodName := ⟨"BasisWalk$Minors", "takeRow", "(LBasisWalk$Table;ILBasisWalk$Order;I)Z"⟩
def w_Mi_takeRow : List Cond := .code y_Mi_takeRow prog_2_method_3_code 8 (Option.some Jvm.ClassFile.FieldType.boolean) :: tb_w
def y_Mi_expand : MethodName := ⟨"BasisWalk$Minors", "expand", "(LBasisWalk$Table;II)V"⟩
def w_Mi_expand : List Cond := .code y_Mi_expand prog_2_method_5_code 15 (Option.none : Option Jvm.ClassFile.FieldType) :: tb_w
def y_Ma_floorMod_1 : MethodName := ⟨"java/lang/Math", "floorMod", "(JJ)J"⟩
def w_Ma_floorMod_1 : List Cond := .code y_Ma_floorMod_1 prog_10_method_52_code 6 (Option.some Jvm.ClassFile.FieldType.long) :: tb_w
def y_Mi_signOf : MethodName := ⟨"BasisWalk$Minors", "signOf", "(I)I"⟩
def w_Mi_signOf : List Cond := .code y_Mi_signOf prog_2_method_4_code 2 (Option.some Jvm.ClassFile.FieldType.int) :: tb_w
def y_St_learnSigns : MethodName := ⟨"BasisWalk$Study", "learnSigns", "(LBasisWalk$Order;LBasisWalk$Minors;)V"⟩
def w_St_learnSigns : List Cond := .code y_St_learnSigns prog_4_method_10_code 7 (Option.none : Option Jvm.ClassFile.FieldType) :: tb_w
def y_St_markIndependent : MethodName := ⟨"BasisWalk$Study", "markIndependent", "()V"⟩
def w_St_markIndependent : List Cond := .code y_St_markIndependent prog_4_method_11_code 4 (Option.none : Option Jvm.ClassFile.FieldType) :: tb_w
def y_St_hasIndependentAbove : MethodName := ⟨"BasisWalk$Study", "hasIndependentAbove", "(I)Z"⟩
def w_St_hasIndependentAbove : List Cond := .code y_St_hasIndependentAbove prog_4_method_12_code 4 (Option.some Jvm.ClassFile.FieldType.boolean) :: tb_w
def y_St_learnRanks : MethodName := ⟨"BasisWalk$Study", "learnRanks", "()V"⟩
def w_St_learnRanks : List Cond := .code y_St_learnRanks prog_4_method_13_code 2 (Option.none : Option Jvm.ClassFile.FieldType) :: tb_w
def y_St_greatestRankUnder : MethodName := ⟨"BasisWalk$Study", "greatestRankUnder", "(I)I"⟩
def w_St_greatestRankUnder : List Cond := .code y_St_greatestRankUnder prog_4_method_14_code 5 (Option.some Jvm.ClassFile.FieldType.int) :: tb_w
def y_St_learnDefects : MethodName := ⟨"BasisWalk$Study", "learnDefects", "()V"⟩
def w_St_learnDefects : List Cond := .code y_St_learnDefects prog_4_method_15_code 4 (Option.none : Option Jvm.ClassFile.FieldType) :: tb_w
def y_St_learnMembers : MethodName := ⟨"BasisWalk$Study", "learnMembers", "(LBasisWalk$Order;)V"⟩
def w_St_learnMembers : List Cond := .code y_St_learnMembers prog_4_method_16_code 6 (Option.none : Option Jvm.ClassFile.FieldType) :: tb_w
def y_St_isOfKind : MethodName := ⟨"BasisWalk$Study", "isOfKind", "(II)Z"⟩
def w_St_isOfKind : List Cond := .code y_St_isOfKind prog_4_method_17_code 3 (Option.some Jvm.ClassFile.FieldType.boolean) :: tb_w
def y_St_isCircuit : MethodName := ⟨"BasisWalk$Study", "isCircuit", "(I)Z"⟩
def w_St_isCircuit : List Cond := .code y_St_isCircuit prog_4_method_18_code 5 (Option.some Jvm.ClassFile.FieldType.boolean) :: tb_w
def y_St_isHyperplane : MethodName := ⟨"BasisWalk$Study", "isHyperplane", "(I)Z"⟩
def w_St_isHyperplane : List Cond := .code y_St_isHyperplane prog_4_method_19_code 2 (Option.some Jvm.ClassFile.FieldType.boolean) :: tb_w
def y_St_isFlat : MethodName := ⟨"BasisWalk$Study", "isFlat", "(I)Z"⟩
def w_St_isFlat : List Cond := .code y_St_isFlat prog_4_method_20_code 4 (Option.some Jvm.ClassFile.FieldType.boolean) :: tb_w
def y_Bw_count : MethodName := ⟨"BasisWalk", "count", "(II)I"⟩
def w_Bw_count : List Cond := .code y_Bw_count prog_1_method_6_code 4 (Option.some Jvm.ClassFile.FieldType.int) :: tb_w
def y_Bw_isKind : MethodName := ⟨"BasisWalk", "isKind", "(I)Z"⟩
def w_Bw_isKind : List Cond := .code y_Bw_isKind prog_1_method_14_code 1 (Option.some Jvm.ClassFile.FieldType.boolean) :: tb_w
def y_St_howMany : MethodName := ⟨"BasisWalk$Study", "howMany", "(I)I"⟩
def w_St_howMany : List Cond := .code y_St_howMany prog_4_method_3_code 2 (Option.some Jvm.ClassFile.FieldType.int) :: tb_w
def y_Bw_member : MethodName := ⟨"BasisWalk", "member", "(III)I"⟩
def w_Bw_member : List Cond := .code y_Bw_member prog_1_method_7_code 5 (Option.some Jvm.ClassFile.FieldType.int) :: tb_w
def y_St_memberAt : MethodName := ⟨"BasisWalk$Study", "memberAt", "(II)I"⟩
def w_St_memberAt : List Cond := .code y_St_memberAt prog_4_method_4_code 3 (Option.some Jvm.ClassFile.FieldType.int) :: tb_w
def y_Bw_tutte : MethodName := ⟨"BasisWalk", "tutte", "(III)J"⟩
def w_Bw_tutte : List Cond := .code y_Bw_tutte prog_1_method_8_code 5 (Option.some Jvm.ClassFile.FieldType.long) :: tb_w
def y_St_coefficient : MethodName := ⟨"BasisWalk$Study", "coefficient", "(II)J"⟩
def w_St_coefficient : List Cond := .code y_St_coefficient prog_4_method_5_code 9 (Option.some Jvm.ClassFile.FieldType.long) :: tb_w
def y_Bw_sign : MethodName := ⟨"BasisWalk", "sign", "(II)I"⟩
def w_Bw_sign : List Cond := .code y_Bw_sign prog_1_method_9_code 5 (Option.some Jvm.ClassFile.FieldType.int) :: tb_w
def y_Bw_below : MethodName := ⟨"BasisWalk", "below", "(II)I"⟩
def w_Bw_below : List Cond := .code y_Bw_below prog_1_method_10_code 6 (Option.some Jvm.ClassFile.FieldType.int) :: tb_w
def y_St_negativePart : MethodName := ⟨"BasisWalk$Study", "negativePart", "(I)I"⟩
def w_St_negativePart : List Cond := .code y_St_negativePart prog_4_method_6_code 9 (Option.some Jvm.ClassFile.FieldType.int) :: tb_w
def y_St_widened : MethodName := ⟨"BasisWalk$Study", "widened", "(I)I"⟩
def w_St_widened : List Cond := .code y_St_widened prog_4_method_7_code 4 (Option.some Jvm.ClassFile.FieldType.int) :: tb_w
def y_Mo_init : MethodName := ⟨"BasisWalkModel", "<init>", "()V"⟩
def w_Mo_init : List Cond := .code y_Mo_init prog_7_method_17_code 3 (Option.none : Option Jvm.ClassFile.FieldType) :: tb_w
def y_Nu_init : MethodName := ⟨"BasisWalkModel$Num", "<init>", "()V"⟩
def w_Nu_init : List Cond := .code y_Nu_init prog_8_method_1_code 1 (Option.none : Option Jvm.ClassFile.FieldType) :: tb_w
def y_Mo_list : MethodName := ⟨"BasisWalkModel", "list", "(IIII)I"⟩
def w_Mo_list : List Cond := .code y_Mo_list prog_7_method_19_code 7 (Option.some Jvm.ClassFile.FieldType.int) :: tb_w
def y_Mo_begin : MethodName := ⟨"BasisWalkModel", "begin", "(IIII)Z"⟩
def w_Mo_begin : List Cond := .code y_Mo_begin prog_7_method_22_code 6 (Option.some Jvm.ClassFile.FieldType.boolean) :: tb_w
def y_Mo_isTable : MethodName := ⟨"BasisWalkModel", "isTable", "(I)Z"⟩
def w_Mo_isTable : List Cond := .code y_Mo_isTable prog_7_method_20_code 1 (Option.some Jvm.ClassFile.FieldType.boolean) :: tb_w
def y_Mo_isField : MethodName := ⟨"BasisWalkModel", "isField", "(I)Z"⟩
def w_Mo_isField : List Cond := .code y_Mo_isField prog_7_method_21_code 3 (Option.some Jvm.ClassFile.FieldType.boolean) :: tb_w
def y_Mo_put : MethodName := ⟨"BasisWalkModel", "put", "(IIII)Z"⟩
def w_Mo_put : List Cond := .code y_Mo_put prog_7_method_23_code 5 (Option.some Jvm.ClassFile.FieldType.boolean) :: tb_w
def y_Mo_columns : MethodName := ⟨"BasisWalkModel", "columns", "(I)I"⟩
def w_Mo_columns : List Cond := .code y_Mo_columns prog_7_method_39_code 2 (Option.some Jvm.ClassFile.FieldType.int) :: tb_w
def y_Mo_rank : MethodName := ⟨"BasisWalkModel", "rank", "(II)I"⟩
def w_Mo_rank : List Cond := .code y_Mo_rank prog_7_method_40_code 3 (Option.some Jvm.ClassFile.FieldType.int) :: tb_w
def y_Mo_learn : MethodName := ⟨"BasisWalkModel", "learn", "(I)Z"⟩
def w_Mo_learn : List Cond := .code y_Mo_learn prog_7_method_24_code 4 (Option.some Jvm.ClassFile.FieldType.boolean) :: tb_w
def y_Mo_empty : MethodName := ⟨"BasisWalkModel", "empty", "(II)V"⟩
def w_Mo_empty : List Cond := .code y_Mo_empty prog_7_method_3_code 3 (Option.none : Option Jvm.ClassFile.FieldType) :: tb_w
def y_Mo_lay : MethodName := ⟨"BasisWalkModel", "lay", "(IIJ)V"⟩
def w_Mo_lay : List Cond := .code y_Mo_lay prog_7_method_4_code 5 (Option.none : Option Jvm.ClassFile.FieldType) :: tb_w
def y_Mo_at : MethodName := ⟨"BasisWalkModel", "at", "(II)LBasisWalkModel$Num;"⟩
def w_Mo_at : List Cond := .code y_Mo_at prog_7_method_2_code 3 (Option.some (Jvm.ClassFile.FieldType.object "BasisWalkModel$Num")) :: tb_w
def y_Nu_small : MethodName := ⟨"BasisWalkModel$Num", "small", "(J)V"⟩
def w_Nu_small : List Cond := .code y_Nu_small prog_8_method_4_code 5 (Option.none : Option Jvm.ClassFile.FieldType) :: tb_w
def y_Nu_zero : MethodName := ⟨"BasisWalkModel$Num", "zero", "()V"⟩
def w_Nu_zero : List Cond := .code y_Nu_zero prog_8_method_2_code 1 (Option.none : Option Jvm.ClassFile.FieldType) :: tb_w
def y_Mo_reduce : MethodName := ⟨"BasisWalkModel", "reduce", "()V"⟩
def w_Mo_reduce : List Cond := .code y_Mo_reduce prog_7_method_10_code 5 (Option.none : Option Jvm.ClassFile.FieldType) :: tb_w
def y_Mo_isZero : MethodName := ⟨"BasisWalkModel", "isZero", "(II)Z"⟩
def w_Mo_isZero : List Cond := .code y_Mo_isZero prog_7_method_5_code 3 (Option.some Jvm.ClassFile.FieldType.boolean) :: tb_w
def y_Mo_swap : MethodName := ⟨"BasisWalkModel", "swap", "(II)V"⟩
def w_Mo_swap : List Cond := .code y_Mo_swap prog_7_method_6_code 5 (Option.none : Option Jvm.ClassFile.FieldType) :: tb_w
def y_Nu_copy : MethodName := ⟨"BasisWalkModel$Num", "copy", "(LBasisWalkModel$Num;)V"⟩
def w_Nu_copy : List Cond := .code y_Nu_copy prog_8_method_3_code 3 (Option.none : Option Jvm.ClassFile.FieldType) :: tb_w
def y_Mo_take : MethodName := ⟨"BasisWalkModel", "take", "(III)V"⟩
def w_Mo_take : List Cond := .code y_Mo_take prog_7_method_8_code 7 (Option.none : Option Jvm.ClassFile.FieldType) :: tb_w
def y_Mo_inverse : MethodName := ⟨"BasisWalkModel", "inverse", "(I)I"⟩
def w_Mo_inverse : List Cond := .code y_Mo_inverse prog_7_method_7_code 3 (Option.some Jvm.ClassFile.FieldType.int) :: tb_w
def y_Nu_product : MethodName := ⟨"BasisWalkModel$Num", "product", "(LBasisWalkModel$Num;LBasisWalkModel$Num;)V"⟩
def w_Nu_product : List Cond := .code y_Nu_product prog_8_method_11_code 7 (Option.none : Option Jvm.ClassFile.FieldType) :: tb_w
def y_Nu_trim : MethodName := ⟨"BasisWalkModel$Num", "trim", "()V"⟩
def w_Nu_trim : List Cond := .code y_Nu_trim prog_8_method_8_code 1 (Option.none : Option Jvm.ClassFile.FieldType) :: tb_w
def y_Nu_less : MethodName := ⟨"BasisWalkModel$Num", "less", "(LBasisWalkModel$Num;LBasisWalkModel$Num;)V"⟩
def w_Nu_less : List Cond := .code y_Nu_less prog_8_method_10_code 10 (Option.none : Option Jvm.ClassFile.FieldType) :: tb_w
def y_Nu_compareSize : MethodName := ⟨"BasisWalkModel$Num", "compareSize", "(LBasisWalkModel$Num;)I"⟩
def w_Nu_compareSize : List Cond := .code y_Nu_compareSize prog_8_method_9_code 3 (Option.some Jvm.ClassFile.FieldType.int) :: tb_w
def y_Mo_shorten : MethodName := ⟨"BasisWalkModel", "shorten", "(I)V"⟩
def w_Mo_shorten : List Cond := .code y_Mo_shorten prog_7_method_9_code 3 (Option.none : Option Jvm.ClassFile.FieldType) :: tb_w
def y_Mo_divisor : MethodName := ⟨"BasisWalkModel", "divisor", "(LBasisWalkModel$Num;LBasisWalkModel$Num;)V"⟩
def w_Mo_divisor : List Cond := .code y_Mo_divisor prog_7_method_1_code 3 (Option.none : Option Jvm.ClassFile.FieldType) :: tb_w
def y_Nu_quotient : MethodName := ⟨"BasisWalkModel$Num", "quotient", "(LBasisWalkModel$Num;LBasisWalkModel$Num;LBasisWalkModel$Num;)V"⟩
def w_Nu_quotient : List Cond := .code y_Nu_quotient prog_8_method_12_code 6 (Option.none : Option Jvm.ClassFile.FieldType) :: tb_w
def y_Nu_often : MethodName := ⟨"BasisWalkModel$Num", "often", "(LBasisWalkModel$Num;LBasisWalkModel$Num;)I"⟩
def w_Nu_often : List Cond := .code y_Nu_often prog_8_method_13_code 9 (Option.some Jvm.ClassFile.FieldType.int) :: tb_w
def y_Nu_isAtMost : MethodName := ⟨"BasisWalkModel$Num", "isAtMost", "(LBasisWalkModel$Num;ILBasisWalkModel$Num;)Z"⟩
def w_Nu_isAtMost : List Cond := .code y_Nu_isAtMost prog_8_method_14_code 8 (Option.some Jvm.ClassFile.FieldType.boolean) :: tb_w
def y_Nu_isOne : MethodName := ⟨"BasisWalkModel$Num", "isOne", "()Z"⟩
def w_Nu_isOne : List Cond := .code y_Nu_isOne prog_8_method_5_code 1 (Option.some Jvm.ClassFile.FieldType.boolean) :: tb_w
def y_Mo_settle : MethodName := ⟨"BasisWalkModel", "settle", "(I)V"⟩
def w_Mo_settle : List Cond := .code y_Mo_settle prog_7_method_11_code 4 (Option.none : Option Jvm.ClassFile.FieldType) :: tb_w
def y_Nu_turn : MethodName := ⟨"BasisWalkModel$Num", "turn", "()V"⟩
def w_Nu_turn : List Cond := .code y_Nu_turn prog_8_method_7_code 1 (Option.none : Option Jvm.ClassFile.FieldType) :: tb_w
def y_Mo_measure : MethodName := ⟨"BasisWalkModel", "measure", "(I)V"⟩
def w_Mo_measure : List Cond := .code y_Mo_measure prog_7_method_25_code 8 (Option.none : Option Jvm.ClassFile.FieldType) :: tb_w
def y_Mo_minorOf : MethodName := ⟨"BasisWalkModel", "minorOf", "(I)I"⟩
def w_Mo_minorOf : List Cond := .code y_Mo_minorOf prog_7_method_12_code 7 (Option.some Jvm.ClassFile.FieldType.int) :: tb_w
def y_Mo_placeOf : MethodName := ⟨"BasisWalkModel", "placeOf", "([III)I"⟩
def w_Mo_placeOf : List Cond := .code y_Mo_placeOf prog_7_method_13_code 4 (Option.some Jvm.ClassFile.FieldType.int) :: tb_w
def y_Mo_remove : MethodName := ⟨"BasisWalkModel", "remove", "([III)V"⟩
def w_Mo_remove : List Cond := .code y_Mo_remove prog_7_method_14_code 4 (Option.none : Option Jvm.ClassFile.FieldType) :: tb_w
def y_Mo_smallDeterminant : MethodName := ⟨"BasisWalkModel", "smallDeterminant", "(I)I"⟩
def w_Mo_smallDeterminant : List Cond := .code y_Mo_smallDeterminant prog_7_method_15_code 8 (Option.some Jvm.ClassFile.FieldType.int) :: tb_w
def y_Mo_determinant : MethodName := ⟨"BasisWalkModel", "determinant", "(I)I"⟩
def w_Mo_determinant : List Cond := .code y_Mo_determinant prog_7_method_16_code 7 (Option.some Jvm.ClassFile.FieldType.int) :: tb_w
def y_Nu_sign : MethodName := ⟨"BasisWalkModel$Num", "sign", "()I"⟩
def w_Nu_sign : List Cond := .code y_Nu_sign prog_8_method_6_code 1 (Option.some Jvm.ClassFile.FieldType.int) :: tb_w
def y_Mo_whole : MethodName := ⟨"BasisWalkModel", "whole", "(I)I"⟩
def w_Mo_whole : List Cond := .code y_Mo_whole prog_7_method_27_code 2 (Option.some Jvm.ClassFile.FieldType.int) :: tb_w
def y_Mo_r : MethodName := ⟨"BasisWalkModel", "\x72", "(II)I"⟩
def w_Mo_r : List Cond := .code y_Mo_r prog_7_method_26_code 3 (Option.some Jvm.ClassFile.FieldType.int) :: tb_w
def y_Mo_count : MethodName := ⟨"BasisWalkModel", "count", "(II)I"⟩
def w_Mo_count : List Cond := .code y_Mo_count prog_7_method_41_code 3 (Option.some Jvm.ClassFile.FieldType.int) :: tb_w
def y_Mo_howMany : MethodName := ⟨"BasisWalkModel", "howMany", "(II)I"⟩
def w_Mo_howMany : List Cond := .code y_Mo_howMany prog_7_method_33_code 5 (Option.some Jvm.ClassFile.FieldType.int) :: tb_w
def y_Mo_isOf : MethodName := ⟨"BasisWalkModel", "isOf", "(III)Z"⟩
def w_Mo_isOf : List Cond := .code y_Mo_isOf prog_7_method_32_code 4 (Option.some Jvm.ClassFile.FieldType.boolean) :: tb_w
def y_Mo_isFree : MethodName := ⟨"BasisWalkModel", "isFree", "(II)Z"⟩
def w_Mo_isFree : List Cond := .code y_Mo_isFree prog_7_method_28_code 3 (Option.some Jvm.ClassFile.FieldType.boolean) :: tb_w
def y_Mo_isFlat : MethodName := ⟨"BasisWalkModel", "isFlat", "(II)Z"⟩
def w_Mo_isFlat : List Cond := .code y_Mo_isFlat prog_7_method_31_code 5 (Option.some Jvm.ClassFile.FieldType.boolean) :: tb_w
def y_Mo_isCircuit : MethodName := ⟨"BasisWalkModel", "isCircuit", "(IIZ)Z"⟩
def w_Mo_isCircuit : List Cond := .code y_Mo_isCircuit prog_7_method_30_code 7 (Option.some Jvm.ClassFile.FieldType.boolean) :: tb_w
def y_Mo_dualRank : MethodName := ⟨"BasisWalkModel", "dualRank", "(II)I"⟩
def w_Mo_dualRank : List Cond := .code y_Mo_dualRank prog_7_method_29_code 3 (Option.some Jvm.ClassFile.FieldType.int) :: tb_w
def y_Mo_member : MethodName := ⟨"BasisWalkModel", "member", "(III)I"⟩
def w_Mo_member : List Cond := .code y_Mo_member prog_7_method_42_code 4 (Option.some Jvm.ClassFile.FieldType.int) :: tb_w
def y_Mo_theOne : MethodName := ⟨"BasisWalkModel", "theOne", "(III)I"⟩
def w_Mo_theOne : List Cond := .code y_Mo_theOne prog_7_method_34_code 6 (Option.some Jvm.ClassFile.FieldType.int) :: tb_w
def y_Mo_tutte : MethodName := ⟨"BasisWalkModel", "tutte", "(III)J"⟩
def w_Mo_tutte : List Cond := .code y_Mo_tutte prog_7_method_43_code 4 (Option.some Jvm.ClassFile.FieldType.long) :: tb_w
def y_Mo_polynomial : MethodName := ⟨"BasisWalkModel", "polynomial", "(I)V"⟩
def w_Mo_polynomial : List Cond := .code y_Mo_polynomial prog_7_method_35_code 9 (Option.none : Option Jvm.ClassFile.FieldType) :: tb_w
def y_Mo_sign : MethodName := ⟨"BasisWalkModel", "sign", "(II)I"⟩
def w_Mo_sign : List Cond := .code y_Mo_sign prog_7_method_44_code 4 (Option.some Jvm.ClassFile.FieldType.int) :: tb_w
def y_Mo_below : MethodName := ⟨"BasisWalkModel", "below", "(II)I"⟩
def w_Mo_below : List Cond := .code y_Mo_below prog_7_method_45_code 4 (Option.some Jvm.ClassFile.FieldType.int) :: tb_w
def y_Mo_belowOf : MethodName := ⟨"BasisWalkModel", "belowOf", "(II)I"⟩
def w_Mo_belowOf : List Cond := .code y_Mo_belowOf prog_7_method_37_code 11 (Option.some Jvm.ClassFile.FieldType.int) :: tb_w
def y_Mo_determinantOf : MethodName := ⟨"BasisWalkModel", "determinantOf", "(III)I"⟩
def w_Mo_determinantOf : List Cond := .code y_Mo_determinantOf prog_7_method_38_code 7 (Option.some Jvm.ClassFile.FieldType.int) :: tb_w
def y_Mo_isEven : MethodName := ⟨"BasisWalkModel", "isEven", "([II)Z"⟩
def w_Mo_isEven : List Cond := .code y_Mo_isEven prog_7_method_36_code 5 (Option.some Jvm.ClassFile.FieldType.boolean) :: tb_w
end
section
def tc_0 : List Cond := [(Jvm.Cond.initialized "BasisWalkLaw"), (Jvm.Cond.initialized "BasisWalk"), (Jvm.Cond.initialized "BasisWalk$Table"), (Jvm.Cond.initialized "BasisWalk$Study"), (Jvm.Cond.initialized "BasisWalk$Order"), (Jvm.Cond.initialized "BasisWalk$Minors"), (Jvm.Cond.initialized "BasisWalkModel"), (Jvm.Cond.initialized "BasisWalkModel$Num"), (Jvm.Cond.initialized "java/util/Arrays"), (Jvm.Cond.initialized "java/lang/Math"), (Jvm.Cond.initialized "java/lang/Integer"), (Jvm.Cond.classLink "BasisWalkLaw" (7 : Nat) "BasisWalk"), (Jvm.Cond.instantiable "BasisWalk" (3 : Nat)), (Jvm.Cond.methodLink "BasisWalkLaw" (9 : Nat) ({ cls := "BasisWalk", name := "<init>", desc := "()V" } : Jvm.MethodName)), (Jvm.Cond.instanceMethod ({ cls := "BasisWalk", name := "<init>", desc := "()V" } : Jvm.MethodName)), (Jvm.Cond.code ({ cls := "BasisWalk", name := "<init>", desc := "()V" } : Jvm.MethodName) prog_1_method_1_code (2 : Nat) (Option.none : Option Jvm.ClassFile.FieldType)), (Jvm.Cond.methodLink "BasisWalk" (3 : Nat) ({ cls := "java/lang/Object", name := "<init>", desc := "()V" } : Jvm.MethodName)), (Jvm.Cond.instanceMethod ({ cls := "java/lang/Object", name := "<init>", desc := "()V" } : Jvm.MethodName)), (Jvm.Cond.code ({ cls := "java/lang/Object", name := "<init>", desc := "()V" } : Jvm.MethodName) object_method_1_code (1 : Nat) (Option.none : Option Jvm.ClassFile.FieldType)), (Jvm.Cond.classLink "BasisWalk" (9 : Nat) "BasisWalk$Table")]
def tc_1 : List Cond := [(Jvm.Cond.arrayOver (Jvm.ClassFile.FieldType.object "BasisWalk$Table")), (Jvm.Cond.instantiable "BasisWalk$Table" (6 : Nat)), (Jvm.Cond.methodLink "BasisWalk" (15 : Nat) ({ cls := "BasisWalk$Table", name := "<init>", desc := "()V" } : Jvm.MethodName)), (Jvm.Cond.instanceMethod ({ cls := "BasisWalk$Table", name := "<init>", desc := "()V" } : Jvm.MethodName)), (Jvm.Cond.code ({ cls := "BasisWalk$Table", name := "<init>", desc := "()V" } : Jvm.MethodName) prog_5_method_1_code (1 : Nat) (Option.none : Option Jvm.ClassFile.FieldType)), (Jvm.Cond.methodLink "BasisWalk$Table" (3 : Nat) ({ cls := "java/lang/Object", name := "<init>", desc := "()V" } : Jvm.MethodName)), (Jvm.Cond.classLink "BasisWalk$Table" (15 : Nat) "BasisWalk$Study"), (Jvm.Cond.instantiable "BasisWalk$Study" (7 : Nat)), (Jvm.Cond.methodLink "BasisWalk$Table" (17 : Nat) ({ cls := "BasisWalk$Study", name := "<init>", desc := "()V" } : Jvm.MethodName)), (Jvm.Cond.instanceMethod ({ cls := "BasisWalk$Study", name := "<init>", desc := "()V" } : Jvm.MethodName)), (Jvm.Cond.code ({ cls := "BasisWalk$Study", name := "<init>", desc := "()V" } : Jvm.MethodName) prog_4_method_1_code (1 : Nat) (Option.none : Option Jvm.ClassFile.FieldType)), (Jvm.Cond.methodLink "BasisWalk$Study" (3 : Nat) ({ cls := "java/lang/Object", name := "<init>", desc := "()V" } : Jvm.MethodName)), (Jvm.Cond.fieldLink "BasisWalk$Study" (33 : Nat) "BasisWalk$Study" "columnCount" "I"), (Jvm.Cond.fieldLink "BasisWalk$Study" (41 : Nat) "BasisWalk$Study" "fullRank" "I"), (Jvm.Cond.fieldLinkNest "BasisWalk" (92 : Nat) "BasisWalk$Study" "fullRank" "I" "BasisWalk"), (Jvm.Cond.fieldLink "BasisWalk$Study" (9 : Nat) "BasisWalk$Study" "ranks" "[I"), (Jvm.Cond.fieldLinkNest "BasisWalk" (63 : Nat) "BasisWalk$Study" "ranks" "[I" "BasisWalk"), (Jvm.Cond.fieldLink "BasisWalk$Study" (15 : Nat) "BasisWalk$Study" "signs" "[I"), (Jvm.Cond.fieldLinkNest "BasisWalk" (95 : Nat) "BasisWalk$Study" "signs" "[I" "BasisWalk"), (Jvm.Cond.fieldLink "BasisWalk$Study" (18 : Nat) "BasisWalk$Study" "members" "[I")]
def tc_2 : List Cond := [(Jvm.Cond.fieldLink "BasisWalk$Study" (21 : Nat) "BasisWalk$Study" "starts" "[I"), (Jvm.Cond.fieldLink "BasisWalk$Study" (24 : Nat) "BasisWalk$Study" "defects" "[I"), (Jvm.Cond.lays "BasisWalk$Study" "BasisWalk$Study" "columnCount" "I"), (Jvm.Cond.soleField "BasisWalk$Study" "columnCount"), (Jvm.Cond.lays "BasisWalk$Study" "BasisWalk$Study" "fullRank" "I"), (Jvm.Cond.soleField "BasisWalk$Study" "fullRank"), (Jvm.Cond.lays "BasisWalk$Study" "BasisWalk$Study" "ranks" "[I"), (Jvm.Cond.soleField "BasisWalk$Study" "ranks"), (Jvm.Cond.lays "BasisWalk$Study" "BasisWalk$Study" "signs" "[I"), (Jvm.Cond.soleField "BasisWalk$Study" "signs"), (Jvm.Cond.lays "BasisWalk$Study" "BasisWalk$Study" "members" "[I"), (Jvm.Cond.soleField "BasisWalk$Study" "members"), (Jvm.Cond.laysFinal "BasisWalk$Study" "BasisWalk$Study" "starts" "[I"), (Jvm.Cond.soleField "BasisWalk$Study" "starts"), (Jvm.Cond.laysFinal "BasisWalk$Study" "BasisWalk$Study" "defects" "[I"), (Jvm.Cond.soleField "BasisWalk$Study" "defects"), (Jvm.Cond.superclass "BasisWalk$Study" "java/lang/Object"), (Jvm.Cond.arrayClass Jvm.ClassFile.FieldType.int), (Jvm.Cond.fieldLink "BasisWalk$Table" (22 : Nat) "BasisWalk$Table" "field" "I"), (Jvm.Cond.fieldLinkNest "BasisWalk$Minors" (47 : Nat) "BasisWalk$Table" "field" "I" "BasisWalk")]
def tc_3 : List Cond := [(Jvm.Cond.fieldLinkNest "BasisWalk" (84 : Nat) "BasisWalk$Table" "field" "I" "BasisWalk"), (Jvm.Cond.fieldLink "BasisWalk$Table" (26 : Nat) "BasisWalk$Table" "rowCount" "I"), (Jvm.Cond.fieldLinkNest "BasisWalk$Study" (78 : Nat) "BasisWalk$Table" "rowCount" "I" "BasisWalk"), (Jvm.Cond.fieldLinkNest "BasisWalk$Study" (27 : Nat) "BasisWalk$Table" "columnCount" "I" "BasisWalk"), (Jvm.Cond.fieldLink "BasisWalk$Table" (29 : Nat) "BasisWalk$Table" "columnCount" "I"), (Jvm.Cond.fieldLinkNest "BasisWalk" (52 : Nat) "BasisWalk$Table" "columnCount" "I" "BasisWalk"), (Jvm.Cond.fieldLinkNest "BasisWalk$Minors" (38 : Nat) "BasisWalk$Table" "columnCount" "I" "BasisWalk"), (Jvm.Cond.fieldLink "BasisWalk$Table" (9 : Nat) "BasisWalk$Table" "numbers" "[I"), (Jvm.Cond.fieldLinkNest "BasisWalk$Minors" (44 : Nat) "BasisWalk$Table" "numbers" "[I" "BasisWalk"), (Jvm.Cond.fieldLink "BasisWalk$Table" (38 : Nat) "BasisWalk$Table" "studied" "Z"), (Jvm.Cond.fieldLinkNest "BasisWalk" (101 : Nat) "BasisWalk$Table" "studied" "Z" "BasisWalk"), (Jvm.Cond.fieldLink "BasisWalk$Table" (18 : Nat) "BasisWalk$Table" "study" "LBasisWalk$Study;"), (Jvm.Cond.fieldLinkNest "BasisWalk" (109 : Nat) "BasisWalk$Table" "study" "LBasisWalk$Study;" "BasisWalk"), (Jvm.Cond.lays "BasisWalk$Table" "BasisWalk$Table" "field" "I"), (Jvm.Cond.soleField "BasisWalk$Table" "field"), (Jvm.Cond.lays "BasisWalk$Table" "BasisWalk$Table" "rowCount" "I"), (Jvm.Cond.soleField "BasisWalk$Table" "rowCount"), (Jvm.Cond.lays "BasisWalk$Table" "BasisWalk$Table" "columnCount" "I"), (Jvm.Cond.soleField "BasisWalk$Table" "columnCount"), (Jvm.Cond.laysFinal "BasisWalk$Table" "BasisWalk$Table" "numbers" "[I")]
def tc_4 : List Cond := [(Jvm.Cond.soleField "BasisWalk$Table" "numbers"), (Jvm.Cond.lays "BasisWalk$Table" "BasisWalk$Table" "studied" "Z"), (Jvm.Cond.soleField "BasisWalk$Table" "studied"), (Jvm.Cond.laysFinal "BasisWalk$Table" "BasisWalk$Table" "study" "LBasisWalk$Study;"), (Jvm.Cond.soleField "BasisWalk$Table" "study"), (Jvm.Cond.superclass "BasisWalk$Table" "java/lang/Object"), (Jvm.Cond.classLink "BasisWalk" (16 : Nat) "BasisWalk$Order"), (Jvm.Cond.instantiable "BasisWalk$Order" (4 : Nat)), (Jvm.Cond.methodLink "BasisWalk" (18 : Nat) ({ cls := "BasisWalk$Order", name := "<init>", desc := "()V" } : Jvm.MethodName)), (Jvm.Cond.instanceMethod ({ cls := "BasisWalk$Order", name := "<init>", desc := "()V" } : Jvm.MethodName)), (Jvm.Cond.code ({ cls := "BasisWalk$Order", name := "<init>", desc := "()V" } : Jvm.MethodName) prog_3_method_1_code (1 : Nat) (Option.none : Option Jvm.ClassFile.FieldType)), (Jvm.Cond.methodLink "BasisWalk$Order" (3 : Nat) ({ cls := "java/lang/Object", name := "<init>", desc := "()V" } : Jvm.MethodName)), (Jvm.Cond.fieldLink "BasisWalk$Order" (21 : Nat) "BasisWalk$Order" "columnCount" "I"), (Jvm.Cond.fieldLink "BasisWalk$Order" (9 : Nat) "BasisWalk$Order" "sets" "[I"), (Jvm.Cond.fieldLinkNest "BasisWalk$Minors" (27 : Nat) "BasisWalk$Order" "sets" "[I" "BasisWalk"), (Jvm.Cond.fieldLinkNest "BasisWalk$Study" (88 : Nat) "BasisWalk$Order" "sets" "[I" "BasisWalk"), (Jvm.Cond.fieldLink "BasisWalk$Order" (15 : Nat) "BasisWalk$Order" "starts" "[I"), (Jvm.Cond.fieldLinkNest "BasisWalk$Minors" (21 : Nat) "BasisWalk$Order" "starts" "[I" "BasisWalk"), (Jvm.Cond.fieldLinkNest "BasisWalk$Study" (85 : Nat) "BasisWalk$Order" "starts" "[I" "BasisWalk"), (Jvm.Cond.fieldLink "BasisWalk$Order" (18 : Nat) "BasisWalk$Order" "nexts" "[I")]
def tc_5 : List Cond := [(Jvm.Cond.lays "BasisWalk$Order" "BasisWalk$Order" "columnCount" "I"), (Jvm.Cond.soleField "BasisWalk$Order" "columnCount"), (Jvm.Cond.lays "BasisWalk$Order" "BasisWalk$Order" "sets" "[I"), (Jvm.Cond.soleField "BasisWalk$Order" "sets"), (Jvm.Cond.laysFinal "BasisWalk$Order" "BasisWalk$Order" "starts" "[I"), (Jvm.Cond.soleField "BasisWalk$Order" "starts"), (Jvm.Cond.laysFinal "BasisWalk$Order" "BasisWalk$Order" "nexts" "[I"), (Jvm.Cond.soleField "BasisWalk$Order" "nexts"), (Jvm.Cond.superclass "BasisWalk$Order" "java/lang/Object"), (Jvm.Cond.classLink "BasisWalk" (23 : Nat) "BasisWalk$Minors"), (Jvm.Cond.instantiable "BasisWalk$Minors" (3 : Nat)), (Jvm.Cond.methodLink "BasisWalk" (25 : Nat) ({ cls := "BasisWalk$Minors", name := "<init>", desc := "()V" } : Jvm.MethodName)), (Jvm.Cond.instanceMethod ({ cls := "BasisWalk$Minors", name := "<init>", desc := "()V" } : Jvm.MethodName)), (Jvm.Cond.code ({ cls := "BasisWalk$Minors", name := "<init>", desc := "()V" } : Jvm.MethodName) prog_2_method_1_code (1 : Nat) (Option.none : Option Jvm.ClassFile.FieldType)), (Jvm.Cond.methodLink "BasisWalk$Minors" (5 : Nat) ({ cls := "java/lang/Object", name := "<init>", desc := "()V" } : Jvm.MethodName)), (Jvm.Cond.fieldLink "BasisWalk$Minors" (11 : Nat) "BasisWalk$Minors" "low" "[J"), (Jvm.Cond.fieldLink "BasisWalk$Minors" (15 : Nat) "BasisWalk$Minors" "middle" "[J"), (Jvm.Cond.fieldLink "BasisWalk$Minors" (18 : Nat) "BasisWalk$Minors" "high" "[J"), (Jvm.Cond.lays "BasisWalk$Minors" "BasisWalk$Minors" "low" "[J"), (Jvm.Cond.soleField "BasisWalk$Minors" "low")]
def tc_6 : List Cond := [(Jvm.Cond.lays "BasisWalk$Minors" "BasisWalk$Minors" "middle" "[J"), (Jvm.Cond.soleField "BasisWalk$Minors" "middle"), (Jvm.Cond.lays "BasisWalk$Minors" "BasisWalk$Minors" "high" "[J"), (Jvm.Cond.soleField "BasisWalk$Minors" "high"), (Jvm.Cond.superclass "BasisWalk$Minors" "java/lang/Object"), (Jvm.Cond.arrayClass Jvm.ClassFile.FieldType.long), (Jvm.Cond.fieldLink "BasisWalk" (11 : Nat) "BasisWalk" "tables" "[LBasisWalk$Table;"), (Jvm.Cond.fieldLink "BasisWalk" (19 : Nat) "BasisWalk" "order" "LBasisWalk$Order;"), (Jvm.Cond.fieldLink "BasisWalk" (26 : Nat) "BasisWalk" "minors" "LBasisWalk$Minors;"), (Jvm.Cond.laysFinal "BasisWalk" "BasisWalk" "tables" "[LBasisWalk$Table;"), (Jvm.Cond.soleField "BasisWalk" "tables"), (Jvm.Cond.laysFinal "BasisWalk" "BasisWalk" "order" "LBasisWalk$Order;"), (Jvm.Cond.soleField "BasisWalk" "order"), (Jvm.Cond.laysFinal "BasisWalk" "BasisWalk" "minors" "LBasisWalk$Minors;"), (Jvm.Cond.soleField "BasisWalk" "minors"), (Jvm.Cond.superclass "BasisWalk" "java/lang/Object"), (Jvm.Cond.methodLink "BasisWalkLaw" (13 : Nat) ({ cls := "BasisWalk", name := "begin", desc := "(IIII)Z" } : Jvm.MethodName)), (Jvm.Cond.instanceMethod ({ cls := "BasisWalk", name := "begin", desc := "(IIII)Z" } : Jvm.MethodName)), (Jvm.Cond.selects "BasisWalk" ({ cls := "BasisWalk", name := "begin", desc := "(IIII)Z" } : Jvm.MethodName) ({ cls := "BasisWalk", name := "begin", desc := "(IIII)Z" } : Jvm.MethodName)), (Jvm.Cond.code ({ cls := "BasisWalk", name := "begin", desc := "(IIII)Z" } : Jvm.MethodName) prog_1_method_2_code (6 : Nat) (Option.some Jvm.ClassFile.FieldType.boolean))]
def tc_7 : List Cond := [(Jvm.Cond.methodLink "BasisWalk" (30 : Nat) ({ cls := "BasisWalk", name := "tableAt", desc := "(I)LBasisWalk$Table;" } : Jvm.MethodName)), (Jvm.Cond.privateMethod ({ cls := "BasisWalk", name := "tableAt", desc := "(I)LBasisWalk$Table;" } : Jvm.MethodName)), (Jvm.Cond.instanceMethod ({ cls := "BasisWalk", name := "tableAt", desc := "(I)LBasisWalk$Table;" } : Jvm.MethodName)), (Jvm.Cond.code ({ cls := "BasisWalk", name := "tableAt", desc := "(I)LBasisWalk$Table;" } : Jvm.MethodName) prog_1_method_11_code (2 : Nat) (Option.some (Jvm.ClassFile.FieldType.object "BasisWalk$Table"))), (Jvm.Cond.methodLink "BasisWalk" (34 : Nat) ({ cls := "BasisWalk", name := "isField", desc := "(I)Z" } : Jvm.MethodName)), (Jvm.Cond.static ({ cls := "BasisWalk", name := "isField", desc := "(I)Z" } : Jvm.MethodName)), (Jvm.Cond.code ({ cls := "BasisWalk", name := "isField", desc := "(I)Z" } : Jvm.MethodName) prog_1_method_15_code (2 : Nat) (Option.some Jvm.ClassFile.FieldType.boolean)), (Jvm.Cond.methodLink "BasisWalk" (38 : Nat) ({ cls := "BasisWalk", name := "isLineCount", desc := "(I)Z" } : Jvm.MethodName)), (Jvm.Cond.static ({ cls := "BasisWalk", name := "isLineCount", desc := "(I)Z" } : Jvm.MethodName)), (Jvm.Cond.code ({ cls := "BasisWalk", name := "isLineCount", desc := "(I)Z" } : Jvm.MethodName) prog_1_method_13_code (1 : Nat) (Option.some Jvm.ClassFile.FieldType.boolean)), (Jvm.Cond.methodLink "BasisWalk" (41 : Nat) ({ cls := "BasisWalk$Table", name := "clear", desc := "(III)V" } : Jvm.MethodName)), (Jvm.Cond.instanceMethod ({ cls := "BasisWalk$Table", name := "clear", desc := "(III)V" } : Jvm.MethodName)), (Jvm.Cond.selects "BasisWalk$Table" ({ cls := "BasisWalk$Table", name := "clear", desc := "(III)V" } : Jvm.MethodName) ({ cls := "BasisWalk$Table", name := "clear", desc := "(III)V" } : Jvm.MethodName)), (Jvm.Cond.code ({ cls := "BasisWalk$Table", name := "clear", desc := "(III)V" } : Jvm.MethodName) prog_5_method_2_code (4 : Nat) (Option.none : Option Jvm.ClassFile.FieldType)), (Jvm.Cond.methodLink "BasisWalk$Table" (32 : Nat) ({ cls := "java/util/Arrays", name := "fill", desc := "([II)V" } : Jvm.MethodName)), (Jvm.Cond.static ({ cls := "java/util/Arrays", name := "fill", desc := "([II)V" } : Jvm.MethodName)), (Jvm.Cond.code ({ cls := "java/util/Arrays", name := "fill", desc := "([II)V" } : Jvm.MethodName) prog_11_method_103_code (4 : Nat) (Option.none : Option Jvm.ClassFile.FieldType)), (Jvm.Cond.methodLink "BasisWalkLaw" (18 : Nat) ({ cls := "BasisWalk", name := "put", desc := "(IIII)Z" } : Jvm.MethodName)), (Jvm.Cond.instanceMethod ({ cls := "BasisWalk", name := "put", desc := "(IIII)Z" } : Jvm.MethodName)), (Jvm.Cond.selects "BasisWalk" ({ cls := "BasisWalk", name := "put", desc := "(IIII)Z" } : Jvm.MethodName) ({ cls := "BasisWalk", name := "put", desc := "(IIII)Z" } : Jvm.MethodName))]
def tc_8 : List Cond := [(Jvm.Cond.code ({ cls := "BasisWalk", name := "put", desc := "(IIII)Z" } : Jvm.MethodName) prog_1_method_3_code (6 : Nat) (Option.some Jvm.ClassFile.FieldType.boolean)), (Jvm.Cond.methodLink "BasisWalk" (45 : Nat) ({ cls := "BasisWalk$Table", name := "hasPlace", desc := "(II)Z" } : Jvm.MethodName)), (Jvm.Cond.instanceMethod ({ cls := "BasisWalk$Table", name := "hasPlace", desc := "(II)Z" } : Jvm.MethodName)), (Jvm.Cond.selects "BasisWalk$Table" ({ cls := "BasisWalk$Table", name := "hasPlace", desc := "(II)Z" } : Jvm.MethodName) ({ cls := "BasisWalk$Table", name := "hasPlace", desc := "(II)Z" } : Jvm.MethodName)), (Jvm.Cond.code ({ cls := "BasisWalk$Table", name := "hasPlace", desc := "(II)Z" } : Jvm.MethodName) prog_5_method_3_code (3 : Nat) (Option.some Jvm.ClassFile.FieldType.boolean)), (Jvm.Cond.methodLink "BasisWalk" (49 : Nat) ({ cls := "BasisWalk$Table", name := "write", desc := "(III)V" } : Jvm.MethodName)), (Jvm.Cond.instanceMethod ({ cls := "BasisWalk$Table", name := "write", desc := "(III)V" } : Jvm.MethodName)), (Jvm.Cond.selects "BasisWalk$Table" ({ cls := "BasisWalk$Table", name := "write", desc := "(III)V" } : Jvm.MethodName) ({ cls := "BasisWalk$Table", name := "write", desc := "(III)V" } : Jvm.MethodName)), (Jvm.Cond.code ({ cls := "BasisWalk$Table", name := "write", desc := "(III)V" } : Jvm.MethodName) prog_5_method_5_code (4 : Nat) (Option.none : Option Jvm.ClassFile.FieldType)), (Jvm.Cond.methodLink "BasisWalk$Table" (42 : Nat) ({ cls := "java/lang/Math", name := "floorMod", desc := "(II)I" } : Jvm.MethodName)), (Jvm.Cond.static ({ cls := "java/lang/Math", name := "floorMod", desc := "(II)I" } : Jvm.MethodName)), (Jvm.Cond.code ({ cls := "java/lang/Math", name := "floorMod", desc := "(II)I" } : Jvm.MethodName) prog_10_method_50_code (3 : Nat) (Option.some Jvm.ClassFile.FieldType.int)), (Jvm.Cond.methodLink "BasisWalkLaw" (22 : Nat) ({ cls := "BasisWalk", name := "columns", desc := "(I)I" } : Jvm.MethodName)), (Jvm.Cond.instanceMethod ({ cls := "BasisWalk", name := "columns", desc := "(I)I" } : Jvm.MethodName)), (Jvm.Cond.selects "BasisWalk" ({ cls := "BasisWalk", name := "columns", desc := "(I)I" } : Jvm.MethodName) ({ cls := "BasisWalk", name := "columns", desc := "(I)I" } : Jvm.MethodName)), (Jvm.Cond.code ({ cls := "BasisWalk", name := "columns", desc := "(I)I" } : Jvm.MethodName) prog_1_method_4_code (3 : Nat) (Option.some Jvm.ClassFile.FieldType.int)), (Jvm.Cond.methodLink "BasisWalkLaw" (27 : Nat) ({ cls := "BasisWalk", name := "rank", desc := "(II)I" } : Jvm.MethodName)), (Jvm.Cond.instanceMethod ({ cls := "BasisWalk", name := "rank", desc := "(II)I" } : Jvm.MethodName)), (Jvm.Cond.selects "BasisWalk" ({ cls := "BasisWalk", name := "rank", desc := "(II)I" } : Jvm.MethodName) ({ cls := "BasisWalk", name := "rank", desc := "(II)I" } : Jvm.MethodName)), (Jvm.Cond.code ({ cls := "BasisWalk", name := "rank", desc := "(II)I" } : Jvm.MethodName) prog_1_method_5_code (4 : Nat) (Option.some Jvm.ClassFile.FieldType.int))]
def tc_9 : List Cond := [(Jvm.Cond.methodLink "BasisWalk" (56 : Nat) ({ cls := "BasisWalk$Table", name := "hasSet", desc := "(I)Z" } : Jvm.MethodName)), (Jvm.Cond.instanceMethod ({ cls := "BasisWalk$Table", name := "hasSet", desc := "(I)Z" } : Jvm.MethodName)), (Jvm.Cond.selects "BasisWalk$Table" ({ cls := "BasisWalk$Table", name := "hasSet", desc := "(I)Z" } : Jvm.MethodName) ({ cls := "BasisWalk$Table", name := "hasSet", desc := "(I)Z" } : Jvm.MethodName)), (Jvm.Cond.code ({ cls := "BasisWalk$Table", name := "hasSet", desc := "(I)Z" } : Jvm.MethodName) prog_5_method_4_code (2 : Nat) (Option.some Jvm.ClassFile.FieldType.boolean)), (Jvm.Cond.methodLink "BasisWalk" (59 : Nat) ({ cls := "BasisWalk", name := "studyOf", desc := "(LBasisWalk$Table;)LBasisWalk$Study;" } : Jvm.MethodName)), (Jvm.Cond.privateMethod ({ cls := "BasisWalk", name := "studyOf", desc := "(LBasisWalk$Table;)LBasisWalk$Study;" } : Jvm.MethodName)), (Jvm.Cond.instanceMethod ({ cls := "BasisWalk", name := "studyOf", desc := "(LBasisWalk$Table;)LBasisWalk$Study;" } : Jvm.MethodName)), (Jvm.Cond.code ({ cls := "BasisWalk", name := "studyOf", desc := "(LBasisWalk$Table;)LBasisWalk$Study;" } : Jvm.MethodName) prog_1_method_12_code (2 : Nat) (Option.some (Jvm.ClassFile.FieldType.object "BasisWalk$Study"))), (Jvm.Cond.methodLink "BasisWalk" (105 : Nat) ({ cls := "BasisWalk$Order", name := "fit", desc := "(I)V" } : Jvm.MethodName)), (Jvm.Cond.instanceMethod ({ cls := "BasisWalk$Order", name := "fit", desc := "(I)V" } : Jvm.MethodName)), (Jvm.Cond.selects "BasisWalk$Order" ({ cls := "BasisWalk$Order", name := "fit", desc := "(I)V" } : Jvm.MethodName) ({ cls := "BasisWalk$Order", name := "fit", desc := "(I)V" } : Jvm.MethodName)), (Jvm.Cond.code ({ cls := "BasisWalk$Order", name := "fit", desc := "(I)V" } : Jvm.MethodName) prog_3_method_2_code (6 : Nat) (Option.none : Option Jvm.ClassFile.FieldType)), (Jvm.Cond.methodLinkNest "BasisWalk$Order" (25 : Nat) ({ cls := "BasisWalk", name := "choose", desc := "(II)I" } : Jvm.MethodName) "BasisWalk"), (Jvm.Cond.static ({ cls := "BasisWalk", name := "choose", desc := "(II)I" } : Jvm.MethodName)), (Jvm.Cond.code ({ cls := "BasisWalk", name := "choose", desc := "(II)I" } : Jvm.MethodName) prog_1_method_16_code (4 : Nat) (Option.some Jvm.ClassFile.FieldType.int)), (Jvm.Cond.methodLink "BasisWalk$Order" (29 : Nat) ({ cls := "java/lang/Integer", name := "bitCount", desc := "(I)I" } : Jvm.MethodName)), (Jvm.Cond.static ({ cls := "java/lang/Integer", name := "bitCount", desc := "(I)I" } : Jvm.MethodName)), (Jvm.Cond.code ({ cls := "java/lang/Integer", name := "bitCount", desc := "(I)I" } : Jvm.MethodName) prog_9_method_49_code (1 : Nat) (Option.some Jvm.ClassFile.FieldType.int)), (Jvm.Cond.constant "java/lang/Integer" (265 : Nat) (1431655765 : Int32)), (Jvm.Cond.constant "java/lang/Integer" (266 : Nat) (858993459 : Int32))]
def tc_10 : List Cond := [(Jvm.Cond.constant "java/lang/Integer" (267 : Nat) (252645135 : Int32)), (Jvm.Cond.methodLink "BasisWalk$Order" (35 : Nat) ({ cls := "BasisWalk$Order", name := "oneLess", desc := "(I)I" } : Jvm.MethodName)), (Jvm.Cond.privateMethod ({ cls := "BasisWalk$Order", name := "oneLess", desc := "(I)I" } : Jvm.MethodName)), (Jvm.Cond.instanceMethod ({ cls := "BasisWalk$Order", name := "oneLess", desc := "(I)I" } : Jvm.MethodName)), (Jvm.Cond.code ({ cls := "BasisWalk$Order", name := "oneLess", desc := "(I)I" } : Jvm.MethodName) prog_3_method_3_code (4 : Nat) (Option.some Jvm.ClassFile.FieldType.int)), (Jvm.Cond.methodLink "BasisWalk" (113 : Nat) ({ cls := "BasisWalk$Study", name := "learn", desc := "(LBasisWalk$Table;LBasisWalk$Order;LBasisWalk$Minors;)V" } : Jvm.MethodName)), (Jvm.Cond.instanceMethod ({ cls := "BasisWalk$Study", name := "learn", desc := "(LBasisWalk$Table;LBasisWalk$Order;LBasisWalk$Minors;)V" } : Jvm.MethodName)), (Jvm.Cond.selects "BasisWalk$Study" ({ cls := "BasisWalk$Study", name := "learn", desc := "(LBasisWalk$Table;LBasisWalk$Order;LBasisWalk$Minors;)V" } : Jvm.MethodName) ({ cls := "BasisWalk$Study", name := "learn", desc := "(LBasisWalk$Table;LBasisWalk$Order;LBasisWalk$Minors;)V" } : Jvm.MethodName)), (Jvm.Cond.code ({ cls := "BasisWalk$Study", name := "learn", desc := "(LBasisWalk$Table;LBasisWalk$Order;LBasisWalk$Minors;)V" } : Jvm.MethodName) prog_4_method_2_code (4 : Nat) (Option.none : Option Jvm.ClassFile.FieldType)), (Jvm.Cond.methodLink "BasisWalk$Study" (34 : Nat) ({ cls := "BasisWalk$Study", name := "makeRoom", desc := "()V" } : Jvm.MethodName)), (Jvm.Cond.privateMethod ({ cls := "BasisWalk$Study", name := "makeRoom", desc := "()V" } : Jvm.MethodName)), (Jvm.Cond.instanceMethod ({ cls := "BasisWalk$Study", name := "makeRoom", desc := "()V" } : Jvm.MethodName)), (Jvm.Cond.code ({ cls := "BasisWalk$Study", name := "makeRoom", desc := "()V" } : Jvm.MethodName) prog_4_method_8_code (2 : Nat) (Option.none : Option Jvm.ClassFile.FieldType)), (Jvm.Cond.methodLinkNest "BasisWalk$Study" (65 : Nat) ({ cls := "BasisWalk", name := "choose", desc := "(II)I" } : Jvm.MethodName) "BasisWalk"), (Jvm.Cond.methodLink "BasisWalk$Study" (37 : Nat) ({ cls := "BasisWalk$Study", name := "takeRows", desc := "(LBasisWalk$Table;LBasisWalk$Order;LBasisWalk$Minors;)I" } : Jvm.MethodName)), (Jvm.Cond.privateMethod ({ cls := "BasisWalk$Study", name := "takeRows", desc := "(LBasisWalk$Table;LBasisWalk$Order;LBasisWalk$Minors;)I" } : Jvm.MethodName)), (Jvm.Cond.instanceMethod ({ cls := "BasisWalk$Study", name := "takeRows", desc := "(LBasisWalk$Table;LBasisWalk$Order;LBasisWalk$Minors;)I" } : Jvm.MethodName)), (Jvm.Cond.code ({ cls := "BasisWalk$Study", name := "takeRows", desc := "(LBasisWalk$Table;LBasisWalk$Order;LBasisWalk$Minors;)I" } : Jvm.MethodName) prog_4_method_9_code (6 : Nat) (Option.some Jvm.ClassFile.FieldType.int)), (Jvm.Cond.methodLink "BasisWalk$Study" (72 : Nat) ({ cls := "BasisWalk$Minors", name := "restart", desc := "(I)V" } : Jvm.MethodName)), (Jvm.Cond.instanceMethod ({ cls := "BasisWalk$Minors", name := "restart", desc := "(I)V" } : Jvm.MethodName))]
def tc_11 : List Cond := [(Jvm.Cond.selects "BasisWalk$Minors" ({ cls := "BasisWalk$Minors", name := "restart", desc := "(I)V" } : Jvm.MethodName) ({ cls := "BasisWalk$Minors", name := "restart", desc := "(I)V" } : Jvm.MethodName)), (Jvm.Cond.code ({ cls := "BasisWalk$Minors", name := "restart", desc := "(I)V" } : Jvm.MethodName) prog_2_method_2_code (2 : Nat) (Option.none : Option Jvm.ClassFile.FieldType)), (Jvm.Cond.methodLink "BasisWalk$Study" (81 : Nat) ({ cls := "BasisWalk$Minors", name := "takeRow", desc := "(LBasisWalk$Table;ILBasisWalk$Order;I)Z" } : Jvm.MethodName)), (Jvm.Cond.instanceMethod ({ cls := "BasisWalk$Minors", name := "takeRow", desc := "(LBasisWalk$Table;ILBasisWalk$Order;I)Z" } : Jvm.MethodName)), (Jvm.Cond.selects "BasisWalk$Minors" ({ cls := "BasisWalk$Minors", name := "takeRow", desc := "(LBasisWalk$Table;ILBasisWalk$Order;I)Z" } : Jvm.MethodName) ({ cls := "BasisWalk$Minors", name := "takeRow", desc := "(LBasisWalk$Table;ILBasisWalk$Order;I)Z" } : Jvm.MethodName)), (Jvm.Cond.code ({ cls := "BasisWalk$Minors", name := "takeRow", desc := "(LBasisWalk$Table;ILBasisWalk$Order;I)Z" } : Jvm.MethodName) prog_2_method_3_code (8 : Nat) (Option.some Jvm.ClassFile.FieldType.boolean)), (Jvm.Cond.methodLink "BasisWalk$Minors" (30 : Nat) ({ cls := "BasisWalk$Minors", name := "expand", desc := "(LBasisWalk$Table;II)V" } : Jvm.MethodName)), (Jvm.Cond.privateMethod ({ cls := "BasisWalk$Minors", name := "expand", desc := "(LBasisWalk$Table;II)V" } : Jvm.MethodName)), (Jvm.Cond.instanceMethod ({ cls := "BasisWalk$Minors", name := "expand", desc := "(LBasisWalk$Table;II)V" } : Jvm.MethodName)), (Jvm.Cond.code ({ cls := "BasisWalk$Minors", name := "expand", desc := "(LBasisWalk$Table;II)V" } : Jvm.MethodName) prog_2_method_5_code (15 : Nat) (Option.none : Option Jvm.ClassFile.FieldType)), (Jvm.Cond.methodLink "BasisWalk$Minors" (50 : Nat) ({ cls := "java/lang/Math", name := "floorMod", desc := "(JJ)J" } : Jvm.MethodName)), (Jvm.Cond.static ({ cls := "java/lang/Math", name := "floorMod", desc := "(JJ)J" } : Jvm.MethodName)), (Jvm.Cond.code ({ cls := "java/lang/Math", name := "floorMod", desc := "(JJ)J" } : Jvm.MethodName) prog_10_method_52_code (6 : Nat) (Option.some Jvm.ClassFile.FieldType.long)), (Jvm.Cond.constantLong "BasisWalk$Minors" (56 : Nat) (281474976710655 : Int64)), (Jvm.Cond.methodLink "BasisWalk$Minors" (34 : Nat) ({ cls := "BasisWalk$Minors", name := "signOf", desc := "(I)I" } : Jvm.MethodName)), (Jvm.Cond.instanceMethod ({ cls := "BasisWalk$Minors", name := "signOf", desc := "(I)I" } : Jvm.MethodName)), (Jvm.Cond.selects "BasisWalk$Minors" ({ cls := "BasisWalk$Minors", name := "signOf", desc := "(I)I" } : Jvm.MethodName) ({ cls := "BasisWalk$Minors", name := "signOf", desc := "(I)I" } : Jvm.MethodName)), (Jvm.Cond.code ({ cls := "BasisWalk$Minors", name := "signOf", desc := "(I)I" } : Jvm.MethodName) prog_2_method_4_code (2 : Nat) (Option.some Jvm.ClassFile.FieldType.int)), (Jvm.Cond.methodLink "BasisWalk$Study" (44 : Nat) ({ cls := "BasisWalk$Study", name := "learnSigns", desc := "(LBasisWalk$Order;LBasisWalk$Minors;)V" } : Jvm.MethodName)), (Jvm.Cond.privateMethod ({ cls := "BasisWalk$Study", name := "learnSigns", desc := "(LBasisWalk$Order;LBasisWalk$Minors;)V" } : Jvm.MethodName))]
def tc_12 : List Cond := [(Jvm.Cond.instanceMethod ({ cls := "BasisWalk$Study", name := "learnSigns", desc := "(LBasisWalk$Order;LBasisWalk$Minors;)V" } : Jvm.MethodName)), (Jvm.Cond.code ({ cls := "BasisWalk$Study", name := "learnSigns", desc := "(LBasisWalk$Order;LBasisWalk$Minors;)V" } : Jvm.MethodName) prog_4_method_10_code (7 : Nat) (Option.none : Option Jvm.ClassFile.FieldType)), (Jvm.Cond.methodLink "BasisWalk$Study" (91 : Nat) ({ cls := "BasisWalk$Minors", name := "signOf", desc := "(I)I" } : Jvm.MethodName)), (Jvm.Cond.methodLink "BasisWalk$Study" (48 : Nat) ({ cls := "BasisWalk$Study", name := "markIndependent", desc := "()V" } : Jvm.MethodName)), (Jvm.Cond.privateMethod ({ cls := "BasisWalk$Study", name := "markIndependent", desc := "()V" } : Jvm.MethodName)), (Jvm.Cond.instanceMethod ({ cls := "BasisWalk$Study", name := "markIndependent", desc := "()V" } : Jvm.MethodName)), (Jvm.Cond.code ({ cls := "BasisWalk$Study", name := "markIndependent", desc := "()V" } : Jvm.MethodName) prog_4_method_11_code (4 : Nat) (Option.none : Option Jvm.ClassFile.FieldType)), (Jvm.Cond.methodLink "BasisWalk$Study" (94 : Nat) ({ cls := "java/lang/Integer", name := "bitCount", desc := "(I)I" } : Jvm.MethodName)), (Jvm.Cond.methodLink "BasisWalk$Study" (99 : Nat) ({ cls := "BasisWalk$Study", name := "hasIndependentAbove", desc := "(I)Z" } : Jvm.MethodName)), (Jvm.Cond.privateMethod ({ cls := "BasisWalk$Study", name := "hasIndependentAbove", desc := "(I)Z" } : Jvm.MethodName)), (Jvm.Cond.instanceMethod ({ cls := "BasisWalk$Study", name := "hasIndependentAbove", desc := "(I)Z" } : Jvm.MethodName)), (Jvm.Cond.code ({ cls := "BasisWalk$Study", name := "hasIndependentAbove", desc := "(I)Z" } : Jvm.MethodName) prog_4_method_12_code (4 : Nat) (Option.some Jvm.ClassFile.FieldType.boolean)), (Jvm.Cond.methodLink "BasisWalk$Study" (51 : Nat) ({ cls := "BasisWalk$Study", name := "learnRanks", desc := "()V" } : Jvm.MethodName)), (Jvm.Cond.privateMethod ({ cls := "BasisWalk$Study", name := "learnRanks", desc := "()V" } : Jvm.MethodName)), (Jvm.Cond.instanceMethod ({ cls := "BasisWalk$Study", name := "learnRanks", desc := "()V" } : Jvm.MethodName)), (Jvm.Cond.code ({ cls := "BasisWalk$Study", name := "learnRanks", desc := "()V" } : Jvm.MethodName) prog_4_method_13_code (2 : Nat) (Option.none : Option Jvm.ClassFile.FieldType)), (Jvm.Cond.methodLink "BasisWalk$Study" (103 : Nat) ({ cls := "BasisWalk$Study", name := "greatestRankUnder", desc := "(I)I" } : Jvm.MethodName)), (Jvm.Cond.privateMethod ({ cls := "BasisWalk$Study", name := "greatestRankUnder", desc := "(I)I" } : Jvm.MethodName)), (Jvm.Cond.instanceMethod ({ cls := "BasisWalk$Study", name := "greatestRankUnder", desc := "(I)I" } : Jvm.MethodName)), (Jvm.Cond.code ({ cls := "BasisWalk$Study", name := "greatestRankUnder", desc := "(I)I" } : Jvm.MethodName) prog_4_method_14_code (5 : Nat) (Option.some Jvm.ClassFile.FieldType.int))]
def tc_13 : List Cond := [(Jvm.Cond.methodLink "BasisWalk$Study" (54 : Nat) ({ cls := "BasisWalk$Study", name := "learnDefects", desc := "()V" } : Jvm.MethodName)), (Jvm.Cond.privateMethod ({ cls := "BasisWalk$Study", name := "learnDefects", desc := "()V" } : Jvm.MethodName)), (Jvm.Cond.instanceMethod ({ cls := "BasisWalk$Study", name := "learnDefects", desc := "()V" } : Jvm.MethodName)), (Jvm.Cond.code ({ cls := "BasisWalk$Study", name := "learnDefects", desc := "()V" } : Jvm.MethodName) prog_4_method_15_code (4 : Nat) (Option.none : Option Jvm.ClassFile.FieldType)), (Jvm.Cond.methodLink "BasisWalk$Study" (106 : Nat) ({ cls := "java/util/Arrays", name := "fill", desc := "([II)V" } : Jvm.MethodName)), (Jvm.Cond.methodLink "BasisWalk$Study" (57 : Nat) ({ cls := "BasisWalk$Study", name := "learnMembers", desc := "(LBasisWalk$Order;)V" } : Jvm.MethodName)), (Jvm.Cond.privateMethod ({ cls := "BasisWalk$Study", name := "learnMembers", desc := "(LBasisWalk$Order;)V" } : Jvm.MethodName)), (Jvm.Cond.instanceMethod ({ cls := "BasisWalk$Study", name := "learnMembers", desc := "(LBasisWalk$Order;)V" } : Jvm.MethodName)), (Jvm.Cond.code ({ cls := "BasisWalk$Study", name := "learnMembers", desc := "(LBasisWalk$Order;)V" } : Jvm.MethodName) prog_4_method_16_code (6 : Nat) (Option.none : Option Jvm.ClassFile.FieldType)), (Jvm.Cond.methodLink "BasisWalk$Study" (112 : Nat) ({ cls := "BasisWalk$Study", name := "isOfKind", desc := "(II)Z" } : Jvm.MethodName)), (Jvm.Cond.privateMethod ({ cls := "BasisWalk$Study", name := "isOfKind", desc := "(II)Z" } : Jvm.MethodName)), (Jvm.Cond.instanceMethod ({ cls := "BasisWalk$Study", name := "isOfKind", desc := "(II)Z" } : Jvm.MethodName)), (Jvm.Cond.code ({ cls := "BasisWalk$Study", name := "isOfKind", desc := "(II)Z" } : Jvm.MethodName) prog_4_method_17_code (3 : Nat) (Option.some Jvm.ClassFile.FieldType.boolean)), (Jvm.Cond.methodLink "BasisWalk$Study" (116 : Nat) ({ cls := "BasisWalk$Study", name := "isCircuit", desc := "(I)Z" } : Jvm.MethodName)), (Jvm.Cond.privateMethod ({ cls := "BasisWalk$Study", name := "isCircuit", desc := "(I)Z" } : Jvm.MethodName)), (Jvm.Cond.instanceMethod ({ cls := "BasisWalk$Study", name := "isCircuit", desc := "(I)Z" } : Jvm.MethodName)), (Jvm.Cond.code ({ cls := "BasisWalk$Study", name := "isCircuit", desc := "(I)Z" } : Jvm.MethodName) prog_4_method_18_code (5 : Nat) (Option.some Jvm.ClassFile.FieldType.boolean)), (Jvm.Cond.methodLink "BasisWalk$Study" (119 : Nat) ({ cls := "BasisWalk$Study", name := "isHyperplane", desc := "(I)Z" } : Jvm.MethodName)), (Jvm.Cond.privateMethod ({ cls := "BasisWalk$Study", name := "isHyperplane", desc := "(I)Z" } : Jvm.MethodName)), (Jvm.Cond.instanceMethod ({ cls := "BasisWalk$Study", name := "isHyperplane", desc := "(I)Z" } : Jvm.MethodName))]
def tc_14 : List Cond := [(Jvm.Cond.code ({ cls := "BasisWalk$Study", name := "isHyperplane", desc := "(I)Z" } : Jvm.MethodName) prog_4_method_19_code (2 : Nat) (Option.some Jvm.ClassFile.FieldType.boolean)), (Jvm.Cond.methodLink "BasisWalk$Study" (122 : Nat) ({ cls := "BasisWalk$Study", name := "isFlat", desc := "(I)Z" } : Jvm.MethodName)), (Jvm.Cond.privateMethod ({ cls := "BasisWalk$Study", name := "isFlat", desc := "(I)Z" } : Jvm.MethodName)), (Jvm.Cond.instanceMethod ({ cls := "BasisWalk$Study", name := "isFlat", desc := "(I)Z" } : Jvm.MethodName)), (Jvm.Cond.code ({ cls := "BasisWalk$Study", name := "isFlat", desc := "(I)Z" } : Jvm.MethodName) prog_4_method_20_code (4 : Nat) (Option.some Jvm.ClassFile.FieldType.boolean)), (Jvm.Cond.methodLink "BasisWalkLaw" (32 : Nat) ({ cls := "BasisWalk", name := "count", desc := "(II)I" } : Jvm.MethodName)), (Jvm.Cond.instanceMethod ({ cls := "BasisWalk", name := "count", desc := "(II)I" } : Jvm.MethodName)), (Jvm.Cond.selects "BasisWalk" ({ cls := "BasisWalk", name := "count", desc := "(II)I" } : Jvm.MethodName) ({ cls := "BasisWalk", name := "count", desc := "(II)I" } : Jvm.MethodName)), (Jvm.Cond.code ({ cls := "BasisWalk", name := "count", desc := "(II)I" } : Jvm.MethodName) prog_1_method_6_code (4 : Nat) (Option.some Jvm.ClassFile.FieldType.int)), (Jvm.Cond.methodLink "BasisWalk" (69 : Nat) ({ cls := "BasisWalk", name := "isKind", desc := "(I)Z" } : Jvm.MethodName)), (Jvm.Cond.static ({ cls := "BasisWalk", name := "isKind", desc := "(I)Z" } : Jvm.MethodName)), (Jvm.Cond.code ({ cls := "BasisWalk", name := "isKind", desc := "(I)Z" } : Jvm.MethodName) prog_1_method_14_code (1 : Nat) (Option.some Jvm.ClassFile.FieldType.boolean)), (Jvm.Cond.methodLink "BasisWalk" (72 : Nat) ({ cls := "BasisWalk$Study", name := "howMany", desc := "(I)I" } : Jvm.MethodName)), (Jvm.Cond.instanceMethod ({ cls := "BasisWalk$Study", name := "howMany", desc := "(I)I" } : Jvm.MethodName)), (Jvm.Cond.selects "BasisWalk$Study" ({ cls := "BasisWalk$Study", name := "howMany", desc := "(I)I" } : Jvm.MethodName) ({ cls := "BasisWalk$Study", name := "howMany", desc := "(I)I" } : Jvm.MethodName)), (Jvm.Cond.code ({ cls := "BasisWalk$Study", name := "howMany", desc := "(I)I" } : Jvm.MethodName) prog_4_method_3_code (2 : Nat) (Option.some Jvm.ClassFile.FieldType.int)), (Jvm.Cond.methodLink "BasisWalkLaw" (36 : Nat) ({ cls := "BasisWalk", name := "member", desc := "(III)I" } : Jvm.MethodName)), (Jvm.Cond.instanceMethod ({ cls := "BasisWalk", name := "member", desc := "(III)I" } : Jvm.MethodName)), (Jvm.Cond.selects "BasisWalk" ({ cls := "BasisWalk", name := "member", desc := "(III)I" } : Jvm.MethodName) ({ cls := "BasisWalk", name := "member", desc := "(III)I" } : Jvm.MethodName)), (Jvm.Cond.code ({ cls := "BasisWalk", name := "member", desc := "(III)I" } : Jvm.MethodName) prog_1_method_7_code (5 : Nat) (Option.some Jvm.ClassFile.FieldType.int))]
def tc_15 : List Cond := [(Jvm.Cond.methodLink "BasisWalk" (76 : Nat) ({ cls := "BasisWalk$Study", name := "memberAt", desc := "(II)I" } : Jvm.MethodName)), (Jvm.Cond.instanceMethod ({ cls := "BasisWalk$Study", name := "memberAt", desc := "(II)I" } : Jvm.MethodName)), (Jvm.Cond.selects "BasisWalk$Study" ({ cls := "BasisWalk$Study", name := "memberAt", desc := "(II)I" } : Jvm.MethodName) ({ cls := "BasisWalk$Study", name := "memberAt", desc := "(II)I" } : Jvm.MethodName)), (Jvm.Cond.code ({ cls := "BasisWalk$Study", name := "memberAt", desc := "(II)I" } : Jvm.MethodName) prog_4_method_4_code (3 : Nat) (Option.some Jvm.ClassFile.FieldType.int)), (Jvm.Cond.methodLink "BasisWalk$Study" (61 : Nat) ({ cls := "BasisWalk$Study", name := "howMany", desc := "(I)I" } : Jvm.MethodName)), (Jvm.Cond.methodLink "BasisWalkLaw" (41 : Nat) ({ cls := "BasisWalk", name := "tutte", desc := "(III)J" } : Jvm.MethodName)), (Jvm.Cond.instanceMethod ({ cls := "BasisWalk", name := "tutte", desc := "(III)J" } : Jvm.MethodName)), (Jvm.Cond.selects "BasisWalk" ({ cls := "BasisWalk", name := "tutte", desc := "(III)J" } : Jvm.MethodName) ({ cls := "BasisWalk", name := "tutte", desc := "(III)J" } : Jvm.MethodName)), (Jvm.Cond.code ({ cls := "BasisWalk", name := "tutte", desc := "(III)J" } : Jvm.MethodName) prog_1_method_8_code (5 : Nat) (Option.some Jvm.ClassFile.FieldType.long)), (Jvm.Cond.methodLink "BasisWalk" (80 : Nat) ({ cls := "BasisWalk$Study", name := "coefficient", desc := "(II)J" } : Jvm.MethodName)), (Jvm.Cond.instanceMethod ({ cls := "BasisWalk$Study", name := "coefficient", desc := "(II)J" } : Jvm.MethodName)), (Jvm.Cond.selects "BasisWalk$Study" ({ cls := "BasisWalk$Study", name := "coefficient", desc := "(II)J" } : Jvm.MethodName) ({ cls := "BasisWalk$Study", name := "coefficient", desc := "(II)J" } : Jvm.MethodName)), (Jvm.Cond.code ({ cls := "BasisWalk$Study", name := "coefficient", desc := "(II)J" } : Jvm.MethodName) prog_4_method_5_code (9 : Nat) (Option.some Jvm.ClassFile.FieldType.long)), (Jvm.Cond.methodLink "BasisWalkLaw" (46 : Nat) ({ cls := "BasisWalk", name := "sign", desc := "(II)I" } : Jvm.MethodName)), (Jvm.Cond.instanceMethod ({ cls := "BasisWalk", name := "sign", desc := "(II)I" } : Jvm.MethodName)), (Jvm.Cond.selects "BasisWalk" ({ cls := "BasisWalk", name := "sign", desc := "(II)I" } : Jvm.MethodName) ({ cls := "BasisWalk", name := "sign", desc := "(II)I" } : Jvm.MethodName)), (Jvm.Cond.code ({ cls := "BasisWalk", name := "sign", desc := "(II)I" } : Jvm.MethodName) prog_1_method_9_code (5 : Nat) (Option.some Jvm.ClassFile.FieldType.int)), (Jvm.Cond.methodLink "BasisWalk" (87 : Nat) ({ cls := "java/lang/Integer", name := "bitCount", desc := "(I)I" } : Jvm.MethodName)), (Jvm.Cond.methodLink "BasisWalkLaw" (50 : Nat) ({ cls := "BasisWalk", name := "below", desc := "(II)I" } : Jvm.MethodName)), (Jvm.Cond.instanceMethod ({ cls := "BasisWalk", name := "below", desc := "(II)I" } : Jvm.MethodName))]
def tc_16 : List Cond := [(Jvm.Cond.selects "BasisWalk" ({ cls := "BasisWalk", name := "below", desc := "(II)I" } : Jvm.MethodName) ({ cls := "BasisWalk", name := "below", desc := "(II)I" } : Jvm.MethodName)), (Jvm.Cond.code ({ cls := "BasisWalk", name := "below", desc := "(II)I" } : Jvm.MethodName) prog_1_method_10_code (6 : Nat) (Option.some Jvm.ClassFile.FieldType.int)), (Jvm.Cond.methodLink "BasisWalk" (98 : Nat) ({ cls := "BasisWalk$Study", name := "negativePart", desc := "(I)I" } : Jvm.MethodName)), (Jvm.Cond.instanceMethod ({ cls := "BasisWalk$Study", name := "negativePart", desc := "(I)I" } : Jvm.MethodName)), (Jvm.Cond.selects "BasisWalk$Study" ({ cls := "BasisWalk$Study", name := "negativePart", desc := "(I)I" } : Jvm.MethodName) ({ cls := "BasisWalk$Study", name := "negativePart", desc := "(I)I" } : Jvm.MethodName)), (Jvm.Cond.code ({ cls := "BasisWalk$Study", name := "negativePart", desc := "(I)I" } : Jvm.MethodName) prog_4_method_6_code (9 : Nat) (Option.some Jvm.ClassFile.FieldType.int)), (Jvm.Cond.methodLink "BasisWalk$Study" (69 : Nat) ({ cls := "BasisWalk$Study", name := "widened", desc := "(I)I" } : Jvm.MethodName)), (Jvm.Cond.privateMethod ({ cls := "BasisWalk$Study", name := "widened", desc := "(I)I" } : Jvm.MethodName)), (Jvm.Cond.instanceMethod ({ cls := "BasisWalk$Study", name := "widened", desc := "(I)I" } : Jvm.MethodName)), (Jvm.Cond.code ({ cls := "BasisWalk$Study", name := "widened", desc := "(I)I" } : Jvm.MethodName) prog_4_method_7_code (4 : Nat) (Option.some Jvm.ClassFile.FieldType.int)), (Jvm.Cond.classLink "BasisWalkLaw" (10 : Nat) "BasisWalkModel"), (Jvm.Cond.instantiable "BasisWalkModel" (31 : Nat)), (Jvm.Cond.methodLink "BasisWalkLaw" (12 : Nat) ({ cls := "BasisWalkModel", name := "<init>", desc := "()V" } : Jvm.MethodName)), (Jvm.Cond.instanceMethod ({ cls := "BasisWalkModel", name := "<init>", desc := "()V" } : Jvm.MethodName)), (Jvm.Cond.code ({ cls := "BasisWalkModel", name := "<init>", desc := "()V" } : Jvm.MethodName) prog_7_method_17_code (3 : Nat) (Option.none : Option Jvm.ClassFile.FieldType)), (Jvm.Cond.methodLink "BasisWalkModel" (147 : Nat) ({ cls := "java/lang/Object", name := "<init>", desc := "()V" } : Jvm.MethodName)), (Jvm.Cond.classLink "BasisWalkModel" (8 : Nat) "BasisWalkModel$Num"), (Jvm.Cond.instantiable "BasisWalkModel$Num" (3 : Nat)), (Jvm.Cond.methodLinkNest "BasisWalkModel" (152 : Nat) ({ cls := "BasisWalkModel$Num", name := "<init>", desc := "()V" } : Jvm.MethodName) "BasisWalkModel"), (Jvm.Cond.instanceMethod ({ cls := "BasisWalkModel$Num", name := "<init>", desc := "()V" } : Jvm.MethodName))]
def tc_17 : List Cond := [(Jvm.Cond.code ({ cls := "BasisWalkModel$Num", name := "<init>", desc := "()V" } : Jvm.MethodName) prog_8_method_1_code (1 : Nat) (Option.none : Option Jvm.ClassFile.FieldType)), (Jvm.Cond.methodLink "BasisWalkModel$Num" (1 : Nat) ({ cls := "java/lang/Object", name := "<init>", desc := "()V" } : Jvm.MethodName)), (Jvm.Cond.fieldLink "BasisWalkModel$Num" (7 : Nat) "BasisWalkModel$Num" "d" "[I"), (Jvm.Cond.fieldLink "BasisWalkModel" (20 : Nat) "BasisWalkModel$Num" "n" "I"), (Jvm.Cond.fieldLink "BasisWalkModel$Num" (13 : Nat) "BasisWalkModel$Num" "n" "I"), (Jvm.Cond.fieldLink "BasisWalkModel" (13 : Nat) "BasisWalkModel$Num" "minus" "Z"), (Jvm.Cond.fieldLink "BasisWalkModel$Num" (17 : Nat) "BasisWalkModel$Num" "minus" "Z"), (Jvm.Cond.laysFinal "BasisWalkModel$Num" "BasisWalkModel$Num" "d" "[I"), (Jvm.Cond.soleField "BasisWalkModel$Num" "d"), (Jvm.Cond.lays "BasisWalkModel$Num" "BasisWalkModel$Num" "n" "I"), (Jvm.Cond.soleField "BasisWalkModel$Num" "n"), (Jvm.Cond.lays "BasisWalkModel$Num" "BasisWalkModel$Num" "minus" "Z"), (Jvm.Cond.soleField "BasisWalkModel$Num" "minus"), (Jvm.Cond.superclass "BasisWalkModel$Num" "java/lang/Object"), (Jvm.Cond.arrayOver (Jvm.ClassFile.FieldType.object "BasisWalkModel$Num")), (Jvm.Cond.methodLink "BasisWalkModel" (195 : Nat) ({ cls := "BasisWalkModel", name := "list", desc := "(IIII)I" } : Jvm.MethodName)), (Jvm.Cond.privateMethod ({ cls := "BasisWalkModel", name := "list", desc := "(IIII)I" } : Jvm.MethodName)), (Jvm.Cond.instanceMethod ({ cls := "BasisWalkModel", name := "list", desc := "(IIII)I" } : Jvm.MethodName)), (Jvm.Cond.code ({ cls := "BasisWalkModel", name := "list", desc := "(IIII)I" } : Jvm.MethodName) prog_7_method_19_code (7 : Nat) (Option.some Jvm.ClassFile.FieldType.int)), (Jvm.Cond.fieldLink "BasisWalkModel" (58 : Nat) "BasisWalkModel" "one" "LBasisWalkModel$Num;")]
def tc_18 : List Cond := [(Jvm.Cond.fieldLink "BasisWalkModel" (27 : Nat) "BasisWalkModel" "two" "LBasisWalkModel$Num;"), (Jvm.Cond.fieldLink "BasisWalkModel" (24 : Nat) "BasisWalkModel" "three" "LBasisWalkModel$Num;"), (Jvm.Cond.fieldLink "BasisWalkModel" (17 : Nat) "BasisWalkModel" "four" "LBasisWalkModel$Num;"), (Jvm.Cond.fieldLink "BasisWalkModel" (1 : Nat) "BasisWalkModel" "five" "LBasisWalkModel$Num;"), (Jvm.Cond.fieldLink "BasisWalkModel" (65 : Nat) "BasisWalkModel" "six" "LBasisWalkModel$Num;"), (Jvm.Cond.fieldLink "BasisWalkModel" (68 : Nat) "BasisWalkModel" "seven" "LBasisWalkModel$Num;"), (Jvm.Cond.fieldLink "BasisWalkModel" (82 : Nat) "BasisWalkModel" "eight" "LBasisWalkModel$Num;"), (Jvm.Cond.fieldLink "BasisWalkModel" (34 : Nat) "BasisWalkModel" "work" "[LBasisWalkModel$Num;"), (Jvm.Cond.fieldLink "BasisWalkModel" (55 : Nat) "BasisWalkModel" "small" "[I"), (Jvm.Cond.fieldLink "BasisWalkModel" (44 : Nat) "BasisWalkModel" "rows" "I"), (Jvm.Cond.fieldLink "BasisWalkModel" (41 : Nat) "BasisWalkModel" "columns" "I"), (Jvm.Cond.fieldLink "BasisWalkModel" (38 : Nat) "BasisWalkModel" "prime" "I"), (Jvm.Cond.fieldLink "BasisWalkModel" (108 : Nat) "BasisWalkModel" "pivots" "[I"), (Jvm.Cond.fieldLink "BasisWalkModel" (120 : Nat) "BasisWalkModel" "freeRows" "[I"), (Jvm.Cond.fieldLink "BasisWalkModel" (117 : Nat) "BasisWalkModel" "freeColumns" "[I"), (Jvm.Cond.fieldLink "BasisWalkModel" (140 : Nat) "BasisWalkModel" "minor" "[LBasisWalkModel$Num;"), (Jvm.Cond.fieldLink "BasisWalkModel" (137 : Nat) "BasisWalkModel" "smallMinor" "[I"), (Jvm.Cond.fieldLink "BasisWalkModel" (153 : Nat) "BasisWalkModel" "fields" "[I"), (Jvm.Cond.fieldLink "BasisWalkModel" (156 : Nat) "BasisWalkModel" "rowCounts" "[I"), (Jvm.Cond.fieldLink "BasisWalkModel" (159 : Nat) "BasisWalkModel" "elements" "[I")]
def tc_19 : List Cond := [(Jvm.Cond.fieldLink "BasisWalkModel" (162 : Nat) "BasisWalkModel" "numbers" "[I"), (Jvm.Cond.fieldLink "BasisWalkModel" (165 : Nat) "BasisWalkModel" "known" "[Z"), (Jvm.Cond.fieldLink "BasisWalkModel" (169 : Nat) "BasisWalkModel" "ranks" "[I"), (Jvm.Cond.fieldLink "BasisWalkModel" (172 : Nat) "BasisWalkModel" "rankOf" "[B"), (Jvm.Cond.fieldLink "BasisWalkModel" (176 : Nat) "BasisWalkModel" "signOf" "[B"), (Jvm.Cond.fieldLink "BasisWalkModel" (179 : Nat) "BasisWalkModel" "order" "[I"), (Jvm.Cond.fieldLink "BasisWalkModel" (182 : Nat) "BasisWalkModel" "sizes" "[I"), (Jvm.Cond.fieldLink "BasisWalkModel" (185 : Nat) "BasisWalkModel" "coefficients" "[J"), (Jvm.Cond.fieldLink "BasisWalkModel" (189 : Nat) "BasisWalkModel" "choices" "[J"), (Jvm.Cond.fieldLink "BasisWalkModel" (192 : Nat) "BasisWalkModel" "sorted" "[I"), (Jvm.Cond.laysFinal "BasisWalkModel" "BasisWalkModel" "one" "LBasisWalkModel$Num;"), (Jvm.Cond.soleField "BasisWalkModel" "one"), (Jvm.Cond.laysFinal "BasisWalkModel" "BasisWalkModel" "two" "LBasisWalkModel$Num;"), (Jvm.Cond.soleField "BasisWalkModel" "two"), (Jvm.Cond.laysFinal "BasisWalkModel" "BasisWalkModel" "three" "LBasisWalkModel$Num;"), (Jvm.Cond.soleField "BasisWalkModel" "three"), (Jvm.Cond.laysFinal "BasisWalkModel" "BasisWalkModel" "four" "LBasisWalkModel$Num;"), (Jvm.Cond.soleField "BasisWalkModel" "four"), (Jvm.Cond.laysFinal "BasisWalkModel" "BasisWalkModel" "five" "LBasisWalkModel$Num;"), (Jvm.Cond.soleField "BasisWalkModel" "five")]
def tc_20 : List Cond := [(Jvm.Cond.laysFinal "BasisWalkModel" "BasisWalkModel" "six" "LBasisWalkModel$Num;"), (Jvm.Cond.soleField "BasisWalkModel" "six"), (Jvm.Cond.laysFinal "BasisWalkModel" "BasisWalkModel" "seven" "LBasisWalkModel$Num;"), (Jvm.Cond.soleField "BasisWalkModel" "seven"), (Jvm.Cond.laysFinal "BasisWalkModel" "BasisWalkModel" "eight" "LBasisWalkModel$Num;"), (Jvm.Cond.soleField "BasisWalkModel" "eight"), (Jvm.Cond.laysFinal "BasisWalkModel" "BasisWalkModel" "work" "[LBasisWalkModel$Num;"), (Jvm.Cond.soleField "BasisWalkModel" "work"), (Jvm.Cond.laysFinal "BasisWalkModel" "BasisWalkModel" "small" "[I"), (Jvm.Cond.soleField "BasisWalkModel" "small"), (Jvm.Cond.lays "BasisWalkModel" "BasisWalkModel" "rows" "I"), (Jvm.Cond.soleField "BasisWalkModel" "rows"), (Jvm.Cond.lays "BasisWalkModel" "BasisWalkModel" "columns" "I"), (Jvm.Cond.soleField "BasisWalkModel" "columns"), (Jvm.Cond.lays "BasisWalkModel" "BasisWalkModel" "prime" "I"), (Jvm.Cond.soleField "BasisWalkModel" "prime"), (Jvm.Cond.laysFinal "BasisWalkModel" "BasisWalkModel" "pivots" "[I"), (Jvm.Cond.soleField "BasisWalkModel" "pivots"), (Jvm.Cond.laysFinal "BasisWalkModel" "BasisWalkModel" "freeRows" "[I"), (Jvm.Cond.soleField "BasisWalkModel" "freeRows")]
def tc_21 : List Cond := [(Jvm.Cond.laysFinal "BasisWalkModel" "BasisWalkModel" "freeColumns" "[I"), (Jvm.Cond.soleField "BasisWalkModel" "freeColumns"), (Jvm.Cond.laysFinal "BasisWalkModel" "BasisWalkModel" "minor" "[LBasisWalkModel$Num;"), (Jvm.Cond.soleField "BasisWalkModel" "minor"), (Jvm.Cond.laysFinal "BasisWalkModel" "BasisWalkModel" "smallMinor" "[I"), (Jvm.Cond.soleField "BasisWalkModel" "smallMinor"), (Jvm.Cond.laysFinal "BasisWalkModel" "BasisWalkModel" "fields" "[I"), (Jvm.Cond.soleField "BasisWalkModel" "fields"), (Jvm.Cond.laysFinal "BasisWalkModel" "BasisWalkModel" "rowCounts" "[I"), (Jvm.Cond.soleField "BasisWalkModel" "rowCounts"), (Jvm.Cond.laysFinal "BasisWalkModel" "BasisWalkModel" "elements" "[I"), (Jvm.Cond.soleField "BasisWalkModel" "elements"), (Jvm.Cond.laysFinal "BasisWalkModel" "BasisWalkModel" "numbers" "[I"), (Jvm.Cond.soleField "BasisWalkModel" "numbers"), (Jvm.Cond.laysFinal "BasisWalkModel" "BasisWalkModel" "known" "[Z"), (Jvm.Cond.soleField "BasisWalkModel" "known"), (Jvm.Cond.laysFinal "BasisWalkModel" "BasisWalkModel" "ranks" "[I"), (Jvm.Cond.soleField "BasisWalkModel" "ranks"), (Jvm.Cond.laysFinal "BasisWalkModel" "BasisWalkModel" "rankOf" "[B"), (Jvm.Cond.soleField "BasisWalkModel" "rankOf")]
def tc_22 : List Cond := [(Jvm.Cond.laysFinal "BasisWalkModel" "BasisWalkModel" "signOf" "[B"), (Jvm.Cond.soleField "BasisWalkModel" "signOf"), (Jvm.Cond.laysFinal "BasisWalkModel" "BasisWalkModel" "order" "[I"), (Jvm.Cond.soleField "BasisWalkModel" "order"), (Jvm.Cond.laysFinal "BasisWalkModel" "BasisWalkModel" "sizes" "[I"), (Jvm.Cond.soleField "BasisWalkModel" "sizes"), (Jvm.Cond.laysFinal "BasisWalkModel" "BasisWalkModel" "coefficients" "[J"), (Jvm.Cond.soleField "BasisWalkModel" "coefficients"), (Jvm.Cond.laysFinal "BasisWalkModel" "BasisWalkModel" "choices" "[J"), (Jvm.Cond.soleField "BasisWalkModel" "choices"), (Jvm.Cond.laysFinal "BasisWalkModel" "BasisWalkModel" "sorted" "[I"), (Jvm.Cond.soleField "BasisWalkModel" "sorted"), (Jvm.Cond.superclass "BasisWalkModel" "java/lang/Object"), (Jvm.Cond.arrayClass Jvm.ClassFile.FieldType.boolean), (Jvm.Cond.arrayClass Jvm.ClassFile.FieldType.byte), (Jvm.Cond.methodLink "BasisWalkLaw" (17 : Nat) ({ cls := "BasisWalkModel", name := "begin", desc := "(IIII)Z" } : Jvm.MethodName)), (Jvm.Cond.instanceMethod ({ cls := "BasisWalkModel", name := "begin", desc := "(IIII)Z" } : Jvm.MethodName)), (Jvm.Cond.selects "BasisWalkModel" ({ cls := "BasisWalkModel", name := "begin", desc := "(IIII)Z" } : Jvm.MethodName) ({ cls := "BasisWalkModel", name := "begin", desc := "(IIII)Z" } : Jvm.MethodName)), (Jvm.Cond.code ({ cls := "BasisWalkModel", name := "begin", desc := "(IIII)Z" } : Jvm.MethodName) prog_7_method_22_code (6 : Nat) (Option.some Jvm.ClassFile.FieldType.boolean)), (Jvm.Cond.methodLink "BasisWalkModel" (199 : Nat) ({ cls := "BasisWalkModel", name := "isTable", desc := "(I)Z" } : Jvm.MethodName))]
def tc_23 : List Cond := [(Jvm.Cond.static ({ cls := "BasisWalkModel", name := "isTable", desc := "(I)Z" } : Jvm.MethodName)), (Jvm.Cond.code ({ cls := "BasisWalkModel", name := "isTable", desc := "(I)Z" } : Jvm.MethodName) prog_7_method_20_code (1 : Nat) (Option.some Jvm.ClassFile.FieldType.boolean)), (Jvm.Cond.methodLink "BasisWalkModel" (203 : Nat) ({ cls := "BasisWalkModel", name := "isField", desc := "(I)Z" } : Jvm.MethodName)), (Jvm.Cond.static ({ cls := "BasisWalkModel", name := "isField", desc := "(I)Z" } : Jvm.MethodName)), (Jvm.Cond.code ({ cls := "BasisWalkModel", name := "isField", desc := "(I)Z" } : Jvm.MethodName) prog_7_method_21_code (3 : Nat) (Option.some Jvm.ClassFile.FieldType.boolean)), (Jvm.Cond.methodLink "BasisWalkLaw" (21 : Nat) ({ cls := "BasisWalkModel", name := "put", desc := "(IIII)Z" } : Jvm.MethodName)), (Jvm.Cond.instanceMethod ({ cls := "BasisWalkModel", name := "put", desc := "(IIII)Z" } : Jvm.MethodName)), (Jvm.Cond.selects "BasisWalkModel" ({ cls := "BasisWalkModel", name := "put", desc := "(IIII)Z" } : Jvm.MethodName) ({ cls := "BasisWalkModel", name := "put", desc := "(IIII)Z" } : Jvm.MethodName)), (Jvm.Cond.code ({ cls := "BasisWalkModel", name := "put", desc := "(IIII)Z" } : Jvm.MethodName) prog_7_method_23_code (5 : Nat) (Option.some Jvm.ClassFile.FieldType.boolean)), (Jvm.Cond.methodLink "BasisWalkLaw" (26 : Nat) ({ cls := "BasisWalkModel", name := "columns", desc := "(I)I" } : Jvm.MethodName)), (Jvm.Cond.instanceMethod ({ cls := "BasisWalkModel", name := "columns", desc := "(I)I" } : Jvm.MethodName)), (Jvm.Cond.selects "BasisWalkModel" ({ cls := "BasisWalkModel", name := "columns", desc := "(I)I" } : Jvm.MethodName) ({ cls := "BasisWalkModel", name := "columns", desc := "(I)I" } : Jvm.MethodName)), (Jvm.Cond.code ({ cls := "BasisWalkModel", name := "columns", desc := "(I)I" } : Jvm.MethodName) prog_7_method_39_code (2 : Nat) (Option.some Jvm.ClassFile.FieldType.int)), (Jvm.Cond.methodLink "BasisWalkLaw" (31 : Nat) ({ cls := "BasisWalkModel", name := "rank", desc := "(II)I" } : Jvm.MethodName)), (Jvm.Cond.instanceMethod ({ cls := "BasisWalkModel", name := "rank", desc := "(II)I" } : Jvm.MethodName)), (Jvm.Cond.selects "BasisWalkModel" ({ cls := "BasisWalkModel", name := "rank", desc := "(II)I" } : Jvm.MethodName) ({ cls := "BasisWalkModel", name := "rank", desc := "(II)I" } : Jvm.MethodName)), (Jvm.Cond.code ({ cls := "BasisWalkModel", name := "rank", desc := "(II)I" } : Jvm.MethodName) prog_7_method_40_code (3 : Nat) (Option.some Jvm.ClassFile.FieldType.int)), (Jvm.Cond.methodLink "BasisWalkModel" (254 : Nat) ({ cls := "BasisWalkModel", name := "learn", desc := "(I)Z" } : Jvm.MethodName)), (Jvm.Cond.privateMethod ({ cls := "BasisWalkModel", name := "learn", desc := "(I)Z" } : Jvm.MethodName)), (Jvm.Cond.instanceMethod ({ cls := "BasisWalkModel", name := "learn", desc := "(I)Z" } : Jvm.MethodName))]
def tc_24 : List Cond := [(Jvm.Cond.code ({ cls := "BasisWalkModel", name := "learn", desc := "(I)Z" } : Jvm.MethodName) prog_7_method_24_code (4 : Nat) (Option.some Jvm.ClassFile.FieldType.boolean)), (Jvm.Cond.methodLink "BasisWalkModel" (206 : Nat) ({ cls := "BasisWalkModel", name := "empty", desc := "(II)V" } : Jvm.MethodName)), (Jvm.Cond.privateMethod ({ cls := "BasisWalkModel", name := "empty", desc := "(II)V" } : Jvm.MethodName)), (Jvm.Cond.instanceMethod ({ cls := "BasisWalkModel", name := "empty", desc := "(II)V" } : Jvm.MethodName)), (Jvm.Cond.code ({ cls := "BasisWalkModel", name := "empty", desc := "(II)V" } : Jvm.MethodName) prog_7_method_3_code (3 : Nat) (Option.none : Option Jvm.ClassFile.FieldType)), (Jvm.Cond.methodLink "BasisWalkModel" (209 : Nat) ({ cls := "BasisWalkModel", name := "lay", desc := "(IIJ)V" } : Jvm.MethodName)), (Jvm.Cond.privateMethod ({ cls := "BasisWalkModel", name := "lay", desc := "(IIJ)V" } : Jvm.MethodName)), (Jvm.Cond.instanceMethod ({ cls := "BasisWalkModel", name := "lay", desc := "(IIJ)V" } : Jvm.MethodName)), (Jvm.Cond.code ({ cls := "BasisWalkModel", name := "lay", desc := "(IIJ)V" } : Jvm.MethodName) prog_7_method_4_code (5 : Nat) (Option.none : Option Jvm.ClassFile.FieldType)), (Jvm.Cond.methodLink "BasisWalkModel" (47 : Nat) ({ cls := "BasisWalkModel", name := "at", desc := "(II)LBasisWalkModel$Num;" } : Jvm.MethodName)), (Jvm.Cond.privateMethod ({ cls := "BasisWalkModel", name := "at", desc := "(II)LBasisWalkModel$Num;" } : Jvm.MethodName)), (Jvm.Cond.instanceMethod ({ cls := "BasisWalkModel", name := "at", desc := "(II)LBasisWalkModel$Num;" } : Jvm.MethodName)), (Jvm.Cond.code ({ cls := "BasisWalkModel", name := "at", desc := "(II)LBasisWalkModel$Num;" } : Jvm.MethodName) prog_7_method_2_code (3 : Nat) (Option.some (Jvm.ClassFile.FieldType.object "BasisWalkModel$Num"))), (Jvm.Cond.methodLink "BasisWalkModel" (51 : Nat) ({ cls := "BasisWalkModel$Num", name := "small", desc := "(J)V" } : Jvm.MethodName)), (Jvm.Cond.instanceMethod ({ cls := "BasisWalkModel$Num", name := "small", desc := "(J)V" } : Jvm.MethodName)), (Jvm.Cond.selects "BasisWalkModel$Num" ({ cls := "BasisWalkModel$Num", name := "small", desc := "(J)V" } : Jvm.MethodName) ({ cls := "BasisWalkModel$Num", name := "small", desc := "(J)V" } : Jvm.MethodName)), (Jvm.Cond.code ({ cls := "BasisWalkModel$Num", name := "small", desc := "(J)V" } : Jvm.MethodName) prog_8_method_4_code (5 : Nat) (Option.none : Option Jvm.ClassFile.FieldType)), (Jvm.Cond.methodLink "BasisWalkModel$Num" (21 : Nat) ({ cls := "BasisWalkModel$Num", name := "zero", desc := "()V" } : Jvm.MethodName)), (Jvm.Cond.instanceMethod ({ cls := "BasisWalkModel$Num", name := "zero", desc := "()V" } : Jvm.MethodName)), (Jvm.Cond.selects "BasisWalkModel$Num" ({ cls := "BasisWalkModel$Num", name := "zero", desc := "()V" } : Jvm.MethodName) ({ cls := "BasisWalkModel$Num", name := "zero", desc := "()V" } : Jvm.MethodName))]
def tc_25 : List Cond := [(Jvm.Cond.code ({ cls := "BasisWalkModel$Num", name := "zero", desc := "()V" } : Jvm.MethodName) prog_8_method_2_code (1 : Nat) (Option.none : Option Jvm.ClassFile.FieldType)), (Jvm.Cond.constantLong "BasisWalkModel$Num" (24 : Nat) (65536 : Int64)), (Jvm.Cond.methodLink "BasisWalkModel" (213 : Nat) ({ cls := "BasisWalkModel", name := "reduce", desc := "()V" } : Jvm.MethodName)), (Jvm.Cond.privateMethod ({ cls := "BasisWalkModel", name := "reduce", desc := "()V" } : Jvm.MethodName)), (Jvm.Cond.instanceMethod ({ cls := "BasisWalkModel", name := "reduce", desc := "()V" } : Jvm.MethodName)), (Jvm.Cond.code ({ cls := "BasisWalkModel", name := "reduce", desc := "()V" } : Jvm.MethodName) prog_7_method_10_code (5 : Nat) (Option.none : Option Jvm.ClassFile.FieldType)), (Jvm.Cond.methodLink "BasisWalkModel" (96 : Nat) ({ cls := "BasisWalkModel", name := "isZero", desc := "(II)Z" } : Jvm.MethodName)), (Jvm.Cond.privateMethod ({ cls := "BasisWalkModel", name := "isZero", desc := "(II)Z" } : Jvm.MethodName)), (Jvm.Cond.instanceMethod ({ cls := "BasisWalkModel", name := "isZero", desc := "(II)Z" } : Jvm.MethodName)), (Jvm.Cond.code ({ cls := "BasisWalkModel", name := "isZero", desc := "(II)Z" } : Jvm.MethodName) prog_7_method_5_code (3 : Nat) (Option.some Jvm.ClassFile.FieldType.boolean)), (Jvm.Cond.methodLink "BasisWalkModel" (100 : Nat) ({ cls := "BasisWalkModel", name := "swap", desc := "(II)V" } : Jvm.MethodName)), (Jvm.Cond.privateMethod ({ cls := "BasisWalkModel", name := "swap", desc := "(II)V" } : Jvm.MethodName)), (Jvm.Cond.instanceMethod ({ cls := "BasisWalkModel", name := "swap", desc := "(II)V" } : Jvm.MethodName)), (Jvm.Cond.code ({ cls := "BasisWalkModel", name := "swap", desc := "(II)V" } : Jvm.MethodName) prog_7_method_6_code (5 : Nat) (Option.none : Option Jvm.ClassFile.FieldType)), (Jvm.Cond.methodLink "BasisWalkModel" (7 : Nat) ({ cls := "BasisWalkModel$Num", name := "copy", desc := "(LBasisWalkModel$Num;)V" } : Jvm.MethodName)), (Jvm.Cond.instanceMethod ({ cls := "BasisWalkModel$Num", name := "copy", desc := "(LBasisWalkModel$Num;)V" } : Jvm.MethodName)), (Jvm.Cond.selects "BasisWalkModel$Num" ({ cls := "BasisWalkModel$Num", name := "copy", desc := "(LBasisWalkModel$Num;)V" } : Jvm.MethodName) ({ cls := "BasisWalkModel$Num", name := "copy", desc := "(LBasisWalkModel$Num;)V" } : Jvm.MethodName)), (Jvm.Cond.code ({ cls := "BasisWalkModel$Num", name := "copy", desc := "(LBasisWalkModel$Num;)V" } : Jvm.MethodName) prog_8_method_3_code (3 : Nat) (Option.none : Option Jvm.ClassFile.FieldType)), (Jvm.Cond.methodLink "BasisWalkModel" (104 : Nat) ({ cls := "BasisWalkModel", name := "take", desc := "(III)V" } : Jvm.MethodName)), (Jvm.Cond.privateMethod ({ cls := "BasisWalkModel", name := "take", desc := "(III)V" } : Jvm.MethodName))]
def tc_26 : List Cond := [(Jvm.Cond.instanceMethod ({ cls := "BasisWalkModel", name := "take", desc := "(III)V" } : Jvm.MethodName)), (Jvm.Cond.code ({ cls := "BasisWalkModel", name := "take", desc := "(III)V" } : Jvm.MethodName) prog_7_method_8_code (7 : Nat) (Option.none : Option Jvm.ClassFile.FieldType)), (Jvm.Cond.methodLink "BasisWalkModel" (61 : Nat) ({ cls := "BasisWalkModel", name := "inverse", desc := "(I)I" } : Jvm.MethodName)), (Jvm.Cond.privateMethod ({ cls := "BasisWalkModel", name := "inverse", desc := "(I)I" } : Jvm.MethodName)), (Jvm.Cond.instanceMethod ({ cls := "BasisWalkModel", name := "inverse", desc := "(I)I" } : Jvm.MethodName)), (Jvm.Cond.code ({ cls := "BasisWalkModel", name := "inverse", desc := "(I)I" } : Jvm.MethodName) prog_7_method_7_code (3 : Nat) (Option.some Jvm.ClassFile.FieldType.int)), (Jvm.Cond.methodLink "BasisWalkModel" (71 : Nat) ({ cls := "BasisWalkModel$Num", name := "product", desc := "(LBasisWalkModel$Num;LBasisWalkModel$Num;)V" } : Jvm.MethodName)), (Jvm.Cond.instanceMethod ({ cls := "BasisWalkModel$Num", name := "product", desc := "(LBasisWalkModel$Num;LBasisWalkModel$Num;)V" } : Jvm.MethodName)), (Jvm.Cond.selects "BasisWalkModel$Num" ({ cls := "BasisWalkModel$Num", name := "product", desc := "(LBasisWalkModel$Num;LBasisWalkModel$Num;)V" } : Jvm.MethodName) ({ cls := "BasisWalkModel$Num", name := "product", desc := "(LBasisWalkModel$Num;LBasisWalkModel$Num;)V" } : Jvm.MethodName)), (Jvm.Cond.code ({ cls := "BasisWalkModel$Num", name := "product", desc := "(LBasisWalkModel$Num;LBasisWalkModel$Num;)V" } : Jvm.MethodName) prog_8_method_11_code (7 : Nat) (Option.none : Option Jvm.ClassFile.FieldType)), (Jvm.Cond.methodLink "BasisWalkModel$Num" (27 : Nat) ({ cls := "BasisWalkModel$Num", name := "trim", desc := "()V" } : Jvm.MethodName)), (Jvm.Cond.instanceMethod ({ cls := "BasisWalkModel$Num", name := "trim", desc := "()V" } : Jvm.MethodName)), (Jvm.Cond.selects "BasisWalkModel$Num" ({ cls := "BasisWalkModel$Num", name := "trim", desc := "()V" } : Jvm.MethodName) ({ cls := "BasisWalkModel$Num", name := "trim", desc := "()V" } : Jvm.MethodName)), (Jvm.Cond.code ({ cls := "BasisWalkModel$Num", name := "trim", desc := "()V" } : Jvm.MethodName) prog_8_method_8_code (1 : Nat) (Option.none : Option Jvm.ClassFile.FieldType)), (Jvm.Cond.methodLink "BasisWalkModel" (75 : Nat) ({ cls := "BasisWalkModel$Num", name := "less", desc := "(LBasisWalkModel$Num;LBasisWalkModel$Num;)V" } : Jvm.MethodName)), (Jvm.Cond.instanceMethod ({ cls := "BasisWalkModel$Num", name := "less", desc := "(LBasisWalkModel$Num;LBasisWalkModel$Num;)V" } : Jvm.MethodName)), (Jvm.Cond.selects "BasisWalkModel$Num" ({ cls := "BasisWalkModel$Num", name := "less", desc := "(LBasisWalkModel$Num;LBasisWalkModel$Num;)V" } : Jvm.MethodName) ({ cls := "BasisWalkModel$Num", name := "less", desc := "(LBasisWalkModel$Num;LBasisWalkModel$Num;)V" } : Jvm.MethodName)), (Jvm.Cond.code ({ cls := "BasisWalkModel$Num", name := "less", desc := "(LBasisWalkModel$Num;LBasisWalkModel$Num;)V" } : Jvm.MethodName) prog_8_method_10_code (10 : Nat) (Option.none : Option Jvm.ClassFile.FieldType)), (Jvm.Cond.constant "BasisWalkModel$Num" (26 : Nat) (65536 : Int32)), (Jvm.Cond.methodLink "BasisWalkModel$Num" (30 : Nat) ({ cls := "BasisWalkModel$Num", name := "compareSize", desc := "(LBasisWalkModel$Num;)I" } : Jvm.MethodName))]
def tc_27 : List Cond := [(Jvm.Cond.instanceMethod ({ cls := "BasisWalkModel$Num", name := "compareSize", desc := "(LBasisWalkModel$Num;)I" } : Jvm.MethodName)), (Jvm.Cond.selects "BasisWalkModel$Num" ({ cls := "BasisWalkModel$Num", name := "compareSize", desc := "(LBasisWalkModel$Num;)I" } : Jvm.MethodName) ({ cls := "BasisWalkModel$Num", name := "compareSize", desc := "(LBasisWalkModel$Num;)I" } : Jvm.MethodName)), (Jvm.Cond.code ({ cls := "BasisWalkModel$Num", name := "compareSize", desc := "(LBasisWalkModel$Num;)I" } : Jvm.MethodName) prog_8_method_9_code (3 : Nat) (Option.some Jvm.ClassFile.FieldType.int)), (Jvm.Cond.methodLink "BasisWalkModel" (78 : Nat) ({ cls := "BasisWalkModel", name := "shorten", desc := "(I)V" } : Jvm.MethodName)), (Jvm.Cond.privateMethod ({ cls := "BasisWalkModel", name := "shorten", desc := "(I)V" } : Jvm.MethodName)), (Jvm.Cond.instanceMethod ({ cls := "BasisWalkModel", name := "shorten", desc := "(I)V" } : Jvm.MethodName)), (Jvm.Cond.code ({ cls := "BasisWalkModel", name := "shorten", desc := "(I)V" } : Jvm.MethodName) prog_7_method_9_code (3 : Nat) (Option.none : Option Jvm.ClassFile.FieldType)), (Jvm.Cond.methodLink "BasisWalkModel" (85 : Nat) ({ cls := "BasisWalkModel$Num", name := "zero", desc := "()V" } : Jvm.MethodName)), (Jvm.Cond.methodLink "BasisWalkModel" (89 : Nat) ({ cls := "BasisWalkModel", name := "divisor", desc := "(LBasisWalkModel$Num;LBasisWalkModel$Num;)V" } : Jvm.MethodName)), (Jvm.Cond.privateMethod ({ cls := "BasisWalkModel", name := "divisor", desc := "(LBasisWalkModel$Num;LBasisWalkModel$Num;)V" } : Jvm.MethodName)), (Jvm.Cond.instanceMethod ({ cls := "BasisWalkModel", name := "divisor", desc := "(LBasisWalkModel$Num;LBasisWalkModel$Num;)V" } : Jvm.MethodName)), (Jvm.Cond.code ({ cls := "BasisWalkModel", name := "divisor", desc := "(LBasisWalkModel$Num;LBasisWalkModel$Num;)V" } : Jvm.MethodName) prog_7_method_1_code (3 : Nat) (Option.none : Option Jvm.ClassFile.FieldType)), (Jvm.Cond.methodLink "BasisWalkModel" (30 : Nat) ({ cls := "BasisWalkModel$Num", name := "quotient", desc := "(LBasisWalkModel$Num;LBasisWalkModel$Num;LBasisWalkModel$Num;)V" } : Jvm.MethodName)), (Jvm.Cond.instanceMethod ({ cls := "BasisWalkModel$Num", name := "quotient", desc := "(LBasisWalkModel$Num;LBasisWalkModel$Num;LBasisWalkModel$Num;)V" } : Jvm.MethodName)), (Jvm.Cond.selects "BasisWalkModel$Num" ({ cls := "BasisWalkModel$Num", name := "quotient", desc := "(LBasisWalkModel$Num;LBasisWalkModel$Num;LBasisWalkModel$Num;)V" } : Jvm.MethodName) ({ cls := "BasisWalkModel$Num", name := "quotient", desc := "(LBasisWalkModel$Num;LBasisWalkModel$Num;LBasisWalkModel$Num;)V" } : Jvm.MethodName)), (Jvm.Cond.code ({ cls := "BasisWalkModel$Num", name := "quotient", desc := "(LBasisWalkModel$Num;LBasisWalkModel$Num;LBasisWalkModel$Num;)V" } : Jvm.MethodName) prog_8_method_12_code (6 : Nat) (Option.none : Option Jvm.ClassFile.FieldType)), (Jvm.Cond.methodLink "BasisWalkModel$Num" (34 : Nat) ({ cls := "BasisWalkModel$Num", name := "often", desc := "(LBasisWalkModel$Num;LBasisWalkModel$Num;)I" } : Jvm.MethodName)), (Jvm.Cond.static ({ cls := "BasisWalkModel$Num", name := "often", desc := "(LBasisWalkModel$Num;LBasisWalkModel$Num;)I" } : Jvm.MethodName)), (Jvm.Cond.code ({ cls := "BasisWalkModel$Num", name := "often", desc := "(LBasisWalkModel$Num;LBasisWalkModel$Num;)I" } : Jvm.MethodName) prog_8_method_13_code (9 : Nat) (Option.some Jvm.ClassFile.FieldType.int)), (Jvm.Cond.constant "BasisWalkModel$Num" (38 : Nat) (65535 : Int32))]
def tc_28 : List Cond := [(Jvm.Cond.methodLink "BasisWalkModel$Num" (39 : Nat) ({ cls := "BasisWalkModel$Num", name := "isAtMost", desc := "(LBasisWalkModel$Num;ILBasisWalkModel$Num;)Z" } : Jvm.MethodName)), (Jvm.Cond.static ({ cls := "BasisWalkModel$Num", name := "isAtMost", desc := "(LBasisWalkModel$Num;ILBasisWalkModel$Num;)Z" } : Jvm.MethodName)), (Jvm.Cond.code ({ cls := "BasisWalkModel$Num", name := "isAtMost", desc := "(LBasisWalkModel$Num;ILBasisWalkModel$Num;)Z" } : Jvm.MethodName) prog_8_method_14_code (8 : Nat) (Option.some Jvm.ClassFile.FieldType.boolean)), (Jvm.Cond.constantLong "BasisWalkModel$Num" (43 : Nat) (65535 : Int64)), (Jvm.Cond.methodLink "BasisWalkModel" (92 : Nat) ({ cls := "BasisWalkModel$Num", name := "isOne", desc := "()Z" } : Jvm.MethodName)), (Jvm.Cond.instanceMethod ({ cls := "BasisWalkModel$Num", name := "isOne", desc := "()Z" } : Jvm.MethodName)), (Jvm.Cond.selects "BasisWalkModel$Num" ({ cls := "BasisWalkModel$Num", name := "isOne", desc := "()Z" } : Jvm.MethodName) ({ cls := "BasisWalkModel$Num", name := "isOne", desc := "()Z" } : Jvm.MethodName)), (Jvm.Cond.code ({ cls := "BasisWalkModel$Num", name := "isOne", desc := "()Z" } : Jvm.MethodName) prog_8_method_5_code (1 : Nat) (Option.some Jvm.ClassFile.FieldType.boolean)), (Jvm.Cond.methodLink "BasisWalkModel" (111 : Nat) ({ cls := "BasisWalkModel", name := "settle", desc := "(I)V" } : Jvm.MethodName)), (Jvm.Cond.privateMethod ({ cls := "BasisWalkModel", name := "settle", desc := "(I)V" } : Jvm.MethodName)), (Jvm.Cond.instanceMethod ({ cls := "BasisWalkModel", name := "settle", desc := "(I)V" } : Jvm.MethodName)), (Jvm.Cond.code ({ cls := "BasisWalkModel", name := "settle", desc := "(I)V" } : Jvm.MethodName) prog_7_method_11_code (4 : Nat) (Option.none : Option Jvm.ClassFile.FieldType)), (Jvm.Cond.methodLink "BasisWalkModel" (114 : Nat) ({ cls := "BasisWalkModel$Num", name := "turn", desc := "()V" } : Jvm.MethodName)), (Jvm.Cond.instanceMethod ({ cls := "BasisWalkModel$Num", name := "turn", desc := "()V" } : Jvm.MethodName)), (Jvm.Cond.selects "BasisWalkModel$Num" ({ cls := "BasisWalkModel$Num", name := "turn", desc := "()V" } : Jvm.MethodName) ({ cls := "BasisWalkModel$Num", name := "turn", desc := "()V" } : Jvm.MethodName)), (Jvm.Cond.code ({ cls := "BasisWalkModel$Num", name := "turn", desc := "()V" } : Jvm.MethodName) prog_8_method_7_code (1 : Nat) (Option.none : Option Jvm.ClassFile.FieldType)), (Jvm.Cond.methodLink "BasisWalkModel" (216 : Nat) ({ cls := "BasisWalkModel", name := "measure", desc := "(I)V" } : Jvm.MethodName)), (Jvm.Cond.privateMethod ({ cls := "BasisWalkModel", name := "measure", desc := "(I)V" } : Jvm.MethodName)), (Jvm.Cond.instanceMethod ({ cls := "BasisWalkModel", name := "measure", desc := "(I)V" } : Jvm.MethodName)), (Jvm.Cond.code ({ cls := "BasisWalkModel", name := "measure", desc := "(I)V" } : Jvm.MethodName) prog_7_method_25_code (8 : Nat) (Option.none : Option Jvm.ClassFile.FieldType))]
def tc_29 : List Cond := [(Jvm.Cond.methodLink "BasisWalkModel" (219 : Nat) ({ cls := "BasisWalkModel", name := "minorOf", desc := "(I)I" } : Jvm.MethodName)), (Jvm.Cond.privateMethod ({ cls := "BasisWalkModel", name := "minorOf", desc := "(I)I" } : Jvm.MethodName)), (Jvm.Cond.instanceMethod ({ cls := "BasisWalkModel", name := "minorOf", desc := "(I)I" } : Jvm.MethodName)), (Jvm.Cond.code ({ cls := "BasisWalkModel", name := "minorOf", desc := "(I)I" } : Jvm.MethodName) prog_7_method_12_code (7 : Nat) (Option.some Jvm.ClassFile.FieldType.int)), (Jvm.Cond.methodLink "BasisWalkModel" (123 : Nat) ({ cls := "BasisWalkModel", name := "placeOf", desc := "([III)I" } : Jvm.MethodName)), (Jvm.Cond.static ({ cls := "BasisWalkModel", name := "placeOf", desc := "([III)I" } : Jvm.MethodName)), (Jvm.Cond.code ({ cls := "BasisWalkModel", name := "placeOf", desc := "([III)I" } : Jvm.MethodName) prog_7_method_13_code (4 : Nat) (Option.some Jvm.ClassFile.FieldType.int)), (Jvm.Cond.methodLink "BasisWalkModel" (127 : Nat) ({ cls := "BasisWalkModel", name := "remove", desc := "([III)V" } : Jvm.MethodName)), (Jvm.Cond.static ({ cls := "BasisWalkModel", name := "remove", desc := "([III)V" } : Jvm.MethodName)), (Jvm.Cond.code ({ cls := "BasisWalkModel", name := "remove", desc := "([III)V" } : Jvm.MethodName) prog_7_method_14_code (4 : Nat) (Option.none : Option Jvm.ClassFile.FieldType)), (Jvm.Cond.methodLink "BasisWalkModel" (131 : Nat) ({ cls := "BasisWalkModel", name := "smallDeterminant", desc := "(I)I" } : Jvm.MethodName)), (Jvm.Cond.privateMethod ({ cls := "BasisWalkModel", name := "smallDeterminant", desc := "(I)I" } : Jvm.MethodName)), (Jvm.Cond.instanceMethod ({ cls := "BasisWalkModel", name := "smallDeterminant", desc := "(I)I" } : Jvm.MethodName)), (Jvm.Cond.code ({ cls := "BasisWalkModel", name := "smallDeterminant", desc := "(I)I" } : Jvm.MethodName) prog_7_method_15_code (8 : Nat) (Option.some Jvm.ClassFile.FieldType.int)), (Jvm.Cond.methodLink "BasisWalkModel" (134 : Nat) ({ cls := "BasisWalkModel", name := "determinant", desc := "(I)I" } : Jvm.MethodName)), (Jvm.Cond.privateMethod ({ cls := "BasisWalkModel", name := "determinant", desc := "(I)I" } : Jvm.MethodName)), (Jvm.Cond.instanceMethod ({ cls := "BasisWalkModel", name := "determinant", desc := "(I)I" } : Jvm.MethodName)), (Jvm.Cond.code ({ cls := "BasisWalkModel", name := "determinant", desc := "(I)I" } : Jvm.MethodName) prog_7_method_16_code (7 : Nat) (Option.some Jvm.ClassFile.FieldType.int)), (Jvm.Cond.methodLink "BasisWalkModel" (143 : Nat) ({ cls := "BasisWalkModel$Num", name := "sign", desc := "()I" } : Jvm.MethodName)), (Jvm.Cond.instanceMethod ({ cls := "BasisWalkModel$Num", name := "sign", desc := "()I" } : Jvm.MethodName))]
def tc_30 : List Cond := [(Jvm.Cond.selects "BasisWalkModel$Num" ({ cls := "BasisWalkModel$Num", name := "sign", desc := "()I" } : Jvm.MethodName) ({ cls := "BasisWalkModel$Num", name := "sign", desc := "()I" } : Jvm.MethodName)), (Jvm.Cond.code ({ cls := "BasisWalkModel$Num", name := "sign", desc := "()I" } : Jvm.MethodName) prog_8_method_6_code (1 : Nat) (Option.some Jvm.ClassFile.FieldType.int)), (Jvm.Cond.methodLink "BasisWalkModel" (226 : Nat) ({ cls := "BasisWalkModel", name := "whole", desc := "(I)I" } : Jvm.MethodName)), (Jvm.Cond.privateMethod ({ cls := "BasisWalkModel", name := "whole", desc := "(I)I" } : Jvm.MethodName)), (Jvm.Cond.instanceMethod ({ cls := "BasisWalkModel", name := "whole", desc := "(I)I" } : Jvm.MethodName)), (Jvm.Cond.code ({ cls := "BasisWalkModel", name := "whole", desc := "(I)I" } : Jvm.MethodName) prog_7_method_27_code (2 : Nat) (Option.some Jvm.ClassFile.FieldType.int)), (Jvm.Cond.methodLink "BasisWalkModel" (222 : Nat) ({ cls := "BasisWalkModel", name := "\x72", desc := "(II)I" } : Jvm.MethodName)), (Jvm.Cond.privateMethod ({ cls := "BasisWalkModel", name := "\x72", desc := "(II)I" } : Jvm.MethodName)), (Jvm.Cond.instanceMethod ({ cls := "BasisWalkModel", name := "\x72", desc := "(II)I" } : Jvm.MethodName)), (Jvm.Cond.code ({ cls := "BasisWalkModel", name := "\x72", desc := "(II)I" } : Jvm.MethodName) prog_7_method_26_code (3 : Nat) (Option.some Jvm.ClassFile.FieldType.int)), (Jvm.Cond.methodLink "BasisWalkLaw" (35 : Nat) ({ cls := "BasisWalkModel", name := "count", desc := "(II)I" } : Jvm.MethodName)), (Jvm.Cond.instanceMethod ({ cls := "BasisWalkModel", name := "count", desc := "(II)I" } : Jvm.MethodName)), (Jvm.Cond.selects "BasisWalkModel" ({ cls := "BasisWalkModel", name := "count", desc := "(II)I" } : Jvm.MethodName) ({ cls := "BasisWalkModel", name := "count", desc := "(II)I" } : Jvm.MethodName)), (Jvm.Cond.code ({ cls := "BasisWalkModel", name := "count", desc := "(II)I" } : Jvm.MethodName) prog_7_method_41_code (3 : Nat) (Option.some Jvm.ClassFile.FieldType.int)), (Jvm.Cond.methodLink "BasisWalkModel" (257 : Nat) ({ cls := "BasisWalkModel", name := "howMany", desc := "(II)I" } : Jvm.MethodName)), (Jvm.Cond.privateMethod ({ cls := "BasisWalkModel", name := "howMany", desc := "(II)I" } : Jvm.MethodName)), (Jvm.Cond.instanceMethod ({ cls := "BasisWalkModel", name := "howMany", desc := "(II)I" } : Jvm.MethodName)), (Jvm.Cond.code ({ cls := "BasisWalkModel", name := "howMany", desc := "(II)I" } : Jvm.MethodName) prog_7_method_33_code (5 : Nat) (Option.some Jvm.ClassFile.FieldType.int)), (Jvm.Cond.methodLink "BasisWalkModel" (242 : Nat) ({ cls := "BasisWalkModel", name := "isOf", desc := "(III)Z" } : Jvm.MethodName)), (Jvm.Cond.privateMethod ({ cls := "BasisWalkModel", name := "isOf", desc := "(III)Z" } : Jvm.MethodName))]
def tc_31 : List Cond := [(Jvm.Cond.instanceMethod ({ cls := "BasisWalkModel", name := "isOf", desc := "(III)Z" } : Jvm.MethodName)), (Jvm.Cond.code ({ cls := "BasisWalkModel", name := "isOf", desc := "(III)Z" } : Jvm.MethodName) prog_7_method_32_code (4 : Nat) (Option.some Jvm.ClassFile.FieldType.boolean)), (Jvm.Cond.methodLink "BasisWalkModel" (232 : Nat) ({ cls := "BasisWalkModel", name := "isFree", desc := "(II)Z" } : Jvm.MethodName)), (Jvm.Cond.privateMethod ({ cls := "BasisWalkModel", name := "isFree", desc := "(II)Z" } : Jvm.MethodName)), (Jvm.Cond.instanceMethod ({ cls := "BasisWalkModel", name := "isFree", desc := "(II)Z" } : Jvm.MethodName)), (Jvm.Cond.code ({ cls := "BasisWalkModel", name := "isFree", desc := "(II)Z" } : Jvm.MethodName) prog_7_method_28_code (3 : Nat) (Option.some Jvm.ClassFile.FieldType.boolean)), (Jvm.Cond.methodLink "BasisWalkModel" (235 : Nat) ({ cls := "BasisWalkModel", name := "isFlat", desc := "(II)Z" } : Jvm.MethodName)), (Jvm.Cond.privateMethod ({ cls := "BasisWalkModel", name := "isFlat", desc := "(II)Z" } : Jvm.MethodName)), (Jvm.Cond.instanceMethod ({ cls := "BasisWalkModel", name := "isFlat", desc := "(II)Z" } : Jvm.MethodName)), (Jvm.Cond.code ({ cls := "BasisWalkModel", name := "isFlat", desc := "(II)Z" } : Jvm.MethodName) prog_7_method_31_code (5 : Nat) (Option.some Jvm.ClassFile.FieldType.boolean)), (Jvm.Cond.methodLink "BasisWalkModel" (238 : Nat) ({ cls := "BasisWalkModel", name := "isCircuit", desc := "(IIZ)Z" } : Jvm.MethodName)), (Jvm.Cond.privateMethod ({ cls := "BasisWalkModel", name := "isCircuit", desc := "(IIZ)Z" } : Jvm.MethodName)), (Jvm.Cond.instanceMethod ({ cls := "BasisWalkModel", name := "isCircuit", desc := "(IIZ)Z" } : Jvm.MethodName)), (Jvm.Cond.code ({ cls := "BasisWalkModel", name := "isCircuit", desc := "(IIZ)Z" } : Jvm.MethodName) prog_7_method_30_code (7 : Nat) (Option.some Jvm.ClassFile.FieldType.boolean)), (Jvm.Cond.methodLink "BasisWalkModel" (229 : Nat) ({ cls := "BasisWalkModel", name := "dualRank", desc := "(II)I" } : Jvm.MethodName)), (Jvm.Cond.privateMethod ({ cls := "BasisWalkModel", name := "dualRank", desc := "(II)I" } : Jvm.MethodName)), (Jvm.Cond.instanceMethod ({ cls := "BasisWalkModel", name := "dualRank", desc := "(II)I" } : Jvm.MethodName)), (Jvm.Cond.code ({ cls := "BasisWalkModel", name := "dualRank", desc := "(II)I" } : Jvm.MethodName) prog_7_method_29_code (3 : Nat) (Option.some Jvm.ClassFile.FieldType.int)), (Jvm.Cond.methodLink "BasisWalkLaw" (40 : Nat) ({ cls := "BasisWalkModel", name := "member", desc := "(III)I" } : Jvm.MethodName)), (Jvm.Cond.instanceMethod ({ cls := "BasisWalkModel", name := "member", desc := "(III)I" } : Jvm.MethodName))]
def tc_32 : List Cond := [(Jvm.Cond.selects "BasisWalkModel" ({ cls := "BasisWalkModel", name := "member", desc := "(III)I" } : Jvm.MethodName) ({ cls := "BasisWalkModel", name := "member", desc := "(III)I" } : Jvm.MethodName)), (Jvm.Cond.code ({ cls := "BasisWalkModel", name := "member", desc := "(III)I" } : Jvm.MethodName) prog_7_method_42_code (4 : Nat) (Option.some Jvm.ClassFile.FieldType.int)), (Jvm.Cond.methodLink "BasisWalkModel" (260 : Nat) ({ cls := "BasisWalkModel", name := "theOne", desc := "(III)I" } : Jvm.MethodName)), (Jvm.Cond.privateMethod ({ cls := "BasisWalkModel", name := "theOne", desc := "(III)I" } : Jvm.MethodName)), (Jvm.Cond.instanceMethod ({ cls := "BasisWalkModel", name := "theOne", desc := "(III)I" } : Jvm.MethodName)), (Jvm.Cond.code ({ cls := "BasisWalkModel", name := "theOne", desc := "(III)I" } : Jvm.MethodName) prog_7_method_34_code (6 : Nat) (Option.some Jvm.ClassFile.FieldType.int)), (Jvm.Cond.methodLink "BasisWalkLaw" (45 : Nat) ({ cls := "BasisWalkModel", name := "tutte", desc := "(III)J" } : Jvm.MethodName)), (Jvm.Cond.instanceMethod ({ cls := "BasisWalkModel", name := "tutte", desc := "(III)J" } : Jvm.MethodName)), (Jvm.Cond.selects "BasisWalkModel" ({ cls := "BasisWalkModel", name := "tutte", desc := "(III)J" } : Jvm.MethodName) ({ cls := "BasisWalkModel", name := "tutte", desc := "(III)J" } : Jvm.MethodName)), (Jvm.Cond.code ({ cls := "BasisWalkModel", name := "tutte", desc := "(III)J" } : Jvm.MethodName) prog_7_method_43_code (4 : Nat) (Option.some Jvm.ClassFile.FieldType.long)), (Jvm.Cond.methodLink "BasisWalkModel" (263 : Nat) ({ cls := "BasisWalkModel", name := "polynomial", desc := "(I)V" } : Jvm.MethodName)), (Jvm.Cond.privateMethod ({ cls := "BasisWalkModel", name := "polynomial", desc := "(I)V" } : Jvm.MethodName)), (Jvm.Cond.instanceMethod ({ cls := "BasisWalkModel", name := "polynomial", desc := "(I)V" } : Jvm.MethodName)), (Jvm.Cond.code ({ cls := "BasisWalkModel", name := "polynomial", desc := "(I)V" } : Jvm.MethodName) prog_7_method_35_code (9 : Nat) (Option.none : Option Jvm.ClassFile.FieldType)), (Jvm.Cond.methodLink "BasisWalkLaw" (49 : Nat) ({ cls := "BasisWalkModel", name := "sign", desc := "(II)I" } : Jvm.MethodName)), (Jvm.Cond.instanceMethod ({ cls := "BasisWalkModel", name := "sign", desc := "(II)I" } : Jvm.MethodName)), (Jvm.Cond.selects "BasisWalkModel" ({ cls := "BasisWalkModel", name := "sign", desc := "(II)I" } : Jvm.MethodName) ({ cls := "BasisWalkModel", name := "sign", desc := "(II)I" } : Jvm.MethodName)), (Jvm.Cond.code ({ cls := "BasisWalkModel", name := "sign", desc := "(II)I" } : Jvm.MethodName) prog_7_method_44_code (4 : Nat) (Option.some Jvm.ClassFile.FieldType.int)), (Jvm.Cond.methodLink "BasisWalkLaw" (53 : Nat) ({ cls := "BasisWalkModel", name := "below", desc := "(II)I" } : Jvm.MethodName)), (Jvm.Cond.instanceMethod ({ cls := "BasisWalkModel", name := "below", desc := "(II)I" } : Jvm.MethodName))]
def tc_33 : List Cond := [(Jvm.Cond.selects "BasisWalkModel" ({ cls := "BasisWalkModel", name := "below", desc := "(II)I" } : Jvm.MethodName) ({ cls := "BasisWalkModel", name := "below", desc := "(II)I" } : Jvm.MethodName)), (Jvm.Cond.code ({ cls := "BasisWalkModel", name := "below", desc := "(II)I" } : Jvm.MethodName) prog_7_method_45_code (4 : Nat) (Option.some Jvm.ClassFile.FieldType.int)), (Jvm.Cond.methodLink "BasisWalkModel" (266 : Nat) ({ cls := "BasisWalkModel", name := "belowOf", desc := "(II)I" } : Jvm.MethodName)), (Jvm.Cond.privateMethod ({ cls := "BasisWalkModel", name := "belowOf", desc := "(II)I" } : Jvm.MethodName)), (Jvm.Cond.instanceMethod ({ cls := "BasisWalkModel", name := "belowOf", desc := "(II)I" } : Jvm.MethodName)), (Jvm.Cond.code ({ cls := "BasisWalkModel", name := "belowOf", desc := "(II)I" } : Jvm.MethodName) prog_7_method_37_code (11 : Nat) (Option.some Jvm.ClassFile.FieldType.int)), (Jvm.Cond.methodLink "BasisWalkModel" (246 : Nat) ({ cls := "BasisWalkModel", name := "determinantOf", desc := "(III)I" } : Jvm.MethodName)), (Jvm.Cond.privateMethod ({ cls := "BasisWalkModel", name := "determinantOf", desc := "(III)I" } : Jvm.MethodName)), (Jvm.Cond.instanceMethod ({ cls := "BasisWalkModel", name := "determinantOf", desc := "(III)I" } : Jvm.MethodName)), (Jvm.Cond.code ({ cls := "BasisWalkModel", name := "determinantOf", desc := "(III)I" } : Jvm.MethodName) prog_7_method_38_code (7 : Nat) (Option.some Jvm.ClassFile.FieldType.int)), (Jvm.Cond.methodLink "BasisWalkModel" (250 : Nat) ({ cls := "BasisWalkModel", name := "isEven", desc := "([II)Z" } : Jvm.MethodName)), (Jvm.Cond.static ({ cls := "BasisWalkModel", name := "isEven", desc := "([II)Z" } : Jvm.MethodName)), (Jvm.Cond.code ({ cls := "BasisWalkModel", name := "isEven", desc := "([II)Z" } : Jvm.MethodName) prog_7_method_36_code (5 : Nat) (Option.some Jvm.ClassFile.FieldType.boolean))]
set_option maxHeartbeats 4000000 in
set_option maxRecDepth 100000 in
theorem tc_all : tables_1 = tc_0 ++ (tc_1 ++ (tc_2 ++ (tc_3 ++ (tc_4 ++ (tc_5 ++ (tc_6 ++ (tc_7 ++ (tc_8 ++ (tc_9 ++ (tc_10 ++ (tc_11 ++ (tc_12 ++ (tc_13 ++ (tc_14 ++ (tc_15 ++ (tc_16 ++ (tc_17 ++ (tc_18 ++ (tc_19 ++ (tc_20 ++ (tc_21 ++ (tc_22 ++ (tc_23 ++ (tc_24 ++ (tc_25 ++ (tc_26 ++ (tc_27 ++ (tc_28 ++ (tc_29 ++ (tc_30 ++ (tc_31 ++ (tc_32 ++ (tc_33))))))))))))))))))))))))))))))))) := rfl
theorem tcg_0 : ∀ w ∈ tc_0, w ∈ lw_tbl := fun w h => List.mem_append_right _ (by rw [tc_all]; exact List.mem_append_left _ h)
theorem tcg_1 : ∀ w ∈ tc_1, w ∈ lw_tbl := fun w h => List.mem_append_right _ (by rw [tc_all]; exact List.mem_append_right _ (List.mem_append_left _ h))
theorem tcg_2 : ∀ w ∈ tc_2, w ∈ lw_tbl := fun w h => List.mem_append_right _ (by rw [tc_all]; exact List.mem_append_right _ (List.mem_append_right _ (List.mem_append_left _ h)))
theorem tcg_3 : ∀ w ∈ tc_3, w ∈ lw_tbl := fun w h => List.mem_append_right _ (by rw [tc_all]; exact List.mem_append_right _ (List.mem_append_right _ (List.mem_append_right _ (List.mem_append_left _ h))))
theorem tcg_4 : ∀ w ∈ tc_4, w ∈ lw_tbl := fun w h => List.mem_append_right _ (by rw [tc_all]; exact List.mem_append_right _ (List.mem_append_right _ (List.mem_append_right _ (List.mem_append_right _ (List.mem_append_left _ h)))))
theorem tcg_5 : ∀ w ∈ tc_5, w ∈ lw_tbl := fun w h => List.mem_append_right _ (by rw [tc_all]; exact List.mem_append_right _ (List.mem_append_right _ (List.mem_append_right _ (List.mem_append_right _ (List.mem_append_right _ (List.mem_append_left _ h))))))
theorem tcg_6 : ∀ w ∈ tc_6, w ∈ lw_tbl := fun w h => List.mem_append_right _ (by rw [tc_all]; exact List.mem_append_right _ (List.mem_append_right _ (List.mem_append_right _ (List.mem_append_right _ (List.mem_append_right _ (List.mem_append_right _ (List.mem_append_left _ h)))))))
theorem tcg_7 : ∀ w ∈ tc_7, w ∈ lw_tbl := fun w h => List.mem_append_right _ (by rw [tc_all]; exact List.mem_append_right _ (List.mem_append_right _ (List.mem_append_right _ (List.mem_append_right _ (List.mem_append_right _ (List.mem_append_right _ (List.mem_append_right _ (List.mem_append_left _ h))))))))
theorem tcg_8 : ∀ w ∈ tc_8, w ∈ lw_tbl := fun w h => List.mem_append_right _ (by rw [tc_all]; exact List.mem_append_right _ (List.mem_append_right _ (List.mem_append_right _ (List.mem_append_right _ (List.mem_append_right _ (List.mem_append_right _ (List.mem_append_right _ (List.mem_append_right _ (List.mem_append_left _ h)))))))))
theorem tcg_9 : ∀ w ∈ tc_9, w ∈ lw_tbl := fun w h => List.mem_append_right _ (by rw [tc_all]; exact List.mem_append_right _ (List.mem_append_right _ (List.mem_append_right _ (List.mem_append_right _ (List.mem_append_right _ (List.mem_append_right _ (List.mem_append_right _ (List.mem_append_right _ (List.mem_append_right _ (List.mem_append_left _ h))))))))))
theorem tcg_10 : ∀ w ∈ tc_10, w ∈ lw_tbl := fun w h => List.mem_append_right _ (by rw [tc_all]; exact List.mem_append_right _ (List.mem_append_right _ (List.mem_append_right _ (List.mem_append_right _ (List.mem_append_right _ (List.mem_append_right _ (List.mem_append_right _ (List.mem_append_right _ (List.mem_append_right _ (List.mem_append_right _ (List.mem_append_left _ h)))))))))))
theorem tcg_11 : ∀ w ∈ tc_11, w ∈ lw_tbl := fun w h => List.mem_append_right _ (by rw [tc_all]; exact List.mem_append_right _ (List.mem_append_right _ (List.mem_append_right _ (List.mem_append_right _ (List.mem_append_right _ (List.mem_append_right _ (List.mem_append_right _ (List.mem_append_right _ (List.mem_append_right _ (List.mem_append_right _ (List.mem_append_right _ (List.mem_append_left _ h))))))))))))
theorem tcg_12 : ∀ w ∈ tc_12, w ∈ lw_tbl := fun w h => List.mem_append_right _ (by rw [tc_all]; exact List.mem_append_right _ (List.mem_append_right _ (List.mem_append_right _ (List.mem_append_right _ (List.mem_append_right _ (List.mem_append_right _ (List.mem_append_right _ (List.mem_append_right _ (List.mem_append_right _ (List.mem_append_right _ (List.mem_append_right _ (List.mem_append_right _ (List.mem_append_left _ h)))))))))))))
theorem tcg_13 : ∀ w ∈ tc_13, w ∈ lw_tbl := fun w h => List.mem_append_right _ (by rw [tc_all]; exact List.mem_append_right _ (List.mem_append_right _ (List.mem_append_right _ (List.mem_append_right _ (List.mem_append_right _ (List.mem_append_right _ (List.mem_append_right _ (List.mem_append_right _ (List.mem_append_right _ (List.mem_append_right _ (List.mem_append_right _ (List.mem_append_right _ (List.mem_append_right _ (List.mem_append_left _ h))))))))))))))
theorem tcg_14 : ∀ w ∈ tc_14, w ∈ lw_tbl := fun w h => List.mem_append_right _ (by rw [tc_all]; exact List.mem_append_right _ (List.mem_append_right _ (List.mem_append_right _ (List.mem_append_right _ (List.mem_append_right _ (List.mem_append_right _ (List.mem_append_right _ (List.mem_append_right _ (List.mem_append_right _ (List.mem_append_right _ (List.mem_append_right _ (List.mem_append_right _ (List.mem_append_right _ (List.mem_append_right _ (List.mem_append_left _ h)))))))))))))))
theorem tcg_15 : ∀ w ∈ tc_15, w ∈ lw_tbl := fun w h => List.mem_append_right _ (by rw [tc_all]; exact List.mem_append_right _ (List.mem_append_right _ (List.mem_append_right _ (List.mem_append_right _ (List.mem_append_right _ (List.mem_append_right _ (List.mem_append_right _ (List.mem_append_right _ (List.mem_append_right _ (List.mem_append_right _ (List.mem_append_right _ (List.mem_append_right _ (List.mem_append_right _ (List.mem_append_right _ (List.mem_append_right _ (List.mem_append_left _ h))))))))))))))))
theorem tcg_16 : ∀ w ∈ tc_16, w ∈ lw_tbl := fun w h => List.mem_append_right _ (by rw [tc_all]; exact List.mem_append_right _ (List.mem_append_right _ (List.mem_append_right _ (List.mem_append_right _ (List.mem_append_right _ (List.mem_append_right _ (List.mem_append_right _ (List.mem_append_right _ (List.mem_append_right _ (List.mem_append_right _ (List.mem_append_right _ (List.mem_append_right _ (List.mem_append_right _ (List.mem_append_right _ (List.mem_append_right _ (List.mem_append_right _ (List.mem_append_left _ h)))))))))))))))))
theorem tcg_17 : ∀ w ∈ tc_17, w ∈ lw_tbl := fun w h => List.mem_append_right _ (by rw [tc_all]; exact List.mem_append_right _ (List.mem_append_right _ (List.mem_append_right _ (List.mem_append_right _ (List.mem_append_right _ (List.mem_append_right _ (List.mem_append_right _ (List.mem_append_right _ (List.mem_append_right _ (List.mem_append_right _ (List.mem_append_right _ (List.mem_append_right _ (List.mem_append_right _ (List.mem_append_right _ (List.mem_append_right _ (List.mem_append_right _ (List.mem_append_right _ (List.mem_append_left _ h))))))))))))))))))
theorem tcg_18 : ∀ w ∈ tc_18, w ∈ lw_tbl := fun w h => List.mem_append_right _ (by rw [tc_all]; exact List.mem_append_right _ (List.mem_append_right _ (List.mem_append_right _ (List.mem_append_right _ (List.mem_append_right _ (List.mem_append_right _ (List.mem_append_right _ (List.mem_append_right _ (List.mem_append_right _ (List.mem_append_right _ (List.mem_append_right _ (List.mem_append_right _ (List.mem_append_right _ (List.mem_append_right _ (List.mem_append_right _ (List.mem_append_right _ (List.mem_append_right _ (List.mem_append_right _ (List.mem_append_left _ h)))))))))))))))))))
theorem tcg_19 : ∀ w ∈ tc_19, w ∈ lw_tbl := fun w h => List.mem_append_right _ (by rw [tc_all]; exact List.mem_append_right _ (List.mem_append_right _ (List.mem_append_right _ (List.mem_append_right _ (List.mem_append_right _ (List.mem_append_right _ (List.mem_append_right _ (List.mem_append_right _ (List.mem_append_right _ (List.mem_append_right _ (List.mem_append_right _ (List.mem_append_right _ (List.mem_append_right _ (List.mem_append_right _ (List.mem_append_right _ (List.mem_append_right _ (List.mem_append_right _ (List.mem_append_right _ (List.mem_append_right _ (List.mem_append_left _ h))))))))))))))))))))
theorem tcg_20 : ∀ w ∈ tc_20, w ∈ lw_tbl := fun w h => List.mem_append_right _ (by rw [tc_all]; exact List.mem_append_right _ (List.mem_append_right _ (List.mem_append_right _ (List.mem_append_right _ (List.mem_append_right _ (List.mem_append_right _ (List.mem_append_right _ (List.mem_append_right _ (List.mem_append_right _ (List.mem_append_right _ (List.mem_append_right _ (List.mem_append_right _ (List.mem_append_right _ (List.mem_append_right _ (List.mem_append_right _ (List.mem_append_right _ (List.mem_append_right _ (List.mem_append_right _ (List.mem_append_right _ (List.mem_append_right _ (List.mem_append_left _ h)))))))))))))))))))))
theorem tcg_21 : ∀ w ∈ tc_21, w ∈ lw_tbl := fun w h => List.mem_append_right _ (by rw [tc_all]; exact List.mem_append_right _ (List.mem_append_right _ (List.mem_append_right _ (List.mem_append_right _ (List.mem_append_right _ (List.mem_append_right _ (List.mem_append_right _ (List.mem_append_right _ (List.mem_append_right _ (List.mem_append_right _ (List.mem_append_right _ (List.mem_append_right _ (List.mem_append_right _ (List.mem_append_right _ (List.mem_append_right _ (List.mem_append_right _ (List.mem_append_right _ (List.mem_append_right _ (List.mem_append_right _ (List.mem_append_right _ (List.mem_append_right _ (List.mem_append_left _ h))))))))))))))))))))))
theorem tcg_22 : ∀ w ∈ tc_22, w ∈ lw_tbl := fun w h => List.mem_append_right _ (by rw [tc_all]; exact List.mem_append_right _ (List.mem_append_right _ (List.mem_append_right _ (List.mem_append_right _ (List.mem_append_right _ (List.mem_append_right _ (List.mem_append_right _ (List.mem_append_right _ (List.mem_append_right _ (List.mem_append_right _ (List.mem_append_right _ (List.mem_append_right _ (List.mem_append_right _ (List.mem_append_right _ (List.mem_append_right _ (List.mem_append_right _ (List.mem_append_right _ (List.mem_append_right _ (List.mem_append_right _ (List.mem_append_right _ (List.mem_append_right _ (List.mem_append_right _ (List.mem_append_left _ h)))))))))))))))))))))))
theorem tcg_23 : ∀ w ∈ tc_23, w ∈ lw_tbl := fun w h => List.mem_append_right _ (by rw [tc_all]; exact List.mem_append_right _ (List.mem_append_right _ (List.mem_append_right _ (List.mem_append_right _ (List.mem_append_right _ (List.mem_append_right _ (List.mem_append_right _ (List.mem_append_right _ (List.mem_append_right _ (List.mem_append_right _ (List.mem_append_right _ (List.mem_append_right _ (List.mem_append_right _ (List.mem_append_right _ (List.mem_append_right _ (List.mem_append_right _ (List.mem_append_right _ (List.mem_append_right _ (List.mem_append_right _ (List.mem_append_right _ (List.mem_append_right _ (List.mem_append_right _ (List.mem_append_right _ (List.mem_append_left _ h))))))))))))))))))))))))
theorem tcg_24 : ∀ w ∈ tc_24, w ∈ lw_tbl := fun w h => List.mem_append_right _ (by rw [tc_all]; exact List.mem_append_right _ (List.mem_append_right _ (List.mem_append_right _ (List.mem_append_right _ (List.mem_append_right _ (List.mem_append_right _ (List.mem_append_right _ (List.mem_append_right _ (List.mem_append_right _ (List.mem_append_right _ (List.mem_append_right _ (List.mem_append_right _ (List.mem_append_right _ (List.mem_append_right _ (List.mem_append_right _ (List.mem_append_right _ (List.mem_append_right _ (List.mem_append_right _ (List.mem_append_right _ (List.mem_append_right _ (List.mem_append_right _ (List.mem_append_right _ (List.mem_append_right _ (List.mem_append_right _ (List.mem_append_left _ h)))))))))))))))))))))))))
theorem tcg_25 : ∀ w ∈ tc_25, w ∈ lw_tbl := fun w h => List.mem_append_right _ (by rw [tc_all]; exact List.mem_append_right _ (List.mem_append_right _ (List.mem_append_right _ (List.mem_append_right _ (List.mem_append_right _ (List.mem_append_right _ (List.mem_append_right _ (List.mem_append_right _ (List.mem_append_right _ (List.mem_append_right _ (List.mem_append_right _ (List.mem_append_right _ (List.mem_append_right _ (List.mem_append_right _ (List.mem_append_right _ (List.mem_append_right _ (List.mem_append_right _ (List.mem_append_right _ (List.mem_append_right _ (List.mem_append_right _ (List.mem_append_right _ (List.mem_append_right _ (List.mem_append_right _ (List.mem_append_right _ (List.mem_append_right _ (List.mem_append_left _ h))))))))))))))))))))))))))
theorem tcg_26 : ∀ w ∈ tc_26, w ∈ lw_tbl := fun w h => List.mem_append_right _ (by rw [tc_all]; exact List.mem_append_right _ (List.mem_append_right _ (List.mem_append_right _ (List.mem_append_right _ (List.mem_append_right _ (List.mem_append_right _ (List.mem_append_right _ (List.mem_append_right _ (List.mem_append_right _ (List.mem_append_right _ (List.mem_append_right _ (List.mem_append_right _ (List.mem_append_right _ (List.mem_append_right _ (List.mem_append_right _ (List.mem_append_right _ (List.mem_append_right _ (List.mem_append_right _ (List.mem_append_right _ (List.mem_append_right _ (List.mem_append_right _ (List.mem_append_right _ (List.mem_append_right _ (List.mem_append_right _ (List.mem_append_right _ (List.mem_append_right _ (List.mem_append_left _ h)))))))))))))))))))))))))))
theorem tcg_27 : ∀ w ∈ tc_27, w ∈ lw_tbl := fun w h => List.mem_append_right _ (by rw [tc_all]; exact List.mem_append_right _ (List.mem_append_right _ (List.mem_append_right _ (List.mem_append_right _ (List.mem_append_right _ (List.mem_append_right _ (List.mem_append_right _ (List.mem_append_right _ (List.mem_append_right _ (List.mem_append_right _ (List.mem_append_right _ (List.mem_append_right _ (List.mem_append_right _ (List.mem_append_right _ (List.mem_append_right _ (List.mem_append_right _ (List.mem_append_right _ (List.mem_append_right _ (List.mem_append_right _ (List.mem_append_right _ (List.mem_append_right _ (List.mem_append_right _ (List.mem_append_right _ (List.mem_append_right _ (List.mem_append_right _ (List.mem_append_right _ (List.mem_append_right _ (List.mem_append_left _ h))))))))))))))))))))))))))))
theorem tcg_28 : ∀ w ∈ tc_28, w ∈ lw_tbl := fun w h => List.mem_append_right _ (by rw [tc_all]; exact List.mem_append_right _ (List.mem_append_right _ (List.mem_append_right _ (List.mem_append_right _ (List.mem_append_right _ (List.mem_append_right _ (List.mem_append_right _ (List.mem_append_right _ (List.mem_append_right _ (List.mem_append_right _ (List.mem_append_right _ (List.mem_append_right _ (List.mem_append_right _ (List.mem_append_right _ (List.mem_append_right _ (List.mem_append_right _ (List.mem_append_right _ (List.mem_append_right _ (List.mem_append_right _ (List.mem_append_right _ (List.mem_append_right _ (List.mem_append_right _ (List.mem_append_right _ (List.mem_append_right _ (List.mem_append_right _ (List.mem_append_right _ (List.mem_append_right _ (List.mem_append_right _ (List.mem_append_left _ h)))))))))))))))))))))))))))))
theorem tcg_29 : ∀ w ∈ tc_29, w ∈ lw_tbl := fun w h => List.mem_append_right _ (by rw [tc_all]; exact List.mem_append_right _ (List.mem_append_right _ (List.mem_append_right _ (List.mem_append_right _ (List.mem_append_right _ (List.mem_append_right _ (List.mem_append_right _ (List.mem_append_right _ (List.mem_append_right _ (List.mem_append_right _ (List.mem_append_right _ (List.mem_append_right _ (List.mem_append_right _ (List.mem_append_right _ (List.mem_append_right _ (List.mem_append_right _ (List.mem_append_right _ (List.mem_append_right _ (List.mem_append_right _ (List.mem_append_right _ (List.mem_append_right _ (List.mem_append_right _ (List.mem_append_right _ (List.mem_append_right _ (List.mem_append_right _ (List.mem_append_right _ (List.mem_append_right _ (List.mem_append_right _ (List.mem_append_right _ (List.mem_append_left _ h))))))))))))))))))))))))))))))
theorem tcg_30 : ∀ w ∈ tc_30, w ∈ lw_tbl := fun w h => List.mem_append_right _ (by rw [tc_all]; exact List.mem_append_right _ (List.mem_append_right _ (List.mem_append_right _ (List.mem_append_right _ (List.mem_append_right _ (List.mem_append_right _ (List.mem_append_right _ (List.mem_append_right _ (List.mem_append_right _ (List.mem_append_right _ (List.mem_append_right _ (List.mem_append_right _ (List.mem_append_right _ (List.mem_append_right _ (List.mem_append_right _ (List.mem_append_right _ (List.mem_append_right _ (List.mem_append_right _ (List.mem_append_right _ (List.mem_append_right _ (List.mem_append_right _ (List.mem_append_right _ (List.mem_append_right _ (List.mem_append_right _ (List.mem_append_right _ (List.mem_append_right _ (List.mem_append_right _ (List.mem_append_right _ (List.mem_append_right _ (List.mem_append_right _ (List.mem_append_left _ h)))))))))))))))))))))))))))))))
theorem tcg_31 : ∀ w ∈ tc_31, w ∈ lw_tbl := fun w h => List.mem_append_right _ (by rw [tc_all]; exact List.mem_append_right _ (List.mem_append_right _ (List.mem_append_right _ (List.mem_append_right _ (List.mem_append_right _ (List.mem_append_right _ (List.mem_append_right _ (List.mem_append_right _ (List.mem_append_right _ (List.mem_append_right _ (List.mem_append_right _ (List.mem_append_right _ (List.mem_append_right _ (List.mem_append_right _ (List.mem_append_right _ (List.mem_append_right _ (List.mem_append_right _ (List.mem_append_right _ (List.mem_append_right _ (List.mem_append_right _ (List.mem_append_right _ (List.mem_append_right _ (List.mem_append_right _ (List.mem_append_right _ (List.mem_append_right _ (List.mem_append_right _ (List.mem_append_right _ (List.mem_append_right _ (List.mem_append_right _ (List.mem_append_right _ (List.mem_append_right _ (List.mem_append_left _ h))))))))))))))))))))))))))))))))
theorem tcg_32 : ∀ w ∈ tc_32, w ∈ lw_tbl := fun w h => List.mem_append_right _ (by rw [tc_all]; exact List.mem_append_right _ (List.mem_append_right _ (List.mem_append_right _ (List.mem_append_right _ (List.mem_append_right _ (List.mem_append_right _ (List.mem_append_right _ (List.mem_append_right _ (List.mem_append_right _ (List.mem_append_right _ (List.mem_append_right _ (List.mem_append_right _ (List.mem_append_right _ (List.mem_append_right _ (List.mem_append_right _ (List.mem_append_right _ (List.mem_append_right _ (List.mem_append_right _ (List.mem_append_right _ (List.mem_append_right _ (List.mem_append_right _ (List.mem_append_right _ (List.mem_append_right _ (List.mem_append_right _ (List.mem_append_right _ (List.mem_append_right _ (List.mem_append_right _ (List.mem_append_right _ (List.mem_append_right _ (List.mem_append_right _ (List.mem_append_right _ (List.mem_append_right _ (List.mem_append_left _ h)))))))))))))))))))))))))))))))))
theorem tcg_33 : ∀ w ∈ tc_33, w ∈ lw_tbl := fun w h => List.mem_append_right _ (by rw [tc_all]; exact List.mem_append_right _ (List.mem_append_right _ (List.mem_append_right _ (List.mem_append_right _ (List.mem_append_right _ (List.mem_append_right _ (List.mem_append_right _ (List.mem_append_right _ (List.mem_append_right _ (List.mem_append_right _ (List.mem_append_right _ (List.mem_append_right _ (List.mem_append_right _ (List.mem_append_right _ (List.mem_append_right _ (List.mem_append_right _ (List.mem_append_right _ (List.mem_append_right _ (List.mem_append_right _ (List.mem_append_right _ (List.mem_append_right _ (List.mem_append_right _ (List.mem_append_right _ (List.mem_append_right _ (List.mem_append_right _ (List.mem_append_right _ (List.mem_append_right _ (List.mem_append_right _ (List.mem_append_right _ (List.mem_append_right _ (List.mem_append_right _ (List.mem_append_right _ (List.mem_append_right _ (h))))))))))))))))))))))))))))))))))
theorem tw_0 : (Jvm.Cond.initialized "BasisWalkLaw") ∈ tb_w := List.mem_filter.mpr ⟨tcg_0 _ (List.mem_of_getElem? (i := 0) rfl), rfl⟩
theorem tw_1 : (Jvm.Cond.initialized "BasisWalk") ∈ tb_w := List.mem_filter.mpr ⟨tcg_0 _ (List.mem_of_getElem? (i := 1) rfl), rfl⟩
theorem tw_2 : (Jvm.Cond.initialized "BasisWalk$Table") ∈ tb_w := List.mem_filter.mpr ⟨tcg_0 _ (List.mem_of_getElem? (i := 2) rfl), rfl⟩
theorem tw_3 : (Jvm.Cond.initialized "BasisWalk$Study") ∈ tb_w := List.mem_filter.mpr ⟨tcg_0 _ (List.mem_of_getElem? (i := 3) rfl), rfl⟩
theorem tw_4 : (Jvm.Cond.initialized "BasisWalk$Order") ∈ tb_w := List.mem_filter.mpr ⟨tcg_0 _ (List.mem_of_getElem? (i := 4) rfl), rfl⟩
theorem tw_5 : (Jvm.Cond.initialized "BasisWalk$Minors") ∈ tb_w := List.mem_filter.mpr ⟨tcg_0 _ (List.mem_of_getElem? (i := 5) rfl), rfl⟩
theorem tw_6 : (Jvm.Cond.initialized "BasisWalkModel") ∈ tb_w := List.mem_filter.mpr ⟨tcg_0 _ (List.mem_of_getElem? (i := 6) rfl), rfl⟩
theorem tw_7 : (Jvm.Cond.initialized "BasisWalkModel$Num") ∈ tb_w := List.mem_filter.mpr ⟨tcg_0 _ (List.mem_of_getElem? (i := 7) rfl), rfl⟩
theorem tw_8 : (Jvm.Cond.initialized "java/util/Arrays") ∈ tb_w := List.mem_filter.mpr ⟨tcg_0 _ (List.mem_of_getElem? (i := 8) rfl), rfl⟩
theorem tw_9 : (Jvm.Cond.initialized "java/lang/Math") ∈ tb_w := List.mem_filter.mpr ⟨tcg_0 _ (List.mem_of_getElem? (i := 9) rfl), rfl⟩
theorem tw_10 : (Jvm.Cond.initialized "java/lang/Integer") ∈ tb_w := List.mem_filter.mpr ⟨tcg_0 _ (List.mem_of_getElem? (i := 10) rfl), rfl⟩
theorem tw_11 : (Jvm.Cond.classLink "BasisWalkLaw" (7 : Nat) "BasisWalk") ∈ tb_w := List.mem_filter.mpr ⟨tcg_0 _ (List.mem_of_getElem? (i := 11) rfl), rfl⟩
theorem tw_12 : (Jvm.Cond.instantiable "BasisWalk" (3 : Nat)) ∈ tb_w := List.mem_filter.mpr ⟨tcg_0 _ (List.mem_of_getElem? (i := 12) rfl), rfl⟩
theorem tw_13 : (Jvm.Cond.methodLink "BasisWalkLaw" (9 : Nat) ({ cls := "BasisWalk", name := "<init>", desc := "()V" } : Jvm.MethodName)) ∈ tb_w := List.mem_filter.mpr ⟨tcg_0 _ (List.mem_of_getElem? (i := 13) rfl), rfl⟩
theorem tw_14 : (Jvm.Cond.instanceMethod ({ cls := "BasisWalk", name := "<init>", desc := "()V" } : Jvm.MethodName)) ∈ tb_w := List.mem_filter.mpr ⟨tcg_0 _ (List.mem_of_getElem? (i := 14) rfl), rfl⟩
theorem tw_15 : (Jvm.Cond.code ({ cls := "BasisWalk", name := "<init>", desc := "()V" } : Jvm.MethodName) prog_1_method_1_code (2 : Nat) (Option.none : Option Jvm.ClassFile.FieldType)) ∈ tb_w := List.mem_filter.mpr ⟨tcg_0 _ (List.mem_of_getElem? (i := 15) rfl), rfl⟩
theorem tw_16 : (Jvm.Cond.methodLink "BasisWalk" (3 : Nat) ({ cls := "java/lang/Object", name := "<init>", desc := "()V" } : Jvm.MethodName)) ∈ tb_w := List.mem_filter.mpr ⟨tcg_0 _ (List.mem_of_getElem? (i := 16) rfl), rfl⟩
theorem tw_17 : (Jvm.Cond.instanceMethod ({ cls := "java/lang/Object", name := "<init>", desc := "()V" } : Jvm.MethodName)) ∈ tb_w := List.mem_filter.mpr ⟨tcg_0 _ (List.mem_of_getElem? (i := 17) rfl), rfl⟩
theorem tw_18 : (Jvm.Cond.code ({ cls := "java/lang/Object", name := "<init>", desc := "()V" } : Jvm.MethodName) object_method_1_code (1 : Nat) (Option.none : Option Jvm.ClassFile.FieldType)) ∈ tb_w := List.mem_filter.mpr ⟨tcg_0 _ (List.mem_of_getElem? (i := 18) rfl), rfl⟩
theorem tw_19 : (Jvm.Cond.classLink "BasisWalk" (9 : Nat) "BasisWalk$Table") ∈ tb_w := List.mem_filter.mpr ⟨tcg_0 _ (List.mem_of_getElem? (i := 19) rfl), rfl⟩
theorem tn_20 : (Jvm.Cond.arrayOver (Jvm.ClassFile.FieldType.object "BasisWalk$Table")) ∈ tb_n := List.mem_filter.mpr ⟨tcg_1 _ (List.mem_of_getElem? (i := 0) rfl), rfl⟩
theorem tw_21 : (Jvm.Cond.instantiable "BasisWalk$Table" (6 : Nat)) ∈ tb_w := List.mem_filter.mpr ⟨tcg_1 _ (List.mem_of_getElem? (i := 1) rfl), rfl⟩
theorem tw_22 : (Jvm.Cond.methodLink "BasisWalk" (15 : Nat) ({ cls := "BasisWalk$Table", name := "<init>", desc := "()V" } : Jvm.MethodName)) ∈ tb_w := List.mem_filter.mpr ⟨tcg_1 _ (List.mem_of_getElem? (i := 2) rfl), rfl⟩
theorem tw_23 : (Jvm.Cond.instanceMethod ({ cls := "BasisWalk$Table", name := "<init>", desc := "()V" } : Jvm.MethodName)) ∈ tb_w := List.mem_filter.mpr ⟨tcg_1 _ (List.mem_of_getElem? (i := 3) rfl), rfl⟩
theorem tw_24 : (Jvm.Cond.code ({ cls := "BasisWalk$Table", name := "<init>", desc := "()V" } : Jvm.MethodName) prog_5_method_1_code (1 : Nat) (Option.none : Option Jvm.ClassFile.FieldType)) ∈ tb_w := List.mem_filter.mpr ⟨tcg_1 _ (List.mem_of_getElem? (i := 4) rfl), rfl⟩
theorem tw_25 : (Jvm.Cond.methodLink "BasisWalk$Table" (3 : Nat) ({ cls := "java/lang/Object", name := "<init>", desc := "()V" } : Jvm.MethodName)) ∈ tb_w := List.mem_filter.mpr ⟨tcg_1 _ (List.mem_of_getElem? (i := 5) rfl), rfl⟩
theorem tw_26 : (Jvm.Cond.classLink "BasisWalk$Table" (15 : Nat) "BasisWalk$Study") ∈ tb_w := List.mem_filter.mpr ⟨tcg_1 _ (List.mem_of_getElem? (i := 6) rfl), rfl⟩
theorem tw_27 : (Jvm.Cond.instantiable "BasisWalk$Study" (7 : Nat)) ∈ tb_w := List.mem_filter.mpr ⟨tcg_1 _ (List.mem_of_getElem? (i := 7) rfl), rfl⟩
theorem tw_28 : (Jvm.Cond.methodLink "BasisWalk$Table" (17 : Nat) ({ cls := "BasisWalk$Study", name := "<init>", desc := "()V" } : Jvm.MethodName)) ∈ tb_w := List.mem_filter.mpr ⟨tcg_1 _ (List.mem_of_getElem? (i := 8) rfl), rfl⟩
theorem tw_29 : (Jvm.Cond.instanceMethod ({ cls := "BasisWalk$Study", name := "<init>", desc := "()V" } : Jvm.MethodName)) ∈ tb_w := List.mem_filter.mpr ⟨tcg_1 _ (List.mem_of_getElem? (i := 9) rfl), rfl⟩
theorem tw_30 : (Jvm.Cond.code ({ cls := "BasisWalk$Study", name := "<init>", desc := "()V" } : Jvm.MethodName) prog_4_method_1_code (1 : Nat) (Option.none : Option Jvm.ClassFile.FieldType)) ∈ tb_w := List.mem_filter.mpr ⟨tcg_1 _ (List.mem_of_getElem? (i := 10) rfl), rfl⟩
theorem tw_31 : (Jvm.Cond.methodLink "BasisWalk$Study" (3 : Nat) ({ cls := "java/lang/Object", name := "<init>", desc := "()V" } : Jvm.MethodName)) ∈ tb_w := List.mem_filter.mpr ⟨tcg_1 _ (List.mem_of_getElem? (i := 11) rfl), rfl⟩
theorem tw_32 : (Jvm.Cond.fieldLink "BasisWalk$Study" (33 : Nat) "BasisWalk$Study" "columnCount" "I") ∈ tb_w := List.mem_filter.mpr ⟨tcg_1 _ (List.mem_of_getElem? (i := 12) rfl), rfl⟩
theorem tw_33 : (Jvm.Cond.fieldLink "BasisWalk$Study" (41 : Nat) "BasisWalk$Study" "fullRank" "I") ∈ tb_w := List.mem_filter.mpr ⟨tcg_1 _ (List.mem_of_getElem? (i := 13) rfl), rfl⟩
theorem tn_34 : (Jvm.Cond.fieldLinkNest "BasisWalk" (92 : Nat) "BasisWalk$Study" "fullRank" "I" "BasisWalk") ∈ tb_n := List.mem_filter.mpr ⟨tcg_1 _ (List.mem_of_getElem? (i := 14) rfl), rfl⟩
theorem tw_35 : (Jvm.Cond.fieldLink "BasisWalk$Study" (9 : Nat) "BasisWalk$Study" "ranks" "[I") ∈ tb_w := List.mem_filter.mpr ⟨tcg_1 _ (List.mem_of_getElem? (i := 15) rfl), rfl⟩
theorem tn_36 : (Jvm.Cond.fieldLinkNest "BasisWalk" (63 : Nat) "BasisWalk$Study" "ranks" "[I" "BasisWalk") ∈ tb_n := List.mem_filter.mpr ⟨tcg_1 _ (List.mem_of_getElem? (i := 16) rfl), rfl⟩
theorem tw_37 : (Jvm.Cond.fieldLink "BasisWalk$Study" (15 : Nat) "BasisWalk$Study" "signs" "[I") ∈ tb_w := List.mem_filter.mpr ⟨tcg_1 _ (List.mem_of_getElem? (i := 17) rfl), rfl⟩
theorem tn_38 : (Jvm.Cond.fieldLinkNest "BasisWalk" (95 : Nat) "BasisWalk$Study" "signs" "[I" "BasisWalk") ∈ tb_n := List.mem_filter.mpr ⟨tcg_1 _ (List.mem_of_getElem? (i := 18) rfl), rfl⟩
theorem tw_39 : (Jvm.Cond.fieldLink "BasisWalk$Study" (18 : Nat) "BasisWalk$Study" "members" "[I") ∈ tb_w := List.mem_filter.mpr ⟨tcg_1 _ (List.mem_of_getElem? (i := 19) rfl), rfl⟩
theorem tw_40 : (Jvm.Cond.fieldLink "BasisWalk$Study" (21 : Nat) "BasisWalk$Study" "starts" "[I") ∈ tb_w := List.mem_filter.mpr ⟨tcg_2 _ (List.mem_of_getElem? (i := 0) rfl), rfl⟩
theorem tw_41 : (Jvm.Cond.fieldLink "BasisWalk$Study" (24 : Nat) "BasisWalk$Study" "defects" "[I") ∈ tb_w := List.mem_filter.mpr ⟨tcg_2 _ (List.mem_of_getElem? (i := 1) rfl), rfl⟩
theorem tw_57 : (Jvm.Cond.arrayClass Jvm.ClassFile.FieldType.int) ∈ tb_w := List.mem_filter.mpr ⟨tcg_2 _ (List.mem_of_getElem? (i := 17) rfl), rfl⟩
theorem tw_58 : (Jvm.Cond.fieldLink "BasisWalk$Table" (22 : Nat) "BasisWalk$Table" "field" "I") ∈ tb_w := List.mem_filter.mpr ⟨tcg_2 _ (List.mem_of_getElem? (i := 18) rfl), rfl⟩
theorem tn_59 : (Jvm.Cond.fieldLinkNest "BasisWalk$Minors" (47 : Nat) "BasisWalk$Table" "field" "I" "BasisWalk") ∈ tb_n := List.mem_filter.mpr ⟨tcg_2 _ (List.mem_of_getElem? (i := 19) rfl), rfl⟩
theorem tn_60 : (Jvm.Cond.fieldLinkNest "BasisWalk" (84 : Nat) "BasisWalk$Table" "field" "I" "BasisWalk") ∈ tb_n := List.mem_filter.mpr ⟨tcg_3 _ (List.mem_of_getElem? (i := 0) rfl), rfl⟩
theorem tw_61 : (Jvm.Cond.fieldLink "BasisWalk$Table" (26 : Nat) "BasisWalk$Table" "rowCount" "I") ∈ tb_w := List.mem_filter.mpr ⟨tcg_3 _ (List.mem_of_getElem? (i := 1) rfl), rfl⟩
theorem tn_62 : (Jvm.Cond.fieldLinkNest "BasisWalk$Study" (78 : Nat) "BasisWalk$Table" "rowCount" "I" "BasisWalk") ∈ tb_n := List.mem_filter.mpr ⟨tcg_3 _ (List.mem_of_getElem? (i := 2) rfl), rfl⟩
theorem tn_63 : (Jvm.Cond.fieldLinkNest "BasisWalk$Study" (27 : Nat) "BasisWalk$Table" "columnCount" "I" "BasisWalk") ∈ tb_n := List.mem_filter.mpr ⟨tcg_3 _ (List.mem_of_getElem? (i := 3) rfl), rfl⟩
theorem tw_64 : (Jvm.Cond.fieldLink "BasisWalk$Table" (29 : Nat) "BasisWalk$Table" "columnCount" "I") ∈ tb_w := List.mem_filter.mpr ⟨tcg_3 _ (List.mem_of_getElem? (i := 4) rfl), rfl⟩
theorem tn_65 : (Jvm.Cond.fieldLinkNest "BasisWalk" (52 : Nat) "BasisWalk$Table" "columnCount" "I" "BasisWalk") ∈ tb_n := List.mem_filter.mpr ⟨tcg_3 _ (List.mem_of_getElem? (i := 5) rfl), rfl⟩
theorem tn_66 : (Jvm.Cond.fieldLinkNest "BasisWalk$Minors" (38 : Nat) "BasisWalk$Table" "columnCount" "I" "BasisWalk") ∈ tb_n := List.mem_filter.mpr ⟨tcg_3 _ (List.mem_of_getElem? (i := 6) rfl), rfl⟩
theorem tw_67 : (Jvm.Cond.fieldLink "BasisWalk$Table" (9 : Nat) "BasisWalk$Table" "numbers" "[I") ∈ tb_w := List.mem_filter.mpr ⟨tcg_3 _ (List.mem_of_getElem? (i := 7) rfl), rfl⟩
theorem tn_68 : (Jvm.Cond.fieldLinkNest "BasisWalk$Minors" (44 : Nat) "BasisWalk$Table" "numbers" "[I" "BasisWalk") ∈ tb_n := List.mem_filter.mpr ⟨tcg_3 _ (List.mem_of_getElem? (i := 8) rfl), rfl⟩
theorem tw_69 : (Jvm.Cond.fieldLink "BasisWalk$Table" (38 : Nat) "BasisWalk$Table" "studied" "Z") ∈ tb_w := List.mem_filter.mpr ⟨tcg_3 _ (List.mem_of_getElem? (i := 9) rfl), rfl⟩
theorem tn_70 : (Jvm.Cond.fieldLinkNest "BasisWalk" (101 : Nat) "BasisWalk$Table" "studied" "Z" "BasisWalk") ∈ tb_n := List.mem_filter.mpr ⟨tcg_3 _ (List.mem_of_getElem? (i := 10) rfl), rfl⟩
theorem tw_71 : (Jvm.Cond.fieldLink "BasisWalk$Table" (18 : Nat) "BasisWalk$Table" "study" "LBasisWalk$Study;") ∈ tb_w := List.mem_filter.mpr ⟨tcg_3 _ (List.mem_of_getElem? (i := 11) rfl), rfl⟩
theorem tn_72 : (Jvm.Cond.fieldLinkNest "BasisWalk" (109 : Nat) "BasisWalk$Table" "study" "LBasisWalk$Study;" "BasisWalk") ∈ tb_n := List.mem_filter.mpr ⟨tcg_3 _ (List.mem_of_getElem? (i := 12) rfl), rfl⟩
theorem tw_86 : (Jvm.Cond.classLink "BasisWalk" (16 : Nat) "BasisWalk$Order") ∈ tb_w := List.mem_filter.mpr ⟨tcg_4 _ (List.mem_of_getElem? (i := 6) rfl), rfl⟩
theorem tw_87 : (Jvm.Cond.instantiable "BasisWalk$Order" (4 : Nat)) ∈ tb_w := List.mem_filter.mpr ⟨tcg_4 _ (List.mem_of_getElem? (i := 7) rfl), rfl⟩
theorem tw_88 : (Jvm.Cond.methodLink "BasisWalk" (18 : Nat) ({ cls := "BasisWalk$Order", name := "<init>", desc := "()V" } : Jvm.MethodName)) ∈ tb_w := List.mem_filter.mpr ⟨tcg_4 _ (List.mem_of_getElem? (i := 8) rfl), rfl⟩
theorem tw_89 : (Jvm.Cond.instanceMethod ({ cls := "BasisWalk$Order", name := "<init>", desc := "()V" } : Jvm.MethodName)) ∈ tb_w := List.mem_filter.mpr ⟨tcg_4 _ (List.mem_of_getElem? (i := 9) rfl), rfl⟩
theorem tw_90 : (Jvm.Cond.code ({ cls := "BasisWalk$Order", name := "<init>", desc := "()V" } : Jvm.MethodName) prog_3_method_1_code (1 : Nat) (Option.none : Option Jvm.ClassFile.FieldType)) ∈ tb_w := List.mem_filter.mpr ⟨tcg_4 _ (List.mem_of_getElem? (i := 10) rfl), rfl⟩
theorem tw_91 : (Jvm.Cond.methodLink "BasisWalk$Order" (3 : Nat) ({ cls := "java/lang/Object", name := "<init>", desc := "()V" } : Jvm.MethodName)) ∈ tb_w := List.mem_filter.mpr ⟨tcg_4 _ (List.mem_of_getElem? (i := 11) rfl), rfl⟩
theorem tw_92 : (Jvm.Cond.fieldLink "BasisWalk$Order" (21 : Nat) "BasisWalk$Order" "columnCount" "I") ∈ tb_w := List.mem_filter.mpr ⟨tcg_4 _ (List.mem_of_getElem? (i := 12) rfl), rfl⟩
theorem tw_93 : (Jvm.Cond.fieldLink "BasisWalk$Order" (9 : Nat) "BasisWalk$Order" "sets" "[I") ∈ tb_w := List.mem_filter.mpr ⟨tcg_4 _ (List.mem_of_getElem? (i := 13) rfl), rfl⟩
theorem tn_94 : (Jvm.Cond.fieldLinkNest "BasisWalk$Minors" (27 : Nat) "BasisWalk$Order" "sets" "[I" "BasisWalk") ∈ tb_n := List.mem_filter.mpr ⟨tcg_4 _ (List.mem_of_getElem? (i := 14) rfl), rfl⟩
theorem tn_95 : (Jvm.Cond.fieldLinkNest "BasisWalk$Study" (88 : Nat) "BasisWalk$Order" "sets" "[I" "BasisWalk") ∈ tb_n := List.mem_filter.mpr ⟨tcg_4 _ (List.mem_of_getElem? (i := 15) rfl), rfl⟩
theorem tw_96 : (Jvm.Cond.fieldLink "BasisWalk$Order" (15 : Nat) "BasisWalk$Order" "starts" "[I") ∈ tb_w := List.mem_filter.mpr ⟨tcg_4 _ (List.mem_of_getElem? (i := 16) rfl), rfl⟩
theorem tn_97 : (Jvm.Cond.fieldLinkNest "BasisWalk$Minors" (21 : Nat) "BasisWalk$Order" "starts" "[I" "BasisWalk") ∈ tb_n := List.mem_filter.mpr ⟨tcg_4 _ (List.mem_of_getElem? (i := 17) rfl), rfl⟩
theorem tn_98 : (Jvm.Cond.fieldLinkNest "BasisWalk$Study" (85 : Nat) "BasisWalk$Order" "starts" "[I" "BasisWalk") ∈ tb_n := List.mem_filter.mpr ⟨tcg_4 _ (List.mem_of_getElem? (i := 18) rfl), rfl⟩
theorem tw_99 : (Jvm.Cond.fieldLink "BasisWalk$Order" (18 : Nat) "BasisWalk$Order" "nexts" "[I") ∈ tb_w := List.mem_filter.mpr ⟨tcg_4 _ (List.mem_of_getElem? (i := 19) rfl), rfl⟩
theorem tw_109 : (Jvm.Cond.classLink "BasisWalk" (23 : Nat) "BasisWalk$Minors") ∈ tb_w := List.mem_filter.mpr ⟨tcg_5 _ (List.mem_of_getElem? (i := 9) rfl), rfl⟩
theorem tw_110 : (Jvm.Cond.instantiable "BasisWalk$Minors" (3 : Nat)) ∈ tb_w := List.mem_filter.mpr ⟨tcg_5 _ (List.mem_of_getElem? (i := 10) rfl), rfl⟩
theorem tw_111 : (Jvm.Cond.methodLink "BasisWalk" (25 : Nat) ({ cls := "BasisWalk$Minors", name := "<init>", desc := "()V" } : Jvm.MethodName)) ∈ tb_w := List.mem_filter.mpr ⟨tcg_5 _ (List.mem_of_getElem? (i := 11) rfl), rfl⟩
theorem tw_112 : (Jvm.Cond.instanceMethod ({ cls := "BasisWalk$Minors", name := "<init>", desc := "()V" } : Jvm.MethodName)) ∈ tb_w := List.mem_filter.mpr ⟨tcg_5 _ (List.mem_of_getElem? (i := 12) rfl), rfl⟩
theorem tw_113 : (Jvm.Cond.code ({ cls := "BasisWalk$Minors", name := "<init>", desc := "()V" } : Jvm.MethodName) prog_2_method_1_code (1 : Nat) (Option.none : Option Jvm.ClassFile.FieldType)) ∈ tb_w := List.mem_filter.mpr ⟨tcg_5 _ (List.mem_of_getElem? (i := 13) rfl), rfl⟩
theorem tw_114 : (Jvm.Cond.methodLink "BasisWalk$Minors" (5 : Nat) ({ cls := "java/lang/Object", name := "<init>", desc := "()V" } : Jvm.MethodName)) ∈ tb_w := List.mem_filter.mpr ⟨tcg_5 _ (List.mem_of_getElem? (i := 14) rfl), rfl⟩
theorem tw_115 : (Jvm.Cond.fieldLink "BasisWalk$Minors" (11 : Nat) "BasisWalk$Minors" "low" "[J") ∈ tb_w := List.mem_filter.mpr ⟨tcg_5 _ (List.mem_of_getElem? (i := 15) rfl), rfl⟩
theorem tw_116 : (Jvm.Cond.fieldLink "BasisWalk$Minors" (15 : Nat) "BasisWalk$Minors" "middle" "[J") ∈ tb_w := List.mem_filter.mpr ⟨tcg_5 _ (List.mem_of_getElem? (i := 16) rfl), rfl⟩
theorem tw_117 : (Jvm.Cond.fieldLink "BasisWalk$Minors" (18 : Nat) "BasisWalk$Minors" "high" "[J") ∈ tb_w := List.mem_filter.mpr ⟨tcg_5 _ (List.mem_of_getElem? (i := 17) rfl), rfl⟩
theorem tw_125 : (Jvm.Cond.arrayClass Jvm.ClassFile.FieldType.long) ∈ tb_w := List.mem_filter.mpr ⟨tcg_6 _ (List.mem_of_getElem? (i := 5) rfl), rfl⟩
theorem tw_126 : (Jvm.Cond.fieldLink "BasisWalk" (11 : Nat) "BasisWalk" "tables" "[LBasisWalk$Table;") ∈ tb_w := List.mem_filter.mpr ⟨tcg_6 _ (List.mem_of_getElem? (i := 6) rfl), rfl⟩
theorem tw_127 : (Jvm.Cond.fieldLink "BasisWalk" (19 : Nat) "BasisWalk" "order" "LBasisWalk$Order;") ∈ tb_w := List.mem_filter.mpr ⟨tcg_6 _ (List.mem_of_getElem? (i := 7) rfl), rfl⟩
theorem tw_128 : (Jvm.Cond.fieldLink "BasisWalk" (26 : Nat) "BasisWalk" "minors" "LBasisWalk$Minors;") ∈ tb_w := List.mem_filter.mpr ⟨tcg_6 _ (List.mem_of_getElem? (i := 8) rfl), rfl⟩
theorem tw_136 : (Jvm.Cond.methodLink "BasisWalkLaw" (13 : Nat) ({ cls := "BasisWalk", name := "begin", desc := "(IIII)Z" } : Jvm.MethodName)) ∈ tb_w := List.mem_filter.mpr ⟨tcg_6 _ (List.mem_of_getElem? (i := 16) rfl), rfl⟩
theorem tw_137 : (Jvm.Cond.instanceMethod ({ cls := "BasisWalk", name := "begin", desc := "(IIII)Z" } : Jvm.MethodName)) ∈ tb_w := List.mem_filter.mpr ⟨tcg_6 _ (List.mem_of_getElem? (i := 17) rfl), rfl⟩
theorem tw_138 : (Jvm.Cond.selects "BasisWalk" ({ cls := "BasisWalk", name := "begin", desc := "(IIII)Z" } : Jvm.MethodName) ({ cls := "BasisWalk", name := "begin", desc := "(IIII)Z" } : Jvm.MethodName)) ∈ tb_w := List.mem_filter.mpr ⟨tcg_6 _ (List.mem_of_getElem? (i := 18) rfl), rfl⟩
theorem tw_139 : (Jvm.Cond.code ({ cls := "BasisWalk", name := "begin", desc := "(IIII)Z" } : Jvm.MethodName) prog_1_method_2_code (6 : Nat) (Option.some Jvm.ClassFile.FieldType.boolean)) ∈ tb_w := List.mem_filter.mpr ⟨tcg_6 _ (List.mem_of_getElem? (i := 19) rfl), rfl⟩
theorem tw_140 : (Jvm.Cond.methodLink "BasisWalk" (30 : Nat) ({ cls := "BasisWalk", name := "tableAt", desc := "(I)LBasisWalk$Table;" } : Jvm.MethodName)) ∈ tb_w := List.mem_filter.mpr ⟨tcg_7 _ (List.mem_of_getElem? (i := 0) rfl), rfl⟩
theorem tw_142 : (Jvm.Cond.instanceMethod ({ cls := "BasisWalk", name := "tableAt", desc := "(I)LBasisWalk$Table;" } : Jvm.MethodName)) ∈ tb_w := List.mem_filter.mpr ⟨tcg_7 _ (List.mem_of_getElem? (i := 2) rfl), rfl⟩
theorem tw_143 : (Jvm.Cond.code ({ cls := "BasisWalk", name := "tableAt", desc := "(I)LBasisWalk$Table;" } : Jvm.MethodName) prog_1_method_11_code (2 : Nat) (Option.some (Jvm.ClassFile.FieldType.object "BasisWalk$Table"))) ∈ tb_w := List.mem_filter.mpr ⟨tcg_7 _ (List.mem_of_getElem? (i := 3) rfl), rfl⟩
theorem tw_144 : (Jvm.Cond.methodLink "BasisWalk" (34 : Nat) ({ cls := "BasisWalk", name := "isField", desc := "(I)Z" } : Jvm.MethodName)) ∈ tb_w := List.mem_filter.mpr ⟨tcg_7 _ (List.mem_of_getElem? (i := 4) rfl), rfl⟩
theorem tw_145 : (Jvm.Cond.static ({ cls := "BasisWalk", name := "isField", desc := "(I)Z" } : Jvm.MethodName)) ∈ tb_w := List.mem_filter.mpr ⟨tcg_7 _ (List.mem_of_getElem? (i := 5) rfl), rfl⟩
theorem tw_146 : (Jvm.Cond.code ({ cls := "BasisWalk", name := "isField", desc := "(I)Z" } : Jvm.MethodName) prog_1_method_15_code (2 : Nat) (Option.some Jvm.ClassFile.FieldType.boolean)) ∈ tb_w := List.mem_filter.mpr ⟨tcg_7 _ (List.mem_of_getElem? (i := 6) rfl), rfl⟩
theorem tw_147 : (Jvm.Cond.methodLink "BasisWalk" (38 : Nat) ({ cls := "BasisWalk", name := "isLineCount", desc := "(I)Z" } : Jvm.MethodName)) ∈ tb_w := List.mem_filter.mpr ⟨tcg_7 _ (List.mem_of_getElem? (i := 7) rfl), rfl⟩
theorem tw_148 : (Jvm.Cond.static ({ cls := "BasisWalk", name := "isLineCount", desc := "(I)Z" } : Jvm.MethodName)) ∈ tb_w := List.mem_filter.mpr ⟨tcg_7 _ (List.mem_of_getElem? (i := 8) rfl), rfl⟩
theorem tw_149 : (Jvm.Cond.code ({ cls := "BasisWalk", name := "isLineCount", desc := "(I)Z" } : Jvm.MethodName) prog_1_method_13_code (1 : Nat) (Option.some Jvm.ClassFile.FieldType.boolean)) ∈ tb_w := List.mem_filter.mpr ⟨tcg_7 _ (List.mem_of_getElem? (i := 9) rfl), rfl⟩
theorem tw_150 : (Jvm.Cond.methodLink "BasisWalk" (41 : Nat) ({ cls := "BasisWalk$Table", name := "clear", desc := "(III)V" } : Jvm.MethodName)) ∈ tb_w := List.mem_filter.mpr ⟨tcg_7 _ (List.mem_of_getElem? (i := 10) rfl), rfl⟩
theorem tw_151 : (Jvm.Cond.instanceMethod ({ cls := "BasisWalk$Table", name := "clear", desc := "(III)V" } : Jvm.MethodName)) ∈ tb_w := List.mem_filter.mpr ⟨tcg_7 _ (List.mem_of_getElem? (i := 11) rfl), rfl⟩
theorem tw_152 : (Jvm.Cond.selects "BasisWalk$Table" ({ cls := "BasisWalk$Table", name := "clear", desc := "(III)V" } : Jvm.MethodName) ({ cls := "BasisWalk$Table", name := "clear", desc := "(III)V" } : Jvm.MethodName)) ∈ tb_w := List.mem_filter.mpr ⟨tcg_7 _ (List.mem_of_getElem? (i := 12) rfl), rfl⟩
theorem tw_153 : (Jvm.Cond.code ({ cls := "BasisWalk$Table", name := "clear", desc := "(III)V" } : Jvm.MethodName) prog_5_method_2_code (4 : Nat) (Option.none : Option Jvm.ClassFile.FieldType)) ∈ tb_w := List.mem_filter.mpr ⟨tcg_7 _ (List.mem_of_getElem? (i := 13) rfl), rfl⟩
theorem tw_154 : (Jvm.Cond.methodLink "BasisWalk$Table" (32 : Nat) ({ cls := "java/util/Arrays", name := "fill", desc := "([II)V" } : Jvm.MethodName)) ∈ tb_w := List.mem_filter.mpr ⟨tcg_7 _ (List.mem_of_getElem? (i := 14) rfl), rfl⟩
theorem tw_155 : (Jvm.Cond.static ({ cls := "java/util/Arrays", name := "fill", desc := "([II)V" } : Jvm.MethodName)) ∈ tb_w := List.mem_filter.mpr ⟨tcg_7 _ (List.mem_of_getElem? (i := 15) rfl), rfl⟩
theorem tw_156 : (Jvm.Cond.code ({ cls := "java/util/Arrays", name := "fill", desc := "([II)V" } : Jvm.MethodName) prog_11_method_103_code (4 : Nat) (Option.none : Option Jvm.ClassFile.FieldType)) ∈ tb_w := List.mem_filter.mpr ⟨tcg_7 _ (List.mem_of_getElem? (i := 16) rfl), rfl⟩
theorem tw_157 : (Jvm.Cond.methodLink "BasisWalkLaw" (18 : Nat) ({ cls := "BasisWalk", name := "put", desc := "(IIII)Z" } : Jvm.MethodName)) ∈ tb_w := List.mem_filter.mpr ⟨tcg_7 _ (List.mem_of_getElem? (i := 17) rfl), rfl⟩
theorem tw_158 : (Jvm.Cond.instanceMethod ({ cls := "BasisWalk", name := "put", desc := "(IIII)Z" } : Jvm.MethodName)) ∈ tb_w := List.mem_filter.mpr ⟨tcg_7 _ (List.mem_of_getElem? (i := 18) rfl), rfl⟩
theorem tw_159 : (Jvm.Cond.selects "BasisWalk" ({ cls := "BasisWalk", name := "put", desc := "(IIII)Z" } : Jvm.MethodName) ({ cls := "BasisWalk", name := "put", desc := "(IIII)Z" } : Jvm.MethodName)) ∈ tb_w := List.mem_filter.mpr ⟨tcg_7 _ (List.mem_of_getElem? (i := 19) rfl), rfl⟩
theorem tw_160 : (Jvm.Cond.code ({ cls := "BasisWalk", name := "put", desc := "(IIII)Z" } : Jvm.MethodName) prog_1_method_3_code (6 : Nat) (Option.some Jvm.ClassFile.FieldType.boolean)) ∈ tb_w := List.mem_filter.mpr ⟨tcg_8 _ (List.mem_of_getElem? (i := 0) rfl), rfl⟩
theorem tw_161 : (Jvm.Cond.methodLink "BasisWalk" (45 : Nat) ({ cls := "BasisWalk$Table", name := "hasPlace", desc := "(II)Z" } : Jvm.MethodName)) ∈ tb_w := List.mem_filter.mpr ⟨tcg_8 _ (List.mem_of_getElem? (i := 1) rfl), rfl⟩
theorem tw_162 : (Jvm.Cond.instanceMethod ({ cls := "BasisWalk$Table", name := "hasPlace", desc := "(II)Z" } : Jvm.MethodName)) ∈ tb_w := List.mem_filter.mpr ⟨tcg_8 _ (List.mem_of_getElem? (i := 2) rfl), rfl⟩
theorem tw_163 : (Jvm.Cond.selects "BasisWalk$Table" ({ cls := "BasisWalk$Table", name := "hasPlace", desc := "(II)Z" } : Jvm.MethodName) ({ cls := "BasisWalk$Table", name := "hasPlace", desc := "(II)Z" } : Jvm.MethodName)) ∈ tb_w := List.mem_filter.mpr ⟨tcg_8 _ (List.mem_of_getElem? (i := 3) rfl), rfl⟩
theorem tw_164 : (Jvm.Cond.code ({ cls := "BasisWalk$Table", name := "hasPlace", desc := "(II)Z" } : Jvm.MethodName) prog_5_method_3_code (3 : Nat) (Option.some Jvm.ClassFile.FieldType.boolean)) ∈ tb_w := List.mem_filter.mpr ⟨tcg_8 _ (List.mem_of_getElem? (i := 4) rfl), rfl⟩
theorem tw_165 : (Jvm.Cond.methodLink "BasisWalk" (49 : Nat) ({ cls := "BasisWalk$Table", name := "write", desc := "(III)V" } : Jvm.MethodName)) ∈ tb_w := List.mem_filter.mpr ⟨tcg_8 _ (List.mem_of_getElem? (i := 5) rfl), rfl⟩
theorem tw_166 : (Jvm.Cond.instanceMethod ({ cls := "BasisWalk$Table", name := "write", desc := "(III)V" } : Jvm.MethodName)) ∈ tb_w := List.mem_filter.mpr ⟨tcg_8 _ (List.mem_of_getElem? (i := 6) rfl), rfl⟩
theorem tw_167 : (Jvm.Cond.selects "BasisWalk$Table" ({ cls := "BasisWalk$Table", name := "write", desc := "(III)V" } : Jvm.MethodName) ({ cls := "BasisWalk$Table", name := "write", desc := "(III)V" } : Jvm.MethodName)) ∈ tb_w := List.mem_filter.mpr ⟨tcg_8 _ (List.mem_of_getElem? (i := 7) rfl), rfl⟩
theorem tw_168 : (Jvm.Cond.code ({ cls := "BasisWalk$Table", name := "write", desc := "(III)V" } : Jvm.MethodName) prog_5_method_5_code (4 : Nat) (Option.none : Option Jvm.ClassFile.FieldType)) ∈ tb_w := List.mem_filter.mpr ⟨tcg_8 _ (List.mem_of_getElem? (i := 8) rfl), rfl⟩
theorem tw_169 : (Jvm.Cond.methodLink "BasisWalk$Table" (42 : Nat) ({ cls := "java/lang/Math", name := "floorMod", desc := "(II)I" } : Jvm.MethodName)) ∈ tb_w := List.mem_filter.mpr ⟨tcg_8 _ (List.mem_of_getElem? (i := 9) rfl), rfl⟩
theorem tw_170 : (Jvm.Cond.static ({ cls := "java/lang/Math", name := "floorMod", desc := "(II)I" } : Jvm.MethodName)) ∈ tb_w := List.mem_filter.mpr ⟨tcg_8 _ (List.mem_of_getElem? (i := 10) rfl), rfl⟩
theorem tw_171 : (Jvm.Cond.code ({ cls := "java/lang/Math", name := "floorMod", desc := "(II)I" } : Jvm.MethodName) prog_10_method_50_code (3 : Nat) (Option.some Jvm.ClassFile.FieldType.int)) ∈ tb_w := List.mem_filter.mpr ⟨tcg_8 _ (List.mem_of_getElem? (i := 11) rfl), rfl⟩
theorem tw_172 : (Jvm.Cond.methodLink "BasisWalkLaw" (22 : Nat) ({ cls := "BasisWalk", name := "columns", desc := "(I)I" } : Jvm.MethodName)) ∈ tb_w := List.mem_filter.mpr ⟨tcg_8 _ (List.mem_of_getElem? (i := 12) rfl), rfl⟩
theorem tw_173 : (Jvm.Cond.instanceMethod ({ cls := "BasisWalk", name := "columns", desc := "(I)I" } : Jvm.MethodName)) ∈ tb_w := List.mem_filter.mpr ⟨tcg_8 _ (List.mem_of_getElem? (i := 13) rfl), rfl⟩
theorem tw_174 : (Jvm.Cond.selects "BasisWalk" ({ cls := "BasisWalk", name := "columns", desc := "(I)I" } : Jvm.MethodName) ({ cls := "BasisWalk", name := "columns", desc := "(I)I" } : Jvm.MethodName)) ∈ tb_w := List.mem_filter.mpr ⟨tcg_8 _ (List.mem_of_getElem? (i := 14) rfl), rfl⟩
theorem tw_175 : (Jvm.Cond.code ({ cls := "BasisWalk", name := "columns", desc := "(I)I" } : Jvm.MethodName) prog_1_method_4_code (3 : Nat) (Option.some Jvm.ClassFile.FieldType.int)) ∈ tb_w := List.mem_filter.mpr ⟨tcg_8 _ (List.mem_of_getElem? (i := 15) rfl), rfl⟩
theorem tw_176 : (Jvm.Cond.methodLink "BasisWalkLaw" (27 : Nat) ({ cls := "BasisWalk", name := "rank", desc := "(II)I" } : Jvm.MethodName)) ∈ tb_w := List.mem_filter.mpr ⟨tcg_8 _ (List.mem_of_getElem? (i := 16) rfl), rfl⟩
theorem tw_177 : (Jvm.Cond.instanceMethod ({ cls := "BasisWalk", name := "rank", desc := "(II)I" } : Jvm.MethodName)) ∈ tb_w := List.mem_filter.mpr ⟨tcg_8 _ (List.mem_of_getElem? (i := 17) rfl), rfl⟩
theorem tw_178 : (Jvm.Cond.selects "BasisWalk" ({ cls := "BasisWalk", name := "rank", desc := "(II)I" } : Jvm.MethodName) ({ cls := "BasisWalk", name := "rank", desc := "(II)I" } : Jvm.MethodName)) ∈ tb_w := List.mem_filter.mpr ⟨tcg_8 _ (List.mem_of_getElem? (i := 18) rfl), rfl⟩
theorem tw_179 : (Jvm.Cond.code ({ cls := "BasisWalk", name := "rank", desc := "(II)I" } : Jvm.MethodName) prog_1_method_5_code (4 : Nat) (Option.some Jvm.ClassFile.FieldType.int)) ∈ tb_w := List.mem_filter.mpr ⟨tcg_8 _ (List.mem_of_getElem? (i := 19) rfl), rfl⟩
theorem tw_180 : (Jvm.Cond.methodLink "BasisWalk" (56 : Nat) ({ cls := "BasisWalk$Table", name := "hasSet", desc := "(I)Z" } : Jvm.MethodName)) ∈ tb_w := List.mem_filter.mpr ⟨tcg_9 _ (List.mem_of_getElem? (i := 0) rfl), rfl⟩
theorem tw_181 : (Jvm.Cond.instanceMethod ({ cls := "BasisWalk$Table", name := "hasSet", desc := "(I)Z" } : Jvm.MethodName)) ∈ tb_w := List.mem_filter.mpr ⟨tcg_9 _ (List.mem_of_getElem? (i := 1) rfl), rfl⟩
theorem tw_182 : (Jvm.Cond.selects "BasisWalk$Table" ({ cls := "BasisWalk$Table", name := "hasSet", desc := "(I)Z" } : Jvm.MethodName) ({ cls := "BasisWalk$Table", name := "hasSet", desc := "(I)Z" } : Jvm.MethodName)) ∈ tb_w := List.mem_filter.mpr ⟨tcg_9 _ (List.mem_of_getElem? (i := 2) rfl), rfl⟩
theorem tw_183 : (Jvm.Cond.code ({ cls := "BasisWalk$Table", name := "hasSet", desc := "(I)Z" } : Jvm.MethodName) prog_5_method_4_code (2 : Nat) (Option.some Jvm.ClassFile.FieldType.boolean)) ∈ tb_w := List.mem_filter.mpr ⟨tcg_9 _ (List.mem_of_getElem? (i := 3) rfl), rfl⟩
theorem tw_184 : (Jvm.Cond.methodLink "BasisWalk" (59 : Nat) ({ cls := "BasisWalk", name := "studyOf", desc := "(LBasisWalk$Table;)LBasisWalk$Study;" } : Jvm.MethodName)) ∈ tb_w := List.mem_filter.mpr ⟨tcg_9 _ (List.mem_of_getElem? (i := 4) rfl), rfl⟩
theorem tw_186 : (Jvm.Cond.instanceMethod ({ cls := "BasisWalk", name := "studyOf", desc := "(LBasisWalk$Table;)LBasisWalk$Study;" } : Jvm.MethodName)) ∈ tb_w := List.mem_filter.mpr ⟨tcg_9 _ (List.mem_of_getElem? (i := 6) rfl), rfl⟩
theorem tw_187 : (Jvm.Cond.code ({ cls := "BasisWalk", name := "studyOf", desc := "(LBasisWalk$Table;)LBasisWalk$Study;" } : Jvm.MethodName) prog_1_method_12_code (2 : Nat) (Option.some (Jvm.ClassFile.FieldType.object "BasisWalk$Study"))) ∈ tb_w := List.mem_filter.mpr ⟨tcg_9 _ (List.mem_of_getElem? (i := 7) rfl), rfl⟩
theorem tw_188 : (Jvm.Cond.methodLink "BasisWalk" (105 : Nat) ({ cls := "BasisWalk$Order", name := "fit", desc := "(I)V" } : Jvm.MethodName)) ∈ tb_w := List.mem_filter.mpr ⟨tcg_9 _ (List.mem_of_getElem? (i := 8) rfl), rfl⟩
theorem tw_189 : (Jvm.Cond.instanceMethod ({ cls := "BasisWalk$Order", name := "fit", desc := "(I)V" } : Jvm.MethodName)) ∈ tb_w := List.mem_filter.mpr ⟨tcg_9 _ (List.mem_of_getElem? (i := 9) rfl), rfl⟩
theorem tw_190 : (Jvm.Cond.selects "BasisWalk$Order" ({ cls := "BasisWalk$Order", name := "fit", desc := "(I)V" } : Jvm.MethodName) ({ cls := "BasisWalk$Order", name := "fit", desc := "(I)V" } : Jvm.MethodName)) ∈ tb_w := List.mem_filter.mpr ⟨tcg_9 _ (List.mem_of_getElem? (i := 10) rfl), rfl⟩
theorem tw_191 : (Jvm.Cond.code ({ cls := "BasisWalk$Order", name := "fit", desc := "(I)V" } : Jvm.MethodName) prog_3_method_2_code (6 : Nat) (Option.none : Option Jvm.ClassFile.FieldType)) ∈ tb_w := List.mem_filter.mpr ⟨tcg_9 _ (List.mem_of_getElem? (i := 11) rfl), rfl⟩
theorem tn_192 : (Jvm.Cond.methodLinkNest "BasisWalk$Order" (25 : Nat) ({ cls := "BasisWalk", name := "choose", desc := "(II)I" } : Jvm.MethodName) "BasisWalk") ∈ tb_n := List.mem_filter.mpr ⟨tcg_9 _ (List.mem_of_getElem? (i := 12) rfl), rfl⟩
theorem tw_193 : (Jvm.Cond.static ({ cls := "BasisWalk", name := "choose", desc := "(II)I" } : Jvm.MethodName)) ∈ tb_w := List.mem_filter.mpr ⟨tcg_9 _ (List.mem_of_getElem? (i := 13) rfl), rfl⟩
theorem tw_194 : (Jvm.Cond.code ({ cls := "BasisWalk", name := "choose", desc := "(II)I" } : Jvm.MethodName) prog_1_method_16_code (4 : Nat) (Option.some Jvm.ClassFile.FieldType.int)) ∈ tb_w := List.mem_filter.mpr ⟨tcg_9 _ (List.mem_of_getElem? (i := 14) rfl), rfl⟩
theorem tw_195 : (Jvm.Cond.methodLink "BasisWalk$Order" (29 : Nat) ({ cls := "java/lang/Integer", name := "bitCount", desc := "(I)I" } : Jvm.MethodName)) ∈ tb_w := List.mem_filter.mpr ⟨tcg_9 _ (List.mem_of_getElem? (i := 15) rfl), rfl⟩
theorem tw_196 : (Jvm.Cond.static ({ cls := "java/lang/Integer", name := "bitCount", desc := "(I)I" } : Jvm.MethodName)) ∈ tb_w := List.mem_filter.mpr ⟨tcg_9 _ (List.mem_of_getElem? (i := 16) rfl), rfl⟩
theorem tw_197 : (Jvm.Cond.code ({ cls := "java/lang/Integer", name := "bitCount", desc := "(I)I" } : Jvm.MethodName) prog_9_method_49_code (1 : Nat) (Option.some Jvm.ClassFile.FieldType.int)) ∈ tb_w := List.mem_filter.mpr ⟨tcg_9 _ (List.mem_of_getElem? (i := 17) rfl), rfl⟩
theorem tw_198 : (Jvm.Cond.constant "java/lang/Integer" (265 : Nat) (1431655765 : Int32)) ∈ tb_w := List.mem_filter.mpr ⟨tcg_9 _ (List.mem_of_getElem? (i := 18) rfl), rfl⟩
theorem tw_199 : (Jvm.Cond.constant "java/lang/Integer" (266 : Nat) (858993459 : Int32)) ∈ tb_w := List.mem_filter.mpr ⟨tcg_9 _ (List.mem_of_getElem? (i := 19) rfl), rfl⟩
theorem tw_200 : (Jvm.Cond.constant "java/lang/Integer" (267 : Nat) (252645135 : Int32)) ∈ tb_w := List.mem_filter.mpr ⟨tcg_10 _ (List.mem_of_getElem? (i := 0) rfl), rfl⟩
theorem tw_201 : (Jvm.Cond.methodLink "BasisWalk$Order" (35 : Nat) ({ cls := "BasisWalk$Order", name := "oneLess", desc := "(I)I" } : Jvm.MethodName)) ∈ tb_w := List.mem_filter.mpr ⟨tcg_10 _ (List.mem_of_getElem? (i := 1) rfl), rfl⟩
theorem tw_203 : (Jvm.Cond.instanceMethod ({ cls := "BasisWalk$Order", name := "oneLess", desc := "(I)I" } : Jvm.MethodName)) ∈ tb_w := List.mem_filter.mpr ⟨tcg_10 _ (List.mem_of_getElem? (i := 3) rfl), rfl⟩
theorem tw_204 : (Jvm.Cond.code ({ cls := "BasisWalk$Order", name := "oneLess", desc := "(I)I" } : Jvm.MethodName) prog_3_method_3_code (4 : Nat) (Option.some Jvm.ClassFile.FieldType.int)) ∈ tb_w := List.mem_filter.mpr ⟨tcg_10 _ (List.mem_of_getElem? (i := 4) rfl), rfl⟩
theorem tw_205 : (Jvm.Cond.methodLink "BasisWalk" (113 : Nat) ({ cls := "BasisWalk$Study", name := "learn", desc := "(LBasisWalk$Table;LBasisWalk$Order;LBasisWalk$Minors;)V" } : Jvm.MethodName)) ∈ tb_w := List.mem_filter.mpr ⟨tcg_10 _ (List.mem_of_getElem? (i := 5) rfl), rfl⟩
theorem tw_206 : (Jvm.Cond.instanceMethod ({ cls := "BasisWalk$Study", name := "learn", desc := "(LBasisWalk$Table;LBasisWalk$Order;LBasisWalk$Minors;)V" } : Jvm.MethodName)) ∈ tb_w := List.mem_filter.mpr ⟨tcg_10 _ (List.mem_of_getElem? (i := 6) rfl), rfl⟩
theorem tw_207 : (Jvm.Cond.selects "BasisWalk$Study" ({ cls := "BasisWalk$Study", name := "learn", desc := "(LBasisWalk$Table;LBasisWalk$Order;LBasisWalk$Minors;)V" } : Jvm.MethodName) ({ cls := "BasisWalk$Study", name := "learn", desc := "(LBasisWalk$Table;LBasisWalk$Order;LBasisWalk$Minors;)V" } : Jvm.MethodName)) ∈ tb_w := List.mem_filter.mpr ⟨tcg_10 _ (List.mem_of_getElem? (i := 7) rfl), rfl⟩
theorem tw_208 : (Jvm.Cond.code ({ cls := "BasisWalk$Study", name := "learn", desc := "(LBasisWalk$Table;LBasisWalk$Order;LBasisWalk$Minors;)V" } : Jvm.MethodName) prog_4_method_2_code (4 : Nat) (Option.none : Option Jvm.ClassFile.FieldType)) ∈ tb_w := List.mem_filter.mpr ⟨tcg_10 _ (List.mem_of_getElem? (i := 8) rfl), rfl⟩
theorem tw_209 : (Jvm.Cond.methodLink "BasisWalk$Study" (34 : Nat) ({ cls := "BasisWalk$Study", name := "makeRoom", desc := "()V" } : Jvm.MethodName)) ∈ tb_w := List.mem_filter.mpr ⟨tcg_10 _ (List.mem_of_getElem? (i := 9) rfl), rfl⟩
theorem tw_211 : (Jvm.Cond.instanceMethod ({ cls := "BasisWalk$Study", name := "makeRoom", desc := "()V" } : Jvm.MethodName)) ∈ tb_w := List.mem_filter.mpr ⟨tcg_10 _ (List.mem_of_getElem? (i := 11) rfl), rfl⟩
theorem tw_212 : (Jvm.Cond.code ({ cls := "BasisWalk$Study", name := "makeRoom", desc := "()V" } : Jvm.MethodName) prog_4_method_8_code (2 : Nat) (Option.none : Option Jvm.ClassFile.FieldType)) ∈ tb_w := List.mem_filter.mpr ⟨tcg_10 _ (List.mem_of_getElem? (i := 12) rfl), rfl⟩
theorem tn_213 : (Jvm.Cond.methodLinkNest "BasisWalk$Study" (65 : Nat) ({ cls := "BasisWalk", name := "choose", desc := "(II)I" } : Jvm.MethodName) "BasisWalk") ∈ tb_n := List.mem_filter.mpr ⟨tcg_10 _ (List.mem_of_getElem? (i := 13) rfl), rfl⟩
theorem tw_214 : (Jvm.Cond.methodLink "BasisWalk$Study" (37 : Nat) ({ cls := "BasisWalk$Study", name := "takeRows", desc := "(LBasisWalk$Table;LBasisWalk$Order;LBasisWalk$Minors;)I" } : Jvm.MethodName)) ∈ tb_w := List.mem_filter.mpr ⟨tcg_10 _ (List.mem_of_getElem? (i := 14) rfl), rfl⟩
theorem tw_216 : (Jvm.Cond.instanceMethod ({ cls := "BasisWalk$Study", name := "takeRows", desc := "(LBasisWalk$Table;LBasisWalk$Order;LBasisWalk$Minors;)I" } : Jvm.MethodName)) ∈ tb_w := List.mem_filter.mpr ⟨tcg_10 _ (List.mem_of_getElem? (i := 16) rfl), rfl⟩
theorem tw_217 : (Jvm.Cond.code ({ cls := "BasisWalk$Study", name := "takeRows", desc := "(LBasisWalk$Table;LBasisWalk$Order;LBasisWalk$Minors;)I" } : Jvm.MethodName) prog_4_method_9_code (6 : Nat) (Option.some Jvm.ClassFile.FieldType.int)) ∈ tb_w := List.mem_filter.mpr ⟨tcg_10 _ (List.mem_of_getElem? (i := 17) rfl), rfl⟩
theorem tw_218 : (Jvm.Cond.methodLink "BasisWalk$Study" (72 : Nat) ({ cls := "BasisWalk$Minors", name := "restart", desc := "(I)V" } : Jvm.MethodName)) ∈ tb_w := List.mem_filter.mpr ⟨tcg_10 _ (List.mem_of_getElem? (i := 18) rfl), rfl⟩
theorem tw_219 : (Jvm.Cond.instanceMethod ({ cls := "BasisWalk$Minors", name := "restart", desc := "(I)V" } : Jvm.MethodName)) ∈ tb_w := List.mem_filter.mpr ⟨tcg_10 _ (List.mem_of_getElem? (i := 19) rfl), rfl⟩
theorem tw_220 : (Jvm.Cond.selects "BasisWalk$Minors" ({ cls := "BasisWalk$Minors", name := "restart", desc := "(I)V" } : Jvm.MethodName) ({ cls := "BasisWalk$Minors", name := "restart", desc := "(I)V" } : Jvm.MethodName)) ∈ tb_w := List.mem_filter.mpr ⟨tcg_11 _ (List.mem_of_getElem? (i := 0) rfl), rfl⟩
theorem tw_221 : (Jvm.Cond.code ({ cls := "BasisWalk$Minors", name := "restart", desc := "(I)V" } : Jvm.MethodName) prog_2_method_2_code (2 : Nat) (Option.none : Option Jvm.ClassFile.FieldType)) ∈ tb_w := List.mem_filter.mpr ⟨tcg_11 _ (List.mem_of_getElem? (i := 1) rfl), rfl⟩
theorem tw_222 : (Jvm.Cond.methodLink "BasisWalk$Study" (81 : Nat) ({ cls := "BasisWalk$Minors", name := "takeRow", desc := "(LBasisWalk$Table;ILBasisWalk$Order;I)Z" } : Jvm.MethodName)) ∈ tb_w := List.mem_filter.mpr ⟨tcg_11 _ (List.mem_of_getElem? (i := 2) rfl), rfl⟩
theorem tw_223 : (Jvm.Cond.instanceMethod ({ cls := "BasisWalk$Minors", name := "takeRow", desc := "(LBasisWalk$Table;ILBasisWalk$Order;I)Z" } : Jvm.MethodName)) ∈ tb_w := List.mem_filter.mpr ⟨tcg_11 _ (List.mem_of_getElem? (i := 3) rfl), rfl⟩
theorem tw_224 : (Jvm.Cond.selects "BasisWalk$Minors" ({ cls := "BasisWalk$Minors", name := "takeRow", desc := "(LBasisWalk$Table;ILBasisWalk$Order;I)Z" } : Jvm.MethodName) ({ cls := "BasisWalk$Minors", name := "takeRow", desc := "(LBasisWalk$Table;ILBasisWalk$Order;I)Z" } : Jvm.MethodName)) ∈ tb_w := List.mem_filter.mpr ⟨tcg_11 _ (List.mem_of_getElem? (i := 4) rfl), rfl⟩
theorem tw_225 : (Jvm.Cond.code ({ cls := "BasisWalk$Minors", name := "takeRow", desc := "(LBasisWalk$Table;ILBasisWalk$Order;I)Z" } : Jvm.MethodName) prog_2_method_3_code (8 : Nat) (Option.some Jvm.ClassFile.FieldType.boolean)) ∈ tb_w := List.mem_filter.mpr ⟨tcg_11 _ (List.mem_of_getElem? (i := 5) rfl), rfl⟩
theorem tw_226 : (Jvm.Cond.methodLink "BasisWalk$Minors" (30 : Nat) ({ cls := "BasisWalk$Minors", name := "expand", desc := "(LBasisWalk$Table;II)V" } : Jvm.MethodName)) ∈ tb_w := List.mem_filter.mpr ⟨tcg_11 _ (List.mem_of_getElem? (i := 6) rfl), rfl⟩
theorem tw_228 : (Jvm.Cond.instanceMethod ({ cls := "BasisWalk$Minors", name := "expand", desc := "(LBasisWalk$Table;II)V" } : Jvm.MethodName)) ∈ tb_w := List.mem_filter.mpr ⟨tcg_11 _ (List.mem_of_getElem? (i := 8) rfl), rfl⟩
theorem tw_229 : (Jvm.Cond.code ({ cls := "BasisWalk$Minors", name := "expand", desc := "(LBasisWalk$Table;II)V" } : Jvm.MethodName) prog_2_method_5_code (15 : Nat) (Option.none : Option Jvm.ClassFile.FieldType)) ∈ tb_w := List.mem_filter.mpr ⟨tcg_11 _ (List.mem_of_getElem? (i := 9) rfl), rfl⟩
theorem tw_230 : (Jvm.Cond.methodLink "BasisWalk$Minors" (50 : Nat) ({ cls := "java/lang/Math", name := "floorMod", desc := "(JJ)J" } : Jvm.MethodName)) ∈ tb_w := List.mem_filter.mpr ⟨tcg_11 _ (List.mem_of_getElem? (i := 10) rfl), rfl⟩
theorem tw_231 : (Jvm.Cond.static ({ cls := "java/lang/Math", name := "floorMod", desc := "(JJ)J" } : Jvm.MethodName)) ∈ tb_w := List.mem_filter.mpr ⟨tcg_11 _ (List.mem_of_getElem? (i := 11) rfl), rfl⟩
theorem tw_232 : (Jvm.Cond.code ({ cls := "java/lang/Math", name := "floorMod", desc := "(JJ)J" } : Jvm.MethodName) prog_10_method_52_code (6 : Nat) (Option.some Jvm.ClassFile.FieldType.long)) ∈ tb_w := List.mem_filter.mpr ⟨tcg_11 _ (List.mem_of_getElem? (i := 12) rfl), rfl⟩
theorem tw_233 : (Jvm.Cond.constantLong "BasisWalk$Minors" (56 : Nat) (281474976710655 : Int64)) ∈ tb_w := List.mem_filter.mpr ⟨tcg_11 _ (List.mem_of_getElem? (i := 13) rfl), rfl⟩
theorem tw_234 : (Jvm.Cond.methodLink "BasisWalk$Minors" (34 : Nat) ({ cls := "BasisWalk$Minors", name := "signOf", desc := "(I)I" } : Jvm.MethodName)) ∈ tb_w := List.mem_filter.mpr ⟨tcg_11 _ (List.mem_of_getElem? (i := 14) rfl), rfl⟩
theorem tw_235 : (Jvm.Cond.instanceMethod ({ cls := "BasisWalk$Minors", name := "signOf", desc := "(I)I" } : Jvm.MethodName)) ∈ tb_w := List.mem_filter.mpr ⟨tcg_11 _ (List.mem_of_getElem? (i := 15) rfl), rfl⟩
theorem tw_236 : (Jvm.Cond.selects "BasisWalk$Minors" ({ cls := "BasisWalk$Minors", name := "signOf", desc := "(I)I" } : Jvm.MethodName) ({ cls := "BasisWalk$Minors", name := "signOf", desc := "(I)I" } : Jvm.MethodName)) ∈ tb_w := List.mem_filter.mpr ⟨tcg_11 _ (List.mem_of_getElem? (i := 16) rfl), rfl⟩
theorem tw_237 : (Jvm.Cond.code ({ cls := "BasisWalk$Minors", name := "signOf", desc := "(I)I" } : Jvm.MethodName) prog_2_method_4_code (2 : Nat) (Option.some Jvm.ClassFile.FieldType.int)) ∈ tb_w := List.mem_filter.mpr ⟨tcg_11 _ (List.mem_of_getElem? (i := 17) rfl), rfl⟩
theorem tw_238 : (Jvm.Cond.methodLink "BasisWalk$Study" (44 : Nat) ({ cls := "BasisWalk$Study", name := "learnSigns", desc := "(LBasisWalk$Order;LBasisWalk$Minors;)V" } : Jvm.MethodName)) ∈ tb_w := List.mem_filter.mpr ⟨tcg_11 _ (List.mem_of_getElem? (i := 18) rfl), rfl⟩
theorem tw_240 : (Jvm.Cond.instanceMethod ({ cls := "BasisWalk$Study", name := "learnSigns", desc := "(LBasisWalk$Order;LBasisWalk$Minors;)V" } : Jvm.MethodName)) ∈ tb_w := List.mem_filter.mpr ⟨tcg_12 _ (List.mem_of_getElem? (i := 0) rfl), rfl⟩
theorem tw_241 : (Jvm.Cond.code ({ cls := "BasisWalk$Study", name := "learnSigns", desc := "(LBasisWalk$Order;LBasisWalk$Minors;)V" } : Jvm.MethodName) prog_4_method_10_code (7 : Nat) (Option.none : Option Jvm.ClassFile.FieldType)) ∈ tb_w := List.mem_filter.mpr ⟨tcg_12 _ (List.mem_of_getElem? (i := 1) rfl), rfl⟩
theorem tw_242 : (Jvm.Cond.methodLink "BasisWalk$Study" (91 : Nat) ({ cls := "BasisWalk$Minors", name := "signOf", desc := "(I)I" } : Jvm.MethodName)) ∈ tb_w := List.mem_filter.mpr ⟨tcg_12 _ (List.mem_of_getElem? (i := 2) rfl), rfl⟩
theorem tw_243 : (Jvm.Cond.methodLink "BasisWalk$Study" (48 : Nat) ({ cls := "BasisWalk$Study", name := "markIndependent", desc := "()V" } : Jvm.MethodName)) ∈ tb_w := List.mem_filter.mpr ⟨tcg_12 _ (List.mem_of_getElem? (i := 3) rfl), rfl⟩
theorem tw_245 : (Jvm.Cond.instanceMethod ({ cls := "BasisWalk$Study", name := "markIndependent", desc := "()V" } : Jvm.MethodName)) ∈ tb_w := List.mem_filter.mpr ⟨tcg_12 _ (List.mem_of_getElem? (i := 5) rfl), rfl⟩
theorem tw_246 : (Jvm.Cond.code ({ cls := "BasisWalk$Study", name := "markIndependent", desc := "()V" } : Jvm.MethodName) prog_4_method_11_code (4 : Nat) (Option.none : Option Jvm.ClassFile.FieldType)) ∈ tb_w := List.mem_filter.mpr ⟨tcg_12 _ (List.mem_of_getElem? (i := 6) rfl), rfl⟩
theorem tw_247 : (Jvm.Cond.methodLink "BasisWalk$Study" (94 : Nat) ({ cls := "java/lang/Integer", name := "bitCount", desc := "(I)I" } : Jvm.MethodName)) ∈ tb_w := List.mem_filter.mpr ⟨tcg_12 _ (List.mem_of_getElem? (i := 7) rfl), rfl⟩
theorem tw_248 : (Jvm.Cond.methodLink "BasisWalk$Study" (99 : Nat) ({ cls := "BasisWalk$Study", name := "hasIndependentAbove", desc := "(I)Z" } : Jvm.MethodName)) ∈ tb_w := List.mem_filter.mpr ⟨tcg_12 _ (List.mem_of_getElem? (i := 8) rfl), rfl⟩
theorem tw_250 : (Jvm.Cond.instanceMethod ({ cls := "BasisWalk$Study", name := "hasIndependentAbove", desc := "(I)Z" } : Jvm.MethodName)) ∈ tb_w := List.mem_filter.mpr ⟨tcg_12 _ (List.mem_of_getElem? (i := 10) rfl), rfl⟩
theorem tw_251 : (Jvm.Cond.code ({ cls := "BasisWalk$Study", name := "hasIndependentAbove", desc := "(I)Z" } : Jvm.MethodName) prog_4_method_12_code (4 : Nat) (Option.some Jvm.ClassFile.FieldType.boolean)) ∈ tb_w := List.mem_filter.mpr ⟨tcg_12 _ (List.mem_of_getElem? (i := 11) rfl), rfl⟩
theorem tw_252 : (Jvm.Cond.methodLink "BasisWalk$Study" (51 : Nat) ({ cls := "BasisWalk$Study", name := "learnRanks", desc := "()V" } : Jvm.MethodName)) ∈ tb_w := List.mem_filter.mpr ⟨tcg_12 _ (List.mem_of_getElem? (i := 12) rfl), rfl⟩
theorem tw_254 : (Jvm.Cond.instanceMethod ({ cls := "BasisWalk$Study", name := "learnRanks", desc := "()V" } : Jvm.MethodName)) ∈ tb_w := List.mem_filter.mpr ⟨tcg_12 _ (List.mem_of_getElem? (i := 14) rfl), rfl⟩
theorem tw_255 : (Jvm.Cond.code ({ cls := "BasisWalk$Study", name := "learnRanks", desc := "()V" } : Jvm.MethodName) prog_4_method_13_code (2 : Nat) (Option.none : Option Jvm.ClassFile.FieldType)) ∈ tb_w := List.mem_filter.mpr ⟨tcg_12 _ (List.mem_of_getElem? (i := 15) rfl), rfl⟩
theorem tw_256 : (Jvm.Cond.methodLink "BasisWalk$Study" (103 : Nat) ({ cls := "BasisWalk$Study", name := "greatestRankUnder", desc := "(I)I" } : Jvm.MethodName)) ∈ tb_w := List.mem_filter.mpr ⟨tcg_12 _ (List.mem_of_getElem? (i := 16) rfl), rfl⟩
theorem tw_258 : (Jvm.Cond.instanceMethod ({ cls := "BasisWalk$Study", name := "greatestRankUnder", desc := "(I)I" } : Jvm.MethodName)) ∈ tb_w := List.mem_filter.mpr ⟨tcg_12 _ (List.mem_of_getElem? (i := 18) rfl), rfl⟩
theorem tw_259 : (Jvm.Cond.code ({ cls := "BasisWalk$Study", name := "greatestRankUnder", desc := "(I)I" } : Jvm.MethodName) prog_4_method_14_code (5 : Nat) (Option.some Jvm.ClassFile.FieldType.int)) ∈ tb_w := List.mem_filter.mpr ⟨tcg_12 _ (List.mem_of_getElem? (i := 19) rfl), rfl⟩
theorem tw_260 : (Jvm.Cond.methodLink "BasisWalk$Study" (54 : Nat) ({ cls := "BasisWalk$Study", name := "learnDefects", desc := "()V" } : Jvm.MethodName)) ∈ tb_w := List.mem_filter.mpr ⟨tcg_13 _ (List.mem_of_getElem? (i := 0) rfl), rfl⟩
theorem tw_262 : (Jvm.Cond.instanceMethod ({ cls := "BasisWalk$Study", name := "learnDefects", desc := "()V" } : Jvm.MethodName)) ∈ tb_w := List.mem_filter.mpr ⟨tcg_13 _ (List.mem_of_getElem? (i := 2) rfl), rfl⟩
theorem tw_263 : (Jvm.Cond.code ({ cls := "BasisWalk$Study", name := "learnDefects", desc := "()V" } : Jvm.MethodName) prog_4_method_15_code (4 : Nat) (Option.none : Option Jvm.ClassFile.FieldType)) ∈ tb_w := List.mem_filter.mpr ⟨tcg_13 _ (List.mem_of_getElem? (i := 3) rfl), rfl⟩
theorem tw_264 : (Jvm.Cond.methodLink "BasisWalk$Study" (106 : Nat) ({ cls := "java/util/Arrays", name := "fill", desc := "([II)V" } : Jvm.MethodName)) ∈ tb_w := List.mem_filter.mpr ⟨tcg_13 _ (List.mem_of_getElem? (i := 4) rfl), rfl⟩
theorem tw_265 : (Jvm.Cond.methodLink "BasisWalk$Study" (57 : Nat) ({ cls := "BasisWalk$Study", name := "learnMembers", desc := "(LBasisWalk$Order;)V" } : Jvm.MethodName)) ∈ tb_w := List.mem_filter.mpr ⟨tcg_13 _ (List.mem_of_getElem? (i := 5) rfl), rfl⟩
theorem tw_267 : (Jvm.Cond.instanceMethod ({ cls := "BasisWalk$Study", name := "learnMembers", desc := "(LBasisWalk$Order;)V" } : Jvm.MethodName)) ∈ tb_w := List.mem_filter.mpr ⟨tcg_13 _ (List.mem_of_getElem? (i := 7) rfl), rfl⟩
theorem tw_268 : (Jvm.Cond.code ({ cls := "BasisWalk$Study", name := "learnMembers", desc := "(LBasisWalk$Order;)V" } : Jvm.MethodName) prog_4_method_16_code (6 : Nat) (Option.none : Option Jvm.ClassFile.FieldType)) ∈ tb_w := List.mem_filter.mpr ⟨tcg_13 _ (List.mem_of_getElem? (i := 8) rfl), rfl⟩
theorem tw_269 : (Jvm.Cond.methodLink "BasisWalk$Study" (112 : Nat) ({ cls := "BasisWalk$Study", name := "isOfKind", desc := "(II)Z" } : Jvm.MethodName)) ∈ tb_w := List.mem_filter.mpr ⟨tcg_13 _ (List.mem_of_getElem? (i := 9) rfl), rfl⟩
theorem tw_271 : (Jvm.Cond.instanceMethod ({ cls := "BasisWalk$Study", name := "isOfKind", desc := "(II)Z" } : Jvm.MethodName)) ∈ tb_w := List.mem_filter.mpr ⟨tcg_13 _ (List.mem_of_getElem? (i := 11) rfl), rfl⟩
theorem tw_272 : (Jvm.Cond.code ({ cls := "BasisWalk$Study", name := "isOfKind", desc := "(II)Z" } : Jvm.MethodName) prog_4_method_17_code (3 : Nat) (Option.some Jvm.ClassFile.FieldType.boolean)) ∈ tb_w := List.mem_filter.mpr ⟨tcg_13 _ (List.mem_of_getElem? (i := 12) rfl), rfl⟩
theorem tw_273 : (Jvm.Cond.methodLink "BasisWalk$Study" (116 : Nat) ({ cls := "BasisWalk$Study", name := "isCircuit", desc := "(I)Z" } : Jvm.MethodName)) ∈ tb_w := List.mem_filter.mpr ⟨tcg_13 _ (List.mem_of_getElem? (i := 13) rfl), rfl⟩
theorem tw_275 : (Jvm.Cond.instanceMethod ({ cls := "BasisWalk$Study", name := "isCircuit", desc := "(I)Z" } : Jvm.MethodName)) ∈ tb_w := List.mem_filter.mpr ⟨tcg_13 _ (List.mem_of_getElem? (i := 15) rfl), rfl⟩
theorem tw_276 : (Jvm.Cond.code ({ cls := "BasisWalk$Study", name := "isCircuit", desc := "(I)Z" } : Jvm.MethodName) prog_4_method_18_code (5 : Nat) (Option.some Jvm.ClassFile.FieldType.boolean)) ∈ tb_w := List.mem_filter.mpr ⟨tcg_13 _ (List.mem_of_getElem? (i := 16) rfl), rfl⟩
theorem tw_277 : (Jvm.Cond.methodLink "BasisWalk$Study" (119 : Nat) ({ cls := "BasisWalk$Study", name := "isHyperplane", desc := "(I)Z" } : Jvm.MethodName)) ∈ tb_w := List.mem_filter.mpr ⟨tcg_13 _ (List.mem_of_getElem? (i := 17) rfl), rfl⟩
theorem tw_279 : (Jvm.Cond.instanceMethod ({ cls := "BasisWalk$Study", name := "isHyperplane", desc := "(I)Z" } : Jvm.MethodName)) ∈ tb_w := List.mem_filter.mpr ⟨tcg_13 _ (List.mem_of_getElem? (i := 19) rfl), rfl⟩
theorem tw_280 : (Jvm.Cond.code ({ cls := "BasisWalk$Study", name := "isHyperplane", desc := "(I)Z" } : Jvm.MethodName) prog_4_method_19_code (2 : Nat) (Option.some Jvm.ClassFile.FieldType.boolean)) ∈ tb_w := List.mem_filter.mpr ⟨tcg_14 _ (List.mem_of_getElem? (i := 0) rfl), rfl⟩
theorem tw_281 : (Jvm.Cond.methodLink "BasisWalk$Study" (122 : Nat) ({ cls := "BasisWalk$Study", name := "isFlat", desc := "(I)Z" } : Jvm.MethodName)) ∈ tb_w := List.mem_filter.mpr ⟨tcg_14 _ (List.mem_of_getElem? (i := 1) rfl), rfl⟩
theorem tw_283 : (Jvm.Cond.instanceMethod ({ cls := "BasisWalk$Study", name := "isFlat", desc := "(I)Z" } : Jvm.MethodName)) ∈ tb_w := List.mem_filter.mpr ⟨tcg_14 _ (List.mem_of_getElem? (i := 3) rfl), rfl⟩
theorem tw_284 : (Jvm.Cond.code ({ cls := "BasisWalk$Study", name := "isFlat", desc := "(I)Z" } : Jvm.MethodName) prog_4_method_20_code (4 : Nat) (Option.some Jvm.ClassFile.FieldType.boolean)) ∈ tb_w := List.mem_filter.mpr ⟨tcg_14 _ (List.mem_of_getElem? (i := 4) rfl), rfl⟩
theorem tw_285 : (Jvm.Cond.methodLink "BasisWalkLaw" (32 : Nat) ({ cls := "BasisWalk", name := "count", desc := "(II)I" } : Jvm.MethodName)) ∈ tb_w := List.mem_filter.mpr ⟨tcg_14 _ (List.mem_of_getElem? (i := 5) rfl), rfl⟩
theorem tw_286 : (Jvm.Cond.instanceMethod ({ cls := "BasisWalk", name := "count", desc := "(II)I" } : Jvm.MethodName)) ∈ tb_w := List.mem_filter.mpr ⟨tcg_14 _ (List.mem_of_getElem? (i := 6) rfl), rfl⟩
theorem tw_287 : (Jvm.Cond.selects "BasisWalk" ({ cls := "BasisWalk", name := "count", desc := "(II)I" } : Jvm.MethodName) ({ cls := "BasisWalk", name := "count", desc := "(II)I" } : Jvm.MethodName)) ∈ tb_w := List.mem_filter.mpr ⟨tcg_14 _ (List.mem_of_getElem? (i := 7) rfl), rfl⟩
theorem tw_288 : (Jvm.Cond.code ({ cls := "BasisWalk", name := "count", desc := "(II)I" } : Jvm.MethodName) prog_1_method_6_code (4 : Nat) (Option.some Jvm.ClassFile.FieldType.int)) ∈ tb_w := List.mem_filter.mpr ⟨tcg_14 _ (List.mem_of_getElem? (i := 8) rfl), rfl⟩
theorem tw_289 : (Jvm.Cond.methodLink "BasisWalk" (69 : Nat) ({ cls := "BasisWalk", name := "isKind", desc := "(I)Z" } : Jvm.MethodName)) ∈ tb_w := List.mem_filter.mpr ⟨tcg_14 _ (List.mem_of_getElem? (i := 9) rfl), rfl⟩
theorem tw_290 : (Jvm.Cond.static ({ cls := "BasisWalk", name := "isKind", desc := "(I)Z" } : Jvm.MethodName)) ∈ tb_w := List.mem_filter.mpr ⟨tcg_14 _ (List.mem_of_getElem? (i := 10) rfl), rfl⟩
theorem tw_291 : (Jvm.Cond.code ({ cls := "BasisWalk", name := "isKind", desc := "(I)Z" } : Jvm.MethodName) prog_1_method_14_code (1 : Nat) (Option.some Jvm.ClassFile.FieldType.boolean)) ∈ tb_w := List.mem_filter.mpr ⟨tcg_14 _ (List.mem_of_getElem? (i := 11) rfl), rfl⟩
theorem tw_292 : (Jvm.Cond.methodLink "BasisWalk" (72 : Nat) ({ cls := "BasisWalk$Study", name := "howMany", desc := "(I)I" } : Jvm.MethodName)) ∈ tb_w := List.mem_filter.mpr ⟨tcg_14 _ (List.mem_of_getElem? (i := 12) rfl), rfl⟩
theorem tw_293 : (Jvm.Cond.instanceMethod ({ cls := "BasisWalk$Study", name := "howMany", desc := "(I)I" } : Jvm.MethodName)) ∈ tb_w := List.mem_filter.mpr ⟨tcg_14 _ (List.mem_of_getElem? (i := 13) rfl), rfl⟩
theorem tw_294 : (Jvm.Cond.selects "BasisWalk$Study" ({ cls := "BasisWalk$Study", name := "howMany", desc := "(I)I" } : Jvm.MethodName) ({ cls := "BasisWalk$Study", name := "howMany", desc := "(I)I" } : Jvm.MethodName)) ∈ tb_w := List.mem_filter.mpr ⟨tcg_14 _ (List.mem_of_getElem? (i := 14) rfl), rfl⟩
theorem tw_295 : (Jvm.Cond.code ({ cls := "BasisWalk$Study", name := "howMany", desc := "(I)I" } : Jvm.MethodName) prog_4_method_3_code (2 : Nat) (Option.some Jvm.ClassFile.FieldType.int)) ∈ tb_w := List.mem_filter.mpr ⟨tcg_14 _ (List.mem_of_getElem? (i := 15) rfl), rfl⟩
theorem tw_296 : (Jvm.Cond.methodLink "BasisWalkLaw" (36 : Nat) ({ cls := "BasisWalk", name := "member", desc := "(III)I" } : Jvm.MethodName)) ∈ tb_w := List.mem_filter.mpr ⟨tcg_14 _ (List.mem_of_getElem? (i := 16) rfl), rfl⟩
theorem tw_297 : (Jvm.Cond.instanceMethod ({ cls := "BasisWalk", name := "member", desc := "(III)I" } : Jvm.MethodName)) ∈ tb_w := List.mem_filter.mpr ⟨tcg_14 _ (List.mem_of_getElem? (i := 17) rfl), rfl⟩
theorem tw_298 : (Jvm.Cond.selects "BasisWalk" ({ cls := "BasisWalk", name := "member", desc := "(III)I" } : Jvm.MethodName) ({ cls := "BasisWalk", name := "member", desc := "(III)I" } : Jvm.MethodName)) ∈ tb_w := List.mem_filter.mpr ⟨tcg_14 _ (List.mem_of_getElem? (i := 18) rfl), rfl⟩
theorem tw_299 : (Jvm.Cond.code ({ cls := "BasisWalk", name := "member", desc := "(III)I" } : Jvm.MethodName) prog_1_method_7_code (5 : Nat) (Option.some Jvm.ClassFile.FieldType.int)) ∈ tb_w := List.mem_filter.mpr ⟨tcg_14 _ (List.mem_of_getElem? (i := 19) rfl), rfl⟩
theorem tw_300 : (Jvm.Cond.methodLink "BasisWalk" (76 : Nat) ({ cls := "BasisWalk$Study", name := "memberAt", desc := "(II)I" } : Jvm.MethodName)) ∈ tb_w := List.mem_filter.mpr ⟨tcg_15 _ (List.mem_of_getElem? (i := 0) rfl), rfl⟩
theorem tw_301 : (Jvm.Cond.instanceMethod ({ cls := "BasisWalk$Study", name := "memberAt", desc := "(II)I" } : Jvm.MethodName)) ∈ tb_w := List.mem_filter.mpr ⟨tcg_15 _ (List.mem_of_getElem? (i := 1) rfl), rfl⟩
theorem tw_302 : (Jvm.Cond.selects "BasisWalk$Study" ({ cls := "BasisWalk$Study", name := "memberAt", desc := "(II)I" } : Jvm.MethodName) ({ cls := "BasisWalk$Study", name := "memberAt", desc := "(II)I" } : Jvm.MethodName)) ∈ tb_w := List.mem_filter.mpr ⟨tcg_15 _ (List.mem_of_getElem? (i := 2) rfl), rfl⟩
theorem tw_303 : (Jvm.Cond.code ({ cls := "BasisWalk$Study", name := "memberAt", desc := "(II)I" } : Jvm.MethodName) prog_4_method_4_code (3 : Nat) (Option.some Jvm.ClassFile.FieldType.int)) ∈ tb_w := List.mem_filter.mpr ⟨tcg_15 _ (List.mem_of_getElem? (i := 3) rfl), rfl⟩
theorem tw_304 : (Jvm.Cond.methodLink "BasisWalk$Study" (61 : Nat) ({ cls := "BasisWalk$Study", name := "howMany", desc := "(I)I" } : Jvm.MethodName)) ∈ tb_w := List.mem_filter.mpr ⟨tcg_15 _ (List.mem_of_getElem? (i := 4) rfl), rfl⟩
theorem tw_305 : (Jvm.Cond.methodLink "BasisWalkLaw" (41 : Nat) ({ cls := "BasisWalk", name := "tutte", desc := "(III)J" } : Jvm.MethodName)) ∈ tb_w := List.mem_filter.mpr ⟨tcg_15 _ (List.mem_of_getElem? (i := 5) rfl), rfl⟩
theorem tw_306 : (Jvm.Cond.instanceMethod ({ cls := "BasisWalk", name := "tutte", desc := "(III)J" } : Jvm.MethodName)) ∈ tb_w := List.mem_filter.mpr ⟨tcg_15 _ (List.mem_of_getElem? (i := 6) rfl), rfl⟩
theorem tw_307 : (Jvm.Cond.selects "BasisWalk" ({ cls := "BasisWalk", name := "tutte", desc := "(III)J" } : Jvm.MethodName) ({ cls := "BasisWalk", name := "tutte", desc := "(III)J" } : Jvm.MethodName)) ∈ tb_w := List.mem_filter.mpr ⟨tcg_15 _ (List.mem_of_getElem? (i := 7) rfl), rfl⟩
theorem tw_308 : (Jvm.Cond.code ({ cls := "BasisWalk", name := "tutte", desc := "(III)J" } : Jvm.MethodName) prog_1_method_8_code (5 : Nat) (Option.some Jvm.ClassFile.FieldType.long)) ∈ tb_w := List.mem_filter.mpr ⟨tcg_15 _ (List.mem_of_getElem? (i := 8) rfl), rfl⟩
theorem tw_309 : (Jvm.Cond.methodLink "BasisWalk" (80 : Nat) ({ cls := "BasisWalk$Study", name := "coefficient", desc := "(II)J" } : Jvm.MethodName)) ∈ tb_w := List.mem_filter.mpr ⟨tcg_15 _ (List.mem_of_getElem? (i := 9) rfl), rfl⟩
theorem tw_310 : (Jvm.Cond.instanceMethod ({ cls := "BasisWalk$Study", name := "coefficient", desc := "(II)J" } : Jvm.MethodName)) ∈ tb_w := List.mem_filter.mpr ⟨tcg_15 _ (List.mem_of_getElem? (i := 10) rfl), rfl⟩
theorem tw_311 : (Jvm.Cond.selects "BasisWalk$Study" ({ cls := "BasisWalk$Study", name := "coefficient", desc := "(II)J" } : Jvm.MethodName) ({ cls := "BasisWalk$Study", name := "coefficient", desc := "(II)J" } : Jvm.MethodName)) ∈ tb_w := List.mem_filter.mpr ⟨tcg_15 _ (List.mem_of_getElem? (i := 11) rfl), rfl⟩
theorem tw_312 : (Jvm.Cond.code ({ cls := "BasisWalk$Study", name := "coefficient", desc := "(II)J" } : Jvm.MethodName) prog_4_method_5_code (9 : Nat) (Option.some Jvm.ClassFile.FieldType.long)) ∈ tb_w := List.mem_filter.mpr ⟨tcg_15 _ (List.mem_of_getElem? (i := 12) rfl), rfl⟩
theorem tw_313 : (Jvm.Cond.methodLink "BasisWalkLaw" (46 : Nat) ({ cls := "BasisWalk", name := "sign", desc := "(II)I" } : Jvm.MethodName)) ∈ tb_w := List.mem_filter.mpr ⟨tcg_15 _ (List.mem_of_getElem? (i := 13) rfl), rfl⟩
theorem tw_314 : (Jvm.Cond.instanceMethod ({ cls := "BasisWalk", name := "sign", desc := "(II)I" } : Jvm.MethodName)) ∈ tb_w := List.mem_filter.mpr ⟨tcg_15 _ (List.mem_of_getElem? (i := 14) rfl), rfl⟩
theorem tw_315 : (Jvm.Cond.selects "BasisWalk" ({ cls := "BasisWalk", name := "sign", desc := "(II)I" } : Jvm.MethodName) ({ cls := "BasisWalk", name := "sign", desc := "(II)I" } : Jvm.MethodName)) ∈ tb_w := List.mem_filter.mpr ⟨tcg_15 _ (List.mem_of_getElem? (i := 15) rfl), rfl⟩
theorem tw_316 : (Jvm.Cond.code ({ cls := "BasisWalk", name := "sign", desc := "(II)I" } : Jvm.MethodName) prog_1_method_9_code (5 : Nat) (Option.some Jvm.ClassFile.FieldType.int)) ∈ tb_w := List.mem_filter.mpr ⟨tcg_15 _ (List.mem_of_getElem? (i := 16) rfl), rfl⟩
theorem tw_317 : (Jvm.Cond.methodLink "BasisWalk" (87 : Nat) ({ cls := "java/lang/Integer", name := "bitCount", desc := "(I)I" } : Jvm.MethodName)) ∈ tb_w := List.mem_filter.mpr ⟨tcg_15 _ (List.mem_of_getElem? (i := 17) rfl), rfl⟩
theorem tw_318 : (Jvm.Cond.methodLink "BasisWalkLaw" (50 : Nat) ({ cls := "BasisWalk", name := "below", desc := "(II)I" } : Jvm.MethodName)) ∈ tb_w := List.mem_filter.mpr ⟨tcg_15 _ (List.mem_of_getElem? (i := 18) rfl), rfl⟩
theorem tw_319 : (Jvm.Cond.instanceMethod ({ cls := "BasisWalk", name := "below", desc := "(II)I" } : Jvm.MethodName)) ∈ tb_w := List.mem_filter.mpr ⟨tcg_15 _ (List.mem_of_getElem? (i := 19) rfl), rfl⟩
theorem tw_320 : (Jvm.Cond.selects "BasisWalk" ({ cls := "BasisWalk", name := "below", desc := "(II)I" } : Jvm.MethodName) ({ cls := "BasisWalk", name := "below", desc := "(II)I" } : Jvm.MethodName)) ∈ tb_w := List.mem_filter.mpr ⟨tcg_16 _ (List.mem_of_getElem? (i := 0) rfl), rfl⟩
theorem tw_321 : (Jvm.Cond.code ({ cls := "BasisWalk", name := "below", desc := "(II)I" } : Jvm.MethodName) prog_1_method_10_code (6 : Nat) (Option.some Jvm.ClassFile.FieldType.int)) ∈ tb_w := List.mem_filter.mpr ⟨tcg_16 _ (List.mem_of_getElem? (i := 1) rfl), rfl⟩
theorem tw_322 : (Jvm.Cond.methodLink "BasisWalk" (98 : Nat) ({ cls := "BasisWalk$Study", name := "negativePart", desc := "(I)I" } : Jvm.MethodName)) ∈ tb_w := List.mem_filter.mpr ⟨tcg_16 _ (List.mem_of_getElem? (i := 2) rfl), rfl⟩
theorem tw_323 : (Jvm.Cond.instanceMethod ({ cls := "BasisWalk$Study", name := "negativePart", desc := "(I)I" } : Jvm.MethodName)) ∈ tb_w := List.mem_filter.mpr ⟨tcg_16 _ (List.mem_of_getElem? (i := 3) rfl), rfl⟩
theorem tw_324 : (Jvm.Cond.selects "BasisWalk$Study" ({ cls := "BasisWalk$Study", name := "negativePart", desc := "(I)I" } : Jvm.MethodName) ({ cls := "BasisWalk$Study", name := "negativePart", desc := "(I)I" } : Jvm.MethodName)) ∈ tb_w := List.mem_filter.mpr ⟨tcg_16 _ (List.mem_of_getElem? (i := 4) rfl), rfl⟩
theorem tw_325 : (Jvm.Cond.code ({ cls := "BasisWalk$Study", name := "negativePart", desc := "(I)I" } : Jvm.MethodName) prog_4_method_6_code (9 : Nat) (Option.some Jvm.ClassFile.FieldType.int)) ∈ tb_w := List.mem_filter.mpr ⟨tcg_16 _ (List.mem_of_getElem? (i := 5) rfl), rfl⟩
theorem tw_326 : (Jvm.Cond.methodLink "BasisWalk$Study" (69 : Nat) ({ cls := "BasisWalk$Study", name := "widened", desc := "(I)I" } : Jvm.MethodName)) ∈ tb_w := List.mem_filter.mpr ⟨tcg_16 _ (List.mem_of_getElem? (i := 6) rfl), rfl⟩
theorem tw_328 : (Jvm.Cond.instanceMethod ({ cls := "BasisWalk$Study", name := "widened", desc := "(I)I" } : Jvm.MethodName)) ∈ tb_w := List.mem_filter.mpr ⟨tcg_16 _ (List.mem_of_getElem? (i := 8) rfl), rfl⟩
theorem tw_329 : (Jvm.Cond.code ({ cls := "BasisWalk$Study", name := "widened", desc := "(I)I" } : Jvm.MethodName) prog_4_method_7_code (4 : Nat) (Option.some Jvm.ClassFile.FieldType.int)) ∈ tb_w := List.mem_filter.mpr ⟨tcg_16 _ (List.mem_of_getElem? (i := 9) rfl), rfl⟩
theorem tw_330 : (Jvm.Cond.classLink "BasisWalkLaw" (10 : Nat) "BasisWalkModel") ∈ tb_w := List.mem_filter.mpr ⟨tcg_16 _ (List.mem_of_getElem? (i := 10) rfl), rfl⟩
theorem tw_331 : (Jvm.Cond.instantiable "BasisWalkModel" (31 : Nat)) ∈ tb_w := List.mem_filter.mpr ⟨tcg_16 _ (List.mem_of_getElem? (i := 11) rfl), rfl⟩
theorem tw_332 : (Jvm.Cond.methodLink "BasisWalkLaw" (12 : Nat) ({ cls := "BasisWalkModel", name := "<init>", desc := "()V" } : Jvm.MethodName)) ∈ tb_w := List.mem_filter.mpr ⟨tcg_16 _ (List.mem_of_getElem? (i := 12) rfl), rfl⟩
theorem tw_333 : (Jvm.Cond.instanceMethod ({ cls := "BasisWalkModel", name := "<init>", desc := "()V" } : Jvm.MethodName)) ∈ tb_w := List.mem_filter.mpr ⟨tcg_16 _ (List.mem_of_getElem? (i := 13) rfl), rfl⟩
theorem tw_334 : (Jvm.Cond.code ({ cls := "BasisWalkModel", name := "<init>", desc := "()V" } : Jvm.MethodName) prog_7_method_17_code (3 : Nat) (Option.none : Option Jvm.ClassFile.FieldType)) ∈ tb_w := List.mem_filter.mpr ⟨tcg_16 _ (List.mem_of_getElem? (i := 14) rfl), rfl⟩
theorem tw_335 : (Jvm.Cond.methodLink "BasisWalkModel" (147 : Nat) ({ cls := "java/lang/Object", name := "<init>", desc := "()V" } : Jvm.MethodName)) ∈ tb_w := List.mem_filter.mpr ⟨tcg_16 _ (List.mem_of_getElem? (i := 15) rfl), rfl⟩
theorem tw_336 : (Jvm.Cond.classLink "BasisWalkModel" (8 : Nat) "BasisWalkModel$Num") ∈ tb_w := List.mem_filter.mpr ⟨tcg_16 _ (List.mem_of_getElem? (i := 16) rfl), rfl⟩
theorem tw_337 : (Jvm.Cond.instantiable "BasisWalkModel$Num" (3 : Nat)) ∈ tb_w := List.mem_filter.mpr ⟨tcg_16 _ (List.mem_of_getElem? (i := 17) rfl), rfl⟩
theorem tn_338 : (Jvm.Cond.methodLinkNest "BasisWalkModel" (152 : Nat) ({ cls := "BasisWalkModel$Num", name := "<init>", desc := "()V" } : Jvm.MethodName) "BasisWalkModel") ∈ tb_n := List.mem_filter.mpr ⟨tcg_16 _ (List.mem_of_getElem? (i := 18) rfl), rfl⟩
theorem tw_339 : (Jvm.Cond.instanceMethod ({ cls := "BasisWalkModel$Num", name := "<init>", desc := "()V" } : Jvm.MethodName)) ∈ tb_w := List.mem_filter.mpr ⟨tcg_16 _ (List.mem_of_getElem? (i := 19) rfl), rfl⟩
theorem tw_340 : (Jvm.Cond.code ({ cls := "BasisWalkModel$Num", name := "<init>", desc := "()V" } : Jvm.MethodName) prog_8_method_1_code (1 : Nat) (Option.none : Option Jvm.ClassFile.FieldType)) ∈ tb_w := List.mem_filter.mpr ⟨tcg_17 _ (List.mem_of_getElem? (i := 0) rfl), rfl⟩
theorem tw_341 : (Jvm.Cond.methodLink "BasisWalkModel$Num" (1 : Nat) ({ cls := "java/lang/Object", name := "<init>", desc := "()V" } : Jvm.MethodName)) ∈ tb_w := List.mem_filter.mpr ⟨tcg_17 _ (List.mem_of_getElem? (i := 1) rfl), rfl⟩
theorem tw_342 : (Jvm.Cond.fieldLink "BasisWalkModel$Num" (7 : Nat) "BasisWalkModel$Num" "d" "[I") ∈ tb_w := List.mem_filter.mpr ⟨tcg_17 _ (List.mem_of_getElem? (i := 2) rfl), rfl⟩
theorem tw_343 : (Jvm.Cond.fieldLink "BasisWalkModel" (20 : Nat) "BasisWalkModel$Num" "n" "I") ∈ tb_w := List.mem_filter.mpr ⟨tcg_17 _ (List.mem_of_getElem? (i := 3) rfl), rfl⟩
theorem tw_344 : (Jvm.Cond.fieldLink "BasisWalkModel$Num" (13 : Nat) "BasisWalkModel$Num" "n" "I") ∈ tb_w := List.mem_filter.mpr ⟨tcg_17 _ (List.mem_of_getElem? (i := 4) rfl), rfl⟩
theorem tw_345 : (Jvm.Cond.fieldLink "BasisWalkModel" (13 : Nat) "BasisWalkModel$Num" "minus" "Z") ∈ tb_w := List.mem_filter.mpr ⟨tcg_17 _ (List.mem_of_getElem? (i := 5) rfl), rfl⟩
theorem tw_346 : (Jvm.Cond.fieldLink "BasisWalkModel$Num" (17 : Nat) "BasisWalkModel$Num" "minus" "Z") ∈ tb_w := List.mem_filter.mpr ⟨tcg_17 _ (List.mem_of_getElem? (i := 6) rfl), rfl⟩
theorem tn_354 : (Jvm.Cond.arrayOver (Jvm.ClassFile.FieldType.object "BasisWalkModel$Num")) ∈ tb_n := List.mem_filter.mpr ⟨tcg_17 _ (List.mem_of_getElem? (i := 14) rfl), rfl⟩
theorem tw_355 : (Jvm.Cond.methodLink "BasisWalkModel" (195 : Nat) ({ cls := "BasisWalkModel", name := "list", desc := "(IIII)I" } : Jvm.MethodName)) ∈ tb_w := List.mem_filter.mpr ⟨tcg_17 _ (List.mem_of_getElem? (i := 15) rfl), rfl⟩
theorem tw_357 : (Jvm.Cond.instanceMethod ({ cls := "BasisWalkModel", name := "list", desc := "(IIII)I" } : Jvm.MethodName)) ∈ tb_w := List.mem_filter.mpr ⟨tcg_17 _ (List.mem_of_getElem? (i := 17) rfl), rfl⟩
theorem tw_358 : (Jvm.Cond.code ({ cls := "BasisWalkModel", name := "list", desc := "(IIII)I" } : Jvm.MethodName) prog_7_method_19_code (7 : Nat) (Option.some Jvm.ClassFile.FieldType.int)) ∈ tb_w := List.mem_filter.mpr ⟨tcg_17 _ (List.mem_of_getElem? (i := 18) rfl), rfl⟩
theorem tw_359 : (Jvm.Cond.fieldLink "BasisWalkModel" (58 : Nat) "BasisWalkModel" "one" "LBasisWalkModel$Num;") ∈ tb_w := List.mem_filter.mpr ⟨tcg_17 _ (List.mem_of_getElem? (i := 19) rfl), rfl⟩
theorem tw_360 : (Jvm.Cond.fieldLink "BasisWalkModel" (27 : Nat) "BasisWalkModel" "two" "LBasisWalkModel$Num;") ∈ tb_w := List.mem_filter.mpr ⟨tcg_18 _ (List.mem_of_getElem? (i := 0) rfl), rfl⟩
theorem tw_361 : (Jvm.Cond.fieldLink "BasisWalkModel" (24 : Nat) "BasisWalkModel" "three" "LBasisWalkModel$Num;") ∈ tb_w := List.mem_filter.mpr ⟨tcg_18 _ (List.mem_of_getElem? (i := 1) rfl), rfl⟩
theorem tw_362 : (Jvm.Cond.fieldLink "BasisWalkModel" (17 : Nat) "BasisWalkModel" "four" "LBasisWalkModel$Num;") ∈ tb_w := List.mem_filter.mpr ⟨tcg_18 _ (List.mem_of_getElem? (i := 2) rfl), rfl⟩
theorem tw_363 : (Jvm.Cond.fieldLink "BasisWalkModel" (1 : Nat) "BasisWalkModel" "five" "LBasisWalkModel$Num;") ∈ tb_w := List.mem_filter.mpr ⟨tcg_18 _ (List.mem_of_getElem? (i := 3) rfl), rfl⟩
theorem tw_364 : (Jvm.Cond.fieldLink "BasisWalkModel" (65 : Nat) "BasisWalkModel" "six" "LBasisWalkModel$Num;") ∈ tb_w := List.mem_filter.mpr ⟨tcg_18 _ (List.mem_of_getElem? (i := 4) rfl), rfl⟩
theorem tw_365 : (Jvm.Cond.fieldLink "BasisWalkModel" (68 : Nat) "BasisWalkModel" "seven" "LBasisWalkModel$Num;") ∈ tb_w := List.mem_filter.mpr ⟨tcg_18 _ (List.mem_of_getElem? (i := 5) rfl), rfl⟩
theorem tw_366 : (Jvm.Cond.fieldLink "BasisWalkModel" (82 : Nat) "BasisWalkModel" "eight" "LBasisWalkModel$Num;") ∈ tb_w := List.mem_filter.mpr ⟨tcg_18 _ (List.mem_of_getElem? (i := 6) rfl), rfl⟩
theorem tw_367 : (Jvm.Cond.fieldLink "BasisWalkModel" (34 : Nat) "BasisWalkModel" "work" "[LBasisWalkModel$Num;") ∈ tb_w := List.mem_filter.mpr ⟨tcg_18 _ (List.mem_of_getElem? (i := 7) rfl), rfl⟩
theorem tw_368 : (Jvm.Cond.fieldLink "BasisWalkModel" (55 : Nat) "BasisWalkModel" "small" "[I") ∈ tb_w := List.mem_filter.mpr ⟨tcg_18 _ (List.mem_of_getElem? (i := 8) rfl), rfl⟩
theorem tw_369 : (Jvm.Cond.fieldLink "BasisWalkModel" (44 : Nat) "BasisWalkModel" "rows" "I") ∈ tb_w := List.mem_filter.mpr ⟨tcg_18 _ (List.mem_of_getElem? (i := 9) rfl), rfl⟩
theorem tw_370 : (Jvm.Cond.fieldLink "BasisWalkModel" (41 : Nat) "BasisWalkModel" "columns" "I") ∈ tb_w := List.mem_filter.mpr ⟨tcg_18 _ (List.mem_of_getElem? (i := 10) rfl), rfl⟩
theorem tw_371 : (Jvm.Cond.fieldLink "BasisWalkModel" (38 : Nat) "BasisWalkModel" "prime" "I") ∈ tb_w := List.mem_filter.mpr ⟨tcg_18 _ (List.mem_of_getElem? (i := 11) rfl), rfl⟩
theorem tw_372 : (Jvm.Cond.fieldLink "BasisWalkModel" (108 : Nat) "BasisWalkModel" "pivots" "[I") ∈ tb_w := List.mem_filter.mpr ⟨tcg_18 _ (List.mem_of_getElem? (i := 12) rfl), rfl⟩
theorem tw_373 : (Jvm.Cond.fieldLink "BasisWalkModel" (120 : Nat) "BasisWalkModel" "freeRows" "[I") ∈ tb_w := List.mem_filter.mpr ⟨tcg_18 _ (List.mem_of_getElem? (i := 13) rfl), rfl⟩
theorem tw_374 : (Jvm.Cond.fieldLink "BasisWalkModel" (117 : Nat) "BasisWalkModel" "freeColumns" "[I") ∈ tb_w := List.mem_filter.mpr ⟨tcg_18 _ (List.mem_of_getElem? (i := 14) rfl), rfl⟩
theorem tw_375 : (Jvm.Cond.fieldLink "BasisWalkModel" (140 : Nat) "BasisWalkModel" "minor" "[LBasisWalkModel$Num;") ∈ tb_w := List.mem_filter.mpr ⟨tcg_18 _ (List.mem_of_getElem? (i := 15) rfl), rfl⟩
theorem tw_376 : (Jvm.Cond.fieldLink "BasisWalkModel" (137 : Nat) "BasisWalkModel" "smallMinor" "[I") ∈ tb_w := List.mem_filter.mpr ⟨tcg_18 _ (List.mem_of_getElem? (i := 16) rfl), rfl⟩
theorem tw_377 : (Jvm.Cond.fieldLink "BasisWalkModel" (153 : Nat) "BasisWalkModel" "fields" "[I") ∈ tb_w := List.mem_filter.mpr ⟨tcg_18 _ (List.mem_of_getElem? (i := 17) rfl), rfl⟩
theorem tw_378 : (Jvm.Cond.fieldLink "BasisWalkModel" (156 : Nat) "BasisWalkModel" "rowCounts" "[I") ∈ tb_w := List.mem_filter.mpr ⟨tcg_18 _ (List.mem_of_getElem? (i := 18) rfl), rfl⟩
theorem tw_379 : (Jvm.Cond.fieldLink "BasisWalkModel" (159 : Nat) "BasisWalkModel" "elements" "[I") ∈ tb_w := List.mem_filter.mpr ⟨tcg_18 _ (List.mem_of_getElem? (i := 19) rfl), rfl⟩
theorem tw_380 : (Jvm.Cond.fieldLink "BasisWalkModel" (162 : Nat) "BasisWalkModel" "numbers" "[I") ∈ tb_w := List.mem_filter.mpr ⟨tcg_19 _ (List.mem_of_getElem? (i := 0) rfl), rfl⟩
theorem tw_381 : (Jvm.Cond.fieldLink "BasisWalkModel" (165 : Nat) "BasisWalkModel" "known" "[Z") ∈ tb_w := List.mem_filter.mpr ⟨tcg_19 _ (List.mem_of_getElem? (i := 1) rfl), rfl⟩
theorem tw_382 : (Jvm.Cond.fieldLink "BasisWalkModel" (169 : Nat) "BasisWalkModel" "ranks" "[I") ∈ tb_w := List.mem_filter.mpr ⟨tcg_19 _ (List.mem_of_getElem? (i := 2) rfl), rfl⟩
theorem tw_383 : (Jvm.Cond.fieldLink "BasisWalkModel" (172 : Nat) "BasisWalkModel" "rankOf" "[B") ∈ tb_w := List.mem_filter.mpr ⟨tcg_19 _ (List.mem_of_getElem? (i := 3) rfl), rfl⟩
theorem tw_384 : (Jvm.Cond.fieldLink "BasisWalkModel" (176 : Nat) "BasisWalkModel" "signOf" "[B") ∈ tb_w := List.mem_filter.mpr ⟨tcg_19 _ (List.mem_of_getElem? (i := 4) rfl), rfl⟩
theorem tw_385 : (Jvm.Cond.fieldLink "BasisWalkModel" (179 : Nat) "BasisWalkModel" "order" "[I") ∈ tb_w := List.mem_filter.mpr ⟨tcg_19 _ (List.mem_of_getElem? (i := 5) rfl), rfl⟩
theorem tw_386 : (Jvm.Cond.fieldLink "BasisWalkModel" (182 : Nat) "BasisWalkModel" "sizes" "[I") ∈ tb_w := List.mem_filter.mpr ⟨tcg_19 _ (List.mem_of_getElem? (i := 6) rfl), rfl⟩
theorem tw_387 : (Jvm.Cond.fieldLink "BasisWalkModel" (185 : Nat) "BasisWalkModel" "coefficients" "[J") ∈ tb_w := List.mem_filter.mpr ⟨tcg_19 _ (List.mem_of_getElem? (i := 7) rfl), rfl⟩
theorem tw_388 : (Jvm.Cond.fieldLink "BasisWalkModel" (189 : Nat) "BasisWalkModel" "choices" "[J") ∈ tb_w := List.mem_filter.mpr ⟨tcg_19 _ (List.mem_of_getElem? (i := 8) rfl), rfl⟩
theorem tw_389 : (Jvm.Cond.fieldLink "BasisWalkModel" (192 : Nat) "BasisWalkModel" "sorted" "[I") ∈ tb_w := List.mem_filter.mpr ⟨tcg_19 _ (List.mem_of_getElem? (i := 9) rfl), rfl⟩
theorem tw_453 : (Jvm.Cond.arrayClass Jvm.ClassFile.FieldType.boolean) ∈ tb_w := List.mem_filter.mpr ⟨tcg_22 _ (List.mem_of_getElem? (i := 13) rfl), rfl⟩
theorem tw_454 : (Jvm.Cond.arrayClass Jvm.ClassFile.FieldType.byte) ∈ tb_w := List.mem_filter.mpr ⟨tcg_22 _ (List.mem_of_getElem? (i := 14) rfl), rfl⟩
theorem tw_455 : (Jvm.Cond.methodLink "BasisWalkLaw" (17 : Nat) ({ cls := "BasisWalkModel", name := "begin", desc := "(IIII)Z" } : Jvm.MethodName)) ∈ tb_w := List.mem_filter.mpr ⟨tcg_22 _ (List.mem_of_getElem? (i := 15) rfl), rfl⟩
theorem tw_456 : (Jvm.Cond.instanceMethod ({ cls := "BasisWalkModel", name := "begin", desc := "(IIII)Z" } : Jvm.MethodName)) ∈ tb_w := List.mem_filter.mpr ⟨tcg_22 _ (List.mem_of_getElem? (i := 16) rfl), rfl⟩
theorem tw_457 : (Jvm.Cond.selects "BasisWalkModel" ({ cls := "BasisWalkModel", name := "begin", desc := "(IIII)Z" } : Jvm.MethodName) ({ cls := "BasisWalkModel", name := "begin", desc := "(IIII)Z" } : Jvm.MethodName)) ∈ tb_w := List.mem_filter.mpr ⟨tcg_22 _ (List.mem_of_getElem? (i := 17) rfl), rfl⟩
theorem tw_458 : (Jvm.Cond.code ({ cls := "BasisWalkModel", name := "begin", desc := "(IIII)Z" } : Jvm.MethodName) prog_7_method_22_code (6 : Nat) (Option.some Jvm.ClassFile.FieldType.boolean)) ∈ tb_w := List.mem_filter.mpr ⟨tcg_22 _ (List.mem_of_getElem? (i := 18) rfl), rfl⟩
theorem tw_459 : (Jvm.Cond.methodLink "BasisWalkModel" (199 : Nat) ({ cls := "BasisWalkModel", name := "isTable", desc := "(I)Z" } : Jvm.MethodName)) ∈ tb_w := List.mem_filter.mpr ⟨tcg_22 _ (List.mem_of_getElem? (i := 19) rfl), rfl⟩
theorem tw_460 : (Jvm.Cond.static ({ cls := "BasisWalkModel", name := "isTable", desc := "(I)Z" } : Jvm.MethodName)) ∈ tb_w := List.mem_filter.mpr ⟨tcg_23 _ (List.mem_of_getElem? (i := 0) rfl), rfl⟩
theorem tw_461 : (Jvm.Cond.code ({ cls := "BasisWalkModel", name := "isTable", desc := "(I)Z" } : Jvm.MethodName) prog_7_method_20_code (1 : Nat) (Option.some Jvm.ClassFile.FieldType.boolean)) ∈ tb_w := List.mem_filter.mpr ⟨tcg_23 _ (List.mem_of_getElem? (i := 1) rfl), rfl⟩
theorem tw_462 : (Jvm.Cond.methodLink "BasisWalkModel" (203 : Nat) ({ cls := "BasisWalkModel", name := "isField", desc := "(I)Z" } : Jvm.MethodName)) ∈ tb_w := List.mem_filter.mpr ⟨tcg_23 _ (List.mem_of_getElem? (i := 2) rfl), rfl⟩
theorem tw_463 : (Jvm.Cond.static ({ cls := "BasisWalkModel", name := "isField", desc := "(I)Z" } : Jvm.MethodName)) ∈ tb_w := List.mem_filter.mpr ⟨tcg_23 _ (List.mem_of_getElem? (i := 3) rfl), rfl⟩
theorem tw_464 : (Jvm.Cond.code ({ cls := "BasisWalkModel", name := "isField", desc := "(I)Z" } : Jvm.MethodName) prog_7_method_21_code (3 : Nat) (Option.some Jvm.ClassFile.FieldType.boolean)) ∈ tb_w := List.mem_filter.mpr ⟨tcg_23 _ (List.mem_of_getElem? (i := 4) rfl), rfl⟩
theorem tw_465 : (Jvm.Cond.methodLink "BasisWalkLaw" (21 : Nat) ({ cls := "BasisWalkModel", name := "put", desc := "(IIII)Z" } : Jvm.MethodName)) ∈ tb_w := List.mem_filter.mpr ⟨tcg_23 _ (List.mem_of_getElem? (i := 5) rfl), rfl⟩
theorem tw_466 : (Jvm.Cond.instanceMethod ({ cls := "BasisWalkModel", name := "put", desc := "(IIII)Z" } : Jvm.MethodName)) ∈ tb_w := List.mem_filter.mpr ⟨tcg_23 _ (List.mem_of_getElem? (i := 6) rfl), rfl⟩
theorem tw_467 : (Jvm.Cond.selects "BasisWalkModel" ({ cls := "BasisWalkModel", name := "put", desc := "(IIII)Z" } : Jvm.MethodName) ({ cls := "BasisWalkModel", name := "put", desc := "(IIII)Z" } : Jvm.MethodName)) ∈ tb_w := List.mem_filter.mpr ⟨tcg_23 _ (List.mem_of_getElem? (i := 7) rfl), rfl⟩
theorem tw_468 : (Jvm.Cond.code ({ cls := "BasisWalkModel", name := "put", desc := "(IIII)Z" } : Jvm.MethodName) prog_7_method_23_code (5 : Nat) (Option.some Jvm.ClassFile.FieldType.boolean)) ∈ tb_w := List.mem_filter.mpr ⟨tcg_23 _ (List.mem_of_getElem? (i := 8) rfl), rfl⟩
theorem tw_469 : (Jvm.Cond.methodLink "BasisWalkLaw" (26 : Nat) ({ cls := "BasisWalkModel", name := "columns", desc := "(I)I" } : Jvm.MethodName)) ∈ tb_w := List.mem_filter.mpr ⟨tcg_23 _ (List.mem_of_getElem? (i := 9) rfl), rfl⟩
theorem tw_470 : (Jvm.Cond.instanceMethod ({ cls := "BasisWalkModel", name := "columns", desc := "(I)I" } : Jvm.MethodName)) ∈ tb_w := List.mem_filter.mpr ⟨tcg_23 _ (List.mem_of_getElem? (i := 10) rfl), rfl⟩
theorem tw_471 : (Jvm.Cond.selects "BasisWalkModel" ({ cls := "BasisWalkModel", name := "columns", desc := "(I)I" } : Jvm.MethodName) ({ cls := "BasisWalkModel", name := "columns", desc := "(I)I" } : Jvm.MethodName)) ∈ tb_w := List.mem_filter.mpr ⟨tcg_23 _ (List.mem_of_getElem? (i := 11) rfl), rfl⟩
theorem tw_472 : (Jvm.Cond.code ({ cls := "BasisWalkModel", name := "columns", desc := "(I)I" } : Jvm.MethodName) prog_7_method_39_code (2 : Nat) (Option.some Jvm.ClassFile.FieldType.int)) ∈ tb_w := List.mem_filter.mpr ⟨tcg_23 _ (List.mem_of_getElem? (i := 12) rfl), rfl⟩
theorem tw_473 : (Jvm.Cond.methodLink "BasisWalkLaw" (31 : Nat) ({ cls := "BasisWalkModel", name := "rank", desc := "(II)I" } : Jvm.MethodName)) ∈ tb_w := List.mem_filter.mpr ⟨tcg_23 _ (List.mem_of_getElem? (i := 13) rfl), rfl⟩
theorem tw_474 : (Jvm.Cond.instanceMethod ({ cls := "BasisWalkModel", name := "rank", desc := "(II)I" } : Jvm.MethodName)) ∈ tb_w := List.mem_filter.mpr ⟨tcg_23 _ (List.mem_of_getElem? (i := 14) rfl), rfl⟩
theorem tw_475 : (Jvm.Cond.selects "BasisWalkModel" ({ cls := "BasisWalkModel", name := "rank", desc := "(II)I" } : Jvm.MethodName) ({ cls := "BasisWalkModel", name := "rank", desc := "(II)I" } : Jvm.MethodName)) ∈ tb_w := List.mem_filter.mpr ⟨tcg_23 _ (List.mem_of_getElem? (i := 15) rfl), rfl⟩
theorem tw_476 : (Jvm.Cond.code ({ cls := "BasisWalkModel", name := "rank", desc := "(II)I" } : Jvm.MethodName) prog_7_method_40_code (3 : Nat) (Option.some Jvm.ClassFile.FieldType.int)) ∈ tb_w := List.mem_filter.mpr ⟨tcg_23 _ (List.mem_of_getElem? (i := 16) rfl), rfl⟩
theorem tw_477 : (Jvm.Cond.methodLink "BasisWalkModel" (254 : Nat) ({ cls := "BasisWalkModel", name := "learn", desc := "(I)Z" } : Jvm.MethodName)) ∈ tb_w := List.mem_filter.mpr ⟨tcg_23 _ (List.mem_of_getElem? (i := 17) rfl), rfl⟩
theorem tw_479 : (Jvm.Cond.instanceMethod ({ cls := "BasisWalkModel", name := "learn", desc := "(I)Z" } : Jvm.MethodName)) ∈ tb_w := List.mem_filter.mpr ⟨tcg_23 _ (List.mem_of_getElem? (i := 19) rfl), rfl⟩
theorem tw_480 : (Jvm.Cond.code ({ cls := "BasisWalkModel", name := "learn", desc := "(I)Z" } : Jvm.MethodName) prog_7_method_24_code (4 : Nat) (Option.some Jvm.ClassFile.FieldType.boolean)) ∈ tb_w := List.mem_filter.mpr ⟨tcg_24 _ (List.mem_of_getElem? (i := 0) rfl), rfl⟩
theorem tw_481 : (Jvm.Cond.methodLink "BasisWalkModel" (206 : Nat) ({ cls := "BasisWalkModel", name := "empty", desc := "(II)V" } : Jvm.MethodName)) ∈ tb_w := List.mem_filter.mpr ⟨tcg_24 _ (List.mem_of_getElem? (i := 1) rfl), rfl⟩
theorem tw_483 : (Jvm.Cond.instanceMethod ({ cls := "BasisWalkModel", name := "empty", desc := "(II)V" } : Jvm.MethodName)) ∈ tb_w := List.mem_filter.mpr ⟨tcg_24 _ (List.mem_of_getElem? (i := 3) rfl), rfl⟩
theorem tw_484 : (Jvm.Cond.code ({ cls := "BasisWalkModel", name := "empty", desc := "(II)V" } : Jvm.MethodName) prog_7_method_3_code (3 : Nat) (Option.none : Option Jvm.ClassFile.FieldType)) ∈ tb_w := List.mem_filter.mpr ⟨tcg_24 _ (List.mem_of_getElem? (i := 4) rfl), rfl⟩
theorem tw_485 : (Jvm.Cond.methodLink "BasisWalkModel" (209 : Nat) ({ cls := "BasisWalkModel", name := "lay", desc := "(IIJ)V" } : Jvm.MethodName)) ∈ tb_w := List.mem_filter.mpr ⟨tcg_24 _ (List.mem_of_getElem? (i := 5) rfl), rfl⟩
theorem tw_487 : (Jvm.Cond.instanceMethod ({ cls := "BasisWalkModel", name := "lay", desc := "(IIJ)V" } : Jvm.MethodName)) ∈ tb_w := List.mem_filter.mpr ⟨tcg_24 _ (List.mem_of_getElem? (i := 7) rfl), rfl⟩
theorem tw_488 : (Jvm.Cond.code ({ cls := "BasisWalkModel", name := "lay", desc := "(IIJ)V" } : Jvm.MethodName) prog_7_method_4_code (5 : Nat) (Option.none : Option Jvm.ClassFile.FieldType)) ∈ tb_w := List.mem_filter.mpr ⟨tcg_24 _ (List.mem_of_getElem? (i := 8) rfl), rfl⟩
theorem tw_489 : (Jvm.Cond.methodLink "BasisWalkModel" (47 : Nat) ({ cls := "BasisWalkModel", name := "at", desc := "(II)LBasisWalkModel$Num;" } : Jvm.MethodName)) ∈ tb_w := List.mem_filter.mpr ⟨tcg_24 _ (List.mem_of_getElem? (i := 9) rfl), rfl⟩
theorem tw_491 : (Jvm.Cond.instanceMethod ({ cls := "BasisWalkModel", name := "at", desc := "(II)LBasisWalkModel$Num;" } : Jvm.MethodName)) ∈ tb_w := List.mem_filter.mpr ⟨tcg_24 _ (List.mem_of_getElem? (i := 11) rfl), rfl⟩
theorem tw_492 : (Jvm.Cond.code ({ cls := "BasisWalkModel", name := "at", desc := "(II)LBasisWalkModel$Num;" } : Jvm.MethodName) prog_7_method_2_code (3 : Nat) (Option.some (Jvm.ClassFile.FieldType.object "BasisWalkModel$Num"))) ∈ tb_w := List.mem_filter.mpr ⟨tcg_24 _ (List.mem_of_getElem? (i := 12) rfl), rfl⟩
theorem tw_493 : (Jvm.Cond.methodLink "BasisWalkModel" (51 : Nat) ({ cls := "BasisWalkModel$Num", name := "small", desc := "(J)V" } : Jvm.MethodName)) ∈ tb_w := List.mem_filter.mpr ⟨tcg_24 _ (List.mem_of_getElem? (i := 13) rfl), rfl⟩
theorem tw_494 : (Jvm.Cond.instanceMethod ({ cls := "BasisWalkModel$Num", name := "small", desc := "(J)V" } : Jvm.MethodName)) ∈ tb_w := List.mem_filter.mpr ⟨tcg_24 _ (List.mem_of_getElem? (i := 14) rfl), rfl⟩
theorem tw_495 : (Jvm.Cond.selects "BasisWalkModel$Num" ({ cls := "BasisWalkModel$Num", name := "small", desc := "(J)V" } : Jvm.MethodName) ({ cls := "BasisWalkModel$Num", name := "small", desc := "(J)V" } : Jvm.MethodName)) ∈ tb_w := List.mem_filter.mpr ⟨tcg_24 _ (List.mem_of_getElem? (i := 15) rfl), rfl⟩
theorem tw_496 : (Jvm.Cond.code ({ cls := "BasisWalkModel$Num", name := "small", desc := "(J)V" } : Jvm.MethodName) prog_8_method_4_code (5 : Nat) (Option.none : Option Jvm.ClassFile.FieldType)) ∈ tb_w := List.mem_filter.mpr ⟨tcg_24 _ (List.mem_of_getElem? (i := 16) rfl), rfl⟩
theorem tw_497 : (Jvm.Cond.methodLink "BasisWalkModel$Num" (21 : Nat) ({ cls := "BasisWalkModel$Num", name := "zero", desc := "()V" } : Jvm.MethodName)) ∈ tb_w := List.mem_filter.mpr ⟨tcg_24 _ (List.mem_of_getElem? (i := 17) rfl), rfl⟩
theorem tw_498 : (Jvm.Cond.instanceMethod ({ cls := "BasisWalkModel$Num", name := "zero", desc := "()V" } : Jvm.MethodName)) ∈ tb_w := List.mem_filter.mpr ⟨tcg_24 _ (List.mem_of_getElem? (i := 18) rfl), rfl⟩
theorem tw_499 : (Jvm.Cond.selects "BasisWalkModel$Num" ({ cls := "BasisWalkModel$Num", name := "zero", desc := "()V" } : Jvm.MethodName) ({ cls := "BasisWalkModel$Num", name := "zero", desc := "()V" } : Jvm.MethodName)) ∈ tb_w := List.mem_filter.mpr ⟨tcg_24 _ (List.mem_of_getElem? (i := 19) rfl), rfl⟩
theorem tw_500 : (Jvm.Cond.code ({ cls := "BasisWalkModel$Num", name := "zero", desc := "()V" } : Jvm.MethodName) prog_8_method_2_code (1 : Nat) (Option.none : Option Jvm.ClassFile.FieldType)) ∈ tb_w := List.mem_filter.mpr ⟨tcg_25 _ (List.mem_of_getElem? (i := 0) rfl), rfl⟩
theorem tw_501 : (Jvm.Cond.constantLong "BasisWalkModel$Num" (24 : Nat) (65536 : Int64)) ∈ tb_w := List.mem_filter.mpr ⟨tcg_25 _ (List.mem_of_getElem? (i := 1) rfl), rfl⟩
theorem tw_502 : (Jvm.Cond.methodLink "BasisWalkModel" (213 : Nat) ({ cls := "BasisWalkModel", name := "reduce", desc := "()V" } : Jvm.MethodName)) ∈ tb_w := List.mem_filter.mpr ⟨tcg_25 _ (List.mem_of_getElem? (i := 2) rfl), rfl⟩
theorem tw_504 : (Jvm.Cond.instanceMethod ({ cls := "BasisWalkModel", name := "reduce", desc := "()V" } : Jvm.MethodName)) ∈ tb_w := List.mem_filter.mpr ⟨tcg_25 _ (List.mem_of_getElem? (i := 4) rfl), rfl⟩
theorem tw_505 : (Jvm.Cond.code ({ cls := "BasisWalkModel", name := "reduce", desc := "()V" } : Jvm.MethodName) prog_7_method_10_code (5 : Nat) (Option.none : Option Jvm.ClassFile.FieldType)) ∈ tb_w := List.mem_filter.mpr ⟨tcg_25 _ (List.mem_of_getElem? (i := 5) rfl), rfl⟩
theorem tw_506 : (Jvm.Cond.methodLink "BasisWalkModel" (96 : Nat) ({ cls := "BasisWalkModel", name := "isZero", desc := "(II)Z" } : Jvm.MethodName)) ∈ tb_w := List.mem_filter.mpr ⟨tcg_25 _ (List.mem_of_getElem? (i := 6) rfl), rfl⟩
theorem tw_508 : (Jvm.Cond.instanceMethod ({ cls := "BasisWalkModel", name := "isZero", desc := "(II)Z" } : Jvm.MethodName)) ∈ tb_w := List.mem_filter.mpr ⟨tcg_25 _ (List.mem_of_getElem? (i := 8) rfl), rfl⟩
theorem tw_509 : (Jvm.Cond.code ({ cls := "BasisWalkModel", name := "isZero", desc := "(II)Z" } : Jvm.MethodName) prog_7_method_5_code (3 : Nat) (Option.some Jvm.ClassFile.FieldType.boolean)) ∈ tb_w := List.mem_filter.mpr ⟨tcg_25 _ (List.mem_of_getElem? (i := 9) rfl), rfl⟩
theorem tw_510 : (Jvm.Cond.methodLink "BasisWalkModel" (100 : Nat) ({ cls := "BasisWalkModel", name := "swap", desc := "(II)V" } : Jvm.MethodName)) ∈ tb_w := List.mem_filter.mpr ⟨tcg_25 _ (List.mem_of_getElem? (i := 10) rfl), rfl⟩
theorem tw_512 : (Jvm.Cond.instanceMethod ({ cls := "BasisWalkModel", name := "swap", desc := "(II)V" } : Jvm.MethodName)) ∈ tb_w := List.mem_filter.mpr ⟨tcg_25 _ (List.mem_of_getElem? (i := 12) rfl), rfl⟩
theorem tw_513 : (Jvm.Cond.code ({ cls := "BasisWalkModel", name := "swap", desc := "(II)V" } : Jvm.MethodName) prog_7_method_6_code (5 : Nat) (Option.none : Option Jvm.ClassFile.FieldType)) ∈ tb_w := List.mem_filter.mpr ⟨tcg_25 _ (List.mem_of_getElem? (i := 13) rfl), rfl⟩
theorem tw_514 : (Jvm.Cond.methodLink "BasisWalkModel" (7 : Nat) ({ cls := "BasisWalkModel$Num", name := "copy", desc := "(LBasisWalkModel$Num;)V" } : Jvm.MethodName)) ∈ tb_w := List.mem_filter.mpr ⟨tcg_25 _ (List.mem_of_getElem? (i := 14) rfl), rfl⟩
theorem tw_515 : (Jvm.Cond.instanceMethod ({ cls := "BasisWalkModel$Num", name := "copy", desc := "(LBasisWalkModel$Num;)V" } : Jvm.MethodName)) ∈ tb_w := List.mem_filter.mpr ⟨tcg_25 _ (List.mem_of_getElem? (i := 15) rfl), rfl⟩
theorem tw_516 : (Jvm.Cond.selects "BasisWalkModel$Num" ({ cls := "BasisWalkModel$Num", name := "copy", desc := "(LBasisWalkModel$Num;)V" } : Jvm.MethodName) ({ cls := "BasisWalkModel$Num", name := "copy", desc := "(LBasisWalkModel$Num;)V" } : Jvm.MethodName)) ∈ tb_w := List.mem_filter.mpr ⟨tcg_25 _ (List.mem_of_getElem? (i := 16) rfl), rfl⟩
theorem tw_517 : (Jvm.Cond.code ({ cls := "BasisWalkModel$Num", name := "copy", desc := "(LBasisWalkModel$Num;)V" } : Jvm.MethodName) prog_8_method_3_code (3 : Nat) (Option.none : Option Jvm.ClassFile.FieldType)) ∈ tb_w := List.mem_filter.mpr ⟨tcg_25 _ (List.mem_of_getElem? (i := 17) rfl), rfl⟩
theorem tw_518 : (Jvm.Cond.methodLink "BasisWalkModel" (104 : Nat) ({ cls := "BasisWalkModel", name := "take", desc := "(III)V" } : Jvm.MethodName)) ∈ tb_w := List.mem_filter.mpr ⟨tcg_25 _ (List.mem_of_getElem? (i := 18) rfl), rfl⟩
theorem tw_520 : (Jvm.Cond.instanceMethod ({ cls := "BasisWalkModel", name := "take", desc := "(III)V" } : Jvm.MethodName)) ∈ tb_w := List.mem_filter.mpr ⟨tcg_26 _ (List.mem_of_getElem? (i := 0) rfl), rfl⟩
theorem tw_521 : (Jvm.Cond.code ({ cls := "BasisWalkModel", name := "take", desc := "(III)V" } : Jvm.MethodName) prog_7_method_8_code (7 : Nat) (Option.none : Option Jvm.ClassFile.FieldType)) ∈ tb_w := List.mem_filter.mpr ⟨tcg_26 _ (List.mem_of_getElem? (i := 1) rfl), rfl⟩
theorem tw_522 : (Jvm.Cond.methodLink "BasisWalkModel" (61 : Nat) ({ cls := "BasisWalkModel", name := "inverse", desc := "(I)I" } : Jvm.MethodName)) ∈ tb_w := List.mem_filter.mpr ⟨tcg_26 _ (List.mem_of_getElem? (i := 2) rfl), rfl⟩
theorem tw_524 : (Jvm.Cond.instanceMethod ({ cls := "BasisWalkModel", name := "inverse", desc := "(I)I" } : Jvm.MethodName)) ∈ tb_w := List.mem_filter.mpr ⟨tcg_26 _ (List.mem_of_getElem? (i := 4) rfl), rfl⟩
theorem tw_525 : (Jvm.Cond.code ({ cls := "BasisWalkModel", name := "inverse", desc := "(I)I" } : Jvm.MethodName) prog_7_method_7_code (3 : Nat) (Option.some Jvm.ClassFile.FieldType.int)) ∈ tb_w := List.mem_filter.mpr ⟨tcg_26 _ (List.mem_of_getElem? (i := 5) rfl), rfl⟩
theorem tw_526 : (Jvm.Cond.methodLink "BasisWalkModel" (71 : Nat) ({ cls := "BasisWalkModel$Num", name := "product", desc := "(LBasisWalkModel$Num;LBasisWalkModel$Num;)V" } : Jvm.MethodName)) ∈ tb_w := List.mem_filter.mpr ⟨tcg_26 _ (List.mem_of_getElem? (i := 6) rfl), rfl⟩
theorem tw_527 : (Jvm.Cond.instanceMethod ({ cls := "BasisWalkModel$Num", name := "product", desc := "(LBasisWalkModel$Num;LBasisWalkModel$Num;)V" } : Jvm.MethodName)) ∈ tb_w := List.mem_filter.mpr ⟨tcg_26 _ (List.mem_of_getElem? (i := 7) rfl), rfl⟩
theorem tw_528 : (Jvm.Cond.selects "BasisWalkModel$Num" ({ cls := "BasisWalkModel$Num", name := "product", desc := "(LBasisWalkModel$Num;LBasisWalkModel$Num;)V" } : Jvm.MethodName) ({ cls := "BasisWalkModel$Num", name := "product", desc := "(LBasisWalkModel$Num;LBasisWalkModel$Num;)V" } : Jvm.MethodName)) ∈ tb_w := List.mem_filter.mpr ⟨tcg_26 _ (List.mem_of_getElem? (i := 8) rfl), rfl⟩
theorem tw_529 : (Jvm.Cond.code ({ cls := "BasisWalkModel$Num", name := "product", desc := "(LBasisWalkModel$Num;LBasisWalkModel$Num;)V" } : Jvm.MethodName) prog_8_method_11_code (7 : Nat) (Option.none : Option Jvm.ClassFile.FieldType)) ∈ tb_w := List.mem_filter.mpr ⟨tcg_26 _ (List.mem_of_getElem? (i := 9) rfl), rfl⟩
theorem tw_530 : (Jvm.Cond.methodLink "BasisWalkModel$Num" (27 : Nat) ({ cls := "BasisWalkModel$Num", name := "trim", desc := "()V" } : Jvm.MethodName)) ∈ tb_w := List.mem_filter.mpr ⟨tcg_26 _ (List.mem_of_getElem? (i := 10) rfl), rfl⟩
theorem tw_531 : (Jvm.Cond.instanceMethod ({ cls := "BasisWalkModel$Num", name := "trim", desc := "()V" } : Jvm.MethodName)) ∈ tb_w := List.mem_filter.mpr ⟨tcg_26 _ (List.mem_of_getElem? (i := 11) rfl), rfl⟩
theorem tw_532 : (Jvm.Cond.selects "BasisWalkModel$Num" ({ cls := "BasisWalkModel$Num", name := "trim", desc := "()V" } : Jvm.MethodName) ({ cls := "BasisWalkModel$Num", name := "trim", desc := "()V" } : Jvm.MethodName)) ∈ tb_w := List.mem_filter.mpr ⟨tcg_26 _ (List.mem_of_getElem? (i := 12) rfl), rfl⟩
theorem tw_533 : (Jvm.Cond.code ({ cls := "BasisWalkModel$Num", name := "trim", desc := "()V" } : Jvm.MethodName) prog_8_method_8_code (1 : Nat) (Option.none : Option Jvm.ClassFile.FieldType)) ∈ tb_w := List.mem_filter.mpr ⟨tcg_26 _ (List.mem_of_getElem? (i := 13) rfl), rfl⟩
theorem tw_534 : (Jvm.Cond.methodLink "BasisWalkModel" (75 : Nat) ({ cls := "BasisWalkModel$Num", name := "less", desc := "(LBasisWalkModel$Num;LBasisWalkModel$Num;)V" } : Jvm.MethodName)) ∈ tb_w := List.mem_filter.mpr ⟨tcg_26 _ (List.mem_of_getElem? (i := 14) rfl), rfl⟩
theorem tw_535 : (Jvm.Cond.instanceMethod ({ cls := "BasisWalkModel$Num", name := "less", desc := "(LBasisWalkModel$Num;LBasisWalkModel$Num;)V" } : Jvm.MethodName)) ∈ tb_w := List.mem_filter.mpr ⟨tcg_26 _ (List.mem_of_getElem? (i := 15) rfl), rfl⟩
theorem tw_536 : (Jvm.Cond.selects "BasisWalkModel$Num" ({ cls := "BasisWalkModel$Num", name := "less", desc := "(LBasisWalkModel$Num;LBasisWalkModel$Num;)V" } : Jvm.MethodName) ({ cls := "BasisWalkModel$Num", name := "less", desc := "(LBasisWalkModel$Num;LBasisWalkModel$Num;)V" } : Jvm.MethodName)) ∈ tb_w := List.mem_filter.mpr ⟨tcg_26 _ (List.mem_of_getElem? (i := 16) rfl), rfl⟩
theorem tw_537 : (Jvm.Cond.code ({ cls := "BasisWalkModel$Num", name := "less", desc := "(LBasisWalkModel$Num;LBasisWalkModel$Num;)V" } : Jvm.MethodName) prog_8_method_10_code (10 : Nat) (Option.none : Option Jvm.ClassFile.FieldType)) ∈ tb_w := List.mem_filter.mpr ⟨tcg_26 _ (List.mem_of_getElem? (i := 17) rfl), rfl⟩
theorem tw_538 : (Jvm.Cond.constant "BasisWalkModel$Num" (26 : Nat) (65536 : Int32)) ∈ tb_w := List.mem_filter.mpr ⟨tcg_26 _ (List.mem_of_getElem? (i := 18) rfl), rfl⟩
theorem tw_539 : (Jvm.Cond.methodLink "BasisWalkModel$Num" (30 : Nat) ({ cls := "BasisWalkModel$Num", name := "compareSize", desc := "(LBasisWalkModel$Num;)I" } : Jvm.MethodName)) ∈ tb_w := List.mem_filter.mpr ⟨tcg_26 _ (List.mem_of_getElem? (i := 19) rfl), rfl⟩
theorem tw_540 : (Jvm.Cond.instanceMethod ({ cls := "BasisWalkModel$Num", name := "compareSize", desc := "(LBasisWalkModel$Num;)I" } : Jvm.MethodName)) ∈ tb_w := List.mem_filter.mpr ⟨tcg_27 _ (List.mem_of_getElem? (i := 0) rfl), rfl⟩
theorem tw_541 : (Jvm.Cond.selects "BasisWalkModel$Num" ({ cls := "BasisWalkModel$Num", name := "compareSize", desc := "(LBasisWalkModel$Num;)I" } : Jvm.MethodName) ({ cls := "BasisWalkModel$Num", name := "compareSize", desc := "(LBasisWalkModel$Num;)I" } : Jvm.MethodName)) ∈ tb_w := List.mem_filter.mpr ⟨tcg_27 _ (List.mem_of_getElem? (i := 1) rfl), rfl⟩
theorem tw_542 : (Jvm.Cond.code ({ cls := "BasisWalkModel$Num", name := "compareSize", desc := "(LBasisWalkModel$Num;)I" } : Jvm.MethodName) prog_8_method_9_code (3 : Nat) (Option.some Jvm.ClassFile.FieldType.int)) ∈ tb_w := List.mem_filter.mpr ⟨tcg_27 _ (List.mem_of_getElem? (i := 2) rfl), rfl⟩
theorem tw_543 : (Jvm.Cond.methodLink "BasisWalkModel" (78 : Nat) ({ cls := "BasisWalkModel", name := "shorten", desc := "(I)V" } : Jvm.MethodName)) ∈ tb_w := List.mem_filter.mpr ⟨tcg_27 _ (List.mem_of_getElem? (i := 3) rfl), rfl⟩
theorem tw_545 : (Jvm.Cond.instanceMethod ({ cls := "BasisWalkModel", name := "shorten", desc := "(I)V" } : Jvm.MethodName)) ∈ tb_w := List.mem_filter.mpr ⟨tcg_27 _ (List.mem_of_getElem? (i := 5) rfl), rfl⟩
theorem tw_546 : (Jvm.Cond.code ({ cls := "BasisWalkModel", name := "shorten", desc := "(I)V" } : Jvm.MethodName) prog_7_method_9_code (3 : Nat) (Option.none : Option Jvm.ClassFile.FieldType)) ∈ tb_w := List.mem_filter.mpr ⟨tcg_27 _ (List.mem_of_getElem? (i := 6) rfl), rfl⟩
theorem tw_547 : (Jvm.Cond.methodLink "BasisWalkModel" (85 : Nat) ({ cls := "BasisWalkModel$Num", name := "zero", desc := "()V" } : Jvm.MethodName)) ∈ tb_w := List.mem_filter.mpr ⟨tcg_27 _ (List.mem_of_getElem? (i := 7) rfl), rfl⟩
theorem tw_548 : (Jvm.Cond.methodLink "BasisWalkModel" (89 : Nat) ({ cls := "BasisWalkModel", name := "divisor", desc := "(LBasisWalkModel$Num;LBasisWalkModel$Num;)V" } : Jvm.MethodName)) ∈ tb_w := List.mem_filter.mpr ⟨tcg_27 _ (List.mem_of_getElem? (i := 8) rfl), rfl⟩
theorem tw_550 : (Jvm.Cond.instanceMethod ({ cls := "BasisWalkModel", name := "divisor", desc := "(LBasisWalkModel$Num;LBasisWalkModel$Num;)V" } : Jvm.MethodName)) ∈ tb_w := List.mem_filter.mpr ⟨tcg_27 _ (List.mem_of_getElem? (i := 10) rfl), rfl⟩
theorem tw_551 : (Jvm.Cond.code ({ cls := "BasisWalkModel", name := "divisor", desc := "(LBasisWalkModel$Num;LBasisWalkModel$Num;)V" } : Jvm.MethodName) prog_7_method_1_code (3 : Nat) (Option.none : Option Jvm.ClassFile.FieldType)) ∈ tb_w := List.mem_filter.mpr ⟨tcg_27 _ (List.mem_of_getElem? (i := 11) rfl), rfl⟩
theorem tw_552 : (Jvm.Cond.methodLink "BasisWalkModel" (30 : Nat) ({ cls := "BasisWalkModel$Num", name := "quotient", desc := "(LBasisWalkModel$Num;LBasisWalkModel$Num;LBasisWalkModel$Num;)V" } : Jvm.MethodName)) ∈ tb_w := List.mem_filter.mpr ⟨tcg_27 _ (List.mem_of_getElem? (i := 12) rfl), rfl⟩
theorem tw_553 : (Jvm.Cond.instanceMethod ({ cls := "BasisWalkModel$Num", name := "quotient", desc := "(LBasisWalkModel$Num;LBasisWalkModel$Num;LBasisWalkModel$Num;)V" } : Jvm.MethodName)) ∈ tb_w := List.mem_filter.mpr ⟨tcg_27 _ (List.mem_of_getElem? (i := 13) rfl), rfl⟩
theorem tw_554 : (Jvm.Cond.selects "BasisWalkModel$Num" ({ cls := "BasisWalkModel$Num", name := "quotient", desc := "(LBasisWalkModel$Num;LBasisWalkModel$Num;LBasisWalkModel$Num;)V" } : Jvm.MethodName) ({ cls := "BasisWalkModel$Num", name := "quotient", desc := "(LBasisWalkModel$Num;LBasisWalkModel$Num;LBasisWalkModel$Num;)V" } : Jvm.MethodName)) ∈ tb_w := List.mem_filter.mpr ⟨tcg_27 _ (List.mem_of_getElem? (i := 14) rfl), rfl⟩
theorem tw_555 : (Jvm.Cond.code ({ cls := "BasisWalkModel$Num", name := "quotient", desc := "(LBasisWalkModel$Num;LBasisWalkModel$Num;LBasisWalkModel$Num;)V" } : Jvm.MethodName) prog_8_method_12_code (6 : Nat) (Option.none : Option Jvm.ClassFile.FieldType)) ∈ tb_w := List.mem_filter.mpr ⟨tcg_27 _ (List.mem_of_getElem? (i := 15) rfl), rfl⟩
theorem tw_556 : (Jvm.Cond.methodLink "BasisWalkModel$Num" (34 : Nat) ({ cls := "BasisWalkModel$Num", name := "often", desc := "(LBasisWalkModel$Num;LBasisWalkModel$Num;)I" } : Jvm.MethodName)) ∈ tb_w := List.mem_filter.mpr ⟨tcg_27 _ (List.mem_of_getElem? (i := 16) rfl), rfl⟩
theorem tw_557 : (Jvm.Cond.static ({ cls := "BasisWalkModel$Num", name := "often", desc := "(LBasisWalkModel$Num;LBasisWalkModel$Num;)I" } : Jvm.MethodName)) ∈ tb_w := List.mem_filter.mpr ⟨tcg_27 _ (List.mem_of_getElem? (i := 17) rfl), rfl⟩
theorem tw_558 : (Jvm.Cond.code ({ cls := "BasisWalkModel$Num", name := "often", desc := "(LBasisWalkModel$Num;LBasisWalkModel$Num;)I" } : Jvm.MethodName) prog_8_method_13_code (9 : Nat) (Option.some Jvm.ClassFile.FieldType.int)) ∈ tb_w := List.mem_filter.mpr ⟨tcg_27 _ (List.mem_of_getElem? (i := 18) rfl), rfl⟩
theorem tw_559 : (Jvm.Cond.constant "BasisWalkModel$Num" (38 : Nat) (65535 : Int32)) ∈ tb_w := List.mem_filter.mpr ⟨tcg_27 _ (List.mem_of_getElem? (i := 19) rfl), rfl⟩
theorem tw_560 : (Jvm.Cond.methodLink "BasisWalkModel$Num" (39 : Nat) ({ cls := "BasisWalkModel$Num", name := "isAtMost", desc := "(LBasisWalkModel$Num;ILBasisWalkModel$Num;)Z" } : Jvm.MethodName)) ∈ tb_w := List.mem_filter.mpr ⟨tcg_28 _ (List.mem_of_getElem? (i := 0) rfl), rfl⟩
theorem tw_561 : (Jvm.Cond.static ({ cls := "BasisWalkModel$Num", name := "isAtMost", desc := "(LBasisWalkModel$Num;ILBasisWalkModel$Num;)Z" } : Jvm.MethodName)) ∈ tb_w := List.mem_filter.mpr ⟨tcg_28 _ (List.mem_of_getElem? (i := 1) rfl), rfl⟩
theorem tw_562 : (Jvm.Cond.code ({ cls := "BasisWalkModel$Num", name := "isAtMost", desc := "(LBasisWalkModel$Num;ILBasisWalkModel$Num;)Z" } : Jvm.MethodName) prog_8_method_14_code (8 : Nat) (Option.some Jvm.ClassFile.FieldType.boolean)) ∈ tb_w := List.mem_filter.mpr ⟨tcg_28 _ (List.mem_of_getElem? (i := 2) rfl), rfl⟩
theorem tw_563 : (Jvm.Cond.constantLong "BasisWalkModel$Num" (43 : Nat) (65535 : Int64)) ∈ tb_w := List.mem_filter.mpr ⟨tcg_28 _ (List.mem_of_getElem? (i := 3) rfl), rfl⟩
theorem tw_564 : (Jvm.Cond.methodLink "BasisWalkModel" (92 : Nat) ({ cls := "BasisWalkModel$Num", name := "isOne", desc := "()Z" } : Jvm.MethodName)) ∈ tb_w := List.mem_filter.mpr ⟨tcg_28 _ (List.mem_of_getElem? (i := 4) rfl), rfl⟩
theorem tw_565 : (Jvm.Cond.instanceMethod ({ cls := "BasisWalkModel$Num", name := "isOne", desc := "()Z" } : Jvm.MethodName)) ∈ tb_w := List.mem_filter.mpr ⟨tcg_28 _ (List.mem_of_getElem? (i := 5) rfl), rfl⟩
theorem tw_566 : (Jvm.Cond.selects "BasisWalkModel$Num" ({ cls := "BasisWalkModel$Num", name := "isOne", desc := "()Z" } : Jvm.MethodName) ({ cls := "BasisWalkModel$Num", name := "isOne", desc := "()Z" } : Jvm.MethodName)) ∈ tb_w := List.mem_filter.mpr ⟨tcg_28 _ (List.mem_of_getElem? (i := 6) rfl), rfl⟩
theorem tw_567 : (Jvm.Cond.code ({ cls := "BasisWalkModel$Num", name := "isOne", desc := "()Z" } : Jvm.MethodName) prog_8_method_5_code (1 : Nat) (Option.some Jvm.ClassFile.FieldType.boolean)) ∈ tb_w := List.mem_filter.mpr ⟨tcg_28 _ (List.mem_of_getElem? (i := 7) rfl), rfl⟩
theorem tw_568 : (Jvm.Cond.methodLink "BasisWalkModel" (111 : Nat) ({ cls := "BasisWalkModel", name := "settle", desc := "(I)V" } : Jvm.MethodName)) ∈ tb_w := List.mem_filter.mpr ⟨tcg_28 _ (List.mem_of_getElem? (i := 8) rfl), rfl⟩
theorem tw_570 : (Jvm.Cond.instanceMethod ({ cls := "BasisWalkModel", name := "settle", desc := "(I)V" } : Jvm.MethodName)) ∈ tb_w := List.mem_filter.mpr ⟨tcg_28 _ (List.mem_of_getElem? (i := 10) rfl), rfl⟩
theorem tw_571 : (Jvm.Cond.code ({ cls := "BasisWalkModel", name := "settle", desc := "(I)V" } : Jvm.MethodName) prog_7_method_11_code (4 : Nat) (Option.none : Option Jvm.ClassFile.FieldType)) ∈ tb_w := List.mem_filter.mpr ⟨tcg_28 _ (List.mem_of_getElem? (i := 11) rfl), rfl⟩
theorem tw_572 : (Jvm.Cond.methodLink "BasisWalkModel" (114 : Nat) ({ cls := "BasisWalkModel$Num", name := "turn", desc := "()V" } : Jvm.MethodName)) ∈ tb_w := List.mem_filter.mpr ⟨tcg_28 _ (List.mem_of_getElem? (i := 12) rfl), rfl⟩
theorem tw_573 : (Jvm.Cond.instanceMethod ({ cls := "BasisWalkModel$Num", name := "turn", desc := "()V" } : Jvm.MethodName)) ∈ tb_w := List.mem_filter.mpr ⟨tcg_28 _ (List.mem_of_getElem? (i := 13) rfl), rfl⟩
theorem tw_574 : (Jvm.Cond.selects "BasisWalkModel$Num" ({ cls := "BasisWalkModel$Num", name := "turn", desc := "()V" } : Jvm.MethodName) ({ cls := "BasisWalkModel$Num", name := "turn", desc := "()V" } : Jvm.MethodName)) ∈ tb_w := List.mem_filter.mpr ⟨tcg_28 _ (List.mem_of_getElem? (i := 14) rfl), rfl⟩
theorem tw_575 : (Jvm.Cond.code ({ cls := "BasisWalkModel$Num", name := "turn", desc := "()V" } : Jvm.MethodName) prog_8_method_7_code (1 : Nat) (Option.none : Option Jvm.ClassFile.FieldType)) ∈ tb_w := List.mem_filter.mpr ⟨tcg_28 _ (List.mem_of_getElem? (i := 15) rfl), rfl⟩
theorem tw_576 : (Jvm.Cond.methodLink "BasisWalkModel" (216 : Nat) ({ cls := "BasisWalkModel", name := "measure", desc := "(I)V" } : Jvm.MethodName)) ∈ tb_w := List.mem_filter.mpr ⟨tcg_28 _ (List.mem_of_getElem? (i := 16) rfl), rfl⟩
theorem tw_578 : (Jvm.Cond.instanceMethod ({ cls := "BasisWalkModel", name := "measure", desc := "(I)V" } : Jvm.MethodName)) ∈ tb_w := List.mem_filter.mpr ⟨tcg_28 _ (List.mem_of_getElem? (i := 18) rfl), rfl⟩
theorem tw_579 : (Jvm.Cond.code ({ cls := "BasisWalkModel", name := "measure", desc := "(I)V" } : Jvm.MethodName) prog_7_method_25_code (8 : Nat) (Option.none : Option Jvm.ClassFile.FieldType)) ∈ tb_w := List.mem_filter.mpr ⟨tcg_28 _ (List.mem_of_getElem? (i := 19) rfl), rfl⟩
theorem tw_580 : (Jvm.Cond.methodLink "BasisWalkModel" (219 : Nat) ({ cls := "BasisWalkModel", name := "minorOf", desc := "(I)I" } : Jvm.MethodName)) ∈ tb_w := List.mem_filter.mpr ⟨tcg_29 _ (List.mem_of_getElem? (i := 0) rfl), rfl⟩
theorem tw_582 : (Jvm.Cond.instanceMethod ({ cls := "BasisWalkModel", name := "minorOf", desc := "(I)I" } : Jvm.MethodName)) ∈ tb_w := List.mem_filter.mpr ⟨tcg_29 _ (List.mem_of_getElem? (i := 2) rfl), rfl⟩
theorem tw_583 : (Jvm.Cond.code ({ cls := "BasisWalkModel", name := "minorOf", desc := "(I)I" } : Jvm.MethodName) prog_7_method_12_code (7 : Nat) (Option.some Jvm.ClassFile.FieldType.int)) ∈ tb_w := List.mem_filter.mpr ⟨tcg_29 _ (List.mem_of_getElem? (i := 3) rfl), rfl⟩
theorem tw_584 : (Jvm.Cond.methodLink "BasisWalkModel" (123 : Nat) ({ cls := "BasisWalkModel", name := "placeOf", desc := "([III)I" } : Jvm.MethodName)) ∈ tb_w := List.mem_filter.mpr ⟨tcg_29 _ (List.mem_of_getElem? (i := 4) rfl), rfl⟩
theorem tw_585 : (Jvm.Cond.static ({ cls := "BasisWalkModel", name := "placeOf", desc := "([III)I" } : Jvm.MethodName)) ∈ tb_w := List.mem_filter.mpr ⟨tcg_29 _ (List.mem_of_getElem? (i := 5) rfl), rfl⟩
theorem tw_586 : (Jvm.Cond.code ({ cls := "BasisWalkModel", name := "placeOf", desc := "([III)I" } : Jvm.MethodName) prog_7_method_13_code (4 : Nat) (Option.some Jvm.ClassFile.FieldType.int)) ∈ tb_w := List.mem_filter.mpr ⟨tcg_29 _ (List.mem_of_getElem? (i := 6) rfl), rfl⟩
theorem tw_587 : (Jvm.Cond.methodLink "BasisWalkModel" (127 : Nat) ({ cls := "BasisWalkModel", name := "remove", desc := "([III)V" } : Jvm.MethodName)) ∈ tb_w := List.mem_filter.mpr ⟨tcg_29 _ (List.mem_of_getElem? (i := 7) rfl), rfl⟩
theorem tw_588 : (Jvm.Cond.static ({ cls := "BasisWalkModel", name := "remove", desc := "([III)V" } : Jvm.MethodName)) ∈ tb_w := List.mem_filter.mpr ⟨tcg_29 _ (List.mem_of_getElem? (i := 8) rfl), rfl⟩
theorem tw_589 : (Jvm.Cond.code ({ cls := "BasisWalkModel", name := "remove", desc := "([III)V" } : Jvm.MethodName) prog_7_method_14_code (4 : Nat) (Option.none : Option Jvm.ClassFile.FieldType)) ∈ tb_w := List.mem_filter.mpr ⟨tcg_29 _ (List.mem_of_getElem? (i := 9) rfl), rfl⟩
theorem tw_590 : (Jvm.Cond.methodLink "BasisWalkModel" (131 : Nat) ({ cls := "BasisWalkModel", name := "smallDeterminant", desc := "(I)I" } : Jvm.MethodName)) ∈ tb_w := List.mem_filter.mpr ⟨tcg_29 _ (List.mem_of_getElem? (i := 10) rfl), rfl⟩
theorem tw_592 : (Jvm.Cond.instanceMethod ({ cls := "BasisWalkModel", name := "smallDeterminant", desc := "(I)I" } : Jvm.MethodName)) ∈ tb_w := List.mem_filter.mpr ⟨tcg_29 _ (List.mem_of_getElem? (i := 12) rfl), rfl⟩
theorem tw_593 : (Jvm.Cond.code ({ cls := "BasisWalkModel", name := "smallDeterminant", desc := "(I)I" } : Jvm.MethodName) prog_7_method_15_code (8 : Nat) (Option.some Jvm.ClassFile.FieldType.int)) ∈ tb_w := List.mem_filter.mpr ⟨tcg_29 _ (List.mem_of_getElem? (i := 13) rfl), rfl⟩
theorem tw_594 : (Jvm.Cond.methodLink "BasisWalkModel" (134 : Nat) ({ cls := "BasisWalkModel", name := "determinant", desc := "(I)I" } : Jvm.MethodName)) ∈ tb_w := List.mem_filter.mpr ⟨tcg_29 _ (List.mem_of_getElem? (i := 14) rfl), rfl⟩
theorem tw_596 : (Jvm.Cond.instanceMethod ({ cls := "BasisWalkModel", name := "determinant", desc := "(I)I" } : Jvm.MethodName)) ∈ tb_w := List.mem_filter.mpr ⟨tcg_29 _ (List.mem_of_getElem? (i := 16) rfl), rfl⟩
theorem tw_597 : (Jvm.Cond.code ({ cls := "BasisWalkModel", name := "determinant", desc := "(I)I" } : Jvm.MethodName) prog_7_method_16_code (7 : Nat) (Option.some Jvm.ClassFile.FieldType.int)) ∈ tb_w := List.mem_filter.mpr ⟨tcg_29 _ (List.mem_of_getElem? (i := 17) rfl), rfl⟩
theorem tw_598 : (Jvm.Cond.methodLink "BasisWalkModel" (143 : Nat) ({ cls := "BasisWalkModel$Num", name := "sign", desc := "()I" } : Jvm.MethodName)) ∈ tb_w := List.mem_filter.mpr ⟨tcg_29 _ (List.mem_of_getElem? (i := 18) rfl), rfl⟩
theorem tw_599 : (Jvm.Cond.instanceMethod ({ cls := "BasisWalkModel$Num", name := "sign", desc := "()I" } : Jvm.MethodName)) ∈ tb_w := List.mem_filter.mpr ⟨tcg_29 _ (List.mem_of_getElem? (i := 19) rfl), rfl⟩
theorem tw_600 : (Jvm.Cond.selects "BasisWalkModel$Num" ({ cls := "BasisWalkModel$Num", name := "sign", desc := "()I" } : Jvm.MethodName) ({ cls := "BasisWalkModel$Num", name := "sign", desc := "()I" } : Jvm.MethodName)) ∈ tb_w := List.mem_filter.mpr ⟨tcg_30 _ (List.mem_of_getElem? (i := 0) rfl), rfl⟩
theorem tw_601 : (Jvm.Cond.code ({ cls := "BasisWalkModel$Num", name := "sign", desc := "()I" } : Jvm.MethodName) prog_8_method_6_code (1 : Nat) (Option.some Jvm.ClassFile.FieldType.int)) ∈ tb_w := List.mem_filter.mpr ⟨tcg_30 _ (List.mem_of_getElem? (i := 1) rfl), rfl⟩
theorem tw_602 : (Jvm.Cond.methodLink "BasisWalkModel" (226 : Nat) ({ cls := "BasisWalkModel", name := "whole", desc := "(I)I" } : Jvm.MethodName)) ∈ tb_w := List.mem_filter.mpr ⟨tcg_30 _ (List.mem_of_getElem? (i := 2) rfl), rfl⟩
theorem tw_604 : (Jvm.Cond.instanceMethod ({ cls := "BasisWalkModel", name := "whole", desc := "(I)I" } : Jvm.MethodName)) ∈ tb_w := List.mem_filter.mpr ⟨tcg_30 _ (List.mem_of_getElem? (i := 4) rfl), rfl⟩
theorem tw_605 : (Jvm.Cond.code ({ cls := "BasisWalkModel", name := "whole", desc := "(I)I" } : Jvm.MethodName) prog_7_method_27_code (2 : Nat) (Option.some Jvm.ClassFile.FieldType.int)) ∈ tb_w := List.mem_filter.mpr ⟨tcg_30 _ (List.mem_of_getElem? (i := 5) rfl), rfl⟩
theorem tw_606 : (Jvm.Cond.methodLink "BasisWalkModel" (222 : Nat) ({ cls := "BasisWalkModel", name := "\x72", desc := "(II)I" } : Jvm.MethodName)) ∈ tb_w := List.mem_filter.mpr ⟨tcg_30 _ (List.mem_of_getElem? (i := 6) rfl), rfl⟩
theorem tw_608 : (Jvm.Cond.instanceMethod ({ cls := "BasisWalkModel", name := "\x72", desc := "(II)I" } : Jvm.MethodName)) ∈ tb_w := List.mem_filter.mpr ⟨tcg_30 _ (List.mem_of_getElem? (i := 8) rfl), rfl⟩
theorem tw_609 : (Jvm.Cond.code ({ cls := "BasisWalkModel", name := "\x72", desc := "(II)I" } : Jvm.MethodName) prog_7_method_26_code (3 : Nat) (Option.some Jvm.ClassFile.FieldType.int)) ∈ tb_w := List.mem_filter.mpr ⟨tcg_30 _ (List.mem_of_getElem? (i := 9) rfl), rfl⟩
theorem tw_610 : (Jvm.Cond.methodLink "BasisWalkLaw" (35 : Nat) ({ cls := "BasisWalkModel", name := "count", desc := "(II)I" } : Jvm.MethodName)) ∈ tb_w := List.mem_filter.mpr ⟨tcg_30 _ (List.mem_of_getElem? (i := 10) rfl), rfl⟩
theorem tw_611 : (Jvm.Cond.instanceMethod ({ cls := "BasisWalkModel", name := "count", desc := "(II)I" } : Jvm.MethodName)) ∈ tb_w := List.mem_filter.mpr ⟨tcg_30 _ (List.mem_of_getElem? (i := 11) rfl), rfl⟩
theorem tw_612 : (Jvm.Cond.selects "BasisWalkModel" ({ cls := "BasisWalkModel", name := "count", desc := "(II)I" } : Jvm.MethodName) ({ cls := "BasisWalkModel", name := "count", desc := "(II)I" } : Jvm.MethodName)) ∈ tb_w := List.mem_filter.mpr ⟨tcg_30 _ (List.mem_of_getElem? (i := 12) rfl), rfl⟩
theorem tw_613 : (Jvm.Cond.code ({ cls := "BasisWalkModel", name := "count", desc := "(II)I" } : Jvm.MethodName) prog_7_method_41_code (3 : Nat) (Option.some Jvm.ClassFile.FieldType.int)) ∈ tb_w := List.mem_filter.mpr ⟨tcg_30 _ (List.mem_of_getElem? (i := 13) rfl), rfl⟩
theorem tw_614 : (Jvm.Cond.methodLink "BasisWalkModel" (257 : Nat) ({ cls := "BasisWalkModel", name := "howMany", desc := "(II)I" } : Jvm.MethodName)) ∈ tb_w := List.mem_filter.mpr ⟨tcg_30 _ (List.mem_of_getElem? (i := 14) rfl), rfl⟩
theorem tw_616 : (Jvm.Cond.instanceMethod ({ cls := "BasisWalkModel", name := "howMany", desc := "(II)I" } : Jvm.MethodName)) ∈ tb_w := List.mem_filter.mpr ⟨tcg_30 _ (List.mem_of_getElem? (i := 16) rfl), rfl⟩
theorem tw_617 : (Jvm.Cond.code ({ cls := "BasisWalkModel", name := "howMany", desc := "(II)I" } : Jvm.MethodName) prog_7_method_33_code (5 : Nat) (Option.some Jvm.ClassFile.FieldType.int)) ∈ tb_w := List.mem_filter.mpr ⟨tcg_30 _ (List.mem_of_getElem? (i := 17) rfl), rfl⟩
theorem tw_618 : (Jvm.Cond.methodLink "BasisWalkModel" (242 : Nat) ({ cls := "BasisWalkModel", name := "isOf", desc := "(III)Z" } : Jvm.MethodName)) ∈ tb_w := List.mem_filter.mpr ⟨tcg_30 _ (List.mem_of_getElem? (i := 18) rfl), rfl⟩
theorem tw_620 : (Jvm.Cond.instanceMethod ({ cls := "BasisWalkModel", name := "isOf", desc := "(III)Z" } : Jvm.MethodName)) ∈ tb_w := List.mem_filter.mpr ⟨tcg_31 _ (List.mem_of_getElem? (i := 0) rfl), rfl⟩
theorem tw_621 : (Jvm.Cond.code ({ cls := "BasisWalkModel", name := "isOf", desc := "(III)Z" } : Jvm.MethodName) prog_7_method_32_code (4 : Nat) (Option.some Jvm.ClassFile.FieldType.boolean)) ∈ tb_w := List.mem_filter.mpr ⟨tcg_31 _ (List.mem_of_getElem? (i := 1) rfl), rfl⟩
theorem tw_622 : (Jvm.Cond.methodLink "BasisWalkModel" (232 : Nat) ({ cls := "BasisWalkModel", name := "isFree", desc := "(II)Z" } : Jvm.MethodName)) ∈ tb_w := List.mem_filter.mpr ⟨tcg_31 _ (List.mem_of_getElem? (i := 2) rfl), rfl⟩
theorem tw_624 : (Jvm.Cond.instanceMethod ({ cls := "BasisWalkModel", name := "isFree", desc := "(II)Z" } : Jvm.MethodName)) ∈ tb_w := List.mem_filter.mpr ⟨tcg_31 _ (List.mem_of_getElem? (i := 4) rfl), rfl⟩
theorem tw_625 : (Jvm.Cond.code ({ cls := "BasisWalkModel", name := "isFree", desc := "(II)Z" } : Jvm.MethodName) prog_7_method_28_code (3 : Nat) (Option.some Jvm.ClassFile.FieldType.boolean)) ∈ tb_w := List.mem_filter.mpr ⟨tcg_31 _ (List.mem_of_getElem? (i := 5) rfl), rfl⟩
theorem tw_626 : (Jvm.Cond.methodLink "BasisWalkModel" (235 : Nat) ({ cls := "BasisWalkModel", name := "isFlat", desc := "(II)Z" } : Jvm.MethodName)) ∈ tb_w := List.mem_filter.mpr ⟨tcg_31 _ (List.mem_of_getElem? (i := 6) rfl), rfl⟩
theorem tw_628 : (Jvm.Cond.instanceMethod ({ cls := "BasisWalkModel", name := "isFlat", desc := "(II)Z" } : Jvm.MethodName)) ∈ tb_w := List.mem_filter.mpr ⟨tcg_31 _ (List.mem_of_getElem? (i := 8) rfl), rfl⟩
theorem tw_629 : (Jvm.Cond.code ({ cls := "BasisWalkModel", name := "isFlat", desc := "(II)Z" } : Jvm.MethodName) prog_7_method_31_code (5 : Nat) (Option.some Jvm.ClassFile.FieldType.boolean)) ∈ tb_w := List.mem_filter.mpr ⟨tcg_31 _ (List.mem_of_getElem? (i := 9) rfl), rfl⟩
theorem tw_630 : (Jvm.Cond.methodLink "BasisWalkModel" (238 : Nat) ({ cls := "BasisWalkModel", name := "isCircuit", desc := "(IIZ)Z" } : Jvm.MethodName)) ∈ tb_w := List.mem_filter.mpr ⟨tcg_31 _ (List.mem_of_getElem? (i := 10) rfl), rfl⟩
theorem tw_632 : (Jvm.Cond.instanceMethod ({ cls := "BasisWalkModel", name := "isCircuit", desc := "(IIZ)Z" } : Jvm.MethodName)) ∈ tb_w := List.mem_filter.mpr ⟨tcg_31 _ (List.mem_of_getElem? (i := 12) rfl), rfl⟩
theorem tw_633 : (Jvm.Cond.code ({ cls := "BasisWalkModel", name := "isCircuit", desc := "(IIZ)Z" } : Jvm.MethodName) prog_7_method_30_code (7 : Nat) (Option.some Jvm.ClassFile.FieldType.boolean)) ∈ tb_w := List.mem_filter.mpr ⟨tcg_31 _ (List.mem_of_getElem? (i := 13) rfl), rfl⟩
theorem tw_634 : (Jvm.Cond.methodLink "BasisWalkModel" (229 : Nat) ({ cls := "BasisWalkModel", name := "dualRank", desc := "(II)I" } : Jvm.MethodName)) ∈ tb_w := List.mem_filter.mpr ⟨tcg_31 _ (List.mem_of_getElem? (i := 14) rfl), rfl⟩
theorem tw_636 : (Jvm.Cond.instanceMethod ({ cls := "BasisWalkModel", name := "dualRank", desc := "(II)I" } : Jvm.MethodName)) ∈ tb_w := List.mem_filter.mpr ⟨tcg_31 _ (List.mem_of_getElem? (i := 16) rfl), rfl⟩
theorem tw_637 : (Jvm.Cond.code ({ cls := "BasisWalkModel", name := "dualRank", desc := "(II)I" } : Jvm.MethodName) prog_7_method_29_code (3 : Nat) (Option.some Jvm.ClassFile.FieldType.int)) ∈ tb_w := List.mem_filter.mpr ⟨tcg_31 _ (List.mem_of_getElem? (i := 17) rfl), rfl⟩
theorem tw_638 : (Jvm.Cond.methodLink "BasisWalkLaw" (40 : Nat) ({ cls := "BasisWalkModel", name := "member", desc := "(III)I" } : Jvm.MethodName)) ∈ tb_w := List.mem_filter.mpr ⟨tcg_31 _ (List.mem_of_getElem? (i := 18) rfl), rfl⟩
theorem tw_639 : (Jvm.Cond.instanceMethod ({ cls := "BasisWalkModel", name := "member", desc := "(III)I" } : Jvm.MethodName)) ∈ tb_w := List.mem_filter.mpr ⟨tcg_31 _ (List.mem_of_getElem? (i := 19) rfl), rfl⟩
theorem tw_640 : (Jvm.Cond.selects "BasisWalkModel" ({ cls := "BasisWalkModel", name := "member", desc := "(III)I" } : Jvm.MethodName) ({ cls := "BasisWalkModel", name := "member", desc := "(III)I" } : Jvm.MethodName)) ∈ tb_w := List.mem_filter.mpr ⟨tcg_32 _ (List.mem_of_getElem? (i := 0) rfl), rfl⟩
theorem tw_641 : (Jvm.Cond.code ({ cls := "BasisWalkModel", name := "member", desc := "(III)I" } : Jvm.MethodName) prog_7_method_42_code (4 : Nat) (Option.some Jvm.ClassFile.FieldType.int)) ∈ tb_w := List.mem_filter.mpr ⟨tcg_32 _ (List.mem_of_getElem? (i := 1) rfl), rfl⟩
theorem tw_642 : (Jvm.Cond.methodLink "BasisWalkModel" (260 : Nat) ({ cls := "BasisWalkModel", name := "theOne", desc := "(III)I" } : Jvm.MethodName)) ∈ tb_w := List.mem_filter.mpr ⟨tcg_32 _ (List.mem_of_getElem? (i := 2) rfl), rfl⟩
theorem tw_644 : (Jvm.Cond.instanceMethod ({ cls := "BasisWalkModel", name := "theOne", desc := "(III)I" } : Jvm.MethodName)) ∈ tb_w := List.mem_filter.mpr ⟨tcg_32 _ (List.mem_of_getElem? (i := 4) rfl), rfl⟩
theorem tw_645 : (Jvm.Cond.code ({ cls := "BasisWalkModel", name := "theOne", desc := "(III)I" } : Jvm.MethodName) prog_7_method_34_code (6 : Nat) (Option.some Jvm.ClassFile.FieldType.int)) ∈ tb_w := List.mem_filter.mpr ⟨tcg_32 _ (List.mem_of_getElem? (i := 5) rfl), rfl⟩
theorem tw_646 : (Jvm.Cond.methodLink "BasisWalkLaw" (45 : Nat) ({ cls := "BasisWalkModel", name := "tutte", desc := "(III)J" } : Jvm.MethodName)) ∈ tb_w := List.mem_filter.mpr ⟨tcg_32 _ (List.mem_of_getElem? (i := 6) rfl), rfl⟩
theorem tw_647 : (Jvm.Cond.instanceMethod ({ cls := "BasisWalkModel", name := "tutte", desc := "(III)J" } : Jvm.MethodName)) ∈ tb_w := List.mem_filter.mpr ⟨tcg_32 _ (List.mem_of_getElem? (i := 7) rfl), rfl⟩
theorem tw_648 : (Jvm.Cond.selects "BasisWalkModel" ({ cls := "BasisWalkModel", name := "tutte", desc := "(III)J" } : Jvm.MethodName) ({ cls := "BasisWalkModel", name := "tutte", desc := "(III)J" } : Jvm.MethodName)) ∈ tb_w := List.mem_filter.mpr ⟨tcg_32 _ (List.mem_of_getElem? (i := 8) rfl), rfl⟩
theorem tw_649 : (Jvm.Cond.code ({ cls := "BasisWalkModel", name := "tutte", desc := "(III)J" } : Jvm.MethodName) prog_7_method_43_code (4 : Nat) (Option.some Jvm.ClassFile.FieldType.long)) ∈ tb_w := List.mem_filter.mpr ⟨tcg_32 _ (List.mem_of_getElem? (i := 9) rfl), rfl⟩
theorem tw_650 : (Jvm.Cond.methodLink "BasisWalkModel" (263 : Nat) ({ cls := "BasisWalkModel", name := "polynomial", desc := "(I)V" } : Jvm.MethodName)) ∈ tb_w := List.mem_filter.mpr ⟨tcg_32 _ (List.mem_of_getElem? (i := 10) rfl), rfl⟩
theorem tw_652 : (Jvm.Cond.instanceMethod ({ cls := "BasisWalkModel", name := "polynomial", desc := "(I)V" } : Jvm.MethodName)) ∈ tb_w := List.mem_filter.mpr ⟨tcg_32 _ (List.mem_of_getElem? (i := 12) rfl), rfl⟩
theorem tw_653 : (Jvm.Cond.code ({ cls := "BasisWalkModel", name := "polynomial", desc := "(I)V" } : Jvm.MethodName) prog_7_method_35_code (9 : Nat) (Option.none : Option Jvm.ClassFile.FieldType)) ∈ tb_w := List.mem_filter.mpr ⟨tcg_32 _ (List.mem_of_getElem? (i := 13) rfl), rfl⟩
theorem tw_654 : (Jvm.Cond.methodLink "BasisWalkLaw" (49 : Nat) ({ cls := "BasisWalkModel", name := "sign", desc := "(II)I" } : Jvm.MethodName)) ∈ tb_w := List.mem_filter.mpr ⟨tcg_32 _ (List.mem_of_getElem? (i := 14) rfl), rfl⟩
theorem tw_655 : (Jvm.Cond.instanceMethod ({ cls := "BasisWalkModel", name := "sign", desc := "(II)I" } : Jvm.MethodName)) ∈ tb_w := List.mem_filter.mpr ⟨tcg_32 _ (List.mem_of_getElem? (i := 15) rfl), rfl⟩
theorem tw_656 : (Jvm.Cond.selects "BasisWalkModel" ({ cls := "BasisWalkModel", name := "sign", desc := "(II)I" } : Jvm.MethodName) ({ cls := "BasisWalkModel", name := "sign", desc := "(II)I" } : Jvm.MethodName)) ∈ tb_w := List.mem_filter.mpr ⟨tcg_32 _ (List.mem_of_getElem? (i := 16) rfl), rfl⟩
theorem tw_657 : (Jvm.Cond.code ({ cls := "BasisWalkModel", name := "sign", desc := "(II)I" } : Jvm.MethodName) prog_7_method_44_code (4 : Nat) (Option.some Jvm.ClassFile.FieldType.int)) ∈ tb_w := List.mem_filter.mpr ⟨tcg_32 _ (List.mem_of_getElem? (i := 17) rfl), rfl⟩
theorem tw_658 : (Jvm.Cond.methodLink "BasisWalkLaw" (53 : Nat) ({ cls := "BasisWalkModel", name := "below", desc := "(II)I" } : Jvm.MethodName)) ∈ tb_w := List.mem_filter.mpr ⟨tcg_32 _ (List.mem_of_getElem? (i := 18) rfl), rfl⟩
theorem tw_659 : (Jvm.Cond.instanceMethod ({ cls := "BasisWalkModel", name := "below", desc := "(II)I" } : Jvm.MethodName)) ∈ tb_w := List.mem_filter.mpr ⟨tcg_32 _ (List.mem_of_getElem? (i := 19) rfl), rfl⟩
theorem tw_660 : (Jvm.Cond.selects "BasisWalkModel" ({ cls := "BasisWalkModel", name := "below", desc := "(II)I" } : Jvm.MethodName) ({ cls := "BasisWalkModel", name := "below", desc := "(II)I" } : Jvm.MethodName)) ∈ tb_w := List.mem_filter.mpr ⟨tcg_33 _ (List.mem_of_getElem? (i := 0) rfl), rfl⟩
theorem tw_661 : (Jvm.Cond.code ({ cls := "BasisWalkModel", name := "below", desc := "(II)I" } : Jvm.MethodName) prog_7_method_45_code (4 : Nat) (Option.some Jvm.ClassFile.FieldType.int)) ∈ tb_w := List.mem_filter.mpr ⟨tcg_33 _ (List.mem_of_getElem? (i := 1) rfl), rfl⟩
theorem tw_662 : (Jvm.Cond.methodLink "BasisWalkModel" (266 : Nat) ({ cls := "BasisWalkModel", name := "belowOf", desc := "(II)I" } : Jvm.MethodName)) ∈ tb_w := List.mem_filter.mpr ⟨tcg_33 _ (List.mem_of_getElem? (i := 2) rfl), rfl⟩
theorem tw_664 : (Jvm.Cond.instanceMethod ({ cls := "BasisWalkModel", name := "belowOf", desc := "(II)I" } : Jvm.MethodName)) ∈ tb_w := List.mem_filter.mpr ⟨tcg_33 _ (List.mem_of_getElem? (i := 4) rfl), rfl⟩
theorem tw_665 : (Jvm.Cond.code ({ cls := "BasisWalkModel", name := "belowOf", desc := "(II)I" } : Jvm.MethodName) prog_7_method_37_code (11 : Nat) (Option.some Jvm.ClassFile.FieldType.int)) ∈ tb_w := List.mem_filter.mpr ⟨tcg_33 _ (List.mem_of_getElem? (i := 5) rfl), rfl⟩
theorem tw_666 : (Jvm.Cond.methodLink "BasisWalkModel" (246 : Nat) ({ cls := "BasisWalkModel", name := "determinantOf", desc := "(III)I" } : Jvm.MethodName)) ∈ tb_w := List.mem_filter.mpr ⟨tcg_33 _ (List.mem_of_getElem? (i := 6) rfl), rfl⟩
theorem tw_668 : (Jvm.Cond.instanceMethod ({ cls := "BasisWalkModel", name := "determinantOf", desc := "(III)I" } : Jvm.MethodName)) ∈ tb_w := List.mem_filter.mpr ⟨tcg_33 _ (List.mem_of_getElem? (i := 8) rfl), rfl⟩
theorem tw_669 : (Jvm.Cond.code ({ cls := "BasisWalkModel", name := "determinantOf", desc := "(III)I" } : Jvm.MethodName) prog_7_method_38_code (7 : Nat) (Option.some Jvm.ClassFile.FieldType.int)) ∈ tb_w := List.mem_filter.mpr ⟨tcg_33 _ (List.mem_of_getElem? (i := 9) rfl), rfl⟩
theorem tw_670 : (Jvm.Cond.methodLink "BasisWalkModel" (250 : Nat) ({ cls := "BasisWalkModel", name := "isEven", desc := "([II)Z" } : Jvm.MethodName)) ∈ tb_w := List.mem_filter.mpr ⟨tcg_33 _ (List.mem_of_getElem? (i := 10) rfl), rfl⟩
theorem tw_671 : (Jvm.Cond.static ({ cls := "BasisWalkModel", name := "isEven", desc := "([II)Z" } : Jvm.MethodName)) ∈ tb_w := List.mem_filter.mpr ⟨tcg_33 _ (List.mem_of_getElem? (i := 11) rfl), rfl⟩
theorem tw_672 : (Jvm.Cond.code ({ cls := "BasisWalkModel", name := "isEven", desc := "([II)Z" } : Jvm.MethodName) prog_7_method_36_code (5 : Nat) (Option.some Jvm.ClassFile.FieldType.boolean)) ∈ tb_w := List.mem_filter.mpr ⟨tcg_33 _ (List.mem_of_getElem? (i := 12) rfl), rfl⟩
theorem tp_0 : Cond.selects "BasisWalk" y_Bw_tableAt y_Bw_tableAt ∈ tb_w := tb_ip (i := 0) (by decide +kernel) (by decide +kernel)
theorem tp_1 : Cond.selects "BasisWalk" y_Bw_studyOf y_Bw_studyOf ∈ tb_w := tb_ip (i := 1) (by decide +kernel) (by decide +kernel)
theorem tp_2 : Cond.selects "BasisWalk$Order" y_Or_oneLess y_Or_oneLess ∈ tb_w := tb_ip (i := 2) (by decide +kernel) (by decide +kernel)
theorem tp_3 : Cond.selects "BasisWalk$Study" y_St_makeRoom y_St_makeRoom ∈ tb_w := tb_ip (i := 3) (by decide +kernel) (by decide +kernel)
theorem tp_4 : Cond.selects "BasisWalk$Study" y_St_takeRows y_St_takeRows ∈ tb_w := tb_ip (i := 4) (by decide +kernel) (by decide +kernel)
theorem tp_5 : Cond.selects "BasisWalk$Minors" y_Mi_expand y_Mi_expand ∈ tb_w := tb_ip (i := 5) (by decide +kernel) (by decide +kernel)
theorem tp_6 : Cond.selects "BasisWalk$Study" y_St_learnSigns y_St_learnSigns ∈ tb_w := tb_ip (i := 6) (by decide +kernel) (by decide +kernel)
theorem tp_7 : Cond.selects "BasisWalk$Study" y_St_markIndependent y_St_markIndependent ∈ tb_w := tb_ip (i := 7) (by decide +kernel) (by decide +kernel)
theorem tp_8 : Cond.selects "BasisWalk$Study" y_St_hasIndependentAbove y_St_hasIndependentAbove ∈ tb_w := tb_ip (i := 8) (by decide +kernel) (by decide +kernel)
theorem tp_9 : Cond.selects "BasisWalk$Study" y_St_learnRanks y_St_learnRanks ∈ tb_w := tb_ip (i := 9) (by decide +kernel) (by decide +kernel)
theorem tp_10 : Cond.selects "BasisWalk$Study" y_St_greatestRankUnder y_St_greatestRankUnder ∈ tb_w := tb_ip (i := 10) (by decide +kernel) (by decide +kernel)
theorem tp_11 : Cond.selects "BasisWalk$Study" y_St_learnDefects y_St_learnDefects ∈ tb_w := tb_ip (i := 11) (by decide +kernel) (by decide +kernel)
theorem tp_12 : Cond.selects "BasisWalk$Study" y_St_learnMembers y_St_learnMembers ∈ tb_w := tb_ip (i := 12) (by decide +kernel) (by decide +kernel)
theorem tp_13 : Cond.selects "BasisWalk$Study" y_St_isOfKind y_St_isOfKind ∈ tb_w := tb_ip (i := 13) (by decide +kernel) (by decide +kernel)
theorem tp_14 : Cond.selects "BasisWalk$Study" y_St_isCircuit y_St_isCircuit ∈ tb_w := tb_ip (i := 14) (by decide +kernel) (by decide +kernel)
theorem tp_15 : Cond.selects "BasisWalk$Study" y_St_isHyperplane y_St_isHyperplane ∈ tb_w := tb_ip (i := 15) (by decide +kernel) (by decide +kernel)
theorem tp_16 : Cond.selects "BasisWalk$Study" y_St_isFlat y_St_isFlat ∈ tb_w := tb_ip (i := 16) (by decide +kernel) (by decide +kernel)
theorem tp_17 : Cond.selects "BasisWalk$Study" y_St_widened y_St_widened ∈ tb_w := tb_ip (i := 17) (by decide +kernel) (by decide +kernel)
theorem tp_18 : Cond.selects "BasisWalkModel" y_Mo_list y_Mo_list ∈ tb_w := tb_ip (i := 18) (by decide +kernel) (by decide +kernel)
theorem tp_19 : Cond.selects "BasisWalkModel" y_Mo_learn y_Mo_learn ∈ tb_w := tb_ip (i := 19) (by decide +kernel) (by decide +kernel)
theorem tp_20 : Cond.selects "BasisWalkModel" y_Mo_empty y_Mo_empty ∈ tb_w := tb_ip (i := 20) (by decide +kernel) (by decide +kernel)
theorem tp_21 : Cond.selects "BasisWalkModel" y_Mo_lay y_Mo_lay ∈ tb_w := tb_ip (i := 21) (by decide +kernel) (by decide +kernel)
theorem tp_22 : Cond.selects "BasisWalkModel" y_Mo_at y_Mo_at ∈ tb_w := tb_ip (i := 22) (by decide +kernel) (by decide +kernel)
theorem tp_23 : Cond.selects "BasisWalkModel" y_Mo_reduce y_Mo_reduce ∈ tb_w := tb_ip (i := 23) (by decide +kernel) (by decide +kernel)
theorem tp_24 : Cond.selects "BasisWalkModel" y_Mo_isZero y_Mo_isZero ∈ tb_w := tb_ip (i := 24) (by decide +kernel) (by decide +kernel)
theorem tp_25 : Cond.selects "BasisWalkModel" y_Mo_swap y_Mo_swap ∈ tb_w := tb_ip (i := 25) (by decide +kernel) (by decide +kernel)
theorem tp_26 : Cond.selects "BasisWalkModel" y_Mo_take y_Mo_take ∈ tb_w := tb_ip (i := 26) (by decide +kernel) (by decide +kernel)
theorem tp_27 : Cond.selects "BasisWalkModel" y_Mo_inverse y_Mo_inverse ∈ tb_w := tb_ip (i := 27) (by decide +kernel) (by decide +kernel)
theorem tp_28 : Cond.selects "BasisWalkModel" y_Mo_shorten y_Mo_shorten ∈ tb_w := tb_ip (i := 28) (by decide +kernel) (by decide +kernel)
theorem tp_29 : Cond.selects "BasisWalkModel" y_Mo_divisor y_Mo_divisor ∈ tb_w := tb_ip (i := 29) (by decide +kernel) (by decide +kernel)
theorem tp_30 : Cond.selects "BasisWalkModel" y_Mo_settle y_Mo_settle ∈ tb_w := tb_ip (i := 30) (by decide +kernel) (by decide +kernel)
theorem tp_31 : Cond.selects "BasisWalkModel" y_Mo_measure y_Mo_measure ∈ tb_w := tb_ip (i := 31) (by decide +kernel) (by decide +kernel)
theorem tp_32 : Cond.selects "BasisWalkModel" y_Mo_minorOf y_Mo_minorOf ∈ tb_w := tb_ip (i := 32) (by decide +kernel) (by decide +kernel)
theorem tp_33 : Cond.selects "BasisWalkModel" y_Mo_smallDeterminant y_Mo_smallDeterminant ∈ tb_w := tb_ip (i := 33) (by decide +kernel) (by decide +kernel)
theorem tp_34 : Cond.selects "BasisWalkModel" y_Mo_determinant y_Mo_determinant ∈ tb_w := tb_ip (i := 34) (by decide +kernel) (by decide +kernel)
theorem tp_35 : Cond.selects "BasisWalkModel" y_Mo_whole y_Mo_whole ∈ tb_w := tb_ip (i := 35) (by decide +kernel) (by decide +kernel)
theorem tp_36 : Cond.selects "BasisWalkModel" y_Mo_r y_Mo_r ∈ tb_w := tb_ip (i := 36) (by decide +kernel) (by decide +kernel)
theorem tp_37 : Cond.selects "BasisWalkModel" y_Mo_howMany y_Mo_howMany ∈ tb_w := tb_ip (i := 37) (by decide +kernel) (by decide +kernel)
theorem tp_38 : Cond.selects "BasisWalkModel" y_Mo_isOf y_Mo_isOf ∈ tb_w := tb_ip (i := 38) (by decide +kernel) (by decide +kernel)
theorem tp_39 : Cond.selects "BasisWalkModel" y_Mo_isFree y_Mo_isFree ∈ tb_w := tb_ip (i := 39) (by decide +kernel) (by decide +kernel)
theorem tp_40 : Cond.selects "BasisWalkModel" y_Mo_isFlat y_Mo_isFlat ∈ tb_w := tb_ip (i := 40) (by decide +kernel) (by decide +kernel)
theorem tp_41 : Cond.selects "BasisWalkModel" y_Mo_isCircuit y_Mo_isCircuit ∈ tb_w := tb_ip (i := 41) (by decide +kernel) (by decide +kernel)
theorem tp_42 : Cond.selects "BasisWalkModel" y_Mo_dualRank y_Mo_dualRank ∈ tb_w := tb_ip (i := 42) (by decide +kernel) (by decide +kernel)
theorem tp_43 : Cond.selects "BasisWalkModel" y_Mo_theOne y_Mo_theOne ∈ tb_w := tb_ip (i := 43) (by decide +kernel) (by decide +kernel)
theorem tp_44 : Cond.selects "BasisWalkModel" y_Mo_polynomial y_Mo_polynomial ∈ tb_w := tb_ip (i := 44) (by decide +kernel) (by decide +kernel)
theorem tp_45 : Cond.selects "BasisWalkModel" y_Mo_belowOf y_Mo_belowOf ∈ tb_w := tb_ip (i := 45) (by decide +kernel) (by decide +kernel)
theorem tp_46 : Cond.selects "BasisWalkModel" y_Mo_determinantOf y_Mo_determinantOf ∈ tb_w := tb_ip (i := 46) (by decide +kernel) (by decide +kernel)
end
section
def ck_F : Nat := 100000
def ck_in {R : Type} (i : Int32) (n : Nat) (k : Option R) : Option R := if (i < 0 ∨ n ≤ i.toNatClampNeg) then none else k
theorem ck_in_s {R : Type} {i : Int32} {n : Nat} {k : Option R} {r : R} (h : ck_in i n k = some r) : vp_in i n ∧ k = some r := by
  unfold ck_in at h
  by_cases hc : (i < 0 ∨ n ≤ i.toNatClampNeg)
  · rw [if_pos hc] at h; cases h
  · rw [if_neg hc] at h; exact ⟨hc, h⟩
def ck_nz {R : Type} (y : Int32) (k : Option R) : Option R := if y = 0 then none else k
theorem ck_nz_s {R : Type} {y : Int32} {k : Option R} {r : R} (h : ck_nz y k = some r) : ¬ y = 0 ∧ k = some r := by
  unfold ck_nz at h
  by_cases hc : y = 0
  · rw [if_pos hc] at h; cases h
  · rw [if_neg hc] at h; exact ⟨hc, h⟩
def ck_nzL {R : Type} (y : Int64) (k : Option R) : Option R := if y = 0 then none else k
theorem ck_nzL_s {R : Type} {y : Int64} {k : Option R} {r : R} (h : ck_nzL y k = some r) : ¬ y = 0 ∧ k = some r := by
  unfold ck_nzL at h
  by_cases hc : y = 0
  · rw [if_pos hc] at h; cases h
  · rw [if_neg hc] at h; exact ⟨hc, h⟩
/-- a check of the writer's own (room, ranges of booleans) -/
def ck_p {R : Type} (c : Prop) [Decidable c] (k : Option R) : Option R := if c then k else none
theorem ck_p_s {R : Type} {c : Prop} [Decidable c] {k : Option R} {r : R} (h : ck_p c k = some r) : c ∧ k = some r := by
  unfold ck_p at h
  by_cases hc : c
  · rw [if_pos hc] at h; exact ⟨hc, h⟩
  · rw [if_neg hc] at h; cases h
def ck_z {R : Type} (x : Int32) (k : Option R) : Option R := if x = 0 ∨ x = 1 then k else none
theorem ck_z_s {R : Type} {x : Int32} {k : Option R} {r : R} (h : ck_z x k = some r) : narrow .boolean (.int x) = .int x ∧ k = some r := by
  unfold ck_z at h
  by_cases hc : x = 0 ∨ x = 1
  · rw [if_pos hc] at h; exact ⟨by rcases hc with rfl | rfl <;> rfl, h⟩
  · rw [if_neg hc] at h; cases h
def ck_nm {α R : Type} (x : α) (k : α → Option R) : Option R := k x
theorem ck_nm_s {α R : Type} {x : α} {k : α → Option R} {r : R} (h : ck_nm x k = some r) {y : α} (e : y = x) : k y = some r := by subst e; exact h
def ck_if {R : Type} (c : Prop) [Decidable c] (a b : Option R) : Option R := if c then a else b
theorem ck_if_t {R : Type} {c : Prop} [Decidable c] {a b : Option R} {r : R} (h : ck_if c a b = some r) (hc : c) : a = some r := by unfold ck_if at h; rwa [if_pos hc] at h
theorem ck_if_f {R : Type} {c : Prop} [Decidable c] {a b : Option R} {r : R} (h : ck_if c a b = some r) (hc : ¬ c) : b = some r := by unfold ck_if at h; rwa [if_neg hc] at h
def ck_jn {K R : Type} (k : K) (f : K → Option R) : Option R := f k
theorem ck_jn_W {K R : Type} {k : K} {f : K → Option R} {r : R} {G : Prop} (h : ck_jn k f = some r) (C : K → Prop) (hk : C k) (hf : ∀ k', C k' → f k' = some r → G) : G := hf k hk h
def ck_b0 {R : Type} (o : Option Unit) (k : Option R) : Option R := match o with
  | none => none
  | some _ => k
theorem ck_b0_s {R : Type} {o : Option Unit} {k : Option R} {r : R} (h : ck_b0 o k = some r) : o = some () ∧ k = some r := by
  cases o with
  | none => cases h
  | some u => exact ⟨rfl, h⟩
/-- the pure reading: o answers, and its answer has Q -/
def ok {R : Type} (o : Option R) (Q : R → Prop) : Prop := ∃ r, o = some r ∧ Q r
theorem ok_some {R : Type} {r : R} {Q : R → Prop} (h : Q r) : ok (some r) Q := ⟨r, rfl, h⟩
theorem ok_mono {R : Type} {o : Option R} {Q Q' : R → Prop} (h : ok o Q) (hq : ∀ r, Q r → Q' r) : ok o Q' := by
  obtain ⟨r, e, q⟩ := h; exact ⟨r, e, hq r q⟩
theorem ok_in {R : Type} {i : Int32} {n : Nat} {k : Option R} {Q : R → Prop} (hi : vp_in i n) (h : ok k Q) : ok (ck_in i n k) Q := by
  unfold ck_in; rw [if_neg hi]; exact h
theorem ok_nz {R : Type} {y : Int32} {k : Option R} {Q : R → Prop} (hy : ¬ y = 0) (h : ok k Q) : ok (ck_nz y k) Q := by
  unfold ck_nz; rw [if_neg hy]; exact h
theorem ok_nzL {R : Type} {y : Int64} {k : Option R} {Q : R → Prop} (hy : ¬ y = 0) (h : ok k Q) : ok (ck_nzL y k) Q := by
  unfold ck_nzL; rw [if_neg hy]; exact h
theorem ok_p {R : Type} {c : Prop} [Decidable c] {k : Option R} {Q : R → Prop} (hc : c) (h : ok k Q) : ok (ck_p c k) Q := by
  unfold ck_p; rw [if_pos hc]; exact h
theorem ok_z {R : Type} {x : Int32} {k : Option R} {Q : R → Prop} (hx : x = 0 ∨ x = 1) (h : ok k Q) : ok (ck_z x k) Q := by
  unfold ck_z; rw [if_pos hx]; exact h
theorem ok_nm {α R : Type} {x : α} {k : α → Option R} {Q : R → Prop} (h : ∀ y, y = x → ok (k y) Q) : ok (ck_nm x k) Q := h x rfl
theorem ok_nmr {α R : Type} {x : α} {k : α → Option R} {Q : R → Prop} (y : α) (e : x = y) (h : ok (k y) Q) : ok (ck_nm x k) Q := by subst e; exact h
theorem ok_if {R : Type} {c : Prop} [Decidable c] {a b : Option R} {Q : R → Prop} (ha : c → ok a Q) (hb : ¬ c → ok b Q) : ok (ck_if c a b) Q := by
  unfold ck_if
  by_cases hc : c
  · rw [if_pos hc]; exact ha hc
  · rw [if_neg hc]; exact hb hc
theorem ok_jn {K R : Type} {k : K} {f : K → Option R} {Q : R → Prop} (C : K → Prop) (hk : C k) (hf : ∀ k', C k' → ok (f k') Q) : ok (ck_jn k f) Q := hf k hk
theorem ok_b0 {R : Type} {o : Option Unit} {k : Option R} {Q : R → Prop} {Q1 : Unit → Prop} (ho : ok o Q1) (h : ok k Q) : ok (ck_b0 o k) Q := by
  obtain ⟨u, e, _⟩ := ho; subst e; exact h
def ck_b1 {A1 R : Type} (o : Option (A1)) (k : A1 → Option R) : Option R := match o with
  | none => none
  | some a1 => k a1
theorem ck_b1_s {A1 R : Type} {o : Option (A1)} {k : A1 → Option R} {r : R} (h : ck_b1 o k = some r) : ∃ (a1 : A1), o = some a1 ∧ k a1 = some r := by
  cases o with
  | none => cases h
  | some u => obtain ⟨a1, rfl⟩ := (⟨u, rfl⟩ : ∃ z, z = u); exact ⟨a1, rfl, h⟩
theorem ok_b1 {A1 R : Type} {o : Option (A1)} {k : A1 → Option R} {Q : R → Prop} {Q1 : A1 → Prop} (ho : ok o Q1) (h : ∀ (a1 : A1), Q1 a1 → ok (k a1) Q) : ok (ck_b1 o k) Q := by
  obtain ⟨u, e, q⟩ := ho; subst e
  exact h u q
def ck_b2 {A1 A2 R : Type} (o : Option (A1 × A2)) (k : A1 → A2 → Option R) : Option R := match o with
  | none => none
  | some (a1, a2) => k a1 a2
theorem ck_b2_s {A1 A2 R : Type} {o : Option (A1 × A2)} {k : A1 → A2 → Option R} {r : R} (h : ck_b2 o k = some r) : ∃ (a1 : A1) (a2 : A2), o = some (a1, a2) ∧ k a1 a2 = some r := by
  cases o with
  | none => cases h
  | some u => obtain ⟨a1, a2⟩ := u; exact ⟨a1, a2, rfl, h⟩
theorem ok_b2 {A1 A2 R : Type} {o : Option (A1 × A2)} {k : A1 → A2 → Option R} {Q : R → Prop} {Q1 : A1 × A2 → Prop} (ho : ok o Q1) (h : ∀ (a1 : A1) (a2 : A2), Q1 (a1, a2) → ok (k a1 a2) Q) : ok (ck_b2 o k) Q := by
  obtain ⟨u, e, q⟩ := ho; subst e
  exact h u.1 u.2 q
def ck_b3 {A1 A2 A3 R : Type} (o : Option (A1 × A2 × A3)) (k : A1 → A2 → A3 → Option R) : Option R := match o with
  | none => none
  | some (a1, a2, a3) => k a1 a2 a3
theorem ck_b3_s {A1 A2 A3 R : Type} {o : Option (A1 × A2 × A3)} {k : A1 → A2 → A3 → Option R} {r : R} (h : ck_b3 o k = some r) : ∃ (a1 : A1) (a2 : A2) (a3 : A3), o = some (a1, a2, a3) ∧ k a1 a2 a3 = some r := by
  cases o with
  | none => cases h
  | some u => obtain ⟨a1, a2, a3⟩ := u; exact ⟨a1, a2, a3, rfl, h⟩
theorem ok_b3 {A1 A2 A3 R : Type} {o : Option (A1 × A2 × A3)} {k : A1 → A2 → A3 → Option R} {Q : R → Prop} {Q1 : A1 × A2 × A3 → Prop} (ho : ok o Q1) (h : ∀ (a1 : A1) (a2 : A2) (a3 : A3), Q1 (a1, a2, a3) → ok (k a1 a2 a3) Q) : ok (ck_b3 o k) Q := by
  obtain ⟨u, e, q⟩ := ho; subst e
  exact h u.1 u.2.1 u.2.2 q
def ck_b4 {A1 A2 A3 A4 R : Type} (o : Option (A1 × A2 × A3 × A4)) (k : A1 → A2 → A3 → A4 → Option R) : Option R := match o with
  | none => none
  | some (a1, a2, a3, a4) => k a1 a2 a3 a4
theorem ck_b4_s {A1 A2 A3 A4 R : Type} {o : Option (A1 × A2 × A3 × A4)} {k : A1 → A2 → A3 → A4 → Option R} {r : R} (h : ck_b4 o k = some r) : ∃ (a1 : A1) (a2 : A2) (a3 : A3) (a4 : A4), o = some (a1, a2, a3, a4) ∧ k a1 a2 a3 a4 = some r := by
  cases o with
  | none => cases h
  | some u => obtain ⟨a1, a2, a3, a4⟩ := u; exact ⟨a1, a2, a3, a4, rfl, h⟩
theorem ok_b4 {A1 A2 A3 A4 R : Type} {o : Option (A1 × A2 × A3 × A4)} {k : A1 → A2 → A3 → A4 → Option R} {Q : R → Prop} {Q1 : A1 × A2 × A3 × A4 → Prop} (ho : ok o Q1) (h : ∀ (a1 : A1) (a2 : A2) (a3 : A3) (a4 : A4), Q1 (a1, a2, a3, a4) → ok (k a1 a2 a3 a4) Q) : ok (ck_b4 o k) Q := by
  obtain ⟨u, e, q⟩ := ho; subst e
  exact h u.1 u.2.1 u.2.2.1 u.2.2.2 q
def ck_b5 {A1 A2 A3 A4 A5 R : Type} (o : Option (A1 × A2 × A3 × A4 × A5)) (k : A1 → A2 → A3 → A4 → A5 → Option R) : Option R := match o with
  | none => none
  | some (a1, a2, a3, a4, a5) => k a1 a2 a3 a4 a5
theorem ck_b5_s {A1 A2 A3 A4 A5 R : Type} {o : Option (A1 × A2 × A3 × A4 × A5)} {k : A1 → A2 → A3 → A4 → A5 → Option R} {r : R} (h : ck_b5 o k = some r) : ∃ (a1 : A1) (a2 : A2) (a3 : A3) (a4 : A4) (a5 : A5), o = some (a1, a2, a3, a4, a5) ∧ k a1 a2 a3 a4 a5 = some r := by
  cases o with
  | none => cases h
  | some u => obtain ⟨a1, a2, a3, a4, a5⟩ := u; exact ⟨a1, a2, a3, a4, a5, rfl, h⟩
theorem ok_b5 {A1 A2 A3 A4 A5 R : Type} {o : Option (A1 × A2 × A3 × A4 × A5)} {k : A1 → A2 → A3 → A4 → A5 → Option R} {Q : R → Prop} {Q1 : A1 × A2 × A3 × A4 × A5 → Prop} (ho : ok o Q1) (h : ∀ (a1 : A1) (a2 : A2) (a3 : A3) (a4 : A4) (a5 : A5), Q1 (a1, a2, a3, a4, a5) → ok (k a1 a2 a3 a4 a5) Q) : ok (ck_b5 o k) Q := by
  obtain ⟨u, e, q⟩ := ho; subst e
  exact h u.1 u.2.1 u.2.2.1 u.2.2.2.1 u.2.2.2.2 q
def ck_b6 {A1 A2 A3 A4 A5 A6 R : Type} (o : Option (A1 × A2 × A3 × A4 × A5 × A6)) (k : A1 → A2 → A3 → A4 → A5 → A6 → Option R) : Option R := match o with
  | none => none
  | some (a1, a2, a3, a4, a5, a6) => k a1 a2 a3 a4 a5 a6
theorem ck_b6_s {A1 A2 A3 A4 A5 A6 R : Type} {o : Option (A1 × A2 × A3 × A4 × A5 × A6)} {k : A1 → A2 → A3 → A4 → A5 → A6 → Option R} {r : R} (h : ck_b6 o k = some r) : ∃ (a1 : A1) (a2 : A2) (a3 : A3) (a4 : A4) (a5 : A5) (a6 : A6), o = some (a1, a2, a3, a4, a5, a6) ∧ k a1 a2 a3 a4 a5 a6 = some r := by
  cases o with
  | none => cases h
  | some u => obtain ⟨a1, a2, a3, a4, a5, a6⟩ := u; exact ⟨a1, a2, a3, a4, a5, a6, rfl, h⟩
theorem ok_b6 {A1 A2 A3 A4 A5 A6 R : Type} {o : Option (A1 × A2 × A3 × A4 × A5 × A6)} {k : A1 → A2 → A3 → A4 → A5 → A6 → Option R} {Q : R → Prop} {Q1 : A1 × A2 × A3 × A4 × A5 × A6 → Prop} (ho : ok o Q1) (h : ∀ (a1 : A1) (a2 : A2) (a3 : A3) (a4 : A4) (a5 : A5) (a6 : A6), Q1 (a1, a2, a3, a4, a5, a6) → ok (k a1 a2 a3 a4 a5 a6) Q) : ok (ck_b6 o k) Q := by
  obtain ⟨u, e, q⟩ := ho; subst e
  exact h u.1 u.2.1 u.2.2.1 u.2.2.2.1 u.2.2.2.2.1 u.2.2.2.2.2 q
def ck_b7 {A1 A2 A3 A4 A5 A6 A7 R : Type} (o : Option (A1 × A2 × A3 × A4 × A5 × A6 × A7)) (k : A1 → A2 → A3 → A4 → A5 → A6 → A7 → Option R) : Option R := match o with
  | none => none
  | some (a1, a2, a3, a4, a5, a6, a7) => k a1 a2 a3 a4 a5 a6 a7
theorem ck_b7_s {A1 A2 A3 A4 A5 A6 A7 R : Type} {o : Option (A1 × A2 × A3 × A4 × A5 × A6 × A7)} {k : A1 → A2 → A3 → A4 → A5 → A6 → A7 → Option R} {r : R} (h : ck_b7 o k = some r) : ∃ (a1 : A1) (a2 : A2) (a3 : A3) (a4 : A4) (a5 : A5) (a6 : A6) (a7 : A7), o = some (a1, a2, a3, a4, a5, a6, a7) ∧ k a1 a2 a3 a4 a5 a6 a7 = some r := by
  cases o with
  | none => cases h
  | some u => obtain ⟨a1, a2, a3, a4, a5, a6, a7⟩ := u; exact ⟨a1, a2, a3, a4, a5, a6, a7, rfl, h⟩
theorem ok_b7 {A1 A2 A3 A4 A5 A6 A7 R : Type} {o : Option (A1 × A2 × A3 × A4 × A5 × A6 × A7)} {k : A1 → A2 → A3 → A4 → A5 → A6 → A7 → Option R} {Q : R → Prop} {Q1 : A1 × A2 × A3 × A4 × A5 × A6 × A7 → Prop} (ho : ok o Q1) (h : ∀ (a1 : A1) (a2 : A2) (a3 : A3) (a4 : A4) (a5 : A5) (a6 : A6) (a7 : A7), Q1 (a1, a2, a3, a4, a5, a6, a7) → ok (k a1 a2 a3 a4 a5 a6 a7) Q) : ok (ck_b7 o k) Q := by
  obtain ⟨u, e, q⟩ := ho; subst e
  exact h u.1 u.2.1 u.2.2.1 u.2.2.2.1 u.2.2.2.2.1 u.2.2.2.2.2.1 u.2.2.2.2.2.2 q
def ck_b8 {A1 A2 A3 A4 A5 A6 A7 A8 R : Type} (o : Option (A1 × A2 × A3 × A4 × A5 × A6 × A7 × A8)) (k : A1 → A2 → A3 → A4 → A5 → A6 → A7 → A8 → Option R) : Option R := match o with
  | none => none
  | some (a1, a2, a3, a4, a5, a6, a7, a8) => k a1 a2 a3 a4 a5 a6 a7 a8
theorem ck_b8_s {A1 A2 A3 A4 A5 A6 A7 A8 R : Type} {o : Option (A1 × A2 × A3 × A4 × A5 × A6 × A7 × A8)} {k : A1 → A2 → A3 → A4 → A5 → A6 → A7 → A8 → Option R} {r : R} (h : ck_b8 o k = some r) : ∃ (a1 : A1) (a2 : A2) (a3 : A3) (a4 : A4) (a5 : A5) (a6 : A6) (a7 : A7) (a8 : A8), o = some (a1, a2, a3, a4, a5, a6, a7, a8) ∧ k a1 a2 a3 a4 a5 a6 a7 a8 = some r := by
  cases o with
  | none => cases h
  | some u => obtain ⟨a1, a2, a3, a4, a5, a6, a7, a8⟩ := u; exact ⟨a1, a2, a3, a4, a5, a6, a7, a8, rfl, h⟩
theorem ok_b8 {A1 A2 A3 A4 A5 A6 A7 A8 R : Type} {o : Option (A1 × A2 × A3 × A4 × A5 × A6 × A7 × A8)} {k : A1 → A2 → A3 → A4 → A5 → A6 → A7 → A8 → Option R} {Q : R → Prop} {Q1 : A1 × A2 × A3 × A4 × A5 × A6 × A7 × A8 → Prop} (ho : ok o Q1) (h : ∀ (a1 : A1) (a2 : A2) (a3 : A3) (a4 : A4) (a5 : A5) (a6 : A6) (a7 : A7) (a8 : A8), Q1 (a1, a2, a3, a4, a5, a6, a7, a8) → ok (k a1 a2 a3 a4 a5 a6 a7 a8) Q) : ok (ck_b8 o k) Q := by
  obtain ⟨u, e, q⟩ := ho; subst e
  exact h u.1 u.2.1 u.2.2.1 u.2.2.2.1 u.2.2.2.2.1 u.2.2.2.2.2.1 u.2.2.2.2.2.2.1 u.2.2.2.2.2.2.2 q
def lo1 {A1 R : Type} (F : (A1 → Option R) → A1 → Option R) : Nat → A1 → Option R
  | 0 => fun _ => none
  | n + 1 => F (lo1 F n)
theorem lo1_W {A1 R : Type} {F : (A1 → Option R) → A1 → Option R} {r : R} (P : A1 → Prop) (hs : ∀ (k : A1 → Option R) (a1 : A1), (∀ (b1 : A1), k b1 = some r → P b1) → F k a1 = some r → P a1) : ∀ (n : Nat) (a1 : A1), lo1 F n a1 = some r → P a1 := by
  intro n
  induction n with
  | zero => intro a1 h; cases h
  | succ n ih => intro a1 h; exact hs (lo1 F n) a1 ih h
theorem lo1_ok {A1 R : Type} {F : (A1 → Option R) → A1 → Option R} {Q : R → Prop} (I : A1 → Prop) (μ : A1 → Nat) (hs : ∀ (k : A1 → Option R) (a1 : A1), I a1 → (∀ (b1 : A1), I b1 → μ b1 < μ a1 → ok (k b1) Q) → ok (F k a1) Q) : ∀ (n : Nat) (a1 : A1), I a1 → μ a1 < n → ok (lo1 F n a1) Q := by
  intro n
  induction n with
  | zero => intro a1 h1 h2; exact absurd h2 (Nat.not_lt_zero _)
  | succ n ih => intro a1 h1 h2; exact hs (lo1 F n) a1 h1 (fun b1 h3 h4 => ih b1 h3 (by omega))
/-- a loop that counts: from i on, with invariant I -/
theorem lo1_F {A1 R : Type} {F : (A1 → Option R) → A1 → Option R} {Q : R → Prop} (I : A1 → Prop) (μ : A1 → Nat) (hs : ∀ (k : A1 → Option R) (a1 : A1), I a1 → (∀ (b1 : A1), I b1 → μ b1 < μ a1 → ok (k b1) Q) → ok (F k a1) Q) {a1 : A1} (h : I a1) (hm : μ a1 < 100000) : ok (lo1 F ck_F a1) Q := lo1_ok I μ hs ck_F a1 h hm
def lo2 {A1 A2 R : Type} (F : (A1 → A2 → Option R) → A1 → A2 → Option R) : Nat → A1 → A2 → Option R
  | 0 => fun _ _ => none
  | n + 1 => F (lo2 F n)
theorem lo2_W {A1 A2 R : Type} {F : (A1 → A2 → Option R) → A1 → A2 → Option R} {r : R} (P : A1 → A2 → Prop) (hs : ∀ (k : A1 → A2 → Option R) (a1 : A1) (a2 : A2), (∀ (b1 : A1) (b2 : A2), k b1 b2 = some r → P b1 b2) → F k a1 a2 = some r → P a1 a2) : ∀ (n : Nat) (a1 : A1) (a2 : A2), lo2 F n a1 a2 = some r → P a1 a2 := by
  intro n
  induction n with
  | zero => intro a1 a2 h; cases h
  | succ n ih => intro a1 a2 h; exact hs (lo2 F n) a1 a2 ih h
theorem lo2_ok {A1 A2 R : Type} {F : (A1 → A2 → Option R) → A1 → A2 → Option R} {Q : R → Prop} (I : A1 → A2 → Prop) (μ : A1 → A2 → Nat) (hs : ∀ (k : A1 → A2 → Option R) (a1 : A1) (a2 : A2), I a1 a2 → (∀ (b1 : A1) (b2 : A2), I b1 b2 → μ b1 b2 < μ a1 a2 → ok (k b1 b2) Q) → ok (F k a1 a2) Q) : ∀ (n : Nat) (a1 : A1) (a2 : A2), I a1 a2 → μ a1 a2 < n → ok (lo2 F n a1 a2) Q := by
  intro n
  induction n with
  | zero => intro a1 a2 h1 h2; exact absurd h2 (Nat.not_lt_zero _)
  | succ n ih => intro a1 a2 h1 h2; exact hs (lo2 F n) a1 a2 h1 (fun b1 b2 h3 h4 => ih b1 b2 h3 (by omega))
/-- a loop that counts: from i on, with invariant I -/
theorem lo2_F {A1 A2 R : Type} {F : (A1 → A2 → Option R) → A1 → A2 → Option R} {Q : R → Prop} (I : A1 → A2 → Prop) (μ : A1 → A2 → Nat) (hs : ∀ (k : A1 → A2 → Option R) (a1 : A1) (a2 : A2), I a1 a2 → (∀ (b1 : A1) (b2 : A2), I b1 b2 → μ b1 b2 < μ a1 a2 → ok (k b1 b2) Q) → ok (F k a1 a2) Q) {a1 : A1} {a2 : A2} (h : I a1 a2) (hm : μ a1 a2 < 100000) : ok (lo2 F ck_F a1 a2) Q := lo2_ok I μ hs ck_F a1 a2 h hm
def lo3 {A1 A2 A3 R : Type} (F : (A1 → A2 → A3 → Option R) → A1 → A2 → A3 → Option R) : Nat → A1 → A2 → A3 → Option R
  | 0 => fun _ _ _ => none
  | n + 1 => F (lo3 F n)
theorem lo3_W {A1 A2 A3 R : Type} {F : (A1 → A2 → A3 → Option R) → A1 → A2 → A3 → Option R} {r : R} (P : A1 → A2 → A3 → Prop) (hs : ∀ (k : A1 → A2 → A3 → Option R) (a1 : A1) (a2 : A2) (a3 : A3), (∀ (b1 : A1) (b2 : A2) (b3 : A3), k b1 b2 b3 = some r → P b1 b2 b3) → F k a1 a2 a3 = some r → P a1 a2 a3) : ∀ (n : Nat) (a1 : A1) (a2 : A2) (a3 : A3), lo3 F n a1 a2 a3 = some r → P a1 a2 a3 := by
  intro n
  induction n with
  | zero => intro a1 a2 a3 h; cases h
  | succ n ih => intro a1 a2 a3 h; exact hs (lo3 F n) a1 a2 a3 ih h
theorem lo3_ok {A1 A2 A3 R : Type} {F : (A1 → A2 → A3 → Option R) → A1 → A2 → A3 → Option R} {Q : R → Prop} (I : A1 → A2 → A3 → Prop) (μ : A1 → A2 → A3 → Nat) (hs : ∀ (k : A1 → A2 → A3 → Option R) (a1 : A1) (a2 : A2) (a3 : A3), I a1 a2 a3 → (∀ (b1 : A1) (b2 : A2) (b3 : A3), I b1 b2 b3 → μ b1 b2 b3 < μ a1 a2 a3 → ok (k b1 b2 b3) Q) → ok (F k a1 a2 a3) Q) : ∀ (n : Nat) (a1 : A1) (a2 : A2) (a3 : A3), I a1 a2 a3 → μ a1 a2 a3 < n → ok (lo3 F n a1 a2 a3) Q := by
  intro n
  induction n with
  | zero => intro a1 a2 a3 h1 h2; exact absurd h2 (Nat.not_lt_zero _)
  | succ n ih => intro a1 a2 a3 h1 h2; exact hs (lo3 F n) a1 a2 a3 h1 (fun b1 b2 b3 h3 h4 => ih b1 b2 b3 h3 (by omega))
/-- a loop that counts: from i on, with invariant I -/
theorem lo3_F {A1 A2 A3 R : Type} {F : (A1 → A2 → A3 → Option R) → A1 → A2 → A3 → Option R} {Q : R → Prop} (I : A1 → A2 → A3 → Prop) (μ : A1 → A2 → A3 → Nat) (hs : ∀ (k : A1 → A2 → A3 → Option R) (a1 : A1) (a2 : A2) (a3 : A3), I a1 a2 a3 → (∀ (b1 : A1) (b2 : A2) (b3 : A3), I b1 b2 b3 → μ b1 b2 b3 < μ a1 a2 a3 → ok (k b1 b2 b3) Q) → ok (F k a1 a2 a3) Q) {a1 : A1} {a2 : A2} {a3 : A3} (h : I a1 a2 a3) (hm : μ a1 a2 a3 < 100000) : ok (lo3 F ck_F a1 a2 a3) Q := lo3_ok I μ hs ck_F a1 a2 a3 h hm
def lo4 {A1 A2 A3 A4 R : Type} (F : (A1 → A2 → A3 → A4 → Option R) → A1 → A2 → A3 → A4 → Option R) : Nat → A1 → A2 → A3 → A4 → Option R
  | 0 => fun _ _ _ _ => none
  | n + 1 => F (lo4 F n)
theorem lo4_W {A1 A2 A3 A4 R : Type} {F : (A1 → A2 → A3 → A4 → Option R) → A1 → A2 → A3 → A4 → Option R} {r : R} (P : A1 → A2 → A3 → A4 → Prop) (hs : ∀ (k : A1 → A2 → A3 → A4 → Option R) (a1 : A1) (a2 : A2) (a3 : A3) (a4 : A4), (∀ (b1 : A1) (b2 : A2) (b3 : A3) (b4 : A4), k b1 b2 b3 b4 = some r → P b1 b2 b3 b4) → F k a1 a2 a3 a4 = some r → P a1 a2 a3 a4) : ∀ (n : Nat) (a1 : A1) (a2 : A2) (a3 : A3) (a4 : A4), lo4 F n a1 a2 a3 a4 = some r → P a1 a2 a3 a4 := by
  intro n
  induction n with
  | zero => intro a1 a2 a3 a4 h; cases h
  | succ n ih => intro a1 a2 a3 a4 h; exact hs (lo4 F n) a1 a2 a3 a4 ih h
theorem lo4_ok {A1 A2 A3 A4 R : Type} {F : (A1 → A2 → A3 → A4 → Option R) → A1 → A2 → A3 → A4 → Option R} {Q : R → Prop} (I : A1 → A2 → A3 → A4 → Prop) (μ : A1 → A2 → A3 → A4 → Nat) (hs : ∀ (k : A1 → A2 → A3 → A4 → Option R) (a1 : A1) (a2 : A2) (a3 : A3) (a4 : A4), I a1 a2 a3 a4 → (∀ (b1 : A1) (b2 : A2) (b3 : A3) (b4 : A4), I b1 b2 b3 b4 → μ b1 b2 b3 b4 < μ a1 a2 a3 a4 → ok (k b1 b2 b3 b4) Q) → ok (F k a1 a2 a3 a4) Q) : ∀ (n : Nat) (a1 : A1) (a2 : A2) (a3 : A3) (a4 : A4), I a1 a2 a3 a4 → μ a1 a2 a3 a4 < n → ok (lo4 F n a1 a2 a3 a4) Q := by
  intro n
  induction n with
  | zero => intro a1 a2 a3 a4 h1 h2; exact absurd h2 (Nat.not_lt_zero _)
  | succ n ih => intro a1 a2 a3 a4 h1 h2; exact hs (lo4 F n) a1 a2 a3 a4 h1 (fun b1 b2 b3 b4 h3 h4 => ih b1 b2 b3 b4 h3 (by omega))
/-- a loop that counts: from i on, with invariant I -/
theorem lo4_F {A1 A2 A3 A4 R : Type} {F : (A1 → A2 → A3 → A4 → Option R) → A1 → A2 → A3 → A4 → Option R} {Q : R → Prop} (I : A1 → A2 → A3 → A4 → Prop) (μ : A1 → A2 → A3 → A4 → Nat) (hs : ∀ (k : A1 → A2 → A3 → A4 → Option R) (a1 : A1) (a2 : A2) (a3 : A3) (a4 : A4), I a1 a2 a3 a4 → (∀ (b1 : A1) (b2 : A2) (b3 : A3) (b4 : A4), I b1 b2 b3 b4 → μ b1 b2 b3 b4 < μ a1 a2 a3 a4 → ok (k b1 b2 b3 b4) Q) → ok (F k a1 a2 a3 a4) Q) {a1 : A1} {a2 : A2} {a3 : A3} {a4 : A4} (h : I a1 a2 a3 a4) (hm : μ a1 a2 a3 a4 < 100000) : ok (lo4 F ck_F a1 a2 a3 a4) Q := lo4_ok I μ hs ck_F a1 a2 a3 a4 h hm
def lo5 {A1 A2 A3 A4 A5 R : Type} (F : (A1 → A2 → A3 → A4 → A5 → Option R) → A1 → A2 → A3 → A4 → A5 → Option R) : Nat → A1 → A2 → A3 → A4 → A5 → Option R
  | 0 => fun _ _ _ _ _ => none
  | n + 1 => F (lo5 F n)
theorem lo5_W {A1 A2 A3 A4 A5 R : Type} {F : (A1 → A2 → A3 → A4 → A5 → Option R) → A1 → A2 → A3 → A4 → A5 → Option R} {r : R} (P : A1 → A2 → A3 → A4 → A5 → Prop) (hs : ∀ (k : A1 → A2 → A3 → A4 → A5 → Option R) (a1 : A1) (a2 : A2) (a3 : A3) (a4 : A4) (a5 : A5), (∀ (b1 : A1) (b2 : A2) (b3 : A3) (b4 : A4) (b5 : A5), k b1 b2 b3 b4 b5 = some r → P b1 b2 b3 b4 b5) → F k a1 a2 a3 a4 a5 = some r → P a1 a2 a3 a4 a5) : ∀ (n : Nat) (a1 : A1) (a2 : A2) (a3 : A3) (a4 : A4) (a5 : A5), lo5 F n a1 a2 a3 a4 a5 = some r → P a1 a2 a3 a4 a5 := by
  intro n
  induction n with
  | zero => intro a1 a2 a3 a4 a5 h; cases h
  | succ n ih => intro a1 a2 a3 a4 a5 h; exact hs (lo5 F n) a1 a2 a3 a4 a5 ih h
theorem lo5_ok {A1 A2 A3 A4 A5 R : Type} {F : (A1 → A2 → A3 → A4 → A5 → Option R) → A1 → A2 → A3 → A4 → A5 → Option R} {Q : R → Prop} (I : A1 → A2 → A3 → A4 → A5 → Prop) (μ : A1 → A2 → A3 → A4 → A5 → Nat) (hs : ∀ (k : A1 → A2 → A3 → A4 → A5 → Option R) (a1 : A1) (a2 : A2) (a3 : A3) (a4 : A4) (a5 : A5), I a1 a2 a3 a4 a5 → (∀ (b1 : A1) (b2 : A2) (b3 : A3) (b4 : A4) (b5 : A5), I b1 b2 b3 b4 b5 → μ b1 b2 b3 b4 b5 < μ a1 a2 a3 a4 a5 → ok (k b1 b2 b3 b4 b5) Q) → ok (F k a1 a2 a3 a4 a5) Q) : ∀ (n : Nat) (a1 : A1) (a2 : A2) (a3 : A3) (a4 : A4) (a5 : A5), I a1 a2 a3 a4 a5 → μ a1 a2 a3 a4 a5 < n → ok (lo5 F n a1 a2 a3 a4 a5) Q := by
  intro n
  induction n with
  | zero => intro a1 a2 a3 a4 a5 h1 h2; exact absurd h2 (Nat.not_lt_zero _)
  | succ n ih => intro a1 a2 a3 a4 a5 h1 h2; exact hs (lo5 F n) a1 a2 a3 a4 a5 h1 (fun b1 b2 b3 b4 b5 h3 h4 => ih b1 b2 b3 b4 b5 h3 (by omega))
/-- a loop that counts: from i on, with invariant I -/
theorem lo5_F {A1 A2 A3 A4 A5 R : Type} {F : (A1 → A2 → A3 → A4 → A5 → Option R) → A1 → A2 → A3 → A4 → A5 → Option R} {Q : R → Prop} (I : A1 → A2 → A3 → A4 → A5 → Prop) (μ : A1 → A2 → A3 → A4 → A5 → Nat) (hs : ∀ (k : A1 → A2 → A3 → A4 → A5 → Option R) (a1 : A1) (a2 : A2) (a3 : A3) (a4 : A4) (a5 : A5), I a1 a2 a3 a4 a5 → (∀ (b1 : A1) (b2 : A2) (b3 : A3) (b4 : A4) (b5 : A5), I b1 b2 b3 b4 b5 → μ b1 b2 b3 b4 b5 < μ a1 a2 a3 a4 a5 → ok (k b1 b2 b3 b4 b5) Q) → ok (F k a1 a2 a3 a4 a5) Q) {a1 : A1} {a2 : A2} {a3 : A3} {a4 : A4} {a5 : A5} (h : I a1 a2 a3 a4 a5) (hm : μ a1 a2 a3 a4 a5 < 100000) : ok (lo5 F ck_F a1 a2 a3 a4 a5) Q := lo5_ok I μ hs ck_F a1 a2 a3 a4 a5 h hm
def lo6 {A1 A2 A3 A4 A5 A6 R : Type} (F : (A1 → A2 → A3 → A4 → A5 → A6 → Option R) → A1 → A2 → A3 → A4 → A5 → A6 → Option R) : Nat → A1 → A2 → A3 → A4 → A5 → A6 → Option R
  | 0 => fun _ _ _ _ _ _ => none
  | n + 1 => F (lo6 F n)
theorem lo6_W {A1 A2 A3 A4 A5 A6 R : Type} {F : (A1 → A2 → A3 → A4 → A5 → A6 → Option R) → A1 → A2 → A3 → A4 → A5 → A6 → Option R} {r : R} (P : A1 → A2 → A3 → A4 → A5 → A6 → Prop) (hs : ∀ (k : A1 → A2 → A3 → A4 → A5 → A6 → Option R) (a1 : A1) (a2 : A2) (a3 : A3) (a4 : A4) (a5 : A5) (a6 : A6), (∀ (b1 : A1) (b2 : A2) (b3 : A3) (b4 : A4) (b5 : A5) (b6 : A6), k b1 b2 b3 b4 b5 b6 = some r → P b1 b2 b3 b4 b5 b6) → F k a1 a2 a3 a4 a5 a6 = some r → P a1 a2 a3 a4 a5 a6) : ∀ (n : Nat) (a1 : A1) (a2 : A2) (a3 : A3) (a4 : A4) (a5 : A5) (a6 : A6), lo6 F n a1 a2 a3 a4 a5 a6 = some r → P a1 a2 a3 a4 a5 a6 := by
  intro n
  induction n with
  | zero => intro a1 a2 a3 a4 a5 a6 h; cases h
  | succ n ih => intro a1 a2 a3 a4 a5 a6 h; exact hs (lo6 F n) a1 a2 a3 a4 a5 a6 ih h
theorem lo6_ok {A1 A2 A3 A4 A5 A6 R : Type} {F : (A1 → A2 → A3 → A4 → A5 → A6 → Option R) → A1 → A2 → A3 → A4 → A5 → A6 → Option R} {Q : R → Prop} (I : A1 → A2 → A3 → A4 → A5 → A6 → Prop) (μ : A1 → A2 → A3 → A4 → A5 → A6 → Nat) (hs : ∀ (k : A1 → A2 → A3 → A4 → A5 → A6 → Option R) (a1 : A1) (a2 : A2) (a3 : A3) (a4 : A4) (a5 : A5) (a6 : A6), I a1 a2 a3 a4 a5 a6 → (∀ (b1 : A1) (b2 : A2) (b3 : A3) (b4 : A4) (b5 : A5) (b6 : A6), I b1 b2 b3 b4 b5 b6 → μ b1 b2 b3 b4 b5 b6 < μ a1 a2 a3 a4 a5 a6 → ok (k b1 b2 b3 b4 b5 b6) Q) → ok (F k a1 a2 a3 a4 a5 a6) Q) : ∀ (n : Nat) (a1 : A1) (a2 : A2) (a3 : A3) (a4 : A4) (a5 : A5) (a6 : A6), I a1 a2 a3 a4 a5 a6 → μ a1 a2 a3 a4 a5 a6 < n → ok (lo6 F n a1 a2 a3 a4 a5 a6) Q := by
  intro n
  induction n with
  | zero => intro a1 a2 a3 a4 a5 a6 h1 h2; exact absurd h2 (Nat.not_lt_zero _)
  | succ n ih => intro a1 a2 a3 a4 a5 a6 h1 h2; exact hs (lo6 F n) a1 a2 a3 a4 a5 a6 h1 (fun b1 b2 b3 b4 b5 b6 h3 h4 => ih b1 b2 b3 b4 b5 b6 h3 (by omega))
/-- a loop that counts: from i on, with invariant I -/
theorem lo6_F {A1 A2 A3 A4 A5 A6 R : Type} {F : (A1 → A2 → A3 → A4 → A5 → A6 → Option R) → A1 → A2 → A3 → A4 → A5 → A6 → Option R} {Q : R → Prop} (I : A1 → A2 → A3 → A4 → A5 → A6 → Prop) (μ : A1 → A2 → A3 → A4 → A5 → A6 → Nat) (hs : ∀ (k : A1 → A2 → A3 → A4 → A5 → A6 → Option R) (a1 : A1) (a2 : A2) (a3 : A3) (a4 : A4) (a5 : A5) (a6 : A6), I a1 a2 a3 a4 a5 a6 → (∀ (b1 : A1) (b2 : A2) (b3 : A3) (b4 : A4) (b5 : A5) (b6 : A6), I b1 b2 b3 b4 b5 b6 → μ b1 b2 b3 b4 b5 b6 < μ a1 a2 a3 a4 a5 a6 → ok (k b1 b2 b3 b4 b5 b6) Q) → ok (F k a1 a2 a3 a4 a5 a6) Q) {a1 : A1} {a2 : A2} {a3 : A3} {a4 : A4} {a5 : A5} {a6 : A6} (h : I a1 a2 a3 a4 a5 a6) (hm : μ a1 a2 a3 a4 a5 a6 < 100000) : ok (lo6 F ck_F a1 a2 a3 a4 a5 a6) Q := lo6_ok I μ hs ck_F a1 a2 a3 a4 a5 a6 h hm
def lo7 {A1 A2 A3 A4 A5 A6 A7 R : Type} (F : (A1 → A2 → A3 → A4 → A5 → A6 → A7 → Option R) → A1 → A2 → A3 → A4 → A5 → A6 → A7 → Option R) : Nat → A1 → A2 → A3 → A4 → A5 → A6 → A7 → Option R
  | 0 => fun _ _ _ _ _ _ _ => none
  | n + 1 => F (lo7 F n)
theorem lo7_W {A1 A2 A3 A4 A5 A6 A7 R : Type} {F : (A1 → A2 → A3 → A4 → A5 → A6 → A7 → Option R) → A1 → A2 → A3 → A4 → A5 → A6 → A7 → Option R} {r : R} (P : A1 → A2 → A3 → A4 → A5 → A6 → A7 → Prop) (hs : ∀ (k : A1 → A2 → A3 → A4 → A5 → A6 → A7 → Option R) (a1 : A1) (a2 : A2) (a3 : A3) (a4 : A4) (a5 : A5) (a6 : A6) (a7 : A7), (∀ (b1 : A1) (b2 : A2) (b3 : A3) (b4 : A4) (b5 : A5) (b6 : A6) (b7 : A7), k b1 b2 b3 b4 b5 b6 b7 = some r → P b1 b2 b3 b4 b5 b6 b7) → F k a1 a2 a3 a4 a5 a6 a7 = some r → P a1 a2 a3 a4 a5 a6 a7) : ∀ (n : Nat) (a1 : A1) (a2 : A2) (a3 : A3) (a4 : A4) (a5 : A5) (a6 : A6) (a7 : A7), lo7 F n a1 a2 a3 a4 a5 a6 a7 = some r → P a1 a2 a3 a4 a5 a6 a7 := by
  intro n
  induction n with
  | zero => intro a1 a2 a3 a4 a5 a6 a7 h; cases h
  | succ n ih => intro a1 a2 a3 a4 a5 a6 a7 h; exact hs (lo7 F n) a1 a2 a3 a4 a5 a6 a7 ih h
theorem lo7_ok {A1 A2 A3 A4 A5 A6 A7 R : Type} {F : (A1 → A2 → A3 → A4 → A5 → A6 → A7 → Option R) → A1 → A2 → A3 → A4 → A5 → A6 → A7 → Option R} {Q : R → Prop} (I : A1 → A2 → A3 → A4 → A5 → A6 → A7 → Prop) (μ : A1 → A2 → A3 → A4 → A5 → A6 → A7 → Nat) (hs : ∀ (k : A1 → A2 → A3 → A4 → A5 → A6 → A7 → Option R) (a1 : A1) (a2 : A2) (a3 : A3) (a4 : A4) (a5 : A5) (a6 : A6) (a7 : A7), I a1 a2 a3 a4 a5 a6 a7 → (∀ (b1 : A1) (b2 : A2) (b3 : A3) (b4 : A4) (b5 : A5) (b6 : A6) (b7 : A7), I b1 b2 b3 b4 b5 b6 b7 → μ b1 b2 b3 b4 b5 b6 b7 < μ a1 a2 a3 a4 a5 a6 a7 → ok (k b1 b2 b3 b4 b5 b6 b7) Q) → ok (F k a1 a2 a3 a4 a5 a6 a7) Q) : ∀ (n : Nat) (a1 : A1) (a2 : A2) (a3 : A3) (a4 : A4) (a5 : A5) (a6 : A6) (a7 : A7), I a1 a2 a3 a4 a5 a6 a7 → μ a1 a2 a3 a4 a5 a6 a7 < n → ok (lo7 F n a1 a2 a3 a4 a5 a6 a7) Q := by
  intro n
  induction n with
  | zero => intro a1 a2 a3 a4 a5 a6 a7 h1 h2; exact absurd h2 (Nat.not_lt_zero _)
  | succ n ih => intro a1 a2 a3 a4 a5 a6 a7 h1 h2; exact hs (lo7 F n) a1 a2 a3 a4 a5 a6 a7 h1 (fun b1 b2 b3 b4 b5 b6 b7 h3 h4 => ih b1 b2 b3 b4 b5 b6 b7 h3 (by omega))
/-- a loop that counts: from i on, with invariant I -/
theorem lo7_F {A1 A2 A3 A4 A5 A6 A7 R : Type} {F : (A1 → A2 → A3 → A4 → A5 → A6 → A7 → Option R) → A1 → A2 → A3 → A4 → A5 → A6 → A7 → Option R} {Q : R → Prop} (I : A1 → A2 → A3 → A4 → A5 → A6 → A7 → Prop) (μ : A1 → A2 → A3 → A4 → A5 → A6 → A7 → Nat) (hs : ∀ (k : A1 → A2 → A3 → A4 → A5 → A6 → A7 → Option R) (a1 : A1) (a2 : A2) (a3 : A3) (a4 : A4) (a5 : A5) (a6 : A6) (a7 : A7), I a1 a2 a3 a4 a5 a6 a7 → (∀ (b1 : A1) (b2 : A2) (b3 : A3) (b4 : A4) (b5 : A5) (b6 : A6) (b7 : A7), I b1 b2 b3 b4 b5 b6 b7 → μ b1 b2 b3 b4 b5 b6 b7 < μ a1 a2 a3 a4 a5 a6 a7 → ok (k b1 b2 b3 b4 b5 b6 b7) Q) → ok (F k a1 a2 a3 a4 a5 a6 a7) Q) {a1 : A1} {a2 : A2} {a3 : A3} {a4 : A4} {a5 : A5} {a6 : A6} {a7 : A7} (h : I a1 a2 a3 a4 a5 a6 a7) (hm : μ a1 a2 a3 a4 a5 a6 a7 < 100000) : ok (lo7 F ck_F a1 a2 a3 a4 a5 a6 a7) Q := lo7_ok I μ hs ck_F a1 a2 a3 a4 a5 a6 a7 h hm
def lo8 {A1 A2 A3 A4 A5 A6 A7 A8 R : Type} (F : (A1 → A2 → A3 → A4 → A5 → A6 → A7 → A8 → Option R) → A1 → A2 → A3 → A4 → A5 → A6 → A7 → A8 → Option R) : Nat → A1 → A2 → A3 → A4 → A5 → A6 → A7 → A8 → Option R
  | 0 => fun _ _ _ _ _ _ _ _ => none
  | n + 1 => F (lo8 F n)
theorem lo8_W {A1 A2 A3 A4 A5 A6 A7 A8 R : Type} {F : (A1 → A2 → A3 → A4 → A5 → A6 → A7 → A8 → Option R) → A1 → A2 → A3 → A4 → A5 → A6 → A7 → A8 → Option R} {r : R} (P : A1 → A2 → A3 → A4 → A5 → A6 → A7 → A8 → Prop) (hs : ∀ (k : A1 → A2 → A3 → A4 → A5 → A6 → A7 → A8 → Option R) (a1 : A1) (a2 : A2) (a3 : A3) (a4 : A4) (a5 : A5) (a6 : A6) (a7 : A7) (a8 : A8), (∀ (b1 : A1) (b2 : A2) (b3 : A3) (b4 : A4) (b5 : A5) (b6 : A6) (b7 : A7) (b8 : A8), k b1 b2 b3 b4 b5 b6 b7 b8 = some r → P b1 b2 b3 b4 b5 b6 b7 b8) → F k a1 a2 a3 a4 a5 a6 a7 a8 = some r → P a1 a2 a3 a4 a5 a6 a7 a8) : ∀ (n : Nat) (a1 : A1) (a2 : A2) (a3 : A3) (a4 : A4) (a5 : A5) (a6 : A6) (a7 : A7) (a8 : A8), lo8 F n a1 a2 a3 a4 a5 a6 a7 a8 = some r → P a1 a2 a3 a4 a5 a6 a7 a8 := by
  intro n
  induction n with
  | zero => intro a1 a2 a3 a4 a5 a6 a7 a8 h; cases h
  | succ n ih => intro a1 a2 a3 a4 a5 a6 a7 a8 h; exact hs (lo8 F n) a1 a2 a3 a4 a5 a6 a7 a8 ih h
theorem lo8_ok {A1 A2 A3 A4 A5 A6 A7 A8 R : Type} {F : (A1 → A2 → A3 → A4 → A5 → A6 → A7 → A8 → Option R) → A1 → A2 → A3 → A4 → A5 → A6 → A7 → A8 → Option R} {Q : R → Prop} (I : A1 → A2 → A3 → A4 → A5 → A6 → A7 → A8 → Prop) (μ : A1 → A2 → A3 → A4 → A5 → A6 → A7 → A8 → Nat) (hs : ∀ (k : A1 → A2 → A3 → A4 → A5 → A6 → A7 → A8 → Option R) (a1 : A1) (a2 : A2) (a3 : A3) (a4 : A4) (a5 : A5) (a6 : A6) (a7 : A7) (a8 : A8), I a1 a2 a3 a4 a5 a6 a7 a8 → (∀ (b1 : A1) (b2 : A2) (b3 : A3) (b4 : A4) (b5 : A5) (b6 : A6) (b7 : A7) (b8 : A8), I b1 b2 b3 b4 b5 b6 b7 b8 → μ b1 b2 b3 b4 b5 b6 b7 b8 < μ a1 a2 a3 a4 a5 a6 a7 a8 → ok (k b1 b2 b3 b4 b5 b6 b7 b8) Q) → ok (F k a1 a2 a3 a4 a5 a6 a7 a8) Q) : ∀ (n : Nat) (a1 : A1) (a2 : A2) (a3 : A3) (a4 : A4) (a5 : A5) (a6 : A6) (a7 : A7) (a8 : A8), I a1 a2 a3 a4 a5 a6 a7 a8 → μ a1 a2 a3 a4 a5 a6 a7 a8 < n → ok (lo8 F n a1 a2 a3 a4 a5 a6 a7 a8) Q := by
  intro n
  induction n with
  | zero => intro a1 a2 a3 a4 a5 a6 a7 a8 h1 h2; exact absurd h2 (Nat.not_lt_zero _)
  | succ n ih => intro a1 a2 a3 a4 a5 a6 a7 a8 h1 h2; exact hs (lo8 F n) a1 a2 a3 a4 a5 a6 a7 a8 h1 (fun b1 b2 b3 b4 b5 b6 b7 b8 h3 h4 => ih b1 b2 b3 b4 b5 b6 b7 b8 h3 (by omega))
/-- a loop that counts: from i on, with invariant I -/
theorem lo8_F {A1 A2 A3 A4 A5 A6 A7 A8 R : Type} {F : (A1 → A2 → A3 → A4 → A5 → A6 → A7 → A8 → Option R) → A1 → A2 → A3 → A4 → A5 → A6 → A7 → A8 → Option R} {Q : R → Prop} (I : A1 → A2 → A3 → A4 → A5 → A6 → A7 → A8 → Prop) (μ : A1 → A2 → A3 → A4 → A5 → A6 → A7 → A8 → Nat) (hs : ∀ (k : A1 → A2 → A3 → A4 → A5 → A6 → A7 → A8 → Option R) (a1 : A1) (a2 : A2) (a3 : A3) (a4 : A4) (a5 : A5) (a6 : A6) (a7 : A7) (a8 : A8), I a1 a2 a3 a4 a5 a6 a7 a8 → (∀ (b1 : A1) (b2 : A2) (b3 : A3) (b4 : A4) (b5 : A5) (b6 : A6) (b7 : A7) (b8 : A8), I b1 b2 b3 b4 b5 b6 b7 b8 → μ b1 b2 b3 b4 b5 b6 b7 b8 < μ a1 a2 a3 a4 a5 a6 a7 a8 → ok (k b1 b2 b3 b4 b5 b6 b7 b8) Q) → ok (F k a1 a2 a3 a4 a5 a6 a7 a8) Q) {a1 : A1} {a2 : A2} {a3 : A3} {a4 : A4} {a5 : A5} {a6 : A6} {a7 : A7} {a8 : A8} (h : I a1 a2 a3 a4 a5 a6 a7 a8) (hm : μ a1 a2 a3 a4 a5 a6 a7 a8 < 100000) : ok (lo8 F ck_F a1 a2 a3 a4 a5 a6 a7 a8) Q := lo8_ok I μ hs ck_F a1 a2 a3 a4 a5 a6 a7 a8 h hm
def lo9 {A1 A2 A3 A4 A5 A6 A7 A8 A9 R : Type} (F : (A1 → A2 → A3 → A4 → A5 → A6 → A7 → A8 → A9 → Option R) → A1 → A2 → A3 → A4 → A5 → A6 → A7 → A8 → A9 → Option R) : Nat → A1 → A2 → A3 → A4 → A5 → A6 → A7 → A8 → A9 → Option R
  | 0 => fun _ _ _ _ _ _ _ _ _ => none
  | n + 1 => F (lo9 F n)
theorem lo9_W {A1 A2 A3 A4 A5 A6 A7 A8 A9 R : Type} {F : (A1 → A2 → A3 → A4 → A5 → A6 → A7 → A8 → A9 → Option R) → A1 → A2 → A3 → A4 → A5 → A6 → A7 → A8 → A9 → Option R} {r : R} (P : A1 → A2 → A3 → A4 → A5 → A6 → A7 → A8 → A9 → Prop) (hs : ∀ (k : A1 → A2 → A3 → A4 → A5 → A6 → A7 → A8 → A9 → Option R) (a1 : A1) (a2 : A2) (a3 : A3) (a4 : A4) (a5 : A5) (a6 : A6) (a7 : A7) (a8 : A8) (a9 : A9), (∀ (b1 : A1) (b2 : A2) (b3 : A3) (b4 : A4) (b5 : A5) (b6 : A6) (b7 : A7) (b8 : A8) (b9 : A9), k b1 b2 b3 b4 b5 b6 b7 b8 b9 = some r → P b1 b2 b3 b4 b5 b6 b7 b8 b9) → F k a1 a2 a3 a4 a5 a6 a7 a8 a9 = some r → P a1 a2 a3 a4 a5 a6 a7 a8 a9) : ∀ (n : Nat) (a1 : A1) (a2 : A2) (a3 : A3) (a4 : A4) (a5 : A5) (a6 : A6) (a7 : A7) (a8 : A8) (a9 : A9), lo9 F n a1 a2 a3 a4 a5 a6 a7 a8 a9 = some r → P a1 a2 a3 a4 a5 a6 a7 a8 a9 := by
  intro n
  induction n with
  | zero => intro a1 a2 a3 a4 a5 a6 a7 a8 a9 h; cases h
  | succ n ih => intro a1 a2 a3 a4 a5 a6 a7 a8 a9 h; exact hs (lo9 F n) a1 a2 a3 a4 a5 a6 a7 a8 a9 ih h
theorem lo9_ok {A1 A2 A3 A4 A5 A6 A7 A8 A9 R : Type} {F : (A1 → A2 → A3 → A4 → A5 → A6 → A7 → A8 → A9 → Option R) → A1 → A2 → A3 → A4 → A5 → A6 → A7 → A8 → A9 → Option R} {Q : R → Prop} (I : A1 → A2 → A3 → A4 → A5 → A6 → A7 → A8 → A9 → Prop) (μ : A1 → A2 → A3 → A4 → A5 → A6 → A7 → A8 → A9 → Nat) (hs : ∀ (k : A1 → A2 → A3 → A4 → A5 → A6 → A7 → A8 → A9 → Option R) (a1 : A1) (a2 : A2) (a3 : A3) (a4 : A4) (a5 : A5) (a6 : A6) (a7 : A7) (a8 : A8) (a9 : A9), I a1 a2 a3 a4 a5 a6 a7 a8 a9 → (∀ (b1 : A1) (b2 : A2) (b3 : A3) (b4 : A4) (b5 : A5) (b6 : A6) (b7 : A7) (b8 : A8) (b9 : A9), I b1 b2 b3 b4 b5 b6 b7 b8 b9 → μ b1 b2 b3 b4 b5 b6 b7 b8 b9 < μ a1 a2 a3 a4 a5 a6 a7 a8 a9 → ok (k b1 b2 b3 b4 b5 b6 b7 b8 b9) Q) → ok (F k a1 a2 a3 a4 a5 a6 a7 a8 a9) Q) : ∀ (n : Nat) (a1 : A1) (a2 : A2) (a3 : A3) (a4 : A4) (a5 : A5) (a6 : A6) (a7 : A7) (a8 : A8) (a9 : A9), I a1 a2 a3 a4 a5 a6 a7 a8 a9 → μ a1 a2 a3 a4 a5 a6 a7 a8 a9 < n → ok (lo9 F n a1 a2 a3 a4 a5 a6 a7 a8 a9) Q := by
  intro n
  induction n with
  | zero => intro a1 a2 a3 a4 a5 a6 a7 a8 a9 h1 h2; exact absurd h2 (Nat.not_lt_zero _)
  | succ n ih => intro a1 a2 a3 a4 a5 a6 a7 a8 a9 h1 h2; exact hs (lo9 F n) a1 a2 a3 a4 a5 a6 a7 a8 a9 h1 (fun b1 b2 b3 b4 b5 b6 b7 b8 b9 h3 h4 => ih b1 b2 b3 b4 b5 b6 b7 b8 b9 h3 (by omega))
/-- a loop that counts: from i on, with invariant I -/
theorem lo9_F {A1 A2 A3 A4 A5 A6 A7 A8 A9 R : Type} {F : (A1 → A2 → A3 → A4 → A5 → A6 → A7 → A8 → A9 → Option R) → A1 → A2 → A3 → A4 → A5 → A6 → A7 → A8 → A9 → Option R} {Q : R → Prop} (I : A1 → A2 → A3 → A4 → A5 → A6 → A7 → A8 → A9 → Prop) (μ : A1 → A2 → A3 → A4 → A5 → A6 → A7 → A8 → A9 → Nat) (hs : ∀ (k : A1 → A2 → A3 → A4 → A5 → A6 → A7 → A8 → A9 → Option R) (a1 : A1) (a2 : A2) (a3 : A3) (a4 : A4) (a5 : A5) (a6 : A6) (a7 : A7) (a8 : A8) (a9 : A9), I a1 a2 a3 a4 a5 a6 a7 a8 a9 → (∀ (b1 : A1) (b2 : A2) (b3 : A3) (b4 : A4) (b5 : A5) (b6 : A6) (b7 : A7) (b8 : A8) (b9 : A9), I b1 b2 b3 b4 b5 b6 b7 b8 b9 → μ b1 b2 b3 b4 b5 b6 b7 b8 b9 < μ a1 a2 a3 a4 a5 a6 a7 a8 a9 → ok (k b1 b2 b3 b4 b5 b6 b7 b8 b9) Q) → ok (F k a1 a2 a3 a4 a5 a6 a7 a8 a9) Q) {a1 : A1} {a2 : A2} {a3 : A3} {a4 : A4} {a5 : A5} {a6 : A6} {a7 : A7} {a8 : A8} {a9 : A9} (h : I a1 a2 a3 a4 a5 a6 a7 a8 a9) (hm : μ a1 a2 a3 a4 a5 a6 a7 a8 a9 < 100000) : ok (lo9 F ck_F a1 a2 a3 a4 a5 a6 a7 a8 a9) Q := lo9_ok I μ hs ck_F a1 a2 a3 a4 a5 a6 a7 a8 a9 h hm
def lo10 {A1 A2 A3 A4 A5 A6 A7 A8 A9 A10 R : Type} (F : (A1 → A2 → A3 → A4 → A5 → A6 → A7 → A8 → A9 → A10 → Option R) → A1 → A2 → A3 → A4 → A5 → A6 → A7 → A8 → A9 → A10 → Option R) : Nat → A1 → A2 → A3 → A4 → A5 → A6 → A7 → A8 → A9 → A10 → Option R
  | 0 => fun _ _ _ _ _ _ _ _ _ _ => none
  | n + 1 => F (lo10 F n)
theorem lo10_W {A1 A2 A3 A4 A5 A6 A7 A8 A9 A10 R : Type} {F : (A1 → A2 → A3 → A4 → A5 → A6 → A7 → A8 → A9 → A10 → Option R) → A1 → A2 → A3 → A4 → A5 → A6 → A7 → A8 → A9 → A10 → Option R} {r : R} (P : A1 → A2 → A3 → A4 → A5 → A6 → A7 → A8 → A9 → A10 → Prop) (hs : ∀ (k : A1 → A2 → A3 → A4 → A5 → A6 → A7 → A8 → A9 → A10 → Option R) (a1 : A1) (a2 : A2) (a3 : A3) (a4 : A4) (a5 : A5) (a6 : A6) (a7 : A7) (a8 : A8) (a9 : A9) (a10 : A10), (∀ (b1 : A1) (b2 : A2) (b3 : A3) (b4 : A4) (b5 : A5) (b6 : A6) (b7 : A7) (b8 : A8) (b9 : A9) (b10 : A10), k b1 b2 b3 b4 b5 b6 b7 b8 b9 b10 = some r → P b1 b2 b3 b4 b5 b6 b7 b8 b9 b10) → F k a1 a2 a3 a4 a5 a6 a7 a8 a9 a10 = some r → P a1 a2 a3 a4 a5 a6 a7 a8 a9 a10) : ∀ (n : Nat) (a1 : A1) (a2 : A2) (a3 : A3) (a4 : A4) (a5 : A5) (a6 : A6) (a7 : A7) (a8 : A8) (a9 : A9) (a10 : A10), lo10 F n a1 a2 a3 a4 a5 a6 a7 a8 a9 a10 = some r → P a1 a2 a3 a4 a5 a6 a7 a8 a9 a10 := by
  intro n
  induction n with
  | zero => intro a1 a2 a3 a4 a5 a6 a7 a8 a9 a10 h; cases h
  | succ n ih => intro a1 a2 a3 a4 a5 a6 a7 a8 a9 a10 h; exact hs (lo10 F n) a1 a2 a3 a4 a5 a6 a7 a8 a9 a10 ih h
theorem lo10_ok {A1 A2 A3 A4 A5 A6 A7 A8 A9 A10 R : Type} {F : (A1 → A2 → A3 → A4 → A5 → A6 → A7 → A8 → A9 → A10 → Option R) → A1 → A2 → A3 → A4 → A5 → A6 → A7 → A8 → A9 → A10 → Option R} {Q : R → Prop} (I : A1 → A2 → A3 → A4 → A5 → A6 → A7 → A8 → A9 → A10 → Prop) (μ : A1 → A2 → A3 → A4 → A5 → A6 → A7 → A8 → A9 → A10 → Nat) (hs : ∀ (k : A1 → A2 → A3 → A4 → A5 → A6 → A7 → A8 → A9 → A10 → Option R) (a1 : A1) (a2 : A2) (a3 : A3) (a4 : A4) (a5 : A5) (a6 : A6) (a7 : A7) (a8 : A8) (a9 : A9) (a10 : A10), I a1 a2 a3 a4 a5 a6 a7 a8 a9 a10 → (∀ (b1 : A1) (b2 : A2) (b3 : A3) (b4 : A4) (b5 : A5) (b6 : A6) (b7 : A7) (b8 : A8) (b9 : A9) (b10 : A10), I b1 b2 b3 b4 b5 b6 b7 b8 b9 b10 → μ b1 b2 b3 b4 b5 b6 b7 b8 b9 b10 < μ a1 a2 a3 a4 a5 a6 a7 a8 a9 a10 → ok (k b1 b2 b3 b4 b5 b6 b7 b8 b9 b10) Q) → ok (F k a1 a2 a3 a4 a5 a6 a7 a8 a9 a10) Q) : ∀ (n : Nat) (a1 : A1) (a2 : A2) (a3 : A3) (a4 : A4) (a5 : A5) (a6 : A6) (a7 : A7) (a8 : A8) (a9 : A9) (a10 : A10), I a1 a2 a3 a4 a5 a6 a7 a8 a9 a10 → μ a1 a2 a3 a4 a5 a6 a7 a8 a9 a10 < n → ok (lo10 F n a1 a2 a3 a4 a5 a6 a7 a8 a9 a10) Q := by
  intro n
  induction n with
  | zero => intro a1 a2 a3 a4 a5 a6 a7 a8 a9 a10 h1 h2; exact absurd h2 (Nat.not_lt_zero _)
  | succ n ih => intro a1 a2 a3 a4 a5 a6 a7 a8 a9 a10 h1 h2; exact hs (lo10 F n) a1 a2 a3 a4 a5 a6 a7 a8 a9 a10 h1 (fun b1 b2 b3 b4 b5 b6 b7 b8 b9 b10 h3 h4 => ih b1 b2 b3 b4 b5 b6 b7 b8 b9 b10 h3 (by omega))
/-- a loop that counts: from i on, with invariant I -/
theorem lo10_F {A1 A2 A3 A4 A5 A6 A7 A8 A9 A10 R : Type} {F : (A1 → A2 → A3 → A4 → A5 → A6 → A7 → A8 → A9 → A10 → Option R) → A1 → A2 → A3 → A4 → A5 → A6 → A7 → A8 → A9 → A10 → Option R} {Q : R → Prop} (I : A1 → A2 → A3 → A4 → A5 → A6 → A7 → A8 → A9 → A10 → Prop) (μ : A1 → A2 → A3 → A4 → A5 → A6 → A7 → A8 → A9 → A10 → Nat) (hs : ∀ (k : A1 → A2 → A3 → A4 → A5 → A6 → A7 → A8 → A9 → A10 → Option R) (a1 : A1) (a2 : A2) (a3 : A3) (a4 : A4) (a5 : A5) (a6 : A6) (a7 : A7) (a8 : A8) (a9 : A9) (a10 : A10), I a1 a2 a3 a4 a5 a6 a7 a8 a9 a10 → (∀ (b1 : A1) (b2 : A2) (b3 : A3) (b4 : A4) (b5 : A5) (b6 : A6) (b7 : A7) (b8 : A8) (b9 : A9) (b10 : A10), I b1 b2 b3 b4 b5 b6 b7 b8 b9 b10 → μ b1 b2 b3 b4 b5 b6 b7 b8 b9 b10 < μ a1 a2 a3 a4 a5 a6 a7 a8 a9 a10 → ok (k b1 b2 b3 b4 b5 b6 b7 b8 b9 b10) Q) → ok (F k a1 a2 a3 a4 a5 a6 a7 a8 a9 a10) Q) {a1 : A1} {a2 : A2} {a3 : A3} {a4 : A4} {a5 : A5} {a6 : A6} {a7 : A7} {a8 : A8} {a9 : A9} {a10 : A10} (h : I a1 a2 a3 a4 a5 a6 a7 a8 a9 a10) (hm : μ a1 a2 a3 a4 a5 a6 a7 a8 a9 a10 < 100000) : ok (lo10 F ck_F a1 a2 a3 a4 a5 a6 a7 a8 a9 a10) Q := lo10_ok I μ hs ck_F a1 a2 a3 a4 a5 a6 a7 a8 a9 a10 h hm
def lo11 {A1 A2 A3 A4 A5 A6 A7 A8 A9 A10 A11 R : Type} (F : (A1 → A2 → A3 → A4 → A5 → A6 → A7 → A8 → A9 → A10 → A11 → Option R) → A1 → A2 → A3 → A4 → A5 → A6 → A7 → A8 → A9 → A10 → A11 → Option R) : Nat → A1 → A2 → A3 → A4 → A5 → A6 → A7 → A8 → A9 → A10 → A11 → Option R
  | 0 => fun _ _ _ _ _ _ _ _ _ _ _ => none
  | n + 1 => F (lo11 F n)
theorem lo11_W {A1 A2 A3 A4 A5 A6 A7 A8 A9 A10 A11 R : Type} {F : (A1 → A2 → A3 → A4 → A5 → A6 → A7 → A8 → A9 → A10 → A11 → Option R) → A1 → A2 → A3 → A4 → A5 → A6 → A7 → A8 → A9 → A10 → A11 → Option R} {r : R} (P : A1 → A2 → A3 → A4 → A5 → A6 → A7 → A8 → A9 → A10 → A11 → Prop) (hs : ∀ (k : A1 → A2 → A3 → A4 → A5 → A6 → A7 → A8 → A9 → A10 → A11 → Option R) (a1 : A1) (a2 : A2) (a3 : A3) (a4 : A4) (a5 : A5) (a6 : A6) (a7 : A7) (a8 : A8) (a9 : A9) (a10 : A10) (a11 : A11), (∀ (b1 : A1) (b2 : A2) (b3 : A3) (b4 : A4) (b5 : A5) (b6 : A6) (b7 : A7) (b8 : A8) (b9 : A9) (b10 : A10) (b11 : A11), k b1 b2 b3 b4 b5 b6 b7 b8 b9 b10 b11 = some r → P b1 b2 b3 b4 b5 b6 b7 b8 b9 b10 b11) → F k a1 a2 a3 a4 a5 a6 a7 a8 a9 a10 a11 = some r → P a1 a2 a3 a4 a5 a6 a7 a8 a9 a10 a11) : ∀ (n : Nat) (a1 : A1) (a2 : A2) (a3 : A3) (a4 : A4) (a5 : A5) (a6 : A6) (a7 : A7) (a8 : A8) (a9 : A9) (a10 : A10) (a11 : A11), lo11 F n a1 a2 a3 a4 a5 a6 a7 a8 a9 a10 a11 = some r → P a1 a2 a3 a4 a5 a6 a7 a8 a9 a10 a11 := by
  intro n
  induction n with
  | zero => intro a1 a2 a3 a4 a5 a6 a7 a8 a9 a10 a11 h; cases h
  | succ n ih => intro a1 a2 a3 a4 a5 a6 a7 a8 a9 a10 a11 h; exact hs (lo11 F n) a1 a2 a3 a4 a5 a6 a7 a8 a9 a10 a11 ih h
theorem lo11_ok {A1 A2 A3 A4 A5 A6 A7 A8 A9 A10 A11 R : Type} {F : (A1 → A2 → A3 → A4 → A5 → A6 → A7 → A8 → A9 → A10 → A11 → Option R) → A1 → A2 → A3 → A4 → A5 → A6 → A7 → A8 → A9 → A10 → A11 → Option R} {Q : R → Prop} (I : A1 → A2 → A3 → A4 → A5 → A6 → A7 → A8 → A9 → A10 → A11 → Prop) (μ : A1 → A2 → A3 → A4 → A5 → A6 → A7 → A8 → A9 → A10 → A11 → Nat) (hs : ∀ (k : A1 → A2 → A3 → A4 → A5 → A6 → A7 → A8 → A9 → A10 → A11 → Option R) (a1 : A1) (a2 : A2) (a3 : A3) (a4 : A4) (a5 : A5) (a6 : A6) (a7 : A7) (a8 : A8) (a9 : A9) (a10 : A10) (a11 : A11), I a1 a2 a3 a4 a5 a6 a7 a8 a9 a10 a11 → (∀ (b1 : A1) (b2 : A2) (b3 : A3) (b4 : A4) (b5 : A5) (b6 : A6) (b7 : A7) (b8 : A8) (b9 : A9) (b10 : A10) (b11 : A11), I b1 b2 b3 b4 b5 b6 b7 b8 b9 b10 b11 → μ b1 b2 b3 b4 b5 b6 b7 b8 b9 b10 b11 < μ a1 a2 a3 a4 a5 a6 a7 a8 a9 a10 a11 → ok (k b1 b2 b3 b4 b5 b6 b7 b8 b9 b10 b11) Q) → ok (F k a1 a2 a3 a4 a5 a6 a7 a8 a9 a10 a11) Q) : ∀ (n : Nat) (a1 : A1) (a2 : A2) (a3 : A3) (a4 : A4) (a5 : A5) (a6 : A6) (a7 : A7) (a8 : A8) (a9 : A9) (a10 : A10) (a11 : A11), I a1 a2 a3 a4 a5 a6 a7 a8 a9 a10 a11 → μ a1 a2 a3 a4 a5 a6 a7 a8 a9 a10 a11 < n → ok (lo11 F n a1 a2 a3 a4 a5 a6 a7 a8 a9 a10 a11) Q := by
  intro n
  induction n with
  | zero => intro a1 a2 a3 a4 a5 a6 a7 a8 a9 a10 a11 h1 h2; exact absurd h2 (Nat.not_lt_zero _)
  | succ n ih => intro a1 a2 a3 a4 a5 a6 a7 a8 a9 a10 a11 h1 h2; exact hs (lo11 F n) a1 a2 a3 a4 a5 a6 a7 a8 a9 a10 a11 h1 (fun b1 b2 b3 b4 b5 b6 b7 b8 b9 b10 b11 h3 h4 => ih b1 b2 b3 b4 b5 b6 b7 b8 b9 b10 b11 h3 (by omega))
/-- a loop that counts: from i on, with invariant I -/
theorem lo11_F {A1 A2 A3 A4 A5 A6 A7 A8 A9 A10 A11 R : Type} {F : (A1 → A2 → A3 → A4 → A5 → A6 → A7 → A8 → A9 → A10 → A11 → Option R) → A1 → A2 → A3 → A4 → A5 → A6 → A7 → A8 → A9 → A10 → A11 → Option R} {Q : R → Prop} (I : A1 → A2 → A3 → A4 → A5 → A6 → A7 → A8 → A9 → A10 → A11 → Prop) (μ : A1 → A2 → A3 → A4 → A5 → A6 → A7 → A8 → A9 → A10 → A11 → Nat) (hs : ∀ (k : A1 → A2 → A3 → A4 → A5 → A6 → A7 → A8 → A9 → A10 → A11 → Option R) (a1 : A1) (a2 : A2) (a3 : A3) (a4 : A4) (a5 : A5) (a6 : A6) (a7 : A7) (a8 : A8) (a9 : A9) (a10 : A10) (a11 : A11), I a1 a2 a3 a4 a5 a6 a7 a8 a9 a10 a11 → (∀ (b1 : A1) (b2 : A2) (b3 : A3) (b4 : A4) (b5 : A5) (b6 : A6) (b7 : A7) (b8 : A8) (b9 : A9) (b10 : A10) (b11 : A11), I b1 b2 b3 b4 b5 b6 b7 b8 b9 b10 b11 → μ b1 b2 b3 b4 b5 b6 b7 b8 b9 b10 b11 < μ a1 a2 a3 a4 a5 a6 a7 a8 a9 a10 a11 → ok (k b1 b2 b3 b4 b5 b6 b7 b8 b9 b10 b11) Q) → ok (F k a1 a2 a3 a4 a5 a6 a7 a8 a9 a10 a11) Q) {a1 : A1} {a2 : A2} {a3 : A3} {a4 : A4} {a5 : A5} {a6 : A6} {a7 : A7} {a8 : A8} {a9 : A9} {a10 : A10} {a11 : A11} (h : I a1 a2 a3 a4 a5 a6 a7 a8 a9 a10 a11) (hm : μ a1 a2 a3 a4 a5 a6 a7 a8 a9 a10 a11 < 100000) : ok (lo11 F ck_F a1 a2 a3 a4 a5 a6 a7 a8 a9 a10 a11) Q := lo11_ok I μ hs ck_F a1 a2 a3 a4 a5 a6 a7 a8 a9 a10 a11 h hm
def lo12 {A1 A2 A3 A4 A5 A6 A7 A8 A9 A10 A11 A12 R : Type} (F : (A1 → A2 → A3 → A4 → A5 → A6 → A7 → A8 → A9 → A10 → A11 → A12 → Option R) → A1 → A2 → A3 → A4 → A5 → A6 → A7 → A8 → A9 → A10 → A11 → A12 → Option R) : Nat → A1 → A2 → A3 → A4 → A5 → A6 → A7 → A8 → A9 → A10 → A11 → A12 → Option R
  | 0 => fun _ _ _ _ _ _ _ _ _ _ _ _ => none
  | n + 1 => F (lo12 F n)
theorem lo12_W {A1 A2 A3 A4 A5 A6 A7 A8 A9 A10 A11 A12 R : Type} {F : (A1 → A2 → A3 → A4 → A5 → A6 → A7 → A8 → A9 → A10 → A11 → A12 → Option R) → A1 → A2 → A3 → A4 → A5 → A6 → A7 → A8 → A9 → A10 → A11 → A12 → Option R} {r : R} (P : A1 → A2 → A3 → A4 → A5 → A6 → A7 → A8 → A9 → A10 → A11 → A12 → Prop) (hs : ∀ (k : A1 → A2 → A3 → A4 → A5 → A6 → A7 → A8 → A9 → A10 → A11 → A12 → Option R) (a1 : A1) (a2 : A2) (a3 : A3) (a4 : A4) (a5 : A5) (a6 : A6) (a7 : A7) (a8 : A8) (a9 : A9) (a10 : A10) (a11 : A11) (a12 : A12), (∀ (b1 : A1) (b2 : A2) (b3 : A3) (b4 : A4) (b5 : A5) (b6 : A6) (b7 : A7) (b8 : A8) (b9 : A9) (b10 : A10) (b11 : A11) (b12 : A12), k b1 b2 b3 b4 b5 b6 b7 b8 b9 b10 b11 b12 = some r → P b1 b2 b3 b4 b5 b6 b7 b8 b9 b10 b11 b12) → F k a1 a2 a3 a4 a5 a6 a7 a8 a9 a10 a11 a12 = some r → P a1 a2 a3 a4 a5 a6 a7 a8 a9 a10 a11 a12) : ∀ (n : Nat) (a1 : A1) (a2 : A2) (a3 : A3) (a4 : A4) (a5 : A5) (a6 : A6) (a7 : A7) (a8 : A8) (a9 : A9) (a10 : A10) (a11 : A11) (a12 : A12), lo12 F n a1 a2 a3 a4 a5 a6 a7 a8 a9 a10 a11 a12 = some r → P a1 a2 a3 a4 a5 a6 a7 a8 a9 a10 a11 a12 := by
  intro n
  induction n with
  | zero => intro a1 a2 a3 a4 a5 a6 a7 a8 a9 a10 a11 a12 h; cases h
  | succ n ih => intro a1 a2 a3 a4 a5 a6 a7 a8 a9 a10 a11 a12 h; exact hs (lo12 F n) a1 a2 a3 a4 a5 a6 a7 a8 a9 a10 a11 a12 ih h
theorem lo12_ok {A1 A2 A3 A4 A5 A6 A7 A8 A9 A10 A11 A12 R : Type} {F : (A1 → A2 → A3 → A4 → A5 → A6 → A7 → A8 → A9 → A10 → A11 → A12 → Option R) → A1 → A2 → A3 → A4 → A5 → A6 → A7 → A8 → A9 → A10 → A11 → A12 → Option R} {Q : R → Prop} (I : A1 → A2 → A3 → A4 → A5 → A6 → A7 → A8 → A9 → A10 → A11 → A12 → Prop) (μ : A1 → A2 → A3 → A4 → A5 → A6 → A7 → A8 → A9 → A10 → A11 → A12 → Nat) (hs : ∀ (k : A1 → A2 → A3 → A4 → A5 → A6 → A7 → A8 → A9 → A10 → A11 → A12 → Option R) (a1 : A1) (a2 : A2) (a3 : A3) (a4 : A4) (a5 : A5) (a6 : A6) (a7 : A7) (a8 : A8) (a9 : A9) (a10 : A10) (a11 : A11) (a12 : A12), I a1 a2 a3 a4 a5 a6 a7 a8 a9 a10 a11 a12 → (∀ (b1 : A1) (b2 : A2) (b3 : A3) (b4 : A4) (b5 : A5) (b6 : A6) (b7 : A7) (b8 : A8) (b9 : A9) (b10 : A10) (b11 : A11) (b12 : A12), I b1 b2 b3 b4 b5 b6 b7 b8 b9 b10 b11 b12 → μ b1 b2 b3 b4 b5 b6 b7 b8 b9 b10 b11 b12 < μ a1 a2 a3 a4 a5 a6 a7 a8 a9 a10 a11 a12 → ok (k b1 b2 b3 b4 b5 b6 b7 b8 b9 b10 b11 b12) Q) → ok (F k a1 a2 a3 a4 a5 a6 a7 a8 a9 a10 a11 a12) Q) : ∀ (n : Nat) (a1 : A1) (a2 : A2) (a3 : A3) (a4 : A4) (a5 : A5) (a6 : A6) (a7 : A7) (a8 : A8) (a9 : A9) (a10 : A10) (a11 : A11) (a12 : A12), I a1 a2 a3 a4 a5 a6 a7 a8 a9 a10 a11 a12 → μ a1 a2 a3 a4 a5 a6 a7 a8 a9 a10 a11 a12 < n → ok (lo12 F n a1 a2 a3 a4 a5 a6 a7 a8 a9 a10 a11 a12) Q := by
  intro n
  induction n with
  | zero => intro a1 a2 a3 a4 a5 a6 a7 a8 a9 a10 a11 a12 h1 h2; exact absurd h2 (Nat.not_lt_zero _)
  | succ n ih => intro a1 a2 a3 a4 a5 a6 a7 a8 a9 a10 a11 a12 h1 h2; exact hs (lo12 F n) a1 a2 a3 a4 a5 a6 a7 a8 a9 a10 a11 a12 h1 (fun b1 b2 b3 b4 b5 b6 b7 b8 b9 b10 b11 b12 h3 h4 => ih b1 b2 b3 b4 b5 b6 b7 b8 b9 b10 b11 b12 h3 (by omega))
/-- a loop that counts: from i on, with invariant I -/
theorem lo12_F {A1 A2 A3 A4 A5 A6 A7 A8 A9 A10 A11 A12 R : Type} {F : (A1 → A2 → A3 → A4 → A5 → A6 → A7 → A8 → A9 → A10 → A11 → A12 → Option R) → A1 → A2 → A3 → A4 → A5 → A6 → A7 → A8 → A9 → A10 → A11 → A12 → Option R} {Q : R → Prop} (I : A1 → A2 → A3 → A4 → A5 → A6 → A7 → A8 → A9 → A10 → A11 → A12 → Prop) (μ : A1 → A2 → A3 → A4 → A5 → A6 → A7 → A8 → A9 → A10 → A11 → A12 → Nat) (hs : ∀ (k : A1 → A2 → A3 → A4 → A5 → A6 → A7 → A8 → A9 → A10 → A11 → A12 → Option R) (a1 : A1) (a2 : A2) (a3 : A3) (a4 : A4) (a5 : A5) (a6 : A6) (a7 : A7) (a8 : A8) (a9 : A9) (a10 : A10) (a11 : A11) (a12 : A12), I a1 a2 a3 a4 a5 a6 a7 a8 a9 a10 a11 a12 → (∀ (b1 : A1) (b2 : A2) (b3 : A3) (b4 : A4) (b5 : A5) (b6 : A6) (b7 : A7) (b8 : A8) (b9 : A9) (b10 : A10) (b11 : A11) (b12 : A12), I b1 b2 b3 b4 b5 b6 b7 b8 b9 b10 b11 b12 → μ b1 b2 b3 b4 b5 b6 b7 b8 b9 b10 b11 b12 < μ a1 a2 a3 a4 a5 a6 a7 a8 a9 a10 a11 a12 → ok (k b1 b2 b3 b4 b5 b6 b7 b8 b9 b10 b11 b12) Q) → ok (F k a1 a2 a3 a4 a5 a6 a7 a8 a9 a10 a11 a12) Q) {a1 : A1} {a2 : A2} {a3 : A3} {a4 : A4} {a5 : A5} {a6 : A6} {a7 : A7} {a8 : A8} {a9 : A9} {a10 : A10} {a11 : A11} {a12 : A12} (h : I a1 a2 a3 a4 a5 a6 a7 a8 a9 a10 a11 a12) (hm : μ a1 a2 a3 a4 a5 a6 a7 a8 a9 a10 a11 a12 < 100000) : ok (lo12 F ck_F a1 a2 a3 a4 a5 a6 a7 a8 a9 a10 a11 a12) Q := lo12_ok I μ hs ck_F a1 a2 a3 a4 a5 a6 a7 a8 a9 a10 a11 a12 h hm
end
section
theorem d_In_bitCount_0 : decode prog_9_method_49_code 0 = .ok (.iload_n 0, 1) := by decide +kernel
theorem d_In_bitCount_1 : decode prog_9_method_49_code 1 = .ok (.iload_n 0, 1) := by decide +kernel
theorem d_In_bitCount_2 : decode prog_9_method_49_code 2 = .ok (.iconst 1, 1) := by decide +kernel
theorem d_In_bitCount_3 : decode prog_9_method_49_code 3 = .ok (.iushr, 1) := by decide +kernel
theorem d_In_bitCount_4 : decode prog_9_method_49_code 4 = .ok (.ldc_w 265, 3) := by decide +kernel
theorem d_In_bitCount_7 : decode prog_9_method_49_code 7 = .ok (.iand, 1) := by decide +kernel
theorem d_In_bitCount_8 : decode prog_9_method_49_code 8 = .ok (.isub, 1) := by decide +kernel
theorem d_In_bitCount_9 : decode prog_9_method_49_code 9 = .ok (.istore_n 0, 1) := by decide +kernel
theorem d_In_bitCount_10 : decode prog_9_method_49_code 10 = .ok (.iload_n 0, 1) := by decide +kernel
theorem d_In_bitCount_11 : decode prog_9_method_49_code 11 = .ok (.ldc_w 266, 3) := by decide +kernel
theorem d_In_bitCount_14 : decode prog_9_method_49_code 14 = .ok (.iand, 1) := by decide +kernel
theorem d_In_bitCount_15 : decode prog_9_method_49_code 15 = .ok (.iload_n 0, 1) := by decide +kernel
theorem d_In_bitCount_16 : decode prog_9_method_49_code 16 = .ok (.iconst 2, 1) := by decide +kernel
theorem d_In_bitCount_17 : decode prog_9_method_49_code 17 = .ok (.iushr, 1) := by decide +kernel
theorem d_In_bitCount_18 : decode prog_9_method_49_code 18 = .ok (.ldc_w 266, 3) := by decide +kernel
theorem d_In_bitCount_21 : decode prog_9_method_49_code 21 = .ok (.iand, 1) := by decide +kernel
theorem d_In_bitCount_22 : decode prog_9_method_49_code 22 = .ok (.iadd, 1) := by decide +kernel
theorem d_In_bitCount_23 : decode prog_9_method_49_code 23 = .ok (.istore_n 0, 1) := by decide +kernel
theorem d_In_bitCount_24 : decode prog_9_method_49_code 24 = .ok (.iload_n 0, 1) := by decide +kernel
theorem d_In_bitCount_25 : decode prog_9_method_49_code 25 = .ok (.iload_n 0, 1) := by decide +kernel
theorem d_In_bitCount_26 : decode prog_9_method_49_code 26 = .ok (.iconst 4, 1) := by decide +kernel
theorem d_In_bitCount_27 : decode prog_9_method_49_code 27 = .ok (.iushr, 1) := by decide +kernel
theorem d_In_bitCount_28 : decode prog_9_method_49_code 28 = .ok (.iadd, 1) := by decide +kernel
theorem d_In_bitCount_29 : decode prog_9_method_49_code 29 = .ok (.ldc_w 267, 3) := by decide +kernel
theorem d_In_bitCount_32 : decode prog_9_method_49_code 32 = .ok (.iand, 1) := by decide +kernel
theorem d_In_bitCount_33 : decode prog_9_method_49_code 33 = .ok (.istore_n 0, 1) := by decide +kernel
theorem d_In_bitCount_34 : decode prog_9_method_49_code 34 = .ok (.iload_n 0, 1) := by decide +kernel
theorem d_In_bitCount_35 : decode prog_9_method_49_code 35 = .ok (.iload_n 0, 1) := by decide +kernel
theorem d_In_bitCount_36 : decode prog_9_method_49_code 36 = .ok (.bipush 8, 2) := by decide +kernel
theorem d_In_bitCount_38 : decode prog_9_method_49_code 38 = .ok (.iushr, 1) := by decide +kernel
theorem d_In_bitCount_39 : decode prog_9_method_49_code 39 = .ok (.iadd, 1) := by decide +kernel
theorem d_In_bitCount_40 : decode prog_9_method_49_code 40 = .ok (.istore_n 0, 1) := by decide +kernel
theorem d_In_bitCount_41 : decode prog_9_method_49_code 41 = .ok (.iload_n 0, 1) := by decide +kernel
theorem d_In_bitCount_42 : decode prog_9_method_49_code 42 = .ok (.iload_n 0, 1) := by decide +kernel
theorem d_In_bitCount_43 : decode prog_9_method_49_code 43 = .ok (.bipush 16, 2) := by decide +kernel
theorem d_In_bitCount_45 : decode prog_9_method_49_code 45 = .ok (.iushr, 1) := by decide +kernel
theorem d_In_bitCount_46 : decode prog_9_method_49_code 46 = .ok (.iadd, 1) := by decide +kernel
theorem d_In_bitCount_47 : decode prog_9_method_49_code 47 = .ok (.istore_n 0, 1) := by decide +kernel
theorem d_In_bitCount_48 : decode prog_9_method_49_code 48 = .ok (.iload_n 0, 1) := by decide +kernel
theorem d_In_bitCount_49 : decode prog_9_method_49_code 49 = .ok (.bipush 63, 2) := by decide +kernel
theorem d_In_bitCount_51 : decode prog_9_method_49_code 51 = .ok (.iand, 1) := by decide +kernel
theorem d_In_bitCount_52 : decode prog_9_method_49_code 52 = .ok (.ireturn, 1) := by decide +kernel
def f_bitCount (i : Int32) : Option (Int32) :=
  ck_nm (i - (((i.toUInt32 >>> ((1 : Int32).toUInt32 &&& Int32.toUInt32 31)).toInt32) &&& 1431655765)) <| fun x_1 => ck_nm ((x_1 &&& 858993459) + (((x_1.toUInt32 >>> ((2 : Int32).toUInt32 &&& Int32.toUInt32 31)).toInt32) &&& 858993459)) <| fun x_2 => ck_nm ((x_2 + ((x_2.toUInt32 >>> ((4 : Int32).toUInt32 &&& Int32.toUInt32 31)).toInt32)) &&& 252645135) <| fun x_3 => ck_nm (x_3 + ((x_3.toUInt32 >>> ((8 : Int32).toUInt32 &&& Int32.toUInt32 31)).toInt32)) <| fun x_4 => ck_nm (x_4 + ((x_4.toUInt32 >>> ((16 : Int32).toUInt32 &&& Int32.toUInt32 31)).toInt32)) <| fun x_5 => some (x_5 &&& 63)
set_option maxHeartbeats 4000000 in
set_option maxRecDepth 100000 in
theorem c_bitCount (l : Launch) (dC : Nat → ClassId) (dI : Nat → Nat → Nat) (cI cJ cB cZ cT cN : ClassId) (sz : Nat) (i : Int32) (r : Int32) (h : f_bitCount i = some r) : Met l y_In_bitCount w_In_bitCount ({ frames := 0, cells := 0, slots := 0, locals := 0 } : Room) (va_Pc [.int i] (fun U => U.heap.size = sz ∧ va_P (dC, dI) cl_all [] U.heap ∧ va_K (dC, dI) cl_all [(cI, .int), (cJ, .long), (cB, .byte), (cZ, .boolean), (cT, .object "BasisWalk$Table"), (cN, .object "BasisWalkModel$Num")] U ∧ NW U ∧ va_D (fun _ => True) [])) (va_Qi (fun (v : Int32) (_ : Unit) => v = r) (fun (u : Unit) (t : State) => va_P (dC, dI) cl_all [] t.heap ∧ va_K (dC, dI) cl_all [(cI, .int), (cJ, .long), (cB, .byte), (cZ, .boolean), (cT, .object "BasisWalk$Table"), (cN, .object "BasisWalkModel$Num")] t ∧ va_D (va_A [] sz) []) (va_A [] sz)) 0 0 (va_A [] sz) := by
  refine va_MetF (cc := prog_9_method_49_code) (maxL := 1) (ret := (Option.some Jvm.ClassFile.FieldType.int)) (by decide +kernel) rfl ?_
  intro p e s m args below meth c s₁ B hml hv
  obtain ⟨hAR, hsz, hP, hK, hN, hD0⟩ := hv
  have hx := B.exec
  have hb := B.bytes
  have hr := B.returns
  have hts := atoms_spec (ws := w_In_bitCount) B.pre
  have hown : s.vm.findClass "java/lang/Integer" = some m.cls := findClass_of_methodNamed B.named
  have hlocks := B.notSynchronized
  clear B
  subst hsz
  have hD := hD0.self (sz := s.heap.size)
  generalize hAe : va_A [] s.heap.size = A at hD ⊢
  have hA : ∀ q : Nat, s.heap.size ≤ q → A q := fun q h => by rw [← hAe]; exact Or.inr h
  clear hAe hD0
  have hS : va_S A s.heap s.heap [] := va_S.rf
  have hl := lv_entry ([.int i]) (n := 1) (Nat.le_of_ble_eq_true rfl)
  subst hAR
  rw [lg_entry_eq]
  generalize (lg_sl ([.int i]) ++ List.replicate (1 - (lg_sl ([.int i])).length) Slot.unset).toArray = ls at hl ⊢
  have hl : lv_has ls 1 [(0, .int i)] := hl
  change W p l e ({ frames := 0, cells := 0, slots := 0, locals := 0 } : Room) s m _ below meth c s.heap [] 0 0 _ _
  generalize hARe : ([.int i] : List Value).toArray = AR at hts ⊢
  clear hARe
  generalize hQ : MQ below _ AR s 0 0 A = QQ
  have kc0 := hts _ (List.mem_cons_of_mem _ tw_198)
  have kc1 := hts _ (List.mem_cons_of_mem _ tw_199)
  have kc2 := hts _ (List.mem_cons_of_mem _ tw_200)
  obtain ⟨H, hHe⟩ : ∃ H : Heap, H = s.heap := ⟨_, rfl⟩
  rw [← hHe] at hP ⊢
  replace hS : va_S A s.heap H [] := by rw [hHe]; exact va_S.rf
  clear hHe
  unfold f_bitCount at h
  refine lv_iload_n hx hb d_In_bitCount_0 rfl (lv_at hl 0 rfl) ?_
  refine lv_iload_n hx hb d_In_bitCount_1 rfl (lv_at hl 0 rfl) ?_
  refine lv_iconst (v := 1) hx hb d_In_bitCount_2 (by decide) ?_
  refine lv_iushr hx hb d_In_bitCount_3 rfl ?_
  refine lv_ldcw (v := 1431655765) hx hb hown kc0 d_In_bitCount_4 ?_
  refine lv_iand hx hb d_In_bitCount_7 ?_
  refine lv_isub hx hb d_In_bitCount_8 ?_
  refine lv_topi (fun x_1 ex_1 => ?_)
  replace h := ck_nm_s h ex_1
  refine lv_istore_n (lv' := [(0, .int x_1)]) hx hb d_In_bitCount_9 rfl hl (by decide) rfl (fun ls hl => ?_)
  refine lv_iload_n hx hb d_In_bitCount_10 rfl (lv_at hl 0 rfl) ?_
  refine lv_ldcw (v := 858993459) hx hb hown kc1 d_In_bitCount_11 ?_
  refine lv_iand hx hb d_In_bitCount_14 ?_
  refine lv_iload_n hx hb d_In_bitCount_15 rfl (lv_at hl 0 rfl) ?_
  refine lv_iconst (v := 2) hx hb d_In_bitCount_16 (by decide) ?_
  refine lv_iushr hx hb d_In_bitCount_17 rfl ?_
  refine lv_ldcw (v := 858993459) hx hb hown kc1 d_In_bitCount_18 ?_
  refine lv_iand hx hb d_In_bitCount_21 ?_
  refine lv_iadd hx hb d_In_bitCount_22 ?_
  refine lv_topi (fun x_2 ex_2 => ?_)
  replace h := ck_nm_s h ex_2
  refine lv_istore_n (lv' := [(0, .int x_2)]) hx hb d_In_bitCount_23 rfl hl (by decide) rfl (fun ls hl => ?_)
  refine lv_iload_n hx hb d_In_bitCount_24 rfl (lv_at hl 0 rfl) ?_
  refine lv_iload_n hx hb d_In_bitCount_25 rfl (lv_at hl 0 rfl) ?_
  refine lv_iconst (v := 4) hx hb d_In_bitCount_26 (by decide) ?_
  refine lv_iushr hx hb d_In_bitCount_27 rfl ?_
  refine lv_iadd hx hb d_In_bitCount_28 ?_
  refine lv_ldcw (v := 252645135) hx hb hown kc2 d_In_bitCount_29 ?_
  refine lv_iand hx hb d_In_bitCount_32 ?_
  refine lv_topi (fun x_3 ex_3 => ?_)
  replace h := ck_nm_s h ex_3
  refine lv_istore_n (lv' := [(0, .int x_3)]) hx hb d_In_bitCount_33 rfl hl (by decide) rfl (fun ls hl => ?_)
  refine lv_iload_n hx hb d_In_bitCount_34 rfl (lv_at hl 0 rfl) ?_
  refine lv_iload_n hx hb d_In_bitCount_35 rfl (lv_at hl 0 rfl) ?_
  refine lv_bipush (v := 8) hx hb d_In_bitCount_36 (by decide) ?_
  refine lv_iushr hx hb d_In_bitCount_38 rfl ?_
  refine lv_iadd hx hb d_In_bitCount_39 ?_
  refine lv_topi (fun x_4 ex_4 => ?_)
  replace h := ck_nm_s h ex_4
  refine lv_istore_n (lv' := [(0, .int x_4)]) hx hb d_In_bitCount_40 rfl hl (by decide) rfl (fun ls hl => ?_)
  refine lv_iload_n hx hb d_In_bitCount_41 rfl (lv_at hl 0 rfl) ?_
  refine lv_iload_n hx hb d_In_bitCount_42 rfl (lv_at hl 0 rfl) ?_
  refine lv_bipush (v := 16) hx hb d_In_bitCount_43 (by decide) ?_
  refine lv_iushr hx hb d_In_bitCount_45 rfl ?_
  refine lv_iadd hx hb d_In_bitCount_46 ?_
  refine lv_topi (fun x_5 ex_5 => ?_)
  replace h := ck_nm_s h ex_5
  refine lv_istore_n (lv' := [(0, .int x_5)]) hx hb d_In_bitCount_47 rfl hl (by decide) rfl (fun ls hl => ?_)
  refine lv_iload_n hx hb d_In_bitCount_48 rfl (lv_at hl 0 rfl) ?_
  refine lv_bipush (v := 63) hx hb d_In_bitCount_49 (by decide) ?_
  refine lv_iand hx hb d_In_bitCount_51 ?_
  obtain rfl := Option.some.inj h
  subst hQ
  exact W.iret (v := (x_5 &&& 63)) hx hb hr (fun t ht hW => ⟨⟨(x_5 &&& 63), (), rfl, rfl, by rw [ht]; exact hP, va_K.moved hW.alike hK, hD⟩, hS.F ht⟩) hS.2.2 d_In_bitCount_52
theorem d_Ma_floorMod_0_0 : decode prog_10_method_50_code 0 = .ok (.iload_n 0, 1) := by decide +kernel
theorem d_Ma_floorMod_0_1 : decode prog_10_method_50_code 1 = .ok (.iload_n 1, 1) := by decide +kernel
theorem d_Ma_floorMod_0_2 : decode prog_10_method_50_code 2 = .ok (.irem, 1) := by decide +kernel
theorem d_Ma_floorMod_0_3 : decode prog_10_method_50_code 3 = .ok (.istore_n 2, 1) := by decide +kernel
theorem d_Ma_floorMod_0_4 : decode prog_10_method_50_code 4 = .ok (.iload_n 0, 1) := by decide +kernel
theorem d_Ma_floorMod_0_5 : decode prog_10_method_50_code 5 = .ok (.iload_n 1, 1) := by decide +kernel
theorem d_Ma_floorMod_0_6 : decode prog_10_method_50_code 6 = .ok (.ixor, 1) := by decide +kernel
theorem d_Ma_floorMod_0_7 : decode prog_10_method_50_code 7 = .ok (.ifCond .ge 11, 3) := by decide +kernel
theorem d_Ma_floorMod_0_10 : decode prog_10_method_50_code 10 = .ok (.iload_n 2, 1) := by decide +kernel
theorem d_Ma_floorMod_0_11 : decode prog_10_method_50_code 11 = .ok (.ifCond .eq 7, 3) := by decide +kernel
theorem d_Ma_floorMod_0_14 : decode prog_10_method_50_code 14 = .ok (.iload_n 2, 1) := by decide +kernel
theorem d_Ma_floorMod_0_15 : decode prog_10_method_50_code 15 = .ok (.iload_n 1, 1) := by decide +kernel
theorem d_Ma_floorMod_0_16 : decode prog_10_method_50_code 16 = .ok (.iadd, 1) := by decide +kernel
theorem d_Ma_floorMod_0_17 : decode prog_10_method_50_code 17 = .ok (.ireturn, 1) := by decide +kernel
theorem d_Ma_floorMod_0_18 : decode prog_10_method_50_code 18 = .ok (.iload_n 2, 1) := by decide +kernel
theorem d_Ma_floorMod_0_19 : decode prog_10_method_50_code 19 = .ok (.ireturn, 1) := by decide +kernel
def f_floorMod (x : Int32) (y : Int32) : Option (Int32) :=
  ck_nz y <| ck_nm (x - x / y * y) <| fun x_2 => ck_if (0 ≤ (x ^^^ y)) (some x_2) (ck_if (x_2 = 0) (some x_2) (some (x_2 + y)))
set_option maxHeartbeats 4000000 in
set_option maxRecDepth 100000 in
theorem c_floorMod (l : Launch) (dC : Nat → ClassId) (dI : Nat → Nat → Nat) (cI cJ cB cZ cT cN : ClassId) (sz : Nat) (x : Int32) (y : Int32) (r : Int32) (h : f_floorMod x y = some r) : Met l y_Ma_floorMod_0 w_Ma_floorMod_0 ({ frames := 0, cells := 0, slots := 0, locals := 0 } : Room) (va_Pc [.int x, .int y] (fun U => U.heap.size = sz ∧ va_P (dC, dI) cl_all [] U.heap ∧ va_K (dC, dI) cl_all [(cI, .int), (cJ, .long), (cB, .byte), (cZ, .boolean), (cT, .object "BasisWalk$Table"), (cN, .object "BasisWalkModel$Num")] U ∧ NW U ∧ va_D (fun _ => True) [])) (va_Qi (fun (v : Int32) (_ : Unit) => v = r) (fun (u : Unit) (t : State) => va_P (dC, dI) cl_all [] t.heap ∧ va_K (dC, dI) cl_all [(cI, .int), (cJ, .long), (cB, .byte), (cZ, .boolean), (cT, .object "BasisWalk$Table"), (cN, .object "BasisWalkModel$Num")] t ∧ va_D (va_A [] sz) []) (va_A [] sz)) 0 0 (va_A [] sz) := by
  refine va_MetF (cc := prog_10_method_50_code) (maxL := 3) (ret := (Option.some Jvm.ClassFile.FieldType.int)) (by decide +kernel) rfl ?_
  intro p e s m args below meth c s₁ B hml hv
  obtain ⟨hAR, hsz, hP, hK, hN, hD0⟩ := hv
  have hx := B.exec
  have hb := B.bytes
  have hr := B.returns
  have hts := atoms_spec (ws := w_Ma_floorMod_0) B.pre
  have hown : s.vm.findClass "java/lang/Math" = some m.cls := findClass_of_methodNamed B.named
  have hlocks := B.notSynchronized
  clear B
  subst hsz
  have hD := hD0.self (sz := s.heap.size)
  generalize hAe : va_A [] s.heap.size = A at hD ⊢
  have hA : ∀ q : Nat, s.heap.size ≤ q → A q := fun q h => by rw [← hAe]; exact Or.inr h
  clear hAe hD0
  have hS : va_S A s.heap s.heap [] := va_S.rf
  have hl := lv_entry ([.int x, .int y]) (n := 3) (Nat.le_of_ble_eq_true rfl)
  subst hAR
  rw [lg_entry_eq]
  generalize (lg_sl ([.int x, .int y]) ++ List.replicate (3 - (lg_sl ([.int x, .int y])).length) Slot.unset).toArray = ls at hl ⊢
  have hl : lv_has ls 3 [(0, .int x), (1, .int y)] := hl
  change W p l e ({ frames := 0, cells := 0, slots := 0, locals := 0 } : Room) s m _ below meth c s.heap [] 0 0 _ _
  generalize hARe : ([.int x, .int y] : List Value).toArray = AR at hts ⊢
  clear hARe
  generalize hQ : MQ below _ AR s 0 0 A = QQ
  obtain ⟨H, hHe⟩ : ∃ H : Heap, H = s.heap := ⟨_, rfl⟩
  rw [← hHe] at hP ⊢
  replace hS : va_S A s.heap H [] := by rw [hHe]; exact va_S.rf
  clear hHe
  unfold f_floorMod at h
  refine lv_iload_n hx hb d_Ma_floorMod_0_0 rfl (lv_at hl 0 rfl) ?_
  refine lv_iload_n hx hb d_Ma_floorMod_0_1 rfl (lv_at hl 1 rfl) ?_
  obtain ⟨g_1, h⟩ := ck_nz_s h
  refine lv_irem hx hb d_Ma_floorMod_0_2 g_1 ?_
  refine lv_topi (fun x_2 ex_2 => ?_)
  replace h := ck_nm_s h ex_2
  refine lv_istore_n (lv' := [(2, .int x_2), (0, .int x), (1, .int y)]) hx hb d_Ma_floorMod_0_3 rfl hl (by decide) rfl (fun ls hl => ?_)
  refine lv_iload_n hx hb d_Ma_floorMod_0_4 rfl (lv_at hl 1 rfl) ?_
  refine lv_iload_n hx hb d_Ma_floorMod_0_5 rfl (lv_at hl 2 rfl) ?_
  refine lv_ixor hx hb d_Ma_floorMod_0_6 ?_
  refine lv_if_ge (tgt := 18) hx hb d_Ma_floorMod_0_7 (by decide) (fun c_3 => ?_) (fun c_3 => ?_)
  · replace h := ck_if_t h c_3
    refine lv_iload_n hx hb d_Ma_floorMod_0_18 rfl (lv_at hl 0 rfl) ?_
    obtain rfl := Option.some.inj h
    subst hQ
    exact W.iret (v := x_2) hx hb hr (fun t ht hW => ⟨⟨x_2, (), rfl, rfl, by rw [ht]; exact hP, va_K.moved hW.alike hK, hD⟩, hS.F ht⟩) hS.2.2 d_Ma_floorMod_0_19
  · replace h := ck_if_f h c_3
    refine lv_iload_n hx hb d_Ma_floorMod_0_10 rfl (lv_at hl 0 rfl) ?_
    refine lv_if_eq (tgt := 18) hx hb d_Ma_floorMod_0_11 (by decide) (fun c_4 => ?_) (fun c_4 => ?_)
    · replace h := ck_if_t h c_4
      refine lv_iload_n hx hb d_Ma_floorMod_0_18 rfl (lv_at hl 0 rfl) ?_
      obtain rfl := Option.some.inj h
      subst hQ
      exact W.iret (v := x_2) hx hb hr (fun t ht hW => ⟨⟨x_2, (), rfl, rfl, by rw [ht]; exact hP, va_K.moved hW.alike hK, hD⟩, hS.F ht⟩) hS.2.2 d_Ma_floorMod_0_19
    · replace h := ck_if_f h c_4
      refine lv_iload_n hx hb d_Ma_floorMod_0_14 rfl (lv_at hl 0 rfl) ?_
      refine lv_iload_n hx hb d_Ma_floorMod_0_15 rfl (lv_at hl 2 rfl) ?_
      refine lv_iadd hx hb d_Ma_floorMod_0_16 ?_
      obtain rfl := Option.some.inj h
      subst hQ
      exact W.iret (v := (x_2 + y)) hx hb hr (fun t ht hW => ⟨⟨(x_2 + y), (), rfl, rfl, by rw [ht]; exact hP, va_K.moved hW.alike hK, hD⟩, hS.F ht⟩) hS.2.2 d_Ma_floorMod_0_17
theorem d_Ma_floorMod_1_0 : decode prog_10_method_52_code 0 = .ok (.lload_n 0, 1) := by decide +kernel
theorem d_Ma_floorMod_1_1 : decode prog_10_method_52_code 1 = .ok (.lload_n 2, 1) := by decide +kernel
theorem d_Ma_floorMod_1_2 : decode prog_10_method_52_code 2 = .ok (.lrem, 1) := by decide +kernel
theorem d_Ma_floorMod_1_3 : decode prog_10_method_52_code 3 = .ok (.lstore 4, 2) := by decide +kernel
theorem d_Ma_floorMod_1_5 : decode prog_10_method_52_code 5 = .ok (.lload_n 0, 1) := by decide +kernel
theorem d_Ma_floorMod_1_6 : decode prog_10_method_52_code 6 = .ok (.lload_n 2, 1) := by decide +kernel
theorem d_Ma_floorMod_1_7 : decode prog_10_method_52_code 7 = .ok (.lxor, 1) := by decide +kernel
theorem d_Ma_floorMod_1_8 : decode prog_10_method_52_code 8 = .ok (.lconst 0, 1) := by decide +kernel
theorem d_Ma_floorMod_1_9 : decode prog_10_method_52_code 9 = .ok (.lcmp, 1) := by decide +kernel
theorem d_Ma_floorMod_1_10 : decode prog_10_method_52_code 10 = .ok (.ifCond .ge 15, 3) := by decide +kernel
theorem d_Ma_floorMod_1_13 : decode prog_10_method_52_code 13 = .ok (.lload 4, 2) := by decide +kernel
theorem d_Ma_floorMod_1_15 : decode prog_10_method_52_code 15 = .ok (.lconst 0, 1) := by decide +kernel
theorem d_Ma_floorMod_1_16 : decode prog_10_method_52_code 16 = .ok (.lcmp, 1) := by decide +kernel
theorem d_Ma_floorMod_1_17 : decode prog_10_method_52_code 17 = .ok (.ifCond .eq 8, 3) := by decide +kernel
theorem d_Ma_floorMod_1_20 : decode prog_10_method_52_code 20 = .ok (.lload 4, 2) := by decide +kernel
theorem d_Ma_floorMod_1_22 : decode prog_10_method_52_code 22 = .ok (.lload_n 2, 1) := by decide +kernel
theorem d_Ma_floorMod_1_23 : decode prog_10_method_52_code 23 = .ok (.ladd, 1) := by decide +kernel
theorem d_Ma_floorMod_1_24 : decode prog_10_method_52_code 24 = .ok (.lreturn, 1) := by decide +kernel
theorem d_Ma_floorMod_1_25 : decode prog_10_method_52_code 25 = .ok (.lload 4, 2) := by decide +kernel
theorem d_Ma_floorMod_1_27 : decode prog_10_method_52_code 27 = .ok (.lreturn, 1) := by decide +kernel
def f_floorModL (x : Int64) (y : Int64) : Option (Int64) :=
  ck_nzL y <| ck_nm (x - x / y * y) <| fun x_2 => ck_if (0 ≤ (lg_cmp (x ^^^ y) 0)) (some x_2) (ck_if ((lg_cmp x_2 0) = 0) (some x_2) (some (x_2 + y)))
set_option maxHeartbeats 4000000 in
set_option maxRecDepth 100000 in
theorem c_floorModL (l : Launch) (dC : Nat → ClassId) (dI : Nat → Nat → Nat) (cI cJ cB cZ cT cN : ClassId) (sz : Nat) (x : Int64) (y : Int64) (r : Int64) (h : f_floorModL x y = some r) : Met l y_Ma_floorMod_1 w_Ma_floorMod_1 ({ frames := 0, cells := 0, slots := 0, locals := 0 } : Room) (va_Pc [.long x, .long y] (fun U => U.heap.size = sz ∧ va_P (dC, dI) cl_all [] U.heap ∧ va_K (dC, dI) cl_all [(cI, .int), (cJ, .long), (cB, .byte), (cZ, .boolean), (cT, .object "BasisWalk$Table"), (cN, .object "BasisWalkModel$Num")] U ∧ NW U ∧ va_D (fun _ => True) [])) (va_Ql (fun (v : Int64) (_ : Unit) => v = r) (fun (u : Unit) (t : State) => va_P (dC, dI) cl_all [] t.heap ∧ va_K (dC, dI) cl_all [(cI, .int), (cJ, .long), (cB, .byte), (cZ, .boolean), (cT, .object "BasisWalk$Table"), (cN, .object "BasisWalkModel$Num")] t ∧ va_D (va_A [] sz) []) (va_A [] sz)) 0 0 (va_A [] sz) := by
  refine va_MetF (cc := prog_10_method_52_code) (maxL := 6) (ret := (Option.some Jvm.ClassFile.FieldType.long)) (by decide +kernel) rfl ?_
  intro p e s m args below meth c s₁ B hml hv
  obtain ⟨hAR, hsz, hP, hK, hN, hD0⟩ := hv
  have hx := B.exec
  have hb := B.bytes
  have hr := B.returns
  have hts := atoms_spec (ws := w_Ma_floorMod_1) B.pre
  have hown : s.vm.findClass "java/lang/Math" = some m.cls := findClass_of_methodNamed B.named
  have hlocks := B.notSynchronized
  clear B
  subst hsz
  have hD := hD0.self (sz := s.heap.size)
  generalize hAe : va_A [] s.heap.size = A at hD ⊢
  have hA : ∀ q : Nat, s.heap.size ≤ q → A q := fun q h => by rw [← hAe]; exact Or.inr h
  clear hAe hD0
  have hS : va_S A s.heap s.heap [] := va_S.rf
  have hl := lv_entry ([.long x, .long y]) (n := 6) (Nat.le_of_ble_eq_true rfl)
  subst hAR
  rw [lg_entry_eq]
  generalize (lg_sl ([.long x, .long y]) ++ List.replicate (6 - (lg_sl ([.long x, .long y])).length) Slot.unset).toArray = ls at hl ⊢
  have hl : lv_has ls 6 [(0, .long x), (2, .long y)] := hl
  change W p l e ({ frames := 0, cells := 0, slots := 0, locals := 0 } : Room) s m _ below meth c s.heap [] 0 0 _ _
  generalize hARe : ([.long x, .long y] : List Value).toArray = AR at hts ⊢
  clear hARe
  generalize hQ : MQ below _ AR s 0 0 A = QQ
  obtain ⟨H, hHe⟩ : ∃ H : Heap, H = s.heap := ⟨_, rfl⟩
  rw [← hHe] at hP ⊢
  replace hS : va_S A s.heap H [] := by rw [hHe]; exact va_S.rf
  clear hHe
  unfold f_floorModL at h
  refine lv_lload_n hx hb d_Ma_floorMod_1_0 rfl (lv_at hl 0 rfl) ?_
  refine lv_lload_n hx hb d_Ma_floorMod_1_1 rfl (lv_at hl 1 rfl) ?_
  obtain ⟨g_1, h⟩ := ck_nzL_s h
  refine lv_lrem hx hb d_Ma_floorMod_1_2 g_1 ?_
  refine lv_topl (fun x_2 ex_2 => ?_)
  replace h := ck_nm_s h ex_2
  refine lv_lstore (lv' := [(4, .long x_2), (0, .long x), (2, .long y)]) hx hb d_Ma_floorMod_1_3 hl (by decide) rfl (fun ls hl => ?_)
  refine lv_lload_n hx hb d_Ma_floorMod_1_5 rfl (lv_at hl 1 rfl) ?_
  refine lv_lload_n hx hb d_Ma_floorMod_1_6 rfl (lv_at hl 2 rfl) ?_
  refine lv_lxor hx hb d_Ma_floorMod_1_7 ?_
  refine lv_lconst (v := 0) hx hb d_Ma_floorMod_1_8 (by decide) ?_
  refine W.lcmp hx hb d_Ma_floorMod_1_9 ?_
  refine lv_if_ge (tgt := 25) hx hb d_Ma_floorMod_1_10 (by decide) (fun c_3 => ?_) (fun c_3 => ?_)
  · replace h := ck_if_t h c_3
    refine lv_lload hx hb d_Ma_floorMod_1_25 (lv_at hl 0 rfl) ?_
    obtain rfl := Option.some.inj h
    subst hQ
    exact W.lret (v := x_2) hx hb hr (fun t ht hW => ⟨⟨x_2, (), rfl, rfl, by rw [ht]; exact hP, va_K.moved hW.alike hK, hD⟩, hS.F ht⟩) hS.2.2 d_Ma_floorMod_1_27
  · replace h := ck_if_f h c_3
    refine lv_lload hx hb d_Ma_floorMod_1_13 (lv_at hl 0 rfl) ?_
    refine lv_lconst (v := 0) hx hb d_Ma_floorMod_1_15 (by decide) ?_
    refine W.lcmp hx hb d_Ma_floorMod_1_16 ?_
    refine lv_if_eq (tgt := 25) hx hb d_Ma_floorMod_1_17 (by decide) (fun c_4 => ?_) (fun c_4 => ?_)
    · replace h := ck_if_t h c_4
      refine lv_lload hx hb d_Ma_floorMod_1_25 (lv_at hl 0 rfl) ?_
      obtain rfl := Option.some.inj h
      subst hQ
      exact W.lret (v := x_2) hx hb hr (fun t ht hW => ⟨⟨x_2, (), rfl, rfl, by rw [ht]; exact hP, va_K.moved hW.alike hK, hD⟩, hS.F ht⟩) hS.2.2 d_Ma_floorMod_1_27
    · replace h := ck_if_f h c_4
      refine lv_lload hx hb d_Ma_floorMod_1_20 (lv_at hl 0 rfl) ?_
      refine lv_lload_n hx hb d_Ma_floorMod_1_22 rfl (lv_at hl 2 rfl) ?_
      refine lv_ladd hx hb d_Ma_floorMod_1_23 ?_
      obtain rfl := Option.some.inj h
      subst hQ
      exact W.lret (v := (x_2 + y)) hx hb hr (fun t ht hW => ⟨⟨(x_2 + y), (), rfl, rfl, by rw [ht]; exact hP, va_K.moved hW.alike hK, hD⟩, hS.F ht⟩) hS.2.2 d_Ma_floorMod_1_24
theorem d_Ar_fill_0 : decode prog_11_method_103_code 0 = .ok (.iconst 0, 1) := by decide +kernel
theorem d_Ar_fill_1 : decode prog_11_method_103_code 1 = .ok (.istore_n 2, 1) := by decide +kernel
theorem d_Ar_fill_2 : decode prog_11_method_103_code 2 = .ok (.aload_n 0, 1) := by decide +kernel
theorem d_Ar_fill_3 : decode prog_11_method_103_code 3 = .ok (.arraylength, 1) := by decide +kernel
theorem d_Ar_fill_4 : decode prog_11_method_103_code 4 = .ok (.istore_n 3, 1) := by decide +kernel
theorem d_Ar_fill_5 : decode prog_11_method_103_code 5 = .ok (.iload_n 2, 1) := by decide +kernel
theorem d_Ar_fill_6 : decode prog_11_method_103_code 6 = .ok (.iload_n 3, 1) := by decide +kernel
theorem d_Ar_fill_7 : decode prog_11_method_103_code 7 = .ok (.if_icmp .ge 13, 3) := by decide +kernel
theorem d_Ar_fill_10 : decode prog_11_method_103_code 10 = .ok (.aload_n 0, 1) := by decide +kernel
theorem d_Ar_fill_11 : decode prog_11_method_103_code 11 = .ok (.iload_n 2, 1) := by decide +kernel
theorem d_Ar_fill_12 : decode prog_11_method_103_code 12 = .ok (.iload_n 1, 1) := by decide +kernel
theorem d_Ar_fill_13 : decode prog_11_method_103_code 13 = .ok (.iastore, 1) := by decide +kernel
theorem d_Ar_fill_14 : decode prog_11_method_103_code 14 = .ok (.iinc 2 1, 3) := by decide +kernel
theorem d_Ar_fill_17 : decode prog_11_method_103_code 17 = .ok (.goto (-12), 3) := by decide +kernel
theorem d_Ar_fill_20 : decode prog_11_method_103_code 20 = .ok (.return_, 1) := by decide +kernel
def f_fillI (a_n : Nat) (a : Nat → Int32) (v : Int32) : Option ((Nat → Int32)) :=
  ck_nm (nI a_n) <| fun x_1 => lo2 (fun k_5 (v2_2 : Int32) (w_3 : Nat → Int32) => ck_if (x_1 ≤ v2_2) (some w_3) (ck_in v2_2 a_n <| ck_nm (v2_2 + 1) <| fun x_6 => k_5 x_6 (upd w_3 v2_2.toNatClampNeg v))) ck_F 0 a
set_option maxHeartbeats 4000000 in
set_option maxRecDepth 100000 in
theorem c_fillI (l : Launch) (dC : Nat → ClassId) (dI : Nat → Nat → Nat) (cI cJ cB cZ cT cN : ClassId) (sz : Nat) (h_a : Nat) (a_n : Nat) (a : Nat → Int32) (v : Int32) (r : (Nat → Int32)) (h : f_fillI a_n a v = some r) : Met l y_Ar_fill w_Ar_fill ({ frames := 0, cells := 0, slots := 0, locals := 0 } : Room) (va_Pc [.ref h_a, .int v] (fun U => U.heap.size = sz ∧ va_P (dC, dI) cl_all [(h_a, .inl (cI, a_n, .inl a))] U.heap ∧ va_K (dC, dI) cl_all [(cI, .int), (cJ, .long), (cB, .byte), (cZ, .boolean), (cT, .object "BasisWalk$Table"), (cN, .object "BasisWalkModel$Num")] U ∧ NW U ∧ va_D (fun _ => True) [(h_a, .inl (cI, a_n, .inl a))])) (va_Qv (fun u : (Nat → Int32) => u = r) (fun (u : (Nat → Int32)) (t : State) => va_P (dC, dI) cl_all [(h_a, .inl (cI, a_n, .inl u))] t.heap ∧ va_K (dC, dI) cl_all [(cI, .int), (cJ, .long), (cB, .byte), (cZ, .boolean), (cT, .object "BasisWalk$Table"), (cN, .object "BasisWalkModel$Num")] t ∧ va_D (va_A [(h_a, .inl (cI, a_n, .inl a))] sz) [(h_a, .inl (cI, a_n, .inl u))]) (va_A [(h_a, .inl (cI, a_n, .inl a))] sz)) 0 0 (va_A [(h_a, .inl (cI, a_n, .inl a))] sz) := by
  refine va_MetF (cc := prog_11_method_103_code) (maxL := 4) (ret := (Option.none : Option Jvm.ClassFile.FieldType)) (by decide +kernel) rfl ?_
  intro p e s m args below meth c s₁ B hml hv
  obtain ⟨hAR, hsz, hP, hK, hN, hD0⟩ := hv
  have hx := B.exec
  have hb := B.bytes
  have hr := B.returns
  have hts := atoms_spec (ws := w_Ar_fill) B.pre
  have hown : s.vm.findClass "java/util/Arrays" = some m.cls := findClass_of_methodNamed B.named
  have hlocks := B.notSynchronized
  clear B
  subst hsz
  have hD := hD0.self (sz := s.heap.size)
  generalize hAe : va_A [(h_a, .inl (cI, a_n, .inl a))] s.heap.size = A at hD ⊢
  have hA : ∀ q : Nat, s.heap.size ≤ q → A q := fun q h => by rw [← hAe]; exact Or.inr h
  clear hAe hD0
  have hS : va_S A s.heap s.heap [] := va_S.rf
  have hl := lv_entry ([.ref h_a, .int v]) (n := 4) (Nat.le_of_ble_eq_true rfl)
  subst hAR
  rw [lg_entry_eq]
  generalize (lg_sl ([.ref h_a, .int v]) ++ List.replicate (4 - (lg_sl ([.ref h_a, .int v])).length) Slot.unset).toArray = ls at hl ⊢
  have hl : lv_has ls 4 [(0, .ref h_a), (1, .int v)] := hl
  change W p l e ({ frames := 0, cells := 0, slots := 0, locals := 0 } : Room) s m _ below meth c s.heap [] 0 0 _ _
  generalize hARe : ([.ref h_a, .int v] : List Value).toArray = AR at hts ⊢
  clear hARe
  generalize hQ : MQ below _ AR s 0 0 A = QQ
  obtain ⟨H, hHe⟩ : ∃ H : Heap, H = s.heap := ⟨_, rfl⟩
  rw [← hHe] at hP ⊢
  replace hS : va_S A s.heap H [] := by rw [hHe]; exact va_S.rf
  clear hHe
  unfold f_fillI at h
  refine lv_iconst (v := 0) hx hb d_Ar_fill_0 (by decide) ?_
  refine lv_istore_n (lv' := [(2, .int 0), (0, .ref h_a), (1, .int v)]) hx hb d_Ar_fill_1 rfl hl (by decide) rfl (fun ls hl => ?_)
  refine lv_aload_n hx hb d_Ar_fill_2 rfl (lv_at hl 1 rfl) ?_
  refine va_alen (v := nI a_n) hx hb hK hP 0 0 rfl rfl rfl d_Ar_fill_3 ?_
  refine lv_topi (fun x_1 ex_1 => ?_)
  replace h := ck_nm_s h ex_1
  refine lv_istore_n (lv' := [(3, .int x_1), (2, .int 0), (0, .ref h_a), (1, .int v)]) hx hb d_Ar_fill_4 rfl hl (by decide) rfl (fun ls hl => ?_)
  refine lo2_W (r := r) (fun (v2_2 : Int32) (w_3 : Nat → Int32) => ∀ (H : Heap) (locs : List Loc), va_P (dC, dI) cl_all [(h_a, .inl (cI, a_n, .inl w_3))] H → va_D A [(h_a, .inl (cI, a_n, .inl w_3))] → va_S A s.heap H locs → ∀ ls : Array Slot, lv_has ls 4 [(0, .ref h_a), (1, .int v), (2, .int v2_2), (3, .int x_1)] → W p l e ({ frames := 0, cells := 0, slots := 0, locals := 0 } : Room) s m AR below meth c H locs 0 0 QQ (F0 m 5 ls [])) ?_ _ _ _ h _ _ hP hD hS _ (lv_sub hl [2, 3, 1, 0] rfl)
  intro k_5 v2_2 w_3 J_5 h H locs hP hD hS ls hl
  refine lv_iload_n hx hb d_Ar_fill_5 rfl (lv_at hl 2 rfl) ?_
  refine lv_iload_n hx hb d_Ar_fill_6 rfl (lv_at hl 3 rfl) ?_
  refine lv_icmp_ge (tgt := 20) hx hb d_Ar_fill_7 (by decide) (fun c_4 => ?_) (fun c_4 => ?_)
  · replace h := ck_if_t h c_4
    obtain rfl := Option.some.inj h
    subst hQ
    exact W.vret hx hb hr (fun t ht hW => ⟨⟨w_3, rfl, rfl, by rw [ht]; exact hP, va_K.moved hW.alike hK, hD⟩, hS.F ht⟩) hS.2.2 d_Ar_fill_20
  · replace h := ck_if_f h c_4
    refine lv_aload_n hx hb d_Ar_fill_10 rfl (lv_at hl 0 rfl) ?_
    refine lv_iload_n hx hb d_Ar_fill_11 rfl (lv_at hl 2 rfl) ?_
    refine lv_iload_n hx hb d_Ar_fill_12 rfl (lv_at hl 1 rfl) ?_
    obtain ⟨g_5, h⟩ := ck_in_s h
    refine va_iast hx hb hK hP hD hS 0 0 rfl rfl g_5 d_Ar_fill_13 (fun H locs hP hD hS => ?_)
    have hP : va_P (dC, dI) cl_all [(h_a, .inl (cI, a_n, .inl (upd w_3 v2_2.toNatClampNeg v)))] H := hP
    have hD : va_D A [(h_a, .inl (cI, a_n, .inl (upd w_3 v2_2.toNatClampNeg v)))] := hD
    obtain ⟨x_6, ex_6⟩ : ∃ y : Int32, y = v2_2 + 1 := ⟨_, rfl⟩
    replace h := ck_nm_s h ex_6
    refine lv_iinc (v := x_6) (lv' := [(2, .int x_6), (0, .ref h_a), (1, .int v), (3, .int x_1)]) hx hb d_Ar_fill_14 hl (k := 2) rfl (by rw [ex_6]; rfl) (by decide) rfl (fun ls hl => ?_)
    refine lv_goto (tgt := 5) hx hb d_Ar_fill_17 (by decide) ?_
    exact J_5 _ _ h _ _ hP hD hS _ (lv_sub hl [1, 2, 0, 3] rfl)
theorem d_Bw_choose_0 : decode prog_1_method_16_code 0 = .ok (.iconst 1, 1) := by decide +kernel
theorem d_Bw_choose_1 : decode prog_1_method_16_code 1 = .ok (.istore_n 2, 1) := by decide +kernel
theorem d_Bw_choose_2 : decode prog_1_method_16_code 2 = .ok (.iconst 1, 1) := by decide +kernel
theorem d_Bw_choose_3 : decode prog_1_method_16_code 3 = .ok (.istore_n 3, 1) := by decide +kernel
theorem d_Bw_choose_4 : decode prog_1_method_16_code 4 = .ok (.iload_n 3, 1) := by decide +kernel
theorem d_Bw_choose_5 : decode prog_1_method_16_code 5 = .ok (.iload_n 1, 1) := by decide +kernel
theorem d_Bw_choose_6 : decode prog_1_method_16_code 6 = .ok (.if_icmp .gt 19, 3) := by decide +kernel
theorem d_Bw_choose_9 : decode prog_1_method_16_code 9 = .ok (.iload_n 2, 1) := by decide +kernel
theorem d_Bw_choose_10 : decode prog_1_method_16_code 10 = .ok (.iload_n 0, 1) := by decide +kernel
theorem d_Bw_choose_11 : decode prog_1_method_16_code 11 = .ok (.iload_n 1, 1) := by decide +kernel
theorem d_Bw_choose_12 : decode prog_1_method_16_code 12 = .ok (.isub, 1) := by decide +kernel
theorem d_Bw_choose_13 : decode prog_1_method_16_code 13 = .ok (.iload_n 3, 1) := by decide +kernel
theorem d_Bw_choose_14 : decode prog_1_method_16_code 14 = .ok (.iadd, 1) := by decide +kernel
theorem d_Bw_choose_15 : decode prog_1_method_16_code 15 = .ok (.imul, 1) := by decide +kernel
theorem d_Bw_choose_16 : decode prog_1_method_16_code 16 = .ok (.iload_n 3, 1) := by decide +kernel
theorem d_Bw_choose_17 : decode prog_1_method_16_code 17 = .ok (.idiv, 1) := by decide +kernel
theorem d_Bw_choose_18 : decode prog_1_method_16_code 18 = .ok (.istore_n 2, 1) := by decide +kernel
theorem d_Bw_choose_19 : decode prog_1_method_16_code 19 = .ok (.iinc 3 1, 3) := by decide +kernel
theorem d_Bw_choose_22 : decode prog_1_method_16_code 22 = .ok (.goto (-18), 3) := by decide +kernel
theorem d_Bw_choose_25 : decode prog_1_method_16_code 25 = .ok (.iload_n 2, 1) := by decide +kernel
theorem d_Bw_choose_26 : decode prog_1_method_16_code 26 = .ok (.ireturn, 1) := by decide +kernel
def f_choose (n : Int32) (k : Int32) : Option (Int32) :=
  lo2 (fun k_4 (v3_1 : Int32) (v2_2 : Int32) => ck_if (k < v3_1) (some v2_2) (ck_nz v3_1 <| ck_nm ((v2_2 * ((n - k) + v3_1)) / v3_1) <| fun x_5 => ck_nm (v3_1 + 1) <| fun x_6 => k_4 x_6 x_5)) ck_F 1 1
set_option maxHeartbeats 4000000 in
set_option maxRecDepth 100000 in
theorem c_choose (l : Launch) (dC : Nat → ClassId) (dI : Nat → Nat → Nat) (cI cJ cB cZ cT cN : ClassId) (sz : Nat) (n : Int32) (k : Int32) (r : Int32) (h : f_choose n k = some r) : Met l y_Bw_choose w_Bw_choose ({ frames := 0, cells := 0, slots := 0, locals := 0 } : Room) (va_Pc [.int n, .int k] (fun U => U.heap.size = sz ∧ va_P (dC, dI) cl_all [] U.heap ∧ va_K (dC, dI) cl_all [(cI, .int), (cJ, .long), (cB, .byte), (cZ, .boolean), (cT, .object "BasisWalk$Table"), (cN, .object "BasisWalkModel$Num")] U ∧ NW U ∧ va_D (fun _ => True) [])) (va_Qi (fun (v : Int32) (_ : Unit) => v = r) (fun (u : Unit) (t : State) => va_P (dC, dI) cl_all [] t.heap ∧ va_K (dC, dI) cl_all [(cI, .int), (cJ, .long), (cB, .byte), (cZ, .boolean), (cT, .object "BasisWalk$Table"), (cN, .object "BasisWalkModel$Num")] t ∧ va_D (va_A [] sz) []) (va_A [] sz)) 0 0 (va_A [] sz) := by
  refine Met.ofW (cc := prog_1_method_16_code) (maxL := 4) (ret := (Option.some Jvm.ClassFile.FieldType.int)) (by decide) rfl ?_
  intro p e s m args below meth c s₁ B hml hv
  obtain ⟨hAR, hsz, hP, hK, hN, hD0⟩ := hv
  have hx := B.exec
  have hb := B.bytes
  have hr := B.returns
  have hts := atoms_spec (ws := w_Bw_choose) B.pre
  have hown : s.vm.findClass "BasisWalk" = some m.cls := findClass_of_methodNamed B.named
  have hlocks := B.notSynchronized
  clear B
  subst hsz
  have hD := hD0.self (sz := s.heap.size)
  generalize hAe : va_A [] s.heap.size = A at hD ⊢
  have hA : ∀ q : Nat, s.heap.size ≤ q → A q := fun q h => by rw [← hAe]; exact Or.inr h
  clear hAe hD0
  have hS : va_S A s.heap s.heap [] := va_S.rf
  have hl := lv_entry ([.int n, .int k]) (n := 4) (Nat.le_of_ble_eq_true rfl)
  subst hAR
  rw [lg_entry_eq]
  generalize (lg_sl ([.int n, .int k]) ++ List.replicate (4 - (lg_sl ([.int n, .int k])).length) Slot.unset).toArray = ls at hl ⊢
  have hl : lv_has ls 4 [(0, .int n), (1, .int k)] := hl
  change W p l e ({ frames := 0, cells := 0, slots := 0, locals := 0 } : Room) s m _ below meth c s.heap [] 0 0 _ _
  generalize hARe : ([.int n, .int k] : List Value).toArray = AR at hts ⊢
  clear hARe
  generalize hQ : MQ below _ AR s 0 0 A = QQ
  obtain ⟨H, hHe⟩ : ∃ H : Heap, H = s.heap := ⟨_, rfl⟩
  rw [← hHe] at hP ⊢
  replace hS : va_S A s.heap H [] := by rw [hHe]; exact va_S.rf
  clear hHe
  unfold f_choose at h
  refine lv_iconst (v := 1) hx hb d_Bw_choose_0 (by decide) ?_
  refine lv_istore_n (lv' := [(2, .int 1), (0, .int n), (1, .int k)]) hx hb d_Bw_choose_1 rfl hl (by decide) rfl (fun ls hl => ?_)
  refine lv_iconst (v := 1) hx hb d_Bw_choose_2 (by decide) ?_
  refine lv_istore_n (lv' := [(3, .int 1), (2, .int 1), (0, .int n), (1, .int k)]) hx hb d_Bw_choose_3 rfl hl (by decide) rfl (fun ls hl => ?_)
  refine lo2_W (r := r) (fun (v3_1 : Int32) (v2_2 : Int32) => ∀ (H : Heap) (locs : List Loc), va_P (dC, dI) cl_all [] H → va_D A [] → va_S A s.heap H locs → ∀ ls : Array Slot, lv_has ls 4 [(0, .int n), (1, .int k), (2, .int v2_2), (3, .int v3_1)] → W p l e ({ frames := 0, cells := 0, slots := 0, locals := 0 } : Room) s m AR below meth c H locs 0 0 QQ (F0 m 4 ls [])) ?_ _ _ _ h _ _ hP hD hS _ (lv_sub hl [2, 3, 1, 0] rfl)
  intro k_4 v3_1 v2_2 J_4 h H locs hP hD hS ls hl
  refine lv_iload_n hx hb d_Bw_choose_4 rfl (lv_at hl 3 rfl) ?_
  refine lv_iload_n hx hb d_Bw_choose_5 rfl (lv_at hl 1 rfl) ?_
  refine lv_icmp_gt (tgt := 25) hx hb d_Bw_choose_6 (by decide) (fun c_3 => ?_) (fun c_3 => ?_)
  · replace h := ck_if_t h c_3
    refine lv_iload_n hx hb d_Bw_choose_25 rfl (lv_at hl 2 rfl) ?_
    obtain rfl := Option.some.inj h
    subst hQ
    exact W.iret (v := v2_2) hx hb hr (fun t ht hW => ⟨⟨v2_2, (), rfl, rfl, by rw [ht]; exact hP, va_K.moved hW.alike hK, hD⟩, hS.F ht⟩) hS.2.2 d_Bw_choose_26
  · replace h := ck_if_f h c_3
    refine lv_iload_n hx hb d_Bw_choose_9 rfl (lv_at hl 2 rfl) ?_
    refine lv_iload_n hx hb d_Bw_choose_10 rfl (lv_at hl 0 rfl) ?_
    refine lv_iload_n hx hb d_Bw_choose_11 rfl (lv_at hl 1 rfl) ?_
    refine lv_isub hx hb d_Bw_choose_12 ?_
    refine lv_iload_n hx hb d_Bw_choose_13 rfl (lv_at hl 3 rfl) ?_
    refine lv_iadd hx hb d_Bw_choose_14 ?_
    refine lv_imul hx hb d_Bw_choose_15 ?_
    refine lv_iload_n hx hb d_Bw_choose_16 rfl (lv_at hl 3 rfl) ?_
    obtain ⟨g_4, h⟩ := ck_nz_s h
    refine lv_idiv hx hb d_Bw_choose_17 g_4 ?_
    refine lv_topi (fun x_5 ex_5 => ?_)
    replace h := ck_nm_s h ex_5
    refine lv_istore_n (lv' := [(2, .int x_5), (0, .int n), (1, .int k), (3, .int v3_1)]) hx hb d_Bw_choose_18 rfl hl (by decide) rfl (fun ls hl => ?_)
    obtain ⟨x_6, ex_6⟩ : ∃ y : Int32, y = v3_1 + 1 := ⟨_, rfl⟩
    replace h := ck_nm_s h ex_6
    refine lv_iinc (v := x_6) (lv' := [(3, .int x_6), (2, .int x_5), (0, .int n), (1, .int k)]) hx hb d_Bw_choose_19 hl (k := 3) rfl (by rw [ex_6]; rfl) (by decide) rfl (fun ls hl => ?_)
    refine lv_goto (tgt := 4) hx hb d_Bw_choose_22 (by decide) ?_
    exact J_4 _ _ h _ _ hP hD hS _ (lv_sub hl [2, 3, 1, 0] rfl)
theorem d_Bw_isLineCount_0 : decode prog_1_method_13_code 0 = .ok (.iload_n 0, 1) := by decide +kernel
theorem d_Bw_isLineCount_1 : decode prog_1_method_13_code 1 = .ok (.ifCond .lt 13, 3) := by decide +kernel
theorem d_Bw_isLineCount_4 : decode prog_1_method_13_code 4 = .ok (.iload_n 0, 1) := by decide +kernel
theorem d_Bw_isLineCount_5 : decode prog_1_method_13_code 5 = .ok (.bipush 12, 2) := by decide +kernel
theorem d_Bw_isLineCount_7 : decode prog_1_method_13_code 7 = .ok (.if_icmp .gt 7, 3) := by decide +kernel
theorem d_Bw_isLineCount_10 : decode prog_1_method_13_code 10 = .ok (.iconst 1, 1) := by decide +kernel
theorem d_Bw_isLineCount_11 : decode prog_1_method_13_code 11 = .ok (.goto 4, 3) := by decide +kernel
theorem d_Bw_isLineCount_14 : decode prog_1_method_13_code 14 = .ok (.iconst 0, 1) := by decide +kernel
theorem d_Bw_isLineCount_15 : decode prog_1_method_13_code 15 = .ok (.ireturn, 1) := by decide +kernel
def f_isLineCount (x : Int32) : Option (Int32) :=
  ck_if (x < 0) (some 0) (ck_if (12 < x) (some 0) (some 1))
set_option maxHeartbeats 4000000 in
set_option maxRecDepth 100000 in
theorem c_isLineCount (l : Launch) (dC : Nat → ClassId) (dI : Nat → Nat → Nat) (cI cJ cB cZ cT cN : ClassId) (sz : Nat) (x : Int32) (r : Int32) (h : f_isLineCount x = some r) : Met l y_Bw_isLineCount w_Bw_isLineCount ({ frames := 0, cells := 0, slots := 0, locals := 0 } : Room) (va_Pc [.int x] (fun U => U.heap.size = sz ∧ va_P (dC, dI) cl_all [] U.heap ∧ va_K (dC, dI) cl_all [(cI, .int), (cJ, .long), (cB, .byte), (cZ, .boolean), (cT, .object "BasisWalk$Table"), (cN, .object "BasisWalkModel$Num")] U ∧ NW U ∧ va_D (fun _ => True) [])) (va_Qi (fun (v : Int32) (_ : Unit) => v = r) (fun (u : Unit) (t : State) => va_P (dC, dI) cl_all [] t.heap ∧ va_K (dC, dI) cl_all [(cI, .int), (cJ, .long), (cB, .byte), (cZ, .boolean), (cT, .object "BasisWalk$Table"), (cN, .object "BasisWalkModel$Num")] t ∧ va_D (va_A [] sz) []) (va_A [] sz)) 0 0 (va_A [] sz) := by
  refine Met.ofW (cc := prog_1_method_13_code) (maxL := 1) (ret := (Option.some Jvm.ClassFile.FieldType.boolean)) (by decide) rfl ?_
  intro p e s m args below meth c s₁ B hml hv
  obtain ⟨hAR, hsz, hP, hK, hN, hD0⟩ := hv
  have hx := B.exec
  have hb := B.bytes
  have hr := B.returns
  have hts := atoms_spec (ws := w_Bw_isLineCount) B.pre
  have hown : s.vm.findClass "BasisWalk" = some m.cls := findClass_of_methodNamed B.named
  have hlocks := B.notSynchronized
  clear B
  subst hsz
  have hD := hD0.self (sz := s.heap.size)
  generalize hAe : va_A [] s.heap.size = A at hD ⊢
  have hA : ∀ q : Nat, s.heap.size ≤ q → A q := fun q h => by rw [← hAe]; exact Or.inr h
  clear hAe hD0
  have hS : va_S A s.heap s.heap [] := va_S.rf
  have hl := lv_entry ([.int x]) (n := 1) (Nat.le_of_ble_eq_true rfl)
  subst hAR
  rw [lg_entry_eq]
  generalize (lg_sl ([.int x]) ++ List.replicate (1 - (lg_sl ([.int x])).length) Slot.unset).toArray = ls at hl ⊢
  have hl : lv_has ls 1 [(0, .int x)] := hl
  change W p l e ({ frames := 0, cells := 0, slots := 0, locals := 0 } : Room) s m _ below meth c s.heap [] 0 0 _ _
  generalize hARe : ([.int x] : List Value).toArray = AR at hts ⊢
  clear hARe
  generalize hQ : MQ below _ AR s 0 0 A = QQ
  obtain ⟨H, hHe⟩ : ∃ H : Heap, H = s.heap := ⟨_, rfl⟩
  rw [← hHe] at hP ⊢
  replace hS : va_S A s.heap H [] := by rw [hHe]; exact va_S.rf
  clear hHe
  unfold f_isLineCount at h
  refine lv_iload_n hx hb d_Bw_isLineCount_0 rfl (lv_at hl 0 rfl) ?_
  refine lv_if_lt (tgt := 14) hx hb d_Bw_isLineCount_1 (by decide) (fun c_1 => ?_) (fun c_1 => ?_)
  · replace h := ck_if_t h c_1
    refine lv_iconst (v := 0) hx hb d_Bw_isLineCount_14 (by decide) ?_
    obtain rfl := Option.some.inj h
    subst hQ
    exact W.zret (ty := .boolean) (v := 0) hx hb hr rfl (fun t ht hW => ⟨⟨0, (), rfl, rfl, by rw [ht]; exact hP, va_K.moved hW.alike hK, hD⟩, hS.F ht⟩) hS.2.2 d_Bw_isLineCount_15
  · replace h := ck_if_f h c_1
    refine lv_iload_n hx hb d_Bw_isLineCount_4 rfl (lv_at hl 0 rfl) ?_
    refine lv_bipush (v := 12) hx hb d_Bw_isLineCount_5 (by decide) ?_
    refine lv_icmp_gt (tgt := 14) hx hb d_Bw_isLineCount_7 (by decide) (fun c_2 => ?_) (fun c_2 => ?_)
    · replace h := ck_if_t h c_2
      refine lv_iconst (v := 0) hx hb d_Bw_isLineCount_14 (by decide) ?_
      obtain rfl := Option.some.inj h
      subst hQ
      exact W.zret (ty := .boolean) (v := 0) hx hb hr rfl (fun t ht hW => ⟨⟨0, (), rfl, rfl, by rw [ht]; exact hP, va_K.moved hW.alike hK, hD⟩, hS.F ht⟩) hS.2.2 d_Bw_isLineCount_15
    · replace h := ck_if_f h c_2
      refine lv_iconst (v := 1) hx hb d_Bw_isLineCount_10 (by decide) ?_
      refine lv_goto (tgt := 15) hx hb d_Bw_isLineCount_11 (by decide) ?_
      obtain rfl := Option.some.inj h
      subst hQ
      exact W.zret (ty := .boolean) (v := 1) hx hb hr rfl (fun t ht hW => ⟨⟨1, (), rfl, rfl, by rw [ht]; exact hP, va_K.moved hW.alike hK, hD⟩, hS.F ht⟩) hS.2.2 d_Bw_isLineCount_15
theorem d_Bw_isKind_0 : decode prog_1_method_14_code 0 = .ok (.iload_n 0, 1) := by decide +kernel
theorem d_Bw_isKind_1 : decode prog_1_method_14_code 1 = .ok (.ifCond .lt 12, 3) := by decide +kernel
theorem d_Bw_isKind_4 : decode prog_1_method_14_code 4 = .ok (.iload_n 0, 1) := by decide +kernel
theorem d_Bw_isKind_5 : decode prog_1_method_14_code 5 = .ok (.iconst 4, 1) := by decide +kernel
theorem d_Bw_isKind_6 : decode prog_1_method_14_code 6 = .ok (.if_icmp .ge 7, 3) := by decide +kernel
theorem d_Bw_isKind_9 : decode prog_1_method_14_code 9 = .ok (.iconst 1, 1) := by decide +kernel
theorem d_Bw_isKind_10 : decode prog_1_method_14_code 10 = .ok (.goto 4, 3) := by decide +kernel
theorem d_Bw_isKind_13 : decode prog_1_method_14_code 13 = .ok (.iconst 0, 1) := by decide +kernel
theorem d_Bw_isKind_14 : decode prog_1_method_14_code 14 = .ok (.ireturn, 1) := by decide +kernel
def f_isKind (x : Int32) : Option (Int32) :=
  ck_if (x < 0) (some 0) (ck_if (4 ≤ x) (some 0) (some 1))
set_option maxHeartbeats 4000000 in
set_option maxRecDepth 100000 in
theorem c_isKind (l : Launch) (dC : Nat → ClassId) (dI : Nat → Nat → Nat) (cI cJ cB cZ cT cN : ClassId) (sz : Nat) (x : Int32) (r : Int32) (h : f_isKind x = some r) : Met l y_Bw_isKind w_Bw_isKind ({ frames := 0, cells := 0, slots := 0, locals := 0 } : Room) (va_Pc [.int x] (fun U => U.heap.size = sz ∧ va_P (dC, dI) cl_all [] U.heap ∧ va_K (dC, dI) cl_all [(cI, .int), (cJ, .long), (cB, .byte), (cZ, .boolean), (cT, .object "BasisWalk$Table"), (cN, .object "BasisWalkModel$Num")] U ∧ NW U ∧ va_D (fun _ => True) [])) (va_Qi (fun (v : Int32) (_ : Unit) => v = r) (fun (u : Unit) (t : State) => va_P (dC, dI) cl_all [] t.heap ∧ va_K (dC, dI) cl_all [(cI, .int), (cJ, .long), (cB, .byte), (cZ, .boolean), (cT, .object "BasisWalk$Table"), (cN, .object "BasisWalkModel$Num")] t ∧ va_D (va_A [] sz) []) (va_A [] sz)) 0 0 (va_A [] sz) := by
  refine Met.ofW (cc := prog_1_method_14_code) (maxL := 1) (ret := (Option.some Jvm.ClassFile.FieldType.boolean)) (by decide) rfl ?_
  intro p e s m args below meth c s₁ B hml hv
  obtain ⟨hAR, hsz, hP, hK, hN, hD0⟩ := hv
  have hx := B.exec
  have hb := B.bytes
  have hr := B.returns
  have hts := atoms_spec (ws := w_Bw_isKind) B.pre
  have hown : s.vm.findClass "BasisWalk" = some m.cls := findClass_of_methodNamed B.named
  have hlocks := B.notSynchronized
  clear B
  subst hsz
  have hD := hD0.self (sz := s.heap.size)
  generalize hAe : va_A [] s.heap.size = A at hD ⊢
  have hA : ∀ q : Nat, s.heap.size ≤ q → A q := fun q h => by rw [← hAe]; exact Or.inr h
  clear hAe hD0
  have hS : va_S A s.heap s.heap [] := va_S.rf
  have hl := lv_entry ([.int x]) (n := 1) (Nat.le_of_ble_eq_true rfl)
  subst hAR
  rw [lg_entry_eq]
  generalize (lg_sl ([.int x]) ++ List.replicate (1 - (lg_sl ([.int x])).length) Slot.unset).toArray = ls at hl ⊢
  have hl : lv_has ls 1 [(0, .int x)] := hl
  change W p l e ({ frames := 0, cells := 0, slots := 0, locals := 0 } : Room) s m _ below meth c s.heap [] 0 0 _ _
  generalize hARe : ([.int x] : List Value).toArray = AR at hts ⊢
  clear hARe
  generalize hQ : MQ below _ AR s 0 0 A = QQ
  obtain ⟨H, hHe⟩ : ∃ H : Heap, H = s.heap := ⟨_, rfl⟩
  rw [← hHe] at hP ⊢
  replace hS : va_S A s.heap H [] := by rw [hHe]; exact va_S.rf
  clear hHe
  unfold f_isKind at h
  refine lv_iload_n hx hb d_Bw_isKind_0 rfl (lv_at hl 0 rfl) ?_
  refine lv_if_lt (tgt := 13) hx hb d_Bw_isKind_1 (by decide) (fun c_1 => ?_) (fun c_1 => ?_)
  · replace h := ck_if_t h c_1
    refine lv_iconst (v := 0) hx hb d_Bw_isKind_13 (by decide) ?_
    obtain rfl := Option.some.inj h
    subst hQ
    exact W.zret (ty := .boolean) (v := 0) hx hb hr rfl (fun t ht hW => ⟨⟨0, (), rfl, rfl, by rw [ht]; exact hP, va_K.moved hW.alike hK, hD⟩, hS.F ht⟩) hS.2.2 d_Bw_isKind_14
  · replace h := ck_if_f h c_1
    refine lv_iload_n hx hb d_Bw_isKind_4 rfl (lv_at hl 0 rfl) ?_
    refine lv_iconst (v := 4) hx hb d_Bw_isKind_5 (by decide) ?_
    refine lv_icmp_ge (tgt := 13) hx hb d_Bw_isKind_6 (by decide) (fun c_2 => ?_) (fun c_2 => ?_)
    · replace h := ck_if_t h c_2
      refine lv_iconst (v := 0) hx hb d_Bw_isKind_13 (by decide) ?_
      obtain rfl := Option.some.inj h
      subst hQ
      exact W.zret (ty := .boolean) (v := 0) hx hb hr rfl (fun t ht hW => ⟨⟨0, (), rfl, rfl, by rw [ht]; exact hP, va_K.moved hW.alike hK, hD⟩, hS.F ht⟩) hS.2.2 d_Bw_isKind_14
    · replace h := ck_if_f h c_2
      refine lv_iconst (v := 1) hx hb d_Bw_isKind_9 (by decide) ?_
      refine lv_goto (tgt := 14) hx hb d_Bw_isKind_10 (by decide) ?_
      obtain rfl := Option.some.inj h
      subst hQ
      exact W.zret (ty := .boolean) (v := 1) hx hb hr rfl (fun t ht hW => ⟨⟨1, (), rfl, rfl, by rw [ht]; exact hP, va_K.moved hW.alike hK, hD⟩, hS.F ht⟩) hS.2.2 d_Bw_isKind_14
theorem d_Bw_isField_0 : decode prog_1_method_15_code 0 = .ok (.iload_n 0, 1) := by decide +kernel
theorem d_Bw_isField_1 : decode prog_1_method_15_code 1 = .ok (.ifCond .ne 5, 3) := by decide +kernel
theorem d_Bw_isField_4 : decode prog_1_method_15_code 4 = .ok (.iconst 1, 1) := by decide +kernel
theorem d_Bw_isField_5 : decode prog_1_method_15_code 5 = .ok (.ireturn, 1) := by decide +kernel
theorem d_Bw_isField_6 : decode prog_1_method_15_code 6 = .ok (.iload_n 0, 1) := by decide +kernel
theorem d_Bw_isField_7 : decode prog_1_method_15_code 7 = .ok (.iconst 2, 1) := by decide +kernel
theorem d_Bw_isField_8 : decode prog_1_method_15_code 8 = .ok (.if_icmp .lt 10, 3) := by decide +kernel
theorem d_Bw_isField_11 : decode prog_1_method_15_code 11 = .ok (.iload_n 0, 1) := by decide +kernel
theorem d_Bw_isField_12 : decode prog_1_method_15_code 12 = .ok (.sipush 251, 3) := by decide +kernel
theorem d_Bw_isField_15 : decode prog_1_method_15_code 15 = .ok (.if_icmp .le 5, 3) := by decide +kernel
theorem d_Bw_isField_18 : decode prog_1_method_15_code 18 = .ok (.iconst 0, 1) := by decide +kernel
theorem d_Bw_isField_19 : decode prog_1_method_15_code 19 = .ok (.ireturn, 1) := by decide +kernel
theorem d_Bw_isField_20 : decode prog_1_method_15_code 20 = .ok (.iconst 2, 1) := by decide +kernel
theorem d_Bw_isField_21 : decode prog_1_method_15_code 21 = .ok (.istore_n 1, 1) := by decide +kernel
theorem d_Bw_isField_22 : decode prog_1_method_15_code 22 = .ok (.iload_n 1, 1) := by decide +kernel
theorem d_Bw_isField_23 : decode prog_1_method_15_code 23 = .ok (.iload_n 1, 1) := by decide +kernel
theorem d_Bw_isField_24 : decode prog_1_method_15_code 24 = .ok (.imul, 1) := by decide +kernel
theorem d_Bw_isField_25 : decode prog_1_method_15_code 25 = .ok (.iload_n 0, 1) := by decide +kernel
theorem d_Bw_isField_26 : decode prog_1_method_15_code 26 = .ok (.if_icmp .gt 17, 3) := by decide +kernel
theorem d_Bw_isField_29 : decode prog_1_method_15_code 29 = .ok (.iload_n 0, 1) := by decide +kernel
theorem d_Bw_isField_30 : decode prog_1_method_15_code 30 = .ok (.iload_n 1, 1) := by decide +kernel
theorem d_Bw_isField_31 : decode prog_1_method_15_code 31 = .ok (.irem, 1) := by decide +kernel
theorem d_Bw_isField_32 : decode prog_1_method_15_code 32 = .ok (.ifCond .ne 5, 3) := by decide +kernel
theorem d_Bw_isField_35 : decode prog_1_method_15_code 35 = .ok (.iconst 0, 1) := by decide +kernel
theorem d_Bw_isField_36 : decode prog_1_method_15_code 36 = .ok (.ireturn, 1) := by decide +kernel
theorem d_Bw_isField_37 : decode prog_1_method_15_code 37 = .ok (.iinc 1 1, 3) := by decide +kernel
theorem d_Bw_isField_40 : decode prog_1_method_15_code 40 = .ok (.goto (-18), 3) := by decide +kernel
theorem d_Bw_isField_43 : decode prog_1_method_15_code 43 = .ok (.iconst 1, 1) := by decide +kernel
theorem d_Bw_isField_44 : decode prog_1_method_15_code 44 = .ok (.ireturn, 1) := by decide +kernel
def f_isField (x : Int32) : Option (Int32) :=
  ck_if (x = 0) (some 1) (ck_if (x < 2) (some 0) (ck_if (x ≤ 251) (lo1 (fun k_22 (v1_4 : Int32) => ck_if (x < (v1_4 * v1_4)) (some 1) (ck_nz v1_4 <| ck_if ((x - x / v1_4 * v1_4) = 0) (some 0) (ck_nm (v1_4 + 1) <| fun x_8 => k_22 x_8))) ck_F 2) (some 0)))
set_option maxHeartbeats 4000000 in
set_option maxRecDepth 100000 in
theorem c_isField (l : Launch) (dC : Nat → ClassId) (dI : Nat → Nat → Nat) (cI cJ cB cZ cT cN : ClassId) (sz : Nat) (x : Int32) (r : Int32) (h : f_isField x = some r) : Met l y_Bw_isField w_Bw_isField ({ frames := 0, cells := 0, slots := 0, locals := 0 } : Room) (va_Pc [.int x] (fun U => U.heap.size = sz ∧ va_P (dC, dI) cl_all [] U.heap ∧ va_K (dC, dI) cl_all [(cI, .int), (cJ, .long), (cB, .byte), (cZ, .boolean), (cT, .object "BasisWalk$Table"), (cN, .object "BasisWalkModel$Num")] U ∧ NW U ∧ va_D (fun _ => True) [])) (va_Qi (fun (v : Int32) (_ : Unit) => v = r) (fun (u : Unit) (t : State) => va_P (dC, dI) cl_all [] t.heap ∧ va_K (dC, dI) cl_all [(cI, .int), (cJ, .long), (cB, .byte), (cZ, .boolean), (cT, .object "BasisWalk$Table"), (cN, .object "BasisWalkModel$Num")] t ∧ va_D (va_A [] sz) []) (va_A [] sz)) 0 0 (va_A [] sz) := by
  refine Met.ofW (cc := prog_1_method_15_code) (maxL := 2) (ret := (Option.some Jvm.ClassFile.FieldType.boolean)) (by decide) rfl ?_
  intro p e s m args below meth c s₁ B hml hv
  obtain ⟨hAR, hsz, hP, hK, hN, hD0⟩ := hv
  have hx := B.exec
  have hb := B.bytes
  have hr := B.returns
  have hts := atoms_spec (ws := w_Bw_isField) B.pre
  have hown : s.vm.findClass "BasisWalk" = some m.cls := findClass_of_methodNamed B.named
  have hlocks := B.notSynchronized
  clear B
  subst hsz
  have hD := hD0.self (sz := s.heap.size)
  generalize hAe : va_A [] s.heap.size = A at hD ⊢
  have hA : ∀ q : Nat, s.heap.size ≤ q → A q := fun q h => by rw [← hAe]; exact Or.inr h
  clear hAe hD0
  have hS : va_S A s.heap s.heap [] := va_S.rf
  have hl := lv_entry ([.int x]) (n := 2) (Nat.le_of_ble_eq_true rfl)
  subst hAR
  rw [lg_entry_eq]
  generalize (lg_sl ([.int x]) ++ List.replicate (2 - (lg_sl ([.int x])).length) Slot.unset).toArray = ls at hl ⊢
  have hl : lv_has ls 2 [(0, .int x)] := hl
  change W p l e ({ frames := 0, cells := 0, slots := 0, locals := 0 } : Room) s m _ below meth c s.heap [] 0 0 _ _
  generalize hARe : ([.int x] : List Value).toArray = AR at hts ⊢
  clear hARe
  generalize hQ : MQ below _ AR s 0 0 A = QQ
  obtain ⟨H, hHe⟩ : ∃ H : Heap, H = s.heap := ⟨_, rfl⟩
  rw [← hHe] at hP ⊢
  replace hS : va_S A s.heap H [] := by rw [hHe]; exact va_S.rf
  clear hHe
  unfold f_isField at h
  refine lv_iload_n hx hb d_Bw_isField_0 rfl (lv_at hl 0 rfl) ?_
  refine lv_if_ne (tgt := 6) hx hb d_Bw_isField_1 (by decide) (fun c_1 => ?_) (fun c_1 => ?_)
  · replace h := ck_if_f h c_1
    refine lv_iload_n hx hb d_Bw_isField_6 rfl (lv_at hl 0 rfl) ?_
    refine lv_iconst (v := 2) hx hb d_Bw_isField_7 (by decide) ?_
    refine lv_icmp_lt (tgt := 18) hx hb d_Bw_isField_8 (by decide) (fun c_2 => ?_) (fun c_2 => ?_)
    · replace h := ck_if_t h c_2
      refine lv_iconst (v := 0) hx hb d_Bw_isField_18 (by decide) ?_
      obtain rfl := Option.some.inj h
      subst hQ
      exact W.zret (ty := .boolean) (v := 0) hx hb hr rfl (fun t ht hW => ⟨⟨0, (), rfl, rfl, by rw [ht]; exact hP, va_K.moved hW.alike hK, hD⟩, hS.F ht⟩) hS.2.2 d_Bw_isField_19
    · replace h := ck_if_f h c_2
      refine lv_iload_n hx hb d_Bw_isField_11 rfl (lv_at hl 0 rfl) ?_
      refine lv_sipush (v := 251) hx hb d_Bw_isField_12 (by decide) ?_
      refine lv_icmp_le (tgt := 20) hx hb d_Bw_isField_15 (by decide) (fun c_3 => ?_) (fun c_3 => ?_)
      · replace h := ck_if_t h c_3
        refine lv_iconst (v := 2) hx hb d_Bw_isField_20 (by decide) ?_
        refine lv_istore_n (lv' := [(1, .int 2), (0, .int x)]) hx hb d_Bw_isField_21 rfl hl (by decide) rfl (fun ls hl => ?_)
        refine lo1_W (r := r) (fun (v1_4 : Int32) => ∀ (H : Heap) (locs : List Loc), va_P (dC, dI) cl_all [] H → va_D A [] → va_S A s.heap H locs → ∀ ls : Array Slot, lv_has ls 2 [(0, .int x), (1, .int v1_4)] → W p l e ({ frames := 0, cells := 0, slots := 0, locals := 0 } : Room) s m AR below meth c H locs 0 0 QQ (F0 m 22 ls [])) ?_ _ _ h _ _ hP hD hS _ (lv_sub hl [1, 0] rfl)
        intro k_22 v1_4 J_22 h H locs hP hD hS ls hl
        refine lv_iload_n hx hb d_Bw_isField_22 rfl (lv_at hl 1 rfl) ?_
        refine lv_iload_n hx hb d_Bw_isField_23 rfl (lv_at hl 1 rfl) ?_
        refine lv_imul hx hb d_Bw_isField_24 ?_
        refine lv_iload_n hx hb d_Bw_isField_25 rfl (lv_at hl 0 rfl) ?_
        refine lv_icmp_gt (tgt := 43) hx hb d_Bw_isField_26 (by decide) (fun c_5 => ?_) (fun c_5 => ?_)
        · replace h := ck_if_t h c_5
          refine lv_iconst (v := 1) hx hb d_Bw_isField_43 (by decide) ?_
          obtain rfl := Option.some.inj h
          subst hQ
          exact W.zret (ty := .boolean) (v := 1) hx hb hr rfl (fun t ht hW => ⟨⟨1, (), rfl, rfl, by rw [ht]; exact hP, va_K.moved hW.alike hK, hD⟩, hS.F ht⟩) hS.2.2 d_Bw_isField_44
        · replace h := ck_if_f h c_5
          refine lv_iload_n hx hb d_Bw_isField_29 rfl (lv_at hl 0 rfl) ?_
          refine lv_iload_n hx hb d_Bw_isField_30 rfl (lv_at hl 1 rfl) ?_
          obtain ⟨g_6, h⟩ := ck_nz_s h
          refine lv_irem hx hb d_Bw_isField_31 g_6 ?_
          refine lv_if_ne (tgt := 37) hx hb d_Bw_isField_32 (by decide) (fun c_7 => ?_) (fun c_7 => ?_)
          · replace h := ck_if_f h c_7
            obtain ⟨x_8, ex_8⟩ : ∃ y : Int32, y = v1_4 + 1 := ⟨_, rfl⟩
            replace h := ck_nm_s h ex_8
            refine lv_iinc (v := x_8) (lv' := [(1, .int x_8), (0, .int x)]) hx hb d_Bw_isField_37 hl (k := 1) rfl (by rw [ex_8]; rfl) (by decide) rfl (fun ls hl => ?_)
            refine lv_goto (tgt := 22) hx hb d_Bw_isField_40 (by decide) ?_
            exact J_22 _ h _ _ hP hD hS _ (lv_sub hl [1, 0] rfl)
          · replace h := ck_if_t h c_7
            refine lv_iconst (v := 0) hx hb d_Bw_isField_35 (by decide) ?_
            obtain rfl := Option.some.inj h
            subst hQ
            exact W.zret (ty := .boolean) (v := 0) hx hb hr rfl (fun t ht hW => ⟨⟨0, (), rfl, rfl, by rw [ht]; exact hP, va_K.moved hW.alike hK, hD⟩, hS.F ht⟩) hS.2.2 d_Bw_isField_36
      · replace h := ck_if_f h c_3
        refine lv_iconst (v := 0) hx hb d_Bw_isField_18 (by decide) ?_
        obtain rfl := Option.some.inj h
        subst hQ
        exact W.zret (ty := .boolean) (v := 0) hx hb hr rfl (fun t ht hW => ⟨⟨0, (), rfl, rfl, by rw [ht]; exact hP, va_K.moved hW.alike hK, hD⟩, hS.F ht⟩) hS.2.2 d_Bw_isField_19
  · replace h := ck_if_t h c_1
    refine lv_iconst (v := 1) hx hb d_Bw_isField_4 (by decide) ?_
    obtain rfl := Option.some.inj h
    subst hQ
    exact W.zret (ty := .boolean) (v := 1) hx hb hr rfl (fun t ht hW => ⟨⟨1, (), rfl, rfl, by rw [ht]; exact hP, va_K.moved hW.alike hK, hD⟩, hS.F ht⟩) hS.2.2 d_Bw_isField_5
end
section
theorem d_Ta_clear_0 : decode prog_5_method_2_code 0 = .ok (.aload_n 0, 1) := by decide +kernel
theorem d_Ta_clear_1 : decode prog_5_method_2_code 1 = .ok (.iload_n 1, 1) := by decide +kernel
theorem d_Ta_clear_2 : decode prog_5_method_2_code 2 = .ok (.putfield 22, 3) := by decide +kernel
theorem d_Ta_clear_5 : decode prog_5_method_2_code 5 = .ok (.aload_n 0, 1) := by decide +kernel
theorem d_Ta_clear_6 : decode prog_5_method_2_code 6 = .ok (.iload_n 2, 1) := by decide +kernel
theorem d_Ta_clear_7 : decode prog_5_method_2_code 7 = .ok (.putfield 26, 3) := by decide +kernel
theorem d_Ta_clear_10 : decode prog_5_method_2_code 10 = .ok (.aload_n 0, 1) := by decide +kernel
theorem d_Ta_clear_11 : decode prog_5_method_2_code 11 = .ok (.iload_n 3, 1) := by decide +kernel
theorem d_Ta_clear_12 : decode prog_5_method_2_code 12 = .ok (.putfield 29, 3) := by decide +kernel
theorem d_Ta_clear_15 : decode prog_5_method_2_code 15 = .ok (.aload_n 0, 1) := by decide +kernel
theorem d_Ta_clear_16 : decode prog_5_method_2_code 16 = .ok (.getfield 9, 3) := by decide +kernel
theorem d_Ta_clear_19 : decode prog_5_method_2_code 19 = .ok (.iconst 0, 1) := by decide +kernel
theorem d_Ta_clear_20 : decode prog_5_method_2_code 20 = .ok (.invokestatic 32, 3) := by decide +kernel
theorem d_Ta_clear_23 : decode prog_5_method_2_code 23 = .ok (.aload_n 0, 1) := by decide +kernel
theorem d_Ta_clear_24 : decode prog_5_method_2_code 24 = .ok (.iconst 0, 1) := by decide +kernel
theorem d_Ta_clear_25 : decode prog_5_method_2_code 25 = .ok (.putfield 38, 3) := by decide +kernel
theorem d_Ta_clear_28 : decode prog_5_method_2_code 28 = .ok (.return_, 1) := by decide +kernel
def f_T_clear (t_numbers_n : Nat) (t_numbers : Nat → Int32) (nf : Int32) (nr : Int32) (nc : Int32) : Option (Int32 × Int32 × Int32 × Int32 × (Nat → Int32)) :=
  ck_b1 (f_fillI t_numbers_n t_numbers 0) <| fun u_1 => some (nf, nr, nc, 0, u_1)
set_option maxHeartbeats 4000000 in
set_option maxRecDepth 100000 in
theorem c_T_clear (l : Launch) (dC : Nat → ClassId) (dI : Nat → Nat → Nat) (cI cJ cB cZ cT cN : ClassId) (sz : Nat) (h_t : Nat) (h_t_numbers : Nat) (h_t_study : Nat) (t_field : Int32) (t_rowCount : Int32) (t_columnCount : Int32) (t_studied : Int32) (t_numbers_n : Nat) (t_numbers : Nat → Int32) (nf : Int32) (nr : Int32) (nc : Int32) (r : Int32 × Int32 × Int32 × Int32 × (Nat → Int32)) (h : f_T_clear t_numbers_n t_numbers nf nr nc = some r) : Met l y_Ta_clear w_Ta_clear ({ frames := 1, cells := 0, slots := 0, locals := 23 } : Room) (va_Pc [.ref h_t, .int nf, .int nr, .int nc] (fun U => U.heap.size = sz ∧ va_P (dC, dI) cl_all [(h_t, .inr (3, [.int t_field, .int t_rowCount, .int t_columnCount, .ref h_t_numbers, .int t_studied, .ref h_t_study])), (h_t_numbers, .inl (cI, t_numbers_n, .inl t_numbers))] U.heap ∧ va_K (dC, dI) cl_all [(cI, .int), (cJ, .long), (cB, .byte), (cZ, .boolean), (cT, .object "BasisWalk$Table"), (cN, .object "BasisWalkModel$Num")] U ∧ NW U ∧ va_D (fun _ => True) [(h_t, .inr (3, [.int t_field, .int t_rowCount, .int t_columnCount, .ref h_t_numbers, .int t_studied, .ref h_t_study])), (h_t_numbers, .inl (cI, t_numbers_n, .inl t_numbers))])) (va_Qv (fun u : Int32 × Int32 × Int32 × Int32 × (Nat → Int32) => u = r) (fun (u : Int32 × Int32 × Int32 × Int32 × (Nat → Int32)) (t : State) => va_P (dC, dI) cl_all [(h_t, .inr (3, [.int u.1, .int u.2.1, .int u.2.2.1, .ref h_t_numbers, .int u.2.2.2.1, .ref h_t_study])), (h_t_numbers, .inl (cI, t_numbers_n, .inl u.2.2.2.2))] t.heap ∧ va_K (dC, dI) cl_all [(cI, .int), (cJ, .long), (cB, .byte), (cZ, .boolean), (cT, .object "BasisWalk$Table"), (cN, .object "BasisWalkModel$Num")] t ∧ va_D (va_A [(h_t, .inr (3, [.int t_field, .int t_rowCount, .int t_columnCount, .ref h_t_numbers, .int t_studied, .ref h_t_study])), (h_t_numbers, .inl (cI, t_numbers_n, .inl t_numbers))] sz) [(h_t, .inr (3, [.int u.1, .int u.2.1, .int u.2.2.1, .ref h_t_numbers, .int u.2.2.2.1, .ref h_t_study])), (h_t_numbers, .inl (cI, t_numbers_n, .inl u.2.2.2.2))]) (va_A [(h_t, .inr (3, [.int t_field, .int t_rowCount, .int t_columnCount, .ref h_t_numbers, .int t_studied, .ref h_t_study])), (h_t_numbers, .inl (cI, t_numbers_n, .inl t_numbers))] sz)) 0 0 (va_A [(h_t, .inr (3, [.int t_field, .int t_rowCount, .int t_columnCount, .ref h_t_numbers, .int t_studied, .ref h_t_study])), (h_t_numbers, .inl (cI, t_numbers_n, .inl t_numbers))] sz) := by
  refine Met.ofW (cc := prog_5_method_2_code) (maxL := 4) (ret := (Option.none : Option Jvm.ClassFile.FieldType)) (by decide) rfl ?_
  intro p e s m args below meth c s₁ B hml hv
  obtain ⟨hAR, hsz, hP, hK, hN, hD0⟩ := hv
  have hx := B.exec
  have hb := B.bytes
  have hr := B.returns
  have hts := atoms_spec (ws := w_Ta_clear) B.pre
  have hown : s.vm.findClass "BasisWalk$Table" = some m.cls := findClass_of_methodNamed B.named
  have hlocks := B.notSynchronized
  clear B
  subst hsz
  have hD := hD0.self (sz := s.heap.size)
  generalize hAe : va_A [(h_t, .inr (3, [.int t_field, .int t_rowCount, .int t_columnCount, .ref h_t_numbers, .int t_studied, .ref h_t_study])), (h_t_numbers, .inl (cI, t_numbers_n, .inl t_numbers))] s.heap.size = A at hD ⊢
  have hA : ∀ q : Nat, s.heap.size ≤ q → A q := fun q h => by rw [← hAe]; exact Or.inr h
  clear hAe hD0
  have hS : va_S A s.heap s.heap [] := va_S.rf
  have hl := lv_entry ([.ref h_t, .int nf, .int nr, .int nc]) (n := 4) (Nat.le_of_ble_eq_true rfl)
  subst hAR
  rw [lg_entry_eq]
  generalize (lg_sl ([.ref h_t, .int nf, .int nr, .int nc]) ++ List.replicate (4 - (lg_sl ([.ref h_t, .int nf, .int nr, .int nc])).length) Slot.unset).toArray = ls at hl ⊢
  have hl : lv_has ls 4 [(0, .ref h_t), (1, .int nf), (2, .int nr), (3, .int nc)] := hl
  change W p l e ({ frames := 1, cells := 0, slots := 0, locals := 23 } : Room) s m _ below meth c s.heap [] 0 0 _ _
  generalize hARe : ([.ref h_t, .int nf, .int nr, .int nc] : List Value).toArray = AR at hts ⊢
  clear hARe
  generalize hQ : MQ below _ AR s 0 0 A = QQ
  have fl0 := hts _ (List.mem_cons_of_mem _ tw_58)
  have iw1 := (fun w hw => List.mem_cons_of_mem _ (in_Ta w hw) : ∀ w ∈ u_ws "BasisWalk$Table" T_Ta 6, w ∈ w_Ta_clear)
  have fl2 := hts _ (List.mem_cons_of_mem _ tw_61)
  have fl3 := hts _ (List.mem_cons_of_mem _ tw_64)
  have fl4 := hts _ (List.mem_cons_of_mem _ tw_67)
  have fl5 := hts _ (List.mem_cons_of_mem _ tw_69)
  obtain ⟨H, hHe⟩ : ∃ H : Heap, H = s.heap := ⟨_, rfl⟩
  rw [← hHe] at hP ⊢
  replace hS : va_S A s.heap H [] := by rw [hHe]; exact va_S.rf
  clear hHe
  unfold f_T_clear at h
  refine lv_aload_n hx hb d_Ta_clear_0 rfl (lv_at hl 0 rfl) ?_
  refine lv_iload_n hx hb d_Ta_clear_1 rfl (lv_at hl 1 rfl) ?_
  refine va_put (D := (dC, dI)) (ci := 3) (v := .int nf) (ty := .int) (C := "BasisWalk$Table") (T := T_Ta) (N := 6) hx hb hts iw1 ty_Ta tyok_Ta nm_Ta hown hK hP hD hS 0 rfl rfl 0 (by decide) fl0 (fun _ h9 => h9) rfl (by decide +kernel) rfl rfl (Nat.le_of_ble_eq_true rfl) d_Ta_clear_2 (fun H locs hP hD hS => ?_)
  have hP : va_P (dC, dI) cl_all [(h_t, .inr (3, [.int nf, .int t_rowCount, .int t_columnCount, .ref h_t_numbers, .int t_studied, .ref h_t_study])), (h_t_numbers, .inl (cI, t_numbers_n, .inl t_numbers))] H := hP
  have hD : va_D A [(h_t, .inr (3, [.int nf, .int t_rowCount, .int t_columnCount, .ref h_t_numbers, .int t_studied, .ref h_t_study])), (h_t_numbers, .inl (cI, t_numbers_n, .inl t_numbers))] := hD
  refine lv_aload_n hx hb d_Ta_clear_5 rfl (lv_at hl 0 rfl) ?_
  refine lv_iload_n hx hb d_Ta_clear_6 rfl (lv_at hl 2 rfl) ?_
  refine va_put (D := (dC, dI)) (ci := 3) (v := .int nr) (ty := .int) (C := "BasisWalk$Table") (T := T_Ta) (N := 6) hx hb hts iw1 ty_Ta tyok_Ta nm_Ta hown hK hP hD hS 0 rfl rfl 1 (by decide) fl2 (fun _ h9 => h9) rfl (by decide +kernel) rfl rfl (Nat.le_of_ble_eq_true rfl) d_Ta_clear_7 (fun H locs hP hD hS => ?_)
  have hP : va_P (dC, dI) cl_all [(h_t, .inr (3, [.int nf, .int nr, .int t_columnCount, .ref h_t_numbers, .int t_studied, .ref h_t_study])), (h_t_numbers, .inl (cI, t_numbers_n, .inl t_numbers))] H := hP
  have hD : va_D A [(h_t, .inr (3, [.int nf, .int nr, .int t_columnCount, .ref h_t_numbers, .int t_studied, .ref h_t_study])), (h_t_numbers, .inl (cI, t_numbers_n, .inl t_numbers))] := hD
  refine lv_aload_n hx hb d_Ta_clear_10 rfl (lv_at hl 0 rfl) ?_
  refine lv_iload_n hx hb d_Ta_clear_11 rfl (lv_at hl 3 rfl) ?_
  refine va_put (D := (dC, dI)) (ci := 3) (v := .int nc) (ty := .int) (C := "BasisWalk$Table") (T := T_Ta) (N := 6) hx hb hts iw1 ty_Ta tyok_Ta nm_Ta hown hK hP hD hS 0 rfl rfl 2 (by decide) fl3 (fun _ h9 => h9) rfl (by decide +kernel) rfl rfl (Nat.le_of_ble_eq_true rfl) d_Ta_clear_12 (fun H locs hP hD hS => ?_)
  have hP : va_P (dC, dI) cl_all [(h_t, .inr (3, [.int nf, .int nr, .int nc, .ref h_t_numbers, .int t_studied, .ref h_t_study])), (h_t_numbers, .inl (cI, t_numbers_n, .inl t_numbers))] H := hP
  have hD : va_D A [(h_t, .inr (3, [.int nf, .int nr, .int nc, .ref h_t_numbers, .int t_studied, .ref h_t_study])), (h_t_numbers, .inl (cI, t_numbers_n, .inl t_numbers))] := hD
  refine lv_aload_n hx hb d_Ta_clear_15 rfl (lv_at hl 0 rfl) ?_
  refine va_get (D := (dC, dI)) (ci := 3) (v := .ref h_t_numbers) (C := "BasisWalk$Table") (T := T_Ta) (N := 6) hx hb hts iw1 hown hK hP 0 rfl rfl 3 (by decide) fl4 (fun _ h9 => h9) rfl d_Ta_clear_16 ?_
  refine lv_iconst (v := 0) hx hb d_Ta_clear_19 (by decide) ?_
  obtain ⟨u_1, hc_2, h⟩ := ck_b1_s h
  have hPc := hP.sub (ws' := [(h_t_numbers, .inl (cI, t_numbers_n, .inl t_numbers))]) [1] rfl
  have hDc := hD.sub (ws' := [(h_t_numbers, .inl (cI, t_numbers_n, .inl t_numbers))]) [1] (by decide) rfl
  have hFc := va_free (wc := [(h_t_numbers, .inl (cI, t_numbers_n, .inl t_numbers))]) hD hS hA [1] rfl
  refine va_callv (va_runS (As := [.ref h_t_numbers, .int 0]) (rest := []) ⟨hx, hb, hml, hown, hts⟩ (c_fillI l dC dI cI cJ cB cZ cT cN H.size h_t_numbers t_numbers_n t_numbers 0 _ hc_2) (va_cwS 2 hts (tb_S tw_154 tw_155 tw_8 tw_156) rfl rfl rfl (by decide +kernel) ⟨Nat.le_of_ble_eq_true rfl, Nat.le_of_ble_eq_true rfl⟩) ⟨fun a U g mk q => by obtain ⟨q0, q1, qP, qK, qN, qD⟩ := q; exact ⟨q0, q1, qP, va_K.moved (u := U) (U := U.calling g mk a) (Vm.Alike.refl U.vm) qK, qN.same rfl, qD⟩, fun U hU hW => ⟨rfl, by rw [hU], by rw [hU]; exact hPc, va_K.moved hW.alike hK, hN.warm hW, hDc.weaken (fun _ _ _ _ => trivial)⟩⟩ rfl rfl hl.1 rfl (lv_room (Nat.le_of_ble_eq_true rfl)) d_Ta_clear_20 ⟨Nat.zero_le _, Nat.zero_le _⟩) hS (fun q _ h => hFc q h) hFc (fun u t H1 locs ht hvm hw hB hz1 hk1 hS => ?_)
  replace hw := hw.symm
  subst hw
  obtain ⟨hP1, -, hD1⟩ := hB
  rw [ht] at hP1
  obtain ⟨hP, hD⟩ := va_join (wr := [(h_t, .inr (3, [.int nf, .int nr, .int nc, .ref h_t_numbers, .int t_studied, .ref h_t_study]))]) (w1 := [(h_t_numbers, .inl (cI, t_numbers_n, .inl u_1))]) hP hD [1] [0] rfl rfl (by decide) (by decide) hk1 hFc hP1 hD1
  generalize H1 = H at hP hS ⊢
  have hP : va_P (dC, dI) cl_all [(h_t, .inr (3, [.int nf, .int nr, .int nc, .ref h_t_numbers, .int t_studied, .ref h_t_study])), (h_t_numbers, .inl (cI, t_numbers_n, .inl u_1))] H := hP.sub [0, 1] rfl
  have hD : va_D A [(h_t, .inr (3, [.int nf, .int nr, .int nc, .ref h_t_numbers, .int t_studied, .ref h_t_study])), (h_t_numbers, .inl (cI, t_numbers_n, .inl u_1))] := hD.sub [0, 1] (by decide) rfl
  refine lv_aload_n hx hb d_Ta_clear_23 rfl (lv_at hl 0 rfl) ?_
  refine lv_iconst (v := 0) hx hb d_Ta_clear_24 (by decide) ?_
  refine va_put (D := (dC, dI)) (ci := 3) (v := .int 0) (ty := .boolean) (C := "BasisWalk$Table") (T := T_Ta) (N := 6) hx hb hts iw1 ty_Ta tyok_Ta nm_Ta hown hK hP hD hS 0 rfl rfl 4 (by decide) fl5 (fun _ h9 => h9) rfl (by decide +kernel) rfl rfl (Nat.le_of_ble_eq_true rfl) d_Ta_clear_25 (fun H locs hP hD hS => ?_)
  have hP : va_P (dC, dI) cl_all [(h_t, .inr (3, [.int nf, .int nr, .int nc, .ref h_t_numbers, .int 0, .ref h_t_study])), (h_t_numbers, .inl (cI, t_numbers_n, .inl u_1))] H := hP
  have hD : va_D A [(h_t, .inr (3, [.int nf, .int nr, .int nc, .ref h_t_numbers, .int 0, .ref h_t_study])), (h_t_numbers, .inl (cI, t_numbers_n, .inl u_1))] := hD
  obtain rfl := Option.some.inj h
  subst hQ
  exact W.vret hx hb hr (fun t ht hW => ⟨⟨(nf, nr, nc, 0, u_1), rfl, rfl, by rw [ht]; exact hP, va_K.moved hW.alike hK, hD⟩, hS.F ht⟩) hS.2.2 d_Ta_clear_28
theorem d_Ta_hasPlace_0 : decode prog_5_method_3_code 0 = .ok (.iload_n 1, 1) := by decide +kernel
theorem d_Ta_hasPlace_1 : decode prog_5_method_3_code 1 = .ok (.ifCond .lt 27, 3) := by decide +kernel
theorem d_Ta_hasPlace_4 : decode prog_5_method_3_code 4 = .ok (.iload_n 1, 1) := by decide +kernel
theorem d_Ta_hasPlace_5 : decode prog_5_method_3_code 5 = .ok (.aload_n 0, 1) := by decide +kernel
theorem d_Ta_hasPlace_6 : decode prog_5_method_3_code 6 = .ok (.getfield 26, 3) := by decide +kernel
theorem d_Ta_hasPlace_9 : decode prog_5_method_3_code 9 = .ok (.if_icmp .ge 19, 3) := by decide +kernel
theorem d_Ta_hasPlace_12 : decode prog_5_method_3_code 12 = .ok (.iload_n 2, 1) := by decide +kernel
theorem d_Ta_hasPlace_13 : decode prog_5_method_3_code 13 = .ok (.ifCond .lt 15, 3) := by decide +kernel
theorem d_Ta_hasPlace_16 : decode prog_5_method_3_code 16 = .ok (.iload_n 2, 1) := by decide +kernel
theorem d_Ta_hasPlace_17 : decode prog_5_method_3_code 17 = .ok (.aload_n 0, 1) := by decide +kernel
theorem d_Ta_hasPlace_18 : decode prog_5_method_3_code 18 = .ok (.getfield 29, 3) := by decide +kernel
theorem d_Ta_hasPlace_21 : decode prog_5_method_3_code 21 = .ok (.if_icmp .ge 7, 3) := by decide +kernel
theorem d_Ta_hasPlace_24 : decode prog_5_method_3_code 24 = .ok (.iconst 1, 1) := by decide +kernel
theorem d_Ta_hasPlace_25 : decode prog_5_method_3_code 25 = .ok (.goto 4, 3) := by decide +kernel
theorem d_Ta_hasPlace_28 : decode prog_5_method_3_code 28 = .ok (.iconst 0, 1) := by decide +kernel
theorem d_Ta_hasPlace_29 : decode prog_5_method_3_code 29 = .ok (.ireturn, 1) := by decide +kernel
def f_T_hasPlace (t_rowCount : Int32) (t_columnCount : Int32) (row : Int32) (col : Int32) : Option (Int32) :=
  ck_if (row < 0) (some 0) (ck_if (t_rowCount ≤ row) (some 0) (ck_if (col < 0) (some 0) (ck_if (t_columnCount ≤ col) (some 0) (some 1))))
set_option maxHeartbeats 4000000 in
set_option maxRecDepth 100000 in
theorem c_T_hasPlace (l : Launch) (dC : Nat → ClassId) (dI : Nat → Nat → Nat) (cI cJ cB cZ cT cN : ClassId) (sz : Nat) (h_t : Nat) (h_t_numbers : Nat) (h_t_study : Nat) (t_field : Int32) (t_rowCount : Int32) (t_columnCount : Int32) (t_studied : Int32) (row : Int32) (col : Int32) (r : Int32) (h : f_T_hasPlace t_rowCount t_columnCount row col = some r) : Met l y_Ta_hasPlace w_Ta_hasPlace ({ frames := 0, cells := 0, slots := 0, locals := 0 } : Room) (va_Pc [.ref h_t, .int row, .int col] (fun U => U.heap.size = sz ∧ va_P (dC, dI) cl_all [(h_t, .inr (3, [.int t_field, .int t_rowCount, .int t_columnCount, .ref h_t_numbers, .int t_studied, .ref h_t_study]))] U.heap ∧ va_K (dC, dI) cl_all [(cI, .int), (cJ, .long), (cB, .byte), (cZ, .boolean), (cT, .object "BasisWalk$Table"), (cN, .object "BasisWalkModel$Num")] U ∧ NW U ∧ va_D (fun _ => True) [(h_t, .inr (3, [.int t_field, .int t_rowCount, .int t_columnCount, .ref h_t_numbers, .int t_studied, .ref h_t_study]))])) (va_Qi (fun (v : Int32) (_ : Unit) => v = r) (fun (u : Unit) (t : State) => va_P (dC, dI) cl_all [(h_t, .inr (3, [.int t_field, .int t_rowCount, .int t_columnCount, .ref h_t_numbers, .int t_studied, .ref h_t_study]))] t.heap ∧ va_K (dC, dI) cl_all [(cI, .int), (cJ, .long), (cB, .byte), (cZ, .boolean), (cT, .object "BasisWalk$Table"), (cN, .object "BasisWalkModel$Num")] t ∧ va_D (va_A [(h_t, .inr (3, [.int t_field, .int t_rowCount, .int t_columnCount, .ref h_t_numbers, .int t_studied, .ref h_t_study]))] sz) [(h_t, .inr (3, [.int t_field, .int t_rowCount, .int t_columnCount, .ref h_t_numbers, .int t_studied, .ref h_t_study]))]) (va_A [(h_t, .inr (3, [.int t_field, .int t_rowCount, .int t_columnCount, .ref h_t_numbers, .int t_studied, .ref h_t_study]))] sz)) 0 0 (va_A [(h_t, .inr (3, [.int t_field, .int t_rowCount, .int t_columnCount, .ref h_t_numbers, .int t_studied, .ref h_t_study]))] sz) := by
  refine Met.ofW (cc := prog_5_method_3_code) (maxL := 3) (ret := (Option.some Jvm.ClassFile.FieldType.boolean)) (by decide) rfl ?_
  intro p e s m args below meth c s₁ B hml hv
  obtain ⟨hAR, hsz, hP, hK, hN, hD0⟩ := hv
  have hx := B.exec
  have hb := B.bytes
  have hr := B.returns
  have hts := atoms_spec (ws := w_Ta_hasPlace) B.pre
  have hown : s.vm.findClass "BasisWalk$Table" = some m.cls := findClass_of_methodNamed B.named
  have hlocks := B.notSynchronized
  clear B
  subst hsz
  have hD := hD0.self (sz := s.heap.size)
  generalize hAe : va_A [(h_t, .inr (3, [.int t_field, .int t_rowCount, .int t_columnCount, .ref h_t_numbers, .int t_studied, .ref h_t_study]))] s.heap.size = A at hD ⊢
  have hA : ∀ q : Nat, s.heap.size ≤ q → A q := fun q h => by rw [← hAe]; exact Or.inr h
  clear hAe hD0
  have hS : va_S A s.heap s.heap [] := va_S.rf
  have hl := lv_entry ([.ref h_t, .int row, .int col]) (n := 3) (Nat.le_of_ble_eq_true rfl)
  subst hAR
  rw [lg_entry_eq]
  generalize (lg_sl ([.ref h_t, .int row, .int col]) ++ List.replicate (3 - (lg_sl ([.ref h_t, .int row, .int col])).length) Slot.unset).toArray = ls at hl ⊢
  have hl : lv_has ls 3 [(0, .ref h_t), (1, .int row), (2, .int col)] := hl
  change W p l e ({ frames := 0, cells := 0, slots := 0, locals := 0 } : Room) s m _ below meth c s.heap [] 0 0 _ _
  generalize hARe : ([.ref h_t, .int row, .int col] : List Value).toArray = AR at hts ⊢
  clear hARe
  generalize hQ : MQ below _ AR s 0 0 A = QQ
  have fl0 := hts _ (List.mem_cons_of_mem _ tw_61)
  have iw1 := (fun w hw => List.mem_cons_of_mem _ (in_Ta w hw) : ∀ w ∈ u_ws "BasisWalk$Table" T_Ta 6, w ∈ w_Ta_hasPlace)
  have fl2 := hts _ (List.mem_cons_of_mem _ tw_64)
  obtain ⟨H, hHe⟩ : ∃ H : Heap, H = s.heap := ⟨_, rfl⟩
  rw [← hHe] at hP ⊢
  replace hS : va_S A s.heap H [] := by rw [hHe]; exact va_S.rf
  clear hHe
  unfold f_T_hasPlace at h
  refine lv_iload_n hx hb d_Ta_hasPlace_0 rfl (lv_at hl 1 rfl) ?_
  refine lv_if_lt (tgt := 28) hx hb d_Ta_hasPlace_1 (by decide) (fun c_1 => ?_) (fun c_1 => ?_)
  · replace h := ck_if_t h c_1
    refine lv_iconst (v := 0) hx hb d_Ta_hasPlace_28 (by decide) ?_
    obtain rfl := Option.some.inj h
    subst hQ
    exact W.zret (ty := .boolean) (v := 0) hx hb hr rfl (fun t ht hW => ⟨⟨0, (), rfl, rfl, by rw [ht]; exact hP, va_K.moved hW.alike hK, hD⟩, hS.F ht⟩) hS.2.2 d_Ta_hasPlace_29
  · replace h := ck_if_f h c_1
    refine lv_iload_n hx hb d_Ta_hasPlace_4 rfl (lv_at hl 1 rfl) ?_
    refine lv_aload_n hx hb d_Ta_hasPlace_5 rfl (lv_at hl 0 rfl) ?_
    refine va_get (D := (dC, dI)) (ci := 3) (v := .int t_rowCount) (C := "BasisWalk$Table") (T := T_Ta) (N := 6) hx hb hts iw1 hown hK hP 0 rfl rfl 1 (by decide) fl0 (fun _ h9 => h9) rfl d_Ta_hasPlace_6 ?_
    refine lv_icmp_ge (tgt := 28) hx hb d_Ta_hasPlace_9 (by decide) (fun c_2 => ?_) (fun c_2 => ?_)
    · replace h := ck_if_t h c_2
      refine lv_iconst (v := 0) hx hb d_Ta_hasPlace_28 (by decide) ?_
      obtain rfl := Option.some.inj h
      subst hQ
      exact W.zret (ty := .boolean) (v := 0) hx hb hr rfl (fun t ht hW => ⟨⟨0, (), rfl, rfl, by rw [ht]; exact hP, va_K.moved hW.alike hK, hD⟩, hS.F ht⟩) hS.2.2 d_Ta_hasPlace_29
    · replace h := ck_if_f h c_2
      refine lv_iload_n hx hb d_Ta_hasPlace_12 rfl (lv_at hl 2 rfl) ?_
      refine lv_if_lt (tgt := 28) hx hb d_Ta_hasPlace_13 (by decide) (fun c_3 => ?_) (fun c_3 => ?_)
      · replace h := ck_if_t h c_3
        refine lv_iconst (v := 0) hx hb d_Ta_hasPlace_28 (by decide) ?_
        obtain rfl := Option.some.inj h
        subst hQ
        exact W.zret (ty := .boolean) (v := 0) hx hb hr rfl (fun t ht hW => ⟨⟨0, (), rfl, rfl, by rw [ht]; exact hP, va_K.moved hW.alike hK, hD⟩, hS.F ht⟩) hS.2.2 d_Ta_hasPlace_29
      · replace h := ck_if_f h c_3
        refine lv_iload_n hx hb d_Ta_hasPlace_16 rfl (lv_at hl 2 rfl) ?_
        refine lv_aload_n hx hb d_Ta_hasPlace_17 rfl (lv_at hl 0 rfl) ?_
        refine va_get (D := (dC, dI)) (ci := 3) (v := .int t_columnCount) (C := "BasisWalk$Table") (T := T_Ta) (N := 6) hx hb hts iw1 hown hK hP 0 rfl rfl 2 (by decide) fl2 (fun _ h9 => h9) rfl d_Ta_hasPlace_18 ?_
        refine lv_icmp_ge (tgt := 28) hx hb d_Ta_hasPlace_21 (by decide) (fun c_4 => ?_) (fun c_4 => ?_)
        · replace h := ck_if_t h c_4
          refine lv_iconst (v := 0) hx hb d_Ta_hasPlace_28 (by decide) ?_
          obtain rfl := Option.some.inj h
          subst hQ
          exact W.zret (ty := .boolean) (v := 0) hx hb hr rfl (fun t ht hW => ⟨⟨0, (), rfl, rfl, by rw [ht]; exact hP, va_K.moved hW.alike hK, hD⟩, hS.F ht⟩) hS.2.2 d_Ta_hasPlace_29
        · replace h := ck_if_f h c_4
          refine lv_iconst (v := 1) hx hb d_Ta_hasPlace_24 (by decide) ?_
          refine lv_goto (tgt := 29) hx hb d_Ta_hasPlace_25 (by decide) ?_
          obtain rfl := Option.some.inj h
          subst hQ
          exact W.zret (ty := .boolean) (v := 1) hx hb hr rfl (fun t ht hW => ⟨⟨1, (), rfl, rfl, by rw [ht]; exact hP, va_K.moved hW.alike hK, hD⟩, hS.F ht⟩) hS.2.2 d_Ta_hasPlace_29
theorem d_Ta_hasSet_0 : decode prog_5_method_4_code 0 = .ok (.iload_n 1, 1) := by decide +kernel
theorem d_Ta_hasSet_1 : decode prog_5_method_4_code 1 = .ok (.ifCond .lt 17, 3) := by decide +kernel
theorem d_Ta_hasSet_4 : decode prog_5_method_4_code 4 = .ok (.iload_n 1, 1) := by decide +kernel
theorem d_Ta_hasSet_5 : decode prog_5_method_4_code 5 = .ok (.iconst 1, 1) := by decide +kernel
theorem d_Ta_hasSet_6 : decode prog_5_method_4_code 6 = .ok (.aload_n 0, 1) := by decide +kernel
theorem d_Ta_hasSet_7 : decode prog_5_method_4_code 7 = .ok (.getfield 29, 3) := by decide +kernel
theorem d_Ta_hasSet_10 : decode prog_5_method_4_code 10 = .ok (.ishl, 1) := by decide +kernel
theorem d_Ta_hasSet_11 : decode prog_5_method_4_code 11 = .ok (.if_icmp .ge 7, 3) := by decide +kernel
theorem d_Ta_hasSet_14 : decode prog_5_method_4_code 14 = .ok (.iconst 1, 1) := by decide +kernel
theorem d_Ta_hasSet_15 : decode prog_5_method_4_code 15 = .ok (.goto 4, 3) := by decide +kernel
theorem d_Ta_hasSet_18 : decode prog_5_method_4_code 18 = .ok (.iconst 0, 1) := by decide +kernel
theorem d_Ta_hasSet_19 : decode prog_5_method_4_code 19 = .ok (.ireturn, 1) := by decide +kernel
def f_T_hasSet (t_columnCount : Int32) (set : Int32) : Option (Int32) :=
  ck_if (set < 0) (some 0) (ck_if (((1 : Int32) <<< (t_columnCount &&& 31)) ≤ set) (some 0) (some 1))
set_option maxHeartbeats 4000000 in
set_option maxRecDepth 100000 in
theorem c_T_hasSet (l : Launch) (dC : Nat → ClassId) (dI : Nat → Nat → Nat) (cI cJ cB cZ cT cN : ClassId) (sz : Nat) (h_t : Nat) (h_t_numbers : Nat) (h_t_study : Nat) (t_field : Int32) (t_rowCount : Int32) (t_columnCount : Int32) (t_studied : Int32) (set : Int32) (r : Int32) (h : f_T_hasSet t_columnCount set = some r) : Met l y_Ta_hasSet w_Ta_hasSet ({ frames := 0, cells := 0, slots := 0, locals := 0 } : Room) (va_Pc [.ref h_t, .int set] (fun U => U.heap.size = sz ∧ va_P (dC, dI) cl_all [(h_t, .inr (3, [.int t_field, .int t_rowCount, .int t_columnCount, .ref h_t_numbers, .int t_studied, .ref h_t_study]))] U.heap ∧ va_K (dC, dI) cl_all [(cI, .int), (cJ, .long), (cB, .byte), (cZ, .boolean), (cT, .object "BasisWalk$Table"), (cN, .object "BasisWalkModel$Num")] U ∧ NW U ∧ va_D (fun _ => True) [(h_t, .inr (3, [.int t_field, .int t_rowCount, .int t_columnCount, .ref h_t_numbers, .int t_studied, .ref h_t_study]))])) (va_Qi (fun (v : Int32) (_ : Unit) => v = r) (fun (u : Unit) (t : State) => va_P (dC, dI) cl_all [(h_t, .inr (3, [.int t_field, .int t_rowCount, .int t_columnCount, .ref h_t_numbers, .int t_studied, .ref h_t_study]))] t.heap ∧ va_K (dC, dI) cl_all [(cI, .int), (cJ, .long), (cB, .byte), (cZ, .boolean), (cT, .object "BasisWalk$Table"), (cN, .object "BasisWalkModel$Num")] t ∧ va_D (va_A [(h_t, .inr (3, [.int t_field, .int t_rowCount, .int t_columnCount, .ref h_t_numbers, .int t_studied, .ref h_t_study]))] sz) [(h_t, .inr (3, [.int t_field, .int t_rowCount, .int t_columnCount, .ref h_t_numbers, .int t_studied, .ref h_t_study]))]) (va_A [(h_t, .inr (3, [.int t_field, .int t_rowCount, .int t_columnCount, .ref h_t_numbers, .int t_studied, .ref h_t_study]))] sz)) 0 0 (va_A [(h_t, .inr (3, [.int t_field, .int t_rowCount, .int t_columnCount, .ref h_t_numbers, .int t_studied, .ref h_t_study]))] sz) := by
  refine Met.ofW (cc := prog_5_method_4_code) (maxL := 2) (ret := (Option.some Jvm.ClassFile.FieldType.boolean)) (by decide) rfl ?_
  intro p e s m args below meth c s₁ B hml hv
  obtain ⟨hAR, hsz, hP, hK, hN, hD0⟩ := hv
  have hx := B.exec
  have hb := B.bytes
  have hr := B.returns
  have hts := atoms_spec (ws := w_Ta_hasSet) B.pre
  have hown : s.vm.findClass "BasisWalk$Table" = some m.cls := findClass_of_methodNamed B.named
  have hlocks := B.notSynchronized
  clear B
  subst hsz
  have hD := hD0.self (sz := s.heap.size)
  generalize hAe : va_A [(h_t, .inr (3, [.int t_field, .int t_rowCount, .int t_columnCount, .ref h_t_numbers, .int t_studied, .ref h_t_study]))] s.heap.size = A at hD ⊢
  have hA : ∀ q : Nat, s.heap.size ≤ q → A q := fun q h => by rw [← hAe]; exact Or.inr h
  clear hAe hD0
  have hS : va_S A s.heap s.heap [] := va_S.rf
  have hl := lv_entry ([.ref h_t, .int set]) (n := 2) (Nat.le_of_ble_eq_true rfl)
  subst hAR
  rw [lg_entry_eq]
  generalize (lg_sl ([.ref h_t, .int set]) ++ List.replicate (2 - (lg_sl ([.ref h_t, .int set])).length) Slot.unset).toArray = ls at hl ⊢
  have hl : lv_has ls 2 [(0, .ref h_t), (1, .int set)] := hl
  change W p l e ({ frames := 0, cells := 0, slots := 0, locals := 0 } : Room) s m _ below meth c s.heap [] 0 0 _ _
  generalize hARe : ([.ref h_t, .int set] : List Value).toArray = AR at hts ⊢
  clear hARe
  generalize hQ : MQ below _ AR s 0 0 A = QQ
  have fl0 := hts _ (List.mem_cons_of_mem _ tw_64)
  have iw1 := (fun w hw => List.mem_cons_of_mem _ (in_Ta w hw) : ∀ w ∈ u_ws "BasisWalk$Table" T_Ta 6, w ∈ w_Ta_hasSet)
  obtain ⟨H, hHe⟩ : ∃ H : Heap, H = s.heap := ⟨_, rfl⟩
  rw [← hHe] at hP ⊢
  replace hS : va_S A s.heap H [] := by rw [hHe]; exact va_S.rf
  clear hHe
  unfold f_T_hasSet at h
  refine lv_iload_n hx hb d_Ta_hasSet_0 rfl (lv_at hl 1 rfl) ?_
  refine lv_if_lt (tgt := 18) hx hb d_Ta_hasSet_1 (by decide) (fun c_1 => ?_) (fun c_1 => ?_)
  · replace h := ck_if_t h c_1
    refine lv_iconst (v := 0) hx hb d_Ta_hasSet_18 (by decide) ?_
    obtain rfl := Option.some.inj h
    subst hQ
    exact W.zret (ty := .boolean) (v := 0) hx hb hr rfl (fun t ht hW => ⟨⟨0, (), rfl, rfl, by rw [ht]; exact hP, va_K.moved hW.alike hK, hD⟩, hS.F ht⟩) hS.2.2 d_Ta_hasSet_19
  · replace h := ck_if_f h c_1
    refine lv_iload_n hx hb d_Ta_hasSet_4 rfl (lv_at hl 1 rfl) ?_
    refine lv_iconst (v := 1) hx hb d_Ta_hasSet_5 (by decide) ?_
    refine lv_aload_n hx hb d_Ta_hasSet_6 rfl (lv_at hl 0 rfl) ?_
    refine va_get (D := (dC, dI)) (ci := 3) (v := .int t_columnCount) (C := "BasisWalk$Table") (T := T_Ta) (N := 6) hx hb hts iw1 hown hK hP 0 rfl rfl 2 (by decide) fl0 (fun _ h9 => h9) rfl d_Ta_hasSet_7 ?_
    refine lv_ishl hx hb d_Ta_hasSet_10 ?_
    refine lv_icmp_ge (tgt := 18) hx hb d_Ta_hasSet_11 (by decide) (fun c_2 => ?_) (fun c_2 => ?_)
    · replace h := ck_if_t h c_2
      refine lv_iconst (v := 0) hx hb d_Ta_hasSet_18 (by decide) ?_
      obtain rfl := Option.some.inj h
      subst hQ
      exact W.zret (ty := .boolean) (v := 0) hx hb hr rfl (fun t ht hW => ⟨⟨0, (), rfl, rfl, by rw [ht]; exact hP, va_K.moved hW.alike hK, hD⟩, hS.F ht⟩) hS.2.2 d_Ta_hasSet_19
    · replace h := ck_if_f h c_2
      refine lv_iconst (v := 1) hx hb d_Ta_hasSet_14 (by decide) ?_
      refine lv_goto (tgt := 19) hx hb d_Ta_hasSet_15 (by decide) ?_
      obtain rfl := Option.some.inj h
      subst hQ
      exact W.zret (ty := .boolean) (v := 1) hx hb hr rfl (fun t ht hW => ⟨⟨1, (), rfl, rfl, by rw [ht]; exact hP, va_K.moved hW.alike hK, hD⟩, hS.F ht⟩) hS.2.2 d_Ta_hasSet_19
theorem d_Ta_write_0 : decode prog_5_method_5_code 0 = .ok (.aload_n 0, 1) := by decide +kernel
theorem d_Ta_write_1 : decode prog_5_method_5_code 1 = .ok (.getfield 9, 3) := by decide +kernel
theorem d_Ta_write_4 : decode prog_5_method_5_code 4 = .ok (.iload_n 1, 1) := by decide +kernel
theorem d_Ta_write_5 : decode prog_5_method_5_code 5 = .ok (.bipush 12, 2) := by decide +kernel
theorem d_Ta_write_7 : decode prog_5_method_5_code 7 = .ok (.imul, 1) := by decide +kernel
theorem d_Ta_write_8 : decode prog_5_method_5_code 8 = .ok (.iload_n 2, 1) := by decide +kernel
theorem d_Ta_write_9 : decode prog_5_method_5_code 9 = .ok (.iadd, 1) := by decide +kernel
theorem d_Ta_write_10 : decode prog_5_method_5_code 10 = .ok (.aload_n 0, 1) := by decide +kernel
theorem d_Ta_write_11 : decode prog_5_method_5_code 11 = .ok (.getfield 22, 3) := by decide +kernel
theorem d_Ta_write_14 : decode prog_5_method_5_code 14 = .ok (.ifCond .ne 7, 3) := by decide +kernel
theorem d_Ta_write_17 : decode prog_5_method_5_code 17 = .ok (.iload_n 3, 1) := by decide +kernel
theorem d_Ta_write_18 : decode prog_5_method_5_code 18 = .ok (.goto 11, 3) := by decide +kernel
theorem d_Ta_write_21 : decode prog_5_method_5_code 21 = .ok (.iload_n 3, 1) := by decide +kernel
theorem d_Ta_write_22 : decode prog_5_method_5_code 22 = .ok (.aload_n 0, 1) := by decide +kernel
theorem d_Ta_write_23 : decode prog_5_method_5_code 23 = .ok (.getfield 22, 3) := by decide +kernel
theorem d_Ta_write_26 : decode prog_5_method_5_code 26 = .ok (.invokestatic 42, 3) := by decide +kernel
theorem d_Ta_write_29 : decode prog_5_method_5_code 29 = .ok (.iastore, 1) := by decide +kernel
theorem d_Ta_write_30 : decode prog_5_method_5_code 30 = .ok (.aload_n 0, 1) := by decide +kernel
theorem d_Ta_write_31 : decode prog_5_method_5_code 31 = .ok (.iconst 0, 1) := by decide +kernel
theorem d_Ta_write_32 : decode prog_5_method_5_code 32 = .ok (.putfield 38, 3) := by decide +kernel
theorem d_Ta_write_35 : decode prog_5_method_5_code 35 = .ok (.return_, 1) := by decide +kernel
def f_T_write (t_field : Int32) (t_numbers_n : Nat) (t_numbers : Nat → Int32) (row : Int32) (col : Int32) (v : Int32) : Option ((Nat → Int32) × Int32) :=
  ck_if (t_field = 0) (ck_in ((row * 12) + col) t_numbers_n <| some ((upd t_numbers ((row * 12) + col).toNatClampNeg v), 0)) (ck_b1 (f_floorMod v t_field) <| fun r_2 => ck_in ((row * 12) + col) t_numbers_n <| some ((upd t_numbers ((row * 12) + col).toNatClampNeg r_2), 0))
set_option maxHeartbeats 4000000 in
set_option maxRecDepth 100000 in
theorem c_T_write (l : Launch) (dC : Nat → ClassId) (dI : Nat → Nat → Nat) (cI cJ cB cZ cT cN : ClassId) (sz : Nat) (h_t : Nat) (h_t_numbers : Nat) (h_t_study : Nat) (t_field : Int32) (t_rowCount : Int32) (t_columnCount : Int32) (t_studied : Int32) (t_numbers_n : Nat) (t_numbers : Nat → Int32) (row : Int32) (col : Int32) (v : Int32) (r : (Nat → Int32) × Int32) (h : f_T_write t_field t_numbers_n t_numbers row col v = some r) : Met l y_Ta_write w_Ta_write ({ frames := 1, cells := 0, slots := 0, locals := 22 } : Room) (va_Pc [.ref h_t, .int row, .int col, .int v] (fun U => U.heap.size = sz ∧ va_P (dC, dI) cl_all [(h_t, .inr (3, [.int t_field, .int t_rowCount, .int t_columnCount, .ref h_t_numbers, .int t_studied, .ref h_t_study])), (h_t_numbers, .inl (cI, t_numbers_n, .inl t_numbers))] U.heap ∧ va_K (dC, dI) cl_all [(cI, .int), (cJ, .long), (cB, .byte), (cZ, .boolean), (cT, .object "BasisWalk$Table"), (cN, .object "BasisWalkModel$Num")] U ∧ NW U ∧ va_D (fun _ => True) [(h_t, .inr (3, [.int t_field, .int t_rowCount, .int t_columnCount, .ref h_t_numbers, .int t_studied, .ref h_t_study])), (h_t_numbers, .inl (cI, t_numbers_n, .inl t_numbers))])) (va_Qv (fun u : (Nat → Int32) × Int32 => u = r) (fun (u : (Nat → Int32) × Int32) (t : State) => va_P (dC, dI) cl_all [(h_t, .inr (3, [.int t_field, .int t_rowCount, .int t_columnCount, .ref h_t_numbers, .int u.2, .ref h_t_study])), (h_t_numbers, .inl (cI, t_numbers_n, .inl u.1))] t.heap ∧ va_K (dC, dI) cl_all [(cI, .int), (cJ, .long), (cB, .byte), (cZ, .boolean), (cT, .object "BasisWalk$Table"), (cN, .object "BasisWalkModel$Num")] t ∧ va_D (va_A [(h_t, .inr (3, [.int t_field, .int t_rowCount, .int t_columnCount, .ref h_t_numbers, .int t_studied, .ref h_t_study])), (h_t_numbers, .inl (cI, t_numbers_n, .inl t_numbers))] sz) [(h_t, .inr (3, [.int t_field, .int t_rowCount, .int t_columnCount, .ref h_t_numbers, .int u.2, .ref h_t_study])), (h_t_numbers, .inl (cI, t_numbers_n, .inl u.1))]) (va_A [(h_t, .inr (3, [.int t_field, .int t_rowCount, .int t_columnCount, .ref h_t_numbers, .int t_studied, .ref h_t_study])), (h_t_numbers, .inl (cI, t_numbers_n, .inl t_numbers))] sz)) 0 0 (va_A [(h_t, .inr (3, [.int t_field, .int t_rowCount, .int t_columnCount, .ref h_t_numbers, .int t_studied, .ref h_t_study])), (h_t_numbers, .inl (cI, t_numbers_n, .inl t_numbers))] sz) := by
  refine Met.ofW (cc := prog_5_method_5_code) (maxL := 4) (ret := (Option.none : Option Jvm.ClassFile.FieldType)) (by decide) rfl ?_
  intro p e s m args below meth c s₁ B hml hv
  obtain ⟨hAR, hsz, hP, hK, hN, hD0⟩ := hv
  have hx := B.exec
  have hb := B.bytes
  have hr := B.returns
  have hts := atoms_spec (ws := w_Ta_write) B.pre
  have hown : s.vm.findClass "BasisWalk$Table" = some m.cls := findClass_of_methodNamed B.named
  have hlocks := B.notSynchronized
  clear B
  subst hsz
  have hD := hD0.self (sz := s.heap.size)
  generalize hAe : va_A [(h_t, .inr (3, [.int t_field, .int t_rowCount, .int t_columnCount, .ref h_t_numbers, .int t_studied, .ref h_t_study])), (h_t_numbers, .inl (cI, t_numbers_n, .inl t_numbers))] s.heap.size = A at hD ⊢
  have hA : ∀ q : Nat, s.heap.size ≤ q → A q := fun q h => by rw [← hAe]; exact Or.inr h
  clear hAe hD0
  have hS : va_S A s.heap s.heap [] := va_S.rf
  have hl := lv_entry ([.ref h_t, .int row, .int col, .int v]) (n := 4) (Nat.le_of_ble_eq_true rfl)
  subst hAR
  rw [lg_entry_eq]
  generalize (lg_sl ([.ref h_t, .int row, .int col, .int v]) ++ List.replicate (4 - (lg_sl ([.ref h_t, .int row, .int col, .int v])).length) Slot.unset).toArray = ls at hl ⊢
  have hl : lv_has ls 4 [(0, .ref h_t), (1, .int row), (2, .int col), (3, .int v)] := hl
  change W p l e ({ frames := 1, cells := 0, slots := 0, locals := 22 } : Room) s m _ below meth c s.heap [] 0 0 _ _
  generalize hARe : ([.ref h_t, .int row, .int col, .int v] : List Value).toArray = AR at hts ⊢
  clear hARe
  generalize hQ : MQ below _ AR s 0 0 A = QQ
  have fl0 := hts _ (List.mem_cons_of_mem _ tw_67)
  have iw1 := (fun w hw => List.mem_cons_of_mem _ (in_Ta w hw) : ∀ w ∈ u_ws "BasisWalk$Table" T_Ta 6, w ∈ w_Ta_write)
  have fl2 := hts _ (List.mem_cons_of_mem _ tw_58)
  have fl3 := hts _ (List.mem_cons_of_mem _ tw_69)
  obtain ⟨H, hHe⟩ : ∃ H : Heap, H = s.heap := ⟨_, rfl⟩
  rw [← hHe] at hP ⊢
  replace hS : va_S A s.heap H [] := by rw [hHe]; exact va_S.rf
  clear hHe
  unfold f_T_write at h
  refine lv_aload_n hx hb d_Ta_write_0 rfl (lv_at hl 0 rfl) ?_
  refine va_get (D := (dC, dI)) (ci := 3) (v := .ref h_t_numbers) (C := "BasisWalk$Table") (T := T_Ta) (N := 6) hx hb hts iw1 hown hK hP 0 rfl rfl 3 (by decide) fl0 (fun _ h9 => h9) rfl d_Ta_write_1 ?_
  refine lv_iload_n hx hb d_Ta_write_4 rfl (lv_at hl 1 rfl) ?_
  refine lv_bipush (v := 12) hx hb d_Ta_write_5 (by decide) ?_
  refine lv_imul hx hb d_Ta_write_7 ?_
  refine lv_iload_n hx hb d_Ta_write_8 rfl (lv_at hl 2 rfl) ?_
  refine lv_iadd hx hb d_Ta_write_9 ?_
  refine lv_aload_n hx hb d_Ta_write_10 rfl (lv_at hl 0 rfl) ?_
  refine va_get (D := (dC, dI)) (ci := 3) (v := .int t_field) (C := "BasisWalk$Table") (T := T_Ta) (N := 6) hx hb hts iw1 hown hK hP 0 rfl rfl 0 (by decide) fl2 (fun _ h9 => h9) rfl d_Ta_write_11 ?_
  refine lv_if_ne (tgt := 21) hx hb d_Ta_write_14 (by decide) (fun c_1 => ?_) (fun c_1 => ?_)
  · replace h := ck_if_f h c_1
    refine lv_iload_n hx hb d_Ta_write_21 rfl (lv_at hl 3 rfl) ?_
    refine lv_aload_n hx hb d_Ta_write_22 rfl (lv_at hl 0 rfl) ?_
    refine va_get (D := (dC, dI)) (ci := 3) (v := .int t_field) (C := "BasisWalk$Table") (T := T_Ta) (N := 6) hx hb hts iw1 hown hK hP 0 rfl rfl 0 (by decide) fl2 (fun _ h9 => h9) rfl d_Ta_write_23 ?_
    obtain ⟨r_2, hc_3, h⟩ := ck_b1_s h
    have hPc := hP.sub (ws' := []) [] rfl
    have hDc := hD.sub (ws' := []) [] (by decide) rfl
    have hFc := va_free (wc := []) hD hS hA [] rfl
    refine va_calli (va_runS (As := [.int v, .int t_field]) (rest := [.int ((row * 12) + col), .ref h_t_numbers]) ⟨hx, hb, hml, hown, hts⟩ (c_floorMod l dC dI cI cJ cB cZ cT cN H.size v t_field _ hc_3) (va_cwS 2 hts (tb_S tw_169 tw_170 tw_9 tw_171) rfl rfl rfl (by decide +kernel) ⟨Nat.le_of_ble_eq_true rfl, Nat.le_of_ble_eq_true rfl⟩) ⟨fun a U g mk q => by obtain ⟨q0, q1, qP, qK, qN, qD⟩ := q; exact ⟨q0, q1, qP, va_K.moved (u := U) (U := U.calling g mk a) (Vm.Alike.refl U.vm) qK, qN.same rfl, qD⟩, fun U hU hW => ⟨rfl, by rw [hU], by rw [hU]; exact hPc, va_K.moved hW.alike hK, hN.warm hW, hDc.weaken (fun _ _ _ _ => trivial)⟩⟩ rfl rfl hl.1 rfl (lv_room (Nat.le_of_ble_eq_true rfl)) d_Ta_write_26 ⟨Nat.zero_le _, Nat.zero_le _⟩) hS (fun q _ h => hFc q h) hFc (fun rr u t H1 locs ht hvm hw hB hz1 hk1 hS => ?_)
    replace hw := hw.symm
    subst hw
    obtain ⟨hP1, -, hD1⟩ := hB
    rw [ht] at hP1
    obtain ⟨hP, hD⟩ := va_join (wr := [(h_t, .inr (3, [.int t_field, .int t_rowCount, .int t_columnCount, .ref h_t_numbers, .int t_studied, .ref h_t_study])), (h_t_numbers, .inl (cI, t_numbers_n, .inl t_numbers))]) (w1 := []) hP hD [] [0, 1] rfl rfl (by decide) (by decide) hk1 hFc hP1 hD1
    generalize H1 = H at hP hS ⊢
    have hP : va_P (dC, dI) cl_all [(h_t, .inr (3, [.int t_field, .int t_rowCount, .int t_columnCount, .ref h_t_numbers, .int t_studied, .ref h_t_study])), (h_t_numbers, .inl (cI, t_numbers_n, .inl t_numbers))] H := hP.sub [0, 1] rfl
    have hD : va_D A [(h_t, .inr (3, [.int t_field, .int t_rowCount, .int t_columnCount, .ref h_t_numbers, .int t_studied, .ref h_t_study])), (h_t_numbers, .inl (cI, t_numbers_n, .inl t_numbers))] := hD.sub [0, 1] (by decide) rfl
    obtain ⟨g_4, h⟩ := ck_in_s h
    refine va_iast hx hb hK hP hD hS 1 0 rfl rfl g_4 d_Ta_write_29 (fun H locs hP hD hS => ?_)
    have hP : va_P (dC, dI) cl_all [(h_t, .inr (3, [.int t_field, .int t_rowCount, .int t_columnCount, .ref h_t_numbers, .int t_studied, .ref h_t_study])), (h_t_numbers, .inl (cI, t_numbers_n, .inl (upd t_numbers ((row * 12) + col).toNatClampNeg r_2)))] H := hP
    have hD : va_D A [(h_t, .inr (3, [.int t_field, .int t_rowCount, .int t_columnCount, .ref h_t_numbers, .int t_studied, .ref h_t_study])), (h_t_numbers, .inl (cI, t_numbers_n, .inl (upd t_numbers ((row * 12) + col).toNatClampNeg r_2)))] := hD
    refine lv_aload_n hx hb d_Ta_write_30 rfl (lv_at hl 0 rfl) ?_
    refine lv_iconst (v := 0) hx hb d_Ta_write_31 (by decide) ?_
    refine va_put (D := (dC, dI)) (ci := 3) (v := .int 0) (ty := .boolean) (C := "BasisWalk$Table") (T := T_Ta) (N := 6) hx hb hts iw1 ty_Ta tyok_Ta nm_Ta hown hK hP hD hS 0 rfl rfl 4 (by decide) fl3 (fun _ h9 => h9) rfl (by decide +kernel) rfl rfl (Nat.le_of_ble_eq_true rfl) d_Ta_write_32 (fun H locs hP hD hS => ?_)
    have hP : va_P (dC, dI) cl_all [(h_t, .inr (3, [.int t_field, .int t_rowCount, .int t_columnCount, .ref h_t_numbers, .int 0, .ref h_t_study])), (h_t_numbers, .inl (cI, t_numbers_n, .inl (upd t_numbers ((row * 12) + col).toNatClampNeg r_2)))] H := hP
    have hD : va_D A [(h_t, .inr (3, [.int t_field, .int t_rowCount, .int t_columnCount, .ref h_t_numbers, .int 0, .ref h_t_study])), (h_t_numbers, .inl (cI, t_numbers_n, .inl (upd t_numbers ((row * 12) + col).toNatClampNeg r_2)))] := hD
    obtain rfl := Option.some.inj h
    subst hQ
    exact W.vret hx hb hr (fun t ht hW => ⟨⟨((upd t_numbers ((row * 12) + col).toNatClampNeg r_2), 0), rfl, rfl, by rw [ht]; exact hP, va_K.moved hW.alike hK, hD⟩, hS.F ht⟩) hS.2.2 d_Ta_write_35
  · replace h := ck_if_t h c_1
    refine lv_iload_n hx hb d_Ta_write_17 rfl (lv_at hl 3 rfl) ?_
    refine lv_goto (tgt := 29) hx hb d_Ta_write_18 (by decide) ?_
    obtain ⟨g_5, h⟩ := ck_in_s h
    refine va_iast hx hb hK hP hD hS 1 0 rfl rfl g_5 d_Ta_write_29 (fun H locs hP hD hS => ?_)
    have hP : va_P (dC, dI) cl_all [(h_t, .inr (3, [.int t_field, .int t_rowCount, .int t_columnCount, .ref h_t_numbers, .int t_studied, .ref h_t_study])), (h_t_numbers, .inl (cI, t_numbers_n, .inl (upd t_numbers ((row * 12) + col).toNatClampNeg v)))] H := hP
    have hD : va_D A [(h_t, .inr (3, [.int t_field, .int t_rowCount, .int t_columnCount, .ref h_t_numbers, .int t_studied, .ref h_t_study])), (h_t_numbers, .inl (cI, t_numbers_n, .inl (upd t_numbers ((row * 12) + col).toNatClampNeg v)))] := hD
    refine lv_aload_n hx hb d_Ta_write_30 rfl (lv_at hl 0 rfl) ?_
    refine lv_iconst (v := 0) hx hb d_Ta_write_31 (by decide) ?_
    refine va_put (D := (dC, dI)) (ci := 3) (v := .int 0) (ty := .boolean) (C := "BasisWalk$Table") (T := T_Ta) (N := 6) hx hb hts iw1 ty_Ta tyok_Ta nm_Ta hown hK hP hD hS 0 rfl rfl 4 (by decide) fl3 (fun _ h9 => h9) rfl (by decide +kernel) rfl rfl (Nat.le_of_ble_eq_true rfl) d_Ta_write_32 (fun H locs hP hD hS => ?_)
    have hP : va_P (dC, dI) cl_all [(h_t, .inr (3, [.int t_field, .int t_rowCount, .int t_columnCount, .ref h_t_numbers, .int 0, .ref h_t_study])), (h_t_numbers, .inl (cI, t_numbers_n, .inl (upd t_numbers ((row * 12) + col).toNatClampNeg v)))] H := hP
    have hD : va_D A [(h_t, .inr (3, [.int t_field, .int t_rowCount, .int t_columnCount, .ref h_t_numbers, .int 0, .ref h_t_study])), (h_t_numbers, .inl (cI, t_numbers_n, .inl (upd t_numbers ((row * 12) + col).toNatClampNeg v)))] := hD
    obtain rfl := Option.some.inj h
    subst hQ
    exact W.vret hx hb hr (fun t ht hW => ⟨⟨((upd t_numbers ((row * 12) + col).toNatClampNeg v), 0), rfl, rfl, by rw [ht]; exact hP, va_K.moved hW.alike hK, hD⟩, hS.F ht⟩) hS.2.2 d_Ta_write_35
theorem d_Or_oneLess_0 : decode prog_3_method_3_code 0 = .ok (.iload_n 1, 1) := by decide +kernel
theorem d_Or_oneLess_1 : decode prog_3_method_3_code 1 = .ok (.istore_n 2, 1) := by decide +kernel
theorem d_Or_oneLess_2 : decode prog_3_method_3_code 2 = .ok (.aload_n 0, 1) := by decide +kernel
theorem d_Or_oneLess_3 : decode prog_3_method_3_code 3 = .ok (.getfield 21, 3) := by decide +kernel
theorem d_Or_oneLess_6 : decode prog_3_method_3_code 6 = .ok (.iconst 1, 1) := by decide +kernel
theorem d_Or_oneLess_7 : decode prog_3_method_3_code 7 = .ok (.isub, 1) := by decide +kernel
theorem d_Or_oneLess_8 : decode prog_3_method_3_code 8 = .ok (.istore_n 3, 1) := by decide +kernel
theorem d_Or_oneLess_9 : decode prog_3_method_3_code 9 = .ok (.iload_n 3, 1) := by decide +kernel
theorem d_Or_oneLess_10 : decode prog_3_method_3_code 10 = .ok (.ifCond .lt 25, 3) := by decide +kernel
theorem d_Or_oneLess_13 : decode prog_3_method_3_code 13 = .ok (.iload_n 2, 1) := by decide +kernel
theorem d_Or_oneLess_14 : decode prog_3_method_3_code 14 = .ok (.iconst 1, 1) := by decide +kernel
theorem d_Or_oneLess_15 : decode prog_3_method_3_code 15 = .ok (.iload_n 3, 1) := by decide +kernel
theorem d_Or_oneLess_16 : decode prog_3_method_3_code 16 = .ok (.ishl, 1) := by decide +kernel
theorem d_Or_oneLess_17 : decode prog_3_method_3_code 17 = .ok (.ixor, 1) := by decide +kernel
theorem d_Or_oneLess_18 : decode prog_3_method_3_code 18 = .ok (.istore_n 2, 1) := by decide +kernel
theorem d_Or_oneLess_19 : decode prog_3_method_3_code 19 = .ok (.iload_n 1, 1) := by decide +kernel
theorem d_Or_oneLess_20 : decode prog_3_method_3_code 20 = .ok (.iconst 1, 1) := by decide +kernel
theorem d_Or_oneLess_21 : decode prog_3_method_3_code 21 = .ok (.iload_n 3, 1) := by decide +kernel
theorem d_Or_oneLess_22 : decode prog_3_method_3_code 22 = .ok (.ishl, 1) := by decide +kernel
theorem d_Or_oneLess_23 : decode prog_3_method_3_code 23 = .ok (.iand, 1) := by decide +kernel
theorem d_Or_oneLess_24 : decode prog_3_method_3_code 24 = .ok (.ifCond .eq 5, 3) := by decide +kernel
theorem d_Or_oneLess_27 : decode prog_3_method_3_code 27 = .ok (.iload_n 2, 1) := by decide +kernel
theorem d_Or_oneLess_28 : decode prog_3_method_3_code 28 = .ok (.ireturn, 1) := by decide +kernel
theorem d_Or_oneLess_29 : decode prog_3_method_3_code 29 = .ok (.iinc 3 (-1), 3) := by decide +kernel
theorem d_Or_oneLess_32 : decode prog_3_method_3_code 32 = .ok (.goto (-23), 3) := by decide +kernel
theorem d_Or_oneLess_35 : decode prog_3_method_3_code 35 = .ok (.iload_n 2, 1) := by decide +kernel
theorem d_Or_oneLess_36 : decode prog_3_method_3_code 36 = .ok (.ireturn, 1) := by decide +kernel
def f_O_oneLess (o_columnCount : Int32) (set : Int32) : Option (Int32) :=
  ck_nm (o_columnCount - 1) <| fun x_1 => lo2 (fun k_9 (v3_2 : Int32) (v2_3 : Int32) => ck_if (v3_2 < 0) (some v2_3) (ck_nm (v2_3 ^^^ ((1 : Int32) <<< (v3_2 &&& 31))) <| fun x_5 => ck_if ((set &&& ((1 : Int32) <<< (v3_2 &&& 31))) = 0) (ck_nm (v3_2 + (-1)) <| fun x_7 => k_9 x_7 x_5) (some x_5))) ck_F x_1 set
set_option maxHeartbeats 4000000 in
set_option maxRecDepth 100000 in
theorem c_O_oneLess (l : Launch) (dC : Nat → ClassId) (dI : Nat → Nat → Nat) (cI cJ cB cZ cT cN : ClassId) (sz : Nat) (h_o : Nat) (h_o_sets : Nat) (h_o_starts : Nat) (h_o_nexts : Nat) (o_columnCount : Int32) (set : Int32) (r : Int32) (h : f_O_oneLess o_columnCount set = some r) : Met l y_Or_oneLess w_Or_oneLess ({ frames := 0, cells := 0, slots := 0, locals := 0 } : Room) (va_Pc [.ref h_o, .int set] (fun U => U.heap.size = sz ∧ va_P (dC, dI) cl_all [(h_o, .inr (1, [.int o_columnCount, .ref h_o_sets, .ref h_o_starts, .ref h_o_nexts]))] U.heap ∧ va_K (dC, dI) cl_all [(cI, .int), (cJ, .long), (cB, .byte), (cZ, .boolean), (cT, .object "BasisWalk$Table"), (cN, .object "BasisWalkModel$Num")] U ∧ NW U ∧ va_D (fun _ => True) [(h_o, .inr (1, [.int o_columnCount, .ref h_o_sets, .ref h_o_starts, .ref h_o_nexts]))])) (va_Qi (fun (v : Int32) (_ : Unit) => v = r) (fun (u : Unit) (t : State) => va_P (dC, dI) cl_all [(h_o, .inr (1, [.int o_columnCount, .ref h_o_sets, .ref h_o_starts, .ref h_o_nexts]))] t.heap ∧ va_K (dC, dI) cl_all [(cI, .int), (cJ, .long), (cB, .byte), (cZ, .boolean), (cT, .object "BasisWalk$Table"), (cN, .object "BasisWalkModel$Num")] t ∧ va_D (va_A [(h_o, .inr (1, [.int o_columnCount, .ref h_o_sets, .ref h_o_starts, .ref h_o_nexts]))] sz) [(h_o, .inr (1, [.int o_columnCount, .ref h_o_sets, .ref h_o_starts, .ref h_o_nexts]))]) (va_A [(h_o, .inr (1, [.int o_columnCount, .ref h_o_sets, .ref h_o_starts, .ref h_o_nexts]))] sz)) 0 0 (va_A [(h_o, .inr (1, [.int o_columnCount, .ref h_o_sets, .ref h_o_starts, .ref h_o_nexts]))] sz) := by
  refine Met.ofW (cc := prog_3_method_3_code) (maxL := 4) (ret := (Option.some Jvm.ClassFile.FieldType.int)) (by decide) rfl ?_
  intro p e s m args below meth c s₁ B hml hv
  obtain ⟨hAR, hsz, hP, hK, hN, hD0⟩ := hv
  have hx := B.exec
  have hb := B.bytes
  have hr := B.returns
  have hts := atoms_spec (ws := w_Or_oneLess) B.pre
  have hown : s.vm.findClass "BasisWalk$Order" = some m.cls := findClass_of_methodNamed B.named
  have hlocks := B.notSynchronized
  clear B
  subst hsz
  have hD := hD0.self (sz := s.heap.size)
  generalize hAe : va_A [(h_o, .inr (1, [.int o_columnCount, .ref h_o_sets, .ref h_o_starts, .ref h_o_nexts]))] s.heap.size = A at hD ⊢
  have hA : ∀ q : Nat, s.heap.size ≤ q → A q := fun q h => by rw [← hAe]; exact Or.inr h
  clear hAe hD0
  have hS : va_S A s.heap s.heap [] := va_S.rf
  have hl := lv_entry ([.ref h_o, .int set]) (n := 4) (Nat.le_of_ble_eq_true rfl)
  subst hAR
  rw [lg_entry_eq]
  generalize (lg_sl ([.ref h_o, .int set]) ++ List.replicate (4 - (lg_sl ([.ref h_o, .int set])).length) Slot.unset).toArray = ls at hl ⊢
  have hl : lv_has ls 4 [(0, .ref h_o), (1, .int set)] := hl
  change W p l e ({ frames := 0, cells := 0, slots := 0, locals := 0 } : Room) s m _ below meth c s.heap [] 0 0 _ _
  generalize hARe : ([.ref h_o, .int set] : List Value).toArray = AR at hts ⊢
  clear hARe
  generalize hQ : MQ below _ AR s 0 0 A = QQ
  have fl0 := hts _ (List.mem_cons_of_mem _ tw_92)
  have iw1 := (fun w hw => List.mem_cons_of_mem _ (in_Or w hw) : ∀ w ∈ u_ws "BasisWalk$Order" T_Or 4, w ∈ w_Or_oneLess)
  obtain ⟨H, hHe⟩ : ∃ H : Heap, H = s.heap := ⟨_, rfl⟩
  rw [← hHe] at hP ⊢
  replace hS : va_S A s.heap H [] := by rw [hHe]; exact va_S.rf
  clear hHe
  unfold f_O_oneLess at h
  refine lv_iload_n hx hb d_Or_oneLess_0 rfl (lv_at hl 1 rfl) ?_
  refine lv_istore_n (lv' := [(2, .int set), (0, .ref h_o), (1, .int set)]) hx hb d_Or_oneLess_1 rfl hl (by decide) rfl (fun ls hl => ?_)
  refine lv_aload_n hx hb d_Or_oneLess_2 rfl (lv_at hl 1 rfl) ?_
  refine va_get (D := (dC, dI)) (ci := 1) (v := .int o_columnCount) (C := "BasisWalk$Order") (T := T_Or) (N := 4) hx hb hts iw1 hown hK hP 0 rfl rfl 0 (by decide) fl0 (fun _ h9 => h9) rfl d_Or_oneLess_3 ?_
  refine lv_iconst (v := 1) hx hb d_Or_oneLess_6 (by decide) ?_
  refine lv_isub hx hb d_Or_oneLess_7 ?_
  refine lv_topi (fun x_1 ex_1 => ?_)
  replace h := ck_nm_s h ex_1
  refine lv_istore_n (lv' := [(3, .int x_1), (2, .int set), (0, .ref h_o), (1, .int set)]) hx hb d_Or_oneLess_8 rfl hl (by decide) rfl (fun ls hl => ?_)
  refine lo2_W (r := r) (fun (v3_2 : Int32) (v2_3 : Int32) => ∀ (H : Heap) (locs : List Loc), va_P (dC, dI) cl_all [(h_o, .inr (1, [.int o_columnCount, .ref h_o_sets, .ref h_o_starts, .ref h_o_nexts]))] H → va_D A [(h_o, .inr (1, [.int o_columnCount, .ref h_o_sets, .ref h_o_starts, .ref h_o_nexts]))] → va_S A s.heap H locs → ∀ ls : Array Slot, lv_has ls 4 [(1, .int set), (2, .int v2_3), (3, .int v3_2)] → W p l e ({ frames := 0, cells := 0, slots := 0, locals := 0 } : Room) s m AR below meth c H locs 0 0 QQ (F0 m 9 ls [])) ?_ _ _ _ h _ _ hP hD hS _ (lv_sub hl [3, 1, 0] rfl)
  intro k_9 v3_2 v2_3 J_9 h H locs hP hD hS ls hl
  refine lv_iload_n hx hb d_Or_oneLess_9 rfl (lv_at hl 2 rfl) ?_
  refine lv_if_lt (tgt := 35) hx hb d_Or_oneLess_10 (by decide) (fun c_4 => ?_) (fun c_4 => ?_)
  · replace h := ck_if_t h c_4
    refine lv_iload_n hx hb d_Or_oneLess_35 rfl (lv_at hl 1 rfl) ?_
    obtain rfl := Option.some.inj h
    subst hQ
    exact W.iret (v := v2_3) hx hb hr (fun t ht hW => ⟨⟨v2_3, (), rfl, rfl, by rw [ht]; exact hP, va_K.moved hW.alike hK, hD⟩, hS.F ht⟩) hS.2.2 d_Or_oneLess_36
  · replace h := ck_if_f h c_4
    refine lv_iload_n hx hb d_Or_oneLess_13 rfl (lv_at hl 1 rfl) ?_
    refine lv_iconst (v := 1) hx hb d_Or_oneLess_14 (by decide) ?_
    refine lv_iload_n hx hb d_Or_oneLess_15 rfl (lv_at hl 2 rfl) ?_
    refine lv_ishl hx hb d_Or_oneLess_16 ?_
    refine lv_ixor hx hb d_Or_oneLess_17 ?_
    refine lv_topi (fun x_5 ex_5 => ?_)
    replace h := ck_nm_s h ex_5
    refine lv_istore_n (lv' := [(2, .int x_5), (1, .int set), (3, .int v3_2)]) hx hb d_Or_oneLess_18 rfl hl (by decide) rfl (fun ls hl => ?_)
    refine lv_iload_n hx hb d_Or_oneLess_19 rfl (lv_at hl 1 rfl) ?_
    refine lv_iconst (v := 1) hx hb d_Or_oneLess_20 (by decide) ?_
    refine lv_iload_n hx hb d_Or_oneLess_21 rfl (lv_at hl 2 rfl) ?_
    refine lv_ishl hx hb d_Or_oneLess_22 ?_
    refine lv_iand hx hb d_Or_oneLess_23 ?_
    refine lv_if_eq (tgt := 29) hx hb d_Or_oneLess_24 (by decide) (fun c_6 => ?_) (fun c_6 => ?_)
    · replace h := ck_if_t h c_6
      obtain ⟨x_7, ex_7⟩ : ∃ y : Int32, y = v3_2 + (-1) := ⟨_, rfl⟩
      replace h := ck_nm_s h ex_7
      refine lv_iinc (v := x_7) (lv' := [(3, .int x_7), (2, .int x_5), (1, .int set)]) hx hb d_Or_oneLess_29 hl (k := 2) rfl (by rw [ex_7]; rfl) (by decide) rfl (fun ls hl => ?_)
      refine lv_goto (tgt := 9) hx hb d_Or_oneLess_32 (by decide) ?_
      exact J_9 _ _ h _ _ hP hD hS _ (lv_sub hl [2, 1, 0] rfl)
    · replace h := ck_if_f h c_6
      refine lv_iload_n hx hb d_Or_oneLess_27 rfl (lv_at hl 0 rfl) ?_
      obtain rfl := Option.some.inj h
      subst hQ
      exact W.iret (v := x_5) hx hb hr (fun t ht hW => ⟨⟨x_5, (), rfl, rfl, by rw [ht]; exact hP, va_K.moved hW.alike hK, hD⟩, hS.F ht⟩) hS.2.2 d_Or_oneLess_28
theorem d_Mi_signOf_0 : decode prog_2_method_4_code 0 = .ok (.aload_n 0, 1) := by decide +kernel
theorem d_Mi_signOf_1 : decode prog_2_method_4_code 1 = .ok (.getfield 18, 3) := by decide +kernel
theorem d_Mi_signOf_4 : decode prog_2_method_4_code 4 = .ok (.iload_n 1, 1) := by decide +kernel
theorem d_Mi_signOf_5 : decode prog_2_method_4_code 5 = .ok (.laload, 1) := by decide +kernel
theorem d_Mi_signOf_6 : decode prog_2_method_4_code 6 = .ok (.lconst 0, 1) := by decide +kernel
theorem d_Mi_signOf_7 : decode prog_2_method_4_code 7 = .ok (.lcmp, 1) := by decide +kernel
theorem d_Mi_signOf_8 : decode prog_2_method_4_code 8 = .ok (.ifCond .ge 5, 3) := by decide +kernel
theorem d_Mi_signOf_11 : decode prog_2_method_4_code 11 = .ok (.iconst (-1), 1) := by decide +kernel
theorem d_Mi_signOf_12 : decode prog_2_method_4_code 12 = .ok (.ireturn, 1) := by decide +kernel
theorem d_Mi_signOf_13 : decode prog_2_method_4_code 13 = .ok (.aload_n 0, 1) := by decide +kernel
theorem d_Mi_signOf_14 : decode prog_2_method_4_code 14 = .ok (.getfield 11, 3) := by decide +kernel
theorem d_Mi_signOf_17 : decode prog_2_method_4_code 17 = .ok (.iload_n 1, 1) := by decide +kernel
theorem d_Mi_signOf_18 : decode prog_2_method_4_code 18 = .ok (.laload, 1) := by decide +kernel
theorem d_Mi_signOf_19 : decode prog_2_method_4_code 19 = .ok (.aload_n 0, 1) := by decide +kernel
theorem d_Mi_signOf_20 : decode prog_2_method_4_code 20 = .ok (.getfield 15, 3) := by decide +kernel
theorem d_Mi_signOf_23 : decode prog_2_method_4_code 23 = .ok (.iload_n 1, 1) := by decide +kernel
theorem d_Mi_signOf_24 : decode prog_2_method_4_code 24 = .ok (.laload, 1) := by decide +kernel
theorem d_Mi_signOf_25 : decode prog_2_method_4_code 25 = .ok (.lor, 1) := by decide +kernel
theorem d_Mi_signOf_26 : decode prog_2_method_4_code 26 = .ok (.aload_n 0, 1) := by decide +kernel
theorem d_Mi_signOf_27 : decode prog_2_method_4_code 27 = .ok (.getfield 18, 3) := by decide +kernel
theorem d_Mi_signOf_30 : decode prog_2_method_4_code 30 = .ok (.iload_n 1, 1) := by decide +kernel
theorem d_Mi_signOf_31 : decode prog_2_method_4_code 31 = .ok (.laload, 1) := by decide +kernel
theorem d_Mi_signOf_32 : decode prog_2_method_4_code 32 = .ok (.lor, 1) := by decide +kernel
theorem d_Mi_signOf_33 : decode prog_2_method_4_code 33 = .ok (.lconst 0, 1) := by decide +kernel
theorem d_Mi_signOf_34 : decode prog_2_method_4_code 34 = .ok (.lcmp, 1) := by decide +kernel
theorem d_Mi_signOf_35 : decode prog_2_method_4_code 35 = .ok (.ifCond .ne 7, 3) := by decide +kernel
theorem d_Mi_signOf_38 : decode prog_2_method_4_code 38 = .ok (.iconst 0, 1) := by decide +kernel
theorem d_Mi_signOf_39 : decode prog_2_method_4_code 39 = .ok (.goto 4, 3) := by decide +kernel
theorem d_Mi_signOf_42 : decode prog_2_method_4_code 42 = .ok (.iconst 1, 1) := by decide +kernel
theorem d_Mi_signOf_43 : decode prog_2_method_4_code 43 = .ok (.ireturn, 1) := by decide +kernel
def f_M_signOf (m_low_n : Nat) (m_low : Nat → Int64) (m_middle_n : Nat) (m_middle : Nat → Int64) (m_high_n : Nat) (m_high : Nat → Int64) (set : Int32) : Option (Int32) :=
  ck_in set m_high_n <| ck_if (0 ≤ (lg_cmp (m_high set.toNatClampNeg) 0)) (ck_in set m_low_n <| ck_in set m_middle_n <| ck_in set m_high_n <| ck_if ((lg_cmp (((m_low set.toNatClampNeg) ||| (m_middle set.toNatClampNeg)) ||| (m_high set.toNatClampNeg)) 0) = 0) (some 0) (some 1)) (some (-1))
set_option maxHeartbeats 4000000 in
set_option maxRecDepth 100000 in
theorem c_M_signOf (l : Launch) (dC : Nat → ClassId) (dI : Nat → Nat → Nat) (cI cJ cB cZ cT cN : ClassId) (sz : Nat) (h_m : Nat) (h_m_low : Nat) (h_m_middle : Nat) (h_m_high : Nat) (m_low_n : Nat) (m_low : Nat → Int64) (m_middle_n : Nat) (m_middle : Nat → Int64) (m_high_n : Nat) (m_high : Nat → Int64) (set : Int32) (r : Int32) (h : f_M_signOf m_low_n m_low m_middle_n m_middle m_high_n m_high set = some r) : Met l y_Mi_signOf w_Mi_signOf ({ frames := 0, cells := 0, slots := 0, locals := 0 } : Room) (va_Pc [.ref h_m, .int set] (fun U => U.heap.size = sz ∧ va_P (dC, dI) cl_all [(h_m, .inr (0, [.ref h_m_low, .ref h_m_middle, .ref h_m_high])), (h_m_low, .inl (cJ, m_low_n, .inr (.inl m_low))), (h_m_middle, .inl (cJ, m_middle_n, .inr (.inl m_middle))), (h_m_high, .inl (cJ, m_high_n, .inr (.inl m_high)))] U.heap ∧ va_K (dC, dI) cl_all [(cI, .int), (cJ, .long), (cB, .byte), (cZ, .boolean), (cT, .object "BasisWalk$Table"), (cN, .object "BasisWalkModel$Num")] U ∧ NW U ∧ va_D (fun _ => True) [(h_m, .inr (0, [.ref h_m_low, .ref h_m_middle, .ref h_m_high])), (h_m_low, .inl (cJ, m_low_n, .inr (.inl m_low))), (h_m_middle, .inl (cJ, m_middle_n, .inr (.inl m_middle))), (h_m_high, .inl (cJ, m_high_n, .inr (.inl m_high)))])) (va_Qi (fun (v : Int32) (_ : Unit) => v = r) (fun (u : Unit) (t : State) => va_P (dC, dI) cl_all [(h_m, .inr (0, [.ref h_m_low, .ref h_m_middle, .ref h_m_high])), (h_m_low, .inl (cJ, m_low_n, .inr (.inl m_low))), (h_m_middle, .inl (cJ, m_middle_n, .inr (.inl m_middle))), (h_m_high, .inl (cJ, m_high_n, .inr (.inl m_high)))] t.heap ∧ va_K (dC, dI) cl_all [(cI, .int), (cJ, .long), (cB, .byte), (cZ, .boolean), (cT, .object "BasisWalk$Table"), (cN, .object "BasisWalkModel$Num")] t ∧ va_D (va_A [(h_m, .inr (0, [.ref h_m_low, .ref h_m_middle, .ref h_m_high])), (h_m_low, .inl (cJ, m_low_n, .inr (.inl m_low))), (h_m_middle, .inl (cJ, m_middle_n, .inr (.inl m_middle))), (h_m_high, .inl (cJ, m_high_n, .inr (.inl m_high)))] sz) [(h_m, .inr (0, [.ref h_m_low, .ref h_m_middle, .ref h_m_high])), (h_m_low, .inl (cJ, m_low_n, .inr (.inl m_low))), (h_m_middle, .inl (cJ, m_middle_n, .inr (.inl m_middle))), (h_m_high, .inl (cJ, m_high_n, .inr (.inl m_high)))]) (va_A [(h_m, .inr (0, [.ref h_m_low, .ref h_m_middle, .ref h_m_high])), (h_m_low, .inl (cJ, m_low_n, .inr (.inl m_low))), (h_m_middle, .inl (cJ, m_middle_n, .inr (.inl m_middle))), (h_m_high, .inl (cJ, m_high_n, .inr (.inl m_high)))] sz)) 0 0 (va_A [(h_m, .inr (0, [.ref h_m_low, .ref h_m_middle, .ref h_m_high])), (h_m_low, .inl (cJ, m_low_n, .inr (.inl m_low))), (h_m_middle, .inl (cJ, m_middle_n, .inr (.inl m_middle))), (h_m_high, .inl (cJ, m_high_n, .inr (.inl m_high)))] sz) := by
  refine Met.ofW (cc := prog_2_method_4_code) (maxL := 2) (ret := (Option.some Jvm.ClassFile.FieldType.int)) (by decide) rfl ?_
  intro p e s m args below meth c s₁ B hml hv
  obtain ⟨hAR, hsz, hP, hK, hN, hD0⟩ := hv
  have hx := B.exec
  have hb := B.bytes
  have hr := B.returns
  have hts := atoms_spec (ws := w_Mi_signOf) B.pre
  have hown : s.vm.findClass "BasisWalk$Minors" = some m.cls := findClass_of_methodNamed B.named
  have hlocks := B.notSynchronized
  clear B
  subst hsz
  have hD := hD0.self (sz := s.heap.size)
  generalize hAe : va_A [(h_m, .inr (0, [.ref h_m_low, .ref h_m_middle, .ref h_m_high])), (h_m_low, .inl (cJ, m_low_n, .inr (.inl m_low))), (h_m_middle, .inl (cJ, m_middle_n, .inr (.inl m_middle))), (h_m_high, .inl (cJ, m_high_n, .inr (.inl m_high)))] s.heap.size = A at hD ⊢
  have hA : ∀ q : Nat, s.heap.size ≤ q → A q := fun q h => by rw [← hAe]; exact Or.inr h
  clear hAe hD0
  have hS : va_S A s.heap s.heap [] := va_S.rf
  have hl := lv_entry ([.ref h_m, .int set]) (n := 2) (Nat.le_of_ble_eq_true rfl)
  subst hAR
  rw [lg_entry_eq]
  generalize (lg_sl ([.ref h_m, .int set]) ++ List.replicate (2 - (lg_sl ([.ref h_m, .int set])).length) Slot.unset).toArray = ls at hl ⊢
  have hl : lv_has ls 2 [(0, .ref h_m), (1, .int set)] := hl
  change W p l e ({ frames := 0, cells := 0, slots := 0, locals := 0 } : Room) s m _ below meth c s.heap [] 0 0 _ _
  generalize hARe : ([.ref h_m, .int set] : List Value).toArray = AR at hts ⊢
  clear hARe
  generalize hQ : MQ below _ AR s 0 0 A = QQ
  have fl0 := hts _ (List.mem_cons_of_mem _ tw_117)
  have iw1 := (fun w hw => List.mem_cons_of_mem _ (in_Mi w hw) : ∀ w ∈ u_ws "BasisWalk$Minors" T_Mi 3, w ∈ w_Mi_signOf)
  have fl2 := hts _ (List.mem_cons_of_mem _ tw_115)
  have fl3 := hts _ (List.mem_cons_of_mem _ tw_116)
  obtain ⟨H, hHe⟩ : ∃ H : Heap, H = s.heap := ⟨_, rfl⟩
  rw [← hHe] at hP ⊢
  replace hS : va_S A s.heap H [] := by rw [hHe]; exact va_S.rf
  clear hHe
  unfold f_M_signOf at h
  refine lv_aload_n hx hb d_Mi_signOf_0 rfl (lv_at hl 0 rfl) ?_
  refine va_get (D := (dC, dI)) (ci := 0) (v := .ref h_m_high) (C := "BasisWalk$Minors") (T := T_Mi) (N := 3) hx hb hts iw1 hown hK hP 0 rfl rfl 2 (by decide) fl0 (fun _ h9 => h9) rfl d_Mi_signOf_1 ?_
  refine lv_iload_n hx hb d_Mi_signOf_4 rfl (lv_at hl 1 rfl) ?_
  obtain ⟨g_1, h⟩ := ck_in_s h
  refine va_lald hx hb hK hP 3 1 rfl rfl g_1 d_Mi_signOf_5 ?_
  refine lv_lconst (v := 0) hx hb d_Mi_signOf_6 (by decide) ?_
  refine W.lcmp hx hb d_Mi_signOf_7 ?_
  refine lv_if_ge (tgt := 13) hx hb d_Mi_signOf_8 (by decide) (fun c_2 => ?_) (fun c_2 => ?_)
  · replace h := ck_if_t h c_2
    refine lv_aload_n hx hb d_Mi_signOf_13 rfl (lv_at hl 0 rfl) ?_
    refine va_get (D := (dC, dI)) (ci := 0) (v := .ref h_m_low) (C := "BasisWalk$Minors") (T := T_Mi) (N := 3) hx hb hts iw1 hown hK hP 0 rfl rfl 0 (by decide) fl2 (fun _ h9 => h9) rfl d_Mi_signOf_14 ?_
    refine lv_iload_n hx hb d_Mi_signOf_17 rfl (lv_at hl 1 rfl) ?_
    obtain ⟨g_3, h⟩ := ck_in_s h
    refine va_lald hx hb hK hP 1 1 rfl rfl g_3 d_Mi_signOf_18 ?_
    refine lv_aload_n hx hb d_Mi_signOf_19 rfl (lv_at hl 0 rfl) ?_
    refine va_get (D := (dC, dI)) (ci := 0) (v := .ref h_m_middle) (C := "BasisWalk$Minors") (T := T_Mi) (N := 3) hx hb hts iw1 hown hK hP 0 rfl rfl 1 (by decide) fl3 (fun _ h9 => h9) rfl d_Mi_signOf_20 ?_
    refine lv_iload_n hx hb d_Mi_signOf_23 rfl (lv_at hl 1 rfl) ?_
    obtain ⟨g_4, h⟩ := ck_in_s h
    refine va_lald hx hb hK hP 2 1 rfl rfl g_4 d_Mi_signOf_24 ?_
    refine lv_lor hx hb d_Mi_signOf_25 ?_
    refine lv_aload_n hx hb d_Mi_signOf_26 rfl (lv_at hl 0 rfl) ?_
    refine va_get (D := (dC, dI)) (ci := 0) (v := .ref h_m_high) (C := "BasisWalk$Minors") (T := T_Mi) (N := 3) hx hb hts iw1 hown hK hP 0 rfl rfl 2 (by decide) fl0 (fun _ h9 => h9) rfl d_Mi_signOf_27 ?_
    refine lv_iload_n hx hb d_Mi_signOf_30 rfl (lv_at hl 1 rfl) ?_
    obtain ⟨g_5, h⟩ := ck_in_s h
    refine va_lald hx hb hK hP 3 1 rfl rfl g_5 d_Mi_signOf_31 ?_
    refine lv_lor hx hb d_Mi_signOf_32 ?_
    refine lv_lconst (v := 0) hx hb d_Mi_signOf_33 (by decide) ?_
    refine W.lcmp hx hb d_Mi_signOf_34 ?_
    refine lv_if_ne (tgt := 42) hx hb d_Mi_signOf_35 (by decide) (fun c_6 => ?_) (fun c_6 => ?_)
    · replace h := ck_if_f h c_6
      refine lv_iconst (v := 1) hx hb d_Mi_signOf_42 (by decide) ?_
      obtain rfl := Option.some.inj h
      subst hQ
      exact W.iret (v := 1) hx hb hr (fun t ht hW => ⟨⟨1, (), rfl, rfl, by rw [ht]; exact hP, va_K.moved hW.alike hK, hD⟩, hS.F ht⟩) hS.2.2 d_Mi_signOf_43
    · replace h := ck_if_t h c_6
      refine lv_iconst (v := 0) hx hb d_Mi_signOf_38 (by decide) ?_
      refine lv_goto (tgt := 43) hx hb d_Mi_signOf_39 (by decide) ?_
      obtain rfl := Option.some.inj h
      subst hQ
      exact W.iret (v := 0) hx hb hr (fun t ht hW => ⟨⟨0, (), rfl, rfl, by rw [ht]; exact hP, va_K.moved hW.alike hK, hD⟩, hS.F ht⟩) hS.2.2 d_Mi_signOf_43
  · replace h := ck_if_f h c_2
    refine lv_iconst (v := (-1)) hx hb d_Mi_signOf_11 (by decide) ?_
    obtain rfl := Option.some.inj h
    subst hQ
    exact W.iret (v := (-1)) hx hb hr (fun t ht hW => ⟨⟨(-1), (), rfl, rfl, by rw [ht]; exact hP, va_K.moved hW.alike hK, hD⟩, hS.F ht⟩) hS.2.2 d_Mi_signOf_12
end
section
theorem d_Mi_expand_0 : decode prog_2_method_5_code 0 = .ok (.lconst 0, 1) := by decide +kernel
theorem d_Mi_expand_1 : decode prog_2_method_5_code 1 = .ok (.lstore 4, 2) := by decide +kernel
theorem d_Mi_expand_3 : decode prog_2_method_5_code 3 = .ok (.lconst 0, 1) := by decide +kernel
theorem d_Mi_expand_4 : decode prog_2_method_5_code 4 = .ok (.lstore 6, 2) := by decide +kernel
theorem d_Mi_expand_6 : decode prog_2_method_5_code 6 = .ok (.lconst 0, 1) := by decide +kernel
theorem d_Mi_expand_7 : decode prog_2_method_5_code 7 = .ok (.lstore 8, 2) := by decide +kernel
theorem d_Mi_expand_9 : decode prog_2_method_5_code 9 = .ok (.iconst 1, 1) := by decide +kernel
theorem d_Mi_expand_10 : decode prog_2_method_5_code 10 = .ok (.istore 10, 2) := by decide +kernel
theorem d_Mi_expand_12 : decode prog_2_method_5_code 12 = .ok (.iconst 0, 1) := by decide +kernel
theorem d_Mi_expand_13 : decode prog_2_method_5_code 13 = .ok (.istore 11, 2) := by decide +kernel
theorem d_Mi_expand_15 : decode prog_2_method_5_code 15 = .ok (.iload 11, 2) := by decide +kernel
theorem d_Mi_expand_17 : decode prog_2_method_5_code 17 = .ok (.aload_n 1, 1) := by decide +kernel
theorem d_Mi_expand_18 : decode prog_2_method_5_code 18 = .ok (.getfield 38, 3) := by decide +kernel
theorem d_Mi_expand_21 : decode prog_2_method_5_code 21 = .ok (.if_icmp .ge 90, 3) := by decide +kernel
theorem d_Mi_expand_24 : decode prog_2_method_5_code 24 = .ok (.iload_n 3, 1) := by decide +kernel
theorem d_Mi_expand_25 : decode prog_2_method_5_code 25 = .ok (.iconst 1, 1) := by decide +kernel
theorem d_Mi_expand_26 : decode prog_2_method_5_code 26 = .ok (.iload 11, 2) := by decide +kernel
theorem d_Mi_expand_28 : decode prog_2_method_5_code 28 = .ok (.ishl, 1) := by decide +kernel
theorem d_Mi_expand_29 : decode prog_2_method_5_code 29 = .ok (.iconst (-1), 1) := by decide +kernel
theorem d_Mi_expand_30 : decode prog_2_method_5_code 30 = .ok (.ixor, 1) := by decide +kernel
theorem d_Mi_expand_31 : decode prog_2_method_5_code 31 = .ok (.iand, 1) := by decide +kernel
theorem d_Mi_expand_32 : decode prog_2_method_5_code 32 = .ok (.istore 12, 2) := by decide +kernel
theorem d_Mi_expand_34 : decode prog_2_method_5_code 34 = .ok (.iload 12, 2) := by decide +kernel
theorem d_Mi_expand_36 : decode prog_2_method_5_code 36 = .ok (.iload_n 3, 1) := by decide +kernel
theorem d_Mi_expand_37 : decode prog_2_method_5_code 37 = .ok (.if_icmp .eq 68, 3) := by decide +kernel
theorem d_Mi_expand_40 : decode prog_2_method_5_code 40 = .ok (.iload 10, 2) := by decide +kernel
theorem d_Mi_expand_42 : decode prog_2_method_5_code 42 = .ok (.aload_n 1, 1) := by decide +kernel
theorem d_Mi_expand_43 : decode prog_2_method_5_code 43 = .ok (.getfield 44, 3) := by decide +kernel
theorem d_Mi_expand_46 : decode prog_2_method_5_code 46 = .ok (.iload_n 2, 1) := by decide +kernel
theorem d_Mi_expand_47 : decode prog_2_method_5_code 47 = .ok (.iload 11, 2) := by decide +kernel
theorem d_Mi_expand_49 : decode prog_2_method_5_code 49 = .ok (.iadd, 1) := by decide +kernel
theorem d_Mi_expand_50 : decode prog_2_method_5_code 50 = .ok (.iaload, 1) := by decide +kernel
theorem d_Mi_expand_51 : decode prog_2_method_5_code 51 = .ok (.imul, 1) := by decide +kernel
theorem d_Mi_expand_52 : decode prog_2_method_5_code 52 = .ok (.i2l, 1) := by decide +kernel
theorem d_Mi_expand_53 : decode prog_2_method_5_code 53 = .ok (.lstore 13, 2) := by decide +kernel
theorem d_Mi_expand_55 : decode prog_2_method_5_code 55 = .ok (.lload 4, 2) := by decide +kernel
theorem d_Mi_expand_57 : decode prog_2_method_5_code 57 = .ok (.lload 13, 2) := by decide +kernel
theorem d_Mi_expand_59 : decode prog_2_method_5_code 59 = .ok (.aload_n 0, 1) := by decide +kernel
theorem d_Mi_expand_60 : decode prog_2_method_5_code 60 = .ok (.getfield 11, 3) := by decide +kernel
theorem d_Mi_expand_63 : decode prog_2_method_5_code 63 = .ok (.iload 12, 2) := by decide +kernel
theorem d_Mi_expand_65 : decode prog_2_method_5_code 65 = .ok (.laload, 1) := by decide +kernel
theorem d_Mi_expand_66 : decode prog_2_method_5_code 66 = .ok (.lmul, 1) := by decide +kernel
theorem d_Mi_expand_67 : decode prog_2_method_5_code 67 = .ok (.ladd, 1) := by decide +kernel
theorem d_Mi_expand_68 : decode prog_2_method_5_code 68 = .ok (.lstore 4, 2) := by decide +kernel
theorem d_Mi_expand_70 : decode prog_2_method_5_code 70 = .ok (.lload 6, 2) := by decide +kernel
theorem d_Mi_expand_72 : decode prog_2_method_5_code 72 = .ok (.lload 13, 2) := by decide +kernel
theorem d_Mi_expand_74 : decode prog_2_method_5_code 74 = .ok (.aload_n 0, 1) := by decide +kernel
theorem d_Mi_expand_75 : decode prog_2_method_5_code 75 = .ok (.getfield 15, 3) := by decide +kernel
theorem d_Mi_expand_78 : decode prog_2_method_5_code 78 = .ok (.iload 12, 2) := by decide +kernel
theorem d_Mi_expand_80 : decode prog_2_method_5_code 80 = .ok (.laload, 1) := by decide +kernel
theorem d_Mi_expand_81 : decode prog_2_method_5_code 81 = .ok (.lmul, 1) := by decide +kernel
theorem d_Mi_expand_82 : decode prog_2_method_5_code 82 = .ok (.ladd, 1) := by decide +kernel
theorem d_Mi_expand_83 : decode prog_2_method_5_code 83 = .ok (.lstore 6, 2) := by decide +kernel
theorem d_Mi_expand_85 : decode prog_2_method_5_code 85 = .ok (.lload 8, 2) := by decide +kernel
theorem d_Mi_expand_87 : decode prog_2_method_5_code 87 = .ok (.lload 13, 2) := by decide +kernel
theorem d_Mi_expand_89 : decode prog_2_method_5_code 89 = .ok (.aload_n 0, 1) := by decide +kernel
theorem d_Mi_expand_90 : decode prog_2_method_5_code 90 = .ok (.getfield 18, 3) := by decide +kernel
theorem d_Mi_expand_93 : decode prog_2_method_5_code 93 = .ok (.iload 12, 2) := by decide +kernel
theorem d_Mi_expand_95 : decode prog_2_method_5_code 95 = .ok (.laload, 1) := by decide +kernel
theorem d_Mi_expand_96 : decode prog_2_method_5_code 96 = .ok (.lmul, 1) := by decide +kernel
theorem d_Mi_expand_97 : decode prog_2_method_5_code 97 = .ok (.ladd, 1) := by decide +kernel
theorem d_Mi_expand_98 : decode prog_2_method_5_code 98 = .ok (.lstore 8, 2) := by decide +kernel
theorem d_Mi_expand_100 : decode prog_2_method_5_code 100 = .ok (.iload 10, 2) := by decide +kernel
theorem d_Mi_expand_102 : decode prog_2_method_5_code 102 = .ok (.ineg, 1) := by decide +kernel
theorem d_Mi_expand_103 : decode prog_2_method_5_code 103 = .ok (.istore 10, 2) := by decide +kernel
theorem d_Mi_expand_105 : decode prog_2_method_5_code 105 = .ok (.iinc 11 1, 3) := by decide +kernel
theorem d_Mi_expand_108 : decode prog_2_method_5_code 108 = .ok (.goto (-93), 3) := by decide +kernel
theorem d_Mi_expand_111 : decode prog_2_method_5_code 111 = .ok (.aload_n 1, 1) := by decide +kernel
theorem d_Mi_expand_112 : decode prog_2_method_5_code 112 = .ok (.getfield 47, 3) := by decide +kernel
theorem d_Mi_expand_115 : decode prog_2_method_5_code 115 = .ok (.ifCond .eq 34, 3) := by decide +kernel
theorem d_Mi_expand_118 : decode prog_2_method_5_code 118 = .ok (.aload_n 0, 1) := by decide +kernel
theorem d_Mi_expand_119 : decode prog_2_method_5_code 119 = .ok (.getfield 11, 3) := by decide +kernel
theorem d_Mi_expand_122 : decode prog_2_method_5_code 122 = .ok (.iload_n 3, 1) := by decide +kernel
theorem d_Mi_expand_123 : decode prog_2_method_5_code 123 = .ok (.lload 4, 2) := by decide +kernel
theorem d_Mi_expand_125 : decode prog_2_method_5_code 125 = .ok (.aload_n 1, 1) := by decide +kernel
theorem d_Mi_expand_126 : decode prog_2_method_5_code 126 = .ok (.getfield 47, 3) := by decide +kernel
theorem d_Mi_expand_129 : decode prog_2_method_5_code 129 = .ok (.i2l, 1) := by decide +kernel
theorem d_Mi_expand_130 : decode prog_2_method_5_code 130 = .ok (.invokestatic 50, 3) := by decide +kernel
theorem d_Mi_expand_133 : decode prog_2_method_5_code 133 = .ok (.lastore, 1) := by decide +kernel
theorem d_Mi_expand_134 : decode prog_2_method_5_code 134 = .ok (.aload_n 0, 1) := by decide +kernel
theorem d_Mi_expand_135 : decode prog_2_method_5_code 135 = .ok (.getfield 15, 3) := by decide +kernel
theorem d_Mi_expand_138 : decode prog_2_method_5_code 138 = .ok (.iload_n 3, 1) := by decide +kernel
theorem d_Mi_expand_139 : decode prog_2_method_5_code 139 = .ok (.lconst 0, 1) := by decide +kernel
theorem d_Mi_expand_140 : decode prog_2_method_5_code 140 = .ok (.lastore, 1) := by decide +kernel
theorem d_Mi_expand_141 : decode prog_2_method_5_code 141 = .ok (.aload_n 0, 1) := by decide +kernel
theorem d_Mi_expand_142 : decode prog_2_method_5_code 142 = .ok (.getfield 18, 3) := by decide +kernel
theorem d_Mi_expand_145 : decode prog_2_method_5_code 145 = .ok (.iload_n 3, 1) := by decide +kernel
theorem d_Mi_expand_146 : decode prog_2_method_5_code 146 = .ok (.lconst 0, 1) := by decide +kernel
theorem d_Mi_expand_147 : decode prog_2_method_5_code 147 = .ok (.lastore, 1) := by decide +kernel
theorem d_Mi_expand_148 : decode prog_2_method_5_code 148 = .ok (.return_, 1) := by decide +kernel
theorem d_Mi_expand_149 : decode prog_2_method_5_code 149 = .ok (.lload 6, 2) := by decide +kernel
theorem d_Mi_expand_151 : decode prog_2_method_5_code 151 = .ok (.lload 4, 2) := by decide +kernel
theorem d_Mi_expand_153 : decode prog_2_method_5_code 153 = .ok (.bipush 48, 2) := by decide +kernel
theorem d_Mi_expand_155 : decode prog_2_method_5_code 155 = .ok (.lshr, 1) := by decide +kernel
theorem d_Mi_expand_156 : decode prog_2_method_5_code 156 = .ok (.ladd, 1) := by decide +kernel
theorem d_Mi_expand_157 : decode prog_2_method_5_code 157 = .ok (.lstore 6, 2) := by decide +kernel
theorem d_Mi_expand_159 : decode prog_2_method_5_code 159 = .ok (.lload 8, 2) := by decide +kernel
theorem d_Mi_expand_161 : decode prog_2_method_5_code 161 = .ok (.lload 6, 2) := by decide +kernel
theorem d_Mi_expand_163 : decode prog_2_method_5_code 163 = .ok (.bipush 48, 2) := by decide +kernel
theorem d_Mi_expand_165 : decode prog_2_method_5_code 165 = .ok (.lshr, 1) := by decide +kernel
theorem d_Mi_expand_166 : decode prog_2_method_5_code 166 = .ok (.ladd, 1) := by decide +kernel
theorem d_Mi_expand_167 : decode prog_2_method_5_code 167 = .ok (.lstore 8, 2) := by decide +kernel
theorem d_Mi_expand_169 : decode prog_2_method_5_code 169 = .ok (.aload_n 0, 1) := by decide +kernel
theorem d_Mi_expand_170 : decode prog_2_method_5_code 170 = .ok (.getfield 11, 3) := by decide +kernel
theorem d_Mi_expand_173 : decode prog_2_method_5_code 173 = .ok (.iload_n 3, 1) := by decide +kernel
theorem d_Mi_expand_174 : decode prog_2_method_5_code 174 = .ok (.lload 4, 2) := by decide +kernel
theorem d_Mi_expand_176 : decode prog_2_method_5_code 176 = .ok (.ldc2_w 56, 3) := by decide +kernel
theorem d_Mi_expand_179 : decode prog_2_method_5_code 179 = .ok (.land, 1) := by decide +kernel
theorem d_Mi_expand_180 : decode prog_2_method_5_code 180 = .ok (.lastore, 1) := by decide +kernel
theorem d_Mi_expand_181 : decode prog_2_method_5_code 181 = .ok (.aload_n 0, 1) := by decide +kernel
theorem d_Mi_expand_182 : decode prog_2_method_5_code 182 = .ok (.getfield 15, 3) := by decide +kernel
theorem d_Mi_expand_185 : decode prog_2_method_5_code 185 = .ok (.iload_n 3, 1) := by decide +kernel
theorem d_Mi_expand_186 : decode prog_2_method_5_code 186 = .ok (.lload 6, 2) := by decide +kernel
theorem d_Mi_expand_188 : decode prog_2_method_5_code 188 = .ok (.ldc2_w 56, 3) := by decide +kernel
theorem d_Mi_expand_191 : decode prog_2_method_5_code 191 = .ok (.land, 1) := by decide +kernel
theorem d_Mi_expand_192 : decode prog_2_method_5_code 192 = .ok (.lastore, 1) := by decide +kernel
theorem d_Mi_expand_193 : decode prog_2_method_5_code 193 = .ok (.aload_n 0, 1) := by decide +kernel
theorem d_Mi_expand_194 : decode prog_2_method_5_code 194 = .ok (.getfield 18, 3) := by decide +kernel
theorem d_Mi_expand_197 : decode prog_2_method_5_code 197 = .ok (.iload_n 3, 1) := by decide +kernel
theorem d_Mi_expand_198 : decode prog_2_method_5_code 198 = .ok (.lload 8, 2) := by decide +kernel
theorem d_Mi_expand_200 : decode prog_2_method_5_code 200 = .ok (.lastore, 1) := by decide +kernel
theorem d_Mi_expand_201 : decode prog_2_method_5_code 201 = .ok (.return_, 1) := by decide +kernel
def f_M_expand (m_low_n : Nat) (m_low : Nat → Int64) (m_middle_n : Nat) (m_middle : Nat → Int64) (m_high_n : Nat) (m_high : Nat → Int64) (t_field : Int32) (t_columnCount : Int32) (t_numbers_n : Nat) (t_numbers : Nat → Int32) (place : Int32) (set : Int32) : Option ((Nat → Int64) × (Nat → Int64) × (Nat → Int64)) :=
  ck_jn (fun (v8_1 : Int64) (v6_2 : Int64) (v4_3 : Int64) => ck_if (t_field = 0) (ck_nm (v6_2 + (v4_3 >>> ((48 : Int32).toInt64 &&& 63))) <| fun x_5 => ck_nm (v8_1 + (x_5 >>> ((48 : Int32).toInt64 &&& 63))) <| fun x_6 => ck_in set m_low_n <| ck_in set m_middle_n <| ck_in set m_high_n <| some ((vp_updL m_low set.toNatClampNeg (v4_3 &&& 281474976710655)), (vp_updL m_middle set.toNatClampNeg (x_5 &&& 281474976710655)), (vp_updL m_high set.toNatClampNeg x_6))) (ck_b1 (f_floorModL v4_3 t_field.toInt64) <| fun r_10 => ck_in set m_low_n <| ck_in set m_middle_n <| ck_in set m_high_n <| some ((vp_updL m_low set.toNatClampNeg r_10), (vp_updL m_middle set.toNatClampNeg 0), (vp_updL m_high set.toNatClampNeg 0)))) <| fun k_111 => lo5 (fun k_15 (v11_15 : Int32) (v10_16 : Int32) (v8_17 : Int64) (v6_18 : Int64) (v4_19 : Int64) => ck_if (t_columnCount ≤ v11_15) (k_111 v8_17 v6_18 v4_19) (ck_nm (set &&& (((1 : Int32) <<< (v11_15 &&& 31)) ^^^ (-1))) <| fun x_21 => ck_jn (fun (v4_22 : Int64) (v6_23 : Int64) (v8_24 : Int64) (v10_25 : Int32) => ck_nm (v11_15 + 1) <| fun x_26 => k_15 x_26 v10_25 v8_24 v6_23 v4_22) <| fun k_105 => ck_if (x_21 = set) (k_105 v4_19 v6_18 v8_17 v10_16) (ck_in (place + v11_15) t_numbers_n <| ck_nm ((v10_16 * (t_numbers (place + v11_15).toNatClampNeg)).toInt64) <| fun x_29 => ck_in x_21 m_low_n <| ck_nm (v4_19 + (x_29 * (m_low x_21.toNatClampNeg))) <| fun x_31 => ck_in x_21 m_middle_n <| ck_nm (v6_18 + (x_29 * (m_middle x_21.toNatClampNeg))) <| fun x_33 => ck_in x_21 m_high_n <| ck_nm (v8_17 + (x_29 * (m_high x_21.toNatClampNeg))) <| fun x_35 => ck_nm (-v10_16) <| fun x_36 => k_105 x_31 x_33 x_35 x_36))) ck_F 0 1 0 0 0
set_option maxHeartbeats 4000000 in
set_option maxRecDepth 100000 in
theorem c_M_expand (l : Launch) (dC : Nat → ClassId) (dI : Nat → Nat → Nat) (cI cJ cB cZ cT cN : ClassId) (sz : Nat) (h_m : Nat) (h_t : Nat) (h_m_low : Nat) (h_m_middle : Nat) (h_m_high : Nat) (h_t_numbers : Nat) (h_t_study : Nat) (m_low_n : Nat) (m_low : Nat → Int64) (m_middle_n : Nat) (m_middle : Nat → Int64) (m_high_n : Nat) (m_high : Nat → Int64) (t_field : Int32) (t_rowCount : Int32) (t_columnCount : Int32) (t_studied : Int32) (t_numbers_n : Nat) (t_numbers : Nat → Int32) (place : Int32) (set : Int32) (r : (Nat → Int64) × (Nat → Int64) × (Nat → Int64)) (h : f_M_expand m_low_n m_low m_middle_n m_middle m_high_n m_high t_field t_columnCount t_numbers_n t_numbers place set = some r) : Met l y_Mi_expand w_Mi_expand ({ frames := 1, cells := 0, slots := 0, locals := 25 } : Room) (va_Pc [.ref h_m, .ref h_t, .int place, .int set] (fun U => U.heap.size = sz ∧ va_P (dC, dI) cl_all [(h_m, .inr (0, [.ref h_m_low, .ref h_m_middle, .ref h_m_high])), (h_m_low, .inl (cJ, m_low_n, .inr (.inl m_low))), (h_m_middle, .inl (cJ, m_middle_n, .inr (.inl m_middle))), (h_m_high, .inl (cJ, m_high_n, .inr (.inl m_high))), (h_t, .inr (3, [.int t_field, .int t_rowCount, .int t_columnCount, .ref h_t_numbers, .int t_studied, .ref h_t_study])), (h_t_numbers, .inl (cI, t_numbers_n, .inl t_numbers))] U.heap ∧ va_K (dC, dI) cl_all [(cI, .int), (cJ, .long), (cB, .byte), (cZ, .boolean), (cT, .object "BasisWalk$Table"), (cN, .object "BasisWalkModel$Num")] U ∧ NW U ∧ va_D (fun _ => True) [(h_m, .inr (0, [.ref h_m_low, .ref h_m_middle, .ref h_m_high])), (h_m_low, .inl (cJ, m_low_n, .inr (.inl m_low))), (h_m_middle, .inl (cJ, m_middle_n, .inr (.inl m_middle))), (h_m_high, .inl (cJ, m_high_n, .inr (.inl m_high))), (h_t, .inr (3, [.int t_field, .int t_rowCount, .int t_columnCount, .ref h_t_numbers, .int t_studied, .ref h_t_study])), (h_t_numbers, .inl (cI, t_numbers_n, .inl t_numbers))])) (va_Qv (fun u : (Nat → Int64) × (Nat → Int64) × (Nat → Int64) => u = r) (fun (u : (Nat → Int64) × (Nat → Int64) × (Nat → Int64)) (t : State) => va_P (dC, dI) cl_all [(h_m, .inr (0, [.ref h_m_low, .ref h_m_middle, .ref h_m_high])), (h_m_low, .inl (cJ, m_low_n, .inr (.inl u.1))), (h_m_middle, .inl (cJ, m_middle_n, .inr (.inl u.2.1))), (h_m_high, .inl (cJ, m_high_n, .inr (.inl u.2.2))), (h_t, .inr (3, [.int t_field, .int t_rowCount, .int t_columnCount, .ref h_t_numbers, .int t_studied, .ref h_t_study])), (h_t_numbers, .inl (cI, t_numbers_n, .inl t_numbers))] t.heap ∧ va_K (dC, dI) cl_all [(cI, .int), (cJ, .long), (cB, .byte), (cZ, .boolean), (cT, .object "BasisWalk$Table"), (cN, .object "BasisWalkModel$Num")] t ∧ va_D (va_A [(h_m, .inr (0, [.ref h_m_low, .ref h_m_middle, .ref h_m_high])), (h_m_low, .inl (cJ, m_low_n, .inr (.inl m_low))), (h_m_middle, .inl (cJ, m_middle_n, .inr (.inl m_middle))), (h_m_high, .inl (cJ, m_high_n, .inr (.inl m_high))), (h_t, .inr (3, [.int t_field, .int t_rowCount, .int t_columnCount, .ref h_t_numbers, .int t_studied, .ref h_t_study])), (h_t_numbers, .inl (cI, t_numbers_n, .inl t_numbers))] sz) [(h_m, .inr (0, [.ref h_m_low, .ref h_m_middle, .ref h_m_high])), (h_m_low, .inl (cJ, m_low_n, .inr (.inl u.1))), (h_m_middle, .inl (cJ, m_middle_n, .inr (.inl u.2.1))), (h_m_high, .inl (cJ, m_high_n, .inr (.inl u.2.2))), (h_t, .inr (3, [.int t_field, .int t_rowCount, .int t_columnCount, .ref h_t_numbers, .int t_studied, .ref h_t_study])), (h_t_numbers, .inl (cI, t_numbers_n, .inl t_numbers))]) (va_A [(h_m, .inr (0, [.ref h_m_low, .ref h_m_middle, .ref h_m_high])), (h_m_low, .inl (cJ, m_low_n, .inr (.inl m_low))), (h_m_middle, .inl (cJ, m_middle_n, .inr (.inl m_middle))), (h_m_high, .inl (cJ, m_high_n, .inr (.inl m_high))), (h_t, .inr (3, [.int t_field, .int t_rowCount, .int t_columnCount, .ref h_t_numbers, .int t_studied, .ref h_t_study])), (h_t_numbers, .inl (cI, t_numbers_n, .inl t_numbers))] sz)) 0 0 (va_A [(h_m, .inr (0, [.ref h_m_low, .ref h_m_middle, .ref h_m_high])), (h_m_low, .inl (cJ, m_low_n, .inr (.inl m_low))), (h_m_middle, .inl (cJ, m_middle_n, .inr (.inl m_middle))), (h_m_high, .inl (cJ, m_high_n, .inr (.inl m_high))), (h_t, .inr (3, [.int t_field, .int t_rowCount, .int t_columnCount, .ref h_t_numbers, .int t_studied, .ref h_t_study])), (h_t_numbers, .inl (cI, t_numbers_n, .inl t_numbers))] sz) := by
  refine Met.ofW (cc := prog_2_method_5_code) (maxL := 15) (ret := (Option.none : Option Jvm.ClassFile.FieldType)) (by decide) rfl ?_
  intro p e s m args below meth c s₁ B hml hv
  obtain ⟨hAR, hsz, hP, hK, hN, hD0⟩ := hv
  have hx := B.exec
  have hb := B.bytes
  have hr := B.returns
  have hts := atoms_spec (ws := w_Mi_expand) B.pre
  have hown : s.vm.findClass "BasisWalk$Minors" = some m.cls := findClass_of_methodNamed B.named
  have hlocks := B.notSynchronized
  clear B
  subst hsz
  have hD := hD0.self (sz := s.heap.size)
  generalize hAe : va_A [(h_m, .inr (0, [.ref h_m_low, .ref h_m_middle, .ref h_m_high])), (h_m_low, .inl (cJ, m_low_n, .inr (.inl m_low))), (h_m_middle, .inl (cJ, m_middle_n, .inr (.inl m_middle))), (h_m_high, .inl (cJ, m_high_n, .inr (.inl m_high))), (h_t, .inr (3, [.int t_field, .int t_rowCount, .int t_columnCount, .ref h_t_numbers, .int t_studied, .ref h_t_study])), (h_t_numbers, .inl (cI, t_numbers_n, .inl t_numbers))] s.heap.size = A at hD ⊢
  have hA : ∀ q : Nat, s.heap.size ≤ q → A q := fun q h => by rw [← hAe]; exact Or.inr h
  clear hAe hD0
  have hS : va_S A s.heap s.heap [] := va_S.rf
  have hl := lv_entry ([.ref h_m, .ref h_t, .int place, .int set]) (n := 15) (Nat.le_of_ble_eq_true rfl)
  subst hAR
  rw [lg_entry_eq]
  generalize (lg_sl ([.ref h_m, .ref h_t, .int place, .int set]) ++ List.replicate (15 - (lg_sl ([.ref h_m, .ref h_t, .int place, .int set])).length) Slot.unset).toArray = ls at hl ⊢
  have hl : lv_has ls 15 [(0, .ref h_m), (1, .ref h_t), (2, .int place), (3, .int set)] := hl
  change W p l e ({ frames := 1, cells := 0, slots := 0, locals := 25 } : Room) s m _ below meth c s.heap [] 0 0 _ _
  generalize hARe : ([.ref h_m, .ref h_t, .int place, .int set] : List Value).toArray = AR at hts ⊢
  clear hARe
  generalize hQ : MQ below _ AR s 0 0 A = QQ
  have fl0 := va_Nw.use (A := AR) rfl (hN _ tn_59)
  have iw1 := (fun w hw => List.mem_cons_of_mem _ (in_Ta w hw) : ∀ w ∈ u_ws "BasisWalk$Table" T_Ta 6, w ∈ w_Mi_expand)
  have fl2 := hts _ (List.mem_cons_of_mem _ tw_115)
  have iw3 := (fun w hw => List.mem_cons_of_mem _ (in_Mi w hw) : ∀ w ∈ u_ws "BasisWalk$Minors" T_Mi 3, w ∈ w_Mi_expand)
  have kc4 := hts _ (List.mem_cons_of_mem _ tw_233)
  have fl5 := hts _ (List.mem_cons_of_mem _ tw_116)
  have fl6 := hts _ (List.mem_cons_of_mem _ tw_117)
  have fl7 := va_Nw.use (A := AR) rfl (hN _ tn_66)
  have fl8 := va_Nw.use (A := AR) rfl (hN _ tn_68)
  obtain ⟨H, hHe⟩ : ∃ H : Heap, H = s.heap := ⟨_, rfl⟩
  rw [← hHe] at hP ⊢
  replace hS : va_S A s.heap H [] := by rw [hHe]; exact va_S.rf
  clear hHe
  unfold f_M_expand at h
  refine lv_lconst (v := 0) hx hb d_Mi_expand_0 (by decide) ?_
  refine lv_lstore (lv' := [(4, .long 0), (0, .ref h_m), (1, .ref h_t), (2, .int place), (3, .int set)]) hx hb d_Mi_expand_1 hl (by decide) rfl (fun ls hl => ?_)
  refine lv_lconst (v := 0) hx hb d_Mi_expand_3 (by decide) ?_
  refine lv_lstore (lv' := [(6, .long 0), (4, .long 0), (0, .ref h_m), (1, .ref h_t), (2, .int place), (3, .int set)]) hx hb d_Mi_expand_4 hl (by decide) rfl (fun ls hl => ?_)
  refine lv_lconst (v := 0) hx hb d_Mi_expand_6 (by decide) ?_
  refine lv_lstore (lv' := [(8, .long 0), (6, .long 0), (4, .long 0), (0, .ref h_m), (1, .ref h_t), (2, .int place), (3, .int set)]) hx hb d_Mi_expand_7 hl (by decide) rfl (fun ls hl => ?_)
  refine lv_iconst (v := 1) hx hb d_Mi_expand_9 (by decide) ?_
  refine lv_istore (lv' := [(10, .int 1), (8, .long 0), (6, .long 0), (4, .long 0), (0, .ref h_m), (1, .ref h_t), (2, .int place), (3, .int set)]) hx hb d_Mi_expand_10 hl (by decide) rfl (fun ls hl => ?_)
  refine lv_iconst (v := 0) hx hb d_Mi_expand_12 (by decide) ?_
  refine lv_istore (lv' := [(11, .int 0), (10, .int 1), (8, .long 0), (6, .long 0), (4, .long 0), (0, .ref h_m), (1, .ref h_t), (2, .int place), (3, .int set)]) hx hb d_Mi_expand_13 hl (by decide) rfl (fun ls hl => ?_)
  refine ck_jn_W h (fun k' => ∀ (v8_1 : Int64) (v6_2 : Int64) (v4_3 : Int64), k' v8_1 v6_2 v4_3 = some r → ∀ (H : Heap) (locs : List Loc), va_P (dC, dI) cl_all [(h_m, .inr (0, [.ref h_m_low, .ref h_m_middle, .ref h_m_high])), (h_m_low, .inl (cJ, m_low_n, .inr (.inl m_low))), (h_m_middle, .inl (cJ, m_middle_n, .inr (.inl m_middle))), (h_m_high, .inl (cJ, m_high_n, .inr (.inl m_high))), (h_t, .inr (3, [.int t_field, .int t_rowCount, .int t_columnCount, .ref h_t_numbers, .int t_studied, .ref h_t_study])), (h_t_numbers, .inl (cI, t_numbers_n, .inl t_numbers))] H → va_D A [(h_m, .inr (0, [.ref h_m_low, .ref h_m_middle, .ref h_m_high])), (h_m_low, .inl (cJ, m_low_n, .inr (.inl m_low))), (h_m_middle, .inl (cJ, m_middle_n, .inr (.inl m_middle))), (h_m_high, .inl (cJ, m_high_n, .inr (.inl m_high))), (h_t, .inr (3, [.int t_field, .int t_rowCount, .int t_columnCount, .ref h_t_numbers, .int t_studied, .ref h_t_study])), (h_t_numbers, .inl (cI, t_numbers_n, .inl t_numbers))] → va_S A s.heap H locs → ∀ ls : Array Slot, lv_has ls 15 [(0, .ref h_m), (1, .ref h_t), (3, .int set), (4, .long v4_3), (6, .long v6_2), (8, .long v8_1)] → W p l e ({ frames := 1, cells := 0, slots := 0, locals := 25 } : Room) s m AR below meth c H locs 0 0 QQ (F0 m 111 ls [])) ?_ ?_
  · intro v8_1 v6_2 v4_3 h H locs hP hD hS ls hl
    refine lv_aload_n hx hb d_Mi_expand_111 rfl (lv_at hl 1 rfl) ?_
    refine va_getN (D := (dC, dI)) (ci := 3) (v := .int t_field) (C := "BasisWalk$Table") (T := T_Ta) (N := 6) hx hb hts iw1 hown hK hP 4 rfl rfl 0 (by decide) fl0 (fun _ h9 => h9) rfl d_Mi_expand_112 ?_
    refine lv_if_eq (tgt := 149) hx hb d_Mi_expand_115 (by decide) (fun c_4 => ?_) (fun c_4 => ?_)
    · replace h := ck_if_t h c_4
      refine lv_lload hx hb d_Mi_expand_149 (lv_at hl 4 rfl) ?_
      refine lv_lload hx hb d_Mi_expand_151 (lv_at hl 3 rfl) ?_
      refine lv_bipush (v := 48) hx hb d_Mi_expand_153 (by decide) ?_
      refine lv_lshr hx hb d_Mi_expand_155 rfl ?_
      refine lv_ladd hx hb d_Mi_expand_156 ?_
      refine lv_topl (fun x_5 ex_5 => ?_)
      replace h := ck_nm_s h ex_5
      refine lv_lstore (lv' := [(6, .long x_5), (0, .ref h_m), (1, .ref h_t), (3, .int set), (4, .long v4_3), (8, .long v8_1)]) hx hb d_Mi_expand_157 hl (by decide) rfl (fun ls hl => ?_)
      refine lv_lload hx hb d_Mi_expand_159 (lv_at hl 5 rfl) ?_
      refine lv_lload hx hb d_Mi_expand_161 (lv_at hl 0 rfl) ?_
      refine lv_bipush (v := 48) hx hb d_Mi_expand_163 (by decide) ?_
      refine lv_lshr hx hb d_Mi_expand_165 rfl ?_
      refine lv_ladd hx hb d_Mi_expand_166 ?_
      refine lv_topl (fun x_6 ex_6 => ?_)
      replace h := ck_nm_s h ex_6
      refine lv_lstore (lv' := [(8, .long x_6), (6, .long x_5), (0, .ref h_m), (1, .ref h_t), (3, .int set), (4, .long v4_3)]) hx hb d_Mi_expand_167 hl (by decide) rfl (fun ls hl => ?_)
      refine lv_aload_n hx hb d_Mi_expand_169 rfl (lv_at hl 2 rfl) ?_
      refine va_get (D := (dC, dI)) (ci := 0) (v := .ref h_m_low) (C := "BasisWalk$Minors") (T := T_Mi) (N := 3) hx hb hts iw3 hown hK hP 0 rfl rfl 0 (by decide) fl2 (fun _ h9 => h9) rfl d_Mi_expand_170 ?_
      refine lv_iload_n hx hb d_Mi_expand_173 rfl (lv_at hl 4 rfl) ?_
      refine lv_lload hx hb d_Mi_expand_174 (lv_at hl 5 rfl) ?_
      refine lv_ldc2 (v := 281474976710655) hx hb hown kc4 d_Mi_expand_176 ?_
      refine lv_land hx hb d_Mi_expand_179 ?_
      obtain ⟨g_7, h⟩ := ck_in_s h
      refine va_last hx hb hK hP hD hS 1 1 rfl rfl g_7 d_Mi_expand_180 (fun H locs hP hD hS => ?_)
      have hP : va_P (dC, dI) cl_all [(h_m, .inr (0, [.ref h_m_low, .ref h_m_middle, .ref h_m_high])), (h_m_low, .inl (cJ, m_low_n, .inr (.inl (vp_updL m_low set.toNatClampNeg (v4_3 &&& 281474976710655))))), (h_m_middle, .inl (cJ, m_middle_n, .inr (.inl m_middle))), (h_m_high, .inl (cJ, m_high_n, .inr (.inl m_high))), (h_t, .inr (3, [.int t_field, .int t_rowCount, .int t_columnCount, .ref h_t_numbers, .int t_studied, .ref h_t_study])), (h_t_numbers, .inl (cI, t_numbers_n, .inl t_numbers))] H := hP
      have hD : va_D A [(h_m, .inr (0, [.ref h_m_low, .ref h_m_middle, .ref h_m_high])), (h_m_low, .inl (cJ, m_low_n, .inr (.inl (vp_updL m_low set.toNatClampNeg (v4_3 &&& 281474976710655))))), (h_m_middle, .inl (cJ, m_middle_n, .inr (.inl m_middle))), (h_m_high, .inl (cJ, m_high_n, .inr (.inl m_high))), (h_t, .inr (3, [.int t_field, .int t_rowCount, .int t_columnCount, .ref h_t_numbers, .int t_studied, .ref h_t_study])), (h_t_numbers, .inl (cI, t_numbers_n, .inl t_numbers))] := hD
      refine lv_aload_n hx hb d_Mi_expand_181 rfl (lv_at hl 2 rfl) ?_
      refine va_get (D := (dC, dI)) (ci := 0) (v := .ref h_m_middle) (C := "BasisWalk$Minors") (T := T_Mi) (N := 3) hx hb hts iw3 hown hK hP 0 rfl rfl 1 (by decide) fl5 (fun _ h9 => h9) rfl d_Mi_expand_182 ?_
      refine lv_iload_n hx hb d_Mi_expand_185 rfl (lv_at hl 4 rfl) ?_
      refine lv_lload hx hb d_Mi_expand_186 (lv_at hl 1 rfl) ?_
      refine lv_ldc2 (v := 281474976710655) hx hb hown kc4 d_Mi_expand_188 ?_
      refine lv_land hx hb d_Mi_expand_191 ?_
      obtain ⟨g_8, h⟩ := ck_in_s h
      refine va_last hx hb hK hP hD hS 2 1 rfl rfl g_8 d_Mi_expand_192 (fun H locs hP hD hS => ?_)
      have hP : va_P (dC, dI) cl_all [(h_m, .inr (0, [.ref h_m_low, .ref h_m_middle, .ref h_m_high])), (h_m_low, .inl (cJ, m_low_n, .inr (.inl (vp_updL m_low set.toNatClampNeg (v4_3 &&& 281474976710655))))), (h_m_middle, .inl (cJ, m_middle_n, .inr (.inl (vp_updL m_middle set.toNatClampNeg (x_5 &&& 281474976710655))))), (h_m_high, .inl (cJ, m_high_n, .inr (.inl m_high))), (h_t, .inr (3, [.int t_field, .int t_rowCount, .int t_columnCount, .ref h_t_numbers, .int t_studied, .ref h_t_study])), (h_t_numbers, .inl (cI, t_numbers_n, .inl t_numbers))] H := hP
      have hD : va_D A [(h_m, .inr (0, [.ref h_m_low, .ref h_m_middle, .ref h_m_high])), (h_m_low, .inl (cJ, m_low_n, .inr (.inl (vp_updL m_low set.toNatClampNeg (v4_3 &&& 281474976710655))))), (h_m_middle, .inl (cJ, m_middle_n, .inr (.inl (vp_updL m_middle set.toNatClampNeg (x_5 &&& 281474976710655))))), (h_m_high, .inl (cJ, m_high_n, .inr (.inl m_high))), (h_t, .inr (3, [.int t_field, .int t_rowCount, .int t_columnCount, .ref h_t_numbers, .int t_studied, .ref h_t_study])), (h_t_numbers, .inl (cI, t_numbers_n, .inl t_numbers))] := hD
      refine lv_aload_n hx hb d_Mi_expand_193 rfl (lv_at hl 2 rfl) ?_
      refine va_get (D := (dC, dI)) (ci := 0) (v := .ref h_m_high) (C := "BasisWalk$Minors") (T := T_Mi) (N := 3) hx hb hts iw3 hown hK hP 0 rfl rfl 2 (by decide) fl6 (fun _ h9 => h9) rfl d_Mi_expand_194 ?_
      refine lv_iload_n hx hb d_Mi_expand_197 rfl (lv_at hl 4 rfl) ?_
      refine lv_lload hx hb d_Mi_expand_198 (lv_at hl 0 rfl) ?_
      obtain ⟨g_9, h⟩ := ck_in_s h
      refine va_last hx hb hK hP hD hS 3 1 rfl rfl g_9 d_Mi_expand_200 (fun H locs hP hD hS => ?_)
      have hP : va_P (dC, dI) cl_all [(h_m, .inr (0, [.ref h_m_low, .ref h_m_middle, .ref h_m_high])), (h_m_low, .inl (cJ, m_low_n, .inr (.inl (vp_updL m_low set.toNatClampNeg (v4_3 &&& 281474976710655))))), (h_m_middle, .inl (cJ, m_middle_n, .inr (.inl (vp_updL m_middle set.toNatClampNeg (x_5 &&& 281474976710655))))), (h_m_high, .inl (cJ, m_high_n, .inr (.inl (vp_updL m_high set.toNatClampNeg x_6)))), (h_t, .inr (3, [.int t_field, .int t_rowCount, .int t_columnCount, .ref h_t_numbers, .int t_studied, .ref h_t_study])), (h_t_numbers, .inl (cI, t_numbers_n, .inl t_numbers))] H := hP
      have hD : va_D A [(h_m, .inr (0, [.ref h_m_low, .ref h_m_middle, .ref h_m_high])), (h_m_low, .inl (cJ, m_low_n, .inr (.inl (vp_updL m_low set.toNatClampNeg (v4_3 &&& 281474976710655))))), (h_m_middle, .inl (cJ, m_middle_n, .inr (.inl (vp_updL m_middle set.toNatClampNeg (x_5 &&& 281474976710655))))), (h_m_high, .inl (cJ, m_high_n, .inr (.inl (vp_updL m_high set.toNatClampNeg x_6)))), (h_t, .inr (3, [.int t_field, .int t_rowCount, .int t_columnCount, .ref h_t_numbers, .int t_studied, .ref h_t_study])), (h_t_numbers, .inl (cI, t_numbers_n, .inl t_numbers))] := hD
      obtain rfl := Option.some.inj h
      subst hQ
      exact W.vret hx hb hr (fun t ht hW => ⟨⟨((vp_updL m_low set.toNatClampNeg (v4_3 &&& 281474976710655)), (vp_updL m_middle set.toNatClampNeg (x_5 &&& 281474976710655)), (vp_updL m_high set.toNatClampNeg x_6)), rfl, rfl, by rw [ht]; exact hP, va_K.moved hW.alike hK, hD⟩, hS.F ht⟩) hS.2.2 d_Mi_expand_201
    · replace h := ck_if_f h c_4
      refine lv_aload_n hx hb d_Mi_expand_118 rfl (lv_at hl 0 rfl) ?_
      refine va_get (D := (dC, dI)) (ci := 0) (v := .ref h_m_low) (C := "BasisWalk$Minors") (T := T_Mi) (N := 3) hx hb hts iw3 hown hK hP 0 rfl rfl 0 (by decide) fl2 (fun _ h9 => h9) rfl d_Mi_expand_119 ?_
      refine lv_iload_n hx hb d_Mi_expand_122 rfl (lv_at hl 2 rfl) ?_
      refine lv_lload hx hb d_Mi_expand_123 (lv_at hl 3 rfl) ?_
      refine lv_aload_n hx hb d_Mi_expand_125 rfl (lv_at hl 1 rfl) ?_
      refine va_getN (D := (dC, dI)) (ci := 3) (v := .int t_field) (C := "BasisWalk$Table") (T := T_Ta) (N := 6) hx hb hts iw1 hown hK hP 4 rfl rfl 0 (by decide) fl0 (fun _ h9 => h9) rfl d_Mi_expand_126 ?_
      refine lv_i2l hx hb d_Mi_expand_129 rfl ?_
      obtain ⟨r_10, hc_11, h⟩ := ck_b1_s h
      have hPc := hP.sub (ws' := []) [] rfl
      have hDc := hD.sub (ws' := []) [] (by decide) rfl
      have hFc := va_free (wc := []) hD hS hA [] rfl
      refine va_calll (va_runS (As := [.long v4_3, .long t_field.toInt64]) (rest := [.int set, .ref h_m_low]) ⟨hx, hb, hml, hown, hts⟩ (c_floorModL l dC dI cI cJ cB cZ cT cN H.size v4_3 t_field.toInt64 _ hc_11) (va_cwS 2 hts (tb_S tw_230 tw_231 tw_9 tw_232) rfl rfl rfl (by decide +kernel) ⟨Nat.le_of_ble_eq_true rfl, Nat.le_of_ble_eq_true rfl⟩) ⟨fun a U g mk q => by obtain ⟨q0, q1, qP, qK, qN, qD⟩ := q; exact ⟨q0, q1, qP, va_K.moved (u := U) (U := U.calling g mk a) (Vm.Alike.refl U.vm) qK, qN.same rfl, qD⟩, fun U hU hW => ⟨rfl, by rw [hU], by rw [hU]; exact hPc, va_K.moved hW.alike hK, hN.warm hW, hDc.weaken (fun _ _ _ _ => trivial)⟩⟩ rfl rfl hl.1 rfl (lv_room (Nat.le_of_ble_eq_true rfl)) d_Mi_expand_130 ⟨Nat.zero_le _, Nat.zero_le _⟩) hS (fun q _ h => hFc q h) hFc (fun rr u t H1 locs ht hvm hw hB hz1 hk1 hS => ?_)
      replace hw := hw.symm
      subst hw
      obtain ⟨hP1, -, hD1⟩ := hB
      rw [ht] at hP1
      obtain ⟨hP, hD⟩ := va_join (wr := [(h_m, .inr (0, [.ref h_m_low, .ref h_m_middle, .ref h_m_high])), (h_m_low, .inl (cJ, m_low_n, .inr (.inl m_low))), (h_m_middle, .inl (cJ, m_middle_n, .inr (.inl m_middle))), (h_m_high, .inl (cJ, m_high_n, .inr (.inl m_high))), (h_t, .inr (3, [.int t_field, .int t_rowCount, .int t_columnCount, .ref h_t_numbers, .int t_studied, .ref h_t_study])), (h_t_numbers, .inl (cI, t_numbers_n, .inl t_numbers))]) (w1 := []) hP hD [] [0, 1, 2, 3, 4, 5] rfl rfl (by decide) (by decide) hk1 hFc hP1 hD1
      generalize H1 = H at hP hS ⊢
      have hP : va_P (dC, dI) cl_all [(h_m, .inr (0, [.ref h_m_low, .ref h_m_middle, .ref h_m_high])), (h_m_low, .inl (cJ, m_low_n, .inr (.inl m_low))), (h_m_middle, .inl (cJ, m_middle_n, .inr (.inl m_middle))), (h_m_high, .inl (cJ, m_high_n, .inr (.inl m_high))), (h_t, .inr (3, [.int t_field, .int t_rowCount, .int t_columnCount, .ref h_t_numbers, .int t_studied, .ref h_t_study])), (h_t_numbers, .inl (cI, t_numbers_n, .inl t_numbers))] H := hP.sub [0, 1, 2, 3, 4, 5] rfl
      have hD : va_D A [(h_m, .inr (0, [.ref h_m_low, .ref h_m_middle, .ref h_m_high])), (h_m_low, .inl (cJ, m_low_n, .inr (.inl m_low))), (h_m_middle, .inl (cJ, m_middle_n, .inr (.inl m_middle))), (h_m_high, .inl (cJ, m_high_n, .inr (.inl m_high))), (h_t, .inr (3, [.int t_field, .int t_rowCount, .int t_columnCount, .ref h_t_numbers, .int t_studied, .ref h_t_study])), (h_t_numbers, .inl (cI, t_numbers_n, .inl t_numbers))] := hD.sub [0, 1, 2, 3, 4, 5] (by decide) rfl
      obtain ⟨g_12, h⟩ := ck_in_s h
      refine va_last hx hb hK hP hD hS 1 1 rfl rfl g_12 d_Mi_expand_133 (fun H locs hP hD hS => ?_)
      have hP : va_P (dC, dI) cl_all [(h_m, .inr (0, [.ref h_m_low, .ref h_m_middle, .ref h_m_high])), (h_m_low, .inl (cJ, m_low_n, .inr (.inl (vp_updL m_low set.toNatClampNeg r_10)))), (h_m_middle, .inl (cJ, m_middle_n, .inr (.inl m_middle))), (h_m_high, .inl (cJ, m_high_n, .inr (.inl m_high))), (h_t, .inr (3, [.int t_field, .int t_rowCount, .int t_columnCount, .ref h_t_numbers, .int t_studied, .ref h_t_study])), (h_t_numbers, .inl (cI, t_numbers_n, .inl t_numbers))] H := hP
      have hD : va_D A [(h_m, .inr (0, [.ref h_m_low, .ref h_m_middle, .ref h_m_high])), (h_m_low, .inl (cJ, m_low_n, .inr (.inl (vp_updL m_low set.toNatClampNeg r_10)))), (h_m_middle, .inl (cJ, m_middle_n, .inr (.inl m_middle))), (h_m_high, .inl (cJ, m_high_n, .inr (.inl m_high))), (h_t, .inr (3, [.int t_field, .int t_rowCount, .int t_columnCount, .ref h_t_numbers, .int t_studied, .ref h_t_study])), (h_t_numbers, .inl (cI, t_numbers_n, .inl t_numbers))] := hD
      refine lv_aload_n hx hb d_Mi_expand_134 rfl (lv_at hl 0 rfl) ?_
      refine va_get (D := (dC, dI)) (ci := 0) (v := .ref h_m_middle) (C := "BasisWalk$Minors") (T := T_Mi) (N := 3) hx hb hts iw3 hown hK hP 0 rfl rfl 1 (by decide) fl5 (fun _ h9 => h9) rfl d_Mi_expand_135 ?_
      refine lv_iload_n hx hb d_Mi_expand_138 rfl (lv_at hl 2 rfl) ?_
      refine lv_lconst (v := 0) hx hb d_Mi_expand_139 (by decide) ?_
      obtain ⟨g_13, h⟩ := ck_in_s h
      refine va_last hx hb hK hP hD hS 2 1 rfl rfl g_13 d_Mi_expand_140 (fun H locs hP hD hS => ?_)
      have hP : va_P (dC, dI) cl_all [(h_m, .inr (0, [.ref h_m_low, .ref h_m_middle, .ref h_m_high])), (h_m_low, .inl (cJ, m_low_n, .inr (.inl (vp_updL m_low set.toNatClampNeg r_10)))), (h_m_middle, .inl (cJ, m_middle_n, .inr (.inl (vp_updL m_middle set.toNatClampNeg 0)))), (h_m_high, .inl (cJ, m_high_n, .inr (.inl m_high))), (h_t, .inr (3, [.int t_field, .int t_rowCount, .int t_columnCount, .ref h_t_numbers, .int t_studied, .ref h_t_study])), (h_t_numbers, .inl (cI, t_numbers_n, .inl t_numbers))] H := hP
      have hD : va_D A [(h_m, .inr (0, [.ref h_m_low, .ref h_m_middle, .ref h_m_high])), (h_m_low, .inl (cJ, m_low_n, .inr (.inl (vp_updL m_low set.toNatClampNeg r_10)))), (h_m_middle, .inl (cJ, m_middle_n, .inr (.inl (vp_updL m_middle set.toNatClampNeg 0)))), (h_m_high, .inl (cJ, m_high_n, .inr (.inl m_high))), (h_t, .inr (3, [.int t_field, .int t_rowCount, .int t_columnCount, .ref h_t_numbers, .int t_studied, .ref h_t_study])), (h_t_numbers, .inl (cI, t_numbers_n, .inl t_numbers))] := hD
      refine lv_aload_n hx hb d_Mi_expand_141 rfl (lv_at hl 0 rfl) ?_
      refine va_get (D := (dC, dI)) (ci := 0) (v := .ref h_m_high) (C := "BasisWalk$Minors") (T := T_Mi) (N := 3) hx hb hts iw3 hown hK hP 0 rfl rfl 2 (by decide) fl6 (fun _ h9 => h9) rfl d_Mi_expand_142 ?_
      refine lv_iload_n hx hb d_Mi_expand_145 rfl (lv_at hl 2 rfl) ?_
      refine lv_lconst (v := 0) hx hb d_Mi_expand_146 (by decide) ?_
      obtain ⟨g_14, h⟩ := ck_in_s h
      refine va_last hx hb hK hP hD hS 3 1 rfl rfl g_14 d_Mi_expand_147 (fun H locs hP hD hS => ?_)
      have hP : va_P (dC, dI) cl_all [(h_m, .inr (0, [.ref h_m_low, .ref h_m_middle, .ref h_m_high])), (h_m_low, .inl (cJ, m_low_n, .inr (.inl (vp_updL m_low set.toNatClampNeg r_10)))), (h_m_middle, .inl (cJ, m_middle_n, .inr (.inl (vp_updL m_middle set.toNatClampNeg 0)))), (h_m_high, .inl (cJ, m_high_n, .inr (.inl (vp_updL m_high set.toNatClampNeg 0)))), (h_t, .inr (3, [.int t_field, .int t_rowCount, .int t_columnCount, .ref h_t_numbers, .int t_studied, .ref h_t_study])), (h_t_numbers, .inl (cI, t_numbers_n, .inl t_numbers))] H := hP
      have hD : va_D A [(h_m, .inr (0, [.ref h_m_low, .ref h_m_middle, .ref h_m_high])), (h_m_low, .inl (cJ, m_low_n, .inr (.inl (vp_updL m_low set.toNatClampNeg r_10)))), (h_m_middle, .inl (cJ, m_middle_n, .inr (.inl (vp_updL m_middle set.toNatClampNeg 0)))), (h_m_high, .inl (cJ, m_high_n, .inr (.inl (vp_updL m_high set.toNatClampNeg 0)))), (h_t, .inr (3, [.int t_field, .int t_rowCount, .int t_columnCount, .ref h_t_numbers, .int t_studied, .ref h_t_study])), (h_t_numbers, .inl (cI, t_numbers_n, .inl t_numbers))] := hD
      obtain rfl := Option.some.inj h
      subst hQ
      exact W.vret hx hb hr (fun t ht hW => ⟨⟨((vp_updL m_low set.toNatClampNeg r_10), (vp_updL m_middle set.toNatClampNeg 0), (vp_updL m_high set.toNatClampNeg 0)), rfl, rfl, by rw [ht]; exact hP, va_K.moved hW.alike hK, hD⟩, hS.F ht⟩) hS.2.2 d_Mi_expand_148
  · intro k_111 J_111 h
    refine lo5_W (r := r) (fun (v11_15 : Int32) (v10_16 : Int32) (v8_17 : Int64) (v6_18 : Int64) (v4_19 : Int64) => ∀ (H : Heap) (locs : List Loc), va_P (dC, dI) cl_all [(h_m, .inr (0, [.ref h_m_low, .ref h_m_middle, .ref h_m_high])), (h_m_low, .inl (cJ, m_low_n, .inr (.inl m_low))), (h_m_middle, .inl (cJ, m_middle_n, .inr (.inl m_middle))), (h_m_high, .inl (cJ, m_high_n, .inr (.inl m_high))), (h_t, .inr (3, [.int t_field, .int t_rowCount, .int t_columnCount, .ref h_t_numbers, .int t_studied, .ref h_t_study])), (h_t_numbers, .inl (cI, t_numbers_n, .inl t_numbers))] H → va_D A [(h_m, .inr (0, [.ref h_m_low, .ref h_m_middle, .ref h_m_high])), (h_m_low, .inl (cJ, m_low_n, .inr (.inl m_low))), (h_m_middle, .inl (cJ, m_middle_n, .inr (.inl m_middle))), (h_m_high, .inl (cJ, m_high_n, .inr (.inl m_high))), (h_t, .inr (3, [.int t_field, .int t_rowCount, .int t_columnCount, .ref h_t_numbers, .int t_studied, .ref h_t_study])), (h_t_numbers, .inl (cI, t_numbers_n, .inl t_numbers))] → va_S A s.heap H locs → ∀ ls : Array Slot, lv_has ls 15 [(0, .ref h_m), (1, .ref h_t), (2, .int place), (3, .int set), (4, .long v4_19), (6, .long v6_18), (8, .long v8_17), (10, .int v10_16), (11, .int v11_15)] → W p l e ({ frames := 1, cells := 0, slots := 0, locals := 25 } : Room) s m AR below meth c H locs 0 0 QQ (F0 m 15 ls [])) ?_ _ _ _ _ _ _ h _ _ hP hD hS _ (lv_sub hl [5, 6, 7, 8, 4, 3, 2, 1, 0] rfl)
    intro k_15 v11_15 v10_16 v8_17 v6_18 v4_19 J_15 h H locs hP hD hS ls hl
    refine lv_iload hx hb d_Mi_expand_15 (lv_at hl 8 rfl) ?_
    refine lv_aload_n hx hb d_Mi_expand_17 rfl (lv_at hl 1 rfl) ?_
    refine va_getN (D := (dC, dI)) (ci := 3) (v := .int t_columnCount) (C := "BasisWalk$Table") (T := T_Ta) (N := 6) hx hb hts iw1 hown hK hP 4 rfl rfl 2 (by decide) fl7 (fun _ h9 => h9) rfl d_Mi_expand_18 ?_
    refine lv_icmp_ge (tgt := 111) hx hb d_Mi_expand_21 (by decide) (fun c_20 => ?_) (fun c_20 => ?_)
    · replace h := ck_if_t h c_20
      exact J_111 _ _ _ h _ _ hP hD hS _ (lv_sub hl [0, 1, 3, 4, 5, 6] rfl)
    · replace h := ck_if_f h c_20
      refine lv_iload_n hx hb d_Mi_expand_24 rfl (lv_at hl 3 rfl) ?_
      refine lv_iconst (v := 1) hx hb d_Mi_expand_25 (by decide) ?_
      refine lv_iload hx hb d_Mi_expand_26 (lv_at hl 8 rfl) ?_
      refine lv_ishl hx hb d_Mi_expand_28 ?_
      refine lv_iconst (v := (-1)) hx hb d_Mi_expand_29 (by decide) ?_
      refine lv_ixor hx hb d_Mi_expand_30 ?_
      refine lv_iand hx hb d_Mi_expand_31 ?_
      refine lv_topi (fun x_21 ex_21 => ?_)
      replace h := ck_nm_s h ex_21
      refine lv_istore (lv' := [(12, .int x_21), (0, .ref h_m), (1, .ref h_t), (2, .int place), (3, .int set), (4, .long v4_19), (6, .long v6_18), (8, .long v8_17), (10, .int v10_16), (11, .int v11_15)]) hx hb d_Mi_expand_32 hl (by decide) rfl (fun ls hl => ?_)
      refine lv_iload hx hb d_Mi_expand_34 (lv_at hl 0 rfl) ?_
      refine lv_iload_n hx hb d_Mi_expand_36 rfl (lv_at hl 4 rfl) ?_
      refine ck_jn_W h (fun k' => ∀ (v4_22 : Int64) (v6_23 : Int64) (v8_24 : Int64) (v10_25 : Int32), k' v4_22 v6_23 v8_24 v10_25 = some r → ∀ (H : Heap) (locs : List Loc), va_P (dC, dI) cl_all [(h_m, .inr (0, [.ref h_m_low, .ref h_m_middle, .ref h_m_high])), (h_m_low, .inl (cJ, m_low_n, .inr (.inl m_low))), (h_m_middle, .inl (cJ, m_middle_n, .inr (.inl m_middle))), (h_m_high, .inl (cJ, m_high_n, .inr (.inl m_high))), (h_t, .inr (3, [.int t_field, .int t_rowCount, .int t_columnCount, .ref h_t_numbers, .int t_studied, .ref h_t_study])), (h_t_numbers, .inl (cI, t_numbers_n, .inl t_numbers))] H → va_D A [(h_m, .inr (0, [.ref h_m_low, .ref h_m_middle, .ref h_m_high])), (h_m_low, .inl (cJ, m_low_n, .inr (.inl m_low))), (h_m_middle, .inl (cJ, m_middle_n, .inr (.inl m_middle))), (h_m_high, .inl (cJ, m_high_n, .inr (.inl m_high))), (h_t, .inr (3, [.int t_field, .int t_rowCount, .int t_columnCount, .ref h_t_numbers, .int t_studied, .ref h_t_study])), (h_t_numbers, .inl (cI, t_numbers_n, .inl t_numbers))] → va_S A s.heap H locs → ∀ ls : Array Slot, lv_has ls 15 [(0, .ref h_m), (1, .ref h_t), (2, .int place), (3, .int set), (4, .long v4_22), (6, .long v6_23), (8, .long v8_24), (10, .int v10_25), (11, .int v11_15)] → W p l e ({ frames := 1, cells := 0, slots := 0, locals := 25 } : Room) s m AR below meth c H locs 0 0 QQ (F0 m 105 ls [])) ?_ ?_
      · intro v4_22 v6_23 v8_24 v10_25 h H locs hP hD hS ls hl
        obtain ⟨x_26, ex_26⟩ : ∃ y : Int32, y = v11_15 + 1 := ⟨_, rfl⟩
        replace h := ck_nm_s h ex_26
        refine lv_iinc (v := x_26) (lv' := [(11, .int x_26), (0, .ref h_m), (1, .ref h_t), (2, .int place), (3, .int set), (4, .long v4_22), (6, .long v6_23), (8, .long v8_24), (10, .int v10_25)]) hx hb d_Mi_expand_105 hl (k := 8) rfl (by rw [ex_26]; rfl) (by decide) rfl (fun ls hl => ?_)
        refine lv_goto (tgt := 15) hx hb d_Mi_expand_108 (by decide) ?_
        exact J_15 _ _ _ _ _ h _ _ hP hD hS _ (lv_sub hl [1, 2, 3, 4, 5, 6, 7, 8, 0] rfl)
      · intro k_105 J_105 h
        refine lv_icmp_eq (tgt := 105) hx hb d_Mi_expand_37 (by decide) (fun c_27 => ?_) (fun c_27 => ?_)
        · replace h := ck_if_t h c_27
          exact J_105 _ _ _ _ h _ _ hP hD hS _ (lv_sub hl [1, 2, 3, 4, 5, 6, 7, 8, 9] rfl)
        · replace h := ck_if_f h c_27
          refine lv_iload hx hb d_Mi_expand_40 (lv_at hl 8 rfl) ?_
          refine lv_aload_n hx hb d_Mi_expand_42 rfl (lv_at hl 2 rfl) ?_
          refine va_getN (D := (dC, dI)) (ci := 3) (v := .ref h_t_numbers) (C := "BasisWalk$Table") (T := T_Ta) (N := 6) hx hb hts iw1 hown hK hP 4 rfl rfl 3 (by decide) fl8 (fun _ h9 => h9) rfl d_Mi_expand_43 ?_
          refine lv_iload_n hx hb d_Mi_expand_46 rfl (lv_at hl 3 rfl) ?_
          refine lv_iload hx hb d_Mi_expand_47 (lv_at hl 9 rfl) ?_
          refine lv_iadd hx hb d_Mi_expand_49 ?_
          obtain ⟨g_28, h⟩ := ck_in_s h
          refine va_iald hx hb hK hP 5 0 rfl rfl g_28 d_Mi_expand_50 ?_
          refine lv_imul hx hb d_Mi_expand_51 ?_
          refine lv_i2l hx hb d_Mi_expand_52 rfl ?_
          refine lv_topl (fun x_29 ex_29 => ?_)
          replace h := ck_nm_s h ex_29
          refine lv_lstore (lv' := [(13, .long x_29), (12, .int x_21), (0, .ref h_m), (1, .ref h_t), (2, .int place), (3, .int set), (4, .long v4_19), (6, .long v6_18), (8, .long v8_17), (10, .int v10_16), (11, .int v11_15)]) hx hb d_Mi_expand_53 hl (by decide) rfl (fun ls hl => ?_)
          refine lv_lload hx hb d_Mi_expand_55 (lv_at hl 6 rfl) ?_
          refine lv_lload hx hb d_Mi_expand_57 (lv_at hl 0 rfl) ?_
          refine lv_aload_n hx hb d_Mi_expand_59 rfl (lv_at hl 2 rfl) ?_
          refine va_get (D := (dC, dI)) (ci := 0) (v := .ref h_m_low) (C := "BasisWalk$Minors") (T := T_Mi) (N := 3) hx hb hts iw3 hown hK hP 0 rfl rfl 0 (by decide) fl2 (fun _ h9 => h9) rfl d_Mi_expand_60 ?_
          refine lv_iload hx hb d_Mi_expand_63 (lv_at hl 1 rfl) ?_
          obtain ⟨g_30, h⟩ := ck_in_s h
          refine va_lald hx hb hK hP 1 1 rfl rfl g_30 d_Mi_expand_65 ?_
          refine lv_lmul hx hb d_Mi_expand_66 ?_
          refine lv_ladd hx hb d_Mi_expand_67 ?_
          refine lv_topl (fun x_31 ex_31 => ?_)
          replace h := ck_nm_s h ex_31
          refine lv_lstore (lv' := [(4, .long x_31), (13, .long x_29), (12, .int x_21), (0, .ref h_m), (1, .ref h_t), (2, .int place), (3, .int set), (6, .long v6_18), (8, .long v8_17), (10, .int v10_16), (11, .int v11_15)]) hx hb d_Mi_expand_68 hl (by decide) rfl (fun ls hl => ?_)
          refine lv_lload hx hb d_Mi_expand_70 (lv_at hl 7 rfl) ?_
          refine lv_lload hx hb d_Mi_expand_72 (lv_at hl 1 rfl) ?_
          refine lv_aload_n hx hb d_Mi_expand_74 rfl (lv_at hl 3 rfl) ?_
          refine va_get (D := (dC, dI)) (ci := 0) (v := .ref h_m_middle) (C := "BasisWalk$Minors") (T := T_Mi) (N := 3) hx hb hts iw3 hown hK hP 0 rfl rfl 1 (by decide) fl5 (fun _ h9 => h9) rfl d_Mi_expand_75 ?_
          refine lv_iload hx hb d_Mi_expand_78 (lv_at hl 2 rfl) ?_
          obtain ⟨g_32, h⟩ := ck_in_s h
          refine va_lald hx hb hK hP 2 1 rfl rfl g_32 d_Mi_expand_80 ?_
          refine lv_lmul hx hb d_Mi_expand_81 ?_
          refine lv_ladd hx hb d_Mi_expand_82 ?_
          refine lv_topl (fun x_33 ex_33 => ?_)
          replace h := ck_nm_s h ex_33
          refine lv_lstore (lv' := [(6, .long x_33), (4, .long x_31), (13, .long x_29), (12, .int x_21), (0, .ref h_m), (1, .ref h_t), (2, .int place), (3, .int set), (8, .long v8_17), (10, .int v10_16), (11, .int v11_15)]) hx hb d_Mi_expand_83 hl (by decide) rfl (fun ls hl => ?_)
          refine lv_lload hx hb d_Mi_expand_85 (lv_at hl 8 rfl) ?_
          refine lv_lload hx hb d_Mi_expand_87 (lv_at hl 2 rfl) ?_
          refine lv_aload_n hx hb d_Mi_expand_89 rfl (lv_at hl 4 rfl) ?_
          refine va_get (D := (dC, dI)) (ci := 0) (v := .ref h_m_high) (C := "BasisWalk$Minors") (T := T_Mi) (N := 3) hx hb hts iw3 hown hK hP 0 rfl rfl 2 (by decide) fl6 (fun _ h9 => h9) rfl d_Mi_expand_90 ?_
          refine lv_iload hx hb d_Mi_expand_93 (lv_at hl 3 rfl) ?_
          obtain ⟨g_34, h⟩ := ck_in_s h
          refine va_lald hx hb hK hP 3 1 rfl rfl g_34 d_Mi_expand_95 ?_
          refine lv_lmul hx hb d_Mi_expand_96 ?_
          refine lv_ladd hx hb d_Mi_expand_97 ?_
          refine lv_topl (fun x_35 ex_35 => ?_)
          replace h := ck_nm_s h ex_35
          refine lv_lstore (lv' := [(8, .long x_35), (6, .long x_33), (4, .long x_31), (13, .long x_29), (12, .int x_21), (0, .ref h_m), (1, .ref h_t), (2, .int place), (3, .int set), (10, .int v10_16), (11, .int v11_15)]) hx hb d_Mi_expand_98 hl (by decide) rfl (fun ls hl => ?_)
          refine lv_iload hx hb d_Mi_expand_100 (lv_at hl 9 rfl) ?_
          refine lv_ineg hx hb d_Mi_expand_102 ?_
          refine lv_topi (fun x_36 ex_36 => ?_)
          replace h := ck_nm_s h ex_36
          refine lv_istore (lv' := [(10, .int x_36), (8, .long x_35), (6, .long x_33), (4, .long x_31), (13, .long x_29), (12, .int x_21), (0, .ref h_m), (1, .ref h_t), (2, .int place), (3, .int set), (11, .int v11_15)]) hx hb d_Mi_expand_103 hl (by decide) rfl (fun ls hl => ?_)
          exact J_105 _ _ _ _ h _ _ hP hD hS _ (lv_sub hl [6, 7, 8, 9, 3, 2, 1, 0, 10] rfl)
theorem d_Mi_takeRow_0 : decode prog_2_method_3_code 0 = .ok (.iconst 0, 1) := by decide +kernel
theorem d_Mi_takeRow_1 : decode prog_2_method_3_code 1 = .ok (.istore 5, 2) := by decide +kernel
theorem d_Mi_takeRow_3 : decode prog_2_method_3_code 3 = .ok (.aload_n 3, 1) := by decide +kernel
theorem d_Mi_takeRow_4 : decode prog_2_method_3_code 4 = .ok (.getfield 21, 3) := by decide +kernel
theorem d_Mi_takeRow_7 : decode prog_2_method_3_code 7 = .ok (.iload 4, 2) := by decide +kernel
theorem d_Mi_takeRow_9 : decode prog_2_method_3_code 9 = .ok (.iaload, 1) := by decide +kernel
theorem d_Mi_takeRow_10 : decode prog_2_method_3_code 10 = .ok (.istore 6, 2) := by decide +kernel
theorem d_Mi_takeRow_12 : decode prog_2_method_3_code 12 = .ok (.iload 6, 2) := by decide +kernel
theorem d_Mi_takeRow_14 : decode prog_2_method_3_code 14 = .ok (.aload_n 3, 1) := by decide +kernel
theorem d_Mi_takeRow_15 : decode prog_2_method_3_code 15 = .ok (.getfield 21, 3) := by decide +kernel
theorem d_Mi_takeRow_18 : decode prog_2_method_3_code 18 = .ok (.iload 4, 2) := by decide +kernel
theorem d_Mi_takeRow_20 : decode prog_2_method_3_code 20 = .ok (.iconst 1, 1) := by decide +kernel
theorem d_Mi_takeRow_21 : decode prog_2_method_3_code 21 = .ok (.iadd, 1) := by decide +kernel
theorem d_Mi_takeRow_22 : decode prog_2_method_3_code 22 = .ok (.iaload, 1) := by decide +kernel
theorem d_Mi_takeRow_23 : decode prog_2_method_3_code 23 = .ok (.if_icmp .ge 41, 3) := by decide +kernel
theorem d_Mi_takeRow_26 : decode prog_2_method_3_code 26 = .ok (.aload_n 3, 1) := by decide +kernel
theorem d_Mi_takeRow_27 : decode prog_2_method_3_code 27 = .ok (.getfield 27, 3) := by decide +kernel
theorem d_Mi_takeRow_30 : decode prog_2_method_3_code 30 = .ok (.iload 6, 2) := by decide +kernel
theorem d_Mi_takeRow_32 : decode prog_2_method_3_code 32 = .ok (.iaload, 1) := by decide +kernel
theorem d_Mi_takeRow_33 : decode prog_2_method_3_code 33 = .ok (.istore 7, 2) := by decide +kernel
theorem d_Mi_takeRow_35 : decode prog_2_method_3_code 35 = .ok (.aload_n 0, 1) := by decide +kernel
theorem d_Mi_takeRow_36 : decode prog_2_method_3_code 36 = .ok (.aload_n 1, 1) := by decide +kernel
theorem d_Mi_takeRow_37 : decode prog_2_method_3_code 37 = .ok (.iload_n 2, 1) := by decide +kernel
theorem d_Mi_takeRow_38 : decode prog_2_method_3_code 38 = .ok (.bipush 12, 2) := by decide +kernel
theorem d_Mi_takeRow_40 : decode prog_2_method_3_code 40 = .ok (.imul, 1) := by decide +kernel
theorem d_Mi_takeRow_41 : decode prog_2_method_3_code 41 = .ok (.iload 7, 2) := by decide +kernel
theorem d_Mi_takeRow_43 : decode prog_2_method_3_code 43 = .ok (.invokevirtual 30, 3) := by decide +kernel
theorem d_Mi_takeRow_46 : decode prog_2_method_3_code 46 = .ok (.aload_n 0, 1) := by decide +kernel
theorem d_Mi_takeRow_47 : decode prog_2_method_3_code 47 = .ok (.iload 7, 2) := by decide +kernel
theorem d_Mi_takeRow_49 : decode prog_2_method_3_code 49 = .ok (.invokevirtual 34, 3) := by decide +kernel
theorem d_Mi_takeRow_52 : decode prog_2_method_3_code 52 = .ok (.ifCond .eq 6, 3) := by decide +kernel
theorem d_Mi_takeRow_55 : decode prog_2_method_3_code 55 = .ok (.iconst 1, 1) := by decide +kernel
theorem d_Mi_takeRow_56 : decode prog_2_method_3_code 56 = .ok (.istore 5, 2) := by decide +kernel
theorem d_Mi_takeRow_58 : decode prog_2_method_3_code 58 = .ok (.iinc 6 1, 3) := by decide +kernel
theorem d_Mi_takeRow_61 : decode prog_2_method_3_code 61 = .ok (.goto (-49), 3) := by decide +kernel
theorem d_Mi_takeRow_64 : decode prog_2_method_3_code 64 = .ok (.iload 5, 2) := by decide +kernel
theorem d_Mi_takeRow_66 : decode prog_2_method_3_code 66 = .ok (.ireturn, 1) := by decide +kernel
def f_M_takeRow (m_low_n : Nat) (m_low : Nat → Int64) (m_middle_n : Nat) (m_middle : Nat → Int64) (m_high_n : Nat) (m_high : Nat → Int64) (t_field : Int32) (t_columnCount : Int32) (t_numbers_n : Nat) (t_numbers : Nat → Int32) (o_sets_n : Nat) (o_sets : Nat → Int32) (o_starts_n : Nat) (o_starts : Nat → Int32) (row : Int32) (size : Int32) : Option (Int32 × (Nat → Int64) × (Nat → Int64) × (Nat → Int64)) :=
  ck_in size o_starts_n <| ck_nm (o_starts size.toNatClampNeg) <| fun x_2 => lo5 (fun k_12 (v6_3 : Int32) (v5_4 : Int32) (w_5 : Nat → Int64) (w_6 : Nat → Int64) (w_7 : Nat → Int64) => ck_in (size + 1) o_starts_n <| ck_if ((o_starts (size + 1).toNatClampNeg) ≤ v6_3) (ck_z v5_4 <| some (v5_4, w_5, w_6, w_7)) (ck_in v6_3 o_sets_n <| ck_nm (o_sets v6_3.toNatClampNeg) <| fun x_12 => ck_b3 (f_M_expand m_low_n w_5 m_middle_n w_6 m_high_n w_7 t_field t_columnCount t_numbers_n t_numbers (row * 12) x_12) <| fun u_13 u_14 u_15 => ck_b1 (f_M_signOf m_low_n u_13 m_middle_n u_14 m_high_n u_15 x_12) <| fun r_17 => ck_jn (fun (v5_19 : Int32) => ck_nm (v6_3 + 1) <| fun x_20 => k_12 x_20 v5_19 u_13 u_14 u_15) <| fun k_58 => ck_if (r_17 = 0) (k_58 v5_4) (k_58 1))) ck_F x_2 0 m_low m_middle m_high
set_option maxHeartbeats 4000000 in
set_option maxRecDepth 100000 in
theorem c_M_takeRow (l : Launch) (dC : Nat → ClassId) (dI : Nat → Nat → Nat) (cI cJ cB cZ cT cN : ClassId) (sz : Nat) (h_m : Nat) (h_t : Nat) (h_o : Nat) (h_m_low : Nat) (h_m_middle : Nat) (h_m_high : Nat) (h_t_numbers : Nat) (h_t_study : Nat) (h_o_sets : Nat) (h_o_starts : Nat) (h_o_nexts : Nat) (m_low_n : Nat) (m_low : Nat → Int64) (m_middle_n : Nat) (m_middle : Nat → Int64) (m_high_n : Nat) (m_high : Nat → Int64) (t_field : Int32) (t_rowCount : Int32) (t_columnCount : Int32) (t_studied : Int32) (t_numbers_n : Nat) (t_numbers : Nat → Int32) (o_columnCount : Int32) (o_sets_n : Nat) (o_sets : Nat → Int32) (o_starts_n : Nat) (o_starts : Nat → Int32) (row : Int32) (size : Int32) (r : Int32 × (Nat → Int64) × (Nat → Int64) × (Nat → Int64)) (h : f_M_takeRow m_low_n m_low m_middle_n m_middle m_high_n m_high t_field t_columnCount t_numbers_n t_numbers o_sets_n o_sets o_starts_n o_starts row size = some r) : Met l y_Mi_takeRow w_Mi_takeRow ({ frames := 2, cells := 0, slots := 0, locals := 59 } : Room) (va_Pc [.ref h_m, .ref h_t, .int row, .ref h_o, .int size] (fun U => U.heap.size = sz ∧ va_P (dC, dI) cl_all [(h_m, .inr (0, [.ref h_m_low, .ref h_m_middle, .ref h_m_high])), (h_m_low, .inl (cJ, m_low_n, .inr (.inl m_low))), (h_m_middle, .inl (cJ, m_middle_n, .inr (.inl m_middle))), (h_m_high, .inl (cJ, m_high_n, .inr (.inl m_high))), (h_t, .inr (3, [.int t_field, .int t_rowCount, .int t_columnCount, .ref h_t_numbers, .int t_studied, .ref h_t_study])), (h_t_numbers, .inl (cI, t_numbers_n, .inl t_numbers)), (h_o, .inr (1, [.int o_columnCount, .ref h_o_sets, .ref h_o_starts, .ref h_o_nexts])), (h_o_sets, .inl (cI, o_sets_n, .inl o_sets)), (h_o_starts, .inl (cI, o_starts_n, .inl o_starts))] U.heap ∧ va_K (dC, dI) cl_all [(cI, .int), (cJ, .long), (cB, .byte), (cZ, .boolean), (cT, .object "BasisWalk$Table"), (cN, .object "BasisWalkModel$Num")] U ∧ NW U ∧ va_D (fun _ => True) [(h_m, .inr (0, [.ref h_m_low, .ref h_m_middle, .ref h_m_high])), (h_m_low, .inl (cJ, m_low_n, .inr (.inl m_low))), (h_m_middle, .inl (cJ, m_middle_n, .inr (.inl m_middle))), (h_m_high, .inl (cJ, m_high_n, .inr (.inl m_high))), (h_t, .inr (3, [.int t_field, .int t_rowCount, .int t_columnCount, .ref h_t_numbers, .int t_studied, .ref h_t_study])), (h_t_numbers, .inl (cI, t_numbers_n, .inl t_numbers)), (h_o, .inr (1, [.int o_columnCount, .ref h_o_sets, .ref h_o_starts, .ref h_o_nexts])), (h_o_sets, .inl (cI, o_sets_n, .inl o_sets)), (h_o_starts, .inl (cI, o_starts_n, .inl o_starts))])) (va_Qi (fun (v : Int32) (u : (Nat → Int64) × (Nat → Int64) × (Nat → Int64)) => (v, u) = r) (fun (u : (Nat → Int64) × (Nat → Int64) × (Nat → Int64)) (t : State) => va_P (dC, dI) cl_all [(h_m, .inr (0, [.ref h_m_low, .ref h_m_middle, .ref h_m_high])), (h_m_low, .inl (cJ, m_low_n, .inr (.inl u.1))), (h_m_middle, .inl (cJ, m_middle_n, .inr (.inl u.2.1))), (h_m_high, .inl (cJ, m_high_n, .inr (.inl u.2.2))), (h_t, .inr (3, [.int t_field, .int t_rowCount, .int t_columnCount, .ref h_t_numbers, .int t_studied, .ref h_t_study])), (h_t_numbers, .inl (cI, t_numbers_n, .inl t_numbers)), (h_o, .inr (1, [.int o_columnCount, .ref h_o_sets, .ref h_o_starts, .ref h_o_nexts])), (h_o_sets, .inl (cI, o_sets_n, .inl o_sets)), (h_o_starts, .inl (cI, o_starts_n, .inl o_starts))] t.heap ∧ va_K (dC, dI) cl_all [(cI, .int), (cJ, .long), (cB, .byte), (cZ, .boolean), (cT, .object "BasisWalk$Table"), (cN, .object "BasisWalkModel$Num")] t ∧ va_D (va_A [(h_m, .inr (0, [.ref h_m_low, .ref h_m_middle, .ref h_m_high])), (h_m_low, .inl (cJ, m_low_n, .inr (.inl m_low))), (h_m_middle, .inl (cJ, m_middle_n, .inr (.inl m_middle))), (h_m_high, .inl (cJ, m_high_n, .inr (.inl m_high))), (h_t, .inr (3, [.int t_field, .int t_rowCount, .int t_columnCount, .ref h_t_numbers, .int t_studied, .ref h_t_study])), (h_t_numbers, .inl (cI, t_numbers_n, .inl t_numbers)), (h_o, .inr (1, [.int o_columnCount, .ref h_o_sets, .ref h_o_starts, .ref h_o_nexts])), (h_o_sets, .inl (cI, o_sets_n, .inl o_sets)), (h_o_starts, .inl (cI, o_starts_n, .inl o_starts))] sz) [(h_m, .inr (0, [.ref h_m_low, .ref h_m_middle, .ref h_m_high])), (h_m_low, .inl (cJ, m_low_n, .inr (.inl u.1))), (h_m_middle, .inl (cJ, m_middle_n, .inr (.inl u.2.1))), (h_m_high, .inl (cJ, m_high_n, .inr (.inl u.2.2))), (h_t, .inr (3, [.int t_field, .int t_rowCount, .int t_columnCount, .ref h_t_numbers, .int t_studied, .ref h_t_study])), (h_t_numbers, .inl (cI, t_numbers_n, .inl t_numbers)), (h_o, .inr (1, [.int o_columnCount, .ref h_o_sets, .ref h_o_starts, .ref h_o_nexts])), (h_o_sets, .inl (cI, o_sets_n, .inl o_sets)), (h_o_starts, .inl (cI, o_starts_n, .inl o_starts))]) (va_A [(h_m, .inr (0, [.ref h_m_low, .ref h_m_middle, .ref h_m_high])), (h_m_low, .inl (cJ, m_low_n, .inr (.inl m_low))), (h_m_middle, .inl (cJ, m_middle_n, .inr (.inl m_middle))), (h_m_high, .inl (cJ, m_high_n, .inr (.inl m_high))), (h_t, .inr (3, [.int t_field, .int t_rowCount, .int t_columnCount, .ref h_t_numbers, .int t_studied, .ref h_t_study])), (h_t_numbers, .inl (cI, t_numbers_n, .inl t_numbers)), (h_o, .inr (1, [.int o_columnCount, .ref h_o_sets, .ref h_o_starts, .ref h_o_nexts])), (h_o_sets, .inl (cI, o_sets_n, .inl o_sets)), (h_o_starts, .inl (cI, o_starts_n, .inl o_starts))] sz)) 0 0 (va_A [(h_m, .inr (0, [.ref h_m_low, .ref h_m_middle, .ref h_m_high])), (h_m_low, .inl (cJ, m_low_n, .inr (.inl m_low))), (h_m_middle, .inl (cJ, m_middle_n, .inr (.inl m_middle))), (h_m_high, .inl (cJ, m_high_n, .inr (.inl m_high))), (h_t, .inr (3, [.int t_field, .int t_rowCount, .int t_columnCount, .ref h_t_numbers, .int t_studied, .ref h_t_study])), (h_t_numbers, .inl (cI, t_numbers_n, .inl t_numbers)), (h_o, .inr (1, [.int o_columnCount, .ref h_o_sets, .ref h_o_starts, .ref h_o_nexts])), (h_o_sets, .inl (cI, o_sets_n, .inl o_sets)), (h_o_starts, .inl (cI, o_starts_n, .inl o_starts))] sz) := by
  refine Met.ofW (cc := prog_2_method_3_code) (maxL := 8) (ret := (Option.some Jvm.ClassFile.FieldType.boolean)) (by decide) rfl ?_
  intro p e s m args below meth c s₁ B hml hv
  obtain ⟨hAR, hsz, hP, hK, hN, hD0⟩ := hv
  have hx := B.exec
  have hb := B.bytes
  have hr := B.returns
  have hts := atoms_spec (ws := w_Mi_takeRow) B.pre
  have hown : s.vm.findClass "BasisWalk$Minors" = some m.cls := findClass_of_methodNamed B.named
  have hlocks := B.notSynchronized
  clear B
  subst hsz
  have hD := hD0.self (sz := s.heap.size)
  generalize hAe : va_A [(h_m, .inr (0, [.ref h_m_low, .ref h_m_middle, .ref h_m_high])), (h_m_low, .inl (cJ, m_low_n, .inr (.inl m_low))), (h_m_middle, .inl (cJ, m_middle_n, .inr (.inl m_middle))), (h_m_high, .inl (cJ, m_high_n, .inr (.inl m_high))), (h_t, .inr (3, [.int t_field, .int t_rowCount, .int t_columnCount, .ref h_t_numbers, .int t_studied, .ref h_t_study])), (h_t_numbers, .inl (cI, t_numbers_n, .inl t_numbers)), (h_o, .inr (1, [.int o_columnCount, .ref h_o_sets, .ref h_o_starts, .ref h_o_nexts])), (h_o_sets, .inl (cI, o_sets_n, .inl o_sets)), (h_o_starts, .inl (cI, o_starts_n, .inl o_starts))] s.heap.size = A at hD ⊢
  have hA : ∀ q : Nat, s.heap.size ≤ q → A q := fun q h => by rw [← hAe]; exact Or.inr h
  clear hAe hD0
  have hS : va_S A s.heap s.heap [] := va_S.rf
  have hl := lv_entry ([.ref h_m, .ref h_t, .int row, .ref h_o, .int size]) (n := 8) (Nat.le_of_ble_eq_true rfl)
  subst hAR
  rw [lg_entry_eq]
  generalize (lg_sl ([.ref h_m, .ref h_t, .int row, .ref h_o, .int size]) ++ List.replicate (8 - (lg_sl ([.ref h_m, .ref h_t, .int row, .ref h_o, .int size])).length) Slot.unset).toArray = ls at hl ⊢
  have hl : lv_has ls 8 [(0, .ref h_m), (1, .ref h_t), (2, .int row), (3, .ref h_o), (4, .int size)] := hl
  change W p l e ({ frames := 2, cells := 0, slots := 0, locals := 59 } : Room) s m _ below meth c s.heap [] 0 0 _ _
  generalize hARe : ([.ref h_m, .ref h_t, .int row, .ref h_o, .int size] : List Value).toArray = AR at hts ⊢
  clear hARe
  generalize hQ : MQ below _ AR s 0 0 A = QQ
  have fl0 := va_Nw.use (A := AR) rfl (hN _ tn_97)
  have iw1 := (fun w hw => List.mem_cons_of_mem _ (in_Or w hw) : ∀ w ∈ u_ws "BasisWalk$Order" T_Or 4, w ∈ w_Mi_takeRow)
  have fl2 := va_Nw.use (A := AR) rfl (hN _ tn_94)
  obtain ⟨H, hHe⟩ : ∃ H : Heap, H = s.heap := ⟨_, rfl⟩
  rw [← hHe] at hP ⊢
  replace hS : va_S A s.heap H [] := by rw [hHe]; exact va_S.rf
  clear hHe
  unfold f_M_takeRow at h
  refine lv_iconst (v := 0) hx hb d_Mi_takeRow_0 (by decide) ?_
  refine lv_istore (lv' := [(5, .int 0), (0, .ref h_m), (1, .ref h_t), (2, .int row), (3, .ref h_o), (4, .int size)]) hx hb d_Mi_takeRow_1 hl (by decide) rfl (fun ls hl => ?_)
  refine lv_aload_n hx hb d_Mi_takeRow_3 rfl (lv_at hl 4 rfl) ?_
  refine va_getN (D := (dC, dI)) (ci := 1) (v := .ref h_o_starts) (C := "BasisWalk$Order") (T := T_Or) (N := 4) hx hb hts iw1 hown hK hP 6 rfl rfl 2 (by decide) fl0 (fun _ h9 => h9) rfl d_Mi_takeRow_4 ?_
  refine lv_iload hx hb d_Mi_takeRow_7 (lv_at hl 5 rfl) ?_
  obtain ⟨g_1, h⟩ := ck_in_s h
  refine va_iald hx hb hK hP 8 0 rfl rfl g_1 d_Mi_takeRow_9 ?_
  refine lv_topi (fun x_2 ex_2 => ?_)
  replace h := ck_nm_s h ex_2
  refine lv_istore (lv' := [(6, .int x_2), (5, .int 0), (0, .ref h_m), (1, .ref h_t), (2, .int row), (3, .ref h_o), (4, .int size)]) hx hb d_Mi_takeRow_10 hl (by decide) rfl (fun ls hl => ?_)
  refine lo5_W (r := r) (fun (v6_3 : Int32) (v5_4 : Int32) (w_5 : Nat → Int64) (w_6 : Nat → Int64) (w_7 : Nat → Int64) => ∀ (H : Heap) (locs : List Loc), va_P (dC, dI) cl_all [(h_m, .inr (0, [.ref h_m_low, .ref h_m_middle, .ref h_m_high])), (h_m_low, .inl (cJ, m_low_n, .inr (.inl w_5))), (h_m_middle, .inl (cJ, m_middle_n, .inr (.inl w_6))), (h_m_high, .inl (cJ, m_high_n, .inr (.inl w_7))), (h_t, .inr (3, [.int t_field, .int t_rowCount, .int t_columnCount, .ref h_t_numbers, .int t_studied, .ref h_t_study])), (h_t_numbers, .inl (cI, t_numbers_n, .inl t_numbers)), (h_o, .inr (1, [.int o_columnCount, .ref h_o_sets, .ref h_o_starts, .ref h_o_nexts])), (h_o_sets, .inl (cI, o_sets_n, .inl o_sets)), (h_o_starts, .inl (cI, o_starts_n, .inl o_starts))] H → va_D A [(h_m, .inr (0, [.ref h_m_low, .ref h_m_middle, .ref h_m_high])), (h_m_low, .inl (cJ, m_low_n, .inr (.inl w_5))), (h_m_middle, .inl (cJ, m_middle_n, .inr (.inl w_6))), (h_m_high, .inl (cJ, m_high_n, .inr (.inl w_7))), (h_t, .inr (3, [.int t_field, .int t_rowCount, .int t_columnCount, .ref h_t_numbers, .int t_studied, .ref h_t_study])), (h_t_numbers, .inl (cI, t_numbers_n, .inl t_numbers)), (h_o, .inr (1, [.int o_columnCount, .ref h_o_sets, .ref h_o_starts, .ref h_o_nexts])), (h_o_sets, .inl (cI, o_sets_n, .inl o_sets)), (h_o_starts, .inl (cI, o_starts_n, .inl o_starts))] → va_S A s.heap H locs → ∀ ls : Array Slot, lv_has ls 8 [(0, .ref h_m), (1, .ref h_t), (2, .int row), (3, .ref h_o), (4, .int size), (5, .int v5_4), (6, .int v6_3)] → W p l e ({ frames := 2, cells := 0, slots := 0, locals := 59 } : Room) s m AR below meth c H locs 0 0 QQ (F0 m 12 ls [])) ?_ _ _ _ _ _ _ h _ _ hP hD hS _ (lv_sub hl [2, 3, 4, 5, 6, 1, 0] rfl)
  intro k_12 v6_3 v5_4 w_5 w_6 w_7 J_12 h H locs hP hD hS ls hl
  refine lv_iload hx hb d_Mi_takeRow_12 (lv_at hl 6 rfl) ?_
  refine lv_aload_n hx hb d_Mi_takeRow_14 rfl (lv_at hl 3 rfl) ?_
  refine va_getN (D := (dC, dI)) (ci := 1) (v := .ref h_o_starts) (C := "BasisWalk$Order") (T := T_Or) (N := 4) hx hb hts iw1 hown hK hP 6 rfl rfl 2 (by decide) fl0 (fun _ h9 => h9) rfl d_Mi_takeRow_15 ?_
  refine lv_iload hx hb d_Mi_takeRow_18 (lv_at hl 4 rfl) ?_
  refine lv_iconst (v := 1) hx hb d_Mi_takeRow_20 (by decide) ?_
  refine lv_iadd hx hb d_Mi_takeRow_21 ?_
  obtain ⟨g_8, h⟩ := ck_in_s h
  refine va_iald hx hb hK hP 8 0 rfl rfl g_8 d_Mi_takeRow_22 ?_
  refine lv_icmp_ge (tgt := 64) hx hb d_Mi_takeRow_23 (by decide) (fun c_9 => ?_) (fun c_9 => ?_)
  · replace h := ck_if_t h c_9
    refine lv_iload hx hb d_Mi_takeRow_64 (lv_at hl 5 rfl) ?_
    obtain ⟨g_10, h⟩ := ck_z_s h
    obtain rfl := Option.some.inj h
    subst hQ
    exact W.zret (ty := .boolean) (v := v5_4) hx hb hr g_10 (fun t ht hW => ⟨⟨v5_4, (w_5, w_6, w_7), rfl, rfl, by rw [ht]; exact hP, va_K.moved hW.alike hK, hD⟩, hS.F ht⟩) hS.2.2 d_Mi_takeRow_66
  · replace h := ck_if_f h c_9
    refine lv_aload_n hx hb d_Mi_takeRow_26 rfl (lv_at hl 3 rfl) ?_
    refine va_getN (D := (dC, dI)) (ci := 1) (v := .ref h_o_sets) (C := "BasisWalk$Order") (T := T_Or) (N := 4) hx hb hts iw1 hown hK hP 6 rfl rfl 1 (by decide) fl2 (fun _ h9 => h9) rfl d_Mi_takeRow_27 ?_
    refine lv_iload hx hb d_Mi_takeRow_30 (lv_at hl 6 rfl) ?_
    obtain ⟨g_11, h⟩ := ck_in_s h
    refine va_iald hx hb hK hP 7 0 rfl rfl g_11 d_Mi_takeRow_32 ?_
    refine lv_topi (fun x_12 ex_12 => ?_)
    replace h := ck_nm_s h ex_12
    refine lv_istore (lv' := [(7, .int x_12), (0, .ref h_m), (1, .ref h_t), (2, .int row), (3, .ref h_o), (4, .int size), (5, .int v5_4), (6, .int v6_3)]) hx hb d_Mi_takeRow_33 hl (by decide) rfl (fun ls hl => ?_)
    refine lv_aload_n hx hb d_Mi_takeRow_35 rfl (lv_at hl 1 rfl) ?_
    refine lv_aload_n hx hb d_Mi_takeRow_36 rfl (lv_at hl 2 rfl) ?_
    refine lv_iload_n hx hb d_Mi_takeRow_37 rfl (lv_at hl 3 rfl) ?_
    refine lv_bipush (v := 12) hx hb d_Mi_takeRow_38 (by decide) ?_
    refine lv_imul hx hb d_Mi_takeRow_40 ?_
    refine lv_iload hx hb d_Mi_takeRow_41 (lv_at hl 0 rfl) ?_
    obtain ⟨u_13, u_14, u_15, hc_16, h⟩ := ck_b3_s h
    have hPc := hP.sub (ws' := [(h_m, .inr (0, [.ref h_m_low, .ref h_m_middle, .ref h_m_high])), (h_m_low, .inl (cJ, m_low_n, .inr (.inl w_5))), (h_m_middle, .inl (cJ, m_middle_n, .inr (.inl w_6))), (h_m_high, .inl (cJ, m_high_n, .inr (.inl w_7))), (h_t, .inr (3, [.int t_field, .int t_rowCount, .int t_columnCount, .ref h_t_numbers, .int t_studied, .ref h_t_study])), (h_t_numbers, .inl (cI, t_numbers_n, .inl t_numbers))]) [0, 1, 2, 3, 4, 5] rfl
    have hDc := hD.sub (ws' := [(h_m, .inr (0, [.ref h_m_low, .ref h_m_middle, .ref h_m_high])), (h_m_low, .inl (cJ, m_low_n, .inr (.inl w_5))), (h_m_middle, .inl (cJ, m_middle_n, .inr (.inl w_6))), (h_m_high, .inl (cJ, m_high_n, .inr (.inl w_7))), (h_t, .inr (3, [.int t_field, .int t_rowCount, .int t_columnCount, .ref h_t_numbers, .int t_studied, .ref h_t_study])), (h_t_numbers, .inl (cI, t_numbers_n, .inl t_numbers))]) [0, 1, 2, 3, 4, 5] (by decide) rfl
    have hFc := va_free (wc := [(h_m, .inr (0, [.ref h_m_low, .ref h_m_middle, .ref h_m_high])), (h_m_low, .inl (cJ, m_low_n, .inr (.inl w_5))), (h_m_middle, .inl (cJ, m_middle_n, .inr (.inl w_6))), (h_m_high, .inl (cJ, m_high_n, .inr (.inl w_7))), (h_t, .inr (3, [.int t_field, .int t_rowCount, .int t_columnCount, .ref h_t_numbers, .int t_studied, .ref h_t_study])), (h_t_numbers, .inl (cI, t_numbers_n, .inl t_numbers))]) hD hS hA [0, 1, 2, 3, 4, 5] rfl
    refine va_callv (va_runV (As := [.ref h_t, .int (row * 12), .int x_12]) (rest := []) ⟨hx, hb, hml, hown, hts⟩ (c_M_expand l dC dI cI cJ cB cZ cT cN H.size h_m h_t h_m_low h_m_middle h_m_high h_t_numbers h_t_study m_low_n w_5 m_middle_n w_6 m_high_n w_7 t_field t_rowCount t_columnCount t_studied t_numbers_n t_numbers (row * 12) x_12 _ hc_16) (cwV 3 hts (tb_V tw_226 tw_228 tp_5 tw_5 tw_229) rfl rfl rfl (by decide +kernel) ⟨Nat.le_of_ble_eq_true rfl, Nat.le_of_ble_eq_true rfl⟩) ⟨fun a U g mk q => by obtain ⟨q0, q1, qP, qK, qN, qD⟩ := q; exact ⟨q0, q1, qP, va_K.moved (u := U) (U := U.calling g mk a) (Vm.Alike.refl U.vm) qK, qN.same rfl, qD⟩, va_recv hK hPc (ci := 0) (q0 := 0) rfl rfl, fun U hU hW => ⟨rfl, by rw [hU], by rw [hU]; exact hPc, va_K.moved hW.alike hK, hN.warm hW, hDc.weaken (fun _ _ _ _ => trivial)⟩⟩ rfl rfl hl.1 rfl (lv_room (Nat.le_of_ble_eq_true rfl)) d_Mi_takeRow_43 ⟨Nat.zero_le _, Nat.zero_le _⟩) hS (fun q _ h => hFc q h) hFc (fun u t H1 locs ht hvm hw hB hz1 hk1 hS => ?_)
    replace hw := hw.symm
    subst hw
    obtain ⟨hP1, -, hD1⟩ := hB
    rw [ht] at hP1
    obtain ⟨hP, hD⟩ := va_join (wr := [(h_o, .inr (1, [.int o_columnCount, .ref h_o_sets, .ref h_o_starts, .ref h_o_nexts])), (h_o_sets, .inl (cI, o_sets_n, .inl o_sets)), (h_o_starts, .inl (cI, o_starts_n, .inl o_starts))]) (w1 := [(h_m, .inr (0, [.ref h_m_low, .ref h_m_middle, .ref h_m_high])), (h_m_low, .inl (cJ, m_low_n, .inr (.inl u_13))), (h_m_middle, .inl (cJ, m_middle_n, .inr (.inl u_14))), (h_m_high, .inl (cJ, m_high_n, .inr (.inl u_15))), (h_t, .inr (3, [.int t_field, .int t_rowCount, .int t_columnCount, .ref h_t_numbers, .int t_studied, .ref h_t_study])), (h_t_numbers, .inl (cI, t_numbers_n, .inl t_numbers))]) hP hD [0, 1, 2, 3, 4, 5] [6, 7, 8] rfl rfl (by decide) (by decide) hk1 hFc hP1 hD1
    generalize H1 = H at hP hS ⊢
    have hP : va_P (dC, dI) cl_all [(h_m, .inr (0, [.ref h_m_low, .ref h_m_middle, .ref h_m_high])), (h_m_low, .inl (cJ, m_low_n, .inr (.inl u_13))), (h_m_middle, .inl (cJ, m_middle_n, .inr (.inl u_14))), (h_m_high, .inl (cJ, m_high_n, .inr (.inl u_15))), (h_t, .inr (3, [.int t_field, .int t_rowCount, .int t_columnCount, .ref h_t_numbers, .int t_studied, .ref h_t_study])), (h_t_numbers, .inl (cI, t_numbers_n, .inl t_numbers)), (h_o, .inr (1, [.int o_columnCount, .ref h_o_sets, .ref h_o_starts, .ref h_o_nexts])), (h_o_sets, .inl (cI, o_sets_n, .inl o_sets)), (h_o_starts, .inl (cI, o_starts_n, .inl o_starts))] H := hP.sub [3, 4, 5, 6, 7, 8, 0, 1, 2] rfl
    have hD : va_D A [(h_m, .inr (0, [.ref h_m_low, .ref h_m_middle, .ref h_m_high])), (h_m_low, .inl (cJ, m_low_n, .inr (.inl u_13))), (h_m_middle, .inl (cJ, m_middle_n, .inr (.inl u_14))), (h_m_high, .inl (cJ, m_high_n, .inr (.inl u_15))), (h_t, .inr (3, [.int t_field, .int t_rowCount, .int t_columnCount, .ref h_t_numbers, .int t_studied, .ref h_t_study])), (h_t_numbers, .inl (cI, t_numbers_n, .inl t_numbers)), (h_o, .inr (1, [.int o_columnCount, .ref h_o_sets, .ref h_o_starts, .ref h_o_nexts])), (h_o_sets, .inl (cI, o_sets_n, .inl o_sets)), (h_o_starts, .inl (cI, o_starts_n, .inl o_starts))] := hD.sub [3, 4, 5, 6, 7, 8, 0, 1, 2] (by decide) rfl
    refine lv_aload_n hx hb d_Mi_takeRow_46 rfl (lv_at hl 1 rfl) ?_
    refine lv_iload hx hb d_Mi_takeRow_47 (lv_at hl 0 rfl) ?_
    obtain ⟨r_17, hc_18, h⟩ := ck_b1_s h
    have hPc := hP.sub (ws' := [(h_m, .inr (0, [.ref h_m_low, .ref h_m_middle, .ref h_m_high])), (h_m_low, .inl (cJ, m_low_n, .inr (.inl u_13))), (h_m_middle, .inl (cJ, m_middle_n, .inr (.inl u_14))), (h_m_high, .inl (cJ, m_high_n, .inr (.inl u_15)))]) [0, 1, 2, 3] rfl
    have hDc := hD.sub (ws' := [(h_m, .inr (0, [.ref h_m_low, .ref h_m_middle, .ref h_m_high])), (h_m_low, .inl (cJ, m_low_n, .inr (.inl u_13))), (h_m_middle, .inl (cJ, m_middle_n, .inr (.inl u_14))), (h_m_high, .inl (cJ, m_high_n, .inr (.inl u_15)))]) [0, 1, 2, 3] (by decide) rfl
    have hFc := va_free (wc := [(h_m, .inr (0, [.ref h_m_low, .ref h_m_middle, .ref h_m_high])), (h_m_low, .inl (cJ, m_low_n, .inr (.inl u_13))), (h_m_middle, .inl (cJ, m_middle_n, .inr (.inl u_14))), (h_m_high, .inl (cJ, m_high_n, .inr (.inl u_15)))]) hD hS hA [0, 1, 2, 3] rfl
    refine va_calli (va_runV (As := [.int x_12]) (rest := []) ⟨hx, hb, hml, hown, hts⟩ (c_M_signOf l dC dI cI cJ cB cZ cT cN H.size h_m h_m_low h_m_middle h_m_high m_low_n u_13 m_middle_n u_14 m_high_n u_15 x_12 _ hc_18) (cwV 1 hts (tb_V tw_234 tw_235 tw_236 tw_5 tw_237) rfl rfl rfl (by decide +kernel) ⟨Nat.le_of_ble_eq_true rfl, Nat.le_of_ble_eq_true rfl⟩) ⟨fun a U g mk q => by obtain ⟨q0, q1, qP, qK, qN, qD⟩ := q; exact ⟨q0, q1, qP, va_K.moved (u := U) (U := U.calling g mk a) (Vm.Alike.refl U.vm) qK, qN.same rfl, qD⟩, va_recv hK hPc (ci := 0) (q0 := 0) rfl rfl, fun U hU hW => ⟨rfl, by rw [hU], by rw [hU]; exact hPc, va_K.moved hW.alike hK, hN.warm hW, hDc.weaken (fun _ _ _ _ => trivial)⟩⟩ rfl rfl hl.1 rfl (lv_room (Nat.le_of_ble_eq_true rfl)) d_Mi_takeRow_49 ⟨Nat.zero_le _, Nat.zero_le _⟩) hS (fun q _ h => hFc q h) hFc (fun rr u t H1 locs ht hvm hw hB hz1 hk1 hS => ?_)
    replace hw := hw.symm
    subst hw
    obtain ⟨hP1, -, hD1⟩ := hB
    rw [ht] at hP1
    obtain ⟨hP, hD⟩ := va_join (wr := [(h_t, .inr (3, [.int t_field, .int t_rowCount, .int t_columnCount, .ref h_t_numbers, .int t_studied, .ref h_t_study])), (h_t_numbers, .inl (cI, t_numbers_n, .inl t_numbers)), (h_o, .inr (1, [.int o_columnCount, .ref h_o_sets, .ref h_o_starts, .ref h_o_nexts])), (h_o_sets, .inl (cI, o_sets_n, .inl o_sets)), (h_o_starts, .inl (cI, o_starts_n, .inl o_starts))]) (w1 := [(h_m, .inr (0, [.ref h_m_low, .ref h_m_middle, .ref h_m_high])), (h_m_low, .inl (cJ, m_low_n, .inr (.inl u_13))), (h_m_middle, .inl (cJ, m_middle_n, .inr (.inl u_14))), (h_m_high, .inl (cJ, m_high_n, .inr (.inl u_15)))]) hP hD [0, 1, 2, 3] [4, 5, 6, 7, 8] rfl rfl (by decide) (by decide) hk1 hFc hP1 hD1
    generalize H1 = H at hP hS ⊢
    have hP : va_P (dC, dI) cl_all [(h_m, .inr (0, [.ref h_m_low, .ref h_m_middle, .ref h_m_high])), (h_m_low, .inl (cJ, m_low_n, .inr (.inl u_13))), (h_m_middle, .inl (cJ, m_middle_n, .inr (.inl u_14))), (h_m_high, .inl (cJ, m_high_n, .inr (.inl u_15))), (h_t, .inr (3, [.int t_field, .int t_rowCount, .int t_columnCount, .ref h_t_numbers, .int t_studied, .ref h_t_study])), (h_t_numbers, .inl (cI, t_numbers_n, .inl t_numbers)), (h_o, .inr (1, [.int o_columnCount, .ref h_o_sets, .ref h_o_starts, .ref h_o_nexts])), (h_o_sets, .inl (cI, o_sets_n, .inl o_sets)), (h_o_starts, .inl (cI, o_starts_n, .inl o_starts))] H := hP.sub [5, 6, 7, 8, 0, 1, 2, 3, 4] rfl
    have hD : va_D A [(h_m, .inr (0, [.ref h_m_low, .ref h_m_middle, .ref h_m_high])), (h_m_low, .inl (cJ, m_low_n, .inr (.inl u_13))), (h_m_middle, .inl (cJ, m_middle_n, .inr (.inl u_14))), (h_m_high, .inl (cJ, m_high_n, .inr (.inl u_15))), (h_t, .inr (3, [.int t_field, .int t_rowCount, .int t_columnCount, .ref h_t_numbers, .int t_studied, .ref h_t_study])), (h_t_numbers, .inl (cI, t_numbers_n, .inl t_numbers)), (h_o, .inr (1, [.int o_columnCount, .ref h_o_sets, .ref h_o_starts, .ref h_o_nexts])), (h_o_sets, .inl (cI, o_sets_n, .inl o_sets)), (h_o_starts, .inl (cI, o_starts_n, .inl o_starts))] := hD.sub [5, 6, 7, 8, 0, 1, 2, 3, 4] (by decide) rfl
    refine ck_jn_W h (fun k' => ∀ (v5_19 : Int32), k' v5_19 = some r → ∀ (H : Heap) (locs : List Loc), va_P (dC, dI) cl_all [(h_m, .inr (0, [.ref h_m_low, .ref h_m_middle, .ref h_m_high])), (h_m_low, .inl (cJ, m_low_n, .inr (.inl u_13))), (h_m_middle, .inl (cJ, m_middle_n, .inr (.inl u_14))), (h_m_high, .inl (cJ, m_high_n, .inr (.inl u_15))), (h_t, .inr (3, [.int t_field, .int t_rowCount, .int t_columnCount, .ref h_t_numbers, .int t_studied, .ref h_t_study])), (h_t_numbers, .inl (cI, t_numbers_n, .inl t_numbers)), (h_o, .inr (1, [.int o_columnCount, .ref h_o_sets, .ref h_o_starts, .ref h_o_nexts])), (h_o_sets, .inl (cI, o_sets_n, .inl o_sets)), (h_o_starts, .inl (cI, o_starts_n, .inl o_starts))] H → va_D A [(h_m, .inr (0, [.ref h_m_low, .ref h_m_middle, .ref h_m_high])), (h_m_low, .inl (cJ, m_low_n, .inr (.inl u_13))), (h_m_middle, .inl (cJ, m_middle_n, .inr (.inl u_14))), (h_m_high, .inl (cJ, m_high_n, .inr (.inl u_15))), (h_t, .inr (3, [.int t_field, .int t_rowCount, .int t_columnCount, .ref h_t_numbers, .int t_studied, .ref h_t_study])), (h_t_numbers, .inl (cI, t_numbers_n, .inl t_numbers)), (h_o, .inr (1, [.int o_columnCount, .ref h_o_sets, .ref h_o_starts, .ref h_o_nexts])), (h_o_sets, .inl (cI, o_sets_n, .inl o_sets)), (h_o_starts, .inl (cI, o_starts_n, .inl o_starts))] → va_S A s.heap H locs → ∀ ls : Array Slot, lv_has ls 8 [(0, .ref h_m), (1, .ref h_t), (2, .int row), (3, .ref h_o), (4, .int size), (5, .int v5_19), (6, .int v6_3)] → W p l e ({ frames := 2, cells := 0, slots := 0, locals := 59 } : Room) s m AR below meth c H locs 0 0 QQ (F0 m 58 ls [])) ?_ ?_
    · intro v5_19 h H locs hP hD hS ls hl
      obtain ⟨x_20, ex_20⟩ : ∃ y : Int32, y = v6_3 + 1 := ⟨_, rfl⟩
      replace h := ck_nm_s h ex_20
      refine lv_iinc (v := x_20) (lv' := [(6, .int x_20), (0, .ref h_m), (1, .ref h_t), (2, .int row), (3, .ref h_o), (4, .int size), (5, .int v5_19)]) hx hb d_Mi_takeRow_58 hl (k := 6) rfl (by rw [ex_20]; rfl) (by decide) rfl (fun ls hl => ?_)
      refine lv_goto (tgt := 12) hx hb d_Mi_takeRow_61 (by decide) ?_
      exact J_12 _ _ _ _ _ h _ _ hP hD hS _ (lv_sub hl [1, 2, 3, 4, 5, 6, 0] rfl)
    · intro k_58 J_58 h
      refine lv_if_eq (tgt := 58) hx hb d_Mi_takeRow_52 (by decide) (fun c_21 => ?_) (fun c_21 => ?_)
      · replace h := ck_if_t h c_21
        exact J_58 _ h _ _ hP hD hS _ (lv_sub hl [1, 2, 3, 4, 5, 6, 7] rfl)
      · replace h := ck_if_f h c_21
        refine lv_iconst (v := 1) hx hb d_Mi_takeRow_55 (by decide) ?_
        refine lv_istore (lv' := [(5, .int 1), (7, .int x_12), (0, .ref h_m), (1, .ref h_t), (2, .int row), (3, .ref h_o), (4, .int size), (6, .int v6_3)]) hx hb d_Mi_takeRow_56 hl (by decide) rfl (fun ls hl => ?_)
        exact J_58 _ h _ _ hP hD hS _ (lv_sub hl [2, 3, 4, 5, 6, 0, 7] rfl)
end
section
theorem d_St_howMany_0 : decode prog_4_method_3_code 0 = .ok (.aload_n 0, 1) := by decide +kernel
theorem d_St_howMany_1 : decode prog_4_method_3_code 1 = .ok (.getfield 21, 3) := by decide +kernel
theorem d_St_howMany_4 : decode prog_4_method_3_code 4 = .ok (.iload_n 1, 1) := by decide +kernel
theorem d_St_howMany_5 : decode prog_4_method_3_code 5 = .ok (.iconst 1, 1) := by decide +kernel
theorem d_St_howMany_6 : decode prog_4_method_3_code 6 = .ok (.iadd, 1) := by decide +kernel
theorem d_St_howMany_7 : decode prog_4_method_3_code 7 = .ok (.iaload, 1) := by decide +kernel
theorem d_St_howMany_8 : decode prog_4_method_3_code 8 = .ok (.aload_n 0, 1) := by decide +kernel
theorem d_St_howMany_9 : decode prog_4_method_3_code 9 = .ok (.getfield 21, 3) := by decide +kernel
theorem d_St_howMany_12 : decode prog_4_method_3_code 12 = .ok (.iload_n 1, 1) := by decide +kernel
theorem d_St_howMany_13 : decode prog_4_method_3_code 13 = .ok (.iaload, 1) := by decide +kernel
theorem d_St_howMany_14 : decode prog_4_method_3_code 14 = .ok (.isub, 1) := by decide +kernel
theorem d_St_howMany_15 : decode prog_4_method_3_code 15 = .ok (.ireturn, 1) := by decide +kernel
def f_S_howMany (s_starts_n : Nat) (s_starts : Nat → Int32) (kind : Int32) : Option (Int32) :=
  ck_in (kind + 1) s_starts_n <| ck_in kind s_starts_n <| some ((s_starts (kind + 1).toNatClampNeg) - (s_starts kind.toNatClampNeg))
set_option maxHeartbeats 4000000 in
set_option maxRecDepth 100000 in
theorem c_S_howMany (l : Launch) (dC : Nat → ClassId) (dI : Nat → Nat → Nat) (cI cJ cB cZ cT cN : ClassId) (sz : Nat) (h_s : Nat) (h_s_ranks : Nat) (h_s_signs : Nat) (h_s_members : Nat) (h_s_starts : Nat) (h_s_defects : Nat) (s_columnCount : Int32) (s_fullRank : Int32) (s_starts_n : Nat) (s_starts : Nat → Int32) (kind : Int32) (r : Int32) (h : f_S_howMany s_starts_n s_starts kind = some r) : Met l y_St_howMany w_St_howMany ({ frames := 0, cells := 0, slots := 0, locals := 0 } : Room) (va_Pc [.ref h_s, .int kind] (fun U => U.heap.size = sz ∧ va_P (dC, dI) cl_all [(h_s, .inr (2, [.int s_columnCount, .int s_fullRank, .ref h_s_ranks, .ref h_s_signs, .ref h_s_members, .ref h_s_starts, .ref h_s_defects])), (h_s_starts, .inl (cI, s_starts_n, .inl s_starts))] U.heap ∧ va_K (dC, dI) cl_all [(cI, .int), (cJ, .long), (cB, .byte), (cZ, .boolean), (cT, .object "BasisWalk$Table"), (cN, .object "BasisWalkModel$Num")] U ∧ NW U ∧ va_D (fun _ => True) [(h_s, .inr (2, [.int s_columnCount, .int s_fullRank, .ref h_s_ranks, .ref h_s_signs, .ref h_s_members, .ref h_s_starts, .ref h_s_defects])), (h_s_starts, .inl (cI, s_starts_n, .inl s_starts))])) (va_Qi (fun (v : Int32) (_ : Unit) => v = r) (fun (u : Unit) (t : State) => va_P (dC, dI) cl_all [(h_s, .inr (2, [.int s_columnCount, .int s_fullRank, .ref h_s_ranks, .ref h_s_signs, .ref h_s_members, .ref h_s_starts, .ref h_s_defects])), (h_s_starts, .inl (cI, s_starts_n, .inl s_starts))] t.heap ∧ va_K (dC, dI) cl_all [(cI, .int), (cJ, .long), (cB, .byte), (cZ, .boolean), (cT, .object "BasisWalk$Table"), (cN, .object "BasisWalkModel$Num")] t ∧ va_D (va_A [(h_s, .inr (2, [.int s_columnCount, .int s_fullRank, .ref h_s_ranks, .ref h_s_signs, .ref h_s_members, .ref h_s_starts, .ref h_s_defects])), (h_s_starts, .inl (cI, s_starts_n, .inl s_starts))] sz) [(h_s, .inr (2, [.int s_columnCount, .int s_fullRank, .ref h_s_ranks, .ref h_s_signs, .ref h_s_members, .ref h_s_starts, .ref h_s_defects])), (h_s_starts, .inl (cI, s_starts_n, .inl s_starts))]) (va_A [(h_s, .inr (2, [.int s_columnCount, .int s_fullRank, .ref h_s_ranks, .ref h_s_signs, .ref h_s_members, .ref h_s_starts, .ref h_s_defects])), (h_s_starts, .inl (cI, s_starts_n, .inl s_starts))] sz)) 0 0 (va_A [(h_s, .inr (2, [.int s_columnCount, .int s_fullRank, .ref h_s_ranks, .ref h_s_signs, .ref h_s_members, .ref h_s_starts, .ref h_s_defects])), (h_s_starts, .inl (cI, s_starts_n, .inl s_starts))] sz) := by
  refine Met.ofW (cc := prog_4_method_3_code) (maxL := 2) (ret := (Option.some Jvm.ClassFile.FieldType.int)) (by decide) rfl ?_
  intro p e s m args below meth c s₁ B hml hv
  obtain ⟨hAR, hsz, hP, hK, hN, hD0⟩ := hv
  have hx := B.exec
  have hb := B.bytes
  have hr := B.returns
  have hts := atoms_spec (ws := w_St_howMany) B.pre
  have hown : s.vm.findClass "BasisWalk$Study" = some m.cls := findClass_of_methodNamed B.named
  have hlocks := B.notSynchronized
  clear B
  subst hsz
  have hD := hD0.self (sz := s.heap.size)
  generalize hAe : va_A [(h_s, .inr (2, [.int s_columnCount, .int s_fullRank, .ref h_s_ranks, .ref h_s_signs, .ref h_s_members, .ref h_s_starts, .ref h_s_defects])), (h_s_starts, .inl (cI, s_starts_n, .inl s_starts))] s.heap.size = A at hD ⊢
  have hA : ∀ q : Nat, s.heap.size ≤ q → A q := fun q h => by rw [← hAe]; exact Or.inr h
  clear hAe hD0
  have hS : va_S A s.heap s.heap [] := va_S.rf
  have hl := lv_entry ([.ref h_s, .int kind]) (n := 2) (Nat.le_of_ble_eq_true rfl)
  subst hAR
  rw [lg_entry_eq]
  generalize (lg_sl ([.ref h_s, .int kind]) ++ List.replicate (2 - (lg_sl ([.ref h_s, .int kind])).length) Slot.unset).toArray = ls at hl ⊢
  have hl : lv_has ls 2 [(0, .ref h_s), (1, .int kind)] := hl
  change W p l e ({ frames := 0, cells := 0, slots := 0, locals := 0 } : Room) s m _ below meth c s.heap [] 0 0 _ _
  generalize hARe : ([.ref h_s, .int kind] : List Value).toArray = AR at hts ⊢
  clear hARe
  generalize hQ : MQ below _ AR s 0 0 A = QQ
  have fl0 := hts _ (List.mem_cons_of_mem _ tw_40)
  have iw1 := (fun w hw => List.mem_cons_of_mem _ (in_St w hw) : ∀ w ∈ u_ws "BasisWalk$Study" T_St 7, w ∈ w_St_howMany)
  obtain ⟨H, hHe⟩ : ∃ H : Heap, H = s.heap := ⟨_, rfl⟩
  rw [← hHe] at hP ⊢
  replace hS : va_S A s.heap H [] := by rw [hHe]; exact va_S.rf
  clear hHe
  unfold f_S_howMany at h
  refine lv_aload_n hx hb d_St_howMany_0 rfl (lv_at hl 0 rfl) ?_
  refine va_get (D := (dC, dI)) (ci := 2) (v := .ref h_s_starts) (C := "BasisWalk$Study") (T := T_St) (N := 7) hx hb hts iw1 hown hK hP 0 rfl rfl 5 (by decide) fl0 (fun _ h9 => h9) rfl d_St_howMany_1 ?_
  refine lv_iload_n hx hb d_St_howMany_4 rfl (lv_at hl 1 rfl) ?_
  refine lv_iconst (v := 1) hx hb d_St_howMany_5 (by decide) ?_
  refine lv_iadd hx hb d_St_howMany_6 ?_
  obtain ⟨g_1, h⟩ := ck_in_s h
  refine va_iald hx hb hK hP 1 0 rfl rfl g_1 d_St_howMany_7 ?_
  refine lv_aload_n hx hb d_St_howMany_8 rfl (lv_at hl 0 rfl) ?_
  refine va_get (D := (dC, dI)) (ci := 2) (v := .ref h_s_starts) (C := "BasisWalk$Study") (T := T_St) (N := 7) hx hb hts iw1 hown hK hP 0 rfl rfl 5 (by decide) fl0 (fun _ h9 => h9) rfl d_St_howMany_9 ?_
  refine lv_iload_n hx hb d_St_howMany_12 rfl (lv_at hl 1 rfl) ?_
  obtain ⟨g_2, h⟩ := ck_in_s h
  refine va_iald hx hb hK hP 1 0 rfl rfl g_2 d_St_howMany_13 ?_
  refine lv_isub hx hb d_St_howMany_14 ?_
  obtain rfl := Option.some.inj h
  subst hQ
  exact W.iret (v := ((s_starts (kind + 1).toNatClampNeg) - (s_starts kind.toNatClampNeg))) hx hb hr (fun t ht hW => ⟨⟨((s_starts (kind + 1).toNatClampNeg) - (s_starts kind.toNatClampNeg)), (), rfl, rfl, by rw [ht]; exact hP, va_K.moved hW.alike hK, hD⟩, hS.F ht⟩) hS.2.2 d_St_howMany_15
theorem d_St_memberAt_0 : decode prog_4_method_4_code 0 = .ok (.iload_n 2, 1) := by decide +kernel
theorem d_St_memberAt_1 : decode prog_4_method_4_code 1 = .ok (.ifCond .lt 12, 3) := by decide +kernel
theorem d_St_memberAt_4 : decode prog_4_method_4_code 4 = .ok (.iload_n 2, 1) := by decide +kernel
theorem d_St_memberAt_5 : decode prog_4_method_4_code 5 = .ok (.aload_n 0, 1) := by decide +kernel
theorem d_St_memberAt_6 : decode prog_4_method_4_code 6 = .ok (.iload_n 1, 1) := by decide +kernel
theorem d_St_memberAt_7 : decode prog_4_method_4_code 7 = .ok (.invokevirtual 61, 3) := by decide +kernel
theorem d_St_memberAt_10 : decode prog_4_method_4_code 10 = .ok (.if_icmp .lt 7, 3) := by decide +kernel
theorem d_St_memberAt_13 : decode prog_4_method_4_code 13 = .ok (.iconst (-1), 1) := by decide +kernel
theorem d_St_memberAt_14 : decode prog_4_method_4_code 14 = .ok (.goto 16, 3) := by decide +kernel
theorem d_St_memberAt_17 : decode prog_4_method_4_code 17 = .ok (.aload_n 0, 1) := by decide +kernel
theorem d_St_memberAt_18 : decode prog_4_method_4_code 18 = .ok (.getfield 18, 3) := by decide +kernel
theorem d_St_memberAt_21 : decode prog_4_method_4_code 21 = .ok (.aload_n 0, 1) := by decide +kernel
theorem d_St_memberAt_22 : decode prog_4_method_4_code 22 = .ok (.getfield 21, 3) := by decide +kernel
theorem d_St_memberAt_25 : decode prog_4_method_4_code 25 = .ok (.iload_n 1, 1) := by decide +kernel
theorem d_St_memberAt_26 : decode prog_4_method_4_code 26 = .ok (.iaload, 1) := by decide +kernel
theorem d_St_memberAt_27 : decode prog_4_method_4_code 27 = .ok (.iload_n 2, 1) := by decide +kernel
theorem d_St_memberAt_28 : decode prog_4_method_4_code 28 = .ok (.iadd, 1) := by decide +kernel
theorem d_St_memberAt_29 : decode prog_4_method_4_code 29 = .ok (.iaload, 1) := by decide +kernel
theorem d_St_memberAt_30 : decode prog_4_method_4_code 30 = .ok (.ireturn, 1) := by decide +kernel
def f_S_memberAt (s_starts_n : Nat) (s_starts : Nat → Int32) (s_members_n : Nat) (s_members : Nat → Int32) (kind : Int32) (i : Int32) : Option (Int32) :=
  ck_if (i < 0) (some (-1)) (ck_b1 (f_S_howMany s_starts_n s_starts kind) <| fun r_2 => ck_if (i < r_2) (ck_in kind s_starts_n <| ck_in ((s_starts kind.toNatClampNeg) + i) s_members_n <| some (s_members ((s_starts kind.toNatClampNeg) + i).toNatClampNeg)) (some (-1)))
set_option maxHeartbeats 4000000 in
set_option maxRecDepth 100000 in
theorem c_S_memberAt (l : Launch) (dC : Nat → ClassId) (dI : Nat → Nat → Nat) (cI cJ cB cZ cT cN : ClassId) (sz : Nat) (h_s : Nat) (h_s_ranks : Nat) (h_s_signs : Nat) (h_s_members : Nat) (h_s_starts : Nat) (h_s_defects : Nat) (s_columnCount : Int32) (s_fullRank : Int32) (s_starts_n : Nat) (s_starts : Nat → Int32) (s_members_n : Nat) (s_members : Nat → Int32) (kind : Int32) (i : Int32) (r : Int32) (h : f_S_memberAt s_starts_n s_starts s_members_n s_members kind i = some r) : Met l y_St_memberAt w_St_memberAt ({ frames := 1, cells := 0, slots := 0, locals := 21 } : Room) (va_Pc [.ref h_s, .int kind, .int i] (fun U => U.heap.size = sz ∧ va_P (dC, dI) cl_all [(h_s, .inr (2, [.int s_columnCount, .int s_fullRank, .ref h_s_ranks, .ref h_s_signs, .ref h_s_members, .ref h_s_starts, .ref h_s_defects])), (h_s_starts, .inl (cI, s_starts_n, .inl s_starts)), (h_s_members, .inl (cI, s_members_n, .inl s_members))] U.heap ∧ va_K (dC, dI) cl_all [(cI, .int), (cJ, .long), (cB, .byte), (cZ, .boolean), (cT, .object "BasisWalk$Table"), (cN, .object "BasisWalkModel$Num")] U ∧ NW U ∧ va_D (fun _ => True) [(h_s, .inr (2, [.int s_columnCount, .int s_fullRank, .ref h_s_ranks, .ref h_s_signs, .ref h_s_members, .ref h_s_starts, .ref h_s_defects])), (h_s_starts, .inl (cI, s_starts_n, .inl s_starts)), (h_s_members, .inl (cI, s_members_n, .inl s_members))])) (va_Qi (fun (v : Int32) (_ : Unit) => v = r) (fun (u : Unit) (t : State) => va_P (dC, dI) cl_all [(h_s, .inr (2, [.int s_columnCount, .int s_fullRank, .ref h_s_ranks, .ref h_s_signs, .ref h_s_members, .ref h_s_starts, .ref h_s_defects])), (h_s_starts, .inl (cI, s_starts_n, .inl s_starts)), (h_s_members, .inl (cI, s_members_n, .inl s_members))] t.heap ∧ va_K (dC, dI) cl_all [(cI, .int), (cJ, .long), (cB, .byte), (cZ, .boolean), (cT, .object "BasisWalk$Table"), (cN, .object "BasisWalkModel$Num")] t ∧ va_D (va_A [(h_s, .inr (2, [.int s_columnCount, .int s_fullRank, .ref h_s_ranks, .ref h_s_signs, .ref h_s_members, .ref h_s_starts, .ref h_s_defects])), (h_s_starts, .inl (cI, s_starts_n, .inl s_starts)), (h_s_members, .inl (cI, s_members_n, .inl s_members))] sz) [(h_s, .inr (2, [.int s_columnCount, .int s_fullRank, .ref h_s_ranks, .ref h_s_signs, .ref h_s_members, .ref h_s_starts, .ref h_s_defects])), (h_s_starts, .inl (cI, s_starts_n, .inl s_starts)), (h_s_members, .inl (cI, s_members_n, .inl s_members))]) (va_A [(h_s, .inr (2, [.int s_columnCount, .int s_fullRank, .ref h_s_ranks, .ref h_s_signs, .ref h_s_members, .ref h_s_starts, .ref h_s_defects])), (h_s_starts, .inl (cI, s_starts_n, .inl s_starts)), (h_s_members, .inl (cI, s_members_n, .inl s_members))] sz)) 0 0 (va_A [(h_s, .inr (2, [.int s_columnCount, .int s_fullRank, .ref h_s_ranks, .ref h_s_signs, .ref h_s_members, .ref h_s_starts, .ref h_s_defects])), (h_s_starts, .inl (cI, s_starts_n, .inl s_starts)), (h_s_members, .inl (cI, s_members_n, .inl s_members))] sz) := by
  refine Met.ofW (cc := prog_4_method_4_code) (maxL := 3) (ret := (Option.some Jvm.ClassFile.FieldType.int)) (by decide) rfl ?_
  intro p e s m args below meth c s₁ B hml hv
  obtain ⟨hAR, hsz, hP, hK, hN, hD0⟩ := hv
  have hx := B.exec
  have hb := B.bytes
  have hr := B.returns
  have hts := atoms_spec (ws := w_St_memberAt) B.pre
  have hown : s.vm.findClass "BasisWalk$Study" = some m.cls := findClass_of_methodNamed B.named
  have hlocks := B.notSynchronized
  clear B
  subst hsz
  have hD := hD0.self (sz := s.heap.size)
  generalize hAe : va_A [(h_s, .inr (2, [.int s_columnCount, .int s_fullRank, .ref h_s_ranks, .ref h_s_signs, .ref h_s_members, .ref h_s_starts, .ref h_s_defects])), (h_s_starts, .inl (cI, s_starts_n, .inl s_starts)), (h_s_members, .inl (cI, s_members_n, .inl s_members))] s.heap.size = A at hD ⊢
  have hA : ∀ q : Nat, s.heap.size ≤ q → A q := fun q h => by rw [← hAe]; exact Or.inr h
  clear hAe hD0
  have hS : va_S A s.heap s.heap [] := va_S.rf
  have hl := lv_entry ([.ref h_s, .int kind, .int i]) (n := 3) (Nat.le_of_ble_eq_true rfl)
  subst hAR
  rw [lg_entry_eq]
  generalize (lg_sl ([.ref h_s, .int kind, .int i]) ++ List.replicate (3 - (lg_sl ([.ref h_s, .int kind, .int i])).length) Slot.unset).toArray = ls at hl ⊢
  have hl : lv_has ls 3 [(0, .ref h_s), (1, .int kind), (2, .int i)] := hl
  change W p l e ({ frames := 1, cells := 0, slots := 0, locals := 21 } : Room) s m _ below meth c s.heap [] 0 0 _ _
  generalize hARe : ([.ref h_s, .int kind, .int i] : List Value).toArray = AR at hts ⊢
  clear hARe
  generalize hQ : MQ below _ AR s 0 0 A = QQ
  have fl0 := hts _ (List.mem_cons_of_mem _ tw_39)
  have iw1 := (fun w hw => List.mem_cons_of_mem _ (in_St w hw) : ∀ w ∈ u_ws "BasisWalk$Study" T_St 7, w ∈ w_St_memberAt)
  have fl2 := hts _ (List.mem_cons_of_mem _ tw_40)
  obtain ⟨H, hHe⟩ : ∃ H : Heap, H = s.heap := ⟨_, rfl⟩
  rw [← hHe] at hP ⊢
  replace hS : va_S A s.heap H [] := by rw [hHe]; exact va_S.rf
  clear hHe
  unfold f_S_memberAt at h
  refine lv_iload_n hx hb d_St_memberAt_0 rfl (lv_at hl 2 rfl) ?_
  refine lv_if_lt (tgt := 13) hx hb d_St_memberAt_1 (by decide) (fun c_1 => ?_) (fun c_1 => ?_)
  · replace h := ck_if_t h c_1
    refine lv_iconst (v := (-1)) hx hb d_St_memberAt_13 (by decide) ?_
    refine lv_goto (tgt := 30) hx hb d_St_memberAt_14 (by decide) ?_
    obtain rfl := Option.some.inj h
    subst hQ
    exact W.iret (v := (-1)) hx hb hr (fun t ht hW => ⟨⟨(-1), (), rfl, rfl, by rw [ht]; exact hP, va_K.moved hW.alike hK, hD⟩, hS.F ht⟩) hS.2.2 d_St_memberAt_30
  · replace h := ck_if_f h c_1
    refine lv_iload_n hx hb d_St_memberAt_4 rfl (lv_at hl 2 rfl) ?_
    refine lv_aload_n hx hb d_St_memberAt_5 rfl (lv_at hl 0 rfl) ?_
    refine lv_iload_n hx hb d_St_memberAt_6 rfl (lv_at hl 1 rfl) ?_
    obtain ⟨r_2, hc_3, h⟩ := ck_b1_s h
    have hPc := hP.sub (ws' := [(h_s, .inr (2, [.int s_columnCount, .int s_fullRank, .ref h_s_ranks, .ref h_s_signs, .ref h_s_members, .ref h_s_starts, .ref h_s_defects])), (h_s_starts, .inl (cI, s_starts_n, .inl s_starts))]) [0, 1] rfl
    have hDc := hD.sub (ws' := [(h_s, .inr (2, [.int s_columnCount, .int s_fullRank, .ref h_s_ranks, .ref h_s_signs, .ref h_s_members, .ref h_s_starts, .ref h_s_defects])), (h_s_starts, .inl (cI, s_starts_n, .inl s_starts))]) [0, 1] (by decide) rfl
    have hFc := va_free (wc := [(h_s, .inr (2, [.int s_columnCount, .int s_fullRank, .ref h_s_ranks, .ref h_s_signs, .ref h_s_members, .ref h_s_starts, .ref h_s_defects])), (h_s_starts, .inl (cI, s_starts_n, .inl s_starts))]) hD hS hA [0, 1] rfl
    refine va_calli (va_runV (As := [.int kind]) (rest := [.int i]) ⟨hx, hb, hml, hown, hts⟩ (c_S_howMany l dC dI cI cJ cB cZ cT cN H.size h_s h_s_ranks h_s_signs h_s_members h_s_starts h_s_defects s_columnCount s_fullRank s_starts_n s_starts kind _ hc_3) (cwV 1 hts (tb_V tw_304 tw_293 tw_294 tw_3 tw_295) rfl rfl rfl (by decide +kernel) ⟨Nat.le_of_ble_eq_true rfl, Nat.le_of_ble_eq_true rfl⟩) ⟨fun a U g mk q => by obtain ⟨q0, q1, qP, qK, qN, qD⟩ := q; exact ⟨q0, q1, qP, va_K.moved (u := U) (U := U.calling g mk a) (Vm.Alike.refl U.vm) qK, qN.same rfl, qD⟩, va_recv hK hPc (ci := 2) (q0 := 0) rfl rfl, fun U hU hW => ⟨rfl, by rw [hU], by rw [hU]; exact hPc, va_K.moved hW.alike hK, hN.warm hW, hDc.weaken (fun _ _ _ _ => trivial)⟩⟩ rfl rfl hl.1 rfl (lv_room (Nat.le_of_ble_eq_true rfl)) d_St_memberAt_7 ⟨Nat.zero_le _, Nat.zero_le _⟩) hS (fun q _ h => hFc q h) hFc (fun rr u t H1 locs ht hvm hw hB hz1 hk1 hS => ?_)
    replace hw := hw.symm
    subst hw
    obtain ⟨hP1, -, hD1⟩ := hB
    rw [ht] at hP1
    obtain ⟨hP, hD⟩ := va_join (wr := [(h_s_members, .inl (cI, s_members_n, .inl s_members))]) (w1 := [(h_s, .inr (2, [.int s_columnCount, .int s_fullRank, .ref h_s_ranks, .ref h_s_signs, .ref h_s_members, .ref h_s_starts, .ref h_s_defects])), (h_s_starts, .inl (cI, s_starts_n, .inl s_starts))]) hP hD [0, 1] [2] rfl rfl (by decide) (by decide) hk1 hFc hP1 hD1
    generalize H1 = H at hP hS ⊢
    have hP : va_P (dC, dI) cl_all [(h_s, .inr (2, [.int s_columnCount, .int s_fullRank, .ref h_s_ranks, .ref h_s_signs, .ref h_s_members, .ref h_s_starts, .ref h_s_defects])), (h_s_starts, .inl (cI, s_starts_n, .inl s_starts)), (h_s_members, .inl (cI, s_members_n, .inl s_members))] H := hP.sub [1, 2, 0] rfl
    have hD : va_D A [(h_s, .inr (2, [.int s_columnCount, .int s_fullRank, .ref h_s_ranks, .ref h_s_signs, .ref h_s_members, .ref h_s_starts, .ref h_s_defects])), (h_s_starts, .inl (cI, s_starts_n, .inl s_starts)), (h_s_members, .inl (cI, s_members_n, .inl s_members))] := hD.sub [1, 2, 0] (by decide) rfl
    refine lv_icmp_lt (tgt := 17) hx hb d_St_memberAt_10 (by decide) (fun c_4 => ?_) (fun c_4 => ?_)
    · replace h := ck_if_t h c_4
      refine lv_aload_n hx hb d_St_memberAt_17 rfl (lv_at hl 0 rfl) ?_
      refine va_get (D := (dC, dI)) (ci := 2) (v := .ref h_s_members) (C := "BasisWalk$Study") (T := T_St) (N := 7) hx hb hts iw1 hown hK hP 0 rfl rfl 4 (by decide) fl0 (fun _ h9 => h9) rfl d_St_memberAt_18 ?_
      refine lv_aload_n hx hb d_St_memberAt_21 rfl (lv_at hl 0 rfl) ?_
      refine va_get (D := (dC, dI)) (ci := 2) (v := .ref h_s_starts) (C := "BasisWalk$Study") (T := T_St) (N := 7) hx hb hts iw1 hown hK hP 0 rfl rfl 5 (by decide) fl2 (fun _ h9 => h9) rfl d_St_memberAt_22 ?_
      refine lv_iload_n hx hb d_St_memberAt_25 rfl (lv_at hl 1 rfl) ?_
      obtain ⟨g_5, h⟩ := ck_in_s h
      refine va_iald hx hb hK hP 1 0 rfl rfl g_5 d_St_memberAt_26 ?_
      refine lv_iload_n hx hb d_St_memberAt_27 rfl (lv_at hl 2 rfl) ?_
      refine lv_iadd hx hb d_St_memberAt_28 ?_
      obtain ⟨g_6, h⟩ := ck_in_s h
      refine va_iald hx hb hK hP 2 0 rfl rfl g_6 d_St_memberAt_29 ?_
      obtain rfl := Option.some.inj h
      subst hQ
      exact W.iret (v := (s_members ((s_starts kind.toNatClampNeg) + i).toNatClampNeg)) hx hb hr (fun t ht hW => ⟨⟨(s_members ((s_starts kind.toNatClampNeg) + i).toNatClampNeg), (), rfl, rfl, by rw [ht]; exact hP, va_K.moved hW.alike hK, hD⟩, hS.F ht⟩) hS.2.2 d_St_memberAt_30
    · replace h := ck_if_f h c_4
      refine lv_iconst (v := (-1)) hx hb d_St_memberAt_13 (by decide) ?_
      refine lv_goto (tgt := 30) hx hb d_St_memberAt_14 (by decide) ?_
      obtain rfl := Option.some.inj h
      subst hQ
      exact W.iret (v := (-1)) hx hb hr (fun t ht hW => ⟨⟨(-1), (), rfl, rfl, by rw [ht]; exact hP, va_K.moved hW.alike hK, hD⟩, hS.F ht⟩) hS.2.2 d_St_memberAt_30
theorem d_St_coefficient_0 : decode prog_4_method_5_code 0 = .ok (.lconst 0, 1) := by decide +kernel
theorem d_St_coefficient_1 : decode prog_4_method_5_code 1 = .ok (.lstore_n 3, 1) := by decide +kernel
theorem d_St_coefficient_2 : decode prog_4_method_5_code 2 = .ok (.iload_n 1, 1) := by decide +kernel
theorem d_St_coefficient_3 : decode prog_4_method_5_code 3 = .ok (.istore 5, 2) := by decide +kernel
theorem d_St_coefficient_5 : decode prog_4_method_5_code 5 = .ok (.iload 5, 2) := by decide +kernel
theorem d_St_coefficient_7 : decode prog_4_method_5_code 7 = .ok (.aload_n 0, 1) := by decide +kernel
theorem d_St_coefficient_8 : decode prog_4_method_5_code 8 = .ok (.getfield 41, 3) := by decide +kernel
theorem d_St_coefficient_11 : decode prog_4_method_5_code 11 = .ok (.if_icmp .gt 89, 3) := by decide +kernel
theorem d_St_coefficient_14 : decode prog_4_method_5_code 14 = .ok (.iload_n 2, 1) := by decide +kernel
theorem d_St_coefficient_15 : decode prog_4_method_5_code 15 = .ok (.istore 6, 2) := by decide +kernel
theorem d_St_coefficient_17 : decode prog_4_method_5_code 17 = .ok (.iload 6, 2) := by decide +kernel
theorem d_St_coefficient_19 : decode prog_4_method_5_code 19 = .ok (.aload_n 0, 1) := by decide +kernel
theorem d_St_coefficient_20 : decode prog_4_method_5_code 20 = .ok (.getfield 33, 3) := by decide +kernel
theorem d_St_coefficient_23 : decode prog_4_method_5_code 23 = .ok (.aload_n 0, 1) := by decide +kernel
theorem d_St_coefficient_24 : decode prog_4_method_5_code 24 = .ok (.getfield 41, 3) := by decide +kernel
theorem d_St_coefficient_27 : decode prog_4_method_5_code 27 = .ok (.isub, 1) := by decide +kernel
theorem d_St_coefficient_28 : decode prog_4_method_5_code 28 = .ok (.if_icmp .gt 66, 3) := by decide +kernel
theorem d_St_coefficient_31 : decode prog_4_method_5_code 31 = .ok (.iload 5, 2) := by decide +kernel
theorem d_St_coefficient_33 : decode prog_4_method_5_code 33 = .ok (.iload_n 1, 1) := by decide +kernel
theorem d_St_coefficient_34 : decode prog_4_method_5_code 34 = .ok (.invokestatic 65, 3) := by decide +kernel
theorem d_St_coefficient_37 : decode prog_4_method_5_code 37 = .ok (.i2l, 1) := by decide +kernel
theorem d_St_coefficient_38 : decode prog_4_method_5_code 38 = .ok (.iload 6, 2) := by decide +kernel
theorem d_St_coefficient_40 : decode prog_4_method_5_code 40 = .ok (.iload_n 2, 1) := by decide +kernel
theorem d_St_coefficient_41 : decode prog_4_method_5_code 41 = .ok (.invokestatic 65, 3) := by decide +kernel
theorem d_St_coefficient_44 : decode prog_4_method_5_code 44 = .ok (.i2l, 1) := by decide +kernel
theorem d_St_coefficient_45 : decode prog_4_method_5_code 45 = .ok (.lmul, 1) := by decide +kernel
theorem d_St_coefficient_46 : decode prog_4_method_5_code 46 = .ok (.aload_n 0, 1) := by decide +kernel
theorem d_St_coefficient_47 : decode prog_4_method_5_code 47 = .ok (.getfield 24, 3) := by decide +kernel
theorem d_St_coefficient_50 : decode prog_4_method_5_code 50 = .ok (.iload 5, 2) := by decide +kernel
theorem d_St_coefficient_52 : decode prog_4_method_5_code 52 = .ok (.bipush 13, 2) := by decide +kernel
theorem d_St_coefficient_54 : decode prog_4_method_5_code 54 = .ok (.imul, 1) := by decide +kernel
theorem d_St_coefficient_55 : decode prog_4_method_5_code 55 = .ok (.iload 6, 2) := by decide +kernel
theorem d_St_coefficient_57 : decode prog_4_method_5_code 57 = .ok (.iadd, 1) := by decide +kernel
theorem d_St_coefficient_58 : decode prog_4_method_5_code 58 = .ok (.iaload, 1) := by decide +kernel
theorem d_St_coefficient_59 : decode prog_4_method_5_code 59 = .ok (.i2l, 1) := by decide +kernel
theorem d_St_coefficient_60 : decode prog_4_method_5_code 60 = .ok (.lmul, 1) := by decide +kernel
theorem d_St_coefficient_61 : decode prog_4_method_5_code 61 = .ok (.lstore 7, 2) := by decide +kernel
theorem d_St_coefficient_63 : decode prog_4_method_5_code 63 = .ok (.lload_n 3, 1) := by decide +kernel
theorem d_St_coefficient_64 : decode prog_4_method_5_code 64 = .ok (.iload 5, 2) := by decide +kernel
theorem d_St_coefficient_66 : decode prog_4_method_5_code 66 = .ok (.iload_n 1, 1) := by decide +kernel
theorem d_St_coefficient_67 : decode prog_4_method_5_code 67 = .ok (.isub, 1) := by decide +kernel
theorem d_St_coefficient_68 : decode prog_4_method_5_code 68 = .ok (.iload 6, 2) := by decide +kernel
theorem d_St_coefficient_70 : decode prog_4_method_5_code 70 = .ok (.iadd, 1) := by decide +kernel
theorem d_St_coefficient_71 : decode prog_4_method_5_code 71 = .ok (.iload_n 2, 1) := by decide +kernel
theorem d_St_coefficient_72 : decode prog_4_method_5_code 72 = .ok (.isub, 1) := by decide +kernel
theorem d_St_coefficient_73 : decode prog_4_method_5_code 73 = .ok (.iconst 2, 1) := by decide +kernel
theorem d_St_coefficient_74 : decode prog_4_method_5_code 74 = .ok (.irem, 1) := by decide +kernel
theorem d_St_coefficient_75 : decode prog_4_method_5_code 75 = .ok (.ifCond .ne 8, 3) := by decide +kernel
theorem d_St_coefficient_78 : decode prog_4_method_5_code 78 = .ok (.lload 7, 2) := by decide +kernel
theorem d_St_coefficient_80 : decode prog_4_method_5_code 80 = .ok (.goto 6, 3) := by decide +kernel
theorem d_St_coefficient_83 : decode prog_4_method_5_code 83 = .ok (.lload 7, 2) := by decide +kernel
theorem d_St_coefficient_85 : decode prog_4_method_5_code 85 = .ok (.lneg, 1) := by decide +kernel
theorem d_St_coefficient_86 : decode prog_4_method_5_code 86 = .ok (.ladd, 1) := by decide +kernel
theorem d_St_coefficient_87 : decode prog_4_method_5_code 87 = .ok (.lstore_n 3, 1) := by decide +kernel
theorem d_St_coefficient_88 : decode prog_4_method_5_code 88 = .ok (.iinc 6 1, 3) := by decide +kernel
theorem d_St_coefficient_91 : decode prog_4_method_5_code 91 = .ok (.goto (-74), 3) := by decide +kernel
theorem d_St_coefficient_94 : decode prog_4_method_5_code 94 = .ok (.iinc 5 1, 3) := by decide +kernel
theorem d_St_coefficient_97 : decode prog_4_method_5_code 97 = .ok (.goto (-92), 3) := by decide +kernel
theorem d_St_coefficient_100 : decode prog_4_method_5_code 100 = .ok (.lload_n 3, 1) := by decide +kernel
theorem d_St_coefficient_101 : decode prog_4_method_5_code 101 = .ok (.lreturn, 1) := by decide +kernel
def f_S_coefficient (s_columnCount : Int32) (s_fullRank : Int32) (s_defects_n : Nat) (s_defects : Nat → Int32) (i : Int32) (j : Int32) : Option (Int64) :=
  lo2 (fun k_5 (v5_1 : Int32) (v3_2 : Int64) => ck_if (s_fullRank < v5_1) (some v3_2) (ck_jn (fun (v3_4 : Int64) => ck_nm (v5_1 + 1) <| fun x_5 => k_5 x_5 v3_4) <| fun k_94 => lo2 (fun k_17 (v6_6 : Int32) (v3_7 : Int64) => ck_if ((s_columnCount - s_fullRank) < v6_6) (k_94 v3_7) (ck_b1 (f_choose v5_1 i) <| fun r_9 => ck_b1 (f_choose v6_6 j) <| fun r_11 => ck_in ((v5_1 * 13) + v6_6) s_defects_n <| ck_nm ((r_9.toInt64 * r_11.toInt64) * ((s_defects ((v5_1 * 13) + v6_6).toNatClampNeg).toInt64)) <| fun x_14 => ck_jn (fun (s0_15 : Int64) => ck_nm (v3_7 + s0_15) <| fun x_16 => ck_nm (v6_6 + 1) <| fun x_17 => k_17 x_17 x_16) <| fun k_86 => ck_if (((((v5_1 - i) + v6_6) - j) - (((v5_1 - i) + v6_6) - j) / 2 * 2) = 0) (k_86 x_14) (k_86 (-x_14)))) ck_F j v3_2)) ck_F i 0
set_option maxHeartbeats 4000000 in
set_option maxRecDepth 100000 in
theorem c_S_coefficient (l : Launch) (dC : Nat → ClassId) (dI : Nat → Nat → Nat) (cI cJ cB cZ cT cN : ClassId) (sz : Nat) (h_s : Nat) (h_s_ranks : Nat) (h_s_signs : Nat) (h_s_members : Nat) (h_s_starts : Nat) (h_s_defects : Nat) (s_columnCount : Int32) (s_fullRank : Int32) (s_defects_n : Nat) (s_defects : Nat → Int32) (i : Int32) (j : Int32) (r : Int64) (h : f_S_coefficient s_columnCount s_fullRank s_defects_n s_defects i j = some r) : Met l y_St_coefficient w_St_coefficient ({ frames := 1, cells := 0, slots := 0, locals := 23 } : Room) (va_Pc [.ref h_s, .int i, .int j] (fun U => U.heap.size = sz ∧ va_P (dC, dI) cl_all [(h_s, .inr (2, [.int s_columnCount, .int s_fullRank, .ref h_s_ranks, .ref h_s_signs, .ref h_s_members, .ref h_s_starts, .ref h_s_defects])), (h_s_defects, .inl (cI, s_defects_n, .inl s_defects))] U.heap ∧ va_K (dC, dI) cl_all [(cI, .int), (cJ, .long), (cB, .byte), (cZ, .boolean), (cT, .object "BasisWalk$Table"), (cN, .object "BasisWalkModel$Num")] U ∧ NW U ∧ va_D (fun _ => True) [(h_s, .inr (2, [.int s_columnCount, .int s_fullRank, .ref h_s_ranks, .ref h_s_signs, .ref h_s_members, .ref h_s_starts, .ref h_s_defects])), (h_s_defects, .inl (cI, s_defects_n, .inl s_defects))])) (va_Ql (fun (v : Int64) (_ : Unit) => v = r) (fun (u : Unit) (t : State) => va_P (dC, dI) cl_all [(h_s, .inr (2, [.int s_columnCount, .int s_fullRank, .ref h_s_ranks, .ref h_s_signs, .ref h_s_members, .ref h_s_starts, .ref h_s_defects])), (h_s_defects, .inl (cI, s_defects_n, .inl s_defects))] t.heap ∧ va_K (dC, dI) cl_all [(cI, .int), (cJ, .long), (cB, .byte), (cZ, .boolean), (cT, .object "BasisWalk$Table"), (cN, .object "BasisWalkModel$Num")] t ∧ va_D (va_A [(h_s, .inr (2, [.int s_columnCount, .int s_fullRank, .ref h_s_ranks, .ref h_s_signs, .ref h_s_members, .ref h_s_starts, .ref h_s_defects])), (h_s_defects, .inl (cI, s_defects_n, .inl s_defects))] sz) [(h_s, .inr (2, [.int s_columnCount, .int s_fullRank, .ref h_s_ranks, .ref h_s_signs, .ref h_s_members, .ref h_s_starts, .ref h_s_defects])), (h_s_defects, .inl (cI, s_defects_n, .inl s_defects))]) (va_A [(h_s, .inr (2, [.int s_columnCount, .int s_fullRank, .ref h_s_ranks, .ref h_s_signs, .ref h_s_members, .ref h_s_starts, .ref h_s_defects])), (h_s_defects, .inl (cI, s_defects_n, .inl s_defects))] sz)) 0 0 (va_A [(h_s, .inr (2, [.int s_columnCount, .int s_fullRank, .ref h_s_ranks, .ref h_s_signs, .ref h_s_members, .ref h_s_starts, .ref h_s_defects])), (h_s_defects, .inl (cI, s_defects_n, .inl s_defects))] sz) := by
  refine Met.ofW (cc := prog_4_method_5_code) (maxL := 9) (ret := (Option.some Jvm.ClassFile.FieldType.long)) (by decide) rfl ?_
  intro p e s m args below meth c s₁ B hml hv
  obtain ⟨hAR, hsz, hP, hK, hN, hD0⟩ := hv
  have hx := B.exec
  have hb := B.bytes
  have hr := B.returns
  have hts := atoms_spec (ws := w_St_coefficient) B.pre
  have hown : s.vm.findClass "BasisWalk$Study" = some m.cls := findClass_of_methodNamed B.named
  have hlocks := B.notSynchronized
  clear B
  subst hsz
  have hD := hD0.self (sz := s.heap.size)
  generalize hAe : va_A [(h_s, .inr (2, [.int s_columnCount, .int s_fullRank, .ref h_s_ranks, .ref h_s_signs, .ref h_s_members, .ref h_s_starts, .ref h_s_defects])), (h_s_defects, .inl (cI, s_defects_n, .inl s_defects))] s.heap.size = A at hD ⊢
  have hA : ∀ q : Nat, s.heap.size ≤ q → A q := fun q h => by rw [← hAe]; exact Or.inr h
  clear hAe hD0
  have hS : va_S A s.heap s.heap [] := va_S.rf
  have hl := lv_entry ([.ref h_s, .int i, .int j]) (n := 9) (Nat.le_of_ble_eq_true rfl)
  subst hAR
  rw [lg_entry_eq]
  generalize (lg_sl ([.ref h_s, .int i, .int j]) ++ List.replicate (9 - (lg_sl ([.ref h_s, .int i, .int j])).length) Slot.unset).toArray = ls at hl ⊢
  have hl : lv_has ls 9 [(0, .ref h_s), (1, .int i), (2, .int j)] := hl
  change W p l e ({ frames := 1, cells := 0, slots := 0, locals := 23 } : Room) s m _ below meth c s.heap [] 0 0 _ _
  generalize hARe : ([.ref h_s, .int i, .int j] : List Value).toArray = AR at hts ⊢
  clear hARe
  generalize hQ : MQ below _ AR s 0 0 A = QQ
  have fl0 := hts _ (List.mem_cons_of_mem _ tw_33)
  have iw1 := (fun w hw => List.mem_cons_of_mem _ (in_St w hw) : ∀ w ∈ u_ws "BasisWalk$Study" T_St 7, w ∈ w_St_coefficient)
  have fl2 := hts _ (List.mem_cons_of_mem _ tw_32)
  have fl3 := hts _ (List.mem_cons_of_mem _ tw_41)
  obtain ⟨H, hHe⟩ : ∃ H : Heap, H = s.heap := ⟨_, rfl⟩
  rw [← hHe] at hP ⊢
  replace hS : va_S A s.heap H [] := by rw [hHe]; exact va_S.rf
  clear hHe
  unfold f_S_coefficient at h
  refine lv_lconst (v := 0) hx hb d_St_coefficient_0 (by decide) ?_
  refine lv_lstore_n (lv' := [(3, .long 0), (0, .ref h_s), (1, .int i), (2, .int j)]) hx hb d_St_coefficient_1 rfl hl (by decide) rfl (fun ls hl => ?_)
  refine lv_iload_n hx hb d_St_coefficient_2 rfl (lv_at hl 2 rfl) ?_
  refine lv_istore (lv' := [(5, .int i), (3, .long 0), (0, .ref h_s), (1, .int i), (2, .int j)]) hx hb d_St_coefficient_3 hl (by decide) rfl (fun ls hl => ?_)
  refine lo2_W (r := r) (fun (v5_1 : Int32) (v3_2 : Int64) => ∀ (H : Heap) (locs : List Loc), va_P (dC, dI) cl_all [(h_s, .inr (2, [.int s_columnCount, .int s_fullRank, .ref h_s_ranks, .ref h_s_signs, .ref h_s_members, .ref h_s_starts, .ref h_s_defects])), (h_s_defects, .inl (cI, s_defects_n, .inl s_defects))] H → va_D A [(h_s, .inr (2, [.int s_columnCount, .int s_fullRank, .ref h_s_ranks, .ref h_s_signs, .ref h_s_members, .ref h_s_starts, .ref h_s_defects])), (h_s_defects, .inl (cI, s_defects_n, .inl s_defects))] → va_S A s.heap H locs → ∀ ls : Array Slot, lv_has ls 9 [(0, .ref h_s), (1, .int i), (2, .int j), (3, .long v3_2), (5, .int v5_1)] → W p l e ({ frames := 1, cells := 0, slots := 0, locals := 23 } : Room) s m AR below meth c H locs 0 0 QQ (F0 m 5 ls [])) ?_ _ _ _ h _ _ hP hD hS _ (lv_sub hl [2, 3, 4, 1, 0] rfl)
  intro k_5 v5_1 v3_2 J_5 h H locs hP hD hS ls hl
  refine lv_iload hx hb d_St_coefficient_5 (lv_at hl 4 rfl) ?_
  refine lv_aload_n hx hb d_St_coefficient_7 rfl (lv_at hl 0 rfl) ?_
  refine va_get (D := (dC, dI)) (ci := 2) (v := .int s_fullRank) (C := "BasisWalk$Study") (T := T_St) (N := 7) hx hb hts iw1 hown hK hP 0 rfl rfl 1 (by decide) fl0 (fun _ h9 => h9) rfl d_St_coefficient_8 ?_
  refine lv_icmp_gt (tgt := 100) hx hb d_St_coefficient_11 (by decide) (fun c_3 => ?_) (fun c_3 => ?_)
  · replace h := ck_if_t h c_3
    refine lv_lload_n hx hb d_St_coefficient_100 rfl (lv_at hl 3 rfl) ?_
    obtain rfl := Option.some.inj h
    subst hQ
    exact W.lret (v := v3_2) hx hb hr (fun t ht hW => ⟨⟨v3_2, (), rfl, rfl, by rw [ht]; exact hP, va_K.moved hW.alike hK, hD⟩, hS.F ht⟩) hS.2.2 d_St_coefficient_101
  · replace h := ck_if_f h c_3
    refine lv_iload_n hx hb d_St_coefficient_14 rfl (lv_at hl 2 rfl) ?_
    refine lv_istore (lv' := [(6, .int j), (0, .ref h_s), (1, .int i), (2, .int j), (3, .long v3_2), (5, .int v5_1)]) hx hb d_St_coefficient_15 hl (by decide) rfl (fun ls hl => ?_)
    refine ck_jn_W h (fun k' => ∀ (v3_4 : Int64), k' v3_4 = some r → ∀ (H : Heap) (locs : List Loc), va_P (dC, dI) cl_all [(h_s, .inr (2, [.int s_columnCount, .int s_fullRank, .ref h_s_ranks, .ref h_s_signs, .ref h_s_members, .ref h_s_starts, .ref h_s_defects])), (h_s_defects, .inl (cI, s_defects_n, .inl s_defects))] H → va_D A [(h_s, .inr (2, [.int s_columnCount, .int s_fullRank, .ref h_s_ranks, .ref h_s_signs, .ref h_s_members, .ref h_s_starts, .ref h_s_defects])), (h_s_defects, .inl (cI, s_defects_n, .inl s_defects))] → va_S A s.heap H locs → ∀ ls : Array Slot, lv_has ls 9 [(0, .ref h_s), (1, .int i), (2, .int j), (3, .long v3_4), (5, .int v5_1)] → W p l e ({ frames := 1, cells := 0, slots := 0, locals := 23 } : Room) s m AR below meth c H locs 0 0 QQ (F0 m 94 ls [])) ?_ ?_
    · intro v3_4 h H locs hP hD hS ls hl
      obtain ⟨x_5, ex_5⟩ : ∃ y : Int32, y = v5_1 + 1 := ⟨_, rfl⟩
      replace h := ck_nm_s h ex_5
      refine lv_iinc (v := x_5) (lv' := [(5, .int x_5), (0, .ref h_s), (1, .int i), (2, .int j), (3, .long v3_4)]) hx hb d_St_coefficient_94 hl (k := 4) rfl (by rw [ex_5]; rfl) (by decide) rfl (fun ls hl => ?_)
      refine lv_goto (tgt := 5) hx hb d_St_coefficient_97 (by decide) ?_
      exact J_5 _ _ h _ _ hP hD hS _ (lv_sub hl [1, 2, 3, 4, 0] rfl)
    · intro k_94 J_94 h
      refine lo2_W (r := r) (fun (v6_6 : Int32) (v3_7 : Int64) => ∀ (H : Heap) (locs : List Loc), va_P (dC, dI) cl_all [(h_s, .inr (2, [.int s_columnCount, .int s_fullRank, .ref h_s_ranks, .ref h_s_signs, .ref h_s_members, .ref h_s_starts, .ref h_s_defects])), (h_s_defects, .inl (cI, s_defects_n, .inl s_defects))] H → va_D A [(h_s, .inr (2, [.int s_columnCount, .int s_fullRank, .ref h_s_ranks, .ref h_s_signs, .ref h_s_members, .ref h_s_starts, .ref h_s_defects])), (h_s_defects, .inl (cI, s_defects_n, .inl s_defects))] → va_S A s.heap H locs → ∀ ls : Array Slot, lv_has ls 9 [(0, .ref h_s), (1, .int i), (2, .int j), (3, .long v3_7), (5, .int v5_1), (6, .int v6_6)] → W p l e ({ frames := 1, cells := 0, slots := 0, locals := 23 } : Room) s m AR below meth c H locs 0 0 QQ (F0 m 17 ls [])) ?_ _ _ _ h _ _ hP hD hS _ (lv_sub hl [1, 2, 3, 4, 5, 0] rfl)
      intro k_17 v6_6 v3_7 J_17 h H locs hP hD hS ls hl
      refine lv_iload hx hb d_St_coefficient_17 (lv_at hl 5 rfl) ?_
      refine lv_aload_n hx hb d_St_coefficient_19 rfl (lv_at hl 0 rfl) ?_
      refine va_get (D := (dC, dI)) (ci := 2) (v := .int s_columnCount) (C := "BasisWalk$Study") (T := T_St) (N := 7) hx hb hts iw1 hown hK hP 0 rfl rfl 0 (by decide) fl2 (fun _ h9 => h9) rfl d_St_coefficient_20 ?_
      refine lv_aload_n hx hb d_St_coefficient_23 rfl (lv_at hl 0 rfl) ?_
      refine va_get (D := (dC, dI)) (ci := 2) (v := .int s_fullRank) (C := "BasisWalk$Study") (T := T_St) (N := 7) hx hb hts iw1 hown hK hP 0 rfl rfl 1 (by decide) fl0 (fun _ h9 => h9) rfl d_St_coefficient_24 ?_
      refine lv_isub hx hb d_St_coefficient_27 ?_
      refine lv_icmp_gt (tgt := 94) hx hb d_St_coefficient_28 (by decide) (fun c_8 => ?_) (fun c_8 => ?_)
      · replace h := ck_if_t h c_8
        exact J_94 _ h _ _ hP hD hS _ (lv_sub hl [0, 1, 2, 3, 4] rfl)
      · replace h := ck_if_f h c_8
        refine lv_iload hx hb d_St_coefficient_31 (lv_at hl 4 rfl) ?_
        refine lv_iload_n hx hb d_St_coefficient_33 rfl (lv_at hl 1 rfl) ?_
        obtain ⟨r_9, hc_10, h⟩ := ck_b1_s h
        have hPc := hP.sub (ws' := []) [] rfl
        have hDc := hD.sub (ws' := []) [] (by decide) rfl
        have hFc := va_free (wc := []) hD hS hA [] rfl
        refine va_calli (va_runSN (As := [.int v5_1, .int i]) (rest := []) ⟨hx, hb, hml, hown, hts⟩ (c_choose l dC dI cI cJ cB cZ cT cN H.size v5_1 i _ hc_10) ⟨va_cnB 2 hts (tb_G tw_194) rfl rfl rfl (hN _ tn_213) (hts _ (List.mem_cons_of_mem _ tw_1)) (by decide +kernel) ⟨Nat.le_of_ble_eq_true rfl, Nat.le_of_ble_eq_true rfl⟩, hts _ (List.mem_cons_of_mem _ tw_193), trivial⟩ ⟨fun a U g mk q => by obtain ⟨q0, q1, qP, qK, qN, qD⟩ := q; exact ⟨q0, q1, qP, va_K.moved (u := U) (U := U.calling g mk a) (Vm.Alike.refl U.vm) qK, qN.same rfl, qD⟩, fun U hU hW => ⟨rfl, by rw [hU], by rw [hU]; exact hPc, va_K.moved hW.alike hK, hN.warm hW, hDc.weaken (fun _ _ _ _ => trivial)⟩⟩ rfl rfl hl.1 rfl (lv_room (Nat.le_of_ble_eq_true rfl)) d_St_coefficient_34 ⟨Nat.zero_le _, Nat.zero_le _⟩) hS (fun q _ h => hFc q h) hFc (fun rr u t H1 locs ht hvm hw hB hz1 hk1 hS => ?_)
        replace hw := hw.symm
        subst hw
        obtain ⟨hP1, -, hD1⟩ := hB
        rw [ht] at hP1
        obtain ⟨hP, hD⟩ := va_join (wr := [(h_s, .inr (2, [.int s_columnCount, .int s_fullRank, .ref h_s_ranks, .ref h_s_signs, .ref h_s_members, .ref h_s_starts, .ref h_s_defects])), (h_s_defects, .inl (cI, s_defects_n, .inl s_defects))]) (w1 := []) hP hD [] [0, 1] rfl rfl (by decide) (by decide) hk1 hFc hP1 hD1
        generalize H1 = H at hP hS ⊢
        have hP : va_P (dC, dI) cl_all [(h_s, .inr (2, [.int s_columnCount, .int s_fullRank, .ref h_s_ranks, .ref h_s_signs, .ref h_s_members, .ref h_s_starts, .ref h_s_defects])), (h_s_defects, .inl (cI, s_defects_n, .inl s_defects))] H := hP.sub [0, 1] rfl
        have hD : va_D A [(h_s, .inr (2, [.int s_columnCount, .int s_fullRank, .ref h_s_ranks, .ref h_s_signs, .ref h_s_members, .ref h_s_starts, .ref h_s_defects])), (h_s_defects, .inl (cI, s_defects_n, .inl s_defects))] := hD.sub [0, 1] (by decide) rfl
        refine lv_i2l hx hb d_St_coefficient_37 rfl ?_
        refine lv_iload hx hb d_St_coefficient_38 (lv_at hl 5 rfl) ?_
        refine lv_iload_n hx hb d_St_coefficient_40 rfl (lv_at hl 2 rfl) ?_
        obtain ⟨r_11, hc_12, h⟩ := ck_b1_s h
        have hPc := hP.sub (ws' := []) [] rfl
        have hDc := hD.sub (ws' := []) [] (by decide) rfl
        have hFc := va_free (wc := []) hD hS hA [] rfl
        refine va_calli (va_runSN (As := [.int v6_6, .int j]) (rest := [.long r_9.toInt64]) ⟨hx, hb, hml, hown, hts⟩ (c_choose l dC dI cI cJ cB cZ cT cN H.size v6_6 j _ hc_12) ⟨va_cnB 2 hts (tb_G tw_194) rfl rfl rfl (hN _ tn_213) (hts _ (List.mem_cons_of_mem _ tw_1)) (by decide +kernel) ⟨Nat.le_of_ble_eq_true rfl, Nat.le_of_ble_eq_true rfl⟩, hts _ (List.mem_cons_of_mem _ tw_193), trivial⟩ ⟨fun a U g mk q => by obtain ⟨q0, q1, qP, qK, qN, qD⟩ := q; exact ⟨q0, q1, qP, va_K.moved (u := U) (U := U.calling g mk a) (Vm.Alike.refl U.vm) qK, qN.same rfl, qD⟩, fun U hU hW => ⟨rfl, by rw [hU], by rw [hU]; exact hPc, va_K.moved hW.alike hK, hN.warm hW, hDc.weaken (fun _ _ _ _ => trivial)⟩⟩ rfl rfl hl.1 rfl (lv_room (Nat.le_of_ble_eq_true rfl)) d_St_coefficient_41 ⟨Nat.zero_le _, Nat.zero_le _⟩) hS (fun q _ h => hFc q h) hFc (fun rr u t H1 locs ht hvm hw hB hz1 hk1 hS => ?_)
        replace hw := hw.symm
        subst hw
        obtain ⟨hP1, -, hD1⟩ := hB
        rw [ht] at hP1
        obtain ⟨hP, hD⟩ := va_join (wr := [(h_s, .inr (2, [.int s_columnCount, .int s_fullRank, .ref h_s_ranks, .ref h_s_signs, .ref h_s_members, .ref h_s_starts, .ref h_s_defects])), (h_s_defects, .inl (cI, s_defects_n, .inl s_defects))]) (w1 := []) hP hD [] [0, 1] rfl rfl (by decide) (by decide) hk1 hFc hP1 hD1
        generalize H1 = H at hP hS ⊢
        have hP : va_P (dC, dI) cl_all [(h_s, .inr (2, [.int s_columnCount, .int s_fullRank, .ref h_s_ranks, .ref h_s_signs, .ref h_s_members, .ref h_s_starts, .ref h_s_defects])), (h_s_defects, .inl (cI, s_defects_n, .inl s_defects))] H := hP.sub [0, 1] rfl
        have hD : va_D A [(h_s, .inr (2, [.int s_columnCount, .int s_fullRank, .ref h_s_ranks, .ref h_s_signs, .ref h_s_members, .ref h_s_starts, .ref h_s_defects])), (h_s_defects, .inl (cI, s_defects_n, .inl s_defects))] := hD.sub [0, 1] (by decide) rfl
        refine lv_i2l hx hb d_St_coefficient_44 rfl ?_
        refine lv_lmul hx hb d_St_coefficient_45 ?_
        refine lv_aload_n hx hb d_St_coefficient_46 rfl (lv_at hl 0 rfl) ?_
        refine va_get (D := (dC, dI)) (ci := 2) (v := .ref h_s_defects) (C := "BasisWalk$Study") (T := T_St) (N := 7) hx hb hts iw1 hown hK hP 0 rfl rfl 6 (by decide) fl3 (fun _ h9 => h9) rfl d_St_coefficient_47 ?_
        refine lv_iload hx hb d_St_coefficient_50 (lv_at hl 4 rfl) ?_
        refine lv_bipush (v := 13) hx hb d_St_coefficient_52 (by decide) ?_
        refine lv_imul hx hb d_St_coefficient_54 ?_
        refine lv_iload hx hb d_St_coefficient_55 (lv_at hl 5 rfl) ?_
        refine lv_iadd hx hb d_St_coefficient_57 ?_
        obtain ⟨g_13, h⟩ := ck_in_s h
        refine va_iald hx hb hK hP 1 0 rfl rfl g_13 d_St_coefficient_58 ?_
        refine lv_i2l hx hb d_St_coefficient_59 rfl ?_
        refine lv_lmul hx hb d_St_coefficient_60 ?_
        refine lv_topl (fun x_14 ex_14 => ?_)
        replace h := ck_nm_s h ex_14
        refine lv_lstore (lv' := [(7, .long x_14), (0, .ref h_s), (1, .int i), (2, .int j), (3, .long v3_7), (5, .int v5_1), (6, .int v6_6)]) hx hb d_St_coefficient_61 hl (by decide) rfl (fun ls hl => ?_)
        refine lv_lload_n hx hb d_St_coefficient_63 rfl (lv_at hl 4 rfl) ?_
        refine lv_iload hx hb d_St_coefficient_64 (lv_at hl 5 rfl) ?_
        refine lv_iload_n hx hb d_St_coefficient_66 rfl (lv_at hl 2 rfl) ?_
        refine lv_isub hx hb d_St_coefficient_67 ?_
        refine lv_iload hx hb d_St_coefficient_68 (lv_at hl 6 rfl) ?_
        refine lv_iadd hx hb d_St_coefficient_70 ?_
        refine lv_iload_n hx hb d_St_coefficient_71 rfl (lv_at hl 3 rfl) ?_
        refine lv_isub hx hb d_St_coefficient_72 ?_
        refine lv_iconst (v := 2) hx hb d_St_coefficient_73 (by decide) ?_
        refine lv_irem hx hb d_St_coefficient_74 (by decide) ?_
        refine ck_jn_W h (fun k' => ∀ (s0_15 : Int64), k' s0_15 = some r → ∀ (H : Heap) (locs : List Loc), va_P (dC, dI) cl_all [(h_s, .inr (2, [.int s_columnCount, .int s_fullRank, .ref h_s_ranks, .ref h_s_signs, .ref h_s_members, .ref h_s_starts, .ref h_s_defects])), (h_s_defects, .inl (cI, s_defects_n, .inl s_defects))] H → va_D A [(h_s, .inr (2, [.int s_columnCount, .int s_fullRank, .ref h_s_ranks, .ref h_s_signs, .ref h_s_members, .ref h_s_starts, .ref h_s_defects])), (h_s_defects, .inl (cI, s_defects_n, .inl s_defects))] → va_S A s.heap H locs → ∀ ls : Array Slot, lv_has ls 9 [(0, .ref h_s), (1, .int i), (2, .int j), (5, .int v5_1), (6, .int v6_6)] → W p l e ({ frames := 1, cells := 0, slots := 0, locals := 23 } : Room) s m AR below meth c H locs 0 0 QQ (F0 m 86 ls [.long s0_15, .long v3_7])) ?_ ?_
        · intro s0_15 h H locs hP hD hS ls hl
          refine lv_ladd hx hb d_St_coefficient_86 ?_
          refine lv_topl (fun x_16 ex_16 => ?_)
          replace h := ck_nm_s h ex_16
          refine lv_lstore_n (lv' := [(3, .long x_16), (0, .ref h_s), (1, .int i), (2, .int j), (5, .int v5_1), (6, .int v6_6)]) hx hb d_St_coefficient_87 rfl hl (by decide) rfl (fun ls hl => ?_)
          obtain ⟨x_17, ex_17⟩ : ∃ y : Int32, y = v6_6 + 1 := ⟨_, rfl⟩
          replace h := ck_nm_s h ex_17
          refine lv_iinc (v := x_17) (lv' := [(6, .int x_17), (3, .long x_16), (0, .ref h_s), (1, .int i), (2, .int j), (5, .int v5_1)]) hx hb d_St_coefficient_88 hl (k := 5) rfl (by rw [ex_17]; rfl) (by decide) rfl (fun ls hl => ?_)
          refine lv_goto (tgt := 17) hx hb d_St_coefficient_91 (by decide) ?_
          exact J_17 _ _ h _ _ hP hD hS _ (lv_sub hl [2, 3, 4, 1, 5, 0] rfl)
        · intro k_86 J_86 h
          refine lv_if_ne (tgt := 83) hx hb d_St_coefficient_75 (by decide) (fun c_18 => ?_) (fun c_18 => ?_)
          · replace h := ck_if_f h c_18
            refine lv_lload hx hb d_St_coefficient_83 (lv_at hl 0 rfl) ?_
            refine lv_lneg hx hb d_St_coefficient_85 ?_
            exact J_86 _ h _ _ hP hD hS _ (lv_sub hl [1, 2, 3, 5, 6] rfl)
          · replace h := ck_if_t h c_18
            refine lv_lload hx hb d_St_coefficient_78 (lv_at hl 0 rfl) ?_
            refine lv_goto (tgt := 86) hx hb d_St_coefficient_80 (by decide) ?_
            exact J_86 _ h _ _ hP hD hS _ (lv_sub hl [1, 2, 3, 5, 6] rfl)
theorem d_St_widened_0 : decode prog_4_method_7_code 0 = .ok (.iload_n 1, 1) := by decide +kernel
theorem d_St_widened_1 : decode prog_4_method_7_code 1 = .ok (.istore_n 2, 1) := by decide +kernel
theorem d_St_widened_2 : decode prog_4_method_7_code 2 = .ok (.iconst 0, 1) := by decide +kernel
theorem d_St_widened_3 : decode prog_4_method_7_code 3 = .ok (.istore_n 3, 1) := by decide +kernel
theorem d_St_widened_4 : decode prog_4_method_7_code 4 = .ok (.iload_n 3, 1) := by decide +kernel
theorem d_St_widened_5 : decode prog_4_method_7_code 5 = .ok (.aload_n 0, 1) := by decide +kernel
theorem d_St_widened_6 : decode prog_4_method_7_code 6 = .ok (.getfield 33, 3) := by decide +kernel
theorem d_St_widened_9 : decode prog_4_method_7_code 9 = .ok (.if_icmp .ge 34, 3) := by decide +kernel
theorem d_St_widened_12 : decode prog_4_method_7_code 12 = .ok (.aload_n 0, 1) := by decide +kernel
theorem d_St_widened_13 : decode prog_4_method_7_code 13 = .ok (.getfield 9, 3) := by decide +kernel
theorem d_St_widened_16 : decode prog_4_method_7_code 16 = .ok (.iload_n 2, 1) := by decide +kernel
theorem d_St_widened_17 : decode prog_4_method_7_code 17 = .ok (.iconst 1, 1) := by decide +kernel
theorem d_St_widened_18 : decode prog_4_method_7_code 18 = .ok (.iload_n 3, 1) := by decide +kernel
theorem d_St_widened_19 : decode prog_4_method_7_code 19 = .ok (.ishl, 1) := by decide +kernel
theorem d_St_widened_20 : decode prog_4_method_7_code 20 = .ok (.ior, 1) := by decide +kernel
theorem d_St_widened_21 : decode prog_4_method_7_code 21 = .ok (.iaload, 1) := by decide +kernel
theorem d_St_widened_22 : decode prog_4_method_7_code 22 = .ok (.aload_n 0, 1) := by decide +kernel
theorem d_St_widened_23 : decode prog_4_method_7_code 23 = .ok (.getfield 9, 3) := by decide +kernel
theorem d_St_widened_26 : decode prog_4_method_7_code 26 = .ok (.iload_n 2, 1) := by decide +kernel
theorem d_St_widened_27 : decode prog_4_method_7_code 27 = .ok (.iaload, 1) := by decide +kernel
theorem d_St_widened_28 : decode prog_4_method_7_code 28 = .ok (.if_icmp .le 9, 3) := by decide +kernel
theorem d_St_widened_31 : decode prog_4_method_7_code 31 = .ok (.iload_n 2, 1) := by decide +kernel
theorem d_St_widened_32 : decode prog_4_method_7_code 32 = .ok (.iconst 1, 1) := by decide +kernel
theorem d_St_widened_33 : decode prog_4_method_7_code 33 = .ok (.iload_n 3, 1) := by decide +kernel
theorem d_St_widened_34 : decode prog_4_method_7_code 34 = .ok (.ishl, 1) := by decide +kernel
theorem d_St_widened_35 : decode prog_4_method_7_code 35 = .ok (.ior, 1) := by decide +kernel
theorem d_St_widened_36 : decode prog_4_method_7_code 36 = .ok (.istore_n 2, 1) := by decide +kernel
theorem d_St_widened_37 : decode prog_4_method_7_code 37 = .ok (.iinc 3 1, 3) := by decide +kernel
theorem d_St_widened_40 : decode prog_4_method_7_code 40 = .ok (.goto (-36), 3) := by decide +kernel
theorem d_St_widened_43 : decode prog_4_method_7_code 43 = .ok (.iload_n 2, 1) := by decide +kernel
theorem d_St_widened_44 : decode prog_4_method_7_code 44 = .ok (.ireturn, 1) := by decide +kernel
def f_S_widened (s_columnCount : Int32) (s_ranks_n : Nat) (s_ranks : Nat → Int32) (set : Int32) : Option (Int32) :=
  lo2 (fun k_4 (v3_1 : Int32) (v2_2 : Int32) => ck_if (s_columnCount ≤ v3_1) (some v2_2) (ck_in (v2_2 ||| ((1 : Int32) <<< (v3_1 &&& 31))) s_ranks_n <| ck_in v2_2 s_ranks_n <| ck_jn (fun (v2_6 : Int32) => ck_nm (v3_1 + 1) <| fun x_7 => k_4 x_7 v2_6) <| fun k_37 => ck_if ((s_ranks (v2_2 ||| ((1 : Int32) <<< (v3_1 &&& 31))).toNatClampNeg) ≤ (s_ranks v2_2.toNatClampNeg)) (k_37 v2_2) (ck_nm (v2_2 ||| ((1 : Int32) <<< (v3_1 &&& 31))) <| fun x_9 => k_37 x_9))) ck_F 0 set
set_option maxHeartbeats 4000000 in
set_option maxRecDepth 100000 in
theorem c_S_widened (l : Launch) (dC : Nat → ClassId) (dI : Nat → Nat → Nat) (cI cJ cB cZ cT cN : ClassId) (sz : Nat) (h_s : Nat) (h_s_ranks : Nat) (h_s_signs : Nat) (h_s_members : Nat) (h_s_starts : Nat) (h_s_defects : Nat) (s_columnCount : Int32) (s_fullRank : Int32) (s_ranks_n : Nat) (s_ranks : Nat → Int32) (set : Int32) (r : Int32) (h : f_S_widened s_columnCount s_ranks_n s_ranks set = some r) : Met l y_St_widened w_St_widened ({ frames := 0, cells := 0, slots := 0, locals := 0 } : Room) (va_Pc [.ref h_s, .int set] (fun U => U.heap.size = sz ∧ va_P (dC, dI) cl_all [(h_s, .inr (2, [.int s_columnCount, .int s_fullRank, .ref h_s_ranks, .ref h_s_signs, .ref h_s_members, .ref h_s_starts, .ref h_s_defects])), (h_s_ranks, .inl (cI, s_ranks_n, .inl s_ranks))] U.heap ∧ va_K (dC, dI) cl_all [(cI, .int), (cJ, .long), (cB, .byte), (cZ, .boolean), (cT, .object "BasisWalk$Table"), (cN, .object "BasisWalkModel$Num")] U ∧ NW U ∧ va_D (fun _ => True) [(h_s, .inr (2, [.int s_columnCount, .int s_fullRank, .ref h_s_ranks, .ref h_s_signs, .ref h_s_members, .ref h_s_starts, .ref h_s_defects])), (h_s_ranks, .inl (cI, s_ranks_n, .inl s_ranks))])) (va_Qi (fun (v : Int32) (_ : Unit) => v = r) (fun (u : Unit) (t : State) => va_P (dC, dI) cl_all [(h_s, .inr (2, [.int s_columnCount, .int s_fullRank, .ref h_s_ranks, .ref h_s_signs, .ref h_s_members, .ref h_s_starts, .ref h_s_defects])), (h_s_ranks, .inl (cI, s_ranks_n, .inl s_ranks))] t.heap ∧ va_K (dC, dI) cl_all [(cI, .int), (cJ, .long), (cB, .byte), (cZ, .boolean), (cT, .object "BasisWalk$Table"), (cN, .object "BasisWalkModel$Num")] t ∧ va_D (va_A [(h_s, .inr (2, [.int s_columnCount, .int s_fullRank, .ref h_s_ranks, .ref h_s_signs, .ref h_s_members, .ref h_s_starts, .ref h_s_defects])), (h_s_ranks, .inl (cI, s_ranks_n, .inl s_ranks))] sz) [(h_s, .inr (2, [.int s_columnCount, .int s_fullRank, .ref h_s_ranks, .ref h_s_signs, .ref h_s_members, .ref h_s_starts, .ref h_s_defects])), (h_s_ranks, .inl (cI, s_ranks_n, .inl s_ranks))]) (va_A [(h_s, .inr (2, [.int s_columnCount, .int s_fullRank, .ref h_s_ranks, .ref h_s_signs, .ref h_s_members, .ref h_s_starts, .ref h_s_defects])), (h_s_ranks, .inl (cI, s_ranks_n, .inl s_ranks))] sz)) 0 0 (va_A [(h_s, .inr (2, [.int s_columnCount, .int s_fullRank, .ref h_s_ranks, .ref h_s_signs, .ref h_s_members, .ref h_s_starts, .ref h_s_defects])), (h_s_ranks, .inl (cI, s_ranks_n, .inl s_ranks))] sz) := by
  refine Met.ofW (cc := prog_4_method_7_code) (maxL := 4) (ret := (Option.some Jvm.ClassFile.FieldType.int)) (by decide) rfl ?_
  intro p e s m args below meth c s₁ B hml hv
  obtain ⟨hAR, hsz, hP, hK, hN, hD0⟩ := hv
  have hx := B.exec
  have hb := B.bytes
  have hr := B.returns
  have hts := atoms_spec (ws := w_St_widened) B.pre
  have hown : s.vm.findClass "BasisWalk$Study" = some m.cls := findClass_of_methodNamed B.named
  have hlocks := B.notSynchronized
  clear B
  subst hsz
  have hD := hD0.self (sz := s.heap.size)
  generalize hAe : va_A [(h_s, .inr (2, [.int s_columnCount, .int s_fullRank, .ref h_s_ranks, .ref h_s_signs, .ref h_s_members, .ref h_s_starts, .ref h_s_defects])), (h_s_ranks, .inl (cI, s_ranks_n, .inl s_ranks))] s.heap.size = A at hD ⊢
  have hA : ∀ q : Nat, s.heap.size ≤ q → A q := fun q h => by rw [← hAe]; exact Or.inr h
  clear hAe hD0
  have hS : va_S A s.heap s.heap [] := va_S.rf
  have hl := lv_entry ([.ref h_s, .int set]) (n := 4) (Nat.le_of_ble_eq_true rfl)
  subst hAR
  rw [lg_entry_eq]
  generalize (lg_sl ([.ref h_s, .int set]) ++ List.replicate (4 - (lg_sl ([.ref h_s, .int set])).length) Slot.unset).toArray = ls at hl ⊢
  have hl : lv_has ls 4 [(0, .ref h_s), (1, .int set)] := hl
  change W p l e ({ frames := 0, cells := 0, slots := 0, locals := 0 } : Room) s m _ below meth c s.heap [] 0 0 _ _
  generalize hARe : ([.ref h_s, .int set] : List Value).toArray = AR at hts ⊢
  clear hARe
  generalize hQ : MQ below _ AR s 0 0 A = QQ
  have fl0 := hts _ (List.mem_cons_of_mem _ tw_32)
  have iw1 := (fun w hw => List.mem_cons_of_mem _ (in_St w hw) : ∀ w ∈ u_ws "BasisWalk$Study" T_St 7, w ∈ w_St_widened)
  have fl2 := hts _ (List.mem_cons_of_mem _ tw_35)
  obtain ⟨H, hHe⟩ : ∃ H : Heap, H = s.heap := ⟨_, rfl⟩
  rw [← hHe] at hP ⊢
  replace hS : va_S A s.heap H [] := by rw [hHe]; exact va_S.rf
  clear hHe
  unfold f_S_widened at h
  refine lv_iload_n hx hb d_St_widened_0 rfl (lv_at hl 1 rfl) ?_
  refine lv_istore_n (lv' := [(2, .int set), (0, .ref h_s), (1, .int set)]) hx hb d_St_widened_1 rfl hl (by decide) rfl (fun ls hl => ?_)
  refine lv_iconst (v := 0) hx hb d_St_widened_2 (by decide) ?_
  refine lv_istore_n (lv' := [(3, .int 0), (2, .int set), (0, .ref h_s), (1, .int set)]) hx hb d_St_widened_3 rfl hl (by decide) rfl (fun ls hl => ?_)
  refine lo2_W (r := r) (fun (v3_1 : Int32) (v2_2 : Int32) => ∀ (H : Heap) (locs : List Loc), va_P (dC, dI) cl_all [(h_s, .inr (2, [.int s_columnCount, .int s_fullRank, .ref h_s_ranks, .ref h_s_signs, .ref h_s_members, .ref h_s_starts, .ref h_s_defects])), (h_s_ranks, .inl (cI, s_ranks_n, .inl s_ranks))] H → va_D A [(h_s, .inr (2, [.int s_columnCount, .int s_fullRank, .ref h_s_ranks, .ref h_s_signs, .ref h_s_members, .ref h_s_starts, .ref h_s_defects])), (h_s_ranks, .inl (cI, s_ranks_n, .inl s_ranks))] → va_S A s.heap H locs → ∀ ls : Array Slot, lv_has ls 4 [(0, .ref h_s), (2, .int v2_2), (3, .int v3_1)] → W p l e ({ frames := 0, cells := 0, slots := 0, locals := 0 } : Room) s m AR below meth c H locs 0 0 QQ (F0 m 4 ls [])) ?_ _ _ _ h _ _ hP hD hS _ (lv_sub hl [2, 1, 0] rfl)
  intro k_4 v3_1 v2_2 J_4 h H locs hP hD hS ls hl
  refine lv_iload_n hx hb d_St_widened_4 rfl (lv_at hl 2 rfl) ?_
  refine lv_aload_n hx hb d_St_widened_5 rfl (lv_at hl 0 rfl) ?_
  refine va_get (D := (dC, dI)) (ci := 2) (v := .int s_columnCount) (C := "BasisWalk$Study") (T := T_St) (N := 7) hx hb hts iw1 hown hK hP 0 rfl rfl 0 (by decide) fl0 (fun _ h9 => h9) rfl d_St_widened_6 ?_
  refine lv_icmp_ge (tgt := 43) hx hb d_St_widened_9 (by decide) (fun c_3 => ?_) (fun c_3 => ?_)
  · replace h := ck_if_t h c_3
    refine lv_iload_n hx hb d_St_widened_43 rfl (lv_at hl 1 rfl) ?_
    obtain rfl := Option.some.inj h
    subst hQ
    exact W.iret (v := v2_2) hx hb hr (fun t ht hW => ⟨⟨v2_2, (), rfl, rfl, by rw [ht]; exact hP, va_K.moved hW.alike hK, hD⟩, hS.F ht⟩) hS.2.2 d_St_widened_44
  · replace h := ck_if_f h c_3
    refine lv_aload_n hx hb d_St_widened_12 rfl (lv_at hl 0 rfl) ?_
    refine va_get (D := (dC, dI)) (ci := 2) (v := .ref h_s_ranks) (C := "BasisWalk$Study") (T := T_St) (N := 7) hx hb hts iw1 hown hK hP 0 rfl rfl 2 (by decide) fl2 (fun _ h9 => h9) rfl d_St_widened_13 ?_
    refine lv_iload_n hx hb d_St_widened_16 rfl (lv_at hl 1 rfl) ?_
    refine lv_iconst (v := 1) hx hb d_St_widened_17 (by decide) ?_
    refine lv_iload_n hx hb d_St_widened_18 rfl (lv_at hl 2 rfl) ?_
    refine lv_ishl hx hb d_St_widened_19 ?_
    refine lv_ior hx hb d_St_widened_20 ?_
    obtain ⟨g_4, h⟩ := ck_in_s h
    refine va_iald hx hb hK hP 1 0 rfl rfl g_4 d_St_widened_21 ?_
    refine lv_aload_n hx hb d_St_widened_22 rfl (lv_at hl 0 rfl) ?_
    refine va_get (D := (dC, dI)) (ci := 2) (v := .ref h_s_ranks) (C := "BasisWalk$Study") (T := T_St) (N := 7) hx hb hts iw1 hown hK hP 0 rfl rfl 2 (by decide) fl2 (fun _ h9 => h9) rfl d_St_widened_23 ?_
    refine lv_iload_n hx hb d_St_widened_26 rfl (lv_at hl 1 rfl) ?_
    obtain ⟨g_5, h⟩ := ck_in_s h
    refine va_iald hx hb hK hP 1 0 rfl rfl g_5 d_St_widened_27 ?_
    refine ck_jn_W h (fun k' => ∀ (v2_6 : Int32), k' v2_6 = some r → ∀ (H : Heap) (locs : List Loc), va_P (dC, dI) cl_all [(h_s, .inr (2, [.int s_columnCount, .int s_fullRank, .ref h_s_ranks, .ref h_s_signs, .ref h_s_members, .ref h_s_starts, .ref h_s_defects])), (h_s_ranks, .inl (cI, s_ranks_n, .inl s_ranks))] H → va_D A [(h_s, .inr (2, [.int s_columnCount, .int s_fullRank, .ref h_s_ranks, .ref h_s_signs, .ref h_s_members, .ref h_s_starts, .ref h_s_defects])), (h_s_ranks, .inl (cI, s_ranks_n, .inl s_ranks))] → va_S A s.heap H locs → ∀ ls : Array Slot, lv_has ls 4 [(0, .ref h_s), (2, .int v2_6), (3, .int v3_1)] → W p l e ({ frames := 0, cells := 0, slots := 0, locals := 0 } : Room) s m AR below meth c H locs 0 0 QQ (F0 m 37 ls [])) ?_ ?_
    · intro v2_6 h H locs hP hD hS ls hl
      obtain ⟨x_7, ex_7⟩ : ∃ y : Int32, y = v3_1 + 1 := ⟨_, rfl⟩
      replace h := ck_nm_s h ex_7
      refine lv_iinc (v := x_7) (lv' := [(3, .int x_7), (0, .ref h_s), (2, .int v2_6)]) hx hb d_St_widened_37 hl (k := 2) rfl (by rw [ex_7]; rfl) (by decide) rfl (fun ls hl => ?_)
      refine lv_goto (tgt := 4) hx hb d_St_widened_40 (by decide) ?_
      exact J_4 _ _ h _ _ hP hD hS _ (lv_sub hl [1, 2, 0] rfl)
    · intro k_37 J_37 h
      refine lv_icmp_le (tgt := 37) hx hb d_St_widened_28 (by decide) (fun c_8 => ?_) (fun c_8 => ?_)
      · replace h := ck_if_t h c_8
        exact J_37 _ h _ _ hP hD hS _ (lv_sub hl [0, 1, 2] rfl)
      · replace h := ck_if_f h c_8
        refine lv_iload_n hx hb d_St_widened_31 rfl (lv_at hl 1 rfl) ?_
        refine lv_iconst (v := 1) hx hb d_St_widened_32 (by decide) ?_
        refine lv_iload_n hx hb d_St_widened_33 rfl (lv_at hl 2 rfl) ?_
        refine lv_ishl hx hb d_St_widened_34 ?_
        refine lv_ior hx hb d_St_widened_35 ?_
        refine lv_topi (fun x_9 ex_9 => ?_)
        replace h := ck_nm_s h ex_9
        refine lv_istore_n (lv' := [(2, .int x_9), (0, .ref h_s), (3, .int v3_1)]) hx hb d_St_widened_36 rfl hl (by decide) rfl (fun ls hl => ?_)
        exact J_37 _ h _ _ hP hD hS _ (lv_sub hl [1, 0, 2] rfl)
theorem d_St_negativePart_0 : decode prog_4_method_6_code 0 = .ok (.aload_n 0, 1) := by decide +kernel
theorem d_St_negativePart_1 : decode prog_4_method_6_code 1 = .ok (.iload_n 1, 1) := by decide +kernel
theorem d_St_negativePart_2 : decode prog_4_method_6_code 2 = .ok (.invokevirtual 69, 3) := by decide +kernel
theorem d_St_negativePart_5 : decode prog_4_method_6_code 5 = .ok (.istore_n 2, 1) := by decide +kernel
theorem d_St_negativePart_6 : decode prog_4_method_6_code 6 = .ok (.iconst 0, 1) := by decide +kernel
theorem d_St_negativePart_7 : decode prog_4_method_6_code 7 = .ok (.istore_n 3, 1) := by decide +kernel
theorem d_St_negativePart_8 : decode prog_4_method_6_code 8 = .ok (.iconst 0, 1) := by decide +kernel
theorem d_St_negativePart_9 : decode prog_4_method_6_code 9 = .ok (.istore 4, 2) := by decide +kernel
theorem d_St_negativePart_11 : decode prog_4_method_6_code 11 = .ok (.iconst 1, 1) := by decide +kernel
theorem d_St_negativePart_12 : decode prog_4_method_6_code 12 = .ok (.istore 5, 2) := by decide +kernel
theorem d_St_negativePart_14 : decode prog_4_method_6_code 14 = .ok (.iconst 0, 1) := by decide +kernel
theorem d_St_negativePart_15 : decode prog_4_method_6_code 15 = .ok (.istore 6, 2) := by decide +kernel
theorem d_St_negativePart_17 : decode prog_4_method_6_code 17 = .ok (.iload 6, 2) := by decide +kernel
theorem d_St_negativePart_19 : decode prog_4_method_6_code 19 = .ok (.aload_n 0, 1) := by decide +kernel
theorem d_St_negativePart_20 : decode prog_4_method_6_code 20 = .ok (.getfield 33, 3) := by decide +kernel
theorem d_St_negativePart_23 : decode prog_4_method_6_code 23 = .ok (.if_icmp .ge 83, 3) := by decide +kernel
theorem d_St_negativePart_26 : decode prog_4_method_6_code 26 = .ok (.iconst 1, 1) := by decide +kernel
theorem d_St_negativePart_27 : decode prog_4_method_6_code 27 = .ok (.iload 6, 2) := by decide +kernel
theorem d_St_negativePart_29 : decode prog_4_method_6_code 29 = .ok (.ishl, 1) := by decide +kernel
theorem d_St_negativePart_30 : decode prog_4_method_6_code 30 = .ok (.istore 7, 2) := by decide +kernel
theorem d_St_negativePart_32 : decode prog_4_method_6_code 32 = .ok (.iload_n 1, 1) := by decide +kernel
theorem d_St_negativePart_33 : decode prog_4_method_6_code 33 = .ok (.iload 7, 2) := by decide +kernel
theorem d_St_negativePart_35 : decode prog_4_method_6_code 35 = .ok (.iand, 1) := by decide +kernel
theorem d_St_negativePart_36 : decode prog_4_method_6_code 36 = .ok (.ifCond .eq 47, 3) := by decide +kernel
theorem d_St_negativePart_39 : decode prog_4_method_6_code 39 = .ok (.iload 5, 2) := by decide +kernel
theorem d_St_negativePart_41 : decode prog_4_method_6_code 41 = .ok (.aload_n 0, 1) := by decide +kernel
theorem d_St_negativePart_42 : decode prog_4_method_6_code 42 = .ok (.getfield 15, 3) := by decide +kernel
theorem d_St_negativePart_45 : decode prog_4_method_6_code 45 = .ok (.iload_n 2, 1) := by decide +kernel
theorem d_St_negativePart_46 : decode prog_4_method_6_code 46 = .ok (.iload 7, 2) := by decide +kernel
theorem d_St_negativePart_48 : decode prog_4_method_6_code 48 = .ok (.ixor, 1) := by decide +kernel
theorem d_St_negativePart_49 : decode prog_4_method_6_code 49 = .ok (.iaload, 1) := by decide +kernel
theorem d_St_negativePart_50 : decode prog_4_method_6_code 50 = .ok (.imul, 1) := by decide +kernel
theorem d_St_negativePart_51 : decode prog_4_method_6_code 51 = .ok (.istore 8, 2) := by decide +kernel
theorem d_St_negativePart_53 : decode prog_4_method_6_code 53 = .ok (.iload 4, 2) := by decide +kernel
theorem d_St_negativePart_55 : decode prog_4_method_6_code 55 = .ok (.ifCond .ne 8, 3) := by decide +kernel
theorem d_St_negativePart_58 : decode prog_4_method_6_code 58 = .ok (.iload 8, 2) := by decide +kernel
theorem d_St_negativePart_60 : decode prog_4_method_6_code 60 = .ok (.goto 5, 3) := by decide +kernel
theorem d_St_negativePart_63 : decode prog_4_method_6_code 63 = .ok (.iload 4, 2) := by decide +kernel
theorem d_St_negativePart_65 : decode prog_4_method_6_code 65 = .ok (.istore 4, 2) := by decide +kernel
theorem d_St_negativePart_67 : decode prog_4_method_6_code 67 = .ok (.iload_n 3, 1) := by decide +kernel
theorem d_St_negativePart_68 : decode prog_4_method_6_code 68 = .ok (.iload 8, 2) := by decide +kernel
theorem d_St_negativePart_70 : decode prog_4_method_6_code 70 = .ok (.iload 4, 2) := by decide +kernel
theorem d_St_negativePart_72 : decode prog_4_method_6_code 72 = .ok (.if_icmp .ne 7, 3) := by decide +kernel
theorem d_St_negativePart_75 : decode prog_4_method_6_code 75 = .ok (.iconst 0, 1) := by decide +kernel
theorem d_St_negativePart_76 : decode prog_4_method_6_code 76 = .ok (.goto 5, 3) := by decide +kernel
theorem d_St_negativePart_79 : decode prog_4_method_6_code 79 = .ok (.iload 7, 2) := by decide +kernel
theorem d_St_negativePart_81 : decode prog_4_method_6_code 81 = .ok (.ior, 1) := by decide +kernel
theorem d_St_negativePart_82 : decode prog_4_method_6_code 82 = .ok (.istore_n 3, 1) := by decide +kernel
theorem d_St_negativePart_83 : decode prog_4_method_6_code 83 = .ok (.iload_n 2, 1) := by decide +kernel
theorem d_St_negativePart_84 : decode prog_4_method_6_code 84 = .ok (.iload 7, 2) := by decide +kernel
theorem d_St_negativePart_86 : decode prog_4_method_6_code 86 = .ok (.iand, 1) := by decide +kernel
theorem d_St_negativePart_87 : decode prog_4_method_6_code 87 = .ok (.ifCond .eq 9, 3) := by decide +kernel
theorem d_St_negativePart_90 : decode prog_4_method_6_code 90 = .ok (.iload 5, 2) := by decide +kernel
theorem d_St_negativePart_92 : decode prog_4_method_6_code 92 = .ok (.ineg, 1) := by decide +kernel
theorem d_St_negativePart_93 : decode prog_4_method_6_code 93 = .ok (.goto 5, 3) := by decide +kernel
theorem d_St_negativePart_96 : decode prog_4_method_6_code 96 = .ok (.iload 5, 2) := by decide +kernel
theorem d_St_negativePart_98 : decode prog_4_method_6_code 98 = .ok (.istore 5, 2) := by decide +kernel
theorem d_St_negativePart_100 : decode prog_4_method_6_code 100 = .ok (.iinc 6 1, 3) := by decide +kernel
theorem d_St_negativePart_103 : decode prog_4_method_6_code 103 = .ok (.goto (-86), 3) := by decide +kernel
theorem d_St_negativePart_106 : decode prog_4_method_6_code 106 = .ok (.iload_n 3, 1) := by decide +kernel
theorem d_St_negativePart_107 : decode prog_4_method_6_code 107 = .ok (.ireturn, 1) := by decide +kernel
def f_S_negativePart (s_columnCount : Int32) (s_ranks_n : Nat) (s_ranks : Nat → Int32) (s_signs_n : Nat) (s_signs : Nat → Int32) (cir : Int32) : Option (Int32) :=
  ck_b1 (f_S_widened s_columnCount s_ranks_n s_ranks cir) <| fun r_1 => lo4 (fun k_17 (v6_3 : Int32) (v5_4 : Int32) (v4_5 : Int32) (v3_6 : Int32) => ck_if (s_columnCount ≤ v6_3) (some v3_6) (ck_nm ((1 : Int32) <<< (v6_3 &&& 31)) <| fun x_8 => ck_jn (fun (v3_9 : Int32) (v4_10 : Int32) => ck_jn (fun (s0_11 : Int32) => ck_nm (v6_3 + 1) <| fun x_12 => k_17 x_12 s0_11 v4_10 v3_9) <| fun k_98 => ck_if ((r_1 &&& x_8) = 0) (k_98 v5_4) (k_98 (-v5_4))) <| fun k_83 => ck_if ((cir &&& x_8) = 0) (k_83 v3_6 v4_5) (ck_in (r_1 ^^^ x_8) s_signs_n <| ck_nm (v5_4 * (s_signs (r_1 ^^^ x_8).toNatClampNeg)) <| fun x_16 => ck_jn (fun (s0_17 : Int32) => ck_jn (fun (s0_18 : Int32) => ck_nm (v3_6 ||| s0_18) <| fun x_19 => k_83 x_19 s0_17) <| fun k_81 => ck_if (x_16 = s0_17) (k_81 0) (k_81 x_8)) <| fun k_65 => ck_if (v4_5 = 0) (k_65 x_16) (k_65 v4_5)))) ck_F 0 1 0 0
set_option maxHeartbeats 4000000 in
set_option maxRecDepth 100000 in
theorem c_S_negativePart (l : Launch) (dC : Nat → ClassId) (dI : Nat → Nat → Nat) (cI cJ cB cZ cT cN : ClassId) (sz : Nat) (h_s : Nat) (h_s_ranks : Nat) (h_s_signs : Nat) (h_s_members : Nat) (h_s_starts : Nat) (h_s_defects : Nat) (s_columnCount : Int32) (s_fullRank : Int32) (s_ranks_n : Nat) (s_ranks : Nat → Int32) (s_signs_n : Nat) (s_signs : Nat → Int32) (cir : Int32) (r : Int32) (h : f_S_negativePart s_columnCount s_ranks_n s_ranks s_signs_n s_signs cir = some r) : Met l y_St_negativePart w_St_negativePart ({ frames := 1, cells := 0, slots := 0, locals := 23 } : Room) (va_Pc [.ref h_s, .int cir] (fun U => U.heap.size = sz ∧ va_P (dC, dI) cl_all [(h_s, .inr (2, [.int s_columnCount, .int s_fullRank, .ref h_s_ranks, .ref h_s_signs, .ref h_s_members, .ref h_s_starts, .ref h_s_defects])), (h_s_ranks, .inl (cI, s_ranks_n, .inl s_ranks)), (h_s_signs, .inl (cI, s_signs_n, .inl s_signs))] U.heap ∧ va_K (dC, dI) cl_all [(cI, .int), (cJ, .long), (cB, .byte), (cZ, .boolean), (cT, .object "BasisWalk$Table"), (cN, .object "BasisWalkModel$Num")] U ∧ NW U ∧ va_D (fun _ => True) [(h_s, .inr (2, [.int s_columnCount, .int s_fullRank, .ref h_s_ranks, .ref h_s_signs, .ref h_s_members, .ref h_s_starts, .ref h_s_defects])), (h_s_ranks, .inl (cI, s_ranks_n, .inl s_ranks)), (h_s_signs, .inl (cI, s_signs_n, .inl s_signs))])) (va_Qi (fun (v : Int32) (_ : Unit) => v = r) (fun (u : Unit) (t : State) => va_P (dC, dI) cl_all [(h_s, .inr (2, [.int s_columnCount, .int s_fullRank, .ref h_s_ranks, .ref h_s_signs, .ref h_s_members, .ref h_s_starts, .ref h_s_defects])), (h_s_ranks, .inl (cI, s_ranks_n, .inl s_ranks)), (h_s_signs, .inl (cI, s_signs_n, .inl s_signs))] t.heap ∧ va_K (dC, dI) cl_all [(cI, .int), (cJ, .long), (cB, .byte), (cZ, .boolean), (cT, .object "BasisWalk$Table"), (cN, .object "BasisWalkModel$Num")] t ∧ va_D (va_A [(h_s, .inr (2, [.int s_columnCount, .int s_fullRank, .ref h_s_ranks, .ref h_s_signs, .ref h_s_members, .ref h_s_starts, .ref h_s_defects])), (h_s_ranks, .inl (cI, s_ranks_n, .inl s_ranks)), (h_s_signs, .inl (cI, s_signs_n, .inl s_signs))] sz) [(h_s, .inr (2, [.int s_columnCount, .int s_fullRank, .ref h_s_ranks, .ref h_s_signs, .ref h_s_members, .ref h_s_starts, .ref h_s_defects])), (h_s_ranks, .inl (cI, s_ranks_n, .inl s_ranks)), (h_s_signs, .inl (cI, s_signs_n, .inl s_signs))]) (va_A [(h_s, .inr (2, [.int s_columnCount, .int s_fullRank, .ref h_s_ranks, .ref h_s_signs, .ref h_s_members, .ref h_s_starts, .ref h_s_defects])), (h_s_ranks, .inl (cI, s_ranks_n, .inl s_ranks)), (h_s_signs, .inl (cI, s_signs_n, .inl s_signs))] sz)) 0 0 (va_A [(h_s, .inr (2, [.int s_columnCount, .int s_fullRank, .ref h_s_ranks, .ref h_s_signs, .ref h_s_members, .ref h_s_starts, .ref h_s_defects])), (h_s_ranks, .inl (cI, s_ranks_n, .inl s_ranks)), (h_s_signs, .inl (cI, s_signs_n, .inl s_signs))] sz) := by
  refine Met.ofW (cc := prog_4_method_6_code) (maxL := 9) (ret := (Option.some Jvm.ClassFile.FieldType.int)) (by decide) rfl ?_
  intro p e s m args below meth c s₁ B hml hv
  obtain ⟨hAR, hsz, hP, hK, hN, hD0⟩ := hv
  have hx := B.exec
  have hb := B.bytes
  have hr := B.returns
  have hts := atoms_spec (ws := w_St_negativePart) B.pre
  have hown : s.vm.findClass "BasisWalk$Study" = some m.cls := findClass_of_methodNamed B.named
  have hlocks := B.notSynchronized
  clear B
  subst hsz
  have hD := hD0.self (sz := s.heap.size)
  generalize hAe : va_A [(h_s, .inr (2, [.int s_columnCount, .int s_fullRank, .ref h_s_ranks, .ref h_s_signs, .ref h_s_members, .ref h_s_starts, .ref h_s_defects])), (h_s_ranks, .inl (cI, s_ranks_n, .inl s_ranks)), (h_s_signs, .inl (cI, s_signs_n, .inl s_signs))] s.heap.size = A at hD ⊢
  have hA : ∀ q : Nat, s.heap.size ≤ q → A q := fun q h => by rw [← hAe]; exact Or.inr h
  clear hAe hD0
  have hS : va_S A s.heap s.heap [] := va_S.rf
  have hl := lv_entry ([.ref h_s, .int cir]) (n := 9) (Nat.le_of_ble_eq_true rfl)
  subst hAR
  rw [lg_entry_eq]
  generalize (lg_sl ([.ref h_s, .int cir]) ++ List.replicate (9 - (lg_sl ([.ref h_s, .int cir])).length) Slot.unset).toArray = ls at hl ⊢
  have hl : lv_has ls 9 [(0, .ref h_s), (1, .int cir)] := hl
  change W p l e ({ frames := 1, cells := 0, slots := 0, locals := 23 } : Room) s m _ below meth c s.heap [] 0 0 _ _
  generalize hARe : ([.ref h_s, .int cir] : List Value).toArray = AR at hts ⊢
  clear hARe
  generalize hQ : MQ below _ AR s 0 0 A = QQ
  have fl0 := hts _ (List.mem_cons_of_mem _ tw_32)
  have iw1 := (fun w hw => List.mem_cons_of_mem _ (in_St w hw) : ∀ w ∈ u_ws "BasisWalk$Study" T_St 7, w ∈ w_St_negativePart)
  have fl2 := hts _ (List.mem_cons_of_mem _ tw_37)
  obtain ⟨H, hHe⟩ : ∃ H : Heap, H = s.heap := ⟨_, rfl⟩
  rw [← hHe] at hP ⊢
  replace hS : va_S A s.heap H [] := by rw [hHe]; exact va_S.rf
  clear hHe
  unfold f_S_negativePart at h
  refine lv_aload_n hx hb d_St_negativePart_0 rfl (lv_at hl 0 rfl) ?_
  refine lv_iload_n hx hb d_St_negativePart_1 rfl (lv_at hl 1 rfl) ?_
  obtain ⟨r_1, hc_2, h⟩ := ck_b1_s h
  have hPc := hP.sub (ws' := [(h_s, .inr (2, [.int s_columnCount, .int s_fullRank, .ref h_s_ranks, .ref h_s_signs, .ref h_s_members, .ref h_s_starts, .ref h_s_defects])), (h_s_ranks, .inl (cI, s_ranks_n, .inl s_ranks))]) [0, 1] rfl
  have hDc := hD.sub (ws' := [(h_s, .inr (2, [.int s_columnCount, .int s_fullRank, .ref h_s_ranks, .ref h_s_signs, .ref h_s_members, .ref h_s_starts, .ref h_s_defects])), (h_s_ranks, .inl (cI, s_ranks_n, .inl s_ranks))]) [0, 1] (by decide) rfl
  have hFc := va_free (wc := [(h_s, .inr (2, [.int s_columnCount, .int s_fullRank, .ref h_s_ranks, .ref h_s_signs, .ref h_s_members, .ref h_s_starts, .ref h_s_defects])), (h_s_ranks, .inl (cI, s_ranks_n, .inl s_ranks))]) hD hS hA [0, 1] rfl
  refine va_calli (va_runV (As := [.int cir]) (rest := []) ⟨hx, hb, hml, hown, hts⟩ (c_S_widened l dC dI cI cJ cB cZ cT cN H.size h_s h_s_ranks h_s_signs h_s_members h_s_starts h_s_defects s_columnCount s_fullRank s_ranks_n s_ranks cir _ hc_2) (cwV 1 hts (tb_V tw_326 tw_328 tp_17 tw_3 tw_329) rfl rfl rfl (by decide +kernel) ⟨Nat.le_of_ble_eq_true rfl, Nat.le_of_ble_eq_true rfl⟩) ⟨fun a U g mk q => by obtain ⟨q0, q1, qP, qK, qN, qD⟩ := q; exact ⟨q0, q1, qP, va_K.moved (u := U) (U := U.calling g mk a) (Vm.Alike.refl U.vm) qK, qN.same rfl, qD⟩, va_recv hK hPc (ci := 2) (q0 := 0) rfl rfl, fun U hU hW => ⟨rfl, by rw [hU], by rw [hU]; exact hPc, va_K.moved hW.alike hK, hN.warm hW, hDc.weaken (fun _ _ _ _ => trivial)⟩⟩ rfl rfl hl.1 rfl (lv_room (Nat.le_of_ble_eq_true rfl)) d_St_negativePart_2 ⟨Nat.zero_le _, Nat.zero_le _⟩) hS (fun q _ h => hFc q h) hFc (fun rr u t H1 locs ht hvm hw hB hz1 hk1 hS => ?_)
  replace hw := hw.symm
  subst hw
  obtain ⟨hP1, -, hD1⟩ := hB
  rw [ht] at hP1
  obtain ⟨hP, hD⟩ := va_join (wr := [(h_s_signs, .inl (cI, s_signs_n, .inl s_signs))]) (w1 := [(h_s, .inr (2, [.int s_columnCount, .int s_fullRank, .ref h_s_ranks, .ref h_s_signs, .ref h_s_members, .ref h_s_starts, .ref h_s_defects])), (h_s_ranks, .inl (cI, s_ranks_n, .inl s_ranks))]) hP hD [0, 1] [2] rfl rfl (by decide) (by decide) hk1 hFc hP1 hD1
  generalize H1 = H at hP hS ⊢
  have hP : va_P (dC, dI) cl_all [(h_s, .inr (2, [.int s_columnCount, .int s_fullRank, .ref h_s_ranks, .ref h_s_signs, .ref h_s_members, .ref h_s_starts, .ref h_s_defects])), (h_s_ranks, .inl (cI, s_ranks_n, .inl s_ranks)), (h_s_signs, .inl (cI, s_signs_n, .inl s_signs))] H := hP.sub [1, 2, 0] rfl
  have hD : va_D A [(h_s, .inr (2, [.int s_columnCount, .int s_fullRank, .ref h_s_ranks, .ref h_s_signs, .ref h_s_members, .ref h_s_starts, .ref h_s_defects])), (h_s_ranks, .inl (cI, s_ranks_n, .inl s_ranks)), (h_s_signs, .inl (cI, s_signs_n, .inl s_signs))] := hD.sub [1, 2, 0] (by decide) rfl
  refine lv_istore_n (lv' := [(2, .int r_1), (0, .ref h_s), (1, .int cir)]) hx hb d_St_negativePart_5 rfl hl (by decide) rfl (fun ls hl => ?_)
  refine lv_iconst (v := 0) hx hb d_St_negativePart_6 (by decide) ?_
  refine lv_istore_n (lv' := [(3, .int 0), (2, .int r_1), (0, .ref h_s), (1, .int cir)]) hx hb d_St_negativePart_7 rfl hl (by decide) rfl (fun ls hl => ?_)
  refine lv_iconst (v := 0) hx hb d_St_negativePart_8 (by decide) ?_
  refine lv_istore (lv' := [(4, .int 0), (3, .int 0), (2, .int r_1), (0, .ref h_s), (1, .int cir)]) hx hb d_St_negativePart_9 hl (by decide) rfl (fun ls hl => ?_)
  refine lv_iconst (v := 1) hx hb d_St_negativePart_11 (by decide) ?_
  refine lv_istore (lv' := [(5, .int 1), (4, .int 0), (3, .int 0), (2, .int r_1), (0, .ref h_s), (1, .int cir)]) hx hb d_St_negativePart_12 hl (by decide) rfl (fun ls hl => ?_)
  refine lv_iconst (v := 0) hx hb d_St_negativePart_14 (by decide) ?_
  refine lv_istore (lv' := [(6, .int 0), (5, .int 1), (4, .int 0), (3, .int 0), (2, .int r_1), (0, .ref h_s), (1, .int cir)]) hx hb d_St_negativePart_15 hl (by decide) rfl (fun ls hl => ?_)
  refine lo4_W (r := r) (fun (v6_3 : Int32) (v5_4 : Int32) (v4_5 : Int32) (v3_6 : Int32) => ∀ (H : Heap) (locs : List Loc), va_P (dC, dI) cl_all [(h_s, .inr (2, [.int s_columnCount, .int s_fullRank, .ref h_s_ranks, .ref h_s_signs, .ref h_s_members, .ref h_s_starts, .ref h_s_defects])), (h_s_ranks, .inl (cI, s_ranks_n, .inl s_ranks)), (h_s_signs, .inl (cI, s_signs_n, .inl s_signs))] H → va_D A [(h_s, .inr (2, [.int s_columnCount, .int s_fullRank, .ref h_s_ranks, .ref h_s_signs, .ref h_s_members, .ref h_s_starts, .ref h_s_defects])), (h_s_ranks, .inl (cI, s_ranks_n, .inl s_ranks)), (h_s_signs, .inl (cI, s_signs_n, .inl s_signs))] → va_S A s.heap H locs → ∀ ls : Array Slot, lv_has ls 9 [(0, .ref h_s), (1, .int cir), (2, .int r_1), (3, .int v3_6), (4, .int v4_5), (5, .int v5_4), (6, .int v6_3)] → W p l e ({ frames := 1, cells := 0, slots := 0, locals := 23 } : Room) s m AR below meth c H locs 0 0 QQ (F0 m 17 ls [])) ?_ _ _ _ _ _ h _ _ hP hD hS _ (lv_sub hl [5, 6, 4, 3, 2, 1, 0] rfl)
  intro k_17 v6_3 v5_4 v4_5 v3_6 J_17 h H locs hP hD hS ls hl
  refine lv_iload hx hb d_St_negativePart_17 (lv_at hl 6 rfl) ?_
  refine lv_aload_n hx hb d_St_negativePart_19 rfl (lv_at hl 0 rfl) ?_
  refine va_get (D := (dC, dI)) (ci := 2) (v := .int s_columnCount) (C := "BasisWalk$Study") (T := T_St) (N := 7) hx hb hts iw1 hown hK hP 0 rfl rfl 0 (by decide) fl0 (fun _ h9 => h9) rfl d_St_negativePart_20 ?_
  refine lv_icmp_ge (tgt := 106) hx hb d_St_negativePart_23 (by decide) (fun c_7 => ?_) (fun c_7 => ?_)
  · replace h := ck_if_t h c_7
    refine lv_iload_n hx hb d_St_negativePart_106 rfl (lv_at hl 3 rfl) ?_
    obtain rfl := Option.some.inj h
    subst hQ
    exact W.iret (v := v3_6) hx hb hr (fun t ht hW => ⟨⟨v3_6, (), rfl, rfl, by rw [ht]; exact hP, va_K.moved hW.alike hK, hD⟩, hS.F ht⟩) hS.2.2 d_St_negativePart_107
  · replace h := ck_if_f h c_7
    refine lv_iconst (v := 1) hx hb d_St_negativePart_26 (by decide) ?_
    refine lv_iload hx hb d_St_negativePart_27 (lv_at hl 6 rfl) ?_
    refine lv_ishl hx hb d_St_negativePart_29 ?_
    refine lv_topi (fun x_8 ex_8 => ?_)
    replace h := ck_nm_s h ex_8
    refine lv_istore (lv' := [(7, .int x_8), (0, .ref h_s), (1, .int cir), (2, .int r_1), (3, .int v3_6), (4, .int v4_5), (5, .int v5_4), (6, .int v6_3)]) hx hb d_St_negativePart_30 hl (by decide) rfl (fun ls hl => ?_)
    refine lv_iload_n hx hb d_St_negativePart_32 rfl (lv_at hl 2 rfl) ?_
    refine lv_iload hx hb d_St_negativePart_33 (lv_at hl 0 rfl) ?_
    refine lv_iand hx hb d_St_negativePart_35 ?_
    refine ck_jn_W h (fun k' => ∀ (v3_9 : Int32) (v4_10 : Int32), k' v3_9 v4_10 = some r → ∀ (H : Heap) (locs : List Loc), va_P (dC, dI) cl_all [(h_s, .inr (2, [.int s_columnCount, .int s_fullRank, .ref h_s_ranks, .ref h_s_signs, .ref h_s_members, .ref h_s_starts, .ref h_s_defects])), (h_s_ranks, .inl (cI, s_ranks_n, .inl s_ranks)), (h_s_signs, .inl (cI, s_signs_n, .inl s_signs))] H → va_D A [(h_s, .inr (2, [.int s_columnCount, .int s_fullRank, .ref h_s_ranks, .ref h_s_signs, .ref h_s_members, .ref h_s_starts, .ref h_s_defects])), (h_s_ranks, .inl (cI, s_ranks_n, .inl s_ranks)), (h_s_signs, .inl (cI, s_signs_n, .inl s_signs))] → va_S A s.heap H locs → ∀ ls : Array Slot, lv_has ls 9 [(0, .ref h_s), (1, .int cir), (2, .int r_1), (3, .int v3_9), (4, .int v4_10), (5, .int v5_4), (6, .int v6_3), (7, .int x_8)] → W p l e ({ frames := 1, cells := 0, slots := 0, locals := 23 } : Room) s m AR below meth c H locs 0 0 QQ (F0 m 83 ls [])) ?_ ?_
    · intro v3_9 v4_10 h H locs hP hD hS ls hl
      refine lv_iload_n hx hb d_St_negativePart_83 rfl (lv_at hl 2 rfl) ?_
      refine lv_iload hx hb d_St_negativePart_84 (lv_at hl 7 rfl) ?_
      refine lv_iand hx hb d_St_negativePart_86 ?_
      refine ck_jn_W h (fun k' => ∀ (s0_11 : Int32), k' s0_11 = some r → ∀ (H : Heap) (locs : List Loc), va_P (dC, dI) cl_all [(h_s, .inr (2, [.int s_columnCount, .int s_fullRank, .ref h_s_ranks, .ref h_s_signs, .ref h_s_members, .ref h_s_starts, .ref h_s_defects])), (h_s_ranks, .inl (cI, s_ranks_n, .inl s_ranks)), (h_s_signs, .inl (cI, s_signs_n, .inl s_signs))] H → va_D A [(h_s, .inr (2, [.int s_columnCount, .int s_fullRank, .ref h_s_ranks, .ref h_s_signs, .ref h_s_members, .ref h_s_starts, .ref h_s_defects])), (h_s_ranks, .inl (cI, s_ranks_n, .inl s_ranks)), (h_s_signs, .inl (cI, s_signs_n, .inl s_signs))] → va_S A s.heap H locs → ∀ ls : Array Slot, lv_has ls 9 [(0, .ref h_s), (1, .int cir), (2, .int r_1), (3, .int v3_9), (4, .int v4_10), (6, .int v6_3)] → W p l e ({ frames := 1, cells := 0, slots := 0, locals := 23 } : Room) s m AR below meth c H locs 0 0 QQ (F0 m 98 ls [.int s0_11])) ?_ ?_
      · intro s0_11 h H locs hP hD hS ls hl
        refine lv_istore (lv' := [(5, .int s0_11), (0, .ref h_s), (1, .int cir), (2, .int r_1), (3, .int v3_9), (4, .int v4_10), (6, .int v6_3)]) hx hb d_St_negativePart_98 hl (by decide) rfl (fun ls hl => ?_)
        obtain ⟨x_12, ex_12⟩ : ∃ y : Int32, y = v6_3 + 1 := ⟨_, rfl⟩
        replace h := ck_nm_s h ex_12
        refine lv_iinc (v := x_12) (lv' := [(6, .int x_12), (5, .int s0_11), (0, .ref h_s), (1, .int cir), (2, .int r_1), (3, .int v3_9), (4, .int v4_10)]) hx hb d_St_negativePart_100 hl (k := 6) rfl (by rw [ex_12]; rfl) (by decide) rfl (fun ls hl => ?_)
        refine lv_goto (tgt := 17) hx hb d_St_negativePart_103 (by decide) ?_
        exact J_17 _ _ _ _ h _ _ hP hD hS _ (lv_sub hl [2, 3, 4, 5, 6, 1, 0] rfl)
      · intro k_98 J_98 h
        refine lv_if_eq (tgt := 96) hx hb d_St_negativePart_87 (by decide) (fun c_13 => ?_) (fun c_13 => ?_)
        · replace h := ck_if_t h c_13
          refine lv_iload hx hb d_St_negativePart_96 (lv_at hl 5 rfl) ?_
          exact J_98 _ h _ _ hP hD hS _ (lv_sub hl [0, 1, 2, 3, 4, 6] rfl)
        · replace h := ck_if_f h c_13
          refine lv_iload hx hb d_St_negativePart_90 (lv_at hl 5 rfl) ?_
          refine lv_ineg hx hb d_St_negativePart_92 ?_
          refine lv_goto (tgt := 98) hx hb d_St_negativePart_93 (by decide) ?_
          exact J_98 _ h _ _ hP hD hS _ (lv_sub hl [0, 1, 2, 3, 4, 6] rfl)
    · intro k_83 J_83 h
      refine lv_if_eq (tgt := 83) hx hb d_St_negativePart_36 (by decide) (fun c_14 => ?_) (fun c_14 => ?_)
      · replace h := ck_if_t h c_14
        exact J_83 _ _ h _ _ hP hD hS _ (lv_sub hl [1, 2, 3, 4, 5, 6, 7, 0] rfl)
      · replace h := ck_if_f h c_14
        refine lv_iload hx hb d_St_negativePart_39 (lv_at hl 6 rfl) ?_
        refine lv_aload_n hx hb d_St_negativePart_41 rfl (lv_at hl 1 rfl) ?_
        refine va_get (D := (dC, dI)) (ci := 2) (v := .ref h_s_signs) (C := "BasisWalk$Study") (T := T_St) (N := 7) hx hb hts iw1 hown hK hP 0 rfl rfl 3 (by decide) fl2 (fun _ h9 => h9) rfl d_St_negativePart_42 ?_
        refine lv_iload_n hx hb d_St_negativePart_45 rfl (lv_at hl 3 rfl) ?_
        refine lv_iload hx hb d_St_negativePart_46 (lv_at hl 0 rfl) ?_
        refine lv_ixor hx hb d_St_negativePart_48 ?_
        obtain ⟨g_15, h⟩ := ck_in_s h
        refine va_iald hx hb hK hP 2 0 rfl rfl g_15 d_St_negativePart_49 ?_
        refine lv_imul hx hb d_St_negativePart_50 ?_
        refine lv_topi (fun x_16 ex_16 => ?_)
        replace h := ck_nm_s h ex_16
        refine lv_istore (lv' := [(8, .int x_16), (7, .int x_8), (0, .ref h_s), (1, .int cir), (2, .int r_1), (3, .int v3_6), (4, .int v4_5), (5, .int v5_4), (6, .int v6_3)]) hx hb d_St_negativePart_51 hl (by decide) rfl (fun ls hl => ?_)
        refine lv_iload hx hb d_St_negativePart_53 (lv_at hl 6 rfl) ?_
        refine ck_jn_W h (fun k' => ∀ (s0_17 : Int32), k' s0_17 = some r → ∀ (H : Heap) (locs : List Loc), va_P (dC, dI) cl_all [(h_s, .inr (2, [.int s_columnCount, .int s_fullRank, .ref h_s_ranks, .ref h_s_signs, .ref h_s_members, .ref h_s_starts, .ref h_s_defects])), (h_s_ranks, .inl (cI, s_ranks_n, .inl s_ranks)), (h_s_signs, .inl (cI, s_signs_n, .inl s_signs))] H → va_D A [(h_s, .inr (2, [.int s_columnCount, .int s_fullRank, .ref h_s_ranks, .ref h_s_signs, .ref h_s_members, .ref h_s_starts, .ref h_s_defects])), (h_s_ranks, .inl (cI, s_ranks_n, .inl s_ranks)), (h_s_signs, .inl (cI, s_signs_n, .inl s_signs))] → va_S A s.heap H locs → ∀ ls : Array Slot, lv_has ls 9 [(0, .ref h_s), (1, .int cir), (2, .int r_1), (3, .int v3_6), (5, .int v5_4), (6, .int v6_3), (7, .int x_8), (8, .int x_16)] → W p l e ({ frames := 1, cells := 0, slots := 0, locals := 23 } : Room) s m AR below meth c H locs 0 0 QQ (F0 m 65 ls [.int s0_17])) ?_ ?_
        · intro s0_17 h H locs hP hD hS ls hl
          refine lv_istore (lv' := [(4, .int s0_17), (0, .ref h_s), (1, .int cir), (2, .int r_1), (3, .int v3_6), (5, .int v5_4), (6, .int v6_3), (7, .int x_8), (8, .int x_16)]) hx hb d_St_negativePart_65 hl (by decide) rfl (fun ls hl => ?_)
          refine lv_iload_n hx hb d_St_negativePart_67 rfl (lv_at hl 4 rfl) ?_
          refine lv_iload hx hb d_St_negativePart_68 (lv_at hl 8 rfl) ?_
          refine lv_iload hx hb d_St_negativePart_70 (lv_at hl 0 rfl) ?_
          refine ck_jn_W h (fun k' => ∀ (s0_18 : Int32), k' s0_18 = some r → ∀ (H : Heap) (locs : List Loc), va_P (dC, dI) cl_all [(h_s, .inr (2, [.int s_columnCount, .int s_fullRank, .ref h_s_ranks, .ref h_s_signs, .ref h_s_members, .ref h_s_starts, .ref h_s_defects])), (h_s_ranks, .inl (cI, s_ranks_n, .inl s_ranks)), (h_s_signs, .inl (cI, s_signs_n, .inl s_signs))] H → va_D A [(h_s, .inr (2, [.int s_columnCount, .int s_fullRank, .ref h_s_ranks, .ref h_s_signs, .ref h_s_members, .ref h_s_starts, .ref h_s_defects])), (h_s_ranks, .inl (cI, s_ranks_n, .inl s_ranks)), (h_s_signs, .inl (cI, s_signs_n, .inl s_signs))] → va_S A s.heap H locs → ∀ ls : Array Slot, lv_has ls 9 [(0, .ref h_s), (1, .int cir), (2, .int r_1), (4, .int s0_17), (5, .int v5_4), (6, .int v6_3), (7, .int x_8)] → W p l e ({ frames := 1, cells := 0, slots := 0, locals := 23 } : Room) s m AR below meth c H locs 0 0 QQ (F0 m 81 ls [.int s0_18, .int v3_6])) ?_ ?_
          · intro s0_18 h H locs hP hD hS ls hl
            refine lv_ior hx hb d_St_negativePart_81 ?_
            refine lv_topi (fun x_19 ex_19 => ?_)
            replace h := ck_nm_s h ex_19
            refine lv_istore_n (lv' := [(3, .int x_19), (0, .ref h_s), (1, .int cir), (2, .int r_1), (4, .int s0_17), (5, .int v5_4), (6, .int v6_3), (7, .int x_8)]) hx hb d_St_negativePart_82 rfl hl (by decide) rfl (fun ls hl => ?_)
            exact J_83 _ _ h _ _ hP hD hS _ (lv_sub hl [1, 2, 3, 0, 4, 5, 6, 7] rfl)
          · intro k_81 J_81 h
            refine lv_icmp_ne (tgt := 79) hx hb d_St_negativePart_72 (by decide) (fun c_20 => ?_) (fun c_20 => ?_)
            · replace h := ck_if_f h c_20
              refine lv_iload hx hb d_St_negativePart_79 (lv_at hl 7 rfl) ?_
              exact J_81 _ h _ _ hP hD hS _ (lv_sub hl [1, 2, 3, 0, 5, 6, 7] rfl)
            · replace h := ck_if_t h c_20
              refine lv_iconst (v := 0) hx hb d_St_negativePart_75 (by decide) ?_
              refine lv_goto (tgt := 81) hx hb d_St_negativePart_76 (by decide) ?_
              exact J_81 _ h _ _ hP hD hS _ (lv_sub hl [1, 2, 3, 0, 5, 6, 7] rfl)
        · intro k_65 J_65 h
          refine lv_if_ne (tgt := 63) hx hb d_St_negativePart_55 (by decide) (fun c_21 => ?_) (fun c_21 => ?_)
          · replace h := ck_if_f h c_21
            refine lv_iload hx hb d_St_negativePart_63 (lv_at hl 6 rfl) ?_
            exact J_65 _ h _ _ hP hD hS _ (lv_sub hl [2, 3, 4, 5, 7, 8, 1, 0] rfl)
          · replace h := ck_if_t h c_21
            refine lv_iload hx hb d_St_negativePart_58 (lv_at hl 0 rfl) ?_
            refine lv_goto (tgt := 65) hx hb d_St_negativePart_60 (by decide) ?_
            exact J_65 _ h _ _ hP hD hS _ (lv_sub hl [2, 3, 4, 5, 7, 8, 1, 0] rfl)
theorem d_St_hasIndependentAbove_0 : decode prog_4_method_12_code 0 = .ok (.iconst 0, 1) := by decide +kernel
theorem d_St_hasIndependentAbove_1 : decode prog_4_method_12_code 1 = .ok (.istore_n 2, 1) := by decide +kernel
theorem d_St_hasIndependentAbove_2 : decode prog_4_method_12_code 2 = .ok (.iload_n 2, 1) := by decide +kernel
theorem d_St_hasIndependentAbove_3 : decode prog_4_method_12_code 3 = .ok (.aload_n 0, 1) := by decide +kernel
theorem d_St_hasIndependentAbove_4 : decode prog_4_method_12_code 4 = .ok (.getfield 33, 3) := by decide +kernel
theorem d_St_hasIndependentAbove_7 : decode prog_4_method_12_code 7 = .ok (.if_icmp .ge 32, 3) := by decide +kernel
theorem d_St_hasIndependentAbove_10 : decode prog_4_method_12_code 10 = .ok (.iload_n 1, 1) := by decide +kernel
theorem d_St_hasIndependentAbove_11 : decode prog_4_method_12_code 11 = .ok (.iconst 1, 1) := by decide +kernel
theorem d_St_hasIndependentAbove_12 : decode prog_4_method_12_code 12 = .ok (.iload_n 2, 1) := by decide +kernel
theorem d_St_hasIndependentAbove_13 : decode prog_4_method_12_code 13 = .ok (.ishl, 1) := by decide +kernel
theorem d_St_hasIndependentAbove_14 : decode prog_4_method_12_code 14 = .ok (.ior, 1) := by decide +kernel
theorem d_St_hasIndependentAbove_15 : decode prog_4_method_12_code 15 = .ok (.istore_n 3, 1) := by decide +kernel
theorem d_St_hasIndependentAbove_16 : decode prog_4_method_12_code 16 = .ok (.iload_n 3, 1) := by decide +kernel
theorem d_St_hasIndependentAbove_17 : decode prog_4_method_12_code 17 = .ok (.iload_n 1, 1) := by decide +kernel
theorem d_St_hasIndependentAbove_18 : decode prog_4_method_12_code 18 = .ok (.if_icmp .eq 15, 3) := by decide +kernel
theorem d_St_hasIndependentAbove_21 : decode prog_4_method_12_code 21 = .ok (.aload_n 0, 1) := by decide +kernel
theorem d_St_hasIndependentAbove_22 : decode prog_4_method_12_code 22 = .ok (.getfield 9, 3) := by decide +kernel
theorem d_St_hasIndependentAbove_25 : decode prog_4_method_12_code 25 = .ok (.iload_n 3, 1) := by decide +kernel
theorem d_St_hasIndependentAbove_26 : decode prog_4_method_12_code 26 = .ok (.iaload, 1) := by decide +kernel
theorem d_St_hasIndependentAbove_27 : decode prog_4_method_12_code 27 = .ok (.iconst (-1), 1) := by decide +kernel
theorem d_St_hasIndependentAbove_28 : decode prog_4_method_12_code 28 = .ok (.if_icmp .eq 5, 3) := by decide +kernel
theorem d_St_hasIndependentAbove_31 : decode prog_4_method_12_code 31 = .ok (.iconst 1, 1) := by decide +kernel
theorem d_St_hasIndependentAbove_32 : decode prog_4_method_12_code 32 = .ok (.ireturn, 1) := by decide +kernel
theorem d_St_hasIndependentAbove_33 : decode prog_4_method_12_code 33 = .ok (.iinc 2 1, 3) := by decide +kernel
theorem d_St_hasIndependentAbove_36 : decode prog_4_method_12_code 36 = .ok (.goto (-34), 3) := by decide +kernel
theorem d_St_hasIndependentAbove_39 : decode prog_4_method_12_code 39 = .ok (.iconst 0, 1) := by decide +kernel
theorem d_St_hasIndependentAbove_40 : decode prog_4_method_12_code 40 = .ok (.ireturn, 1) := by decide +kernel
def f_S_hasIndependentAbove (s_columnCount : Int32) (s_ranks_n : Nat) (s_ranks : Nat → Int32) (set : Int32) : Option (Int32) :=
  lo1 (fun k_2 (v2_1 : Int32) => ck_if (s_columnCount ≤ v2_1) (some 0) (ck_nm (set ||| ((1 : Int32) <<< (v2_1 &&& 31))) <| fun x_3 => ck_jn (fun (_ : Unit) => ck_nm (v2_1 + 1) <| fun x_4 => k_2 x_4) <| fun k_33 => ck_if (x_3 = set) (k_33 ()) (ck_in x_3 s_ranks_n <| ck_if ((s_ranks x_3.toNatClampNeg) = (-1)) (k_33 ()) (some 1)))) ck_F 0
set_option maxHeartbeats 4000000 in
set_option maxRecDepth 100000 in
theorem c_S_hasIndependentAbove (l : Launch) (dC : Nat → ClassId) (dI : Nat → Nat → Nat) (cI cJ cB cZ cT cN : ClassId) (sz : Nat) (h_s : Nat) (h_s_ranks : Nat) (h_s_signs : Nat) (h_s_members : Nat) (h_s_starts : Nat) (h_s_defects : Nat) (s_columnCount : Int32) (s_fullRank : Int32) (s_ranks_n : Nat) (s_ranks : Nat → Int32) (set : Int32) (r : Int32) (h : f_S_hasIndependentAbove s_columnCount s_ranks_n s_ranks set = some r) : Met l y_St_hasIndependentAbove w_St_hasIndependentAbove ({ frames := 0, cells := 0, slots := 0, locals := 0 } : Room) (va_Pc [.ref h_s, .int set] (fun U => U.heap.size = sz ∧ va_P (dC, dI) cl_all [(h_s, .inr (2, [.int s_columnCount, .int s_fullRank, .ref h_s_ranks, .ref h_s_signs, .ref h_s_members, .ref h_s_starts, .ref h_s_defects])), (h_s_ranks, .inl (cI, s_ranks_n, .inl s_ranks))] U.heap ∧ va_K (dC, dI) cl_all [(cI, .int), (cJ, .long), (cB, .byte), (cZ, .boolean), (cT, .object "BasisWalk$Table"), (cN, .object "BasisWalkModel$Num")] U ∧ NW U ∧ va_D (fun _ => True) [(h_s, .inr (2, [.int s_columnCount, .int s_fullRank, .ref h_s_ranks, .ref h_s_signs, .ref h_s_members, .ref h_s_starts, .ref h_s_defects])), (h_s_ranks, .inl (cI, s_ranks_n, .inl s_ranks))])) (va_Qi (fun (v : Int32) (_ : Unit) => v = r) (fun (u : Unit) (t : State) => va_P (dC, dI) cl_all [(h_s, .inr (2, [.int s_columnCount, .int s_fullRank, .ref h_s_ranks, .ref h_s_signs, .ref h_s_members, .ref h_s_starts, .ref h_s_defects])), (h_s_ranks, .inl (cI, s_ranks_n, .inl s_ranks))] t.heap ∧ va_K (dC, dI) cl_all [(cI, .int), (cJ, .long), (cB, .byte), (cZ, .boolean), (cT, .object "BasisWalk$Table"), (cN, .object "BasisWalkModel$Num")] t ∧ va_D (va_A [(h_s, .inr (2, [.int s_columnCount, .int s_fullRank, .ref h_s_ranks, .ref h_s_signs, .ref h_s_members, .ref h_s_starts, .ref h_s_defects])), (h_s_ranks, .inl (cI, s_ranks_n, .inl s_ranks))] sz) [(h_s, .inr (2, [.int s_columnCount, .int s_fullRank, .ref h_s_ranks, .ref h_s_signs, .ref h_s_members, .ref h_s_starts, .ref h_s_defects])), (h_s_ranks, .inl (cI, s_ranks_n, .inl s_ranks))]) (va_A [(h_s, .inr (2, [.int s_columnCount, .int s_fullRank, .ref h_s_ranks, .ref h_s_signs, .ref h_s_members, .ref h_s_starts, .ref h_s_defects])), (h_s_ranks, .inl (cI, s_ranks_n, .inl s_ranks))] sz)) 0 0 (va_A [(h_s, .inr (2, [.int s_columnCount, .int s_fullRank, .ref h_s_ranks, .ref h_s_signs, .ref h_s_members, .ref h_s_starts, .ref h_s_defects])), (h_s_ranks, .inl (cI, s_ranks_n, .inl s_ranks))] sz) := by
  refine Met.ofW (cc := prog_4_method_12_code) (maxL := 4) (ret := (Option.some Jvm.ClassFile.FieldType.boolean)) (by decide) rfl ?_
  intro p e s m args below meth c s₁ B hml hv
  obtain ⟨hAR, hsz, hP, hK, hN, hD0⟩ := hv
  have hx := B.exec
  have hb := B.bytes
  have hr := B.returns
  have hts := atoms_spec (ws := w_St_hasIndependentAbove) B.pre
  have hown : s.vm.findClass "BasisWalk$Study" = some m.cls := findClass_of_methodNamed B.named
  have hlocks := B.notSynchronized
  clear B
  subst hsz
  have hD := hD0.self (sz := s.heap.size)
  generalize hAe : va_A [(h_s, .inr (2, [.int s_columnCount, .int s_fullRank, .ref h_s_ranks, .ref h_s_signs, .ref h_s_members, .ref h_s_starts, .ref h_s_defects])), (h_s_ranks, .inl (cI, s_ranks_n, .inl s_ranks))] s.heap.size = A at hD ⊢
  have hA : ∀ q : Nat, s.heap.size ≤ q → A q := fun q h => by rw [← hAe]; exact Or.inr h
  clear hAe hD0
  have hS : va_S A s.heap s.heap [] := va_S.rf
  have hl := lv_entry ([.ref h_s, .int set]) (n := 4) (Nat.le_of_ble_eq_true rfl)
  subst hAR
  rw [lg_entry_eq]
  generalize (lg_sl ([.ref h_s, .int set]) ++ List.replicate (4 - (lg_sl ([.ref h_s, .int set])).length) Slot.unset).toArray = ls at hl ⊢
  have hl : lv_has ls 4 [(0, .ref h_s), (1, .int set)] := hl
  change W p l e ({ frames := 0, cells := 0, slots := 0, locals := 0 } : Room) s m _ below meth c s.heap [] 0 0 _ _
  generalize hARe : ([.ref h_s, .int set] : List Value).toArray = AR at hts ⊢
  clear hARe
  generalize hQ : MQ below _ AR s 0 0 A = QQ
  have fl0 := hts _ (List.mem_cons_of_mem _ tw_32)
  have iw1 := (fun w hw => List.mem_cons_of_mem _ (in_St w hw) : ∀ w ∈ u_ws "BasisWalk$Study" T_St 7, w ∈ w_St_hasIndependentAbove)
  have fl2 := hts _ (List.mem_cons_of_mem _ tw_35)
  obtain ⟨H, hHe⟩ : ∃ H : Heap, H = s.heap := ⟨_, rfl⟩
  rw [← hHe] at hP ⊢
  replace hS : va_S A s.heap H [] := by rw [hHe]; exact va_S.rf
  clear hHe
  unfold f_S_hasIndependentAbove at h
  refine lv_iconst (v := 0) hx hb d_St_hasIndependentAbove_0 (by decide) ?_
  refine lv_istore_n (lv' := [(2, .int 0), (0, .ref h_s), (1, .int set)]) hx hb d_St_hasIndependentAbove_1 rfl hl (by decide) rfl (fun ls hl => ?_)
  refine lo1_W (r := r) (fun (v2_1 : Int32) => ∀ (H : Heap) (locs : List Loc), va_P (dC, dI) cl_all [(h_s, .inr (2, [.int s_columnCount, .int s_fullRank, .ref h_s_ranks, .ref h_s_signs, .ref h_s_members, .ref h_s_starts, .ref h_s_defects])), (h_s_ranks, .inl (cI, s_ranks_n, .inl s_ranks))] H → va_D A [(h_s, .inr (2, [.int s_columnCount, .int s_fullRank, .ref h_s_ranks, .ref h_s_signs, .ref h_s_members, .ref h_s_starts, .ref h_s_defects])), (h_s_ranks, .inl (cI, s_ranks_n, .inl s_ranks))] → va_S A s.heap H locs → ∀ ls : Array Slot, lv_has ls 4 [(0, .ref h_s), (1, .int set), (2, .int v2_1)] → W p l e ({ frames := 0, cells := 0, slots := 0, locals := 0 } : Room) s m AR below meth c H locs 0 0 QQ (F0 m 2 ls [])) ?_ _ _ h _ _ hP hD hS _ (lv_sub hl [1, 2, 0] rfl)
  intro k_2 v2_1 J_2 h H locs hP hD hS ls hl
  refine lv_iload_n hx hb d_St_hasIndependentAbove_2 rfl (lv_at hl 2 rfl) ?_
  refine lv_aload_n hx hb d_St_hasIndependentAbove_3 rfl (lv_at hl 0 rfl) ?_
  refine va_get (D := (dC, dI)) (ci := 2) (v := .int s_columnCount) (C := "BasisWalk$Study") (T := T_St) (N := 7) hx hb hts iw1 hown hK hP 0 rfl rfl 0 (by decide) fl0 (fun _ h9 => h9) rfl d_St_hasIndependentAbove_4 ?_
  refine lv_icmp_ge (tgt := 39) hx hb d_St_hasIndependentAbove_7 (by decide) (fun c_2 => ?_) (fun c_2 => ?_)
  · replace h := ck_if_t h c_2
    refine lv_iconst (v := 0) hx hb d_St_hasIndependentAbove_39 (by decide) ?_
    obtain rfl := Option.some.inj h
    subst hQ
    exact W.zret (ty := .boolean) (v := 0) hx hb hr rfl (fun t ht hW => ⟨⟨0, (), rfl, rfl, by rw [ht]; exact hP, va_K.moved hW.alike hK, hD⟩, hS.F ht⟩) hS.2.2 d_St_hasIndependentAbove_40
  · replace h := ck_if_f h c_2
    refine lv_iload_n hx hb d_St_hasIndependentAbove_10 rfl (lv_at hl 1 rfl) ?_
    refine lv_iconst (v := 1) hx hb d_St_hasIndependentAbove_11 (by decide) ?_
    refine lv_iload_n hx hb d_St_hasIndependentAbove_12 rfl (lv_at hl 2 rfl) ?_
    refine lv_ishl hx hb d_St_hasIndependentAbove_13 ?_
    refine lv_ior hx hb d_St_hasIndependentAbove_14 ?_
    refine lv_topi (fun x_3 ex_3 => ?_)
    replace h := ck_nm_s h ex_3
    refine lv_istore_n (lv' := [(3, .int x_3), (0, .ref h_s), (1, .int set), (2, .int v2_1)]) hx hb d_St_hasIndependentAbove_15 rfl hl (by decide) rfl (fun ls hl => ?_)
    refine lv_iload_n hx hb d_St_hasIndependentAbove_16 rfl (lv_at hl 0 rfl) ?_
    refine lv_iload_n hx hb d_St_hasIndependentAbove_17 rfl (lv_at hl 2 rfl) ?_
    refine ck_jn_W h (fun k' => ∀ u : Unit, k' u = some r → ∀ (H : Heap) (locs : List Loc), va_P (dC, dI) cl_all [(h_s, .inr (2, [.int s_columnCount, .int s_fullRank, .ref h_s_ranks, .ref h_s_signs, .ref h_s_members, .ref h_s_starts, .ref h_s_defects])), (h_s_ranks, .inl (cI, s_ranks_n, .inl s_ranks))] H → va_D A [(h_s, .inr (2, [.int s_columnCount, .int s_fullRank, .ref h_s_ranks, .ref h_s_signs, .ref h_s_members, .ref h_s_starts, .ref h_s_defects])), (h_s_ranks, .inl (cI, s_ranks_n, .inl s_ranks))] → va_S A s.heap H locs → ∀ ls : Array Slot, lv_has ls 4 [(0, .ref h_s), (1, .int set), (2, .int v2_1)] → W p l e ({ frames := 0, cells := 0, slots := 0, locals := 0 } : Room) s m AR below meth c H locs 0 0 QQ (F0 m 33 ls [])) ?_ ?_
    · intro _ h H locs hP hD hS ls hl
      obtain ⟨x_4, ex_4⟩ : ∃ y : Int32, y = v2_1 + 1 := ⟨_, rfl⟩
      replace h := ck_nm_s h ex_4
      refine lv_iinc (v := x_4) (lv' := [(2, .int x_4), (0, .ref h_s), (1, .int set)]) hx hb d_St_hasIndependentAbove_33 hl (k := 2) rfl (by rw [ex_4]; rfl) (by decide) rfl (fun ls hl => ?_)
      refine lv_goto (tgt := 2) hx hb d_St_hasIndependentAbove_36 (by decide) ?_
      exact J_2 _ h _ _ hP hD hS _ (lv_sub hl [1, 2, 0] rfl)
    · intro k_33 J_33 h
      refine lv_icmp_eq (tgt := 33) hx hb d_St_hasIndependentAbove_18 (by decide) (fun c_5 => ?_) (fun c_5 => ?_)
      · replace h := ck_if_t h c_5
        exact J_33 _ h _ _ hP hD hS _ (lv_sub hl [1, 2, 3] rfl)
      · replace h := ck_if_f h c_5
        refine lv_aload_n hx hb d_St_hasIndependentAbove_21 rfl (lv_at hl 1 rfl) ?_
        refine va_get (D := (dC, dI)) (ci := 2) (v := .ref h_s_ranks) (C := "BasisWalk$Study") (T := T_St) (N := 7) hx hb hts iw1 hown hK hP 0 rfl rfl 2 (by decide) fl2 (fun _ h9 => h9) rfl d_St_hasIndependentAbove_22 ?_
        refine lv_iload_n hx hb d_St_hasIndependentAbove_25 rfl (lv_at hl 0 rfl) ?_
        obtain ⟨g_6, h⟩ := ck_in_s h
        refine va_iald hx hb hK hP 1 0 rfl rfl g_6 d_St_hasIndependentAbove_26 ?_
        refine lv_iconst (v := (-1)) hx hb d_St_hasIndependentAbove_27 (by decide) ?_
        refine lv_icmp_eq (tgt := 33) hx hb d_St_hasIndependentAbove_28 (by decide) (fun c_7 => ?_) (fun c_7 => ?_)
        · replace h := ck_if_t h c_7
          exact J_33 _ h _ _ hP hD hS _ (lv_sub hl [1, 2, 3] rfl)
        · replace h := ck_if_f h c_7
          refine lv_iconst (v := 1) hx hb d_St_hasIndependentAbove_31 (by decide) ?_
          obtain rfl := Option.some.inj h
          subst hQ
          exact W.zret (ty := .boolean) (v := 1) hx hb hr rfl (fun t ht hW => ⟨⟨1, (), rfl, rfl, by rw [ht]; exact hP, va_K.moved hW.alike hK, hD⟩, hS.F ht⟩) hS.2.2 d_St_hasIndependentAbove_32
theorem d_St_greatestRankUnder_0 : decode prog_4_method_14_code 0 = .ok (.iconst 0, 1) := by decide +kernel
theorem d_St_greatestRankUnder_1 : decode prog_4_method_14_code 1 = .ok (.istore_n 2, 1) := by decide +kernel
theorem d_St_greatestRankUnder_2 : decode prog_4_method_14_code 2 = .ok (.iconst 0, 1) := by decide +kernel
theorem d_St_greatestRankUnder_3 : decode prog_4_method_14_code 3 = .ok (.istore_n 3, 1) := by decide +kernel
theorem d_St_greatestRankUnder_4 : decode prog_4_method_14_code 4 = .ok (.iload_n 3, 1) := by decide +kernel
theorem d_St_greatestRankUnder_5 : decode prog_4_method_14_code 5 = .ok (.aload_n 0, 1) := by decide +kernel
theorem d_St_greatestRankUnder_6 : decode prog_4_method_14_code 6 = .ok (.getfield 33, 3) := by decide +kernel
theorem d_St_greatestRankUnder_9 : decode prog_4_method_14_code 9 = .ok (.if_icmp .ge 43, 3) := by decide +kernel
theorem d_St_greatestRankUnder_12 : decode prog_4_method_14_code 12 = .ok (.iload_n 1, 1) := by decide +kernel
theorem d_St_greatestRankUnder_13 : decode prog_4_method_14_code 13 = .ok (.iconst 1, 1) := by decide +kernel
theorem d_St_greatestRankUnder_14 : decode prog_4_method_14_code 14 = .ok (.iload_n 3, 1) := by decide +kernel
theorem d_St_greatestRankUnder_15 : decode prog_4_method_14_code 15 = .ok (.ishl, 1) := by decide +kernel
theorem d_St_greatestRankUnder_16 : decode prog_4_method_14_code 16 = .ok (.iconst (-1), 1) := by decide +kernel
theorem d_St_greatestRankUnder_17 : decode prog_4_method_14_code 17 = .ok (.ixor, 1) := by decide +kernel
theorem d_St_greatestRankUnder_18 : decode prog_4_method_14_code 18 = .ok (.iand, 1) := by decide +kernel
theorem d_St_greatestRankUnder_19 : decode prog_4_method_14_code 19 = .ok (.istore 4, 2) := by decide +kernel
theorem d_St_greatestRankUnder_21 : decode prog_4_method_14_code 21 = .ok (.iload 4, 2) := by decide +kernel
theorem d_St_greatestRankUnder_23 : decode prog_4_method_14_code 23 = .ok (.iload_n 1, 1) := by decide +kernel
theorem d_St_greatestRankUnder_24 : decode prog_4_method_14_code 24 = .ok (.if_icmp .eq 22, 3) := by decide +kernel
theorem d_St_greatestRankUnder_27 : decode prog_4_method_14_code 27 = .ok (.aload_n 0, 1) := by decide +kernel
theorem d_St_greatestRankUnder_28 : decode prog_4_method_14_code 28 = .ok (.getfield 9, 3) := by decide +kernel
theorem d_St_greatestRankUnder_31 : decode prog_4_method_14_code 31 = .ok (.iload 4, 2) := by decide +kernel
theorem d_St_greatestRankUnder_33 : decode prog_4_method_14_code 33 = .ok (.iaload, 1) := by decide +kernel
theorem d_St_greatestRankUnder_34 : decode prog_4_method_14_code 34 = .ok (.iload_n 2, 1) := by decide +kernel
theorem d_St_greatestRankUnder_35 : decode prog_4_method_14_code 35 = .ok (.if_icmp .le 11, 3) := by decide +kernel
theorem d_St_greatestRankUnder_38 : decode prog_4_method_14_code 38 = .ok (.aload_n 0, 1) := by decide +kernel
theorem d_St_greatestRankUnder_39 : decode prog_4_method_14_code 39 = .ok (.getfield 9, 3) := by decide +kernel
theorem d_St_greatestRankUnder_42 : decode prog_4_method_14_code 42 = .ok (.iload 4, 2) := by decide +kernel
theorem d_St_greatestRankUnder_44 : decode prog_4_method_14_code 44 = .ok (.iaload, 1) := by decide +kernel
theorem d_St_greatestRankUnder_45 : decode prog_4_method_14_code 45 = .ok (.istore_n 2, 1) := by decide +kernel
theorem d_St_greatestRankUnder_46 : decode prog_4_method_14_code 46 = .ok (.iinc 3 1, 3) := by decide +kernel
theorem d_St_greatestRankUnder_49 : decode prog_4_method_14_code 49 = .ok (.goto (-45), 3) := by decide +kernel
theorem d_St_greatestRankUnder_52 : decode prog_4_method_14_code 52 = .ok (.iload_n 2, 1) := by decide +kernel
theorem d_St_greatestRankUnder_53 : decode prog_4_method_14_code 53 = .ok (.ireturn, 1) := by decide +kernel
def f_S_greatestRankUnder (s_columnCount : Int32) (s_ranks_n : Nat) (s_ranks : Nat → Int32) (set : Int32) : Option (Int32) :=
  lo2 (fun k_4 (v3_1 : Int32) (v2_2 : Int32) => ck_if (s_columnCount ≤ v3_1) (some v2_2) (ck_nm (set &&& (((1 : Int32) <<< (v3_1 &&& 31)) ^^^ (-1))) <| fun x_4 => ck_jn (fun (v2_5 : Int32) => ck_nm (v3_1 + 1) <| fun x_6 => k_4 x_6 v2_5) <| fun k_46 => ck_if (x_4 = set) (k_46 v2_2) (ck_in x_4 s_ranks_n <| ck_if ((s_ranks x_4.toNatClampNeg) ≤ v2_2) (k_46 v2_2) (ck_in x_4 s_ranks_n <| ck_nm (s_ranks x_4.toNatClampNeg) <| fun x_11 => k_46 x_11)))) ck_F 0 0
set_option maxHeartbeats 4000000 in
set_option maxRecDepth 100000 in
theorem c_S_greatestRankUnder (l : Launch) (dC : Nat → ClassId) (dI : Nat → Nat → Nat) (cI cJ cB cZ cT cN : ClassId) (sz : Nat) (h_s : Nat) (h_s_ranks : Nat) (h_s_signs : Nat) (h_s_members : Nat) (h_s_starts : Nat) (h_s_defects : Nat) (s_columnCount : Int32) (s_fullRank : Int32) (s_ranks_n : Nat) (s_ranks : Nat → Int32) (set : Int32) (r : Int32) (h : f_S_greatestRankUnder s_columnCount s_ranks_n s_ranks set = some r) : Met l y_St_greatestRankUnder w_St_greatestRankUnder ({ frames := 0, cells := 0, slots := 0, locals := 0 } : Room) (va_Pc [.ref h_s, .int set] (fun U => U.heap.size = sz ∧ va_P (dC, dI) cl_all [(h_s, .inr (2, [.int s_columnCount, .int s_fullRank, .ref h_s_ranks, .ref h_s_signs, .ref h_s_members, .ref h_s_starts, .ref h_s_defects])), (h_s_ranks, .inl (cI, s_ranks_n, .inl s_ranks))] U.heap ∧ va_K (dC, dI) cl_all [(cI, .int), (cJ, .long), (cB, .byte), (cZ, .boolean), (cT, .object "BasisWalk$Table"), (cN, .object "BasisWalkModel$Num")] U ∧ NW U ∧ va_D (fun _ => True) [(h_s, .inr (2, [.int s_columnCount, .int s_fullRank, .ref h_s_ranks, .ref h_s_signs, .ref h_s_members, .ref h_s_starts, .ref h_s_defects])), (h_s_ranks, .inl (cI, s_ranks_n, .inl s_ranks))])) (va_Qi (fun (v : Int32) (_ : Unit) => v = r) (fun (u : Unit) (t : State) => va_P (dC, dI) cl_all [(h_s, .inr (2, [.int s_columnCount, .int s_fullRank, .ref h_s_ranks, .ref h_s_signs, .ref h_s_members, .ref h_s_starts, .ref h_s_defects])), (h_s_ranks, .inl (cI, s_ranks_n, .inl s_ranks))] t.heap ∧ va_K (dC, dI) cl_all [(cI, .int), (cJ, .long), (cB, .byte), (cZ, .boolean), (cT, .object "BasisWalk$Table"), (cN, .object "BasisWalkModel$Num")] t ∧ va_D (va_A [(h_s, .inr (2, [.int s_columnCount, .int s_fullRank, .ref h_s_ranks, .ref h_s_signs, .ref h_s_members, .ref h_s_starts, .ref h_s_defects])), (h_s_ranks, .inl (cI, s_ranks_n, .inl s_ranks))] sz) [(h_s, .inr (2, [.int s_columnCount, .int s_fullRank, .ref h_s_ranks, .ref h_s_signs, .ref h_s_members, .ref h_s_starts, .ref h_s_defects])), (h_s_ranks, .inl (cI, s_ranks_n, .inl s_ranks))]) (va_A [(h_s, .inr (2, [.int s_columnCount, .int s_fullRank, .ref h_s_ranks, .ref h_s_signs, .ref h_s_members, .ref h_s_starts, .ref h_s_defects])), (h_s_ranks, .inl (cI, s_ranks_n, .inl s_ranks))] sz)) 0 0 (va_A [(h_s, .inr (2, [.int s_columnCount, .int s_fullRank, .ref h_s_ranks, .ref h_s_signs, .ref h_s_members, .ref h_s_starts, .ref h_s_defects])), (h_s_ranks, .inl (cI, s_ranks_n, .inl s_ranks))] sz) := by
  refine Met.ofW (cc := prog_4_method_14_code) (maxL := 5) (ret := (Option.some Jvm.ClassFile.FieldType.int)) (by decide) rfl ?_
  intro p e s m args below meth c s₁ B hml hv
  obtain ⟨hAR, hsz, hP, hK, hN, hD0⟩ := hv
  have hx := B.exec
  have hb := B.bytes
  have hr := B.returns
  have hts := atoms_spec (ws := w_St_greatestRankUnder) B.pre
  have hown : s.vm.findClass "BasisWalk$Study" = some m.cls := findClass_of_methodNamed B.named
  have hlocks := B.notSynchronized
  clear B
  subst hsz
  have hD := hD0.self (sz := s.heap.size)
  generalize hAe : va_A [(h_s, .inr (2, [.int s_columnCount, .int s_fullRank, .ref h_s_ranks, .ref h_s_signs, .ref h_s_members, .ref h_s_starts, .ref h_s_defects])), (h_s_ranks, .inl (cI, s_ranks_n, .inl s_ranks))] s.heap.size = A at hD ⊢
  have hA : ∀ q : Nat, s.heap.size ≤ q → A q := fun q h => by rw [← hAe]; exact Or.inr h
  clear hAe hD0
  have hS : va_S A s.heap s.heap [] := va_S.rf
  have hl := lv_entry ([.ref h_s, .int set]) (n := 5) (Nat.le_of_ble_eq_true rfl)
  subst hAR
  rw [lg_entry_eq]
  generalize (lg_sl ([.ref h_s, .int set]) ++ List.replicate (5 - (lg_sl ([.ref h_s, .int set])).length) Slot.unset).toArray = ls at hl ⊢
  have hl : lv_has ls 5 [(0, .ref h_s), (1, .int set)] := hl
  change W p l e ({ frames := 0, cells := 0, slots := 0, locals := 0 } : Room) s m _ below meth c s.heap [] 0 0 _ _
  generalize hARe : ([.ref h_s, .int set] : List Value).toArray = AR at hts ⊢
  clear hARe
  generalize hQ : MQ below _ AR s 0 0 A = QQ
  have fl0 := hts _ (List.mem_cons_of_mem _ tw_32)
  have iw1 := (fun w hw => List.mem_cons_of_mem _ (in_St w hw) : ∀ w ∈ u_ws "BasisWalk$Study" T_St 7, w ∈ w_St_greatestRankUnder)
  have fl2 := hts _ (List.mem_cons_of_mem _ tw_35)
  obtain ⟨H, hHe⟩ : ∃ H : Heap, H = s.heap := ⟨_, rfl⟩
  rw [← hHe] at hP ⊢
  replace hS : va_S A s.heap H [] := by rw [hHe]; exact va_S.rf
  clear hHe
  unfold f_S_greatestRankUnder at h
  refine lv_iconst (v := 0) hx hb d_St_greatestRankUnder_0 (by decide) ?_
  refine lv_istore_n (lv' := [(2, .int 0), (0, .ref h_s), (1, .int set)]) hx hb d_St_greatestRankUnder_1 rfl hl (by decide) rfl (fun ls hl => ?_)
  refine lv_iconst (v := 0) hx hb d_St_greatestRankUnder_2 (by decide) ?_
  refine lv_istore_n (lv' := [(3, .int 0), (2, .int 0), (0, .ref h_s), (1, .int set)]) hx hb d_St_greatestRankUnder_3 rfl hl (by decide) rfl (fun ls hl => ?_)
  refine lo2_W (r := r) (fun (v3_1 : Int32) (v2_2 : Int32) => ∀ (H : Heap) (locs : List Loc), va_P (dC, dI) cl_all [(h_s, .inr (2, [.int s_columnCount, .int s_fullRank, .ref h_s_ranks, .ref h_s_signs, .ref h_s_members, .ref h_s_starts, .ref h_s_defects])), (h_s_ranks, .inl (cI, s_ranks_n, .inl s_ranks))] H → va_D A [(h_s, .inr (2, [.int s_columnCount, .int s_fullRank, .ref h_s_ranks, .ref h_s_signs, .ref h_s_members, .ref h_s_starts, .ref h_s_defects])), (h_s_ranks, .inl (cI, s_ranks_n, .inl s_ranks))] → va_S A s.heap H locs → ∀ ls : Array Slot, lv_has ls 5 [(0, .ref h_s), (1, .int set), (2, .int v2_2), (3, .int v3_1)] → W p l e ({ frames := 0, cells := 0, slots := 0, locals := 0 } : Room) s m AR below meth c H locs 0 0 QQ (F0 m 4 ls [])) ?_ _ _ _ h _ _ hP hD hS _ (lv_sub hl [2, 3, 1, 0] rfl)
  intro k_4 v3_1 v2_2 J_4 h H locs hP hD hS ls hl
  refine lv_iload_n hx hb d_St_greatestRankUnder_4 rfl (lv_at hl 3 rfl) ?_
  refine lv_aload_n hx hb d_St_greatestRankUnder_5 rfl (lv_at hl 0 rfl) ?_
  refine va_get (D := (dC, dI)) (ci := 2) (v := .int s_columnCount) (C := "BasisWalk$Study") (T := T_St) (N := 7) hx hb hts iw1 hown hK hP 0 rfl rfl 0 (by decide) fl0 (fun _ h9 => h9) rfl d_St_greatestRankUnder_6 ?_
  refine lv_icmp_ge (tgt := 52) hx hb d_St_greatestRankUnder_9 (by decide) (fun c_3 => ?_) (fun c_3 => ?_)
  · replace h := ck_if_t h c_3
    refine lv_iload_n hx hb d_St_greatestRankUnder_52 rfl (lv_at hl 2 rfl) ?_
    obtain rfl := Option.some.inj h
    subst hQ
    exact W.iret (v := v2_2) hx hb hr (fun t ht hW => ⟨⟨v2_2, (), rfl, rfl, by rw [ht]; exact hP, va_K.moved hW.alike hK, hD⟩, hS.F ht⟩) hS.2.2 d_St_greatestRankUnder_53
  · replace h := ck_if_f h c_3
    refine lv_iload_n hx hb d_St_greatestRankUnder_12 rfl (lv_at hl 1 rfl) ?_
    refine lv_iconst (v := 1) hx hb d_St_greatestRankUnder_13 (by decide) ?_
    refine lv_iload_n hx hb d_St_greatestRankUnder_14 rfl (lv_at hl 3 rfl) ?_
    refine lv_ishl hx hb d_St_greatestRankUnder_15 ?_
    refine lv_iconst (v := (-1)) hx hb d_St_greatestRankUnder_16 (by decide) ?_
    refine lv_ixor hx hb d_St_greatestRankUnder_17 ?_
    refine lv_iand hx hb d_St_greatestRankUnder_18 ?_
    refine lv_topi (fun x_4 ex_4 => ?_)
    replace h := ck_nm_s h ex_4
    refine lv_istore (lv' := [(4, .int x_4), (0, .ref h_s), (1, .int set), (2, .int v2_2), (3, .int v3_1)]) hx hb d_St_greatestRankUnder_19 hl (by decide) rfl (fun ls hl => ?_)
    refine lv_iload hx hb d_St_greatestRankUnder_21 (lv_at hl 0 rfl) ?_
    refine lv_iload_n hx hb d_St_greatestRankUnder_23 rfl (lv_at hl 2 rfl) ?_
    refine ck_jn_W h (fun k' => ∀ (v2_5 : Int32), k' v2_5 = some r → ∀ (H : Heap) (locs : List Loc), va_P (dC, dI) cl_all [(h_s, .inr (2, [.int s_columnCount, .int s_fullRank, .ref h_s_ranks, .ref h_s_signs, .ref h_s_members, .ref h_s_starts, .ref h_s_defects])), (h_s_ranks, .inl (cI, s_ranks_n, .inl s_ranks))] H → va_D A [(h_s, .inr (2, [.int s_columnCount, .int s_fullRank, .ref h_s_ranks, .ref h_s_signs, .ref h_s_members, .ref h_s_starts, .ref h_s_defects])), (h_s_ranks, .inl (cI, s_ranks_n, .inl s_ranks))] → va_S A s.heap H locs → ∀ ls : Array Slot, lv_has ls 5 [(0, .ref h_s), (1, .int set), (2, .int v2_5), (3, .int v3_1)] → W p l e ({ frames := 0, cells := 0, slots := 0, locals := 0 } : Room) s m AR below meth c H locs 0 0 QQ (F0 m 46 ls [])) ?_ ?_
    · intro v2_5 h H locs hP hD hS ls hl
      obtain ⟨x_6, ex_6⟩ : ∃ y : Int32, y = v3_1 + 1 := ⟨_, rfl⟩
      replace h := ck_nm_s h ex_6
      refine lv_iinc (v := x_6) (lv' := [(3, .int x_6), (0, .ref h_s), (1, .int set), (2, .int v2_5)]) hx hb d_St_greatestRankUnder_46 hl (k := 3) rfl (by rw [ex_6]; rfl) (by decide) rfl (fun ls hl => ?_)
      refine lv_goto (tgt := 4) hx hb d_St_greatestRankUnder_49 (by decide) ?_
      exact J_4 _ _ h _ _ hP hD hS _ (lv_sub hl [1, 2, 3, 0] rfl)
    · intro k_46 J_46 h
      refine lv_icmp_eq (tgt := 46) hx hb d_St_greatestRankUnder_24 (by decide) (fun c_7 => ?_) (fun c_7 => ?_)
      · replace h := ck_if_t h c_7
        exact J_46 _ h _ _ hP hD hS _ (lv_sub hl [1, 2, 3, 4] rfl)
      · replace h := ck_if_f h c_7
        refine lv_aload_n hx hb d_St_greatestRankUnder_27 rfl (lv_at hl 1 rfl) ?_
        refine va_get (D := (dC, dI)) (ci := 2) (v := .ref h_s_ranks) (C := "BasisWalk$Study") (T := T_St) (N := 7) hx hb hts iw1 hown hK hP 0 rfl rfl 2 (by decide) fl2 (fun _ h9 => h9) rfl d_St_greatestRankUnder_28 ?_
        refine lv_iload hx hb d_St_greatestRankUnder_31 (lv_at hl 0 rfl) ?_
        obtain ⟨g_8, h⟩ := ck_in_s h
        refine va_iald hx hb hK hP 1 0 rfl rfl g_8 d_St_greatestRankUnder_33 ?_
        refine lv_iload_n hx hb d_St_greatestRankUnder_34 rfl (lv_at hl 3 rfl) ?_
        refine lv_icmp_le (tgt := 46) hx hb d_St_greatestRankUnder_35 (by decide) (fun c_9 => ?_) (fun c_9 => ?_)
        · replace h := ck_if_t h c_9
          exact J_46 _ h _ _ hP hD hS _ (lv_sub hl [1, 2, 3, 4] rfl)
        · replace h := ck_if_f h c_9
          refine lv_aload_n hx hb d_St_greatestRankUnder_38 rfl (lv_at hl 1 rfl) ?_
          refine va_get (D := (dC, dI)) (ci := 2) (v := .ref h_s_ranks) (C := "BasisWalk$Study") (T := T_St) (N := 7) hx hb hts iw1 hown hK hP 0 rfl rfl 2 (by decide) fl2 (fun _ h9 => h9) rfl d_St_greatestRankUnder_39 ?_
          refine lv_iload hx hb d_St_greatestRankUnder_42 (lv_at hl 0 rfl) ?_
          obtain ⟨g_10, h⟩ := ck_in_s h
          refine va_iald hx hb hK hP 1 0 rfl rfl g_10 d_St_greatestRankUnder_44 ?_
          refine lv_topi (fun x_11 ex_11 => ?_)
          replace h := ck_nm_s h ex_11
          refine lv_istore_n (lv' := [(2, .int x_11), (4, .int x_4), (0, .ref h_s), (1, .int set), (3, .int v3_1)]) hx hb d_St_greatestRankUnder_45 rfl hl (by decide) rfl (fun ls hl => ?_)
          exact J_46 _ h _ _ hP hD hS _ (lv_sub hl [2, 3, 0, 4] rfl)
theorem d_St_isCircuit_0 : decode prog_4_method_18_code 0 = .ok (.iload_n 1, 1) := by decide +kernel
theorem d_St_isCircuit_1 : decode prog_4_method_18_code 1 = .ok (.invokestatic 94, 3) := by decide +kernel
theorem d_St_isCircuit_4 : decode prog_4_method_18_code 4 = .ok (.istore_n 2, 1) := by decide +kernel
theorem d_St_isCircuit_5 : decode prog_4_method_18_code 5 = .ok (.aload_n 0, 1) := by decide +kernel
theorem d_St_isCircuit_6 : decode prog_4_method_18_code 6 = .ok (.getfield 9, 3) := by decide +kernel
theorem d_St_isCircuit_9 : decode prog_4_method_18_code 9 = .ok (.iload_n 1, 1) := by decide +kernel
theorem d_St_isCircuit_10 : decode prog_4_method_18_code 10 = .ok (.iaload, 1) := by decide +kernel
theorem d_St_isCircuit_11 : decode prog_4_method_18_code 11 = .ok (.iload_n 2, 1) := by decide +kernel
theorem d_St_isCircuit_12 : decode prog_4_method_18_code 12 = .ok (.iconst 1, 1) := by decide +kernel
theorem d_St_isCircuit_13 : decode prog_4_method_18_code 13 = .ok (.isub, 1) := by decide +kernel
theorem d_St_isCircuit_14 : decode prog_4_method_18_code 14 = .ok (.if_icmp .eq 5, 3) := by decide +kernel
theorem d_St_isCircuit_17 : decode prog_4_method_18_code 17 = .ok (.iconst 0, 1) := by decide +kernel
theorem d_St_isCircuit_18 : decode prog_4_method_18_code 18 = .ok (.ireturn, 1) := by decide +kernel
theorem d_St_isCircuit_19 : decode prog_4_method_18_code 19 = .ok (.iconst 0, 1) := by decide +kernel
theorem d_St_isCircuit_20 : decode prog_4_method_18_code 20 = .ok (.istore_n 3, 1) := by decide +kernel
theorem d_St_isCircuit_21 : decode prog_4_method_18_code 21 = .ok (.iload_n 3, 1) := by decide +kernel
theorem d_St_isCircuit_22 : decode prog_4_method_18_code 22 = .ok (.aload_n 0, 1) := by decide +kernel
theorem d_St_isCircuit_23 : decode prog_4_method_18_code 23 = .ok (.getfield 33, 3) := by decide +kernel
theorem d_St_isCircuit_26 : decode prog_4_method_18_code 26 = .ok (.if_icmp .ge 39, 3) := by decide +kernel
theorem d_St_isCircuit_29 : decode prog_4_method_18_code 29 = .ok (.iload_n 1, 1) := by decide +kernel
theorem d_St_isCircuit_30 : decode prog_4_method_18_code 30 = .ok (.iconst 1, 1) := by decide +kernel
theorem d_St_isCircuit_31 : decode prog_4_method_18_code 31 = .ok (.iload_n 3, 1) := by decide +kernel
theorem d_St_isCircuit_32 : decode prog_4_method_18_code 32 = .ok (.ishl, 1) := by decide +kernel
theorem d_St_isCircuit_33 : decode prog_4_method_18_code 33 = .ok (.iconst (-1), 1) := by decide +kernel
theorem d_St_isCircuit_34 : decode prog_4_method_18_code 34 = .ok (.ixor, 1) := by decide +kernel
theorem d_St_isCircuit_35 : decode prog_4_method_18_code 35 = .ok (.iand, 1) := by decide +kernel
theorem d_St_isCircuit_36 : decode prog_4_method_18_code 36 = .ok (.istore 4, 2) := by decide +kernel
theorem d_St_isCircuit_38 : decode prog_4_method_18_code 38 = .ok (.iload 4, 2) := by decide +kernel
theorem d_St_isCircuit_40 : decode prog_4_method_18_code 40 = .ok (.iload_n 1, 1) := by decide +kernel
theorem d_St_isCircuit_41 : decode prog_4_method_18_code 41 = .ok (.if_icmp .eq 18, 3) := by decide +kernel
theorem d_St_isCircuit_44 : decode prog_4_method_18_code 44 = .ok (.aload_n 0, 1) := by decide +kernel
theorem d_St_isCircuit_45 : decode prog_4_method_18_code 45 = .ok (.getfield 9, 3) := by decide +kernel
theorem d_St_isCircuit_48 : decode prog_4_method_18_code 48 = .ok (.iload 4, 2) := by decide +kernel
theorem d_St_isCircuit_50 : decode prog_4_method_18_code 50 = .ok (.iaload, 1) := by decide +kernel
theorem d_St_isCircuit_51 : decode prog_4_method_18_code 51 = .ok (.iload_n 2, 1) := by decide +kernel
theorem d_St_isCircuit_52 : decode prog_4_method_18_code 52 = .ok (.iconst 1, 1) := by decide +kernel
theorem d_St_isCircuit_53 : decode prog_4_method_18_code 53 = .ok (.isub, 1) := by decide +kernel
theorem d_St_isCircuit_54 : decode prog_4_method_18_code 54 = .ok (.if_icmp .eq 5, 3) := by decide +kernel
theorem d_St_isCircuit_57 : decode prog_4_method_18_code 57 = .ok (.iconst 0, 1) := by decide +kernel
theorem d_St_isCircuit_58 : decode prog_4_method_18_code 58 = .ok (.ireturn, 1) := by decide +kernel
theorem d_St_isCircuit_59 : decode prog_4_method_18_code 59 = .ok (.iinc 3 1, 3) := by decide +kernel
theorem d_St_isCircuit_62 : decode prog_4_method_18_code 62 = .ok (.goto (-41), 3) := by decide +kernel
theorem d_St_isCircuit_65 : decode prog_4_method_18_code 65 = .ok (.iconst 1, 1) := by decide +kernel
theorem d_St_isCircuit_66 : decode prog_4_method_18_code 66 = .ok (.ireturn, 1) := by decide +kernel
def f_S_isCircuit (s_columnCount : Int32) (s_ranks_n : Nat) (s_ranks : Nat → Int32) (set : Int32) : Option (Int32) :=
  ck_b1 (f_bitCount set) <| fun r_1 => ck_in set s_ranks_n <| ck_if ((s_ranks set.toNatClampNeg) = (r_1 - 1)) (lo1 (fun k_21 (v3_5 : Int32) => ck_if (s_columnCount ≤ v3_5) (some 1) (ck_nm (set &&& (((1 : Int32) <<< (v3_5 &&& 31)) ^^^ (-1))) <| fun x_7 => ck_jn (fun (_ : Unit) => ck_nm (v3_5 + 1) <| fun x_8 => k_21 x_8) <| fun k_59 => ck_if (x_7 = set) (k_59 ()) (ck_in x_7 s_ranks_n <| ck_if ((s_ranks x_7.toNatClampNeg) = (r_1 - 1)) (k_59 ()) (some 0)))) ck_F 0) (some 0)
set_option maxHeartbeats 4000000 in
set_option maxRecDepth 100000 in
theorem c_S_isCircuit (l : Launch) (dC : Nat → ClassId) (dI : Nat → Nat → Nat) (cI cJ cB cZ cT cN : ClassId) (sz : Nat) (h_s : Nat) (h_s_ranks : Nat) (h_s_signs : Nat) (h_s_members : Nat) (h_s_starts : Nat) (h_s_defects : Nat) (s_columnCount : Int32) (s_fullRank : Int32) (s_ranks_n : Nat) (s_ranks : Nat → Int32) (set : Int32) (r : Int32) (h : f_S_isCircuit s_columnCount s_ranks_n s_ranks set = some r) : Met l y_St_isCircuit w_St_isCircuit ({ frames := 1, cells := 0, slots := 0, locals := 20 } : Room) (va_Pc [.ref h_s, .int set] (fun U => U.heap.size = sz ∧ va_P (dC, dI) cl_all [(h_s, .inr (2, [.int s_columnCount, .int s_fullRank, .ref h_s_ranks, .ref h_s_signs, .ref h_s_members, .ref h_s_starts, .ref h_s_defects])), (h_s_ranks, .inl (cI, s_ranks_n, .inl s_ranks))] U.heap ∧ va_K (dC, dI) cl_all [(cI, .int), (cJ, .long), (cB, .byte), (cZ, .boolean), (cT, .object "BasisWalk$Table"), (cN, .object "BasisWalkModel$Num")] U ∧ NW U ∧ va_D (fun _ => True) [(h_s, .inr (2, [.int s_columnCount, .int s_fullRank, .ref h_s_ranks, .ref h_s_signs, .ref h_s_members, .ref h_s_starts, .ref h_s_defects])), (h_s_ranks, .inl (cI, s_ranks_n, .inl s_ranks))])) (va_Qi (fun (v : Int32) (_ : Unit) => v = r) (fun (u : Unit) (t : State) => va_P (dC, dI) cl_all [(h_s, .inr (2, [.int s_columnCount, .int s_fullRank, .ref h_s_ranks, .ref h_s_signs, .ref h_s_members, .ref h_s_starts, .ref h_s_defects])), (h_s_ranks, .inl (cI, s_ranks_n, .inl s_ranks))] t.heap ∧ va_K (dC, dI) cl_all [(cI, .int), (cJ, .long), (cB, .byte), (cZ, .boolean), (cT, .object "BasisWalk$Table"), (cN, .object "BasisWalkModel$Num")] t ∧ va_D (va_A [(h_s, .inr (2, [.int s_columnCount, .int s_fullRank, .ref h_s_ranks, .ref h_s_signs, .ref h_s_members, .ref h_s_starts, .ref h_s_defects])), (h_s_ranks, .inl (cI, s_ranks_n, .inl s_ranks))] sz) [(h_s, .inr (2, [.int s_columnCount, .int s_fullRank, .ref h_s_ranks, .ref h_s_signs, .ref h_s_members, .ref h_s_starts, .ref h_s_defects])), (h_s_ranks, .inl (cI, s_ranks_n, .inl s_ranks))]) (va_A [(h_s, .inr (2, [.int s_columnCount, .int s_fullRank, .ref h_s_ranks, .ref h_s_signs, .ref h_s_members, .ref h_s_starts, .ref h_s_defects])), (h_s_ranks, .inl (cI, s_ranks_n, .inl s_ranks))] sz)) 0 0 (va_A [(h_s, .inr (2, [.int s_columnCount, .int s_fullRank, .ref h_s_ranks, .ref h_s_signs, .ref h_s_members, .ref h_s_starts, .ref h_s_defects])), (h_s_ranks, .inl (cI, s_ranks_n, .inl s_ranks))] sz) := by
  refine Met.ofW (cc := prog_4_method_18_code) (maxL := 5) (ret := (Option.some Jvm.ClassFile.FieldType.boolean)) (by decide) rfl ?_
  intro p e s m args below meth c s₁ B hml hv
  obtain ⟨hAR, hsz, hP, hK, hN, hD0⟩ := hv
  have hx := B.exec
  have hb := B.bytes
  have hr := B.returns
  have hts := atoms_spec (ws := w_St_isCircuit) B.pre
  have hown : s.vm.findClass "BasisWalk$Study" = some m.cls := findClass_of_methodNamed B.named
  have hlocks := B.notSynchronized
  clear B
  subst hsz
  have hD := hD0.self (sz := s.heap.size)
  generalize hAe : va_A [(h_s, .inr (2, [.int s_columnCount, .int s_fullRank, .ref h_s_ranks, .ref h_s_signs, .ref h_s_members, .ref h_s_starts, .ref h_s_defects])), (h_s_ranks, .inl (cI, s_ranks_n, .inl s_ranks))] s.heap.size = A at hD ⊢
  have hA : ∀ q : Nat, s.heap.size ≤ q → A q := fun q h => by rw [← hAe]; exact Or.inr h
  clear hAe hD0
  have hS : va_S A s.heap s.heap [] := va_S.rf
  have hl := lv_entry ([.ref h_s, .int set]) (n := 5) (Nat.le_of_ble_eq_true rfl)
  subst hAR
  rw [lg_entry_eq]
  generalize (lg_sl ([.ref h_s, .int set]) ++ List.replicate (5 - (lg_sl ([.ref h_s, .int set])).length) Slot.unset).toArray = ls at hl ⊢
  have hl : lv_has ls 5 [(0, .ref h_s), (1, .int set)] := hl
  change W p l e ({ frames := 1, cells := 0, slots := 0, locals := 20 } : Room) s m _ below meth c s.heap [] 0 0 _ _
  generalize hARe : ([.ref h_s, .int set] : List Value).toArray = AR at hts ⊢
  clear hARe
  generalize hQ : MQ below _ AR s 0 0 A = QQ
  have fl0 := hts _ (List.mem_cons_of_mem _ tw_35)
  have iw1 := (fun w hw => List.mem_cons_of_mem _ (in_St w hw) : ∀ w ∈ u_ws "BasisWalk$Study" T_St 7, w ∈ w_St_isCircuit)
  have fl2 := hts _ (List.mem_cons_of_mem _ tw_32)
  obtain ⟨H, hHe⟩ : ∃ H : Heap, H = s.heap := ⟨_, rfl⟩
  rw [← hHe] at hP ⊢
  replace hS : va_S A s.heap H [] := by rw [hHe]; exact va_S.rf
  clear hHe
  unfold f_S_isCircuit at h
  refine lv_iload_n hx hb d_St_isCircuit_0 rfl (lv_at hl 1 rfl) ?_
  obtain ⟨r_1, hc_2, h⟩ := ck_b1_s h
  have hPc := hP.sub (ws' := []) [] rfl
  have hDc := hD.sub (ws' := []) [] (by decide) rfl
  have hFc := va_free (wc := []) hD hS hA [] rfl
  refine va_calli (va_runS (As := [.int set]) (rest := []) ⟨hx, hb, hml, hown, hts⟩ (c_bitCount l dC dI cI cJ cB cZ cT cN H.size set _ hc_2) (va_cwS 1 hts (tb_S tw_247 tw_196 tw_10 tw_197) rfl rfl rfl (by decide +kernel) ⟨Nat.le_of_ble_eq_true rfl, Nat.le_of_ble_eq_true rfl⟩) ⟨fun a U g mk q => by obtain ⟨q0, q1, qP, qK, qN, qD⟩ := q; exact ⟨q0, q1, qP, va_K.moved (u := U) (U := U.calling g mk a) (Vm.Alike.refl U.vm) qK, qN.same rfl, qD⟩, fun U hU hW => ⟨rfl, by rw [hU], by rw [hU]; exact hPc, va_K.moved hW.alike hK, hN.warm hW, hDc.weaken (fun _ _ _ _ => trivial)⟩⟩ rfl rfl hl.1 rfl (lv_room (Nat.le_of_ble_eq_true rfl)) d_St_isCircuit_1 ⟨Nat.zero_le _, Nat.zero_le _⟩) hS (fun q _ h => hFc q h) hFc (fun rr u t H1 locs ht hvm hw hB hz1 hk1 hS => ?_)
  replace hw := hw.symm
  subst hw
  obtain ⟨hP1, -, hD1⟩ := hB
  rw [ht] at hP1
  obtain ⟨hP, hD⟩ := va_join (wr := [(h_s, .inr (2, [.int s_columnCount, .int s_fullRank, .ref h_s_ranks, .ref h_s_signs, .ref h_s_members, .ref h_s_starts, .ref h_s_defects])), (h_s_ranks, .inl (cI, s_ranks_n, .inl s_ranks))]) (w1 := []) hP hD [] [0, 1] rfl rfl (by decide) (by decide) hk1 hFc hP1 hD1
  generalize H1 = H at hP hS ⊢
  have hP : va_P (dC, dI) cl_all [(h_s, .inr (2, [.int s_columnCount, .int s_fullRank, .ref h_s_ranks, .ref h_s_signs, .ref h_s_members, .ref h_s_starts, .ref h_s_defects])), (h_s_ranks, .inl (cI, s_ranks_n, .inl s_ranks))] H := hP.sub [0, 1] rfl
  have hD : va_D A [(h_s, .inr (2, [.int s_columnCount, .int s_fullRank, .ref h_s_ranks, .ref h_s_signs, .ref h_s_members, .ref h_s_starts, .ref h_s_defects])), (h_s_ranks, .inl (cI, s_ranks_n, .inl s_ranks))] := hD.sub [0, 1] (by decide) rfl
  refine lv_istore_n (lv' := [(2, .int r_1), (0, .ref h_s), (1, .int set)]) hx hb d_St_isCircuit_4 rfl hl (by decide) rfl (fun ls hl => ?_)
  refine lv_aload_n hx hb d_St_isCircuit_5 rfl (lv_at hl 1 rfl) ?_
  refine va_get (D := (dC, dI)) (ci := 2) (v := .ref h_s_ranks) (C := "BasisWalk$Study") (T := T_St) (N := 7) hx hb hts iw1 hown hK hP 0 rfl rfl 2 (by decide) fl0 (fun _ h9 => h9) rfl d_St_isCircuit_6 ?_
  refine lv_iload_n hx hb d_St_isCircuit_9 rfl (lv_at hl 2 rfl) ?_
  obtain ⟨g_3, h⟩ := ck_in_s h
  refine va_iald hx hb hK hP 1 0 rfl rfl g_3 d_St_isCircuit_10 ?_
  refine lv_iload_n hx hb d_St_isCircuit_11 rfl (lv_at hl 0 rfl) ?_
  refine lv_iconst (v := 1) hx hb d_St_isCircuit_12 (by decide) ?_
  refine lv_isub hx hb d_St_isCircuit_13 ?_
  refine lv_icmp_eq (tgt := 19) hx hb d_St_isCircuit_14 (by decide) (fun c_4 => ?_) (fun c_4 => ?_)
  · replace h := ck_if_t h c_4
    refine lv_iconst (v := 0) hx hb d_St_isCircuit_19 (by decide) ?_
    refine lv_istore_n (lv' := [(3, .int 0), (2, .int r_1), (0, .ref h_s), (1, .int set)]) hx hb d_St_isCircuit_20 rfl hl (by decide) rfl (fun ls hl => ?_)
    refine lo1_W (r := r) (fun (v3_5 : Int32) => ∀ (H : Heap) (locs : List Loc), va_P (dC, dI) cl_all [(h_s, .inr (2, [.int s_columnCount, .int s_fullRank, .ref h_s_ranks, .ref h_s_signs, .ref h_s_members, .ref h_s_starts, .ref h_s_defects])), (h_s_ranks, .inl (cI, s_ranks_n, .inl s_ranks))] H → va_D A [(h_s, .inr (2, [.int s_columnCount, .int s_fullRank, .ref h_s_ranks, .ref h_s_signs, .ref h_s_members, .ref h_s_starts, .ref h_s_defects])), (h_s_ranks, .inl (cI, s_ranks_n, .inl s_ranks))] → va_S A s.heap H locs → ∀ ls : Array Slot, lv_has ls 5 [(0, .ref h_s), (1, .int set), (2, .int r_1), (3, .int v3_5)] → W p l e ({ frames := 1, cells := 0, slots := 0, locals := 20 } : Room) s m AR below meth c H locs 0 0 QQ (F0 m 21 ls [])) ?_ _ _ h _ _ hP hD hS _ (lv_sub hl [2, 3, 1, 0] rfl)
    intro k_21 v3_5 J_21 h H locs hP hD hS ls hl
    refine lv_iload_n hx hb d_St_isCircuit_21 rfl (lv_at hl 3 rfl) ?_
    refine lv_aload_n hx hb d_St_isCircuit_22 rfl (lv_at hl 0 rfl) ?_
    refine va_get (D := (dC, dI)) (ci := 2) (v := .int s_columnCount) (C := "BasisWalk$Study") (T := T_St) (N := 7) hx hb hts iw1 hown hK hP 0 rfl rfl 0 (by decide) fl2 (fun _ h9 => h9) rfl d_St_isCircuit_23 ?_
    refine lv_icmp_ge (tgt := 65) hx hb d_St_isCircuit_26 (by decide) (fun c_6 => ?_) (fun c_6 => ?_)
    · replace h := ck_if_t h c_6
      refine lv_iconst (v := 1) hx hb d_St_isCircuit_65 (by decide) ?_
      obtain rfl := Option.some.inj h
      subst hQ
      exact W.zret (ty := .boolean) (v := 1) hx hb hr rfl (fun t ht hW => ⟨⟨1, (), rfl, rfl, by rw [ht]; exact hP, va_K.moved hW.alike hK, hD⟩, hS.F ht⟩) hS.2.2 d_St_isCircuit_66
    · replace h := ck_if_f h c_6
      refine lv_iload_n hx hb d_St_isCircuit_29 rfl (lv_at hl 1 rfl) ?_
      refine lv_iconst (v := 1) hx hb d_St_isCircuit_30 (by decide) ?_
      refine lv_iload_n hx hb d_St_isCircuit_31 rfl (lv_at hl 3 rfl) ?_
      refine lv_ishl hx hb d_St_isCircuit_32 ?_
      refine lv_iconst (v := (-1)) hx hb d_St_isCircuit_33 (by decide) ?_
      refine lv_ixor hx hb d_St_isCircuit_34 ?_
      refine lv_iand hx hb d_St_isCircuit_35 ?_
      refine lv_topi (fun x_7 ex_7 => ?_)
      replace h := ck_nm_s h ex_7
      refine lv_istore (lv' := [(4, .int x_7), (0, .ref h_s), (1, .int set), (2, .int r_1), (3, .int v3_5)]) hx hb d_St_isCircuit_36 hl (by decide) rfl (fun ls hl => ?_)
      refine lv_iload hx hb d_St_isCircuit_38 (lv_at hl 0 rfl) ?_
      refine lv_iload_n hx hb d_St_isCircuit_40 rfl (lv_at hl 2 rfl) ?_
      refine ck_jn_W h (fun k' => ∀ u : Unit, k' u = some r → ∀ (H : Heap) (locs : List Loc), va_P (dC, dI) cl_all [(h_s, .inr (2, [.int s_columnCount, .int s_fullRank, .ref h_s_ranks, .ref h_s_signs, .ref h_s_members, .ref h_s_starts, .ref h_s_defects])), (h_s_ranks, .inl (cI, s_ranks_n, .inl s_ranks))] H → va_D A [(h_s, .inr (2, [.int s_columnCount, .int s_fullRank, .ref h_s_ranks, .ref h_s_signs, .ref h_s_members, .ref h_s_starts, .ref h_s_defects])), (h_s_ranks, .inl (cI, s_ranks_n, .inl s_ranks))] → va_S A s.heap H locs → ∀ ls : Array Slot, lv_has ls 5 [(0, .ref h_s), (1, .int set), (2, .int r_1), (3, .int v3_5)] → W p l e ({ frames := 1, cells := 0, slots := 0, locals := 20 } : Room) s m AR below meth c H locs 0 0 QQ (F0 m 59 ls [])) ?_ ?_
      · intro _ h H locs hP hD hS ls hl
        obtain ⟨x_8, ex_8⟩ : ∃ y : Int32, y = v3_5 + 1 := ⟨_, rfl⟩
        replace h := ck_nm_s h ex_8
        refine lv_iinc (v := x_8) (lv' := [(3, .int x_8), (0, .ref h_s), (1, .int set), (2, .int r_1)]) hx hb d_St_isCircuit_59 hl (k := 3) rfl (by rw [ex_8]; rfl) (by decide) rfl (fun ls hl => ?_)
        refine lv_goto (tgt := 21) hx hb d_St_isCircuit_62 (by decide) ?_
        exact J_21 _ h _ _ hP hD hS _ (lv_sub hl [1, 2, 3, 0] rfl)
      · intro k_59 J_59 h
        refine lv_icmp_eq (tgt := 59) hx hb d_St_isCircuit_41 (by decide) (fun c_9 => ?_) (fun c_9 => ?_)
        · replace h := ck_if_t h c_9
          exact J_59 _ h _ _ hP hD hS _ (lv_sub hl [1, 2, 3, 4] rfl)
        · replace h := ck_if_f h c_9
          refine lv_aload_n hx hb d_St_isCircuit_44 rfl (lv_at hl 1 rfl) ?_
          refine va_get (D := (dC, dI)) (ci := 2) (v := .ref h_s_ranks) (C := "BasisWalk$Study") (T := T_St) (N := 7) hx hb hts iw1 hown hK hP 0 rfl rfl 2 (by decide) fl0 (fun _ h9 => h9) rfl d_St_isCircuit_45 ?_
          refine lv_iload hx hb d_St_isCircuit_48 (lv_at hl 0 rfl) ?_
          obtain ⟨g_10, h⟩ := ck_in_s h
          refine va_iald hx hb hK hP 1 0 rfl rfl g_10 d_St_isCircuit_50 ?_
          refine lv_iload_n hx hb d_St_isCircuit_51 rfl (lv_at hl 3 rfl) ?_
          refine lv_iconst (v := 1) hx hb d_St_isCircuit_52 (by decide) ?_
          refine lv_isub hx hb d_St_isCircuit_53 ?_
          refine lv_icmp_eq (tgt := 59) hx hb d_St_isCircuit_54 (by decide) (fun c_11 => ?_) (fun c_11 => ?_)
          · replace h := ck_if_t h c_11
            exact J_59 _ h _ _ hP hD hS _ (lv_sub hl [1, 2, 3, 4] rfl)
          · replace h := ck_if_f h c_11
            refine lv_iconst (v := 0) hx hb d_St_isCircuit_57 (by decide) ?_
            obtain rfl := Option.some.inj h
            subst hQ
            exact W.zret (ty := .boolean) (v := 0) hx hb hr rfl (fun t ht hW => ⟨⟨0, (), rfl, rfl, by rw [ht]; exact hP, va_K.moved hW.alike hK, hD⟩, hS.F ht⟩) hS.2.2 d_St_isCircuit_58
  · replace h := ck_if_f h c_4
    refine lv_iconst (v := 0) hx hb d_St_isCircuit_17 (by decide) ?_
    obtain rfl := Option.some.inj h
    subst hQ
    exact W.zret (ty := .boolean) (v := 0) hx hb hr rfl (fun t ht hW => ⟨⟨0, (), rfl, rfl, by rw [ht]; exact hP, va_K.moved hW.alike hK, hD⟩, hS.F ht⟩) hS.2.2 d_St_isCircuit_18
theorem d_St_isFlat_0 : decode prog_4_method_20_code 0 = .ok (.iconst 0, 1) := by decide +kernel
theorem d_St_isFlat_1 : decode prog_4_method_20_code 1 = .ok (.istore_n 2, 1) := by decide +kernel
theorem d_St_isFlat_2 : decode prog_4_method_20_code 2 = .ok (.iload_n 2, 1) := by decide +kernel
theorem d_St_isFlat_3 : decode prog_4_method_20_code 3 = .ok (.aload_n 0, 1) := by decide +kernel
theorem d_St_isFlat_4 : decode prog_4_method_20_code 4 = .ok (.getfield 33, 3) := by decide +kernel
theorem d_St_isFlat_7 : decode prog_4_method_20_code 7 = .ok (.if_icmp .ge 37, 3) := by decide +kernel
theorem d_St_isFlat_10 : decode prog_4_method_20_code 10 = .ok (.iload_n 1, 1) := by decide +kernel
theorem d_St_isFlat_11 : decode prog_4_method_20_code 11 = .ok (.iconst 1, 1) := by decide +kernel
theorem d_St_isFlat_12 : decode prog_4_method_20_code 12 = .ok (.iload_n 2, 1) := by decide +kernel
theorem d_St_isFlat_13 : decode prog_4_method_20_code 13 = .ok (.ishl, 1) := by decide +kernel
theorem d_St_isFlat_14 : decode prog_4_method_20_code 14 = .ok (.ior, 1) := by decide +kernel
theorem d_St_isFlat_15 : decode prog_4_method_20_code 15 = .ok (.istore_n 3, 1) := by decide +kernel
theorem d_St_isFlat_16 : decode prog_4_method_20_code 16 = .ok (.iload_n 3, 1) := by decide +kernel
theorem d_St_isFlat_17 : decode prog_4_method_20_code 17 = .ok (.iload_n 1, 1) := by decide +kernel
theorem d_St_isFlat_18 : decode prog_4_method_20_code 18 = .ok (.if_icmp .eq 20, 3) := by decide +kernel
theorem d_St_isFlat_21 : decode prog_4_method_20_code 21 = .ok (.aload_n 0, 1) := by decide +kernel
theorem d_St_isFlat_22 : decode prog_4_method_20_code 22 = .ok (.getfield 9, 3) := by decide +kernel
theorem d_St_isFlat_25 : decode prog_4_method_20_code 25 = .ok (.iload_n 3, 1) := by decide +kernel
theorem d_St_isFlat_26 : decode prog_4_method_20_code 26 = .ok (.iaload, 1) := by decide +kernel
theorem d_St_isFlat_27 : decode prog_4_method_20_code 27 = .ok (.aload_n 0, 1) := by decide +kernel
theorem d_St_isFlat_28 : decode prog_4_method_20_code 28 = .ok (.getfield 9, 3) := by decide +kernel
theorem d_St_isFlat_31 : decode prog_4_method_20_code 31 = .ok (.iload_n 1, 1) := by decide +kernel
theorem d_St_isFlat_32 : decode prog_4_method_20_code 32 = .ok (.iaload, 1) := by decide +kernel
theorem d_St_isFlat_33 : decode prog_4_method_20_code 33 = .ok (.if_icmp .ne 5, 3) := by decide +kernel
theorem d_St_isFlat_36 : decode prog_4_method_20_code 36 = .ok (.iconst 0, 1) := by decide +kernel
theorem d_St_isFlat_37 : decode prog_4_method_20_code 37 = .ok (.ireturn, 1) := by decide +kernel
theorem d_St_isFlat_38 : decode prog_4_method_20_code 38 = .ok (.iinc 2 1, 3) := by decide +kernel
theorem d_St_isFlat_41 : decode prog_4_method_20_code 41 = .ok (.goto (-39), 3) := by decide +kernel
theorem d_St_isFlat_44 : decode prog_4_method_20_code 44 = .ok (.iconst 1, 1) := by decide +kernel
theorem d_St_isFlat_45 : decode prog_4_method_20_code 45 = .ok (.ireturn, 1) := by decide +kernel
def f_S_isFlat (s_columnCount : Int32) (s_ranks_n : Nat) (s_ranks : Nat → Int32) (set : Int32) : Option (Int32) :=
  lo1 (fun k_2 (v2_1 : Int32) => ck_if (s_columnCount ≤ v2_1) (some 1) (ck_nm (set ||| ((1 : Int32) <<< (v2_1 &&& 31))) <| fun x_3 => ck_jn (fun (_ : Unit) => ck_nm (v2_1 + 1) <| fun x_4 => k_2 x_4) <| fun k_38 => ck_if (x_3 = set) (k_38 ()) (ck_in x_3 s_ranks_n <| ck_in set s_ranks_n <| ck_if ((s_ranks x_3.toNatClampNeg) = (s_ranks set.toNatClampNeg)) (some 0) (k_38 ())))) ck_F 0
set_option maxHeartbeats 4000000 in
set_option maxRecDepth 100000 in
theorem c_S_isFlat (l : Launch) (dC : Nat → ClassId) (dI : Nat → Nat → Nat) (cI cJ cB cZ cT cN : ClassId) (sz : Nat) (h_s : Nat) (h_s_ranks : Nat) (h_s_signs : Nat) (h_s_members : Nat) (h_s_starts : Nat) (h_s_defects : Nat) (s_columnCount : Int32) (s_fullRank : Int32) (s_ranks_n : Nat) (s_ranks : Nat → Int32) (set : Int32) (r : Int32) (h : f_S_isFlat s_columnCount s_ranks_n s_ranks set = some r) : Met l y_St_isFlat w_St_isFlat ({ frames := 0, cells := 0, slots := 0, locals := 0 } : Room) (va_Pc [.ref h_s, .int set] (fun U => U.heap.size = sz ∧ va_P (dC, dI) cl_all [(h_s, .inr (2, [.int s_columnCount, .int s_fullRank, .ref h_s_ranks, .ref h_s_signs, .ref h_s_members, .ref h_s_starts, .ref h_s_defects])), (h_s_ranks, .inl (cI, s_ranks_n, .inl s_ranks))] U.heap ∧ va_K (dC, dI) cl_all [(cI, .int), (cJ, .long), (cB, .byte), (cZ, .boolean), (cT, .object "BasisWalk$Table"), (cN, .object "BasisWalkModel$Num")] U ∧ NW U ∧ va_D (fun _ => True) [(h_s, .inr (2, [.int s_columnCount, .int s_fullRank, .ref h_s_ranks, .ref h_s_signs, .ref h_s_members, .ref h_s_starts, .ref h_s_defects])), (h_s_ranks, .inl (cI, s_ranks_n, .inl s_ranks))])) (va_Qi (fun (v : Int32) (_ : Unit) => v = r) (fun (u : Unit) (t : State) => va_P (dC, dI) cl_all [(h_s, .inr (2, [.int s_columnCount, .int s_fullRank, .ref h_s_ranks, .ref h_s_signs, .ref h_s_members, .ref h_s_starts, .ref h_s_defects])), (h_s_ranks, .inl (cI, s_ranks_n, .inl s_ranks))] t.heap ∧ va_K (dC, dI) cl_all [(cI, .int), (cJ, .long), (cB, .byte), (cZ, .boolean), (cT, .object "BasisWalk$Table"), (cN, .object "BasisWalkModel$Num")] t ∧ va_D (va_A [(h_s, .inr (2, [.int s_columnCount, .int s_fullRank, .ref h_s_ranks, .ref h_s_signs, .ref h_s_members, .ref h_s_starts, .ref h_s_defects])), (h_s_ranks, .inl (cI, s_ranks_n, .inl s_ranks))] sz) [(h_s, .inr (2, [.int s_columnCount, .int s_fullRank, .ref h_s_ranks, .ref h_s_signs, .ref h_s_members, .ref h_s_starts, .ref h_s_defects])), (h_s_ranks, .inl (cI, s_ranks_n, .inl s_ranks))]) (va_A [(h_s, .inr (2, [.int s_columnCount, .int s_fullRank, .ref h_s_ranks, .ref h_s_signs, .ref h_s_members, .ref h_s_starts, .ref h_s_defects])), (h_s_ranks, .inl (cI, s_ranks_n, .inl s_ranks))] sz)) 0 0 (va_A [(h_s, .inr (2, [.int s_columnCount, .int s_fullRank, .ref h_s_ranks, .ref h_s_signs, .ref h_s_members, .ref h_s_starts, .ref h_s_defects])), (h_s_ranks, .inl (cI, s_ranks_n, .inl s_ranks))] sz) := by
  refine Met.ofW (cc := prog_4_method_20_code) (maxL := 4) (ret := (Option.some Jvm.ClassFile.FieldType.boolean)) (by decide) rfl ?_
  intro p e s m args below meth c s₁ B hml hv
  obtain ⟨hAR, hsz, hP, hK, hN, hD0⟩ := hv
  have hx := B.exec
  have hb := B.bytes
  have hr := B.returns
  have hts := atoms_spec (ws := w_St_isFlat) B.pre
  have hown : s.vm.findClass "BasisWalk$Study" = some m.cls := findClass_of_methodNamed B.named
  have hlocks := B.notSynchronized
  clear B
  subst hsz
  have hD := hD0.self (sz := s.heap.size)
  generalize hAe : va_A [(h_s, .inr (2, [.int s_columnCount, .int s_fullRank, .ref h_s_ranks, .ref h_s_signs, .ref h_s_members, .ref h_s_starts, .ref h_s_defects])), (h_s_ranks, .inl (cI, s_ranks_n, .inl s_ranks))] s.heap.size = A at hD ⊢
  have hA : ∀ q : Nat, s.heap.size ≤ q → A q := fun q h => by rw [← hAe]; exact Or.inr h
  clear hAe hD0
  have hS : va_S A s.heap s.heap [] := va_S.rf
  have hl := lv_entry ([.ref h_s, .int set]) (n := 4) (Nat.le_of_ble_eq_true rfl)
  subst hAR
  rw [lg_entry_eq]
  generalize (lg_sl ([.ref h_s, .int set]) ++ List.replicate (4 - (lg_sl ([.ref h_s, .int set])).length) Slot.unset).toArray = ls at hl ⊢
  have hl : lv_has ls 4 [(0, .ref h_s), (1, .int set)] := hl
  change W p l e ({ frames := 0, cells := 0, slots := 0, locals := 0 } : Room) s m _ below meth c s.heap [] 0 0 _ _
  generalize hARe : ([.ref h_s, .int set] : List Value).toArray = AR at hts ⊢
  clear hARe
  generalize hQ : MQ below _ AR s 0 0 A = QQ
  have fl0 := hts _ (List.mem_cons_of_mem _ tw_32)
  have iw1 := (fun w hw => List.mem_cons_of_mem _ (in_St w hw) : ∀ w ∈ u_ws "BasisWalk$Study" T_St 7, w ∈ w_St_isFlat)
  have fl2 := hts _ (List.mem_cons_of_mem _ tw_35)
  obtain ⟨H, hHe⟩ : ∃ H : Heap, H = s.heap := ⟨_, rfl⟩
  rw [← hHe] at hP ⊢
  replace hS : va_S A s.heap H [] := by rw [hHe]; exact va_S.rf
  clear hHe
  unfold f_S_isFlat at h
  refine lv_iconst (v := 0) hx hb d_St_isFlat_0 (by decide) ?_
  refine lv_istore_n (lv' := [(2, .int 0), (0, .ref h_s), (1, .int set)]) hx hb d_St_isFlat_1 rfl hl (by decide) rfl (fun ls hl => ?_)
  refine lo1_W (r := r) (fun (v2_1 : Int32) => ∀ (H : Heap) (locs : List Loc), va_P (dC, dI) cl_all [(h_s, .inr (2, [.int s_columnCount, .int s_fullRank, .ref h_s_ranks, .ref h_s_signs, .ref h_s_members, .ref h_s_starts, .ref h_s_defects])), (h_s_ranks, .inl (cI, s_ranks_n, .inl s_ranks))] H → va_D A [(h_s, .inr (2, [.int s_columnCount, .int s_fullRank, .ref h_s_ranks, .ref h_s_signs, .ref h_s_members, .ref h_s_starts, .ref h_s_defects])), (h_s_ranks, .inl (cI, s_ranks_n, .inl s_ranks))] → va_S A s.heap H locs → ∀ ls : Array Slot, lv_has ls 4 [(0, .ref h_s), (1, .int set), (2, .int v2_1)] → W p l e ({ frames := 0, cells := 0, slots := 0, locals := 0 } : Room) s m AR below meth c H locs 0 0 QQ (F0 m 2 ls [])) ?_ _ _ h _ _ hP hD hS _ (lv_sub hl [1, 2, 0] rfl)
  intro k_2 v2_1 J_2 h H locs hP hD hS ls hl
  refine lv_iload_n hx hb d_St_isFlat_2 rfl (lv_at hl 2 rfl) ?_
  refine lv_aload_n hx hb d_St_isFlat_3 rfl (lv_at hl 0 rfl) ?_
  refine va_get (D := (dC, dI)) (ci := 2) (v := .int s_columnCount) (C := "BasisWalk$Study") (T := T_St) (N := 7) hx hb hts iw1 hown hK hP 0 rfl rfl 0 (by decide) fl0 (fun _ h9 => h9) rfl d_St_isFlat_4 ?_
  refine lv_icmp_ge (tgt := 44) hx hb d_St_isFlat_7 (by decide) (fun c_2 => ?_) (fun c_2 => ?_)
  · replace h := ck_if_t h c_2
    refine lv_iconst (v := 1) hx hb d_St_isFlat_44 (by decide) ?_
    obtain rfl := Option.some.inj h
    subst hQ
    exact W.zret (ty := .boolean) (v := 1) hx hb hr rfl (fun t ht hW => ⟨⟨1, (), rfl, rfl, by rw [ht]; exact hP, va_K.moved hW.alike hK, hD⟩, hS.F ht⟩) hS.2.2 d_St_isFlat_45
  · replace h := ck_if_f h c_2
    refine lv_iload_n hx hb d_St_isFlat_10 rfl (lv_at hl 1 rfl) ?_
    refine lv_iconst (v := 1) hx hb d_St_isFlat_11 (by decide) ?_
    refine lv_iload_n hx hb d_St_isFlat_12 rfl (lv_at hl 2 rfl) ?_
    refine lv_ishl hx hb d_St_isFlat_13 ?_
    refine lv_ior hx hb d_St_isFlat_14 ?_
    refine lv_topi (fun x_3 ex_3 => ?_)
    replace h := ck_nm_s h ex_3
    refine lv_istore_n (lv' := [(3, .int x_3), (0, .ref h_s), (1, .int set), (2, .int v2_1)]) hx hb d_St_isFlat_15 rfl hl (by decide) rfl (fun ls hl => ?_)
    refine lv_iload_n hx hb d_St_isFlat_16 rfl (lv_at hl 0 rfl) ?_
    refine lv_iload_n hx hb d_St_isFlat_17 rfl (lv_at hl 2 rfl) ?_
    refine ck_jn_W h (fun k' => ∀ u : Unit, k' u = some r → ∀ (H : Heap) (locs : List Loc), va_P (dC, dI) cl_all [(h_s, .inr (2, [.int s_columnCount, .int s_fullRank, .ref h_s_ranks, .ref h_s_signs, .ref h_s_members, .ref h_s_starts, .ref h_s_defects])), (h_s_ranks, .inl (cI, s_ranks_n, .inl s_ranks))] H → va_D A [(h_s, .inr (2, [.int s_columnCount, .int s_fullRank, .ref h_s_ranks, .ref h_s_signs, .ref h_s_members, .ref h_s_starts, .ref h_s_defects])), (h_s_ranks, .inl (cI, s_ranks_n, .inl s_ranks))] → va_S A s.heap H locs → ∀ ls : Array Slot, lv_has ls 4 [(0, .ref h_s), (1, .int set), (2, .int v2_1)] → W p l e ({ frames := 0, cells := 0, slots := 0, locals := 0 } : Room) s m AR below meth c H locs 0 0 QQ (F0 m 38 ls [])) ?_ ?_
    · intro _ h H locs hP hD hS ls hl
      obtain ⟨x_4, ex_4⟩ : ∃ y : Int32, y = v2_1 + 1 := ⟨_, rfl⟩
      replace h := ck_nm_s h ex_4
      refine lv_iinc (v := x_4) (lv' := [(2, .int x_4), (0, .ref h_s), (1, .int set)]) hx hb d_St_isFlat_38 hl (k := 2) rfl (by rw [ex_4]; rfl) (by decide) rfl (fun ls hl => ?_)
      refine lv_goto (tgt := 2) hx hb d_St_isFlat_41 (by decide) ?_
      exact J_2 _ h _ _ hP hD hS _ (lv_sub hl [1, 2, 0] rfl)
    · intro k_38 J_38 h
      refine lv_icmp_eq (tgt := 38) hx hb d_St_isFlat_18 (by decide) (fun c_5 => ?_) (fun c_5 => ?_)
      · replace h := ck_if_t h c_5
        exact J_38 _ h _ _ hP hD hS _ (lv_sub hl [1, 2, 3] rfl)
      · replace h := ck_if_f h c_5
        refine lv_aload_n hx hb d_St_isFlat_21 rfl (lv_at hl 1 rfl) ?_
        refine va_get (D := (dC, dI)) (ci := 2) (v := .ref h_s_ranks) (C := "BasisWalk$Study") (T := T_St) (N := 7) hx hb hts iw1 hown hK hP 0 rfl rfl 2 (by decide) fl2 (fun _ h9 => h9) rfl d_St_isFlat_22 ?_
        refine lv_iload_n hx hb d_St_isFlat_25 rfl (lv_at hl 0 rfl) ?_
        obtain ⟨g_6, h⟩ := ck_in_s h
        refine va_iald hx hb hK hP 1 0 rfl rfl g_6 d_St_isFlat_26 ?_
        refine lv_aload_n hx hb d_St_isFlat_27 rfl (lv_at hl 1 rfl) ?_
        refine va_get (D := (dC, dI)) (ci := 2) (v := .ref h_s_ranks) (C := "BasisWalk$Study") (T := T_St) (N := 7) hx hb hts iw1 hown hK hP 0 rfl rfl 2 (by decide) fl2 (fun _ h9 => h9) rfl d_St_isFlat_28 ?_
        refine lv_iload_n hx hb d_St_isFlat_31 rfl (lv_at hl 2 rfl) ?_
        obtain ⟨g_7, h⟩ := ck_in_s h
        refine va_iald hx hb hK hP 1 0 rfl rfl g_7 d_St_isFlat_32 ?_
        refine lv_icmp_ne (tgt := 38) hx hb d_St_isFlat_33 (by decide) (fun c_8 => ?_) (fun c_8 => ?_)
        · replace h := ck_if_f h c_8
          exact J_38 _ h _ _ hP hD hS _ (lv_sub hl [1, 2, 3] rfl)
        · replace h := ck_if_t h c_8
          refine lv_iconst (v := 0) hx hb d_St_isFlat_36 (by decide) ?_
          obtain rfl := Option.some.inj h
          subst hQ
          exact W.zret (ty := .boolean) (v := 0) hx hb hr rfl (fun t ht hW => ⟨⟨0, (), rfl, rfl, by rw [ht]; exact hP, va_K.moved hW.alike hK, hD⟩, hS.F ht⟩) hS.2.2 d_St_isFlat_37
theorem d_St_isHyperplane_0 : decode prog_4_method_19_code 0 = .ok (.aload_n 0, 1) := by decide +kernel
theorem d_St_isHyperplane_1 : decode prog_4_method_19_code 1 = .ok (.getfield 9, 3) := by decide +kernel
theorem d_St_isHyperplane_4 : decode prog_4_method_19_code 4 = .ok (.iload_n 1, 1) := by decide +kernel
theorem d_St_isHyperplane_5 : decode prog_4_method_19_code 5 = .ok (.iaload, 1) := by decide +kernel
theorem d_St_isHyperplane_6 : decode prog_4_method_19_code 6 = .ok (.aload_n 0, 1) := by decide +kernel
theorem d_St_isHyperplane_7 : decode prog_4_method_19_code 7 = .ok (.getfield 41, 3) := by decide +kernel
theorem d_St_isHyperplane_10 : decode prog_4_method_19_code 10 = .ok (.iconst 1, 1) := by decide +kernel
theorem d_St_isHyperplane_11 : decode prog_4_method_19_code 11 = .ok (.isub, 1) := by decide +kernel
theorem d_St_isHyperplane_12 : decode prog_4_method_19_code 12 = .ok (.if_icmp .ne 15, 3) := by decide +kernel
theorem d_St_isHyperplane_15 : decode prog_4_method_19_code 15 = .ok (.aload_n 0, 1) := by decide +kernel
theorem d_St_isHyperplane_16 : decode prog_4_method_19_code 16 = .ok (.iload_n 1, 1) := by decide +kernel
theorem d_St_isHyperplane_17 : decode prog_4_method_19_code 17 = .ok (.invokevirtual 122, 3) := by decide +kernel
theorem d_St_isHyperplane_20 : decode prog_4_method_19_code 20 = .ok (.ifCond .eq 7, 3) := by decide +kernel
theorem d_St_isHyperplane_23 : decode prog_4_method_19_code 23 = .ok (.iconst 1, 1) := by decide +kernel
theorem d_St_isHyperplane_24 : decode prog_4_method_19_code 24 = .ok (.goto 4, 3) := by decide +kernel
theorem d_St_isHyperplane_27 : decode prog_4_method_19_code 27 = .ok (.iconst 0, 1) := by decide +kernel
theorem d_St_isHyperplane_28 : decode prog_4_method_19_code 28 = .ok (.ireturn, 1) := by decide +kernel
def f_S_isHyperplane (s_columnCount : Int32) (s_fullRank : Int32) (s_ranks_n : Nat) (s_ranks : Nat → Int32) (set : Int32) : Option (Int32) :=
  ck_in set s_ranks_n <| ck_if ((s_ranks set.toNatClampNeg) = (s_fullRank - 1)) (ck_b1 (f_S_isFlat s_columnCount s_ranks_n s_ranks set) <| fun r_3 => ck_if (r_3 = 0) (some 0) (some 1)) (some 0)
set_option maxHeartbeats 4000000 in
set_option maxRecDepth 100000 in
theorem c_S_isHyperplane (l : Launch) (dC : Nat → ClassId) (dI : Nat → Nat → Nat) (cI cJ cB cZ cT cN : ClassId) (sz : Nat) (h_s : Nat) (h_s_ranks : Nat) (h_s_signs : Nat) (h_s_members : Nat) (h_s_starts : Nat) (h_s_defects : Nat) (s_columnCount : Int32) (s_fullRank : Int32) (s_ranks_n : Nat) (s_ranks : Nat → Int32) (set : Int32) (r : Int32) (h : f_S_isHyperplane s_columnCount s_fullRank s_ranks_n s_ranks set = some r) : Met l y_St_isHyperplane w_St_isHyperplane ({ frames := 1, cells := 0, slots := 0, locals := 23 } : Room) (va_Pc [.ref h_s, .int set] (fun U => U.heap.size = sz ∧ va_P (dC, dI) cl_all [(h_s, .inr (2, [.int s_columnCount, .int s_fullRank, .ref h_s_ranks, .ref h_s_signs, .ref h_s_members, .ref h_s_starts, .ref h_s_defects])), (h_s_ranks, .inl (cI, s_ranks_n, .inl s_ranks))] U.heap ∧ va_K (dC, dI) cl_all [(cI, .int), (cJ, .long), (cB, .byte), (cZ, .boolean), (cT, .object "BasisWalk$Table"), (cN, .object "BasisWalkModel$Num")] U ∧ NW U ∧ va_D (fun _ => True) [(h_s, .inr (2, [.int s_columnCount, .int s_fullRank, .ref h_s_ranks, .ref h_s_signs, .ref h_s_members, .ref h_s_starts, .ref h_s_defects])), (h_s_ranks, .inl (cI, s_ranks_n, .inl s_ranks))])) (va_Qi (fun (v : Int32) (_ : Unit) => v = r) (fun (u : Unit) (t : State) => va_P (dC, dI) cl_all [(h_s, .inr (2, [.int s_columnCount, .int s_fullRank, .ref h_s_ranks, .ref h_s_signs, .ref h_s_members, .ref h_s_starts, .ref h_s_defects])), (h_s_ranks, .inl (cI, s_ranks_n, .inl s_ranks))] t.heap ∧ va_K (dC, dI) cl_all [(cI, .int), (cJ, .long), (cB, .byte), (cZ, .boolean), (cT, .object "BasisWalk$Table"), (cN, .object "BasisWalkModel$Num")] t ∧ va_D (va_A [(h_s, .inr (2, [.int s_columnCount, .int s_fullRank, .ref h_s_ranks, .ref h_s_signs, .ref h_s_members, .ref h_s_starts, .ref h_s_defects])), (h_s_ranks, .inl (cI, s_ranks_n, .inl s_ranks))] sz) [(h_s, .inr (2, [.int s_columnCount, .int s_fullRank, .ref h_s_ranks, .ref h_s_signs, .ref h_s_members, .ref h_s_starts, .ref h_s_defects])), (h_s_ranks, .inl (cI, s_ranks_n, .inl s_ranks))]) (va_A [(h_s, .inr (2, [.int s_columnCount, .int s_fullRank, .ref h_s_ranks, .ref h_s_signs, .ref h_s_members, .ref h_s_starts, .ref h_s_defects])), (h_s_ranks, .inl (cI, s_ranks_n, .inl s_ranks))] sz)) 0 0 (va_A [(h_s, .inr (2, [.int s_columnCount, .int s_fullRank, .ref h_s_ranks, .ref h_s_signs, .ref h_s_members, .ref h_s_starts, .ref h_s_defects])), (h_s_ranks, .inl (cI, s_ranks_n, .inl s_ranks))] sz) := by
  refine Met.ofW (cc := prog_4_method_19_code) (maxL := 2) (ret := (Option.some Jvm.ClassFile.FieldType.boolean)) (by decide) rfl ?_
  intro p e s m args below meth c s₁ B hml hv
  obtain ⟨hAR, hsz, hP, hK, hN, hD0⟩ := hv
  have hx := B.exec
  have hb := B.bytes
  have hr := B.returns
  have hts := atoms_spec (ws := w_St_isHyperplane) B.pre
  have hown : s.vm.findClass "BasisWalk$Study" = some m.cls := findClass_of_methodNamed B.named
  have hlocks := B.notSynchronized
  clear B
  subst hsz
  have hD := hD0.self (sz := s.heap.size)
  generalize hAe : va_A [(h_s, .inr (2, [.int s_columnCount, .int s_fullRank, .ref h_s_ranks, .ref h_s_signs, .ref h_s_members, .ref h_s_starts, .ref h_s_defects])), (h_s_ranks, .inl (cI, s_ranks_n, .inl s_ranks))] s.heap.size = A at hD ⊢
  have hA : ∀ q : Nat, s.heap.size ≤ q → A q := fun q h => by rw [← hAe]; exact Or.inr h
  clear hAe hD0
  have hS : va_S A s.heap s.heap [] := va_S.rf
  have hl := lv_entry ([.ref h_s, .int set]) (n := 2) (Nat.le_of_ble_eq_true rfl)
  subst hAR
  rw [lg_entry_eq]
  generalize (lg_sl ([.ref h_s, .int set]) ++ List.replicate (2 - (lg_sl ([.ref h_s, .int set])).length) Slot.unset).toArray = ls at hl ⊢
  have hl : lv_has ls 2 [(0, .ref h_s), (1, .int set)] := hl
  change W p l e ({ frames := 1, cells := 0, slots := 0, locals := 23 } : Room) s m _ below meth c s.heap [] 0 0 _ _
  generalize hARe : ([.ref h_s, .int set] : List Value).toArray = AR at hts ⊢
  clear hARe
  generalize hQ : MQ below _ AR s 0 0 A = QQ
  have fl0 := hts _ (List.mem_cons_of_mem _ tw_35)
  have iw1 := (fun w hw => List.mem_cons_of_mem _ (in_St w hw) : ∀ w ∈ u_ws "BasisWalk$Study" T_St 7, w ∈ w_St_isHyperplane)
  have fl2 := hts _ (List.mem_cons_of_mem _ tw_33)
  obtain ⟨H, hHe⟩ : ∃ H : Heap, H = s.heap := ⟨_, rfl⟩
  rw [← hHe] at hP ⊢
  replace hS : va_S A s.heap H [] := by rw [hHe]; exact va_S.rf
  clear hHe
  unfold f_S_isHyperplane at h
  refine lv_aload_n hx hb d_St_isHyperplane_0 rfl (lv_at hl 0 rfl) ?_
  refine va_get (D := (dC, dI)) (ci := 2) (v := .ref h_s_ranks) (C := "BasisWalk$Study") (T := T_St) (N := 7) hx hb hts iw1 hown hK hP 0 rfl rfl 2 (by decide) fl0 (fun _ h9 => h9) rfl d_St_isHyperplane_1 ?_
  refine lv_iload_n hx hb d_St_isHyperplane_4 rfl (lv_at hl 1 rfl) ?_
  obtain ⟨g_1, h⟩ := ck_in_s h
  refine va_iald hx hb hK hP 1 0 rfl rfl g_1 d_St_isHyperplane_5 ?_
  refine lv_aload_n hx hb d_St_isHyperplane_6 rfl (lv_at hl 0 rfl) ?_
  refine va_get (D := (dC, dI)) (ci := 2) (v := .int s_fullRank) (C := "BasisWalk$Study") (T := T_St) (N := 7) hx hb hts iw1 hown hK hP 0 rfl rfl 1 (by decide) fl2 (fun _ h9 => h9) rfl d_St_isHyperplane_7 ?_
  refine lv_iconst (v := 1) hx hb d_St_isHyperplane_10 (by decide) ?_
  refine lv_isub hx hb d_St_isHyperplane_11 ?_
  refine lv_icmp_ne (tgt := 27) hx hb d_St_isHyperplane_12 (by decide) (fun c_2 => ?_) (fun c_2 => ?_)
  · replace h := ck_if_f h c_2
    refine lv_iconst (v := 0) hx hb d_St_isHyperplane_27 (by decide) ?_
    obtain rfl := Option.some.inj h
    subst hQ
    exact W.zret (ty := .boolean) (v := 0) hx hb hr rfl (fun t ht hW => ⟨⟨0, (), rfl, rfl, by rw [ht]; exact hP, va_K.moved hW.alike hK, hD⟩, hS.F ht⟩) hS.2.2 d_St_isHyperplane_28
  · replace h := ck_if_t h c_2
    refine lv_aload_n hx hb d_St_isHyperplane_15 rfl (lv_at hl 0 rfl) ?_
    refine lv_iload_n hx hb d_St_isHyperplane_16 rfl (lv_at hl 1 rfl) ?_
    obtain ⟨r_3, hc_4, h⟩ := ck_b1_s h
    have hPc := hP.sub (ws' := [(h_s, .inr (2, [.int s_columnCount, .int s_fullRank, .ref h_s_ranks, .ref h_s_signs, .ref h_s_members, .ref h_s_starts, .ref h_s_defects])), (h_s_ranks, .inl (cI, s_ranks_n, .inl s_ranks))]) [0, 1] rfl
    have hDc := hD.sub (ws' := [(h_s, .inr (2, [.int s_columnCount, .int s_fullRank, .ref h_s_ranks, .ref h_s_signs, .ref h_s_members, .ref h_s_starts, .ref h_s_defects])), (h_s_ranks, .inl (cI, s_ranks_n, .inl s_ranks))]) [0, 1] (by decide) rfl
    have hFc := va_free (wc := [(h_s, .inr (2, [.int s_columnCount, .int s_fullRank, .ref h_s_ranks, .ref h_s_signs, .ref h_s_members, .ref h_s_starts, .ref h_s_defects])), (h_s_ranks, .inl (cI, s_ranks_n, .inl s_ranks))]) hD hS hA [0, 1] rfl
    refine va_calli (va_runV (As := [.int set]) (rest := []) ⟨hx, hb, hml, hown, hts⟩ (c_S_isFlat l dC dI cI cJ cB cZ cT cN H.size h_s h_s_ranks h_s_signs h_s_members h_s_starts h_s_defects s_columnCount s_fullRank s_ranks_n s_ranks set _ hc_4) (cwV 1 hts (tb_V tw_281 tw_283 tp_16 tw_3 tw_284) rfl rfl rfl (by decide +kernel) ⟨Nat.le_of_ble_eq_true rfl, Nat.le_of_ble_eq_true rfl⟩) ⟨fun a U g mk q => by obtain ⟨q0, q1, qP, qK, qN, qD⟩ := q; exact ⟨q0, q1, qP, va_K.moved (u := U) (U := U.calling g mk a) (Vm.Alike.refl U.vm) qK, qN.same rfl, qD⟩, va_recv hK hPc (ci := 2) (q0 := 0) rfl rfl, fun U hU hW => ⟨rfl, by rw [hU], by rw [hU]; exact hPc, va_K.moved hW.alike hK, hN.warm hW, hDc.weaken (fun _ _ _ _ => trivial)⟩⟩ rfl rfl hl.1 rfl (lv_room (Nat.le_of_ble_eq_true rfl)) d_St_isHyperplane_17 ⟨Nat.zero_le _, Nat.zero_le _⟩) hS (fun q _ h => hFc q h) hFc (fun rr u t H1 locs ht hvm hw hB hz1 hk1 hS => ?_)
    replace hw := hw.symm
    subst hw
    obtain ⟨hP1, -, hD1⟩ := hB
    rw [ht] at hP1
    obtain ⟨hP, hD⟩ := va_join (wr := []) (w1 := [(h_s, .inr (2, [.int s_columnCount, .int s_fullRank, .ref h_s_ranks, .ref h_s_signs, .ref h_s_members, .ref h_s_starts, .ref h_s_defects])), (h_s_ranks, .inl (cI, s_ranks_n, .inl s_ranks))]) hP hD [0, 1] [] rfl rfl (by decide) (by decide) hk1 hFc hP1 hD1
    generalize H1 = H at hP hS ⊢
    have hP : va_P (dC, dI) cl_all [(h_s, .inr (2, [.int s_columnCount, .int s_fullRank, .ref h_s_ranks, .ref h_s_signs, .ref h_s_members, .ref h_s_starts, .ref h_s_defects])), (h_s_ranks, .inl (cI, s_ranks_n, .inl s_ranks))] H := hP.sub [0, 1] rfl
    have hD : va_D A [(h_s, .inr (2, [.int s_columnCount, .int s_fullRank, .ref h_s_ranks, .ref h_s_signs, .ref h_s_members, .ref h_s_starts, .ref h_s_defects])), (h_s_ranks, .inl (cI, s_ranks_n, .inl s_ranks))] := hD.sub [0, 1] (by decide) rfl
    refine lv_if_eq (tgt := 27) hx hb d_St_isHyperplane_20 (by decide) (fun c_5 => ?_) (fun c_5 => ?_)
    · replace h := ck_if_t h c_5
      refine lv_iconst (v := 0) hx hb d_St_isHyperplane_27 (by decide) ?_
      obtain rfl := Option.some.inj h
      subst hQ
      exact W.zret (ty := .boolean) (v := 0) hx hb hr rfl (fun t ht hW => ⟨⟨0, (), rfl, rfl, by rw [ht]; exact hP, va_K.moved hW.alike hK, hD⟩, hS.F ht⟩) hS.2.2 d_St_isHyperplane_28
    · replace h := ck_if_f h c_5
      refine lv_iconst (v := 1) hx hb d_St_isHyperplane_23 (by decide) ?_
      refine lv_goto (tgt := 28) hx hb d_St_isHyperplane_24 (by decide) ?_
      obtain rfl := Option.some.inj h
      subst hQ
      exact W.zret (ty := .boolean) (v := 1) hx hb hr rfl (fun t ht hW => ⟨⟨1, (), rfl, rfl, by rw [ht]; exact hP, va_K.moved hW.alike hK, hD⟩, hS.F ht⟩) hS.2.2 d_St_isHyperplane_28
theorem d_St_isOfKind_0 : decode prog_4_method_17_code 0 = .ok (.iload_n 1, 1) := by decide +kernel
theorem d_St_isOfKind_1 : decode prog_4_method_17_code 1 = .ok (.tableswitch 88 0 3 #[31, 61, 67, 82], 31) := by decide +kernel
theorem d_St_isOfKind_32 : decode prog_4_method_17_code 32 = .ok (.aload_n 0, 1) := by decide +kernel
theorem d_St_isOfKind_33 : decode prog_4_method_17_code 33 = .ok (.getfield 9, 3) := by decide +kernel
theorem d_St_isOfKind_36 : decode prog_4_method_17_code 36 = .ok (.iload_n 2, 1) := by decide +kernel
theorem d_St_isOfKind_37 : decode prog_4_method_17_code 37 = .ok (.iaload, 1) := by decide +kernel
theorem d_St_isOfKind_38 : decode prog_4_method_17_code 38 = .ok (.aload_n 0, 1) := by decide +kernel
theorem d_St_isOfKind_39 : decode prog_4_method_17_code 39 = .ok (.getfield 41, 3) := by decide +kernel
theorem d_St_isOfKind_42 : decode prog_4_method_17_code 42 = .ok (.if_icmp .ne 18, 3) := by decide +kernel
theorem d_St_isOfKind_45 : decode prog_4_method_17_code 45 = .ok (.iload_n 2, 1) := by decide +kernel
theorem d_St_isOfKind_46 : decode prog_4_method_17_code 46 = .ok (.invokestatic 94, 3) := by decide +kernel
theorem d_St_isOfKind_49 : decode prog_4_method_17_code 49 = .ok (.aload_n 0, 1) := by decide +kernel
theorem d_St_isOfKind_50 : decode prog_4_method_17_code 50 = .ok (.getfield 41, 3) := by decide +kernel
theorem d_St_isOfKind_53 : decode prog_4_method_17_code 53 = .ok (.if_icmp .ne 7, 3) := by decide +kernel
theorem d_St_isOfKind_56 : decode prog_4_method_17_code 56 = .ok (.iconst 1, 1) := by decide +kernel
theorem d_St_isOfKind_57 : decode prog_4_method_17_code 57 = .ok (.goto 4, 3) := by decide +kernel
theorem d_St_isOfKind_60 : decode prog_4_method_17_code 60 = .ok (.iconst 0, 1) := by decide +kernel
theorem d_St_isOfKind_61 : decode prog_4_method_17_code 61 = .ok (.ireturn, 1) := by decide +kernel
theorem d_St_isOfKind_62 : decode prog_4_method_17_code 62 = .ok (.aload_n 0, 1) := by decide +kernel
theorem d_St_isOfKind_63 : decode prog_4_method_17_code 63 = .ok (.iload_n 2, 1) := by decide +kernel
theorem d_St_isOfKind_64 : decode prog_4_method_17_code 64 = .ok (.invokevirtual 116, 3) := by decide +kernel
theorem d_St_isOfKind_67 : decode prog_4_method_17_code 67 = .ok (.ireturn, 1) := by decide +kernel
theorem d_St_isOfKind_68 : decode prog_4_method_17_code 68 = .ok (.aload_n 0, 1) := by decide +kernel
theorem d_St_isOfKind_69 : decode prog_4_method_17_code 69 = .ok (.iconst 1, 1) := by decide +kernel
theorem d_St_isOfKind_70 : decode prog_4_method_17_code 70 = .ok (.aload_n 0, 1) := by decide +kernel
theorem d_St_isOfKind_71 : decode prog_4_method_17_code 71 = .ok (.getfield 33, 3) := by decide +kernel
theorem d_St_isOfKind_74 : decode prog_4_method_17_code 74 = .ok (.ishl, 1) := by decide +kernel
theorem d_St_isOfKind_75 : decode prog_4_method_17_code 75 = .ok (.iconst 1, 1) := by decide +kernel
theorem d_St_isOfKind_76 : decode prog_4_method_17_code 76 = .ok (.isub, 1) := by decide +kernel
theorem d_St_isOfKind_77 : decode prog_4_method_17_code 77 = .ok (.iload_n 2, 1) := by decide +kernel
theorem d_St_isOfKind_78 : decode prog_4_method_17_code 78 = .ok (.isub, 1) := by decide +kernel
theorem d_St_isOfKind_79 : decode prog_4_method_17_code 79 = .ok (.invokevirtual 119, 3) := by decide +kernel
theorem d_St_isOfKind_82 : decode prog_4_method_17_code 82 = .ok (.ireturn, 1) := by decide +kernel
theorem d_St_isOfKind_83 : decode prog_4_method_17_code 83 = .ok (.aload_n 0, 1) := by decide +kernel
theorem d_St_isOfKind_84 : decode prog_4_method_17_code 84 = .ok (.iload_n 2, 1) := by decide +kernel
theorem d_St_isOfKind_85 : decode prog_4_method_17_code 85 = .ok (.invokevirtual 122, 3) := by decide +kernel
theorem d_St_isOfKind_88 : decode prog_4_method_17_code 88 = .ok (.ireturn, 1) := by decide +kernel
theorem d_St_isOfKind_89 : decode prog_4_method_17_code 89 = .ok (.iconst 0, 1) := by decide +kernel
theorem d_St_isOfKind_90 : decode prog_4_method_17_code 90 = .ok (.ireturn, 1) := by decide +kernel
def f_S_isOfKind (s_columnCount : Int32) (s_fullRank : Int32) (s_ranks_n : Nat) (s_ranks : Nat → Int32) (kind : Int32) (set : Int32) : Option (Int32) :=
  ck_if (kind = 0) (ck_in set s_ranks_n <| ck_if ((s_ranks set.toNatClampNeg) = s_fullRank) (ck_b1 (f_bitCount set) <| fun r_4 => ck_if (r_4 = s_fullRank) (some 1) (some 0)) (some 0)) (ck_if (kind = 1) (ck_b1 (f_S_isCircuit s_columnCount s_ranks_n s_ranks set) <| fun r_8 => ck_z r_8 <| some r_8) (ck_if (kind = 2) (ck_b1 (f_S_isHyperplane s_columnCount s_fullRank s_ranks_n s_ranks ((((1 : Int32) <<< (s_columnCount &&& 31)) - 1) - set)) <| fun r_12 => ck_z r_12 <| some r_12) (ck_if (kind = 3) (ck_b1 (f_S_isFlat s_columnCount s_ranks_n s_ranks set) <| fun r_16 => ck_z r_16 <| some r_16) (some 0))))
set_option maxHeartbeats 4000000 in
set_option maxRecDepth 100000 in
theorem c_S_isOfKind (l : Launch) (dC : Nat → ClassId) (dI : Nat → Nat → Nat) (cI cJ cB cZ cT cN : ClassId) (sz : Nat) (h_s : Nat) (h_s_ranks : Nat) (h_s_signs : Nat) (h_s_members : Nat) (h_s_starts : Nat) (h_s_defects : Nat) (s_columnCount : Int32) (s_fullRank : Int32) (s_ranks_n : Nat) (s_ranks : Nat → Int32) (kind : Int32) (set : Int32) (r : Int32) (h : f_S_isOfKind s_columnCount s_fullRank s_ranks_n s_ranks kind set = some r) : Met l y_St_isOfKind w_St_isOfKind ({ frames := 2, cells := 0, slots := 0, locals := 44 } : Room) (va_Pc [.ref h_s, .int kind, .int set] (fun U => U.heap.size = sz ∧ va_P (dC, dI) cl_all [(h_s, .inr (2, [.int s_columnCount, .int s_fullRank, .ref h_s_ranks, .ref h_s_signs, .ref h_s_members, .ref h_s_starts, .ref h_s_defects])), (h_s_ranks, .inl (cI, s_ranks_n, .inl s_ranks))] U.heap ∧ va_K (dC, dI) cl_all [(cI, .int), (cJ, .long), (cB, .byte), (cZ, .boolean), (cT, .object "BasisWalk$Table"), (cN, .object "BasisWalkModel$Num")] U ∧ NW U ∧ va_D (fun _ => True) [(h_s, .inr (2, [.int s_columnCount, .int s_fullRank, .ref h_s_ranks, .ref h_s_signs, .ref h_s_members, .ref h_s_starts, .ref h_s_defects])), (h_s_ranks, .inl (cI, s_ranks_n, .inl s_ranks))])) (va_Qi (fun (v : Int32) (_ : Unit) => v = r) (fun (u : Unit) (t : State) => va_P (dC, dI) cl_all [(h_s, .inr (2, [.int s_columnCount, .int s_fullRank, .ref h_s_ranks, .ref h_s_signs, .ref h_s_members, .ref h_s_starts, .ref h_s_defects])), (h_s_ranks, .inl (cI, s_ranks_n, .inl s_ranks))] t.heap ∧ va_K (dC, dI) cl_all [(cI, .int), (cJ, .long), (cB, .byte), (cZ, .boolean), (cT, .object "BasisWalk$Table"), (cN, .object "BasisWalkModel$Num")] t ∧ va_D (va_A [(h_s, .inr (2, [.int s_columnCount, .int s_fullRank, .ref h_s_ranks, .ref h_s_signs, .ref h_s_members, .ref h_s_starts, .ref h_s_defects])), (h_s_ranks, .inl (cI, s_ranks_n, .inl s_ranks))] sz) [(h_s, .inr (2, [.int s_columnCount, .int s_fullRank, .ref h_s_ranks, .ref h_s_signs, .ref h_s_members, .ref h_s_starts, .ref h_s_defects])), (h_s_ranks, .inl (cI, s_ranks_n, .inl s_ranks))]) (va_A [(h_s, .inr (2, [.int s_columnCount, .int s_fullRank, .ref h_s_ranks, .ref h_s_signs, .ref h_s_members, .ref h_s_starts, .ref h_s_defects])), (h_s_ranks, .inl (cI, s_ranks_n, .inl s_ranks))] sz)) 0 0 (va_A [(h_s, .inr (2, [.int s_columnCount, .int s_fullRank, .ref h_s_ranks, .ref h_s_signs, .ref h_s_members, .ref h_s_starts, .ref h_s_defects])), (h_s_ranks, .inl (cI, s_ranks_n, .inl s_ranks))] sz) := by
  refine Met.ofW (cc := prog_4_method_17_code) (maxL := 3) (ret := (Option.some Jvm.ClassFile.FieldType.boolean)) (by decide) rfl ?_
  intro p e s m args below meth c s₁ B hml hv
  obtain ⟨hAR, hsz, hP, hK, hN, hD0⟩ := hv
  have hx := B.exec
  have hb := B.bytes
  have hr := B.returns
  have hts := atoms_spec (ws := w_St_isOfKind) B.pre
  have hown : s.vm.findClass "BasisWalk$Study" = some m.cls := findClass_of_methodNamed B.named
  have hlocks := B.notSynchronized
  clear B
  subst hsz
  have hD := hD0.self (sz := s.heap.size)
  generalize hAe : va_A [(h_s, .inr (2, [.int s_columnCount, .int s_fullRank, .ref h_s_ranks, .ref h_s_signs, .ref h_s_members, .ref h_s_starts, .ref h_s_defects])), (h_s_ranks, .inl (cI, s_ranks_n, .inl s_ranks))] s.heap.size = A at hD ⊢
  have hA : ∀ q : Nat, s.heap.size ≤ q → A q := fun q h => by rw [← hAe]; exact Or.inr h
  clear hAe hD0
  have hS : va_S A s.heap s.heap [] := va_S.rf
  have hl := lv_entry ([.ref h_s, .int kind, .int set]) (n := 3) (Nat.le_of_ble_eq_true rfl)
  subst hAR
  rw [lg_entry_eq]
  generalize (lg_sl ([.ref h_s, .int kind, .int set]) ++ List.replicate (3 - (lg_sl ([.ref h_s, .int kind, .int set])).length) Slot.unset).toArray = ls at hl ⊢
  have hl : lv_has ls 3 [(0, .ref h_s), (1, .int kind), (2, .int set)] := hl
  change W p l e ({ frames := 2, cells := 0, slots := 0, locals := 44 } : Room) s m _ below meth c s.heap [] 0 0 _ _
  generalize hARe : ([.ref h_s, .int kind, .int set] : List Value).toArray = AR at hts ⊢
  clear hARe
  generalize hQ : MQ below _ AR s 0 0 A = QQ
  have fl0 := hts _ (List.mem_cons_of_mem _ tw_35)
  have iw1 := (fun w hw => List.mem_cons_of_mem _ (in_St w hw) : ∀ w ∈ u_ws "BasisWalk$Study" T_St 7, w ∈ w_St_isOfKind)
  have fl2 := hts _ (List.mem_cons_of_mem _ tw_33)
  have fl3 := hts _ (List.mem_cons_of_mem _ tw_32)
  obtain ⟨H, hHe⟩ : ∃ H : Heap, H = s.heap := ⟨_, rfl⟩
  rw [← hHe] at hP ⊢
  replace hS : va_S A s.heap H [] := by rw [hHe]; exact va_S.rf
  clear hHe
  unfold f_S_isOfKind at h
  refine lv_iload_n hx hb d_St_isOfKind_0 rfl (lv_at hl 1 rfl) ?_
  by_cases c_1 : kind = 0
  · replace h := ck_if_t h c_1
    refine lv_tableIn (tgt := 32) (off := 31) hx hb d_St_isOfKind_1 (by rw [c_1]; decide) (by rw [c_1]; decide) (by rw [c_1]; rfl) (by decide) ?_
    refine lv_aload_n hx hb d_St_isOfKind_32 rfl (lv_at hl 0 rfl) ?_
    refine va_get (D := (dC, dI)) (ci := 2) (v := .ref h_s_ranks) (C := "BasisWalk$Study") (T := T_St) (N := 7) hx hb hts iw1 hown hK hP 0 rfl rfl 2 (by decide) fl0 (fun _ h9 => h9) rfl d_St_isOfKind_33 ?_
    refine lv_iload_n hx hb d_St_isOfKind_36 rfl (lv_at hl 2 rfl) ?_
    obtain ⟨g_2, h⟩ := ck_in_s h
    refine va_iald hx hb hK hP 1 0 rfl rfl g_2 d_St_isOfKind_37 ?_
    refine lv_aload_n hx hb d_St_isOfKind_38 rfl (lv_at hl 0 rfl) ?_
    refine va_get (D := (dC, dI)) (ci := 2) (v := .int s_fullRank) (C := "BasisWalk$Study") (T := T_St) (N := 7) hx hb hts iw1 hown hK hP 0 rfl rfl 1 (by decide) fl2 (fun _ h9 => h9) rfl d_St_isOfKind_39 ?_
    refine lv_icmp_ne (tgt := 60) hx hb d_St_isOfKind_42 (by decide) (fun c_3 => ?_) (fun c_3 => ?_)
    · replace h := ck_if_f h c_3
      refine lv_iconst (v := 0) hx hb d_St_isOfKind_60 (by decide) ?_
      obtain rfl := Option.some.inj h
      subst hQ
      exact W.zret (ty := .boolean) (v := 0) hx hb hr rfl (fun t ht hW => ⟨⟨0, (), rfl, rfl, by rw [ht]; exact hP, va_K.moved hW.alike hK, hD⟩, hS.F ht⟩) hS.2.2 d_St_isOfKind_61
    · replace h := ck_if_t h c_3
      refine lv_iload_n hx hb d_St_isOfKind_45 rfl (lv_at hl 2 rfl) ?_
      obtain ⟨r_4, hc_5, h⟩ := ck_b1_s h
      have hPc := hP.sub (ws' := []) [] rfl
      have hDc := hD.sub (ws' := []) [] (by decide) rfl
      have hFc := va_free (wc := []) hD hS hA [] rfl
      refine va_calli (va_runS (As := [.int set]) (rest := []) ⟨hx, hb, hml, hown, hts⟩ (c_bitCount l dC dI cI cJ cB cZ cT cN H.size set _ hc_5) (va_cwS 1 hts (tb_S tw_247 tw_196 tw_10 tw_197) rfl rfl rfl (by decide +kernel) ⟨Nat.le_of_ble_eq_true rfl, Nat.le_of_ble_eq_true rfl⟩) ⟨fun a U g mk q => by obtain ⟨q0, q1, qP, qK, qN, qD⟩ := q; exact ⟨q0, q1, qP, va_K.moved (u := U) (U := U.calling g mk a) (Vm.Alike.refl U.vm) qK, qN.same rfl, qD⟩, fun U hU hW => ⟨rfl, by rw [hU], by rw [hU]; exact hPc, va_K.moved hW.alike hK, hN.warm hW, hDc.weaken (fun _ _ _ _ => trivial)⟩⟩ rfl rfl hl.1 rfl (lv_room (Nat.le_of_ble_eq_true rfl)) d_St_isOfKind_46 ⟨Nat.zero_le _, Nat.zero_le _⟩) hS (fun q _ h => hFc q h) hFc (fun rr u t H1 locs ht hvm hw hB hz1 hk1 hS => ?_)
      replace hw := hw.symm
      subst hw
      obtain ⟨hP1, -, hD1⟩ := hB
      rw [ht] at hP1
      obtain ⟨hP, hD⟩ := va_join (wr := [(h_s, .inr (2, [.int s_columnCount, .int s_fullRank, .ref h_s_ranks, .ref h_s_signs, .ref h_s_members, .ref h_s_starts, .ref h_s_defects])), (h_s_ranks, .inl (cI, s_ranks_n, .inl s_ranks))]) (w1 := []) hP hD [] [0, 1] rfl rfl (by decide) (by decide) hk1 hFc hP1 hD1
      generalize H1 = H at hP hS ⊢
      have hP : va_P (dC, dI) cl_all [(h_s, .inr (2, [.int s_columnCount, .int s_fullRank, .ref h_s_ranks, .ref h_s_signs, .ref h_s_members, .ref h_s_starts, .ref h_s_defects])), (h_s_ranks, .inl (cI, s_ranks_n, .inl s_ranks))] H := hP.sub [0, 1] rfl
      have hD : va_D A [(h_s, .inr (2, [.int s_columnCount, .int s_fullRank, .ref h_s_ranks, .ref h_s_signs, .ref h_s_members, .ref h_s_starts, .ref h_s_defects])), (h_s_ranks, .inl (cI, s_ranks_n, .inl s_ranks))] := hD.sub [0, 1] (by decide) rfl
      refine lv_aload_n hx hb d_St_isOfKind_49 rfl (lv_at hl 0 rfl) ?_
      refine va_get (D := (dC, dI)) (ci := 2) (v := .int s_fullRank) (C := "BasisWalk$Study") (T := T_St) (N := 7) hx hb hts iw1 hown hK hP 0 rfl rfl 1 (by decide) fl2 (fun _ h9 => h9) rfl d_St_isOfKind_50 ?_
      refine lv_icmp_ne (tgt := 60) hx hb d_St_isOfKind_53 (by decide) (fun c_6 => ?_) (fun c_6 => ?_)
      · replace h := ck_if_f h c_6
        refine lv_iconst (v := 0) hx hb d_St_isOfKind_60 (by decide) ?_
        obtain rfl := Option.some.inj h
        subst hQ
        exact W.zret (ty := .boolean) (v := 0) hx hb hr rfl (fun t ht hW => ⟨⟨0, (), rfl, rfl, by rw [ht]; exact hP, va_K.moved hW.alike hK, hD⟩, hS.F ht⟩) hS.2.2 d_St_isOfKind_61
      · replace h := ck_if_t h c_6
        refine lv_iconst (v := 1) hx hb d_St_isOfKind_56 (by decide) ?_
        refine lv_goto (tgt := 61) hx hb d_St_isOfKind_57 (by decide) ?_
        obtain rfl := Option.some.inj h
        subst hQ
        exact W.zret (ty := .boolean) (v := 1) hx hb hr rfl (fun t ht hW => ⟨⟨1, (), rfl, rfl, by rw [ht]; exact hP, va_K.moved hW.alike hK, hD⟩, hS.F ht⟩) hS.2.2 d_St_isOfKind_61
  · replace h := ck_if_f h c_1
    by_cases c_7 : kind = 1
    · replace h := ck_if_t h c_7
      refine lv_tableIn (tgt := 62) (off := 61) hx hb d_St_isOfKind_1 (by rw [c_7]; decide) (by rw [c_7]; decide) (by rw [c_7]; rfl) (by decide) ?_
      refine lv_aload_n hx hb d_St_isOfKind_62 rfl (lv_at hl 0 rfl) ?_
      refine lv_iload_n hx hb d_St_isOfKind_63 rfl (lv_at hl 2 rfl) ?_
      obtain ⟨r_8, hc_9, h⟩ := ck_b1_s h
      have hPc := hP.sub (ws' := [(h_s, .inr (2, [.int s_columnCount, .int s_fullRank, .ref h_s_ranks, .ref h_s_signs, .ref h_s_members, .ref h_s_starts, .ref h_s_defects])), (h_s_ranks, .inl (cI, s_ranks_n, .inl s_ranks))]) [0, 1] rfl
      have hDc := hD.sub (ws' := [(h_s, .inr (2, [.int s_columnCount, .int s_fullRank, .ref h_s_ranks, .ref h_s_signs, .ref h_s_members, .ref h_s_starts, .ref h_s_defects])), (h_s_ranks, .inl (cI, s_ranks_n, .inl s_ranks))]) [0, 1] (by decide) rfl
      have hFc := va_free (wc := [(h_s, .inr (2, [.int s_columnCount, .int s_fullRank, .ref h_s_ranks, .ref h_s_signs, .ref h_s_members, .ref h_s_starts, .ref h_s_defects])), (h_s_ranks, .inl (cI, s_ranks_n, .inl s_ranks))]) hD hS hA [0, 1] rfl
      refine va_calli (va_runV (As := [.int set]) (rest := []) ⟨hx, hb, hml, hown, hts⟩ (c_S_isCircuit l dC dI cI cJ cB cZ cT cN H.size h_s h_s_ranks h_s_signs h_s_members h_s_starts h_s_defects s_columnCount s_fullRank s_ranks_n s_ranks set _ hc_9) (cwV 1 hts (tb_V tw_273 tw_275 tp_14 tw_3 tw_276) rfl rfl rfl (by decide +kernel) ⟨Nat.le_of_ble_eq_true rfl, Nat.le_of_ble_eq_true rfl⟩) ⟨fun a U g mk q => by obtain ⟨q0, q1, qP, qK, qN, qD⟩ := q; exact ⟨q0, q1, qP, va_K.moved (u := U) (U := U.calling g mk a) (Vm.Alike.refl U.vm) qK, qN.same rfl, qD⟩, va_recv hK hPc (ci := 2) (q0 := 0) rfl rfl, fun U hU hW => ⟨rfl, by rw [hU], by rw [hU]; exact hPc, va_K.moved hW.alike hK, hN.warm hW, hDc.weaken (fun _ _ _ _ => trivial)⟩⟩ rfl rfl hl.1 rfl (lv_room (Nat.le_of_ble_eq_true rfl)) d_St_isOfKind_64 ⟨Nat.zero_le _, Nat.zero_le _⟩) hS (fun q _ h => hFc q h) hFc (fun rr u t H1 locs ht hvm hw hB hz1 hk1 hS => ?_)
      replace hw := hw.symm
      subst hw
      obtain ⟨hP1, -, hD1⟩ := hB
      rw [ht] at hP1
      obtain ⟨hP, hD⟩ := va_join (wr := []) (w1 := [(h_s, .inr (2, [.int s_columnCount, .int s_fullRank, .ref h_s_ranks, .ref h_s_signs, .ref h_s_members, .ref h_s_starts, .ref h_s_defects])), (h_s_ranks, .inl (cI, s_ranks_n, .inl s_ranks))]) hP hD [0, 1] [] rfl rfl (by decide) (by decide) hk1 hFc hP1 hD1
      generalize H1 = H at hP hS ⊢
      have hP : va_P (dC, dI) cl_all [(h_s, .inr (2, [.int s_columnCount, .int s_fullRank, .ref h_s_ranks, .ref h_s_signs, .ref h_s_members, .ref h_s_starts, .ref h_s_defects])), (h_s_ranks, .inl (cI, s_ranks_n, .inl s_ranks))] H := hP.sub [0, 1] rfl
      have hD : va_D A [(h_s, .inr (2, [.int s_columnCount, .int s_fullRank, .ref h_s_ranks, .ref h_s_signs, .ref h_s_members, .ref h_s_starts, .ref h_s_defects])), (h_s_ranks, .inl (cI, s_ranks_n, .inl s_ranks))] := hD.sub [0, 1] (by decide) rfl
      obtain ⟨g_10, h⟩ := ck_z_s h
      obtain rfl := Option.some.inj h
      subst hQ
      exact W.zret (ty := .boolean) (v := r_8) hx hb hr g_10 (fun t ht hW => ⟨⟨r_8, (), rfl, rfl, by rw [ht]; exact hP, va_K.moved hW.alike hK, hD⟩, hS.F ht⟩) hS.2.2 d_St_isOfKind_67
    · replace h := ck_if_f h c_7
      by_cases c_11 : kind = 2
      · replace h := ck_if_t h c_11
        refine lv_tableIn (tgt := 68) (off := 67) hx hb d_St_isOfKind_1 (by rw [c_11]; decide) (by rw [c_11]; decide) (by rw [c_11]; rfl) (by decide) ?_
        refine lv_aload_n hx hb d_St_isOfKind_68 rfl (lv_at hl 0 rfl) ?_
        refine lv_iconst (v := 1) hx hb d_St_isOfKind_69 (by decide) ?_
        refine lv_aload_n hx hb d_St_isOfKind_70 rfl (lv_at hl 0 rfl) ?_
        refine va_get (D := (dC, dI)) (ci := 2) (v := .int s_columnCount) (C := "BasisWalk$Study") (T := T_St) (N := 7) hx hb hts iw1 hown hK hP 0 rfl rfl 0 (by decide) fl3 (fun _ h9 => h9) rfl d_St_isOfKind_71 ?_
        refine lv_ishl hx hb d_St_isOfKind_74 ?_
        refine lv_iconst (v := 1) hx hb d_St_isOfKind_75 (by decide) ?_
        refine lv_isub hx hb d_St_isOfKind_76 ?_
        refine lv_iload_n hx hb d_St_isOfKind_77 rfl (lv_at hl 2 rfl) ?_
        refine lv_isub hx hb d_St_isOfKind_78 ?_
        obtain ⟨r_12, hc_13, h⟩ := ck_b1_s h
        have hPc := hP.sub (ws' := [(h_s, .inr (2, [.int s_columnCount, .int s_fullRank, .ref h_s_ranks, .ref h_s_signs, .ref h_s_members, .ref h_s_starts, .ref h_s_defects])), (h_s_ranks, .inl (cI, s_ranks_n, .inl s_ranks))]) [0, 1] rfl
        have hDc := hD.sub (ws' := [(h_s, .inr (2, [.int s_columnCount, .int s_fullRank, .ref h_s_ranks, .ref h_s_signs, .ref h_s_members, .ref h_s_starts, .ref h_s_defects])), (h_s_ranks, .inl (cI, s_ranks_n, .inl s_ranks))]) [0, 1] (by decide) rfl
        have hFc := va_free (wc := [(h_s, .inr (2, [.int s_columnCount, .int s_fullRank, .ref h_s_ranks, .ref h_s_signs, .ref h_s_members, .ref h_s_starts, .ref h_s_defects])), (h_s_ranks, .inl (cI, s_ranks_n, .inl s_ranks))]) hD hS hA [0, 1] rfl
        refine va_calli (va_runV (As := [.int ((((1 : Int32) <<< (s_columnCount &&& 31)) - 1) - set)]) (rest := []) ⟨hx, hb, hml, hown, hts⟩ (c_S_isHyperplane l dC dI cI cJ cB cZ cT cN H.size h_s h_s_ranks h_s_signs h_s_members h_s_starts h_s_defects s_columnCount s_fullRank s_ranks_n s_ranks ((((1 : Int32) <<< (s_columnCount &&& 31)) - 1) - set) _ hc_13) (cwV 1 hts (tb_V tw_277 tw_279 tp_15 tw_3 tw_280) rfl rfl rfl (by decide +kernel) ⟨Nat.le_of_ble_eq_true rfl, Nat.le_of_ble_eq_true rfl⟩) ⟨fun a U g mk q => by obtain ⟨q0, q1, qP, qK, qN, qD⟩ := q; exact ⟨q0, q1, qP, va_K.moved (u := U) (U := U.calling g mk a) (Vm.Alike.refl U.vm) qK, qN.same rfl, qD⟩, va_recv hK hPc (ci := 2) (q0 := 0) rfl rfl, fun U hU hW => ⟨rfl, by rw [hU], by rw [hU]; exact hPc, va_K.moved hW.alike hK, hN.warm hW, hDc.weaken (fun _ _ _ _ => trivial)⟩⟩ rfl rfl hl.1 rfl (lv_room (Nat.le_of_ble_eq_true rfl)) d_St_isOfKind_79 ⟨Nat.zero_le _, Nat.zero_le _⟩) hS (fun q _ h => hFc q h) hFc (fun rr u t H1 locs ht hvm hw hB hz1 hk1 hS => ?_)
        replace hw := hw.symm
        subst hw
        obtain ⟨hP1, -, hD1⟩ := hB
        rw [ht] at hP1
        obtain ⟨hP, hD⟩ := va_join (wr := []) (w1 := [(h_s, .inr (2, [.int s_columnCount, .int s_fullRank, .ref h_s_ranks, .ref h_s_signs, .ref h_s_members, .ref h_s_starts, .ref h_s_defects])), (h_s_ranks, .inl (cI, s_ranks_n, .inl s_ranks))]) hP hD [0, 1] [] rfl rfl (by decide) (by decide) hk1 hFc hP1 hD1
        generalize H1 = H at hP hS ⊢
        have hP : va_P (dC, dI) cl_all [(h_s, .inr (2, [.int s_columnCount, .int s_fullRank, .ref h_s_ranks, .ref h_s_signs, .ref h_s_members, .ref h_s_starts, .ref h_s_defects])), (h_s_ranks, .inl (cI, s_ranks_n, .inl s_ranks))] H := hP.sub [0, 1] rfl
        have hD : va_D A [(h_s, .inr (2, [.int s_columnCount, .int s_fullRank, .ref h_s_ranks, .ref h_s_signs, .ref h_s_members, .ref h_s_starts, .ref h_s_defects])), (h_s_ranks, .inl (cI, s_ranks_n, .inl s_ranks))] := hD.sub [0, 1] (by decide) rfl
        obtain ⟨g_14, h⟩ := ck_z_s h
        obtain rfl := Option.some.inj h
        subst hQ
        exact W.zret (ty := .boolean) (v := r_12) hx hb hr g_14 (fun t ht hW => ⟨⟨r_12, (), rfl, rfl, by rw [ht]; exact hP, va_K.moved hW.alike hK, hD⟩, hS.F ht⟩) hS.2.2 d_St_isOfKind_82
      · replace h := ck_if_f h c_11
        by_cases c_15 : kind = 3
        · replace h := ck_if_t h c_15
          refine lv_tableIn (tgt := 83) (off := 82) hx hb d_St_isOfKind_1 (by rw [c_15]; decide) (by rw [c_15]; decide) (by rw [c_15]; rfl) (by decide) ?_
          refine lv_aload_n hx hb d_St_isOfKind_83 rfl (lv_at hl 0 rfl) ?_
          refine lv_iload_n hx hb d_St_isOfKind_84 rfl (lv_at hl 2 rfl) ?_
          obtain ⟨r_16, hc_17, h⟩ := ck_b1_s h
          have hPc := hP.sub (ws' := [(h_s, .inr (2, [.int s_columnCount, .int s_fullRank, .ref h_s_ranks, .ref h_s_signs, .ref h_s_members, .ref h_s_starts, .ref h_s_defects])), (h_s_ranks, .inl (cI, s_ranks_n, .inl s_ranks))]) [0, 1] rfl
          have hDc := hD.sub (ws' := [(h_s, .inr (2, [.int s_columnCount, .int s_fullRank, .ref h_s_ranks, .ref h_s_signs, .ref h_s_members, .ref h_s_starts, .ref h_s_defects])), (h_s_ranks, .inl (cI, s_ranks_n, .inl s_ranks))]) [0, 1] (by decide) rfl
          have hFc := va_free (wc := [(h_s, .inr (2, [.int s_columnCount, .int s_fullRank, .ref h_s_ranks, .ref h_s_signs, .ref h_s_members, .ref h_s_starts, .ref h_s_defects])), (h_s_ranks, .inl (cI, s_ranks_n, .inl s_ranks))]) hD hS hA [0, 1] rfl
          refine va_calli (va_runV (As := [.int set]) (rest := []) ⟨hx, hb, hml, hown, hts⟩ (c_S_isFlat l dC dI cI cJ cB cZ cT cN H.size h_s h_s_ranks h_s_signs h_s_members h_s_starts h_s_defects s_columnCount s_fullRank s_ranks_n s_ranks set _ hc_17) (cwV 1 hts (tb_V tw_281 tw_283 tp_16 tw_3 tw_284) rfl rfl rfl (by decide +kernel) ⟨Nat.le_of_ble_eq_true rfl, Nat.le_of_ble_eq_true rfl⟩) ⟨fun a U g mk q => by obtain ⟨q0, q1, qP, qK, qN, qD⟩ := q; exact ⟨q0, q1, qP, va_K.moved (u := U) (U := U.calling g mk a) (Vm.Alike.refl U.vm) qK, qN.same rfl, qD⟩, va_recv hK hPc (ci := 2) (q0 := 0) rfl rfl, fun U hU hW => ⟨rfl, by rw [hU], by rw [hU]; exact hPc, va_K.moved hW.alike hK, hN.warm hW, hDc.weaken (fun _ _ _ _ => trivial)⟩⟩ rfl rfl hl.1 rfl (lv_room (Nat.le_of_ble_eq_true rfl)) d_St_isOfKind_85 ⟨Nat.zero_le _, Nat.zero_le _⟩) hS (fun q _ h => hFc q h) hFc (fun rr u t H1 locs ht hvm hw hB hz1 hk1 hS => ?_)
          replace hw := hw.symm
          subst hw
          obtain ⟨hP1, -, hD1⟩ := hB
          rw [ht] at hP1
          obtain ⟨hP, hD⟩ := va_join (wr := []) (w1 := [(h_s, .inr (2, [.int s_columnCount, .int s_fullRank, .ref h_s_ranks, .ref h_s_signs, .ref h_s_members, .ref h_s_starts, .ref h_s_defects])), (h_s_ranks, .inl (cI, s_ranks_n, .inl s_ranks))]) hP hD [0, 1] [] rfl rfl (by decide) (by decide) hk1 hFc hP1 hD1
          generalize H1 = H at hP hS ⊢
          have hP : va_P (dC, dI) cl_all [(h_s, .inr (2, [.int s_columnCount, .int s_fullRank, .ref h_s_ranks, .ref h_s_signs, .ref h_s_members, .ref h_s_starts, .ref h_s_defects])), (h_s_ranks, .inl (cI, s_ranks_n, .inl s_ranks))] H := hP.sub [0, 1] rfl
          have hD : va_D A [(h_s, .inr (2, [.int s_columnCount, .int s_fullRank, .ref h_s_ranks, .ref h_s_signs, .ref h_s_members, .ref h_s_starts, .ref h_s_defects])), (h_s_ranks, .inl (cI, s_ranks_n, .inl s_ranks))] := hD.sub [0, 1] (by decide) rfl
          obtain ⟨g_18, h⟩ := ck_z_s h
          obtain rfl := Option.some.inj h
          subst hQ
          exact W.zret (ty := .boolean) (v := r_16) hx hb hr g_18 (fun t ht hW => ⟨⟨r_16, (), rfl, rfl, by rw [ht]; exact hP, va_K.moved hW.alike hK, hD⟩, hS.F ht⟩) hS.2.2 d_St_isOfKind_88
        · replace h := ck_if_f h c_15
          have n0 : kind.toInt ≠ 0 := fun q => c_1 (Int32.toInt_inj.mp (by rw [q]; rfl))
          have n1 : kind.toInt ≠ 1 := fun q => c_7 (Int32.toInt_inj.mp (by rw [q]; rfl))
          have n2 : kind.toInt ≠ 2 := fun q => c_11 (Int32.toInt_inj.mp (by rw [q]; rfl))
          have n3 : kind.toInt ≠ 3 := fun q => c_15 (Int32.toInt_inj.mp (by rw [q]; rfl))
          refine lv_tableOut (tgt := 89) hx hb d_St_isOfKind_1 (by omega) (by decide) ?_
          refine lv_iconst (v := 0) hx hb d_St_isOfKind_89 (by decide) ?_
          obtain rfl := Option.some.inj h
          subst hQ
          exact W.zret (ty := .boolean) (v := 0) hx hb hr rfl (fun t ht hW => ⟨⟨0, (), rfl, rfl, by rw [ht]; exact hP, va_K.moved hW.alike hK, hD⟩, hS.F ht⟩) hS.2.2 d_St_isOfKind_90
end
section
theorem d_St_learnSigns_0 : decode prog_4_method_10_code 0 = .ok (.iconst 0, 1) := by decide +kernel
theorem d_St_learnSigns_1 : decode prog_4_method_10_code 1 = .ok (.istore_n 3, 1) := by decide +kernel
theorem d_St_learnSigns_2 : decode prog_4_method_10_code 2 = .ok (.aload_n 1, 1) := by decide +kernel
theorem d_St_learnSigns_3 : decode prog_4_method_10_code 3 = .ok (.getfield 85, 3) := by decide +kernel
theorem d_St_learnSigns_6 : decode prog_4_method_10_code 6 = .ok (.aload_n 0, 1) := by decide +kernel
theorem d_St_learnSigns_7 : decode prog_4_method_10_code 7 = .ok (.getfield 41, 3) := by decide +kernel
theorem d_St_learnSigns_10 : decode prog_4_method_10_code 10 = .ok (.iaload, 1) := by decide +kernel
theorem d_St_learnSigns_11 : decode prog_4_method_10_code 11 = .ok (.istore 4, 2) := by decide +kernel
theorem d_St_learnSigns_13 : decode prog_4_method_10_code 13 = .ok (.iload 4, 2) := by decide +kernel
theorem d_St_learnSigns_15 : decode prog_4_method_10_code 15 = .ok (.aload_n 1, 1) := by decide +kernel
theorem d_St_learnSigns_16 : decode prog_4_method_10_code 16 = .ok (.getfield 85, 3) := by decide +kernel
theorem d_St_learnSigns_19 : decode prog_4_method_10_code 19 = .ok (.aload_n 0, 1) := by decide +kernel
theorem d_St_learnSigns_20 : decode prog_4_method_10_code 20 = .ok (.getfield 41, 3) := by decide +kernel
theorem d_St_learnSigns_23 : decode prog_4_method_10_code 23 = .ok (.iconst 1, 1) := by decide +kernel
theorem d_St_learnSigns_24 : decode prog_4_method_10_code 24 = .ok (.iadd, 1) := by decide +kernel
theorem d_St_learnSigns_25 : decode prog_4_method_10_code 25 = .ok (.iaload, 1) := by decide +kernel
theorem d_St_learnSigns_26 : decode prog_4_method_10_code 26 = .ok (.if_icmp .ge 48, 3) := by decide +kernel
theorem d_St_learnSigns_29 : decode prog_4_method_10_code 29 = .ok (.aload_n 1, 1) := by decide +kernel
theorem d_St_learnSigns_30 : decode prog_4_method_10_code 30 = .ok (.getfield 88, 3) := by decide +kernel
theorem d_St_learnSigns_33 : decode prog_4_method_10_code 33 = .ok (.iload 4, 2) := by decide +kernel
theorem d_St_learnSigns_35 : decode prog_4_method_10_code 35 = .ok (.iaload, 1) := by decide +kernel
theorem d_St_learnSigns_36 : decode prog_4_method_10_code 36 = .ok (.istore 5, 2) := by decide +kernel
theorem d_St_learnSigns_38 : decode prog_4_method_10_code 38 = .ok (.aload_n 2, 1) := by decide +kernel
theorem d_St_learnSigns_39 : decode prog_4_method_10_code 39 = .ok (.iload 5, 2) := by decide +kernel
theorem d_St_learnSigns_41 : decode prog_4_method_10_code 41 = .ok (.invokevirtual 91, 3) := by decide +kernel
theorem d_St_learnSigns_44 : decode prog_4_method_10_code 44 = .ok (.istore 6, 2) := by decide +kernel
theorem d_St_learnSigns_46 : decode prog_4_method_10_code 46 = .ok (.iload_n 3, 1) := by decide +kernel
theorem d_St_learnSigns_47 : decode prog_4_method_10_code 47 = .ok (.ifCond .ne 8, 3) := by decide +kernel
theorem d_St_learnSigns_50 : decode prog_4_method_10_code 50 = .ok (.iload 6, 2) := by decide +kernel
theorem d_St_learnSigns_52 : decode prog_4_method_10_code 52 = .ok (.goto 4, 3) := by decide +kernel
theorem d_St_learnSigns_55 : decode prog_4_method_10_code 55 = .ok (.iload_n 3, 1) := by decide +kernel
theorem d_St_learnSigns_56 : decode prog_4_method_10_code 56 = .ok (.istore_n 3, 1) := by decide +kernel
theorem d_St_learnSigns_57 : decode prog_4_method_10_code 57 = .ok (.aload_n 0, 1) := by decide +kernel
theorem d_St_learnSigns_58 : decode prog_4_method_10_code 58 = .ok (.getfield 15, 3) := by decide +kernel
theorem d_St_learnSigns_61 : decode prog_4_method_10_code 61 = .ok (.iload 5, 2) := by decide +kernel
theorem d_St_learnSigns_63 : decode prog_4_method_10_code 63 = .ok (.iload 6, 2) := by decide +kernel
theorem d_St_learnSigns_65 : decode prog_4_method_10_code 65 = .ok (.iload_n 3, 1) := by decide +kernel
theorem d_St_learnSigns_66 : decode prog_4_method_10_code 66 = .ok (.imul, 1) := by decide +kernel
theorem d_St_learnSigns_67 : decode prog_4_method_10_code 67 = .ok (.iastore, 1) := by decide +kernel
theorem d_St_learnSigns_68 : decode prog_4_method_10_code 68 = .ok (.iinc 4 1, 3) := by decide +kernel
theorem d_St_learnSigns_71 : decode prog_4_method_10_code 71 = .ok (.goto (-58), 3) := by decide +kernel
theorem d_St_learnSigns_74 : decode prog_4_method_10_code 74 = .ok (.return_, 1) := by decide +kernel
def f_S_learnSigns (s_fullRank : Int32) (s_signs_n : Nat) (s_signs : Nat → Int32) (o_sets_n : Nat) (o_sets : Nat → Int32) (o_starts_n : Nat) (o_starts : Nat → Int32) (m_low_n : Nat) (m_low : Nat → Int64) (m_middle_n : Nat) (m_middle : Nat → Int64) (m_high_n : Nat) (m_high : Nat → Int64) : Option ((Nat → Int32)) :=
  ck_in s_fullRank o_starts_n <| ck_nm (o_starts s_fullRank.toNatClampNeg) <| fun x_2 => lo3 (fun k_13 (v4_3 : Int32) (v3_4 : Int32) (w_5 : Nat → Int32) => ck_in (s_fullRank + 1) o_starts_n <| ck_if ((o_starts (s_fullRank + 1).toNatClampNeg) ≤ v4_3) (some w_5) (ck_in v4_3 o_sets_n <| ck_nm (o_sets v4_3.toNatClampNeg) <| fun x_9 => ck_b1 (f_M_signOf m_low_n m_low m_middle_n m_middle m_high_n m_high x_9) <| fun r_10 => ck_jn (fun (s0_12 : Int32) => ck_in x_9 s_signs_n <| ck_nm (v4_3 + 1) <| fun x_14 => k_13 x_14 s0_12 (upd w_5 x_9.toNatClampNeg (r_10 * s0_12))) <| fun k_56 => ck_if (v3_4 = 0) (k_56 r_10) (k_56 v3_4))) ck_F x_2 0 s_signs
set_option maxHeartbeats 4000000 in
set_option maxRecDepth 100000 in
theorem c_S_learnSigns (l : Launch) (dC : Nat → ClassId) (dI : Nat → Nat → Nat) (cI cJ cB cZ cT cN : ClassId) (sz : Nat) (h_s : Nat) (h_o : Nat) (h_m : Nat) (h_s_ranks : Nat) (h_s_signs : Nat) (h_s_members : Nat) (h_s_starts : Nat) (h_s_defects : Nat) (h_o_sets : Nat) (h_o_starts : Nat) (h_o_nexts : Nat) (h_m_low : Nat) (h_m_middle : Nat) (h_m_high : Nat) (s_columnCount : Int32) (s_fullRank : Int32) (s_signs_n : Nat) (s_signs : Nat → Int32) (o_columnCount : Int32) (o_sets_n : Nat) (o_sets : Nat → Int32) (o_starts_n : Nat) (o_starts : Nat → Int32) (m_low_n : Nat) (m_low : Nat → Int64) (m_middle_n : Nat) (m_middle : Nat → Int64) (m_high_n : Nat) (m_high : Nat → Int64) (r : (Nat → Int32)) (h : f_S_learnSigns s_fullRank s_signs_n s_signs o_sets_n o_sets o_starts_n o_starts m_low_n m_low m_middle_n m_middle m_high_n m_high = some r) : Met l y_St_learnSigns w_St_learnSigns ({ frames := 1, cells := 0, slots := 0, locals := 21 } : Room) (va_Pc [.ref h_s, .ref h_o, .ref h_m] (fun U => U.heap.size = sz ∧ va_P (dC, dI) cl_all [(h_s, .inr (2, [.int s_columnCount, .int s_fullRank, .ref h_s_ranks, .ref h_s_signs, .ref h_s_members, .ref h_s_starts, .ref h_s_defects])), (h_s_signs, .inl (cI, s_signs_n, .inl s_signs)), (h_o, .inr (1, [.int o_columnCount, .ref h_o_sets, .ref h_o_starts, .ref h_o_nexts])), (h_o_sets, .inl (cI, o_sets_n, .inl o_sets)), (h_o_starts, .inl (cI, o_starts_n, .inl o_starts)), (h_m, .inr (0, [.ref h_m_low, .ref h_m_middle, .ref h_m_high])), (h_m_low, .inl (cJ, m_low_n, .inr (.inl m_low))), (h_m_middle, .inl (cJ, m_middle_n, .inr (.inl m_middle))), (h_m_high, .inl (cJ, m_high_n, .inr (.inl m_high)))] U.heap ∧ va_K (dC, dI) cl_all [(cI, .int), (cJ, .long), (cB, .byte), (cZ, .boolean), (cT, .object "BasisWalk$Table"), (cN, .object "BasisWalkModel$Num")] U ∧ NW U ∧ va_D (fun _ => True) [(h_s, .inr (2, [.int s_columnCount, .int s_fullRank, .ref h_s_ranks, .ref h_s_signs, .ref h_s_members, .ref h_s_starts, .ref h_s_defects])), (h_s_signs, .inl (cI, s_signs_n, .inl s_signs)), (h_o, .inr (1, [.int o_columnCount, .ref h_o_sets, .ref h_o_starts, .ref h_o_nexts])), (h_o_sets, .inl (cI, o_sets_n, .inl o_sets)), (h_o_starts, .inl (cI, o_starts_n, .inl o_starts)), (h_m, .inr (0, [.ref h_m_low, .ref h_m_middle, .ref h_m_high])), (h_m_low, .inl (cJ, m_low_n, .inr (.inl m_low))), (h_m_middle, .inl (cJ, m_middle_n, .inr (.inl m_middle))), (h_m_high, .inl (cJ, m_high_n, .inr (.inl m_high)))])) (va_Qv (fun u : (Nat → Int32) => u = r) (fun (u : (Nat → Int32)) (t : State) => va_P (dC, dI) cl_all [(h_s, .inr (2, [.int s_columnCount, .int s_fullRank, .ref h_s_ranks, .ref h_s_signs, .ref h_s_members, .ref h_s_starts, .ref h_s_defects])), (h_s_signs, .inl (cI, s_signs_n, .inl u)), (h_o, .inr (1, [.int o_columnCount, .ref h_o_sets, .ref h_o_starts, .ref h_o_nexts])), (h_o_sets, .inl (cI, o_sets_n, .inl o_sets)), (h_o_starts, .inl (cI, o_starts_n, .inl o_starts)), (h_m, .inr (0, [.ref h_m_low, .ref h_m_middle, .ref h_m_high])), (h_m_low, .inl (cJ, m_low_n, .inr (.inl m_low))), (h_m_middle, .inl (cJ, m_middle_n, .inr (.inl m_middle))), (h_m_high, .inl (cJ, m_high_n, .inr (.inl m_high)))] t.heap ∧ va_K (dC, dI) cl_all [(cI, .int), (cJ, .long), (cB, .byte), (cZ, .boolean), (cT, .object "BasisWalk$Table"), (cN, .object "BasisWalkModel$Num")] t ∧ va_D (va_A [(h_s, .inr (2, [.int s_columnCount, .int s_fullRank, .ref h_s_ranks, .ref h_s_signs, .ref h_s_members, .ref h_s_starts, .ref h_s_defects])), (h_s_signs, .inl (cI, s_signs_n, .inl s_signs)), (h_o, .inr (1, [.int o_columnCount, .ref h_o_sets, .ref h_o_starts, .ref h_o_nexts])), (h_o_sets, .inl (cI, o_sets_n, .inl o_sets)), (h_o_starts, .inl (cI, o_starts_n, .inl o_starts)), (h_m, .inr (0, [.ref h_m_low, .ref h_m_middle, .ref h_m_high])), (h_m_low, .inl (cJ, m_low_n, .inr (.inl m_low))), (h_m_middle, .inl (cJ, m_middle_n, .inr (.inl m_middle))), (h_m_high, .inl (cJ, m_high_n, .inr (.inl m_high)))] sz) [(h_s, .inr (2, [.int s_columnCount, .int s_fullRank, .ref h_s_ranks, .ref h_s_signs, .ref h_s_members, .ref h_s_starts, .ref h_s_defects])), (h_s_signs, .inl (cI, s_signs_n, .inl u)), (h_o, .inr (1, [.int o_columnCount, .ref h_o_sets, .ref h_o_starts, .ref h_o_nexts])), (h_o_sets, .inl (cI, o_sets_n, .inl o_sets)), (h_o_starts, .inl (cI, o_starts_n, .inl o_starts)), (h_m, .inr (0, [.ref h_m_low, .ref h_m_middle, .ref h_m_high])), (h_m_low, .inl (cJ, m_low_n, .inr (.inl m_low))), (h_m_middle, .inl (cJ, m_middle_n, .inr (.inl m_middle))), (h_m_high, .inl (cJ, m_high_n, .inr (.inl m_high)))]) (va_A [(h_s, .inr (2, [.int s_columnCount, .int s_fullRank, .ref h_s_ranks, .ref h_s_signs, .ref h_s_members, .ref h_s_starts, .ref h_s_defects])), (h_s_signs, .inl (cI, s_signs_n, .inl s_signs)), (h_o, .inr (1, [.int o_columnCount, .ref h_o_sets, .ref h_o_starts, .ref h_o_nexts])), (h_o_sets, .inl (cI, o_sets_n, .inl o_sets)), (h_o_starts, .inl (cI, o_starts_n, .inl o_starts)), (h_m, .inr (0, [.ref h_m_low, .ref h_m_middle, .ref h_m_high])), (h_m_low, .inl (cJ, m_low_n, .inr (.inl m_low))), (h_m_middle, .inl (cJ, m_middle_n, .inr (.inl m_middle))), (h_m_high, .inl (cJ, m_high_n, .inr (.inl m_high)))] sz)) 0 0 (va_A [(h_s, .inr (2, [.int s_columnCount, .int s_fullRank, .ref h_s_ranks, .ref h_s_signs, .ref h_s_members, .ref h_s_starts, .ref h_s_defects])), (h_s_signs, .inl (cI, s_signs_n, .inl s_signs)), (h_o, .inr (1, [.int o_columnCount, .ref h_o_sets, .ref h_o_starts, .ref h_o_nexts])), (h_o_sets, .inl (cI, o_sets_n, .inl o_sets)), (h_o_starts, .inl (cI, o_starts_n, .inl o_starts)), (h_m, .inr (0, [.ref h_m_low, .ref h_m_middle, .ref h_m_high])), (h_m_low, .inl (cJ, m_low_n, .inr (.inl m_low))), (h_m_middle, .inl (cJ, m_middle_n, .inr (.inl m_middle))), (h_m_high, .inl (cJ, m_high_n, .inr (.inl m_high)))] sz) := by
  refine Met.ofW (cc := prog_4_method_10_code) (maxL := 7) (ret := (Option.none : Option Jvm.ClassFile.FieldType)) (by decide) rfl ?_
  intro p e s m args below meth c s₁ B hml hv
  obtain ⟨hAR, hsz, hP, hK, hN, hD0⟩ := hv
  have hx := B.exec
  have hb := B.bytes
  have hr := B.returns
  have hts := atoms_spec (ws := w_St_learnSigns) B.pre
  have hown : s.vm.findClass "BasisWalk$Study" = some m.cls := findClass_of_methodNamed B.named
  have hlocks := B.notSynchronized
  clear B
  subst hsz
  have hD := hD0.self (sz := s.heap.size)
  generalize hAe : va_A [(h_s, .inr (2, [.int s_columnCount, .int s_fullRank, .ref h_s_ranks, .ref h_s_signs, .ref h_s_members, .ref h_s_starts, .ref h_s_defects])), (h_s_signs, .inl (cI, s_signs_n, .inl s_signs)), (h_o, .inr (1, [.int o_columnCount, .ref h_o_sets, .ref h_o_starts, .ref h_o_nexts])), (h_o_sets, .inl (cI, o_sets_n, .inl o_sets)), (h_o_starts, .inl (cI, o_starts_n, .inl o_starts)), (h_m, .inr (0, [.ref h_m_low, .ref h_m_middle, .ref h_m_high])), (h_m_low, .inl (cJ, m_low_n, .inr (.inl m_low))), (h_m_middle, .inl (cJ, m_middle_n, .inr (.inl m_middle))), (h_m_high, .inl (cJ, m_high_n, .inr (.inl m_high)))] s.heap.size = A at hD ⊢
  have hA : ∀ q : Nat, s.heap.size ≤ q → A q := fun q h => by rw [← hAe]; exact Or.inr h
  clear hAe hD0
  have hS : va_S A s.heap s.heap [] := va_S.rf
  have hl := lv_entry ([.ref h_s, .ref h_o, .ref h_m]) (n := 7) (Nat.le_of_ble_eq_true rfl)
  subst hAR
  rw [lg_entry_eq]
  generalize (lg_sl ([.ref h_s, .ref h_o, .ref h_m]) ++ List.replicate (7 - (lg_sl ([.ref h_s, .ref h_o, .ref h_m])).length) Slot.unset).toArray = ls at hl ⊢
  have hl : lv_has ls 7 [(0, .ref h_s), (1, .ref h_o), (2, .ref h_m)] := hl
  change W p l e ({ frames := 1, cells := 0, slots := 0, locals := 21 } : Room) s m _ below meth c s.heap [] 0 0 _ _
  generalize hARe : ([.ref h_s, .ref h_o, .ref h_m] : List Value).toArray = AR at hts ⊢
  clear hARe
  generalize hQ : MQ below _ AR s 0 0 A = QQ
  have fl0 := va_Nw.use (A := AR) rfl (hN _ tn_98)
  have iw1 := (fun w hw => List.mem_cons_of_mem _ (in_Or w hw) : ∀ w ∈ u_ws "BasisWalk$Order" T_Or 4, w ∈ w_St_learnSigns)
  have fl2 := hts _ (List.mem_cons_of_mem _ tw_33)
  have iw3 := (fun w hw => List.mem_cons_of_mem _ (in_St w hw) : ∀ w ∈ u_ws "BasisWalk$Study" T_St 7, w ∈ w_St_learnSigns)
  have fl4 := va_Nw.use (A := AR) rfl (hN _ tn_95)
  have fl5 := hts _ (List.mem_cons_of_mem _ tw_37)
  obtain ⟨H, hHe⟩ : ∃ H : Heap, H = s.heap := ⟨_, rfl⟩
  rw [← hHe] at hP ⊢
  replace hS : va_S A s.heap H [] := by rw [hHe]; exact va_S.rf
  clear hHe
  unfold f_S_learnSigns at h
  refine lv_iconst (v := 0) hx hb d_St_learnSigns_0 (by decide) ?_
  refine lv_istore_n (lv' := [(3, .int 0), (0, .ref h_s), (1, .ref h_o), (2, .ref h_m)]) hx hb d_St_learnSigns_1 rfl hl (by decide) rfl (fun ls hl => ?_)
  refine lv_aload_n hx hb d_St_learnSigns_2 rfl (lv_at hl 2 rfl) ?_
  refine va_getN (D := (dC, dI)) (ci := 1) (v := .ref h_o_starts) (C := "BasisWalk$Order") (T := T_Or) (N := 4) hx hb hts iw1 hown hK hP 2 rfl rfl 2 (by decide) fl0 (fun _ h9 => h9) rfl d_St_learnSigns_3 ?_
  refine lv_aload_n hx hb d_St_learnSigns_6 rfl (lv_at hl 1 rfl) ?_
  refine va_get (D := (dC, dI)) (ci := 2) (v := .int s_fullRank) (C := "BasisWalk$Study") (T := T_St) (N := 7) hx hb hts iw3 hown hK hP 0 rfl rfl 1 (by decide) fl2 (fun _ h9 => h9) rfl d_St_learnSigns_7 ?_
  obtain ⟨g_1, h⟩ := ck_in_s h
  refine va_iald hx hb hK hP 4 0 rfl rfl g_1 d_St_learnSigns_10 ?_
  refine lv_topi (fun x_2 ex_2 => ?_)
  replace h := ck_nm_s h ex_2
  refine lv_istore (lv' := [(4, .int x_2), (3, .int 0), (0, .ref h_s), (1, .ref h_o), (2, .ref h_m)]) hx hb d_St_learnSigns_11 hl (by decide) rfl (fun ls hl => ?_)
  refine lo3_W (r := r) (fun (v4_3 : Int32) (v3_4 : Int32) (w_5 : Nat → Int32) => ∀ (H : Heap) (locs : List Loc), va_P (dC, dI) cl_all [(h_s, .inr (2, [.int s_columnCount, .int s_fullRank, .ref h_s_ranks, .ref h_s_signs, .ref h_s_members, .ref h_s_starts, .ref h_s_defects])), (h_s_signs, .inl (cI, s_signs_n, .inl w_5)), (h_o, .inr (1, [.int o_columnCount, .ref h_o_sets, .ref h_o_starts, .ref h_o_nexts])), (h_o_sets, .inl (cI, o_sets_n, .inl o_sets)), (h_o_starts, .inl (cI, o_starts_n, .inl o_starts)), (h_m, .inr (0, [.ref h_m_low, .ref h_m_middle, .ref h_m_high])), (h_m_low, .inl (cJ, m_low_n, .inr (.inl m_low))), (h_m_middle, .inl (cJ, m_middle_n, .inr (.inl m_middle))), (h_m_high, .inl (cJ, m_high_n, .inr (.inl m_high)))] H → va_D A [(h_s, .inr (2, [.int s_columnCount, .int s_fullRank, .ref h_s_ranks, .ref h_s_signs, .ref h_s_members, .ref h_s_starts, .ref h_s_defects])), (h_s_signs, .inl (cI, s_signs_n, .inl w_5)), (h_o, .inr (1, [.int o_columnCount, .ref h_o_sets, .ref h_o_starts, .ref h_o_nexts])), (h_o_sets, .inl (cI, o_sets_n, .inl o_sets)), (h_o_starts, .inl (cI, o_starts_n, .inl o_starts)), (h_m, .inr (0, [.ref h_m_low, .ref h_m_middle, .ref h_m_high])), (h_m_low, .inl (cJ, m_low_n, .inr (.inl m_low))), (h_m_middle, .inl (cJ, m_middle_n, .inr (.inl m_middle))), (h_m_high, .inl (cJ, m_high_n, .inr (.inl m_high)))] → va_S A s.heap H locs → ∀ ls : Array Slot, lv_has ls 7 [(0, .ref h_s), (1, .ref h_o), (2, .ref h_m), (3, .int v3_4), (4, .int v4_3)] → W p l e ({ frames := 1, cells := 0, slots := 0, locals := 21 } : Room) s m AR below meth c H locs 0 0 QQ (F0 m 13 ls [])) ?_ _ _ _ _ h _ _ hP hD hS _ (lv_sub hl [2, 3, 4, 1, 0] rfl)
  intro k_13 v4_3 v3_4 w_5 J_13 h H locs hP hD hS ls hl
  refine lv_iload hx hb d_St_learnSigns_13 (lv_at hl 4 rfl) ?_
  refine lv_aload_n hx hb d_St_learnSigns_15 rfl (lv_at hl 1 rfl) ?_
  refine va_getN (D := (dC, dI)) (ci := 1) (v := .ref h_o_starts) (C := "BasisWalk$Order") (T := T_Or) (N := 4) hx hb hts iw1 hown hK hP 2 rfl rfl 2 (by decide) fl0 (fun _ h9 => h9) rfl d_St_learnSigns_16 ?_
  refine lv_aload_n hx hb d_St_learnSigns_19 rfl (lv_at hl 0 rfl) ?_
  refine va_get (D := (dC, dI)) (ci := 2) (v := .int s_fullRank) (C := "BasisWalk$Study") (T := T_St) (N := 7) hx hb hts iw3 hown hK hP 0 rfl rfl 1 (by decide) fl2 (fun _ h9 => h9) rfl d_St_learnSigns_20 ?_
  refine lv_iconst (v := 1) hx hb d_St_learnSigns_23 (by decide) ?_
  refine lv_iadd hx hb d_St_learnSigns_24 ?_
  obtain ⟨g_6, h⟩ := ck_in_s h
  refine va_iald hx hb hK hP 4 0 rfl rfl g_6 d_St_learnSigns_25 ?_
  refine lv_icmp_ge (tgt := 74) hx hb d_St_learnSigns_26 (by decide) (fun c_7 => ?_) (fun c_7 => ?_)
  · replace h := ck_if_t h c_7
    obtain rfl := Option.some.inj h
    subst hQ
    exact W.vret hx hb hr (fun t ht hW => ⟨⟨w_5, rfl, rfl, by rw [ht]; exact hP, va_K.moved hW.alike hK, hD⟩, hS.F ht⟩) hS.2.2 d_St_learnSigns_74
  · replace h := ck_if_f h c_7
    refine lv_aload_n hx hb d_St_learnSigns_29 rfl (lv_at hl 1 rfl) ?_
    refine va_getN (D := (dC, dI)) (ci := 1) (v := .ref h_o_sets) (C := "BasisWalk$Order") (T := T_Or) (N := 4) hx hb hts iw1 hown hK hP 2 rfl rfl 1 (by decide) fl4 (fun _ h9 => h9) rfl d_St_learnSigns_30 ?_
    refine lv_iload hx hb d_St_learnSigns_33 (lv_at hl 4 rfl) ?_
    obtain ⟨g_8, h⟩ := ck_in_s h
    refine va_iald hx hb hK hP 3 0 rfl rfl g_8 d_St_learnSigns_35 ?_
    refine lv_topi (fun x_9 ex_9 => ?_)
    replace h := ck_nm_s h ex_9
    refine lv_istore (lv' := [(5, .int x_9), (0, .ref h_s), (1, .ref h_o), (2, .ref h_m), (3, .int v3_4), (4, .int v4_3)]) hx hb d_St_learnSigns_36 hl (by decide) rfl (fun ls hl => ?_)
    refine lv_aload_n hx hb d_St_learnSigns_38 rfl (lv_at hl 3 rfl) ?_
    refine lv_iload hx hb d_St_learnSigns_39 (lv_at hl 0 rfl) ?_
    obtain ⟨r_10, hc_11, h⟩ := ck_b1_s h
    have hPc := hP.sub (ws' := [(h_m, .inr (0, [.ref h_m_low, .ref h_m_middle, .ref h_m_high])), (h_m_low, .inl (cJ, m_low_n, .inr (.inl m_low))), (h_m_middle, .inl (cJ, m_middle_n, .inr (.inl m_middle))), (h_m_high, .inl (cJ, m_high_n, .inr (.inl m_high)))]) [5, 6, 7, 8] rfl
    have hDc := hD.sub (ws' := [(h_m, .inr (0, [.ref h_m_low, .ref h_m_middle, .ref h_m_high])), (h_m_low, .inl (cJ, m_low_n, .inr (.inl m_low))), (h_m_middle, .inl (cJ, m_middle_n, .inr (.inl m_middle))), (h_m_high, .inl (cJ, m_high_n, .inr (.inl m_high)))]) [5, 6, 7, 8] (by decide) rfl
    have hFc := va_free (wc := [(h_m, .inr (0, [.ref h_m_low, .ref h_m_middle, .ref h_m_high])), (h_m_low, .inl (cJ, m_low_n, .inr (.inl m_low))), (h_m_middle, .inl (cJ, m_middle_n, .inr (.inl m_middle))), (h_m_high, .inl (cJ, m_high_n, .inr (.inl m_high)))]) hD hS hA [5, 6, 7, 8] rfl
    refine va_calli (va_runV (As := [.int x_9]) (rest := []) ⟨hx, hb, hml, hown, hts⟩ (c_M_signOf l dC dI cI cJ cB cZ cT cN H.size h_m h_m_low h_m_middle h_m_high m_low_n m_low m_middle_n m_middle m_high_n m_high x_9 _ hc_11) (cwV 1 hts (tb_V tw_242 tw_235 tw_236 tw_5 tw_237) rfl rfl rfl (by decide +kernel) ⟨Nat.le_of_ble_eq_true rfl, Nat.le_of_ble_eq_true rfl⟩) ⟨fun a U g mk q => by obtain ⟨q0, q1, qP, qK, qN, qD⟩ := q; exact ⟨q0, q1, qP, va_K.moved (u := U) (U := U.calling g mk a) (Vm.Alike.refl U.vm) qK, qN.same rfl, qD⟩, va_recv hK hPc (ci := 0) (q0 := 0) rfl rfl, fun U hU hW => ⟨rfl, by rw [hU], by rw [hU]; exact hPc, va_K.moved hW.alike hK, hN.warm hW, hDc.weaken (fun _ _ _ _ => trivial)⟩⟩ rfl rfl hl.1 rfl (lv_room (Nat.le_of_ble_eq_true rfl)) d_St_learnSigns_41 ⟨Nat.zero_le _, Nat.zero_le _⟩) hS (fun q _ h => hFc q h) hFc (fun rr u t H1 locs ht hvm hw hB hz1 hk1 hS => ?_)
    replace hw := hw.symm
    subst hw
    obtain ⟨hP1, -, hD1⟩ := hB
    rw [ht] at hP1
    obtain ⟨hP, hD⟩ := va_join (wr := [(h_s, .inr (2, [.int s_columnCount, .int s_fullRank, .ref h_s_ranks, .ref h_s_signs, .ref h_s_members, .ref h_s_starts, .ref h_s_defects])), (h_s_signs, .inl (cI, s_signs_n, .inl w_5)), (h_o, .inr (1, [.int o_columnCount, .ref h_o_sets, .ref h_o_starts, .ref h_o_nexts])), (h_o_sets, .inl (cI, o_sets_n, .inl o_sets)), (h_o_starts, .inl (cI, o_starts_n, .inl o_starts))]) (w1 := [(h_m, .inr (0, [.ref h_m_low, .ref h_m_middle, .ref h_m_high])), (h_m_low, .inl (cJ, m_low_n, .inr (.inl m_low))), (h_m_middle, .inl (cJ, m_middle_n, .inr (.inl m_middle))), (h_m_high, .inl (cJ, m_high_n, .inr (.inl m_high)))]) hP hD [5, 6, 7, 8] [0, 1, 2, 3, 4] rfl rfl (by decide) (by decide) hk1 hFc hP1 hD1
    generalize H1 = H at hP hS ⊢
    have hP : va_P (dC, dI) cl_all [(h_s, .inr (2, [.int s_columnCount, .int s_fullRank, .ref h_s_ranks, .ref h_s_signs, .ref h_s_members, .ref h_s_starts, .ref h_s_defects])), (h_s_signs, .inl (cI, s_signs_n, .inl w_5)), (h_o, .inr (1, [.int o_columnCount, .ref h_o_sets, .ref h_o_starts, .ref h_o_nexts])), (h_o_sets, .inl (cI, o_sets_n, .inl o_sets)), (h_o_starts, .inl (cI, o_starts_n, .inl o_starts)), (h_m, .inr (0, [.ref h_m_low, .ref h_m_middle, .ref h_m_high])), (h_m_low, .inl (cJ, m_low_n, .inr (.inl m_low))), (h_m_middle, .inl (cJ, m_middle_n, .inr (.inl m_middle))), (h_m_high, .inl (cJ, m_high_n, .inr (.inl m_high)))] H := hP.sub [0, 1, 2, 3, 4, 5, 6, 7, 8] rfl
    have hD : va_D A [(h_s, .inr (2, [.int s_columnCount, .int s_fullRank, .ref h_s_ranks, .ref h_s_signs, .ref h_s_members, .ref h_s_starts, .ref h_s_defects])), (h_s_signs, .inl (cI, s_signs_n, .inl w_5)), (h_o, .inr (1, [.int o_columnCount, .ref h_o_sets, .ref h_o_starts, .ref h_o_nexts])), (h_o_sets, .inl (cI, o_sets_n, .inl o_sets)), (h_o_starts, .inl (cI, o_starts_n, .inl o_starts)), (h_m, .inr (0, [.ref h_m_low, .ref h_m_middle, .ref h_m_high])), (h_m_low, .inl (cJ, m_low_n, .inr (.inl m_low))), (h_m_middle, .inl (cJ, m_middle_n, .inr (.inl m_middle))), (h_m_high, .inl (cJ, m_high_n, .inr (.inl m_high)))] := hD.sub [0, 1, 2, 3, 4, 5, 6, 7, 8] (by decide) rfl
    refine lv_istore (lv' := [(6, .int r_10), (5, .int x_9), (0, .ref h_s), (1, .ref h_o), (2, .ref h_m), (3, .int v3_4), (4, .int v4_3)]) hx hb d_St_learnSigns_44 hl (by decide) rfl (fun ls hl => ?_)
    refine lv_iload_n hx hb d_St_learnSigns_46 rfl (lv_at hl 5 rfl) ?_
    refine ck_jn_W h (fun k' => ∀ (s0_12 : Int32), k' s0_12 = some r → ∀ (H : Heap) (locs : List Loc), va_P (dC, dI) cl_all [(h_s, .inr (2, [.int s_columnCount, .int s_fullRank, .ref h_s_ranks, .ref h_s_signs, .ref h_s_members, .ref h_s_starts, .ref h_s_defects])), (h_s_signs, .inl (cI, s_signs_n, .inl w_5)), (h_o, .inr (1, [.int o_columnCount, .ref h_o_sets, .ref h_o_starts, .ref h_o_nexts])), (h_o_sets, .inl (cI, o_sets_n, .inl o_sets)), (h_o_starts, .inl (cI, o_starts_n, .inl o_starts)), (h_m, .inr (0, [.ref h_m_low, .ref h_m_middle, .ref h_m_high])), (h_m_low, .inl (cJ, m_low_n, .inr (.inl m_low))), (h_m_middle, .inl (cJ, m_middle_n, .inr (.inl m_middle))), (h_m_high, .inl (cJ, m_high_n, .inr (.inl m_high)))] H → va_D A [(h_s, .inr (2, [.int s_columnCount, .int s_fullRank, .ref h_s_ranks, .ref h_s_signs, .ref h_s_members, .ref h_s_starts, .ref h_s_defects])), (h_s_signs, .inl (cI, s_signs_n, .inl w_5)), (h_o, .inr (1, [.int o_columnCount, .ref h_o_sets, .ref h_o_starts, .ref h_o_nexts])), (h_o_sets, .inl (cI, o_sets_n, .inl o_sets)), (h_o_starts, .inl (cI, o_starts_n, .inl o_starts)), (h_m, .inr (0, [.ref h_m_low, .ref h_m_middle, .ref h_m_high])), (h_m_low, .inl (cJ, m_low_n, .inr (.inl m_low))), (h_m_middle, .inl (cJ, m_middle_n, .inr (.inl m_middle))), (h_m_high, .inl (cJ, m_high_n, .inr (.inl m_high)))] → va_S A s.heap H locs → ∀ ls : Array Slot, lv_has ls 7 [(0, .ref h_s), (1, .ref h_o), (2, .ref h_m), (4, .int v4_3), (5, .int x_9), (6, .int r_10)] → W p l e ({ frames := 1, cells := 0, slots := 0, locals := 21 } : Room) s m AR below meth c H locs 0 0 QQ (F0 m 56 ls [.int s0_12])) ?_ ?_
    · intro s0_12 h H locs hP hD hS ls hl
      refine lv_istore_n (lv' := [(3, .int s0_12), (0, .ref h_s), (1, .ref h_o), (2, .ref h_m), (4, .int v4_3), (5, .int x_9), (6, .int r_10)]) hx hb d_St_learnSigns_56 rfl hl (by decide) rfl (fun ls hl => ?_)
      refine lv_aload_n hx hb d_St_learnSigns_57 rfl (lv_at hl 1 rfl) ?_
      refine va_get (D := (dC, dI)) (ci := 2) (v := .ref h_s_signs) (C := "BasisWalk$Study") (T := T_St) (N := 7) hx hb hts iw3 hown hK hP 0 rfl rfl 3 (by decide) fl5 (fun _ h9 => h9) rfl d_St_learnSigns_58 ?_
      refine lv_iload hx hb d_St_learnSigns_61 (lv_at hl 5 rfl) ?_
      refine lv_iload hx hb d_St_learnSigns_63 (lv_at hl 6 rfl) ?_
      refine lv_iload_n hx hb d_St_learnSigns_65 rfl (lv_at hl 0 rfl) ?_
      refine lv_imul hx hb d_St_learnSigns_66 ?_
      obtain ⟨g_13, h⟩ := ck_in_s h
      refine va_iast hx hb hK hP hD hS 1 0 rfl rfl g_13 d_St_learnSigns_67 (fun H locs hP hD hS => ?_)
      have hP : va_P (dC, dI) cl_all [(h_s, .inr (2, [.int s_columnCount, .int s_fullRank, .ref h_s_ranks, .ref h_s_signs, .ref h_s_members, .ref h_s_starts, .ref h_s_defects])), (h_s_signs, .inl (cI, s_signs_n, .inl (upd w_5 x_9.toNatClampNeg (r_10 * s0_12)))), (h_o, .inr (1, [.int o_columnCount, .ref h_o_sets, .ref h_o_starts, .ref h_o_nexts])), (h_o_sets, .inl (cI, o_sets_n, .inl o_sets)), (h_o_starts, .inl (cI, o_starts_n, .inl o_starts)), (h_m, .inr (0, [.ref h_m_low, .ref h_m_middle, .ref h_m_high])), (h_m_low, .inl (cJ, m_low_n, .inr (.inl m_low))), (h_m_middle, .inl (cJ, m_middle_n, .inr (.inl m_middle))), (h_m_high, .inl (cJ, m_high_n, .inr (.inl m_high)))] H := hP
      have hD : va_D A [(h_s, .inr (2, [.int s_columnCount, .int s_fullRank, .ref h_s_ranks, .ref h_s_signs, .ref h_s_members, .ref h_s_starts, .ref h_s_defects])), (h_s_signs, .inl (cI, s_signs_n, .inl (upd w_5 x_9.toNatClampNeg (r_10 * s0_12)))), (h_o, .inr (1, [.int o_columnCount, .ref h_o_sets, .ref h_o_starts, .ref h_o_nexts])), (h_o_sets, .inl (cI, o_sets_n, .inl o_sets)), (h_o_starts, .inl (cI, o_starts_n, .inl o_starts)), (h_m, .inr (0, [.ref h_m_low, .ref h_m_middle, .ref h_m_high])), (h_m_low, .inl (cJ, m_low_n, .inr (.inl m_low))), (h_m_middle, .inl (cJ, m_middle_n, .inr (.inl m_middle))), (h_m_high, .inl (cJ, m_high_n, .inr (.inl m_high)))] := hD
      obtain ⟨x_14, ex_14⟩ : ∃ y : Int32, y = v4_3 + 1 := ⟨_, rfl⟩
      replace h := ck_nm_s h ex_14
      refine lv_iinc (v := x_14) (lv' := [(4, .int x_14), (3, .int s0_12), (0, .ref h_s), (1, .ref h_o), (2, .ref h_m), (5, .int x_9), (6, .int r_10)]) hx hb d_St_learnSigns_68 hl (k := 4) rfl (by rw [ex_14]; rfl) (by decide) rfl (fun ls hl => ?_)
      refine lv_goto (tgt := 13) hx hb d_St_learnSigns_71 (by decide) ?_
      exact J_13 _ _ _ h _ _ hP hD hS _ (lv_sub hl [2, 3, 4, 1, 0] rfl)
    · intro k_56 J_56 h
      refine lv_if_ne (tgt := 55) hx hb d_St_learnSigns_47 (by decide) (fun c_15 => ?_) (fun c_15 => ?_)
      · replace h := ck_if_f h c_15
        refine lv_iload_n hx hb d_St_learnSigns_55 rfl (lv_at hl 5 rfl) ?_
        exact J_56 _ h _ _ hP hD hS _ (lv_sub hl [2, 3, 4, 6, 1, 0] rfl)
      · replace h := ck_if_t h c_15
        refine lv_iload hx hb d_St_learnSigns_50 (lv_at hl 0 rfl) ?_
        refine lv_goto (tgt := 56) hx hb d_St_learnSigns_52 (by decide) ?_
        exact J_56 _ h _ _ hP hD hS _ (lv_sub hl [2, 3, 4, 6, 1, 0] rfl)
theorem d_St_markIndependent_0 : decode prog_4_method_11_code 0 = .ok (.iconst 1, 1) := by decide +kernel
theorem d_St_markIndependent_1 : decode prog_4_method_11_code 1 = .ok (.aload_n 0, 1) := by decide +kernel
theorem d_St_markIndependent_2 : decode prog_4_method_11_code 2 = .ok (.getfield 33, 3) := by decide +kernel
theorem d_St_markIndependent_5 : decode prog_4_method_11_code 5 = .ok (.ishl, 1) := by decide +kernel
theorem d_St_markIndependent_6 : decode prog_4_method_11_code 6 = .ok (.iconst 1, 1) := by decide +kernel
theorem d_St_markIndependent_7 : decode prog_4_method_11_code 7 = .ok (.isub, 1) := by decide +kernel
theorem d_St_markIndependent_8 : decode prog_4_method_11_code 8 = .ok (.istore_n 1, 1) := by decide +kernel
theorem d_St_markIndependent_9 : decode prog_4_method_11_code 9 = .ok (.iload_n 1, 1) := by decide +kernel
theorem d_St_markIndependent_10 : decode prog_4_method_11_code 10 = .ok (.ifCond .lt 76, 3) := by decide +kernel
theorem d_St_markIndependent_13 : decode prog_4_method_11_code 13 = .ok (.iload_n 1, 1) := by decide +kernel
theorem d_St_markIndependent_14 : decode prog_4_method_11_code 14 = .ok (.invokestatic 94, 3) := by decide +kernel
theorem d_St_markIndependent_17 : decode prog_4_method_11_code 17 = .ok (.istore_n 2, 1) := by decide +kernel
theorem d_St_markIndependent_18 : decode prog_4_method_11_code 18 = .ok (.iload_n 2, 1) := by decide +kernel
theorem d_St_markIndependent_19 : decode prog_4_method_11_code 19 = .ok (.aload_n 0, 1) := by decide +kernel
theorem d_St_markIndependent_20 : decode prog_4_method_11_code 20 = .ok (.getfield 41, 3) := by decide +kernel
theorem d_St_markIndependent_23 : decode prog_4_method_11_code 23 = .ok (.if_icmp .ne 20, 3) := by decide +kernel
theorem d_St_markIndependent_26 : decode prog_4_method_11_code 26 = .ok (.aload_n 0, 1) := by decide +kernel
theorem d_St_markIndependent_27 : decode prog_4_method_11_code 27 = .ok (.getfield 15, 3) := by decide +kernel
theorem d_St_markIndependent_30 : decode prog_4_method_11_code 30 = .ok (.iload_n 1, 1) := by decide +kernel
theorem d_St_markIndependent_31 : decode prog_4_method_11_code 31 = .ok (.iaload, 1) := by decide +kernel
theorem d_St_markIndependent_32 : decode prog_4_method_11_code 32 = .ok (.ifCond .eq 7, 3) := by decide +kernel
theorem d_St_markIndependent_35 : decode prog_4_method_11_code 35 = .ok (.iconst 1, 1) := by decide +kernel
theorem d_St_markIndependent_36 : decode prog_4_method_11_code 36 = .ok (.goto 28, 3) := by decide +kernel
theorem d_St_markIndependent_39 : decode prog_4_method_11_code 39 = .ok (.iconst 0, 1) := by decide +kernel
theorem d_St_markIndependent_40 : decode prog_4_method_11_code 40 = .ok (.goto 24, 3) := by decide +kernel
theorem d_St_markIndependent_43 : decode prog_4_method_11_code 43 = .ok (.iload_n 2, 1) := by decide +kernel
theorem d_St_markIndependent_44 : decode prog_4_method_11_code 44 = .ok (.aload_n 0, 1) := by decide +kernel
theorem d_St_markIndependent_45 : decode prog_4_method_11_code 45 = .ok (.getfield 41, 3) := by decide +kernel
theorem d_St_markIndependent_48 : decode prog_4_method_11_code 48 = .ok (.if_icmp .ge 15, 3) := by decide +kernel
theorem d_St_markIndependent_51 : decode prog_4_method_11_code 51 = .ok (.aload_n 0, 1) := by decide +kernel
theorem d_St_markIndependent_52 : decode prog_4_method_11_code 52 = .ok (.iload_n 1, 1) := by decide +kernel
theorem d_St_markIndependent_53 : decode prog_4_method_11_code 53 = .ok (.invokevirtual 99, 3) := by decide +kernel
theorem d_St_markIndependent_56 : decode prog_4_method_11_code 56 = .ok (.ifCond .eq 7, 3) := by decide +kernel
theorem d_St_markIndependent_59 : decode prog_4_method_11_code 59 = .ok (.iconst 1, 1) := by decide +kernel
theorem d_St_markIndependent_60 : decode prog_4_method_11_code 60 = .ok (.goto 4, 3) := by decide +kernel
theorem d_St_markIndependent_63 : decode prog_4_method_11_code 63 = .ok (.iconst 0, 1) := by decide +kernel
theorem d_St_markIndependent_64 : decode prog_4_method_11_code 64 = .ok (.istore_n 3, 1) := by decide +kernel
theorem d_St_markIndependent_65 : decode prog_4_method_11_code 65 = .ok (.aload_n 0, 1) := by decide +kernel
theorem d_St_markIndependent_66 : decode prog_4_method_11_code 66 = .ok (.getfield 9, 3) := by decide +kernel
theorem d_St_markIndependent_69 : decode prog_4_method_11_code 69 = .ok (.iload_n 1, 1) := by decide +kernel
theorem d_St_markIndependent_70 : decode prog_4_method_11_code 70 = .ok (.iload_n 3, 1) := by decide +kernel
theorem d_St_markIndependent_71 : decode prog_4_method_11_code 71 = .ok (.ifCond .eq 7, 3) := by decide +kernel
theorem d_St_markIndependent_74 : decode prog_4_method_11_code 74 = .ok (.iload_n 2, 1) := by decide +kernel
theorem d_St_markIndependent_75 : decode prog_4_method_11_code 75 = .ok (.goto 4, 3) := by decide +kernel
theorem d_St_markIndependent_78 : decode prog_4_method_11_code 78 = .ok (.iconst (-1), 1) := by decide +kernel
theorem d_St_markIndependent_79 : decode prog_4_method_11_code 79 = .ok (.iastore, 1) := by decide +kernel
theorem d_St_markIndependent_80 : decode prog_4_method_11_code 80 = .ok (.iinc 1 (-1), 3) := by decide +kernel
theorem d_St_markIndependent_83 : decode prog_4_method_11_code 83 = .ok (.goto (-74), 3) := by decide +kernel
theorem d_St_markIndependent_86 : decode prog_4_method_11_code 86 = .ok (.return_, 1) := by decide +kernel
def f_S_markIndependent (s_columnCount : Int32) (s_fullRank : Int32) (s_ranks_n : Nat) (s_ranks : Nat → Int32) (s_signs_n : Nat) (s_signs : Nat → Int32) : Option ((Nat → Int32)) :=
  ck_nm (((1 : Int32) <<< (s_columnCount &&& 31)) - 1) <| fun x_1 => lo2 (fun k_9 (v1_2 : Int32) (w_3 : Nat → Int32) => ck_if (v1_2 < 0) (some w_3) (ck_b1 (f_bitCount v1_2) <| fun r_5 => ck_jn (fun (s0_7 : Int32) => ck_jn (fun (s0_8 : Int32) => ck_in v1_2 s_ranks_n <| ck_nm (v1_2 + (-1)) <| fun x_10 => k_9 x_10 (upd w_3 v1_2.toNatClampNeg s0_8)) <| fun k_79 => ck_if (s0_7 = 0) (k_79 (-1)) (k_79 r_5)) <| fun k_64 => ck_if (r_5 = s_fullRank) (ck_in v1_2 s_signs_n <| ck_if ((s_signs v1_2.toNatClampNeg) = 0) (k_64 0) (k_64 1)) (ck_jn (fun (_ : Unit) => k_64 0) <| fun k_63 => ck_if (s_fullRank ≤ r_5) (k_63 ()) (ck_b1 (f_S_hasIndependentAbove s_columnCount s_ranks_n w_3 v1_2) <| fun r_14 => ck_if (r_14 = 0) (k_63 ()) (k_64 1))))) ck_F x_1 s_ranks
set_option maxHeartbeats 4000000 in
set_option maxRecDepth 100000 in
theorem c_S_markIndependent (l : Launch) (dC : Nat → ClassId) (dI : Nat → Nat → Nat) (cI cJ cB cZ cT cN : ClassId) (sz : Nat) (h_s : Nat) (h_s_ranks : Nat) (h_s_signs : Nat) (h_s_members : Nat) (h_s_starts : Nat) (h_s_defects : Nat) (s_columnCount : Int32) (s_fullRank : Int32) (s_ranks_n : Nat) (s_ranks : Nat → Int32) (s_signs_n : Nat) (s_signs : Nat → Int32) (r : (Nat → Int32)) (h : f_S_markIndependent s_columnCount s_fullRank s_ranks_n s_ranks s_signs_n s_signs = some r) : Met l y_St_markIndependent w_St_markIndependent ({ frames := 1, cells := 0, slots := 0, locals := 23 } : Room) (va_Pc [.ref h_s] (fun U => U.heap.size = sz ∧ va_P (dC, dI) cl_all [(h_s, .inr (2, [.int s_columnCount, .int s_fullRank, .ref h_s_ranks, .ref h_s_signs, .ref h_s_members, .ref h_s_starts, .ref h_s_defects])), (h_s_ranks, .inl (cI, s_ranks_n, .inl s_ranks)), (h_s_signs, .inl (cI, s_signs_n, .inl s_signs))] U.heap ∧ va_K (dC, dI) cl_all [(cI, .int), (cJ, .long), (cB, .byte), (cZ, .boolean), (cT, .object "BasisWalk$Table"), (cN, .object "BasisWalkModel$Num")] U ∧ NW U ∧ va_D (fun _ => True) [(h_s, .inr (2, [.int s_columnCount, .int s_fullRank, .ref h_s_ranks, .ref h_s_signs, .ref h_s_members, .ref h_s_starts, .ref h_s_defects])), (h_s_ranks, .inl (cI, s_ranks_n, .inl s_ranks)), (h_s_signs, .inl (cI, s_signs_n, .inl s_signs))])) (va_Qv (fun u : (Nat → Int32) => u = r) (fun (u : (Nat → Int32)) (t : State) => va_P (dC, dI) cl_all [(h_s, .inr (2, [.int s_columnCount, .int s_fullRank, .ref h_s_ranks, .ref h_s_signs, .ref h_s_members, .ref h_s_starts, .ref h_s_defects])), (h_s_ranks, .inl (cI, s_ranks_n, .inl u)), (h_s_signs, .inl (cI, s_signs_n, .inl s_signs))] t.heap ∧ va_K (dC, dI) cl_all [(cI, .int), (cJ, .long), (cB, .byte), (cZ, .boolean), (cT, .object "BasisWalk$Table"), (cN, .object "BasisWalkModel$Num")] t ∧ va_D (va_A [(h_s, .inr (2, [.int s_columnCount, .int s_fullRank, .ref h_s_ranks, .ref h_s_signs, .ref h_s_members, .ref h_s_starts, .ref h_s_defects])), (h_s_ranks, .inl (cI, s_ranks_n, .inl s_ranks)), (h_s_signs, .inl (cI, s_signs_n, .inl s_signs))] sz) [(h_s, .inr (2, [.int s_columnCount, .int s_fullRank, .ref h_s_ranks, .ref h_s_signs, .ref h_s_members, .ref h_s_starts, .ref h_s_defects])), (h_s_ranks, .inl (cI, s_ranks_n, .inl u)), (h_s_signs, .inl (cI, s_signs_n, .inl s_signs))]) (va_A [(h_s, .inr (2, [.int s_columnCount, .int s_fullRank, .ref h_s_ranks, .ref h_s_signs, .ref h_s_members, .ref h_s_starts, .ref h_s_defects])), (h_s_ranks, .inl (cI, s_ranks_n, .inl s_ranks)), (h_s_signs, .inl (cI, s_signs_n, .inl s_signs))] sz)) 0 0 (va_A [(h_s, .inr (2, [.int s_columnCount, .int s_fullRank, .ref h_s_ranks, .ref h_s_signs, .ref h_s_members, .ref h_s_starts, .ref h_s_defects])), (h_s_ranks, .inl (cI, s_ranks_n, .inl s_ranks)), (h_s_signs, .inl (cI, s_signs_n, .inl s_signs))] sz) := by
  refine Met.ofW (cc := prog_4_method_11_code) (maxL := 4) (ret := (Option.none : Option Jvm.ClassFile.FieldType)) (by decide) rfl ?_
  intro p e s m args below meth c s₁ B hml hv
  obtain ⟨hAR, hsz, hP, hK, hN, hD0⟩ := hv
  have hx := B.exec
  have hb := B.bytes
  have hr := B.returns
  have hts := atoms_spec (ws := w_St_markIndependent) B.pre
  have hown : s.vm.findClass "BasisWalk$Study" = some m.cls := findClass_of_methodNamed B.named
  have hlocks := B.notSynchronized
  clear B
  subst hsz
  have hD := hD0.self (sz := s.heap.size)
  generalize hAe : va_A [(h_s, .inr (2, [.int s_columnCount, .int s_fullRank, .ref h_s_ranks, .ref h_s_signs, .ref h_s_members, .ref h_s_starts, .ref h_s_defects])), (h_s_ranks, .inl (cI, s_ranks_n, .inl s_ranks)), (h_s_signs, .inl (cI, s_signs_n, .inl s_signs))] s.heap.size = A at hD ⊢
  have hA : ∀ q : Nat, s.heap.size ≤ q → A q := fun q h => by rw [← hAe]; exact Or.inr h
  clear hAe hD0
  have hS : va_S A s.heap s.heap [] := va_S.rf
  have hl := lv_entry ([.ref h_s]) (n := 4) (Nat.le_of_ble_eq_true rfl)
  subst hAR
  rw [lg_entry_eq]
  generalize (lg_sl ([.ref h_s]) ++ List.replicate (4 - (lg_sl ([.ref h_s])).length) Slot.unset).toArray = ls at hl ⊢
  have hl : lv_has ls 4 [(0, .ref h_s)] := hl
  change W p l e ({ frames := 1, cells := 0, slots := 0, locals := 23 } : Room) s m _ below meth c s.heap [] 0 0 _ _
  generalize hARe : ([.ref h_s] : List Value).toArray = AR at hts ⊢
  clear hARe
  generalize hQ : MQ below _ AR s 0 0 A = QQ
  have fl0 := hts _ (List.mem_cons_of_mem _ tw_32)
  have iw1 := (fun w hw => List.mem_cons_of_mem _ (in_St w hw) : ∀ w ∈ u_ws "BasisWalk$Study" T_St 7, w ∈ w_St_markIndependent)
  have fl2 := hts _ (List.mem_cons_of_mem _ tw_33)
  have fl3 := hts _ (List.mem_cons_of_mem _ tw_35)
  have fl4 := hts _ (List.mem_cons_of_mem _ tw_37)
  obtain ⟨H, hHe⟩ : ∃ H : Heap, H = s.heap := ⟨_, rfl⟩
  rw [← hHe] at hP ⊢
  replace hS : va_S A s.heap H [] := by rw [hHe]; exact va_S.rf
  clear hHe
  unfold f_S_markIndependent at h
  refine lv_iconst (v := 1) hx hb d_St_markIndependent_0 (by decide) ?_
  refine lv_aload_n hx hb d_St_markIndependent_1 rfl (lv_at hl 0 rfl) ?_
  refine va_get (D := (dC, dI)) (ci := 2) (v := .int s_columnCount) (C := "BasisWalk$Study") (T := T_St) (N := 7) hx hb hts iw1 hown hK hP 0 rfl rfl 0 (by decide) fl0 (fun _ h9 => h9) rfl d_St_markIndependent_2 ?_
  refine lv_ishl hx hb d_St_markIndependent_5 ?_
  refine lv_iconst (v := 1) hx hb d_St_markIndependent_6 (by decide) ?_
  refine lv_isub hx hb d_St_markIndependent_7 ?_
  refine lv_topi (fun x_1 ex_1 => ?_)
  replace h := ck_nm_s h ex_1
  refine lv_istore_n (lv' := [(1, .int x_1), (0, .ref h_s)]) hx hb d_St_markIndependent_8 rfl hl (by decide) rfl (fun ls hl => ?_)
  refine lo2_W (r := r) (fun (v1_2 : Int32) (w_3 : Nat → Int32) => ∀ (H : Heap) (locs : List Loc), va_P (dC, dI) cl_all [(h_s, .inr (2, [.int s_columnCount, .int s_fullRank, .ref h_s_ranks, .ref h_s_signs, .ref h_s_members, .ref h_s_starts, .ref h_s_defects])), (h_s_ranks, .inl (cI, s_ranks_n, .inl w_3)), (h_s_signs, .inl (cI, s_signs_n, .inl s_signs))] H → va_D A [(h_s, .inr (2, [.int s_columnCount, .int s_fullRank, .ref h_s_ranks, .ref h_s_signs, .ref h_s_members, .ref h_s_starts, .ref h_s_defects])), (h_s_ranks, .inl (cI, s_ranks_n, .inl w_3)), (h_s_signs, .inl (cI, s_signs_n, .inl s_signs))] → va_S A s.heap H locs → ∀ ls : Array Slot, lv_has ls 4 [(0, .ref h_s), (1, .int v1_2)] → W p l e ({ frames := 1, cells := 0, slots := 0, locals := 23 } : Room) s m AR below meth c H locs 0 0 QQ (F0 m 9 ls [])) ?_ _ _ _ h _ _ hP hD hS _ (lv_sub hl [1, 0] rfl)
  intro k_9 v1_2 w_3 J_9 h H locs hP hD hS ls hl
  refine lv_iload_n hx hb d_St_markIndependent_9 rfl (lv_at hl 1 rfl) ?_
  refine lv_if_lt (tgt := 86) hx hb d_St_markIndependent_10 (by decide) (fun c_4 => ?_) (fun c_4 => ?_)
  · replace h := ck_if_t h c_4
    obtain rfl := Option.some.inj h
    subst hQ
    exact W.vret hx hb hr (fun t ht hW => ⟨⟨w_3, rfl, rfl, by rw [ht]; exact hP, va_K.moved hW.alike hK, hD⟩, hS.F ht⟩) hS.2.2 d_St_markIndependent_86
  · replace h := ck_if_f h c_4
    refine lv_iload_n hx hb d_St_markIndependent_13 rfl (lv_at hl 1 rfl) ?_
    obtain ⟨r_5, hc_6, h⟩ := ck_b1_s h
    have hPc := hP.sub (ws' := []) [] rfl
    have hDc := hD.sub (ws' := []) [] (by decide) rfl
    have hFc := va_free (wc := []) hD hS hA [] rfl
    refine va_calli (va_runS (As := [.int v1_2]) (rest := []) ⟨hx, hb, hml, hown, hts⟩ (c_bitCount l dC dI cI cJ cB cZ cT cN H.size v1_2 _ hc_6) (va_cwS 1 hts (tb_S tw_247 tw_196 tw_10 tw_197) rfl rfl rfl (by decide +kernel) ⟨Nat.le_of_ble_eq_true rfl, Nat.le_of_ble_eq_true rfl⟩) ⟨fun a U g mk q => by obtain ⟨q0, q1, qP, qK, qN, qD⟩ := q; exact ⟨q0, q1, qP, va_K.moved (u := U) (U := U.calling g mk a) (Vm.Alike.refl U.vm) qK, qN.same rfl, qD⟩, fun U hU hW => ⟨rfl, by rw [hU], by rw [hU]; exact hPc, va_K.moved hW.alike hK, hN.warm hW, hDc.weaken (fun _ _ _ _ => trivial)⟩⟩ rfl rfl hl.1 rfl (lv_room (Nat.le_of_ble_eq_true rfl)) d_St_markIndependent_14 ⟨Nat.zero_le _, Nat.zero_le _⟩) hS (fun q _ h => hFc q h) hFc (fun rr u t H1 locs ht hvm hw hB hz1 hk1 hS => ?_)
    replace hw := hw.symm
    subst hw
    obtain ⟨hP1, -, hD1⟩ := hB
    rw [ht] at hP1
    obtain ⟨hP, hD⟩ := va_join (wr := [(h_s, .inr (2, [.int s_columnCount, .int s_fullRank, .ref h_s_ranks, .ref h_s_signs, .ref h_s_members, .ref h_s_starts, .ref h_s_defects])), (h_s_ranks, .inl (cI, s_ranks_n, .inl w_3)), (h_s_signs, .inl (cI, s_signs_n, .inl s_signs))]) (w1 := []) hP hD [] [0, 1, 2] rfl rfl (by decide) (by decide) hk1 hFc hP1 hD1
    generalize H1 = H at hP hS ⊢
    have hP : va_P (dC, dI) cl_all [(h_s, .inr (2, [.int s_columnCount, .int s_fullRank, .ref h_s_ranks, .ref h_s_signs, .ref h_s_members, .ref h_s_starts, .ref h_s_defects])), (h_s_ranks, .inl (cI, s_ranks_n, .inl w_3)), (h_s_signs, .inl (cI, s_signs_n, .inl s_signs))] H := hP.sub [0, 1, 2] rfl
    have hD : va_D A [(h_s, .inr (2, [.int s_columnCount, .int s_fullRank, .ref h_s_ranks, .ref h_s_signs, .ref h_s_members, .ref h_s_starts, .ref h_s_defects])), (h_s_ranks, .inl (cI, s_ranks_n, .inl w_3)), (h_s_signs, .inl (cI, s_signs_n, .inl s_signs))] := hD.sub [0, 1, 2] (by decide) rfl
    refine lv_istore_n (lv' := [(2, .int r_5), (0, .ref h_s), (1, .int v1_2)]) hx hb d_St_markIndependent_17 rfl hl (by decide) rfl (fun ls hl => ?_)
    refine lv_iload_n hx hb d_St_markIndependent_18 rfl (lv_at hl 0 rfl) ?_
    refine lv_aload_n hx hb d_St_markIndependent_19 rfl (lv_at hl 1 rfl) ?_
    refine va_get (D := (dC, dI)) (ci := 2) (v := .int s_fullRank) (C := "BasisWalk$Study") (T := T_St) (N := 7) hx hb hts iw1 hown hK hP 0 rfl rfl 1 (by decide) fl2 (fun _ h9 => h9) rfl d_St_markIndependent_20 ?_
    refine ck_jn_W h (fun k' => ∀ (s0_7 : Int32), k' s0_7 = some r → ∀ (H : Heap) (locs : List Loc), va_P (dC, dI) cl_all [(h_s, .inr (2, [.int s_columnCount, .int s_fullRank, .ref h_s_ranks, .ref h_s_signs, .ref h_s_members, .ref h_s_starts, .ref h_s_defects])), (h_s_ranks, .inl (cI, s_ranks_n, .inl w_3)), (h_s_signs, .inl (cI, s_signs_n, .inl s_signs))] H → va_D A [(h_s, .inr (2, [.int s_columnCount, .int s_fullRank, .ref h_s_ranks, .ref h_s_signs, .ref h_s_members, .ref h_s_starts, .ref h_s_defects])), (h_s_ranks, .inl (cI, s_ranks_n, .inl w_3)), (h_s_signs, .inl (cI, s_signs_n, .inl s_signs))] → va_S A s.heap H locs → ∀ ls : Array Slot, lv_has ls 4 [(0, .ref h_s), (1, .int v1_2), (2, .int r_5)] → W p l e ({ frames := 1, cells := 0, slots := 0, locals := 23 } : Room) s m AR below meth c H locs 0 0 QQ (F0 m 64 ls [.int s0_7])) ?_ ?_
    · intro s0_7 h H locs hP hD hS ls hl
      refine lv_istore_n (lv' := [(3, .int s0_7), (0, .ref h_s), (1, .int v1_2), (2, .int r_5)]) hx hb d_St_markIndependent_64 rfl hl (by decide) rfl (fun ls hl => ?_)
      refine lv_aload_n hx hb d_St_markIndependent_65 rfl (lv_at hl 1 rfl) ?_
      refine va_get (D := (dC, dI)) (ci := 2) (v := .ref h_s_ranks) (C := "BasisWalk$Study") (T := T_St) (N := 7) hx hb hts iw1 hown hK hP 0 rfl rfl 2 (by decide) fl3 (fun _ h9 => h9) rfl d_St_markIndependent_66 ?_
      refine lv_iload_n hx hb d_St_markIndependent_69 rfl (lv_at hl 2 rfl) ?_
      refine lv_iload_n hx hb d_St_markIndependent_70 rfl (lv_at hl 0 rfl) ?_
      refine ck_jn_W h (fun k' => ∀ (s0_8 : Int32), k' s0_8 = some r → ∀ (H : Heap) (locs : List Loc), va_P (dC, dI) cl_all [(h_s, .inr (2, [.int s_columnCount, .int s_fullRank, .ref h_s_ranks, .ref h_s_signs, .ref h_s_members, .ref h_s_starts, .ref h_s_defects])), (h_s_ranks, .inl (cI, s_ranks_n, .inl w_3)), (h_s_signs, .inl (cI, s_signs_n, .inl s_signs))] H → va_D A [(h_s, .inr (2, [.int s_columnCount, .int s_fullRank, .ref h_s_ranks, .ref h_s_signs, .ref h_s_members, .ref h_s_starts, .ref h_s_defects])), (h_s_ranks, .inl (cI, s_ranks_n, .inl w_3)), (h_s_signs, .inl (cI, s_signs_n, .inl s_signs))] → va_S A s.heap H locs → ∀ ls : Array Slot, lv_has ls 4 [(0, .ref h_s), (1, .int v1_2)] → W p l e ({ frames := 1, cells := 0, slots := 0, locals := 23 } : Room) s m AR below meth c H locs 0 0 QQ (F0 m 79 ls [.int s0_8, .int v1_2, .ref h_s_ranks])) ?_ ?_
      · intro s0_8 h H locs hP hD hS ls hl
        obtain ⟨g_9, h⟩ := ck_in_s h
        refine va_iast hx hb hK hP hD hS 1 0 rfl rfl g_9 d_St_markIndependent_79 (fun H locs hP hD hS => ?_)
        have hP : va_P (dC, dI) cl_all [(h_s, .inr (2, [.int s_columnCount, .int s_fullRank, .ref h_s_ranks, .ref h_s_signs, .ref h_s_members, .ref h_s_starts, .ref h_s_defects])), (h_s_ranks, .inl (cI, s_ranks_n, .inl (upd w_3 v1_2.toNatClampNeg s0_8))), (h_s_signs, .inl (cI, s_signs_n, .inl s_signs))] H := hP
        have hD : va_D A [(h_s, .inr (2, [.int s_columnCount, .int s_fullRank, .ref h_s_ranks, .ref h_s_signs, .ref h_s_members, .ref h_s_starts, .ref h_s_defects])), (h_s_ranks, .inl (cI, s_ranks_n, .inl (upd w_3 v1_2.toNatClampNeg s0_8))), (h_s_signs, .inl (cI, s_signs_n, .inl s_signs))] := hD
        obtain ⟨x_10, ex_10⟩ : ∃ y : Int32, y = v1_2 + (-1) := ⟨_, rfl⟩
        replace h := ck_nm_s h ex_10
        refine lv_iinc (v := x_10) (lv' := [(1, .int x_10), (0, .ref h_s)]) hx hb d_St_markIndependent_80 hl (k := 1) rfl (by rw [ex_10]; rfl) (by decide) rfl (fun ls hl => ?_)
        refine lv_goto (tgt := 9) hx hb d_St_markIndependent_83 (by decide) ?_
        exact J_9 _ _ h _ _ hP hD hS _ (lv_sub hl [1, 0] rfl)
      · intro k_79 J_79 h
        refine lv_if_eq (tgt := 78) hx hb d_St_markIndependent_71 (by decide) (fun c_11 => ?_) (fun c_11 => ?_)
        · replace h := ck_if_t h c_11
          refine lv_iconst (v := (-1)) hx hb d_St_markIndependent_78 (by decide) ?_
          exact J_79 _ h _ _ hP hD hS _ (lv_sub hl [1, 2] rfl)
        · replace h := ck_if_f h c_11
          refine lv_iload_n hx hb d_St_markIndependent_74 rfl (lv_at hl 3 rfl) ?_
          refine lv_goto (tgt := 79) hx hb d_St_markIndependent_75 (by decide) ?_
          exact J_79 _ h _ _ hP hD hS _ (lv_sub hl [1, 2] rfl)
    · intro k_64 J_64 h
      refine lv_icmp_ne (tgt := 43) hx hb d_St_markIndependent_23 (by decide) (fun c_12 => ?_) (fun c_12 => ?_)
      · replace h := ck_if_f h c_12
        refine lv_iload_n hx hb d_St_markIndependent_43 rfl (lv_at hl 0 rfl) ?_
        refine lv_aload_n hx hb d_St_markIndependent_44 rfl (lv_at hl 1 rfl) ?_
        refine va_get (D := (dC, dI)) (ci := 2) (v := .int s_fullRank) (C := "BasisWalk$Study") (T := T_St) (N := 7) hx hb hts iw1 hown hK hP 0 rfl rfl 1 (by decide) fl2 (fun _ h9 => h9) rfl d_St_markIndependent_45 ?_
        refine ck_jn_W h (fun k' => ∀ u : Unit, k' u = some r → ∀ (H : Heap) (locs : List Loc), va_P (dC, dI) cl_all [(h_s, .inr (2, [.int s_columnCount, .int s_fullRank, .ref h_s_ranks, .ref h_s_signs, .ref h_s_members, .ref h_s_starts, .ref h_s_defects])), (h_s_ranks, .inl (cI, s_ranks_n, .inl w_3)), (h_s_signs, .inl (cI, s_signs_n, .inl s_signs))] H → va_D A [(h_s, .inr (2, [.int s_columnCount, .int s_fullRank, .ref h_s_ranks, .ref h_s_signs, .ref h_s_members, .ref h_s_starts, .ref h_s_defects])), (h_s_ranks, .inl (cI, s_ranks_n, .inl w_3)), (h_s_signs, .inl (cI, s_signs_n, .inl s_signs))] → va_S A s.heap H locs → ∀ ls : Array Slot, lv_has ls 4 [(0, .ref h_s), (1, .int v1_2), (2, .int r_5)] → W p l e ({ frames := 1, cells := 0, slots := 0, locals := 23 } : Room) s m AR below meth c H locs 0 0 QQ (F0 m 63 ls [])) ?_ ?_
        · intro _ h H locs hP hD hS ls hl
          refine lv_iconst (v := 0) hx hb d_St_markIndependent_63 (by decide) ?_
          exact J_64 _ h _ _ hP hD hS _ (lv_sub hl [0, 1, 2] rfl)
        · intro k_63 J_63 h
          refine lv_icmp_ge (tgt := 63) hx hb d_St_markIndependent_48 (by decide) (fun c_13 => ?_) (fun c_13 => ?_)
          · replace h := ck_if_t h c_13
            exact J_63 _ h _ _ hP hD hS _ (lv_sub hl [1, 2, 0] rfl)
          · replace h := ck_if_f h c_13
            refine lv_aload_n hx hb d_St_markIndependent_51 rfl (lv_at hl 1 rfl) ?_
            refine lv_iload_n hx hb d_St_markIndependent_52 rfl (lv_at hl 2 rfl) ?_
            obtain ⟨r_14, hc_15, h⟩ := ck_b1_s h
            have hPc := hP.sub (ws' := [(h_s, .inr (2, [.int s_columnCount, .int s_fullRank, .ref h_s_ranks, .ref h_s_signs, .ref h_s_members, .ref h_s_starts, .ref h_s_defects])), (h_s_ranks, .inl (cI, s_ranks_n, .inl w_3))]) [0, 1] rfl
            have hDc := hD.sub (ws' := [(h_s, .inr (2, [.int s_columnCount, .int s_fullRank, .ref h_s_ranks, .ref h_s_signs, .ref h_s_members, .ref h_s_starts, .ref h_s_defects])), (h_s_ranks, .inl (cI, s_ranks_n, .inl w_3))]) [0, 1] (by decide) rfl
            have hFc := va_free (wc := [(h_s, .inr (2, [.int s_columnCount, .int s_fullRank, .ref h_s_ranks, .ref h_s_signs, .ref h_s_members, .ref h_s_starts, .ref h_s_defects])), (h_s_ranks, .inl (cI, s_ranks_n, .inl w_3))]) hD hS hA [0, 1] rfl
            refine va_calli (va_runV (As := [.int v1_2]) (rest := []) ⟨hx, hb, hml, hown, hts⟩ (c_S_hasIndependentAbove l dC dI cI cJ cB cZ cT cN H.size h_s h_s_ranks h_s_signs h_s_members h_s_starts h_s_defects s_columnCount s_fullRank s_ranks_n w_3 v1_2 _ hc_15) (cwV 1 hts (tb_V tw_248 tw_250 tp_8 tw_3 tw_251) rfl rfl rfl (by decide +kernel) ⟨Nat.le_of_ble_eq_true rfl, Nat.le_of_ble_eq_true rfl⟩) ⟨fun a U g mk q => by obtain ⟨q0, q1, qP, qK, qN, qD⟩ := q; exact ⟨q0, q1, qP, va_K.moved (u := U) (U := U.calling g mk a) (Vm.Alike.refl U.vm) qK, qN.same rfl, qD⟩, va_recv hK hPc (ci := 2) (q0 := 0) rfl rfl, fun U hU hW => ⟨rfl, by rw [hU], by rw [hU]; exact hPc, va_K.moved hW.alike hK, hN.warm hW, hDc.weaken (fun _ _ _ _ => trivial)⟩⟩ rfl rfl hl.1 rfl (lv_room (Nat.le_of_ble_eq_true rfl)) d_St_markIndependent_53 ⟨Nat.zero_le _, Nat.zero_le _⟩) hS (fun q _ h => hFc q h) hFc (fun rr u t H1 locs ht hvm hw hB hz1 hk1 hS => ?_)
            replace hw := hw.symm
            subst hw
            obtain ⟨hP1, -, hD1⟩ := hB
            rw [ht] at hP1
            obtain ⟨hP, hD⟩ := va_join (wr := [(h_s_signs, .inl (cI, s_signs_n, .inl s_signs))]) (w1 := [(h_s, .inr (2, [.int s_columnCount, .int s_fullRank, .ref h_s_ranks, .ref h_s_signs, .ref h_s_members, .ref h_s_starts, .ref h_s_defects])), (h_s_ranks, .inl (cI, s_ranks_n, .inl w_3))]) hP hD [0, 1] [2] rfl rfl (by decide) (by decide) hk1 hFc hP1 hD1
            generalize H1 = H at hP hS ⊢
            have hP : va_P (dC, dI) cl_all [(h_s, .inr (2, [.int s_columnCount, .int s_fullRank, .ref h_s_ranks, .ref h_s_signs, .ref h_s_members, .ref h_s_starts, .ref h_s_defects])), (h_s_ranks, .inl (cI, s_ranks_n, .inl w_3)), (h_s_signs, .inl (cI, s_signs_n, .inl s_signs))] H := hP.sub [1, 2, 0] rfl
            have hD : va_D A [(h_s, .inr (2, [.int s_columnCount, .int s_fullRank, .ref h_s_ranks, .ref h_s_signs, .ref h_s_members, .ref h_s_starts, .ref h_s_defects])), (h_s_ranks, .inl (cI, s_ranks_n, .inl w_3)), (h_s_signs, .inl (cI, s_signs_n, .inl s_signs))] := hD.sub [1, 2, 0] (by decide) rfl
            refine lv_if_eq (tgt := 63) hx hb d_St_markIndependent_56 (by decide) (fun c_16 => ?_) (fun c_16 => ?_)
            · replace h := ck_if_t h c_16
              exact J_63 _ h _ _ hP hD hS _ (lv_sub hl [1, 2, 0] rfl)
            · replace h := ck_if_f h c_16
              refine lv_iconst (v := 1) hx hb d_St_markIndependent_59 (by decide) ?_
              refine lv_goto (tgt := 64) hx hb d_St_markIndependent_60 (by decide) ?_
              exact J_64 _ h _ _ hP hD hS _ (lv_sub hl [1, 2, 0] rfl)
      · replace h := ck_if_t h c_12
        refine lv_aload_n hx hb d_St_markIndependent_26 rfl (lv_at hl 1 rfl) ?_
        refine va_get (D := (dC, dI)) (ci := 2) (v := .ref h_s_signs) (C := "BasisWalk$Study") (T := T_St) (N := 7) hx hb hts iw1 hown hK hP 0 rfl rfl 3 (by decide) fl4 (fun _ h9 => h9) rfl d_St_markIndependent_27 ?_
        refine lv_iload_n hx hb d_St_markIndependent_30 rfl (lv_at hl 2 rfl) ?_
        obtain ⟨g_17, h⟩ := ck_in_s h
        refine va_iald hx hb hK hP 2 0 rfl rfl g_17 d_St_markIndependent_31 ?_
        refine lv_if_eq (tgt := 39) hx hb d_St_markIndependent_32 (by decide) (fun c_18 => ?_) (fun c_18 => ?_)
        · replace h := ck_if_t h c_18
          refine lv_iconst (v := 0) hx hb d_St_markIndependent_39 (by decide) ?_
          refine lv_goto (tgt := 64) hx hb d_St_markIndependent_40 (by decide) ?_
          exact J_64 _ h _ _ hP hD hS _ (lv_sub hl [1, 2, 0] rfl)
        · replace h := ck_if_f h c_18
          refine lv_iconst (v := 1) hx hb d_St_markIndependent_35 (by decide) ?_
          refine lv_goto (tgt := 64) hx hb d_St_markIndependent_36 (by decide) ?_
          exact J_64 _ h _ _ hP hD hS _ (lv_sub hl [1, 2, 0] rfl)
theorem d_St_learnRanks_0 : decode prog_4_method_13_code 0 = .ok (.iconst 1, 1) := by decide +kernel
theorem d_St_learnRanks_1 : decode prog_4_method_13_code 1 = .ok (.istore_n 1, 1) := by decide +kernel
theorem d_St_learnRanks_2 : decode prog_4_method_13_code 2 = .ok (.iload_n 1, 1) := by decide +kernel
theorem d_St_learnRanks_3 : decode prog_4_method_13_code 3 = .ok (.iconst 1, 1) := by decide +kernel
theorem d_St_learnRanks_4 : decode prog_4_method_13_code 4 = .ok (.aload_n 0, 1) := by decide +kernel
theorem d_St_learnRanks_5 : decode prog_4_method_13_code 5 = .ok (.getfield 33, 3) := by decide +kernel
theorem d_St_learnRanks_8 : decode prog_4_method_13_code 8 = .ok (.ishl, 1) := by decide +kernel
theorem d_St_learnRanks_9 : decode prog_4_method_13_code 9 = .ok (.if_icmp .ge 30, 3) := by decide +kernel
theorem d_St_learnRanks_12 : decode prog_4_method_13_code 12 = .ok (.aload_n 0, 1) := by decide +kernel
theorem d_St_learnRanks_13 : decode prog_4_method_13_code 13 = .ok (.getfield 9, 3) := by decide +kernel
theorem d_St_learnRanks_16 : decode prog_4_method_13_code 16 = .ok (.iload_n 1, 1) := by decide +kernel
theorem d_St_learnRanks_17 : decode prog_4_method_13_code 17 = .ok (.iaload, 1) := by decide +kernel
theorem d_St_learnRanks_18 : decode prog_4_method_13_code 18 = .ok (.iconst (-1), 1) := by decide +kernel
theorem d_St_learnRanks_19 : decode prog_4_method_13_code 19 = .ok (.if_icmp .ne 14, 3) := by decide +kernel
theorem d_St_learnRanks_22 : decode prog_4_method_13_code 22 = .ok (.aload_n 0, 1) := by decide +kernel
theorem d_St_learnRanks_23 : decode prog_4_method_13_code 23 = .ok (.getfield 9, 3) := by decide +kernel
theorem d_St_learnRanks_26 : decode prog_4_method_13_code 26 = .ok (.iload_n 1, 1) := by decide +kernel
theorem d_St_learnRanks_27 : decode prog_4_method_13_code 27 = .ok (.aload_n 0, 1) := by decide +kernel
theorem d_St_learnRanks_28 : decode prog_4_method_13_code 28 = .ok (.iload_n 1, 1) := by decide +kernel
theorem d_St_learnRanks_29 : decode prog_4_method_13_code 29 = .ok (.invokevirtual 103, 3) := by decide +kernel
theorem d_St_learnRanks_32 : decode prog_4_method_13_code 32 = .ok (.iastore, 1) := by decide +kernel
theorem d_St_learnRanks_33 : decode prog_4_method_13_code 33 = .ok (.iinc 1 1, 3) := by decide +kernel
theorem d_St_learnRanks_36 : decode prog_4_method_13_code 36 = .ok (.goto (-34), 3) := by decide +kernel
theorem d_St_learnRanks_39 : decode prog_4_method_13_code 39 = .ok (.return_, 1) := by decide +kernel
def f_S_learnRanks (s_columnCount : Int32) (s_ranks_n : Nat) (s_ranks : Nat → Int32) : Option ((Nat → Int32)) :=
  lo2 (fun k_2 (v1_1 : Int32) (w_2 : Nat → Int32) => ck_if (((1 : Int32) <<< (s_columnCount &&& 31)) ≤ v1_1) (some w_2) (ck_in v1_1 s_ranks_n <| ck_jn (fun (w_5 : Nat → Int32) => ck_nm (v1_1 + 1) <| fun x_6 => k_2 x_6 w_5) <| fun k_33 => ck_if ((w_2 v1_1.toNatClampNeg) = (-1)) (ck_b1 (f_S_greatestRankUnder s_columnCount s_ranks_n w_2 v1_1) <| fun r_8 => ck_in v1_1 s_ranks_n <| k_33 (upd w_2 v1_1.toNatClampNeg r_8)) (k_33 w_2))) ck_F 1 s_ranks
set_option maxHeartbeats 4000000 in
set_option maxRecDepth 100000 in
theorem c_S_learnRanks (l : Launch) (dC : Nat → ClassId) (dI : Nat → Nat → Nat) (cI cJ cB cZ cT cN : ClassId) (sz : Nat) (h_s : Nat) (h_s_ranks : Nat) (h_s_signs : Nat) (h_s_members : Nat) (h_s_starts : Nat) (h_s_defects : Nat) (s_columnCount : Int32) (s_fullRank : Int32) (s_ranks_n : Nat) (s_ranks : Nat → Int32) (r : (Nat → Int32)) (h : f_S_learnRanks s_columnCount s_ranks_n s_ranks = some r) : Met l y_St_learnRanks w_St_learnRanks ({ frames := 1, cells := 0, slots := 0, locals := 24 } : Room) (va_Pc [.ref h_s] (fun U => U.heap.size = sz ∧ va_P (dC, dI) cl_all [(h_s, .inr (2, [.int s_columnCount, .int s_fullRank, .ref h_s_ranks, .ref h_s_signs, .ref h_s_members, .ref h_s_starts, .ref h_s_defects])), (h_s_ranks, .inl (cI, s_ranks_n, .inl s_ranks))] U.heap ∧ va_K (dC, dI) cl_all [(cI, .int), (cJ, .long), (cB, .byte), (cZ, .boolean), (cT, .object "BasisWalk$Table"), (cN, .object "BasisWalkModel$Num")] U ∧ NW U ∧ va_D (fun _ => True) [(h_s, .inr (2, [.int s_columnCount, .int s_fullRank, .ref h_s_ranks, .ref h_s_signs, .ref h_s_members, .ref h_s_starts, .ref h_s_defects])), (h_s_ranks, .inl (cI, s_ranks_n, .inl s_ranks))])) (va_Qv (fun u : (Nat → Int32) => u = r) (fun (u : (Nat → Int32)) (t : State) => va_P (dC, dI) cl_all [(h_s, .inr (2, [.int s_columnCount, .int s_fullRank, .ref h_s_ranks, .ref h_s_signs, .ref h_s_members, .ref h_s_starts, .ref h_s_defects])), (h_s_ranks, .inl (cI, s_ranks_n, .inl u))] t.heap ∧ va_K (dC, dI) cl_all [(cI, .int), (cJ, .long), (cB, .byte), (cZ, .boolean), (cT, .object "BasisWalk$Table"), (cN, .object "BasisWalkModel$Num")] t ∧ va_D (va_A [(h_s, .inr (2, [.int s_columnCount, .int s_fullRank, .ref h_s_ranks, .ref h_s_signs, .ref h_s_members, .ref h_s_starts, .ref h_s_defects])), (h_s_ranks, .inl (cI, s_ranks_n, .inl s_ranks))] sz) [(h_s, .inr (2, [.int s_columnCount, .int s_fullRank, .ref h_s_ranks, .ref h_s_signs, .ref h_s_members, .ref h_s_starts, .ref h_s_defects])), (h_s_ranks, .inl (cI, s_ranks_n, .inl u))]) (va_A [(h_s, .inr (2, [.int s_columnCount, .int s_fullRank, .ref h_s_ranks, .ref h_s_signs, .ref h_s_members, .ref h_s_starts, .ref h_s_defects])), (h_s_ranks, .inl (cI, s_ranks_n, .inl s_ranks))] sz)) 0 0 (va_A [(h_s, .inr (2, [.int s_columnCount, .int s_fullRank, .ref h_s_ranks, .ref h_s_signs, .ref h_s_members, .ref h_s_starts, .ref h_s_defects])), (h_s_ranks, .inl (cI, s_ranks_n, .inl s_ranks))] sz) := by
  refine Met.ofW (cc := prog_4_method_13_code) (maxL := 2) (ret := (Option.none : Option Jvm.ClassFile.FieldType)) (by decide) rfl ?_
  intro p e s m args below meth c s₁ B hml hv
  obtain ⟨hAR, hsz, hP, hK, hN, hD0⟩ := hv
  have hx := B.exec
  have hb := B.bytes
  have hr := B.returns
  have hts := atoms_spec (ws := w_St_learnRanks) B.pre
  have hown : s.vm.findClass "BasisWalk$Study" = some m.cls := findClass_of_methodNamed B.named
  have hlocks := B.notSynchronized
  clear B
  subst hsz
  have hD := hD0.self (sz := s.heap.size)
  generalize hAe : va_A [(h_s, .inr (2, [.int s_columnCount, .int s_fullRank, .ref h_s_ranks, .ref h_s_signs, .ref h_s_members, .ref h_s_starts, .ref h_s_defects])), (h_s_ranks, .inl (cI, s_ranks_n, .inl s_ranks))] s.heap.size = A at hD ⊢
  have hA : ∀ q : Nat, s.heap.size ≤ q → A q := fun q h => by rw [← hAe]; exact Or.inr h
  clear hAe hD0
  have hS : va_S A s.heap s.heap [] := va_S.rf
  have hl := lv_entry ([.ref h_s]) (n := 2) (Nat.le_of_ble_eq_true rfl)
  subst hAR
  rw [lg_entry_eq]
  generalize (lg_sl ([.ref h_s]) ++ List.replicate (2 - (lg_sl ([.ref h_s])).length) Slot.unset).toArray = ls at hl ⊢
  have hl : lv_has ls 2 [(0, .ref h_s)] := hl
  change W p l e ({ frames := 1, cells := 0, slots := 0, locals := 24 } : Room) s m _ below meth c s.heap [] 0 0 _ _
  generalize hARe : ([.ref h_s] : List Value).toArray = AR at hts ⊢
  clear hARe
  generalize hQ : MQ below _ AR s 0 0 A = QQ
  have fl0 := hts _ (List.mem_cons_of_mem _ tw_32)
  have iw1 := (fun w hw => List.mem_cons_of_mem _ (in_St w hw) : ∀ w ∈ u_ws "BasisWalk$Study" T_St 7, w ∈ w_St_learnRanks)
  have fl2 := hts _ (List.mem_cons_of_mem _ tw_35)
  obtain ⟨H, hHe⟩ : ∃ H : Heap, H = s.heap := ⟨_, rfl⟩
  rw [← hHe] at hP ⊢
  replace hS : va_S A s.heap H [] := by rw [hHe]; exact va_S.rf
  clear hHe
  unfold f_S_learnRanks at h
  refine lv_iconst (v := 1) hx hb d_St_learnRanks_0 (by decide) ?_
  refine lv_istore_n (lv' := [(1, .int 1), (0, .ref h_s)]) hx hb d_St_learnRanks_1 rfl hl (by decide) rfl (fun ls hl => ?_)
  refine lo2_W (r := r) (fun (v1_1 : Int32) (w_2 : Nat → Int32) => ∀ (H : Heap) (locs : List Loc), va_P (dC, dI) cl_all [(h_s, .inr (2, [.int s_columnCount, .int s_fullRank, .ref h_s_ranks, .ref h_s_signs, .ref h_s_members, .ref h_s_starts, .ref h_s_defects])), (h_s_ranks, .inl (cI, s_ranks_n, .inl w_2))] H → va_D A [(h_s, .inr (2, [.int s_columnCount, .int s_fullRank, .ref h_s_ranks, .ref h_s_signs, .ref h_s_members, .ref h_s_starts, .ref h_s_defects])), (h_s_ranks, .inl (cI, s_ranks_n, .inl w_2))] → va_S A s.heap H locs → ∀ ls : Array Slot, lv_has ls 2 [(0, .ref h_s), (1, .int v1_1)] → W p l e ({ frames := 1, cells := 0, slots := 0, locals := 24 } : Room) s m AR below meth c H locs 0 0 QQ (F0 m 2 ls [])) ?_ _ _ _ h _ _ hP hD hS _ (lv_sub hl [1, 0] rfl)
  intro k_2 v1_1 w_2 J_2 h H locs hP hD hS ls hl
  refine lv_iload_n hx hb d_St_learnRanks_2 rfl (lv_at hl 1 rfl) ?_
  refine lv_iconst (v := 1) hx hb d_St_learnRanks_3 (by decide) ?_
  refine lv_aload_n hx hb d_St_learnRanks_4 rfl (lv_at hl 0 rfl) ?_
  refine va_get (D := (dC, dI)) (ci := 2) (v := .int s_columnCount) (C := "BasisWalk$Study") (T := T_St) (N := 7) hx hb hts iw1 hown hK hP 0 rfl rfl 0 (by decide) fl0 (fun _ h9 => h9) rfl d_St_learnRanks_5 ?_
  refine lv_ishl hx hb d_St_learnRanks_8 ?_
  refine lv_icmp_ge (tgt := 39) hx hb d_St_learnRanks_9 (by decide) (fun c_3 => ?_) (fun c_3 => ?_)
  · replace h := ck_if_t h c_3
    obtain rfl := Option.some.inj h
    subst hQ
    exact W.vret hx hb hr (fun t ht hW => ⟨⟨w_2, rfl, rfl, by rw [ht]; exact hP, va_K.moved hW.alike hK, hD⟩, hS.F ht⟩) hS.2.2 d_St_learnRanks_39
  · replace h := ck_if_f h c_3
    refine lv_aload_n hx hb d_St_learnRanks_12 rfl (lv_at hl 0 rfl) ?_
    refine va_get (D := (dC, dI)) (ci := 2) (v := .ref h_s_ranks) (C := "BasisWalk$Study") (T := T_St) (N := 7) hx hb hts iw1 hown hK hP 0 rfl rfl 2 (by decide) fl2 (fun _ h9 => h9) rfl d_St_learnRanks_13 ?_
    refine lv_iload_n hx hb d_St_learnRanks_16 rfl (lv_at hl 1 rfl) ?_
    obtain ⟨g_4, h⟩ := ck_in_s h
    refine va_iald hx hb hK hP 1 0 rfl rfl g_4 d_St_learnRanks_17 ?_
    refine lv_iconst (v := (-1)) hx hb d_St_learnRanks_18 (by decide) ?_
    refine ck_jn_W h (fun k' => ∀ (w_5 : Nat → Int32), k' w_5 = some r → ∀ (H : Heap) (locs : List Loc), va_P (dC, dI) cl_all [(h_s, .inr (2, [.int s_columnCount, .int s_fullRank, .ref h_s_ranks, .ref h_s_signs, .ref h_s_members, .ref h_s_starts, .ref h_s_defects])), (h_s_ranks, .inl (cI, s_ranks_n, .inl w_5))] H → va_D A [(h_s, .inr (2, [.int s_columnCount, .int s_fullRank, .ref h_s_ranks, .ref h_s_signs, .ref h_s_members, .ref h_s_starts, .ref h_s_defects])), (h_s_ranks, .inl (cI, s_ranks_n, .inl w_5))] → va_S A s.heap H locs → ∀ ls : Array Slot, lv_has ls 2 [(0, .ref h_s), (1, .int v1_1)] → W p l e ({ frames := 1, cells := 0, slots := 0, locals := 24 } : Room) s m AR below meth c H locs 0 0 QQ (F0 m 33 ls [])) ?_ ?_
    · intro w_5 h H locs hP hD hS ls hl
      obtain ⟨x_6, ex_6⟩ : ∃ y : Int32, y = v1_1 + 1 := ⟨_, rfl⟩
      replace h := ck_nm_s h ex_6
      refine lv_iinc (v := x_6) (lv' := [(1, .int x_6), (0, .ref h_s)]) hx hb d_St_learnRanks_33 hl (k := 1) rfl (by rw [ex_6]; rfl) (by decide) rfl (fun ls hl => ?_)
      refine lv_goto (tgt := 2) hx hb d_St_learnRanks_36 (by decide) ?_
      exact J_2 _ _ h _ _ hP hD hS _ (lv_sub hl [1, 0] rfl)
    · intro k_33 J_33 h
      refine lv_icmp_ne (tgt := 33) hx hb d_St_learnRanks_19 (by decide) (fun c_7 => ?_) (fun c_7 => ?_)
      · replace h := ck_if_f h c_7
        exact J_33 _ h _ _ hP hD hS _ (lv_sub hl [0, 1] rfl)
      · replace h := ck_if_t h c_7
        refine lv_aload_n hx hb d_St_learnRanks_22 rfl (lv_at hl 0 rfl) ?_
        refine va_get (D := (dC, dI)) (ci := 2) (v := .ref h_s_ranks) (C := "BasisWalk$Study") (T := T_St) (N := 7) hx hb hts iw1 hown hK hP 0 rfl rfl 2 (by decide) fl2 (fun _ h9 => h9) rfl d_St_learnRanks_23 ?_
        refine lv_iload_n hx hb d_St_learnRanks_26 rfl (lv_at hl 1 rfl) ?_
        refine lv_aload_n hx hb d_St_learnRanks_27 rfl (lv_at hl 0 rfl) ?_
        refine lv_iload_n hx hb d_St_learnRanks_28 rfl (lv_at hl 1 rfl) ?_
        obtain ⟨r_8, hc_9, h⟩ := ck_b1_s h
        have hPc := hP.sub (ws' := [(h_s, .inr (2, [.int s_columnCount, .int s_fullRank, .ref h_s_ranks, .ref h_s_signs, .ref h_s_members, .ref h_s_starts, .ref h_s_defects])), (h_s_ranks, .inl (cI, s_ranks_n, .inl w_2))]) [0, 1] rfl
        have hDc := hD.sub (ws' := [(h_s, .inr (2, [.int s_columnCount, .int s_fullRank, .ref h_s_ranks, .ref h_s_signs, .ref h_s_members, .ref h_s_starts, .ref h_s_defects])), (h_s_ranks, .inl (cI, s_ranks_n, .inl w_2))]) [0, 1] (by decide) rfl
        have hFc := va_free (wc := [(h_s, .inr (2, [.int s_columnCount, .int s_fullRank, .ref h_s_ranks, .ref h_s_signs, .ref h_s_members, .ref h_s_starts, .ref h_s_defects])), (h_s_ranks, .inl (cI, s_ranks_n, .inl w_2))]) hD hS hA [0, 1] rfl
        refine va_calli (va_runV (As := [.int v1_1]) (rest := [.int v1_1, .ref h_s_ranks]) ⟨hx, hb, hml, hown, hts⟩ (c_S_greatestRankUnder l dC dI cI cJ cB cZ cT cN H.size h_s h_s_ranks h_s_signs h_s_members h_s_starts h_s_defects s_columnCount s_fullRank s_ranks_n w_2 v1_1 _ hc_9) (cwV 1 hts (tb_V tw_256 tw_258 tp_10 tw_3 tw_259) rfl rfl rfl (by decide +kernel) ⟨Nat.le_of_ble_eq_true rfl, Nat.le_of_ble_eq_true rfl⟩) ⟨fun a U g mk q => by obtain ⟨q0, q1, qP, qK, qN, qD⟩ := q; exact ⟨q0, q1, qP, va_K.moved (u := U) (U := U.calling g mk a) (Vm.Alike.refl U.vm) qK, qN.same rfl, qD⟩, va_recv hK hPc (ci := 2) (q0 := 0) rfl rfl, fun U hU hW => ⟨rfl, by rw [hU], by rw [hU]; exact hPc, va_K.moved hW.alike hK, hN.warm hW, hDc.weaken (fun _ _ _ _ => trivial)⟩⟩ rfl rfl hl.1 rfl (lv_room (Nat.le_of_ble_eq_true rfl)) d_St_learnRanks_29 ⟨Nat.zero_le _, Nat.zero_le _⟩) hS (fun q _ h => hFc q h) hFc (fun rr u t H1 locs ht hvm hw hB hz1 hk1 hS => ?_)
        replace hw := hw.symm
        subst hw
        obtain ⟨hP1, -, hD1⟩ := hB
        rw [ht] at hP1
        obtain ⟨hP, hD⟩ := va_join (wr := []) (w1 := [(h_s, .inr (2, [.int s_columnCount, .int s_fullRank, .ref h_s_ranks, .ref h_s_signs, .ref h_s_members, .ref h_s_starts, .ref h_s_defects])), (h_s_ranks, .inl (cI, s_ranks_n, .inl w_2))]) hP hD [0, 1] [] rfl rfl (by decide) (by decide) hk1 hFc hP1 hD1
        generalize H1 = H at hP hS ⊢
        have hP : va_P (dC, dI) cl_all [(h_s, .inr (2, [.int s_columnCount, .int s_fullRank, .ref h_s_ranks, .ref h_s_signs, .ref h_s_members, .ref h_s_starts, .ref h_s_defects])), (h_s_ranks, .inl (cI, s_ranks_n, .inl w_2))] H := hP.sub [0, 1] rfl
        have hD : va_D A [(h_s, .inr (2, [.int s_columnCount, .int s_fullRank, .ref h_s_ranks, .ref h_s_signs, .ref h_s_members, .ref h_s_starts, .ref h_s_defects])), (h_s_ranks, .inl (cI, s_ranks_n, .inl w_2))] := hD.sub [0, 1] (by decide) rfl
        obtain ⟨g_10, h⟩ := ck_in_s h
        refine va_iast hx hb hK hP hD hS 1 0 rfl rfl g_10 d_St_learnRanks_32 (fun H locs hP hD hS => ?_)
        have hP : va_P (dC, dI) cl_all [(h_s, .inr (2, [.int s_columnCount, .int s_fullRank, .ref h_s_ranks, .ref h_s_signs, .ref h_s_members, .ref h_s_starts, .ref h_s_defects])), (h_s_ranks, .inl (cI, s_ranks_n, .inl (upd w_2 v1_1.toNatClampNeg r_8)))] H := hP
        have hD : va_D A [(h_s, .inr (2, [.int s_columnCount, .int s_fullRank, .ref h_s_ranks, .ref h_s_signs, .ref h_s_members, .ref h_s_starts, .ref h_s_defects])), (h_s_ranks, .inl (cI, s_ranks_n, .inl (upd w_2 v1_1.toNatClampNeg r_8)))] := hD
        exact J_33 _ h _ _ hP hD hS _ (lv_sub hl [0, 1] rfl)
theorem d_St_learnDefects_0 : decode prog_4_method_15_code 0 = .ok (.aload_n 0, 1) := by decide +kernel
theorem d_St_learnDefects_1 : decode prog_4_method_15_code 1 = .ok (.getfield 24, 3) := by decide +kernel
theorem d_St_learnDefects_4 : decode prog_4_method_15_code 4 = .ok (.iconst 0, 1) := by decide +kernel
theorem d_St_learnDefects_5 : decode prog_4_method_15_code 5 = .ok (.invokestatic 106, 3) := by decide +kernel
theorem d_St_learnDefects_8 : decode prog_4_method_15_code 8 = .ok (.iconst 0, 1) := by decide +kernel
theorem d_St_learnDefects_9 : decode prog_4_method_15_code 9 = .ok (.istore_n 1, 1) := by decide +kernel
theorem d_St_learnDefects_10 : decode prog_4_method_15_code 10 = .ok (.iload_n 1, 1) := by decide +kernel
theorem d_St_learnDefects_11 : decode prog_4_method_15_code 11 = .ok (.iconst 1, 1) := by decide +kernel
theorem d_St_learnDefects_12 : decode prog_4_method_15_code 12 = .ok (.aload_n 0, 1) := by decide +kernel
theorem d_St_learnDefects_13 : decode prog_4_method_15_code 13 = .ok (.getfield 33, 3) := by decide +kernel
theorem d_St_learnDefects_16 : decode prog_4_method_15_code 16 = .ok (.ishl, 1) := by decide +kernel
theorem d_St_learnDefects_17 : decode prog_4_method_15_code 17 = .ok (.if_icmp .ge 48, 3) := by decide +kernel
theorem d_St_learnDefects_20 : decode prog_4_method_15_code 20 = .ok (.aload_n 0, 1) := by decide +kernel
theorem d_St_learnDefects_21 : decode prog_4_method_15_code 21 = .ok (.getfield 41, 3) := by decide +kernel
theorem d_St_learnDefects_24 : decode prog_4_method_15_code 24 = .ok (.aload_n 0, 1) := by decide +kernel
theorem d_St_learnDefects_25 : decode prog_4_method_15_code 25 = .ok (.getfield 9, 3) := by decide +kernel
theorem d_St_learnDefects_28 : decode prog_4_method_15_code 28 = .ok (.iload_n 1, 1) := by decide +kernel
theorem d_St_learnDefects_29 : decode prog_4_method_15_code 29 = .ok (.iaload, 1) := by decide +kernel
theorem d_St_learnDefects_30 : decode prog_4_method_15_code 30 = .ok (.isub, 1) := by decide +kernel
theorem d_St_learnDefects_31 : decode prog_4_method_15_code 31 = .ok (.istore_n 2, 1) := by decide +kernel
theorem d_St_learnDefects_32 : decode prog_4_method_15_code 32 = .ok (.iload_n 1, 1) := by decide +kernel
theorem d_St_learnDefects_33 : decode prog_4_method_15_code 33 = .ok (.invokestatic 94, 3) := by decide +kernel
theorem d_St_learnDefects_36 : decode prog_4_method_15_code 36 = .ok (.aload_n 0, 1) := by decide +kernel
theorem d_St_learnDefects_37 : decode prog_4_method_15_code 37 = .ok (.getfield 9, 3) := by decide +kernel
theorem d_St_learnDefects_40 : decode prog_4_method_15_code 40 = .ok (.iload_n 1, 1) := by decide +kernel
theorem d_St_learnDefects_41 : decode prog_4_method_15_code 41 = .ok (.iaload, 1) := by decide +kernel
theorem d_St_learnDefects_42 : decode prog_4_method_15_code 42 = .ok (.isub, 1) := by decide +kernel
theorem d_St_learnDefects_43 : decode prog_4_method_15_code 43 = .ok (.istore_n 3, 1) := by decide +kernel
theorem d_St_learnDefects_44 : decode prog_4_method_15_code 44 = .ok (.aload_n 0, 1) := by decide +kernel
theorem d_St_learnDefects_45 : decode prog_4_method_15_code 45 = .ok (.getfield 24, 3) := by decide +kernel
theorem d_St_learnDefects_48 : decode prog_4_method_15_code 48 = .ok (.iload_n 2, 1) := by decide +kernel
theorem d_St_learnDefects_49 : decode prog_4_method_15_code 49 = .ok (.bipush 13, 2) := by decide +kernel
theorem d_St_learnDefects_51 : decode prog_4_method_15_code 51 = .ok (.imul, 1) := by decide +kernel
theorem d_St_learnDefects_52 : decode prog_4_method_15_code 52 = .ok (.iload_n 3, 1) := by decide +kernel
theorem d_St_learnDefects_53 : decode prog_4_method_15_code 53 = .ok (.iadd, 1) := by decide +kernel
theorem d_St_learnDefects_54 : decode prog_4_method_15_code 54 = .ok (.dup2, 1) := by decide +kernel
theorem d_St_learnDefects_55 : decode prog_4_method_15_code 55 = .ok (.iaload, 1) := by decide +kernel
theorem d_St_learnDefects_56 : decode prog_4_method_15_code 56 = .ok (.iconst 1, 1) := by decide +kernel
theorem d_St_learnDefects_57 : decode prog_4_method_15_code 57 = .ok (.iadd, 1) := by decide +kernel
theorem d_St_learnDefects_58 : decode prog_4_method_15_code 58 = .ok (.iastore, 1) := by decide +kernel
theorem d_St_learnDefects_59 : decode prog_4_method_15_code 59 = .ok (.iinc 1 1, 3) := by decide +kernel
theorem d_St_learnDefects_62 : decode prog_4_method_15_code 62 = .ok (.goto (-52), 3) := by decide +kernel
theorem d_St_learnDefects_65 : decode prog_4_method_15_code 65 = .ok (.return_, 1) := by decide +kernel
def f_S_learnDefects (s_columnCount : Int32) (s_fullRank : Int32) (s_ranks_n : Nat) (s_ranks : Nat → Int32) (s_defects_n : Nat) (s_defects : Nat → Int32) : Option ((Nat → Int32)) :=
  ck_b1 (f_fillI s_defects_n s_defects 0) <| fun u_1 => lo2 (fun k_10 (v1_3 : Int32) (w_4 : Nat → Int32) => ck_if (((1 : Int32) <<< (s_columnCount &&& 31)) ≤ v1_3) (some w_4) (ck_in v1_3 s_ranks_n <| ck_nm (s_fullRank - (s_ranks v1_3.toNatClampNeg)) <| fun x_7 => ck_b1 (f_bitCount v1_3) <| fun r_8 => ck_in v1_3 s_ranks_n <| ck_nm (r_8 - (s_ranks v1_3.toNatClampNeg)) <| fun x_11 => ck_in ((x_7 * 13) + x_11) s_defects_n <| ck_in ((x_7 * 13) + x_11) s_defects_n <| ck_nm (v1_3 + 1) <| fun x_14 => k_10 x_14 (upd w_4 ((x_7 * 13) + x_11).toNatClampNeg ((w_4 ((x_7 * 13) + x_11).toNatClampNeg) + 1)))) ck_F 0 u_1
set_option maxHeartbeats 4000000 in
set_option maxRecDepth 100000 in
theorem c_S_learnDefects (l : Launch) (dC : Nat → ClassId) (dI : Nat → Nat → Nat) (cI cJ cB cZ cT cN : ClassId) (sz : Nat) (h_s : Nat) (h_s_ranks : Nat) (h_s_signs : Nat) (h_s_members : Nat) (h_s_starts : Nat) (h_s_defects : Nat) (s_columnCount : Int32) (s_fullRank : Int32) (s_ranks_n : Nat) (s_ranks : Nat → Int32) (s_defects_n : Nat) (s_defects : Nat → Int32) (r : (Nat → Int32)) (h : f_S_learnDefects s_columnCount s_fullRank s_ranks_n s_ranks s_defects_n s_defects = some r) : Met l y_St_learnDefects w_St_learnDefects ({ frames := 1, cells := 0, slots := 0, locals := 23 } : Room) (va_Pc [.ref h_s] (fun U => U.heap.size = sz ∧ va_P (dC, dI) cl_all [(h_s, .inr (2, [.int s_columnCount, .int s_fullRank, .ref h_s_ranks, .ref h_s_signs, .ref h_s_members, .ref h_s_starts, .ref h_s_defects])), (h_s_ranks, .inl (cI, s_ranks_n, .inl s_ranks)), (h_s_defects, .inl (cI, s_defects_n, .inl s_defects))] U.heap ∧ va_K (dC, dI) cl_all [(cI, .int), (cJ, .long), (cB, .byte), (cZ, .boolean), (cT, .object "BasisWalk$Table"), (cN, .object "BasisWalkModel$Num")] U ∧ NW U ∧ va_D (fun _ => True) [(h_s, .inr (2, [.int s_columnCount, .int s_fullRank, .ref h_s_ranks, .ref h_s_signs, .ref h_s_members, .ref h_s_starts, .ref h_s_defects])), (h_s_ranks, .inl (cI, s_ranks_n, .inl s_ranks)), (h_s_defects, .inl (cI, s_defects_n, .inl s_defects))])) (va_Qv (fun u : (Nat → Int32) => u = r) (fun (u : (Nat → Int32)) (t : State) => va_P (dC, dI) cl_all [(h_s, .inr (2, [.int s_columnCount, .int s_fullRank, .ref h_s_ranks, .ref h_s_signs, .ref h_s_members, .ref h_s_starts, .ref h_s_defects])), (h_s_ranks, .inl (cI, s_ranks_n, .inl s_ranks)), (h_s_defects, .inl (cI, s_defects_n, .inl u))] t.heap ∧ va_K (dC, dI) cl_all [(cI, .int), (cJ, .long), (cB, .byte), (cZ, .boolean), (cT, .object "BasisWalk$Table"), (cN, .object "BasisWalkModel$Num")] t ∧ va_D (va_A [(h_s, .inr (2, [.int s_columnCount, .int s_fullRank, .ref h_s_ranks, .ref h_s_signs, .ref h_s_members, .ref h_s_starts, .ref h_s_defects])), (h_s_ranks, .inl (cI, s_ranks_n, .inl s_ranks)), (h_s_defects, .inl (cI, s_defects_n, .inl s_defects))] sz) [(h_s, .inr (2, [.int s_columnCount, .int s_fullRank, .ref h_s_ranks, .ref h_s_signs, .ref h_s_members, .ref h_s_starts, .ref h_s_defects])), (h_s_ranks, .inl (cI, s_ranks_n, .inl s_ranks)), (h_s_defects, .inl (cI, s_defects_n, .inl u))]) (va_A [(h_s, .inr (2, [.int s_columnCount, .int s_fullRank, .ref h_s_ranks, .ref h_s_signs, .ref h_s_members, .ref h_s_starts, .ref h_s_defects])), (h_s_ranks, .inl (cI, s_ranks_n, .inl s_ranks)), (h_s_defects, .inl (cI, s_defects_n, .inl s_defects))] sz)) 0 0 (va_A [(h_s, .inr (2, [.int s_columnCount, .int s_fullRank, .ref h_s_ranks, .ref h_s_signs, .ref h_s_members, .ref h_s_starts, .ref h_s_defects])), (h_s_ranks, .inl (cI, s_ranks_n, .inl s_ranks)), (h_s_defects, .inl (cI, s_defects_n, .inl s_defects))] sz) := by
  refine Met.ofW (cc := prog_4_method_15_code) (maxL := 4) (ret := (Option.none : Option Jvm.ClassFile.FieldType)) (by decide) rfl ?_
  intro p e s m args below meth c s₁ B hml hv
  obtain ⟨hAR, hsz, hP, hK, hN, hD0⟩ := hv
  have hx := B.exec
  have hb := B.bytes
  have hr := B.returns
  have hts := atoms_spec (ws := w_St_learnDefects) B.pre
  have hown : s.vm.findClass "BasisWalk$Study" = some m.cls := findClass_of_methodNamed B.named
  have hlocks := B.notSynchronized
  clear B
  subst hsz
  have hD := hD0.self (sz := s.heap.size)
  generalize hAe : va_A [(h_s, .inr (2, [.int s_columnCount, .int s_fullRank, .ref h_s_ranks, .ref h_s_signs, .ref h_s_members, .ref h_s_starts, .ref h_s_defects])), (h_s_ranks, .inl (cI, s_ranks_n, .inl s_ranks)), (h_s_defects, .inl (cI, s_defects_n, .inl s_defects))] s.heap.size = A at hD ⊢
  have hA : ∀ q : Nat, s.heap.size ≤ q → A q := fun q h => by rw [← hAe]; exact Or.inr h
  clear hAe hD0
  have hS : va_S A s.heap s.heap [] := va_S.rf
  have hl := lv_entry ([.ref h_s]) (n := 4) (Nat.le_of_ble_eq_true rfl)
  subst hAR
  rw [lg_entry_eq]
  generalize (lg_sl ([.ref h_s]) ++ List.replicate (4 - (lg_sl ([.ref h_s])).length) Slot.unset).toArray = ls at hl ⊢
  have hl : lv_has ls 4 [(0, .ref h_s)] := hl
  change W p l e ({ frames := 1, cells := 0, slots := 0, locals := 23 } : Room) s m _ below meth c s.heap [] 0 0 _ _
  generalize hARe : ([.ref h_s] : List Value).toArray = AR at hts ⊢
  clear hARe
  generalize hQ : MQ below _ AR s 0 0 A = QQ
  have fl0 := hts _ (List.mem_cons_of_mem _ tw_41)
  have iw1 := (fun w hw => List.mem_cons_of_mem _ (in_St w hw) : ∀ w ∈ u_ws "BasisWalk$Study" T_St 7, w ∈ w_St_learnDefects)
  have fl2 := hts _ (List.mem_cons_of_mem _ tw_32)
  have fl3 := hts _ (List.mem_cons_of_mem _ tw_33)
  have fl4 := hts _ (List.mem_cons_of_mem _ tw_35)
  obtain ⟨H, hHe⟩ : ∃ H : Heap, H = s.heap := ⟨_, rfl⟩
  rw [← hHe] at hP ⊢
  replace hS : va_S A s.heap H [] := by rw [hHe]; exact va_S.rf
  clear hHe
  unfold f_S_learnDefects at h
  refine lv_aload_n hx hb d_St_learnDefects_0 rfl (lv_at hl 0 rfl) ?_
  refine va_get (D := (dC, dI)) (ci := 2) (v := .ref h_s_defects) (C := "BasisWalk$Study") (T := T_St) (N := 7) hx hb hts iw1 hown hK hP 0 rfl rfl 6 (by decide) fl0 (fun _ h9 => h9) rfl d_St_learnDefects_1 ?_
  refine lv_iconst (v := 0) hx hb d_St_learnDefects_4 (by decide) ?_
  obtain ⟨u_1, hc_2, h⟩ := ck_b1_s h
  have hPc := hP.sub (ws' := [(h_s_defects, .inl (cI, s_defects_n, .inl s_defects))]) [2] rfl
  have hDc := hD.sub (ws' := [(h_s_defects, .inl (cI, s_defects_n, .inl s_defects))]) [2] (by decide) rfl
  have hFc := va_free (wc := [(h_s_defects, .inl (cI, s_defects_n, .inl s_defects))]) hD hS hA [2] rfl
  refine va_callv (va_runS (As := [.ref h_s_defects, .int 0]) (rest := []) ⟨hx, hb, hml, hown, hts⟩ (c_fillI l dC dI cI cJ cB cZ cT cN H.size h_s_defects s_defects_n s_defects 0 _ hc_2) (va_cwS 2 hts (tb_S tw_264 tw_155 tw_8 tw_156) rfl rfl rfl (by decide +kernel) ⟨Nat.le_of_ble_eq_true rfl, Nat.le_of_ble_eq_true rfl⟩) ⟨fun a U g mk q => by obtain ⟨q0, q1, qP, qK, qN, qD⟩ := q; exact ⟨q0, q1, qP, va_K.moved (u := U) (U := U.calling g mk a) (Vm.Alike.refl U.vm) qK, qN.same rfl, qD⟩, fun U hU hW => ⟨rfl, by rw [hU], by rw [hU]; exact hPc, va_K.moved hW.alike hK, hN.warm hW, hDc.weaken (fun _ _ _ _ => trivial)⟩⟩ rfl rfl hl.1 rfl (lv_room (Nat.le_of_ble_eq_true rfl)) d_St_learnDefects_5 ⟨Nat.zero_le _, Nat.zero_le _⟩) hS (fun q _ h => hFc q h) hFc (fun u t H1 locs ht hvm hw hB hz1 hk1 hS => ?_)
  replace hw := hw.symm
  subst hw
  obtain ⟨hP1, -, hD1⟩ := hB
  rw [ht] at hP1
  obtain ⟨hP, hD⟩ := va_join (wr := [(h_s, .inr (2, [.int s_columnCount, .int s_fullRank, .ref h_s_ranks, .ref h_s_signs, .ref h_s_members, .ref h_s_starts, .ref h_s_defects])), (h_s_ranks, .inl (cI, s_ranks_n, .inl s_ranks))]) (w1 := [(h_s_defects, .inl (cI, s_defects_n, .inl u_1))]) hP hD [2] [0, 1] rfl rfl (by decide) (by decide) hk1 hFc hP1 hD1
  generalize H1 = H at hP hS ⊢
  have hP : va_P (dC, dI) cl_all [(h_s, .inr (2, [.int s_columnCount, .int s_fullRank, .ref h_s_ranks, .ref h_s_signs, .ref h_s_members, .ref h_s_starts, .ref h_s_defects])), (h_s_ranks, .inl (cI, s_ranks_n, .inl s_ranks)), (h_s_defects, .inl (cI, s_defects_n, .inl u_1))] H := hP.sub [0, 1, 2] rfl
  have hD : va_D A [(h_s, .inr (2, [.int s_columnCount, .int s_fullRank, .ref h_s_ranks, .ref h_s_signs, .ref h_s_members, .ref h_s_starts, .ref h_s_defects])), (h_s_ranks, .inl (cI, s_ranks_n, .inl s_ranks)), (h_s_defects, .inl (cI, s_defects_n, .inl u_1))] := hD.sub [0, 1, 2] (by decide) rfl
  refine lv_iconst (v := 0) hx hb d_St_learnDefects_8 (by decide) ?_
  refine lv_istore_n (lv' := [(1, .int 0), (0, .ref h_s)]) hx hb d_St_learnDefects_9 rfl hl (by decide) rfl (fun ls hl => ?_)
  refine lo2_W (r := r) (fun (v1_3 : Int32) (w_4 : Nat → Int32) => ∀ (H : Heap) (locs : List Loc), va_P (dC, dI) cl_all [(h_s, .inr (2, [.int s_columnCount, .int s_fullRank, .ref h_s_ranks, .ref h_s_signs, .ref h_s_members, .ref h_s_starts, .ref h_s_defects])), (h_s_ranks, .inl (cI, s_ranks_n, .inl s_ranks)), (h_s_defects, .inl (cI, s_defects_n, .inl w_4))] H → va_D A [(h_s, .inr (2, [.int s_columnCount, .int s_fullRank, .ref h_s_ranks, .ref h_s_signs, .ref h_s_members, .ref h_s_starts, .ref h_s_defects])), (h_s_ranks, .inl (cI, s_ranks_n, .inl s_ranks)), (h_s_defects, .inl (cI, s_defects_n, .inl w_4))] → va_S A s.heap H locs → ∀ ls : Array Slot, lv_has ls 4 [(0, .ref h_s), (1, .int v1_3)] → W p l e ({ frames := 1, cells := 0, slots := 0, locals := 23 } : Room) s m AR below meth c H locs 0 0 QQ (F0 m 10 ls [])) ?_ _ _ _ h _ _ hP hD hS _ (lv_sub hl [1, 0] rfl)
  intro k_10 v1_3 w_4 J_10 h H locs hP hD hS ls hl
  refine lv_iload_n hx hb d_St_learnDefects_10 rfl (lv_at hl 1 rfl) ?_
  refine lv_iconst (v := 1) hx hb d_St_learnDefects_11 (by decide) ?_
  refine lv_aload_n hx hb d_St_learnDefects_12 rfl (lv_at hl 0 rfl) ?_
  refine va_get (D := (dC, dI)) (ci := 2) (v := .int s_columnCount) (C := "BasisWalk$Study") (T := T_St) (N := 7) hx hb hts iw1 hown hK hP 0 rfl rfl 0 (by decide) fl2 (fun _ h9 => h9) rfl d_St_learnDefects_13 ?_
  refine lv_ishl hx hb d_St_learnDefects_16 ?_
  refine lv_icmp_ge (tgt := 65) hx hb d_St_learnDefects_17 (by decide) (fun c_5 => ?_) (fun c_5 => ?_)
  · replace h := ck_if_t h c_5
    obtain rfl := Option.some.inj h
    subst hQ
    exact W.vret hx hb hr (fun t ht hW => ⟨⟨w_4, rfl, rfl, by rw [ht]; exact hP, va_K.moved hW.alike hK, hD⟩, hS.F ht⟩) hS.2.2 d_St_learnDefects_65
  · replace h := ck_if_f h c_5
    refine lv_aload_n hx hb d_St_learnDefects_20 rfl (lv_at hl 0 rfl) ?_
    refine va_get (D := (dC, dI)) (ci := 2) (v := .int s_fullRank) (C := "BasisWalk$Study") (T := T_St) (N := 7) hx hb hts iw1 hown hK hP 0 rfl rfl 1 (by decide) fl3 (fun _ h9 => h9) rfl d_St_learnDefects_21 ?_
    refine lv_aload_n hx hb d_St_learnDefects_24 rfl (lv_at hl 0 rfl) ?_
    refine va_get (D := (dC, dI)) (ci := 2) (v := .ref h_s_ranks) (C := "BasisWalk$Study") (T := T_St) (N := 7) hx hb hts iw1 hown hK hP 0 rfl rfl 2 (by decide) fl4 (fun _ h9 => h9) rfl d_St_learnDefects_25 ?_
    refine lv_iload_n hx hb d_St_learnDefects_28 rfl (lv_at hl 1 rfl) ?_
    obtain ⟨g_6, h⟩ := ck_in_s h
    refine va_iald hx hb hK hP 1 0 rfl rfl g_6 d_St_learnDefects_29 ?_
    refine lv_isub hx hb d_St_learnDefects_30 ?_
    refine lv_topi (fun x_7 ex_7 => ?_)
    replace h := ck_nm_s h ex_7
    refine lv_istore_n (lv' := [(2, .int x_7), (0, .ref h_s), (1, .int v1_3)]) hx hb d_St_learnDefects_31 rfl hl (by decide) rfl (fun ls hl => ?_)
    refine lv_iload_n hx hb d_St_learnDefects_32 rfl (lv_at hl 2 rfl) ?_
    obtain ⟨r_8, hc_9, h⟩ := ck_b1_s h
    have hPc := hP.sub (ws' := []) [] rfl
    have hDc := hD.sub (ws' := []) [] (by decide) rfl
    have hFc := va_free (wc := []) hD hS hA [] rfl
    refine va_calli (va_runS (As := [.int v1_3]) (rest := []) ⟨hx, hb, hml, hown, hts⟩ (c_bitCount l dC dI cI cJ cB cZ cT cN H.size v1_3 _ hc_9) (va_cwS 1 hts (tb_S tw_247 tw_196 tw_10 tw_197) rfl rfl rfl (by decide +kernel) ⟨Nat.le_of_ble_eq_true rfl, Nat.le_of_ble_eq_true rfl⟩) ⟨fun a U g mk q => by obtain ⟨q0, q1, qP, qK, qN, qD⟩ := q; exact ⟨q0, q1, qP, va_K.moved (u := U) (U := U.calling g mk a) (Vm.Alike.refl U.vm) qK, qN.same rfl, qD⟩, fun U hU hW => ⟨rfl, by rw [hU], by rw [hU]; exact hPc, va_K.moved hW.alike hK, hN.warm hW, hDc.weaken (fun _ _ _ _ => trivial)⟩⟩ rfl rfl hl.1 rfl (lv_room (Nat.le_of_ble_eq_true rfl)) d_St_learnDefects_33 ⟨Nat.zero_le _, Nat.zero_le _⟩) hS (fun q _ h => hFc q h) hFc (fun rr u t H1 locs ht hvm hw hB hz1 hk1 hS => ?_)
    replace hw := hw.symm
    subst hw
    obtain ⟨hP1, -, hD1⟩ := hB
    rw [ht] at hP1
    obtain ⟨hP, hD⟩ := va_join (wr := [(h_s, .inr (2, [.int s_columnCount, .int s_fullRank, .ref h_s_ranks, .ref h_s_signs, .ref h_s_members, .ref h_s_starts, .ref h_s_defects])), (h_s_ranks, .inl (cI, s_ranks_n, .inl s_ranks)), (h_s_defects, .inl (cI, s_defects_n, .inl w_4))]) (w1 := []) hP hD [] [0, 1, 2] rfl rfl (by decide) (by decide) hk1 hFc hP1 hD1
    generalize H1 = H at hP hS ⊢
    have hP : va_P (dC, dI) cl_all [(h_s, .inr (2, [.int s_columnCount, .int s_fullRank, .ref h_s_ranks, .ref h_s_signs, .ref h_s_members, .ref h_s_starts, .ref h_s_defects])), (h_s_ranks, .inl (cI, s_ranks_n, .inl s_ranks)), (h_s_defects, .inl (cI, s_defects_n, .inl w_4))] H := hP.sub [0, 1, 2] rfl
    have hD : va_D A [(h_s, .inr (2, [.int s_columnCount, .int s_fullRank, .ref h_s_ranks, .ref h_s_signs, .ref h_s_members, .ref h_s_starts, .ref h_s_defects])), (h_s_ranks, .inl (cI, s_ranks_n, .inl s_ranks)), (h_s_defects, .inl (cI, s_defects_n, .inl w_4))] := hD.sub [0, 1, 2] (by decide) rfl
    refine lv_aload_n hx hb d_St_learnDefects_36 rfl (lv_at hl 1 rfl) ?_
    refine va_get (D := (dC, dI)) (ci := 2) (v := .ref h_s_ranks) (C := "BasisWalk$Study") (T := T_St) (N := 7) hx hb hts iw1 hown hK hP 0 rfl rfl 2 (by decide) fl4 (fun _ h9 => h9) rfl d_St_learnDefects_37 ?_
    refine lv_iload_n hx hb d_St_learnDefects_40 rfl (lv_at hl 2 rfl) ?_
    obtain ⟨g_10, h⟩ := ck_in_s h
    refine va_iald hx hb hK hP 1 0 rfl rfl g_10 d_St_learnDefects_41 ?_
    refine lv_isub hx hb d_St_learnDefects_42 ?_
    refine lv_topi (fun x_11 ex_11 => ?_)
    replace h := ck_nm_s h ex_11
    refine lv_istore_n (lv' := [(3, .int x_11), (2, .int x_7), (0, .ref h_s), (1, .int v1_3)]) hx hb d_St_learnDefects_43 rfl hl (by decide) rfl (fun ls hl => ?_)
    refine lv_aload_n hx hb d_St_learnDefects_44 rfl (lv_at hl 2 rfl) ?_
    refine va_get (D := (dC, dI)) (ci := 2) (v := .ref h_s_defects) (C := "BasisWalk$Study") (T := T_St) (N := 7) hx hb hts iw1 hown hK hP 0 rfl rfl 6 (by decide) fl0 (fun _ h9 => h9) rfl d_St_learnDefects_45 ?_
    refine lv_iload_n hx hb d_St_learnDefects_48 rfl (lv_at hl 1 rfl) ?_
    refine lv_bipush (v := 13) hx hb d_St_learnDefects_49 (by decide) ?_
    refine lv_imul hx hb d_St_learnDefects_51 ?_
    refine lv_iload_n hx hb d_St_learnDefects_52 rfl (lv_at hl 0 rfl) ?_
    refine lv_iadd hx hb d_St_learnDefects_53 ?_
    refine lv_dup2_11 hx hb d_St_learnDefects_54 rfl rfl ?_
    obtain ⟨g_12, h⟩ := ck_in_s h
    refine va_iald hx hb hK hP 2 0 rfl rfl g_12 d_St_learnDefects_55 ?_
    refine lv_iconst (v := 1) hx hb d_St_learnDefects_56 (by decide) ?_
    refine lv_iadd hx hb d_St_learnDefects_57 ?_
    obtain ⟨g_13, h⟩ := ck_in_s h
    refine va_iast hx hb hK hP hD hS 2 0 rfl rfl g_13 d_St_learnDefects_58 (fun H locs hP hD hS => ?_)
    have hP : va_P (dC, dI) cl_all [(h_s, .inr (2, [.int s_columnCount, .int s_fullRank, .ref h_s_ranks, .ref h_s_signs, .ref h_s_members, .ref h_s_starts, .ref h_s_defects])), (h_s_ranks, .inl (cI, s_ranks_n, .inl s_ranks)), (h_s_defects, .inl (cI, s_defects_n, .inl (upd w_4 ((x_7 * 13) + x_11).toNatClampNeg ((w_4 ((x_7 * 13) + x_11).toNatClampNeg) + 1))))] H := hP
    have hD : va_D A [(h_s, .inr (2, [.int s_columnCount, .int s_fullRank, .ref h_s_ranks, .ref h_s_signs, .ref h_s_members, .ref h_s_starts, .ref h_s_defects])), (h_s_ranks, .inl (cI, s_ranks_n, .inl s_ranks)), (h_s_defects, .inl (cI, s_defects_n, .inl (upd w_4 ((x_7 * 13) + x_11).toNatClampNeg ((w_4 ((x_7 * 13) + x_11).toNatClampNeg) + 1))))] := hD
    obtain ⟨x_14, ex_14⟩ : ∃ y : Int32, y = v1_3 + 1 := ⟨_, rfl⟩
    replace h := ck_nm_s h ex_14
    refine lv_iinc (v := x_14) (lv' := [(1, .int x_14), (3, .int x_11), (2, .int x_7), (0, .ref h_s)]) hx hb d_St_learnDefects_59 hl (k := 3) rfl (by rw [ex_14]; rfl) (by decide) rfl (fun ls hl => ?_)
    refine lv_goto (tgt := 10) hx hb d_St_learnDefects_62 (by decide) ?_
    exact J_10 _ _ h _ _ hP hD hS _ (lv_sub hl [3, 0] rfl)
theorem d_St_learnMembers_0 : decode prog_4_method_16_code 0 = .ok (.iconst 0, 1) := by decide +kernel
theorem d_St_learnMembers_1 : decode prog_4_method_16_code 1 = .ok (.istore_n 2, 1) := by decide +kernel
theorem d_St_learnMembers_2 : decode prog_4_method_16_code 2 = .ok (.iconst 0, 1) := by decide +kernel
theorem d_St_learnMembers_3 : decode prog_4_method_16_code 3 = .ok (.istore_n 3, 1) := by decide +kernel
theorem d_St_learnMembers_4 : decode prog_4_method_16_code 4 = .ok (.iload_n 3, 1) := by decide +kernel
theorem d_St_learnMembers_5 : decode prog_4_method_16_code 5 = .ok (.iconst 4, 1) := by decide +kernel
theorem d_St_learnMembers_6 : decode prog_4_method_16_code 6 = .ok (.if_icmp .ge 66, 3) := by decide +kernel
theorem d_St_learnMembers_9 : decode prog_4_method_16_code 9 = .ok (.aload_n 0, 1) := by decide +kernel
theorem d_St_learnMembers_10 : decode prog_4_method_16_code 10 = .ok (.getfield 21, 3) := by decide +kernel
theorem d_St_learnMembers_13 : decode prog_4_method_16_code 13 = .ok (.iload_n 3, 1) := by decide +kernel
theorem d_St_learnMembers_14 : decode prog_4_method_16_code 14 = .ok (.iload_n 2, 1) := by decide +kernel
theorem d_St_learnMembers_15 : decode prog_4_method_16_code 15 = .ok (.iastore, 1) := by decide +kernel
theorem d_St_learnMembers_16 : decode prog_4_method_16_code 16 = .ok (.iconst 0, 1) := by decide +kernel
theorem d_St_learnMembers_17 : decode prog_4_method_16_code 17 = .ok (.istore 4, 2) := by decide +kernel
theorem d_St_learnMembers_19 : decode prog_4_method_16_code 19 = .ok (.iload 4, 2) := by decide +kernel
theorem d_St_learnMembers_21 : decode prog_4_method_16_code 21 = .ok (.iconst 1, 1) := by decide +kernel
theorem d_St_learnMembers_22 : decode prog_4_method_16_code 22 = .ok (.aload_n 0, 1) := by decide +kernel
theorem d_St_learnMembers_23 : decode prog_4_method_16_code 23 = .ok (.getfield 33, 3) := by decide +kernel
theorem d_St_learnMembers_26 : decode prog_4_method_16_code 26 = .ok (.ishl, 1) := by decide +kernel
theorem d_St_learnMembers_27 : decode prog_4_method_16_code 27 = .ok (.if_icmp .ge 39, 3) := by decide +kernel
theorem d_St_learnMembers_30 : decode prog_4_method_16_code 30 = .ok (.aload_n 1, 1) := by decide +kernel
theorem d_St_learnMembers_31 : decode prog_4_method_16_code 31 = .ok (.getfield 88, 3) := by decide +kernel
theorem d_St_learnMembers_34 : decode prog_4_method_16_code 34 = .ok (.iload 4, 2) := by decide +kernel
theorem d_St_learnMembers_36 : decode prog_4_method_16_code 36 = .ok (.iaload, 1) := by decide +kernel
theorem d_St_learnMembers_37 : decode prog_4_method_16_code 37 = .ok (.istore 5, 2) := by decide +kernel
theorem d_St_learnMembers_39 : decode prog_4_method_16_code 39 = .ok (.aload_n 0, 1) := by decide +kernel
theorem d_St_learnMembers_40 : decode prog_4_method_16_code 40 = .ok (.iload_n 3, 1) := by decide +kernel
theorem d_St_learnMembers_41 : decode prog_4_method_16_code 41 = .ok (.iload 5, 2) := by decide +kernel
theorem d_St_learnMembers_43 : decode prog_4_method_16_code 43 = .ok (.invokevirtual 112, 3) := by decide +kernel
theorem d_St_learnMembers_46 : decode prog_4_method_16_code 46 = .ok (.ifCond .eq 14, 3) := by decide +kernel
theorem d_St_learnMembers_49 : decode prog_4_method_16_code 49 = .ok (.aload_n 0, 1) := by decide +kernel
theorem d_St_learnMembers_50 : decode prog_4_method_16_code 50 = .ok (.getfield 18, 3) := by decide +kernel
theorem d_St_learnMembers_53 : decode prog_4_method_16_code 53 = .ok (.iload_n 2, 1) := by decide +kernel
theorem d_St_learnMembers_54 : decode prog_4_method_16_code 54 = .ok (.iload 5, 2) := by decide +kernel
theorem d_St_learnMembers_56 : decode prog_4_method_16_code 56 = .ok (.iastore, 1) := by decide +kernel
theorem d_St_learnMembers_57 : decode prog_4_method_16_code 57 = .ok (.iinc 2 1, 3) := by decide +kernel
theorem d_St_learnMembers_60 : decode prog_4_method_16_code 60 = .ok (.iinc 4 1, 3) := by decide +kernel
theorem d_St_learnMembers_63 : decode prog_4_method_16_code 63 = .ok (.goto (-44), 3) := by decide +kernel
theorem d_St_learnMembers_66 : decode prog_4_method_16_code 66 = .ok (.iinc 3 1, 3) := by decide +kernel
theorem d_St_learnMembers_69 : decode prog_4_method_16_code 69 = .ok (.goto (-65), 3) := by decide +kernel
theorem d_St_learnMembers_72 : decode prog_4_method_16_code 72 = .ok (.aload_n 0, 1) := by decide +kernel
theorem d_St_learnMembers_73 : decode prog_4_method_16_code 73 = .ok (.getfield 21, 3) := by decide +kernel
theorem d_St_learnMembers_76 : decode prog_4_method_16_code 76 = .ok (.iconst 4, 1) := by decide +kernel
theorem d_St_learnMembers_77 : decode prog_4_method_16_code 77 = .ok (.iload_n 2, 1) := by decide +kernel
theorem d_St_learnMembers_78 : decode prog_4_method_16_code 78 = .ok (.iastore, 1) := by decide +kernel
theorem d_St_learnMembers_79 : decode prog_4_method_16_code 79 = .ok (.return_, 1) := by decide +kernel
def f_S_learnMembers (s_columnCount : Int32) (s_fullRank : Int32) (s_ranks_n : Nat) (s_ranks : Nat → Int32) (s_members_n : Nat) (s_members : Nat → Int32) (s_starts_n : Nat) (s_starts : Nat → Int32) (o_sets_n : Nat) (o_sets : Nat → Int32) : Option ((Nat → Int32) × (Nat → Int32)) :=
  lo4 (fun k_4 (v3_1 : Int32) (v2_2 : Int32) (w_3 : Nat → Int32) (w_4 : Nat → Int32) => ck_if (4 ≤ v3_1) (ck_in 4 s_starts_n <| some (w_3, (upd w_4 (4 : Int32).toNatClampNeg v2_2))) (ck_in v3_1 s_starts_n <| ck_jn (fun (v2_8 : Int32) (w_9 : Nat → Int32) => ck_nm (v3_1 + 1) <| fun x_10 => k_4 x_10 v2_8 w_9 (upd w_4 v3_1.toNatClampNeg v2_2)) <| fun k_66 => lo3 (fun k_19 (v4_11 : Int32) (v2_12 : Int32) (w_13 : Nat → Int32) => ck_if (((1 : Int32) <<< (s_columnCount &&& 31)) ≤ v4_11) (k_66 v2_12 w_13) (ck_in v4_11 o_sets_n <| ck_nm (o_sets v4_11.toNatClampNeg) <| fun x_16 => ck_b1 (f_S_isOfKind s_columnCount s_fullRank s_ranks_n s_ranks v3_1 x_16) <| fun r_17 => ck_jn (fun (v2_19 : Int32) (w_20 : Nat → Int32) => ck_nm (v4_11 + 1) <| fun x_21 => k_19 x_21 v2_19 w_20) <| fun k_60 => ck_if (r_17 = 0) (k_60 v2_12 w_13) (ck_in v2_12 s_members_n <| ck_nm (v2_12 + 1) <| fun x_24 => k_60 x_24 (upd w_13 v2_12.toNatClampNeg x_16)))) ck_F 0 v2_2 w_3)) ck_F 0 0 s_members s_starts
set_option maxHeartbeats 4000000 in
set_option maxRecDepth 100000 in
theorem c_S_learnMembers (l : Launch) (dC : Nat → ClassId) (dI : Nat → Nat → Nat) (cI cJ cB cZ cT cN : ClassId) (sz : Nat) (h_s : Nat) (h_o : Nat) (h_s_ranks : Nat) (h_s_signs : Nat) (h_s_members : Nat) (h_s_starts : Nat) (h_s_defects : Nat) (h_o_sets : Nat) (h_o_starts : Nat) (h_o_nexts : Nat) (s_columnCount : Int32) (s_fullRank : Int32) (s_ranks_n : Nat) (s_ranks : Nat → Int32) (s_members_n : Nat) (s_members : Nat → Int32) (s_starts_n : Nat) (s_starts : Nat → Int32) (o_columnCount : Int32) (o_sets_n : Nat) (o_sets : Nat → Int32) (r : (Nat → Int32) × (Nat → Int32)) (h : f_S_learnMembers s_columnCount s_fullRank s_ranks_n s_ranks s_members_n s_members s_starts_n s_starts o_sets_n o_sets = some r) : Met l y_St_learnMembers w_St_learnMembers ({ frames := 3, cells := 0, slots := 0, locals := 66 } : Room) (va_Pc [.ref h_s, .ref h_o] (fun U => U.heap.size = sz ∧ va_P (dC, dI) cl_all [(h_s, .inr (2, [.int s_columnCount, .int s_fullRank, .ref h_s_ranks, .ref h_s_signs, .ref h_s_members, .ref h_s_starts, .ref h_s_defects])), (h_s_ranks, .inl (cI, s_ranks_n, .inl s_ranks)), (h_s_members, .inl (cI, s_members_n, .inl s_members)), (h_s_starts, .inl (cI, s_starts_n, .inl s_starts)), (h_o, .inr (1, [.int o_columnCount, .ref h_o_sets, .ref h_o_starts, .ref h_o_nexts])), (h_o_sets, .inl (cI, o_sets_n, .inl o_sets))] U.heap ∧ va_K (dC, dI) cl_all [(cI, .int), (cJ, .long), (cB, .byte), (cZ, .boolean), (cT, .object "BasisWalk$Table"), (cN, .object "BasisWalkModel$Num")] U ∧ NW U ∧ va_D (fun _ => True) [(h_s, .inr (2, [.int s_columnCount, .int s_fullRank, .ref h_s_ranks, .ref h_s_signs, .ref h_s_members, .ref h_s_starts, .ref h_s_defects])), (h_s_ranks, .inl (cI, s_ranks_n, .inl s_ranks)), (h_s_members, .inl (cI, s_members_n, .inl s_members)), (h_s_starts, .inl (cI, s_starts_n, .inl s_starts)), (h_o, .inr (1, [.int o_columnCount, .ref h_o_sets, .ref h_o_starts, .ref h_o_nexts])), (h_o_sets, .inl (cI, o_sets_n, .inl o_sets))])) (va_Qv (fun u : (Nat → Int32) × (Nat → Int32) => u = r) (fun (u : (Nat → Int32) × (Nat → Int32)) (t : State) => va_P (dC, dI) cl_all [(h_s, .inr (2, [.int s_columnCount, .int s_fullRank, .ref h_s_ranks, .ref h_s_signs, .ref h_s_members, .ref h_s_starts, .ref h_s_defects])), (h_s_ranks, .inl (cI, s_ranks_n, .inl s_ranks)), (h_s_members, .inl (cI, s_members_n, .inl u.1)), (h_s_starts, .inl (cI, s_starts_n, .inl u.2)), (h_o, .inr (1, [.int o_columnCount, .ref h_o_sets, .ref h_o_starts, .ref h_o_nexts])), (h_o_sets, .inl (cI, o_sets_n, .inl o_sets))] t.heap ∧ va_K (dC, dI) cl_all [(cI, .int), (cJ, .long), (cB, .byte), (cZ, .boolean), (cT, .object "BasisWalk$Table"), (cN, .object "BasisWalkModel$Num")] t ∧ va_D (va_A [(h_s, .inr (2, [.int s_columnCount, .int s_fullRank, .ref h_s_ranks, .ref h_s_signs, .ref h_s_members, .ref h_s_starts, .ref h_s_defects])), (h_s_ranks, .inl (cI, s_ranks_n, .inl s_ranks)), (h_s_members, .inl (cI, s_members_n, .inl s_members)), (h_s_starts, .inl (cI, s_starts_n, .inl s_starts)), (h_o, .inr (1, [.int o_columnCount, .ref h_o_sets, .ref h_o_starts, .ref h_o_nexts])), (h_o_sets, .inl (cI, o_sets_n, .inl o_sets))] sz) [(h_s, .inr (2, [.int s_columnCount, .int s_fullRank, .ref h_s_ranks, .ref h_s_signs, .ref h_s_members, .ref h_s_starts, .ref h_s_defects])), (h_s_ranks, .inl (cI, s_ranks_n, .inl s_ranks)), (h_s_members, .inl (cI, s_members_n, .inl u.1)), (h_s_starts, .inl (cI, s_starts_n, .inl u.2)), (h_o, .inr (1, [.int o_columnCount, .ref h_o_sets, .ref h_o_starts, .ref h_o_nexts])), (h_o_sets, .inl (cI, o_sets_n, .inl o_sets))]) (va_A [(h_s, .inr (2, [.int s_columnCount, .int s_fullRank, .ref h_s_ranks, .ref h_s_signs, .ref h_s_members, .ref h_s_starts, .ref h_s_defects])), (h_s_ranks, .inl (cI, s_ranks_n, .inl s_ranks)), (h_s_members, .inl (cI, s_members_n, .inl s_members)), (h_s_starts, .inl (cI, s_starts_n, .inl s_starts)), (h_o, .inr (1, [.int o_columnCount, .ref h_o_sets, .ref h_o_starts, .ref h_o_nexts])), (h_o_sets, .inl (cI, o_sets_n, .inl o_sets))] sz)) 0 0 (va_A [(h_s, .inr (2, [.int s_columnCount, .int s_fullRank, .ref h_s_ranks, .ref h_s_signs, .ref h_s_members, .ref h_s_starts, .ref h_s_defects])), (h_s_ranks, .inl (cI, s_ranks_n, .inl s_ranks)), (h_s_members, .inl (cI, s_members_n, .inl s_members)), (h_s_starts, .inl (cI, s_starts_n, .inl s_starts)), (h_o, .inr (1, [.int o_columnCount, .ref h_o_sets, .ref h_o_starts, .ref h_o_nexts])), (h_o_sets, .inl (cI, o_sets_n, .inl o_sets))] sz) := by
  refine Met.ofW (cc := prog_4_method_16_code) (maxL := 6) (ret := (Option.none : Option Jvm.ClassFile.FieldType)) (by decide) rfl ?_
  intro p e s m args below meth c s₁ B hml hv
  obtain ⟨hAR, hsz, hP, hK, hN, hD0⟩ := hv
  have hx := B.exec
  have hb := B.bytes
  have hr := B.returns
  have hts := atoms_spec (ws := w_St_learnMembers) B.pre
  have hown : s.vm.findClass "BasisWalk$Study" = some m.cls := findClass_of_methodNamed B.named
  have hlocks := B.notSynchronized
  clear B
  subst hsz
  have hD := hD0.self (sz := s.heap.size)
  generalize hAe : va_A [(h_s, .inr (2, [.int s_columnCount, .int s_fullRank, .ref h_s_ranks, .ref h_s_signs, .ref h_s_members, .ref h_s_starts, .ref h_s_defects])), (h_s_ranks, .inl (cI, s_ranks_n, .inl s_ranks)), (h_s_members, .inl (cI, s_members_n, .inl s_members)), (h_s_starts, .inl (cI, s_starts_n, .inl s_starts)), (h_o, .inr (1, [.int o_columnCount, .ref h_o_sets, .ref h_o_starts, .ref h_o_nexts])), (h_o_sets, .inl (cI, o_sets_n, .inl o_sets))] s.heap.size = A at hD ⊢
  have hA : ∀ q : Nat, s.heap.size ≤ q → A q := fun q h => by rw [← hAe]; exact Or.inr h
  clear hAe hD0
  have hS : va_S A s.heap s.heap [] := va_S.rf
  have hl := lv_entry ([.ref h_s, .ref h_o]) (n := 6) (Nat.le_of_ble_eq_true rfl)
  subst hAR
  rw [lg_entry_eq]
  generalize (lg_sl ([.ref h_s, .ref h_o]) ++ List.replicate (6 - (lg_sl ([.ref h_s, .ref h_o])).length) Slot.unset).toArray = ls at hl ⊢
  have hl : lv_has ls 6 [(0, .ref h_s), (1, .ref h_o)] := hl
  change W p l e ({ frames := 3, cells := 0, slots := 0, locals := 66 } : Room) s m _ below meth c s.heap [] 0 0 _ _
  generalize hARe : ([.ref h_s, .ref h_o] : List Value).toArray = AR at hts ⊢
  clear hARe
  generalize hQ : MQ below _ AR s 0 0 A = QQ
  have fl0 := hts _ (List.mem_cons_of_mem _ tw_40)
  have iw1 := (fun w hw => List.mem_cons_of_mem _ (in_St w hw) : ∀ w ∈ u_ws "BasisWalk$Study" T_St 7, w ∈ w_St_learnMembers)
  have fl2 := hts _ (List.mem_cons_of_mem _ tw_32)
  have fl3 := va_Nw.use (A := AR) rfl (hN _ tn_95)
  have iw4 := (fun w hw => List.mem_cons_of_mem _ (in_Or w hw) : ∀ w ∈ u_ws "BasisWalk$Order" T_Or 4, w ∈ w_St_learnMembers)
  have fl5 := hts _ (List.mem_cons_of_mem _ tw_39)
  obtain ⟨H, hHe⟩ : ∃ H : Heap, H = s.heap := ⟨_, rfl⟩
  rw [← hHe] at hP ⊢
  replace hS : va_S A s.heap H [] := by rw [hHe]; exact va_S.rf
  clear hHe
  unfold f_S_learnMembers at h
  refine lv_iconst (v := 0) hx hb d_St_learnMembers_0 (by decide) ?_
  refine lv_istore_n (lv' := [(2, .int 0), (0, .ref h_s), (1, .ref h_o)]) hx hb d_St_learnMembers_1 rfl hl (by decide) rfl (fun ls hl => ?_)
  refine lv_iconst (v := 0) hx hb d_St_learnMembers_2 (by decide) ?_
  refine lv_istore_n (lv' := [(3, .int 0), (2, .int 0), (0, .ref h_s), (1, .ref h_o)]) hx hb d_St_learnMembers_3 rfl hl (by decide) rfl (fun ls hl => ?_)
  refine lo4_W (r := r) (fun (v3_1 : Int32) (v2_2 : Int32) (w_3 : Nat → Int32) (w_4 : Nat → Int32) => ∀ (H : Heap) (locs : List Loc), va_P (dC, dI) cl_all [(h_s, .inr (2, [.int s_columnCount, .int s_fullRank, .ref h_s_ranks, .ref h_s_signs, .ref h_s_members, .ref h_s_starts, .ref h_s_defects])), (h_s_ranks, .inl (cI, s_ranks_n, .inl s_ranks)), (h_s_members, .inl (cI, s_members_n, .inl w_3)), (h_s_starts, .inl (cI, s_starts_n, .inl w_4)), (h_o, .inr (1, [.int o_columnCount, .ref h_o_sets, .ref h_o_starts, .ref h_o_nexts])), (h_o_sets, .inl (cI, o_sets_n, .inl o_sets))] H → va_D A [(h_s, .inr (2, [.int s_columnCount, .int s_fullRank, .ref h_s_ranks, .ref h_s_signs, .ref h_s_members, .ref h_s_starts, .ref h_s_defects])), (h_s_ranks, .inl (cI, s_ranks_n, .inl s_ranks)), (h_s_members, .inl (cI, s_members_n, .inl w_3)), (h_s_starts, .inl (cI, s_starts_n, .inl w_4)), (h_o, .inr (1, [.int o_columnCount, .ref h_o_sets, .ref h_o_starts, .ref h_o_nexts])), (h_o_sets, .inl (cI, o_sets_n, .inl o_sets))] → va_S A s.heap H locs → ∀ ls : Array Slot, lv_has ls 6 [(0, .ref h_s), (1, .ref h_o), (2, .int v2_2), (3, .int v3_1)] → W p l e ({ frames := 3, cells := 0, slots := 0, locals := 66 } : Room) s m AR below meth c H locs 0 0 QQ (F0 m 4 ls [])) ?_ _ _ _ _ _ h _ _ hP hD hS _ (lv_sub hl [2, 3, 1, 0] rfl)
  intro k_4 v3_1 v2_2 w_3 w_4 J_4 h H locs hP hD hS ls hl
  refine lv_iload_n hx hb d_St_learnMembers_4 rfl (lv_at hl 3 rfl) ?_
  refine lv_iconst (v := 4) hx hb d_St_learnMembers_5 (by decide) ?_
  refine lv_icmp_ge (tgt := 72) hx hb d_St_learnMembers_6 (by decide) (fun c_5 => ?_) (fun c_5 => ?_)
  · replace h := ck_if_t h c_5
    refine lv_aload_n hx hb d_St_learnMembers_72 rfl (lv_at hl 0 rfl) ?_
    refine va_get (D := (dC, dI)) (ci := 2) (v := .ref h_s_starts) (C := "BasisWalk$Study") (T := T_St) (N := 7) hx hb hts iw1 hown hK hP 0 rfl rfl 5 (by decide) fl0 (fun _ h9 => h9) rfl d_St_learnMembers_73 ?_
    refine lv_iconst (v := 4) hx hb d_St_learnMembers_76 (by decide) ?_
    refine lv_iload_n hx hb d_St_learnMembers_77 rfl (lv_at hl 2 rfl) ?_
    obtain ⟨g_6, h⟩ := ck_in_s h
    refine va_iast hx hb hK hP hD hS 3 0 rfl rfl g_6 d_St_learnMembers_78 (fun H locs hP hD hS => ?_)
    have hP : va_P (dC, dI) cl_all [(h_s, .inr (2, [.int s_columnCount, .int s_fullRank, .ref h_s_ranks, .ref h_s_signs, .ref h_s_members, .ref h_s_starts, .ref h_s_defects])), (h_s_ranks, .inl (cI, s_ranks_n, .inl s_ranks)), (h_s_members, .inl (cI, s_members_n, .inl w_3)), (h_s_starts, .inl (cI, s_starts_n, .inl (upd w_4 (4 : Int32).toNatClampNeg v2_2))), (h_o, .inr (1, [.int o_columnCount, .ref h_o_sets, .ref h_o_starts, .ref h_o_nexts])), (h_o_sets, .inl (cI, o_sets_n, .inl o_sets))] H := hP
    have hD : va_D A [(h_s, .inr (2, [.int s_columnCount, .int s_fullRank, .ref h_s_ranks, .ref h_s_signs, .ref h_s_members, .ref h_s_starts, .ref h_s_defects])), (h_s_ranks, .inl (cI, s_ranks_n, .inl s_ranks)), (h_s_members, .inl (cI, s_members_n, .inl w_3)), (h_s_starts, .inl (cI, s_starts_n, .inl (upd w_4 (4 : Int32).toNatClampNeg v2_2))), (h_o, .inr (1, [.int o_columnCount, .ref h_o_sets, .ref h_o_starts, .ref h_o_nexts])), (h_o_sets, .inl (cI, o_sets_n, .inl o_sets))] := hD
    obtain rfl := Option.some.inj h
    subst hQ
    exact W.vret hx hb hr (fun t ht hW => ⟨⟨(w_3, (upd w_4 (4 : Int32).toNatClampNeg v2_2)), rfl, rfl, by rw [ht]; exact hP, va_K.moved hW.alike hK, hD⟩, hS.F ht⟩) hS.2.2 d_St_learnMembers_79
  · replace h := ck_if_f h c_5
    refine lv_aload_n hx hb d_St_learnMembers_9 rfl (lv_at hl 0 rfl) ?_
    refine va_get (D := (dC, dI)) (ci := 2) (v := .ref h_s_starts) (C := "BasisWalk$Study") (T := T_St) (N := 7) hx hb hts iw1 hown hK hP 0 rfl rfl 5 (by decide) fl0 (fun _ h9 => h9) rfl d_St_learnMembers_10 ?_
    refine lv_iload_n hx hb d_St_learnMembers_13 rfl (lv_at hl 3 rfl) ?_
    refine lv_iload_n hx hb d_St_learnMembers_14 rfl (lv_at hl 2 rfl) ?_
    obtain ⟨g_7, h⟩ := ck_in_s h
    refine va_iast hx hb hK hP hD hS 3 0 rfl rfl g_7 d_St_learnMembers_15 (fun H locs hP hD hS => ?_)
    have hP : va_P (dC, dI) cl_all [(h_s, .inr (2, [.int s_columnCount, .int s_fullRank, .ref h_s_ranks, .ref h_s_signs, .ref h_s_members, .ref h_s_starts, .ref h_s_defects])), (h_s_ranks, .inl (cI, s_ranks_n, .inl s_ranks)), (h_s_members, .inl (cI, s_members_n, .inl w_3)), (h_s_starts, .inl (cI, s_starts_n, .inl (upd w_4 v3_1.toNatClampNeg v2_2))), (h_o, .inr (1, [.int o_columnCount, .ref h_o_sets, .ref h_o_starts, .ref h_o_nexts])), (h_o_sets, .inl (cI, o_sets_n, .inl o_sets))] H := hP
    have hD : va_D A [(h_s, .inr (2, [.int s_columnCount, .int s_fullRank, .ref h_s_ranks, .ref h_s_signs, .ref h_s_members, .ref h_s_starts, .ref h_s_defects])), (h_s_ranks, .inl (cI, s_ranks_n, .inl s_ranks)), (h_s_members, .inl (cI, s_members_n, .inl w_3)), (h_s_starts, .inl (cI, s_starts_n, .inl (upd w_4 v3_1.toNatClampNeg v2_2))), (h_o, .inr (1, [.int o_columnCount, .ref h_o_sets, .ref h_o_starts, .ref h_o_nexts])), (h_o_sets, .inl (cI, o_sets_n, .inl o_sets))] := hD
    refine lv_iconst (v := 0) hx hb d_St_learnMembers_16 (by decide) ?_
    refine lv_istore (lv' := [(4, .int 0), (0, .ref h_s), (1, .ref h_o), (2, .int v2_2), (3, .int v3_1)]) hx hb d_St_learnMembers_17 hl (by decide) rfl (fun ls hl => ?_)
    refine ck_jn_W h (fun k' => ∀ (v2_8 : Int32) (w_9 : Nat → Int32), k' v2_8 w_9 = some r → ∀ (H : Heap) (locs : List Loc), va_P (dC, dI) cl_all [(h_s, .inr (2, [.int s_columnCount, .int s_fullRank, .ref h_s_ranks, .ref h_s_signs, .ref h_s_members, .ref h_s_starts, .ref h_s_defects])), (h_s_ranks, .inl (cI, s_ranks_n, .inl s_ranks)), (h_s_members, .inl (cI, s_members_n, .inl w_9)), (h_s_starts, .inl (cI, s_starts_n, .inl (upd w_4 v3_1.toNatClampNeg v2_2))), (h_o, .inr (1, [.int o_columnCount, .ref h_o_sets, .ref h_o_starts, .ref h_o_nexts])), (h_o_sets, .inl (cI, o_sets_n, .inl o_sets))] H → va_D A [(h_s, .inr (2, [.int s_columnCount, .int s_fullRank, .ref h_s_ranks, .ref h_s_signs, .ref h_s_members, .ref h_s_starts, .ref h_s_defects])), (h_s_ranks, .inl (cI, s_ranks_n, .inl s_ranks)), (h_s_members, .inl (cI, s_members_n, .inl w_9)), (h_s_starts, .inl (cI, s_starts_n, .inl (upd w_4 v3_1.toNatClampNeg v2_2))), (h_o, .inr (1, [.int o_columnCount, .ref h_o_sets, .ref h_o_starts, .ref h_o_nexts])), (h_o_sets, .inl (cI, o_sets_n, .inl o_sets))] → va_S A s.heap H locs → ∀ ls : Array Slot, lv_has ls 6 [(0, .ref h_s), (1, .ref h_o), (2, .int v2_8), (3, .int v3_1)] → W p l e ({ frames := 3, cells := 0, slots := 0, locals := 66 } : Room) s m AR below meth c H locs 0 0 QQ (F0 m 66 ls [])) ?_ ?_
    · intro v2_8 w_9 h H locs hP hD hS ls hl
      obtain ⟨x_10, ex_10⟩ : ∃ y : Int32, y = v3_1 + 1 := ⟨_, rfl⟩
      replace h := ck_nm_s h ex_10
      refine lv_iinc (v := x_10) (lv' := [(3, .int x_10), (0, .ref h_s), (1, .ref h_o), (2, .int v2_8)]) hx hb d_St_learnMembers_66 hl (k := 3) rfl (by rw [ex_10]; rfl) (by decide) rfl (fun ls hl => ?_)
      refine lv_goto (tgt := 4) hx hb d_St_learnMembers_69 (by decide) ?_
      exact J_4 _ _ _ _ h _ _ hP hD hS _ (lv_sub hl [1, 2, 3, 0] rfl)
    · intro k_66 J_66 h
      refine lo3_W (r := r) (fun (v4_11 : Int32) (v2_12 : Int32) (w_13 : Nat → Int32) => ∀ (H : Heap) (locs : List Loc), va_P (dC, dI) cl_all [(h_s, .inr (2, [.int s_columnCount, .int s_fullRank, .ref h_s_ranks, .ref h_s_signs, .ref h_s_members, .ref h_s_starts, .ref h_s_defects])), (h_s_ranks, .inl (cI, s_ranks_n, .inl s_ranks)), (h_s_members, .inl (cI, s_members_n, .inl w_13)), (h_s_starts, .inl (cI, s_starts_n, .inl (upd w_4 v3_1.toNatClampNeg v2_2))), (h_o, .inr (1, [.int o_columnCount, .ref h_o_sets, .ref h_o_starts, .ref h_o_nexts])), (h_o_sets, .inl (cI, o_sets_n, .inl o_sets))] H → va_D A [(h_s, .inr (2, [.int s_columnCount, .int s_fullRank, .ref h_s_ranks, .ref h_s_signs, .ref h_s_members, .ref h_s_starts, .ref h_s_defects])), (h_s_ranks, .inl (cI, s_ranks_n, .inl s_ranks)), (h_s_members, .inl (cI, s_members_n, .inl w_13)), (h_s_starts, .inl (cI, s_starts_n, .inl (upd w_4 v3_1.toNatClampNeg v2_2))), (h_o, .inr (1, [.int o_columnCount, .ref h_o_sets, .ref h_o_starts, .ref h_o_nexts])), (h_o_sets, .inl (cI, o_sets_n, .inl o_sets))] → va_S A s.heap H locs → ∀ ls : Array Slot, lv_has ls 6 [(0, .ref h_s), (1, .ref h_o), (2, .int v2_12), (3, .int v3_1), (4, .int v4_11)] → W p l e ({ frames := 3, cells := 0, slots := 0, locals := 66 } : Room) s m AR below meth c H locs 0 0 QQ (F0 m 19 ls [])) ?_ _ _ _ _ h _ _ hP hD hS _ (lv_sub hl [1, 2, 3, 4, 0] rfl)
      intro k_19 v4_11 v2_12 w_13 J_19 h H locs hP hD hS ls hl
      refine lv_iload hx hb d_St_learnMembers_19 (lv_at hl 4 rfl) ?_
      refine lv_iconst (v := 1) hx hb d_St_learnMembers_21 (by decide) ?_
      refine lv_aload_n hx hb d_St_learnMembers_22 rfl (lv_at hl 0 rfl) ?_
      refine va_get (D := (dC, dI)) (ci := 2) (v := .int s_columnCount) (C := "BasisWalk$Study") (T := T_St) (N := 7) hx hb hts iw1 hown hK hP 0 rfl rfl 0 (by decide) fl2 (fun _ h9 => h9) rfl d_St_learnMembers_23 ?_
      refine lv_ishl hx hb d_St_learnMembers_26 ?_
      refine lv_icmp_ge (tgt := 66) hx hb d_St_learnMembers_27 (by decide) (fun c_14 => ?_) (fun c_14 => ?_)
      · replace h := ck_if_t h c_14
        exact J_66 _ _ h _ _ hP hD hS _ (lv_sub hl [0, 1, 2, 3] rfl)
      · replace h := ck_if_f h c_14
        refine lv_aload_n hx hb d_St_learnMembers_30 rfl (lv_at hl 1 rfl) ?_
        refine va_getN (D := (dC, dI)) (ci := 1) (v := .ref h_o_sets) (C := "BasisWalk$Order") (T := T_Or) (N := 4) hx hb hts iw4 hown hK hP 4 rfl rfl 1 (by decide) fl3 (fun _ h9 => h9) rfl d_St_learnMembers_31 ?_
        refine lv_iload hx hb d_St_learnMembers_34 (lv_at hl 4 rfl) ?_
        obtain ⟨g_15, h⟩ := ck_in_s h
        refine va_iald hx hb hK hP 5 0 rfl rfl g_15 d_St_learnMembers_36 ?_
        refine lv_topi (fun x_16 ex_16 => ?_)
        replace h := ck_nm_s h ex_16
        refine lv_istore (lv' := [(5, .int x_16), (0, .ref h_s), (1, .ref h_o), (2, .int v2_12), (3, .int v3_1), (4, .int v4_11)]) hx hb d_St_learnMembers_37 hl (by decide) rfl (fun ls hl => ?_)
        refine lv_aload_n hx hb d_St_learnMembers_39 rfl (lv_at hl 1 rfl) ?_
        refine lv_iload_n hx hb d_St_learnMembers_40 rfl (lv_at hl 4 rfl) ?_
        refine lv_iload hx hb d_St_learnMembers_41 (lv_at hl 0 rfl) ?_
        obtain ⟨r_17, hc_18, h⟩ := ck_b1_s h
        have hPc := hP.sub (ws' := [(h_s, .inr (2, [.int s_columnCount, .int s_fullRank, .ref h_s_ranks, .ref h_s_signs, .ref h_s_members, .ref h_s_starts, .ref h_s_defects])), (h_s_ranks, .inl (cI, s_ranks_n, .inl s_ranks))]) [0, 1] rfl
        have hDc := hD.sub (ws' := [(h_s, .inr (2, [.int s_columnCount, .int s_fullRank, .ref h_s_ranks, .ref h_s_signs, .ref h_s_members, .ref h_s_starts, .ref h_s_defects])), (h_s_ranks, .inl (cI, s_ranks_n, .inl s_ranks))]) [0, 1] (by decide) rfl
        have hFc := va_free (wc := [(h_s, .inr (2, [.int s_columnCount, .int s_fullRank, .ref h_s_ranks, .ref h_s_signs, .ref h_s_members, .ref h_s_starts, .ref h_s_defects])), (h_s_ranks, .inl (cI, s_ranks_n, .inl s_ranks))]) hD hS hA [0, 1] rfl
        refine va_calli (va_runV (As := [.int v3_1, .int x_16]) (rest := []) ⟨hx, hb, hml, hown, hts⟩ (c_S_isOfKind l dC dI cI cJ cB cZ cT cN H.size h_s h_s_ranks h_s_signs h_s_members h_s_starts h_s_defects s_columnCount s_fullRank s_ranks_n s_ranks v3_1 x_16 _ hc_18) (cwV 2 hts (tb_V tw_269 tw_271 tp_13 tw_3 tw_272) rfl rfl rfl (by decide +kernel) ⟨Nat.le_of_ble_eq_true rfl, Nat.le_of_ble_eq_true rfl⟩) ⟨fun a U g mk q => by obtain ⟨q0, q1, qP, qK, qN, qD⟩ := q; exact ⟨q0, q1, qP, va_K.moved (u := U) (U := U.calling g mk a) (Vm.Alike.refl U.vm) qK, qN.same rfl, qD⟩, va_recv hK hPc (ci := 2) (q0 := 0) rfl rfl, fun U hU hW => ⟨rfl, by rw [hU], by rw [hU]; exact hPc, va_K.moved hW.alike hK, hN.warm hW, hDc.weaken (fun _ _ _ _ => trivial)⟩⟩ rfl rfl hl.1 rfl (lv_room (Nat.le_of_ble_eq_true rfl)) d_St_learnMembers_43 ⟨Nat.zero_le _, Nat.zero_le _⟩) hS (fun q _ h => hFc q h) hFc (fun rr u t H1 locs ht hvm hw hB hz1 hk1 hS => ?_)
        replace hw := hw.symm
        subst hw
        obtain ⟨hP1, -, hD1⟩ := hB
        rw [ht] at hP1
        obtain ⟨hP, hD⟩ := va_join (wr := [(h_s_members, .inl (cI, s_members_n, .inl w_13)), (h_s_starts, .inl (cI, s_starts_n, .inl (upd w_4 v3_1.toNatClampNeg v2_2))), (h_o, .inr (1, [.int o_columnCount, .ref h_o_sets, .ref h_o_starts, .ref h_o_nexts])), (h_o_sets, .inl (cI, o_sets_n, .inl o_sets))]) (w1 := [(h_s, .inr (2, [.int s_columnCount, .int s_fullRank, .ref h_s_ranks, .ref h_s_signs, .ref h_s_members, .ref h_s_starts, .ref h_s_defects])), (h_s_ranks, .inl (cI, s_ranks_n, .inl s_ranks))]) hP hD [0, 1] [2, 3, 4, 5] rfl rfl (by decide) (by decide) hk1 hFc hP1 hD1
        generalize H1 = H at hP hS ⊢
        have hP : va_P (dC, dI) cl_all [(h_s, .inr (2, [.int s_columnCount, .int s_fullRank, .ref h_s_ranks, .ref h_s_signs, .ref h_s_members, .ref h_s_starts, .ref h_s_defects])), (h_s_ranks, .inl (cI, s_ranks_n, .inl s_ranks)), (h_s_members, .inl (cI, s_members_n, .inl w_13)), (h_s_starts, .inl (cI, s_starts_n, .inl (upd w_4 v3_1.toNatClampNeg v2_2))), (h_o, .inr (1, [.int o_columnCount, .ref h_o_sets, .ref h_o_starts, .ref h_o_nexts])), (h_o_sets, .inl (cI, o_sets_n, .inl o_sets))] H := hP.sub [4, 5, 0, 1, 2, 3] rfl
        have hD : va_D A [(h_s, .inr (2, [.int s_columnCount, .int s_fullRank, .ref h_s_ranks, .ref h_s_signs, .ref h_s_members, .ref h_s_starts, .ref h_s_defects])), (h_s_ranks, .inl (cI, s_ranks_n, .inl s_ranks)), (h_s_members, .inl (cI, s_members_n, .inl w_13)), (h_s_starts, .inl (cI, s_starts_n, .inl (upd w_4 v3_1.toNatClampNeg v2_2))), (h_o, .inr (1, [.int o_columnCount, .ref h_o_sets, .ref h_o_starts, .ref h_o_nexts])), (h_o_sets, .inl (cI, o_sets_n, .inl o_sets))] := hD.sub [4, 5, 0, 1, 2, 3] (by decide) rfl
        refine ck_jn_W h (fun k' => ∀ (v2_19 : Int32) (w_20 : Nat → Int32), k' v2_19 w_20 = some r → ∀ (H : Heap) (locs : List Loc), va_P (dC, dI) cl_all [(h_s, .inr (2, [.int s_columnCount, .int s_fullRank, .ref h_s_ranks, .ref h_s_signs, .ref h_s_members, .ref h_s_starts, .ref h_s_defects])), (h_s_ranks, .inl (cI, s_ranks_n, .inl s_ranks)), (h_s_members, .inl (cI, s_members_n, .inl w_20)), (h_s_starts, .inl (cI, s_starts_n, .inl (upd w_4 v3_1.toNatClampNeg v2_2))), (h_o, .inr (1, [.int o_columnCount, .ref h_o_sets, .ref h_o_starts, .ref h_o_nexts])), (h_o_sets, .inl (cI, o_sets_n, .inl o_sets))] H → va_D A [(h_s, .inr (2, [.int s_columnCount, .int s_fullRank, .ref h_s_ranks, .ref h_s_signs, .ref h_s_members, .ref h_s_starts, .ref h_s_defects])), (h_s_ranks, .inl (cI, s_ranks_n, .inl s_ranks)), (h_s_members, .inl (cI, s_members_n, .inl w_20)), (h_s_starts, .inl (cI, s_starts_n, .inl (upd w_4 v3_1.toNatClampNeg v2_2))), (h_o, .inr (1, [.int o_columnCount, .ref h_o_sets, .ref h_o_starts, .ref h_o_nexts])), (h_o_sets, .inl (cI, o_sets_n, .inl o_sets))] → va_S A s.heap H locs → ∀ ls : Array Slot, lv_has ls 6 [(0, .ref h_s), (1, .ref h_o), (2, .int v2_19), (3, .int v3_1), (4, .int v4_11)] → W p l e ({ frames := 3, cells := 0, slots := 0, locals := 66 } : Room) s m AR below meth c H locs 0 0 QQ (F0 m 60 ls [])) ?_ ?_
        · intro v2_19 w_20 h H locs hP hD hS ls hl
          obtain ⟨x_21, ex_21⟩ : ∃ y : Int32, y = v4_11 + 1 := ⟨_, rfl⟩
          replace h := ck_nm_s h ex_21
          refine lv_iinc (v := x_21) (lv' := [(4, .int x_21), (0, .ref h_s), (1, .ref h_o), (2, .int v2_19), (3, .int v3_1)]) hx hb d_St_learnMembers_60 hl (k := 4) rfl (by rw [ex_21]; rfl) (by decide) rfl (fun ls hl => ?_)
          refine lv_goto (tgt := 19) hx hb d_St_learnMembers_63 (by decide) ?_
          exact J_19 _ _ _ h _ _ hP hD hS _ (lv_sub hl [1, 2, 3, 4, 0] rfl)
        · intro k_60 J_60 h
          refine lv_if_eq (tgt := 60) hx hb d_St_learnMembers_46 (by decide) (fun c_22 => ?_) (fun c_22 => ?_)
          · replace h := ck_if_t h c_22
            exact J_60 _ _ h _ _ hP hD hS _ (lv_sub hl [1, 2, 3, 4, 5] rfl)
          · replace h := ck_if_f h c_22
            refine lv_aload_n hx hb d_St_learnMembers_49 rfl (lv_at hl 1 rfl) ?_
            refine va_get (D := (dC, dI)) (ci := 2) (v := .ref h_s_members) (C := "BasisWalk$Study") (T := T_St) (N := 7) hx hb hts iw1 hown hK hP 0 rfl rfl 4 (by decide) fl5 (fun _ h9 => h9) rfl d_St_learnMembers_50 ?_
            refine lv_iload_n hx hb d_St_learnMembers_53 rfl (lv_at hl 3 rfl) ?_
            refine lv_iload hx hb d_St_learnMembers_54 (lv_at hl 0 rfl) ?_
            obtain ⟨g_23, h⟩ := ck_in_s h
            refine va_iast hx hb hK hP hD hS 2 0 rfl rfl g_23 d_St_learnMembers_56 (fun H locs hP hD hS => ?_)
            have hP : va_P (dC, dI) cl_all [(h_s, .inr (2, [.int s_columnCount, .int s_fullRank, .ref h_s_ranks, .ref h_s_signs, .ref h_s_members, .ref h_s_starts, .ref h_s_defects])), (h_s_ranks, .inl (cI, s_ranks_n, .inl s_ranks)), (h_s_members, .inl (cI, s_members_n, .inl (upd w_13 v2_12.toNatClampNeg x_16))), (h_s_starts, .inl (cI, s_starts_n, .inl (upd w_4 v3_1.toNatClampNeg v2_2))), (h_o, .inr (1, [.int o_columnCount, .ref h_o_sets, .ref h_o_starts, .ref h_o_nexts])), (h_o_sets, .inl (cI, o_sets_n, .inl o_sets))] H := hP
            have hD : va_D A [(h_s, .inr (2, [.int s_columnCount, .int s_fullRank, .ref h_s_ranks, .ref h_s_signs, .ref h_s_members, .ref h_s_starts, .ref h_s_defects])), (h_s_ranks, .inl (cI, s_ranks_n, .inl s_ranks)), (h_s_members, .inl (cI, s_members_n, .inl (upd w_13 v2_12.toNatClampNeg x_16))), (h_s_starts, .inl (cI, s_starts_n, .inl (upd w_4 v3_1.toNatClampNeg v2_2))), (h_o, .inr (1, [.int o_columnCount, .ref h_o_sets, .ref h_o_starts, .ref h_o_nexts])), (h_o_sets, .inl (cI, o_sets_n, .inl o_sets))] := hD
            obtain ⟨x_24, ex_24⟩ : ∃ y : Int32, y = v2_12 + 1 := ⟨_, rfl⟩
            replace h := ck_nm_s h ex_24
            refine lv_iinc (v := x_24) (lv' := [(2, .int x_24), (5, .int x_16), (0, .ref h_s), (1, .ref h_o), (3, .int v3_1), (4, .int v4_11)]) hx hb d_St_learnMembers_57 hl (k := 3) rfl (by rw [ex_24]; rfl) (by decide) rfl (fun ls hl => ?_)
            exact J_60 _ _ h _ _ hP hD hS _ (lv_sub hl [2, 3, 0, 4, 5] rfl)
end
