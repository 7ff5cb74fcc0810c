section
-- ===== PART A: goes FIRST, ahead of the names: the tables' words, and 'selects' of the private methods out of them =====
/-- a private method of a class that the tables say can be made, by its rows of tables_1 -/
def lw_okq (q : MethodName × Nat) : Prop := (q.1.cls ≠ "java/lang/invoke/MethodHandle" ∧ q.1.cls ≠ "java/lang/invoke/VarHandle") ∧ Cond.instantiable q.1.cls q.2 ∈ tables_1 ∧ Cond.privateMethod q.1 ∈ tables_1 ∧ Cond.instanceMethod q.1 ∈ tables_1
theorem lw_p0 : lw_okq (⟨"SignBench$Draft", "clear", "(II)V"⟩, 3) := ⟨⟨by decide +kernel, by decide +kernel⟩, List.mem_of_getElem? (i := 40) (by decide +kernel), List.mem_of_getElem? (i := 164) (by decide +kernel), List.mem_of_getElem? (i := 165) (by decide +kernel)⟩
theorem lw_p1 : lw_okq (⟨"SignBench$Draft", "has", "(II)Z"⟩, 3) := ⟨⟨by decide +kernel, by decide +kernel⟩, List.mem_of_getElem? (i := 40) (by decide +kernel), List.mem_of_getElem? (i := 172) (by decide +kernel), List.mem_of_getElem? (i := 173) (by decide +kernel)⟩
theorem lw_p2 : lw_okq (⟨"SignBench$Draft", "write", "(III)V"⟩, 3) := ⟨⟨by decide +kernel, by decide +kernel⟩, List.mem_of_getElem? (i := 40) (by decide +kernel), List.mem_of_getElem? (i := 177) (by decide +kernel), List.mem_of_getElem? (i := 178) (by decide +kernel)⟩
theorem lw_p3 : lw_okq (⟨"SignBench$Draft", "firstFault", "()I"⟩, 3) := ⟨⟨by decide +kernel, by decide +kernel⟩, List.mem_of_getElem? (i := 40) (by decide +kernel), List.mem_of_getElem? (i := 185) (by decide +kernel), List.mem_of_getElem? (i := 186) (by decide +kernel)⟩
theorem lw_p4 : lw_okq (⟨"SignBench$Draft", "firstLineFault", "()I"⟩, 3) := ⟨⟨by decide +kernel, by decide +kernel⟩, List.mem_of_getElem? (i := 40) (by decide +kernel), List.mem_of_getElem? (i := 189) (by decide +kernel), List.mem_of_getElem? (i := 190) (by decide +kernel)⟩
theorem lw_p5 : lw_okq (⟨"SignBench$Draft", "alternates", "(II)Z"⟩, 3) := ⟨⟨by decide +kernel, by decide +kernel⟩, List.mem_of_getElem? (i := 40) (by decide +kernel), List.mem_of_getElem? (i := 193) (by decide +kernel), List.mem_of_getElem? (i := 194) (by decide +kernel)⟩
theorem lw_p6 : lw_okq (⟨"SignBench$Draft", "firstCellFault", "()I"⟩, 3) := ⟨⟨by decide +kernel, by decide +kernel⟩, List.mem_of_getElem? (i := 40) (by decide +kernel), List.mem_of_getElem? (i := 197) (by decide +kernel), List.mem_of_getElem? (i := 198) (by decide +kernel)⟩
theorem lw_p7 : lw_okq (⟨"SignBench$Draft", "isCornerSum", "(II)Z"⟩, 3) := ⟨⟨by decide +kernel, by decide +kernel⟩, List.mem_of_getElem? (i := 40) (by decide +kernel), List.mem_of_getElem? (i := 202) (by decide +kernel), List.mem_of_getElem? (i := 203) (by decide +kernel)⟩
theorem lw_p8 : lw_okq (⟨"SignBench$Draft", "cell", "(II)I"⟩, 3) := ⟨⟨by decide +kernel, by decide +kernel⟩, List.mem_of_getElem? (i := 40) (by decide +kernel), List.mem_of_getElem? (i := 206) (by decide +kernel), List.mem_of_getElem? (i := 207) (by decide +kernel)⟩
theorem lw_p9 : lw_okq (⟨"SignBench$Draft", "isColumn", "(II)Z"⟩, 3) := ⟨⟨by decide +kernel, by decide +kernel⟩, List.mem_of_getElem? (i := 40) (by decide +kernel), List.mem_of_getElem? (i := 213) (by decide +kernel), List.mem_of_getElem? (i := 214) (by decide +kernel)⟩
theorem lw_p10 : lw_okq (⟨"SignBench", "tableOf", "(I)LSignBench$Table;"⟩, 6) := ⟨⟨by decide +kernel, by decide +kernel⟩, List.mem_of_getElem? (i := 13) (by decide +kernel), List.mem_of_getElem? (i := 221) (by decide +kernel), List.mem_of_getElem? (i := 222) (by decide +kernel)⟩
theorem lw_p11 : lw_okq (⟨"SignBench$Draft", "copyTo", "(LSignBench$Table;)V"⟩, 3) := ⟨⟨by decide +kernel, by decide +kernel⟩, List.mem_of_getElem? (i := 40) (by decide +kernel), List.mem_of_getElem? (i := 225) (by decide +kernel), List.mem_of_getElem? (i := 226) (by decide +kernel)⟩
theorem lw_p12 : lw_okq (⟨"SignBench$Draft", "triangleBits", "(II)I"⟩, 3) := ⟨⟨by decide +kernel, by decide +kernel⟩, List.mem_of_getElem? (i := 40) (by decide +kernel), List.mem_of_getElem? (i := 229) (by decide +kernel), List.mem_of_getElem? (i := 230) (by decide +kernel)⟩
theorem lw_p13 : lw_okq (⟨"SignBench$Table", "layRow", "(II)V"⟩, 2) := ⟨⟨by decide +kernel, by decide +kernel⟩, List.mem_of_getElem? (i := 22) (by decide +kernel), List.mem_of_getElem? (i := 233) (by decide +kernel), List.mem_of_getElem? (i := 234) (by decide +kernel)⟩
theorem lw_p14 : lw_okq (⟨"SignBench$Table", "entry", "(II)I"⟩, 2) := ⟨⟨by decide +kernel, by decide +kernel⟩, List.mem_of_getElem? (i := 22) (by decide +kernel), List.mem_of_getElem? (i := 245) (by decide +kernel), List.mem_of_getElem? (i := 246) (by decide +kernel)⟩
theorem lw_p15 : lw_okq (⟨"SignBench$Table", "edgeSum", "(ZII)I"⟩, 2) := ⟨⟨by decide +kernel, by decide +kernel⟩, List.mem_of_getElem? (i := 22) (by decide +kernel), List.mem_of_getElem? (i := 249) (by decide +kernel), List.mem_of_getElem? (i := 250) (by decide +kernel)⟩
def lw_privs_1 : List (MethodName × Nat) := [(⟨"SignBench$Draft", "clear", "(II)V"⟩, 3), (⟨"SignBench$Draft", "has", "(II)Z"⟩, 3), (⟨"SignBench$Draft", "write", "(III)V"⟩, 3), (⟨"SignBench$Draft", "firstFault", "()I"⟩, 3), (⟨"SignBench$Draft", "firstLineFault", "()I"⟩, 3), (⟨"SignBench$Draft", "alternates", "(II)Z"⟩, 3), (⟨"SignBench$Draft", "firstCellFault", "()I"⟩, 3), (⟨"SignBench$Draft", "isCornerSum", "(II)Z"⟩, 3), (⟨"SignBench$Draft", "cell", "(II)I"⟩, 3), (⟨"SignBench$Draft", "isColumn", "(II)Z"⟩, 3), (⟨"SignBench", "tableOf", "(I)LSignBench$Table;"⟩, 6), (⟨"SignBench$Draft", "copyTo", "(LSignBench$Table;)V"⟩, 3), (⟨"SignBench$Draft", "triangleBits", "(II)I"⟩, 3), (⟨"SignBench$Table", "layRow", "(II)V"⟩, 2), (⟨"SignBench$Table", "entry", "(II)I"⟩, 2), (⟨"SignBench$Table", "edgeSum", "(ZII)I"⟩, 2)]
theorem lw_r1 : ∀ q ∈ lw_privs_1, lw_okq q := List.forall_mem_cons.mpr ⟨lw_p0, List.forall_mem_cons.mpr ⟨lw_p1, List.forall_mem_cons.mpr ⟨lw_p2, List.forall_mem_cons.mpr ⟨lw_p3, List.forall_mem_cons.mpr ⟨lw_p4, List.forall_mem_cons.mpr ⟨lw_p5, List.forall_mem_cons.mpr ⟨lw_p6, List.forall_mem_cons.mpr ⟨lw_p7, List.forall_mem_cons.mpr ⟨lw_p8, List.forall_mem_cons.mpr ⟨lw_p9, List.forall_mem_cons.mpr ⟨lw_p10, List.forall_mem_cons.mpr ⟨lw_p11, List.forall_mem_cons.mpr ⟨lw_p12, List.forall_mem_cons.mpr ⟨lw_p13, List.forall_mem_cons.mpr ⟨lw_p14, List.forall_mem_cons.mpr ⟨lw_p15, fun _ h => absurd h List.not_mem_nil⟩⟩⟩⟩⟩⟩⟩⟩⟩⟩⟩⟩⟩⟩⟩⟩
theorem lw_p16 : lw_okq (⟨"SignBench$Table", "corner", "(II)I"⟩, 2) := ⟨⟨by decide +kernel, by decide +kernel⟩, List.mem_of_getElem? (i := 22) (by decide +kernel), List.mem_of_getElem? (i := 253) (by decide +kernel), List.mem_of_getElem? (i := 254) (by decide +kernel)⟩
theorem lw_p17 : lw_okq (⟨"SignBench$Table", "triangleColumn", "(II)I"⟩, 2) := ⟨⟨by decide +kernel, by decide +kernel⟩, List.mem_of_getElem? (i := 22) (by decide +kernel), List.mem_of_getElem? (i := 266) (by decide +kernel), List.mem_of_getElem? (i := 267) (by decide +kernel)⟩
theorem lw_p18 : lw_okq (⟨"SignBench$Table", "hasEdge", "(ZII)Z"⟩, 2) := ⟨⟨by decide +kernel, by decide +kernel⟩, List.mem_of_getElem? (i := 22) (by decide +kernel), List.mem_of_getElem? (i := 274) (by decide +kernel), List.mem_of_getElem? (i := 275) (by decide +kernel)⟩
theorem lw_p19 : lw_okq (⟨"SignBench$Table", "holds", "(ZII)Z"⟩, 2) := ⟨⟨by decide +kernel, by decide +kernel⟩, List.mem_of_getElem? (i := 22) (by decide +kernel), List.mem_of_getElem? (i := 284) (by decide +kernel), List.mem_of_getElem? (i := 285) (by decide +kernel)⟩
theorem lw_p20 : lw_okq (⟨"SignBench$Loops", "otherEnd", "(LSignBench$Table;I)I"⟩, 5) := ⟨⟨by decide +kernel, by decide +kernel⟩, List.mem_of_getElem? (i := 100) (by decide +kernel), List.mem_of_getElem? (i := 292) (by decide +kernel), List.mem_of_getElem? (i := 293) (by decide +kernel)⟩
theorem lw_p21 : lw_okq (⟨"SignBench$Loops", "goToEnd", "(II)V"⟩, 5) := ⟨⟨by decide +kernel, by decide +kernel⟩, List.mem_of_getElem? (i := 100) (by decide +kernel), List.mem_of_getElem? (i := 296) (by decide +kernel), List.mem_of_getElem? (i := 297) (by decide +kernel)⟩
theorem lw_p22 : lw_okq (⟨"SignBench$Loops", "follow", "(LSignBench$Table;)Z"⟩, 5) := ⟨⟨by decide +kernel, by decide +kernel⟩, List.mem_of_getElem? (i := 100) (by decide +kernel), List.mem_of_getElem? (i := 300) (by decide +kernel), List.mem_of_getElem? (i := 301) (by decide +kernel)⟩
theorem lw_p23 : lw_okq (⟨"SignBench$Loops", "isSeen", "(II)Z"⟩, 5) := ⟨⟨by decide +kernel, by decide +kernel⟩, List.mem_of_getElem? (i := 100) (by decide +kernel), List.mem_of_getElem? (i := 304) (by decide +kernel), List.mem_of_getElem? (i := 305) (by decide +kernel)⟩
theorem lw_p24 : lw_okq (⟨"SignBench$Loops", "nextHeldSide", "(LSignBench$Table;I)I"⟩, 5) := ⟨⟨by decide +kernel, by decide +kernel⟩, List.mem_of_getElem? (i := 100) (by decide +kernel), List.mem_of_getElem? (i := 308) (by decide +kernel), List.mem_of_getElem? (i := 309) (by decide +kernel)⟩
theorem lw_p25 : lw_okq (⟨"SignBench$Loops", "holdsSide", "(LSignBench$Table;I)Z"⟩, 5) := ⟨⟨by decide +kernel, by decide +kernel⟩, List.mem_of_getElem? (i := 100) (by decide +kernel), List.mem_of_getElem? (i := 312) (by decide +kernel), List.mem_of_getElem? (i := 313) (by decide +kernel)⟩
theorem lw_p26 : lw_okq (⟨"SignBench$Loops", "endHere", "(I)I"⟩, 5) := ⟨⟨by decide +kernel, by decide +kernel⟩, List.mem_of_getElem? (i := 100) (by decide +kernel), List.mem_of_getElem? (i := 322) (by decide +kernel), List.mem_of_getElem? (i := 323) (by decide +kernel)⟩
theorem lw_p27 : lw_okq (⟨"SignBench$Loops", "ringsOf", "(LSignBench$Table;)I"⟩, 5) := ⟨⟨by decide +kernel, by decide +kernel⟩, List.mem_of_getElem? (i := 100) (by decide +kernel), List.mem_of_getElem? (i := 330) (by decide +kernel), List.mem_of_getElem? (i := 331) (by decide +kernel)⟩
theorem lw_p28 : lw_okq (⟨"SignBench$Loops", "goRound", "(LSignBench$Table;II)V"⟩, 5) := ⟨⟨by decide +kernel, by decide +kernel⟩, List.mem_of_getElem? (i := 100) (by decide +kernel), List.mem_of_getElem? (i := 334) (by decide +kernel), List.mem_of_getElem? (i := 335) (by decide +kernel)⟩
theorem lw_p29 : lw_okq (⟨"SignBench$Table", "kindOf", "()I"⟩, 2) := ⟨⟨by decide +kernel, by decide +kernel⟩, List.mem_of_getElem? (i := 22) (by decide +kernel), List.mem_of_getElem? (i := 342) (by decide +kernel), List.mem_of_getElem? (i := 343) (by decide +kernel)⟩
theorem lw_p30 : lw_okq (⟨"SignBench$Table", "minusOnes", "()I"⟩, 2) := ⟨⟨by decide +kernel, by decide +kernel⟩, List.mem_of_getElem? (i := 22) (by decide +kernel), List.mem_of_getElem? (i := 346) (by decide +kernel), List.mem_of_getElem? (i := 347) (by decide +kernel)⟩
theorem lw_p31 : lw_okq (⟨"SignBench$Table", "staysWhen", "(I)Z"⟩, 2) := ⟨⟨by decide +kernel, by decide +kernel⟩, List.mem_of_getElem? (i := 22) (by decide +kernel), List.mem_of_getElem? (i := 351) (by decide +kernel), List.mem_of_getElem? (i := 352) (by decide +kernel)⟩
def lw_privs_2 : List (MethodName × Nat) := [(⟨"SignBench$Table", "corner", "(II)I"⟩, 2), (⟨"SignBench$Table", "triangleColumn", "(II)I"⟩, 2), (⟨"SignBench$Table", "hasEdge", "(ZII)Z"⟩, 2), (⟨"SignBench$Table", "holds", "(ZII)Z"⟩, 2), (⟨"SignBench$Loops", "otherEnd", "(LSignBench$Table;I)I"⟩, 5), (⟨"SignBench$Loops", "goToEnd", "(II)V"⟩, 5), (⟨"SignBench$Loops", "follow", "(LSignBench$Table;)Z"⟩, 5), (⟨"SignBench$Loops", "isSeen", "(II)Z"⟩, 5), (⟨"SignBench$Loops", "nextHeldSide", "(LSignBench$Table;I)I"⟩, 5), (⟨"SignBench$Loops", "holdsSide", "(LSignBench$Table;I)Z"⟩, 5), (⟨"SignBench$Loops", "endHere", "(I)I"⟩, 5), (⟨"SignBench$Loops", "ringsOf", "(LSignBench$Table;)I"⟩, 5), (⟨"SignBench$Loops", "goRound", "(LSignBench$Table;II)V"⟩, 5), (⟨"SignBench$Table", "kindOf", "()I"⟩, 2), (⟨"SignBench$Table", "minusOnes", "()I"⟩, 2), (⟨"SignBench$Table", "staysWhen", "(I)Z"⟩, 2)]
theorem lw_r2 : ∀ q ∈ lw_privs_2, lw_okq q := List.forall_mem_cons.mpr ⟨lw_p16, List.forall_mem_cons.mpr ⟨lw_p17, List.forall_mem_cons.mpr ⟨lw_p18, List.forall_mem_cons.mpr ⟨lw_p19, List.forall_mem_cons.mpr ⟨lw_p20, List.forall_mem_cons.mpr ⟨lw_p21, List.forall_mem_cons.mpr ⟨lw_p22, List.forall_mem_cons.mpr ⟨lw_p23, List.forall_mem_cons.mpr ⟨lw_p24, List.forall_mem_cons.mpr ⟨lw_p25, List.forall_mem_cons.mpr ⟨lw_p26, List.forall_mem_cons.mpr ⟨lw_p27, List.forall_mem_cons.mpr ⟨lw_p28, List.forall_mem_cons.mpr ⟨lw_p29, List.forall_mem_cons.mpr ⟨lw_p30, List.forall_mem_cons.mpr ⟨lw_p31, fun _ h => absurd h List.not_mem_nil⟩⟩⟩⟩⟩⟩⟩⟩⟩⟩⟩⟩⟩⟩⟩⟩
theorem lw_p32 : lw_okq (⟨"SignBench$Table", "movedEntry", "(III)I"⟩, 2) := ⟨⟨by decide +kernel, by decide +kernel⟩, List.mem_of_getElem? (i := 22) (by decide +kernel), List.mem_of_getElem? (i := 355) (by decide +kernel), List.mem_of_getElem? (i := 356) (by decide +kernel)⟩
theorem lw_p33 : lw_okq (⟨"SignBench$Numbering", "numberOf", "(LSignBench$Table;)J"⟩, 3) := ⟨⟨by decide +kernel, by decide +kernel⟩, List.mem_of_getElem? (i := 56) (by decide +kernel), List.mem_of_getElem? (i := 386) (by decide +kernel), List.mem_of_getElem? (i := 387) (by decide +kernel)⟩
theorem lw_p34 : lw_okq (⟨"SignBench$Numbering", "learnWays", "(I)V"⟩, 3) := ⟨⟨by decide +kernel, by decide +kernel⟩, List.mem_of_getElem? (i := 56) (by decide +kernel), List.mem_of_getElem? (i := 390) (by decide +kernel), List.mem_of_getElem? (i := 391) (by decide +kernel)⟩
theorem lw_p35 : lw_okq (⟨"SignBench$Numbering", "waysBefore", "(III)J"⟩, 3) := ⟨⟨by decide +kernel, by decide +kernel⟩, List.mem_of_getElem? (i := 56) (by decide +kernel), List.mem_of_getElem? (i := 394) (by decide +kernel), List.mem_of_getElem? (i := 395) (by decide +kernel)⟩
theorem lw_p36 : lw_okq (⟨"SignBench$RowWalk", "start", "(II)V"⟩, 6) := ⟨⟨by decide +kernel, by decide +kernel⟩, List.mem_of_getElem? (i := 62) (by decide +kernel), List.mem_of_getElem? (i := 398) (by decide +kernel), List.mem_of_getElem? (i := 399) (by decide +kernel)⟩
theorem lw_p37 : lw_okq (⟨"SignBench$RowWalk", "layFrom", "(II)V"⟩, 6) := ⟨⟨by decide +kernel, by decide +kernel⟩, List.mem_of_getElem? (i := 62) (by decide +kernel), List.mem_of_getElem? (i := 405) (by decide +kernel), List.mem_of_getElem? (i := 406) (by decide +kernel)⟩
theorem lw_p38 : lw_okq (⟨"SignBench$RowWalk", "bitOf", "(I)I"⟩, 6) := ⟨⟨by decide +kernel, by decide +kernel⟩, List.mem_of_getElem? (i := 62) (by decide +kernel), List.mem_of_getElem? (i := 412) (by decide +kernel), List.mem_of_getElem? (i := 413) (by decide +kernel)⟩
theorem lw_p39 : lw_okq (⟨"SignBench$RowWalk", "advance", "()Z"⟩, 6) := ⟨⟨by decide +kernel, by decide +kernel⟩, List.mem_of_getElem? (i := 62) (by decide +kernel), List.mem_of_getElem? (i := 416) (by decide +kernel), List.mem_of_getElem? (i := 417) (by decide +kernel)⟩
theorem lw_p40 : lw_okq (⟨"SignBench$Table", "rowBits", "(I)I"⟩, 2) := ⟨⟨by decide +kernel, by decide +kernel⟩, List.mem_of_getElem? (i := 22) (by decide +kernel), List.mem_of_getElem? (i := 420) (by decide +kernel), List.mem_of_getElem? (i := 421) (by decide +kernel)⟩
theorem lw_p41 : lw_okq (⟨"SignBench$Numbering", "build", "(LSignBench$Table;IJ)V"⟩, 3) := ⟨⟨by decide +kernel, by decide +kernel⟩, List.mem_of_getElem? (i := 56) (by decide +kernel), List.mem_of_getElem? (i := 428) (by decide +kernel), List.mem_of_getElem? (i := 429) (by decide +kernel)⟩
theorem lw_p42 : lw_okq (⟨"SignBench$Numbering", "passWays", "(IJ)J"⟩, 3) := ⟨⟨by decide +kernel, by decide +kernel⟩, List.mem_of_getElem? (i := 56) (by decide +kernel), List.mem_of_getElem? (i := 432) (by decide +kernel), List.mem_of_getElem? (i := 433) (by decide +kernel)⟩
theorem lw_p43 : lw_okq (⟨"SignBench", "areOfOneSize", "(II)Z"⟩, 6) := ⟨⟨by decide +kernel, by decide +kernel⟩, List.mem_of_getElem? (i := 13) (by decide +kernel), List.mem_of_getElem? (i := 451) (by decide +kernel), List.mem_of_getElem? (i := 452) (by decide +kernel)⟩
theorem lw_p44 : lw_okq (⟨"SignBench$Table", "becomeExtreme", "(LSignBench$Table;LSignBench$Table;Z)V"⟩, 2) := ⟨⟨by decide +kernel, by decide +kernel⟩, List.mem_of_getElem? (i := 22) (by decide +kernel), List.mem_of_getElem? (i := 455) (by decide +kernel), List.mem_of_getElem? (i := 456) (by decide +kernel)⟩
theorem lw_p45 : lw_okq (⟨"SignBench$Table", "isBelow", "(LSignBench$Table;)Z"⟩, 2) := ⟨⟨by decide +kernel, by decide +kernel⟩, List.mem_of_getElem? (i := 22) (by decide +kernel), List.mem_of_getElem? (i := 469) (by decide +kernel), List.mem_of_getElem? (i := 470) (by decide +kernel)⟩
theorem lw_p46 : lw_okq (⟨"SignBench$Table", "stepsTo", "(LSignBench$Table;)I"⟩, 2) := ⟨⟨by decide +kernel, by decide +kernel⟩, List.mem_of_getElem? (i := 22) (by decide +kernel), List.mem_of_getElem? (i := 477) (by decide +kernel), List.mem_of_getElem? (i := 478) (by decide +kernel)⟩
theorem lw_p47 : lw_okq (⟨"SignBench$Table", "shift", "(III)Z"⟩, 2) := ⟨⟨by decide +kernel, by decide +kernel⟩, List.mem_of_getElem? (i := 22) (by decide +kernel), List.mem_of_getElem? (i := 488) (by decide +kernel), List.mem_of_getElem? (i := 489) (by decide +kernel)⟩
def lw_privs_3 : List (MethodName × Nat) := [(⟨"SignBench$Table", "movedEntry", "(III)I"⟩, 2), (⟨"SignBench$Numbering", "numberOf", "(LSignBench$Table;)J"⟩, 3), (⟨"SignBench$Numbering", "learnWays", "(I)V"⟩, 3), (⟨"SignBench$Numbering", "waysBefore", "(III)J"⟩, 3), (⟨"SignBench$RowWalk", "start", "(II)V"⟩, 6), (⟨"SignBench$RowWalk", "layFrom", "(II)V"⟩, 6), (⟨"SignBench$RowWalk", "bitOf", "(I)I"⟩, 6), (⟨"SignBench$RowWalk", "advance", "()Z"⟩, 6), (⟨"SignBench$Table", "rowBits", "(I)I"⟩, 2), (⟨"SignBench$Numbering", "build", "(LSignBench$Table;IJ)V"⟩, 3), (⟨"SignBench$Numbering", "passWays", "(IJ)J"⟩, 3), (⟨"SignBench", "areOfOneSize", "(II)Z"⟩, 6), (⟨"SignBench$Table", "becomeExtreme", "(LSignBench$Table;LSignBench$Table;Z)V"⟩, 2), (⟨"SignBench$Table", "isBelow", "(LSignBench$Table;)Z"⟩, 2), (⟨"SignBench$Table", "stepsTo", "(LSignBench$Table;)I"⟩, 2), (⟨"SignBench$Table", "shift", "(III)Z"⟩, 2)]
theorem lw_r3 : ∀ q ∈ lw_privs_3, lw_okq q := List.forall_mem_cons.mpr ⟨lw_p32, List.forall_mem_cons.mpr ⟨lw_p33, List.forall_mem_cons.mpr ⟨lw_p34, List.forall_mem_cons.mpr ⟨lw_p35, List.forall_mem_cons.mpr ⟨lw_p36, List.forall_mem_cons.mpr ⟨lw_p37, List.forall_mem_cons.mpr ⟨lw_p38, List.forall_mem_cons.mpr ⟨lw_p39, List.forall_mem_cons.mpr ⟨lw_p40, List.forall_mem_cons.mpr ⟨lw_p41, List.forall_mem_cons.mpr ⟨lw_p42, List.forall_mem_cons.mpr ⟨lw_p43, List.forall_mem_cons.mpr ⟨lw_p44, List.forall_mem_cons.mpr ⟨lw_p45, List.forall_mem_cons.mpr ⟨lw_p46, List.forall_mem_cons.mpr ⟨lw_p47, fun _ h => absurd h List.not_mem_nil⟩⟩⟩⟩⟩⟩⟩⟩⟩⟩⟩⟩⟩⟩⟩⟩
theorem lw_p48 : lw_okq (⟨"SignBench$Table", "stepToward", "(LSignBench$Table;)I"⟩, 2) := ⟨⟨by decide +kernel, by decide +kernel⟩, List.mem_of_getElem? (i := 22) (by decide +kernel), List.mem_of_getElem? (i := 497) (by decide +kernel), List.mem_of_getElem? (i := 498) (by decide +kernel)⟩
theorem lw_p49 : lw_okq (⟨"SignBench$Table", "turnSquares", "(I)V"⟩, 2) := ⟨⟨by decide +kernel, by decide +kernel⟩, List.mem_of_getElem? (i := 22) (by decide +kernel), List.mem_of_getElem? (i := 506) (by decide +kernel), List.mem_of_getElem? (i := 507) (by decide +kernel)⟩
theorem lw_p50 : lw_okq (⟨"SignBench$Table", "becomeMoved", "(LSignBench$Table;I)V"⟩, 2) := ⟨⟨by decide +kernel, by decide +kernel⟩, List.mem_of_getElem? (i := 22) (by decide +kernel), List.mem_of_getElem? (i := 514) (by decide +kernel), List.mem_of_getElem? (i := 515) (by decide +kernel)⟩
theorem lw_p51 : lw_okq (⟨"SignBench$Table", "become", "(LSignBench$Table;)V"⟩, 2) := ⟨⟨by decide +kernel, by decide +kernel⟩, List.mem_of_getElem? (i := 22) (by decide +kernel), List.mem_of_getElem? (i := 518) (by decide +kernel), List.mem_of_getElem? (i := 519) (by decide +kernel)⟩
theorem lw_p52 : lw_okq (⟨"SignBench$Joinings", "knows", "(I)Z"⟩, 2) := ⟨⟨by decide +kernel, by decide +kernel⟩, List.mem_of_getElem? (i := 122) (by decide +kernel), List.mem_of_getElem? (i := 529) (by decide +kernel), List.mem_of_getElem? (i := 530) (by decide +kernel)⟩
theorem lw_p53 : lw_okq (⟨"SignBench", "learnJoinings", "(I)V"⟩, 6) := ⟨⟨by decide +kernel, by decide +kernel⟩, List.mem_of_getElem? (i := 13) (by decide +kernel), List.mem_of_getElem? (i := 533) (by decide +kernel), List.mem_of_getElem? (i := 534) (by decide +kernel)⟩
theorem lw_p54 : lw_okq (⟨"SignBench$Loops", "joiningOf", "(LSignBench$Table;)J"⟩, 5) := ⟨⟨by decide +kernel, by decide +kernel⟩, List.mem_of_getElem? (i := 100) (by decide +kernel), List.mem_of_getElem? (i := 537) (by decide +kernel), List.mem_of_getElem? (i := 538) (by decide +kernel)⟩
theorem lw_p55 : lw_okq (⟨"SignBench$Joinings", "learn", "(IIJ)V"⟩, 2) := ⟨⟨by decide +kernel, by decide +kernel⟩, List.mem_of_getElem? (i := 122) (by decide +kernel), List.mem_of_getElem? (i := 541) (by decide +kernel), List.mem_of_getElem? (i := 542) (by decide +kernel)⟩
theorem lw_p56 : lw_okq (⟨"SignBench$Joinings", "finish", "(I)V"⟩, 2) := ⟨⟨by decide +kernel, by decide +kernel⟩, List.mem_of_getElem? (i := 122) (by decide +kernel), List.mem_of_getElem? (i := 547) (by decide +kernel), List.mem_of_getElem? (i := 548) (by decide +kernel)⟩
theorem lw_p57 : lw_okq (⟨"SignBench$Joinings", "howMany", "(IJ)I"⟩, 2) := ⟨⟨by decide +kernel, by decide +kernel⟩, List.mem_of_getElem? (i := 122) (by decide +kernel), List.mem_of_getElem? (i := 551) (by decide +kernel), List.mem_of_getElem? (i := 552) (by decide +kernel)⟩
theorem lw_p58 : lw_okq (⟨"SignBenchModel", "faultOfSums", "()I"⟩, 14) := ⟨⟨by decide +kernel, by decide +kernel⟩, List.mem_of_getElem? (i := 555) (by decide +kernel), List.mem_of_getElem? (i := 616) (by decide +kernel), List.mem_of_getElem? (i := 617) (by decide +kernel)⟩
theorem lw_p59 : lw_okq (⟨"SignBenchModel", "d", "(II)I"⟩, 14) := ⟨⟨by decide +kernel, by decide +kernel⟩, List.mem_of_getElem? (i := 555) (by decide +kernel), List.mem_of_getElem? (i := 620) (by decide +kernel), List.mem_of_getElem? (i := 621) (by decide +kernel)⟩
theorem lw_p60 : lw_okq (⟨"SignBenchModel", "faultOfTriangle", "()I"⟩, 14) := ⟨⟨by decide +kernel, by decide +kernel⟩, List.mem_of_getElem? (i := 555) (by decide +kernel), List.mem_of_getElem? (i := 624) (by decide +kernel), List.mem_of_getElem? (i := 625) (by decide +kernel)⟩
theorem lw_p61 : lw_okq (⟨"SignBenchModel", "isRight", "(IZ)Z"⟩, 14) := ⟨⟨by decide +kernel, by decide +kernel⟩, List.mem_of_getElem? (i := 555) (by decide +kernel), List.mem_of_getElem? (i := 628) (by decide +kernel), List.mem_of_getElem? (i := 629) (by decide +kernel)⟩
theorem lw_p62 : lw_okq (⟨"SignBenchModel", "knows", "(I)Z"⟩, 14) := ⟨⟨by decide +kernel, by decide +kernel⟩, List.mem_of_getElem? (i := 555) (by decide +kernel), List.mem_of_getElem? (i := 636) (by decide +kernel), List.mem_of_getElem? (i := 637) (by decide +kernel)⟩
theorem lw_p63 : lw_okq (⟨"SignBenchModel", "inRow", "(II)I"⟩, 14) := ⟨⟨by decide +kernel, by decide +kernel⟩, List.mem_of_getElem? (i := 555) (by decide +kernel), List.mem_of_getElem? (i := 644) (by decide +kernel), List.mem_of_getElem? (i := 645) (by decide +kernel)⟩
def lw_privs_4 : List (MethodName × Nat) := [(⟨"SignBench$Table", "stepToward", "(LSignBench$Table;)I"⟩, 2), (⟨"SignBench$Table", "turnSquares", "(I)V"⟩, 2), (⟨"SignBench$Table", "becomeMoved", "(LSignBench$Table;I)V"⟩, 2), (⟨"SignBench$Table", "become", "(LSignBench$Table;)V"⟩, 2), (⟨"SignBench$Joinings", "knows", "(I)Z"⟩, 2), (⟨"SignBench", "learnJoinings", "(I)V"⟩, 6), (⟨"SignBench$Loops", "joiningOf", "(LSignBench$Table;)J"⟩, 5), (⟨"SignBench$Joinings", "learn", "(IIJ)V"⟩, 2), (⟨"SignBench$Joinings", "finish", "(I)V"⟩, 2), (⟨"SignBench$Joinings", "howMany", "(IJ)I"⟩, 2), (⟨"SignBenchModel", "faultOfSums", "()I"⟩, 14), (⟨"SignBenchModel", "d", "(II)I"⟩, 14), (⟨"SignBenchModel", "faultOfTriangle", "()I"⟩, 14), (⟨"SignBenchModel", "isRight", "(IZ)Z"⟩, 14), (⟨"SignBenchModel", "knows", "(I)Z"⟩, 14), (⟨"SignBenchModel", "inRow", "(II)I"⟩, 14)]
theorem lw_r4 : ∀ q ∈ lw_privs_4, lw_okq q := List.forall_mem_cons.mpr ⟨lw_p48, List.forall_mem_cons.mpr ⟨lw_p49, List.forall_mem_cons.mpr ⟨lw_p50, List.forall_mem_cons.mpr ⟨lw_p51, List.forall_mem_cons.mpr ⟨lw_p52, List.forall_mem_cons.mpr ⟨lw_p53, List.forall_mem_cons.mpr ⟨lw_p54, List.forall_mem_cons.mpr ⟨lw_p55, List.forall_mem_cons.mpr ⟨lw_p56, List.forall_mem_cons.mpr ⟨lw_p57, List.forall_mem_cons.mpr ⟨lw_p58, List.forall_mem_cons.mpr ⟨lw_p59, List.forall_mem_cons.mpr ⟨lw_p60, List.forall_mem_cons.mpr ⟨lw_p61, List.forall_mem_cons.mpr ⟨lw_p62, List.forall_mem_cons.mpr ⟨lw_p63, fun _ h => absurd h List.not_mem_nil⟩⟩⟩⟩⟩⟩⟩⟩⟩⟩⟩⟩⟩⟩⟩⟩
theorem lw_p64 : lw_okq (⟨"SignBenchModel", "a", "(IIII)V"⟩, 14) := ⟨⟨by decide +kernel, by decide +kernel⟩, List.mem_of_getElem? (i := 555) (by decide +kernel), List.mem_of_getElem? (i := 648) (by decide +kernel), List.mem_of_getElem? (i := 649) (by decide +kernel)⟩
theorem lw_p65 : lw_okq (⟨"SignBenchModel", "isIn", "(IIII)Z"⟩, 14) := ⟨⟨by decide +kernel, by decide +kernel⟩, List.mem_of_getElem? (i := 555) (by decide +kernel), List.mem_of_getElem? (i := 660) (by decide +kernel), List.mem_of_getElem? (i := 661) (by decide +kernel)⟩
theorem lw_p66 : lw_okq (⟨"SignBenchModel", "a", "(III)I"⟩, 14) := ⟨⟨by decide +kernel, by decide +kernel⟩, List.mem_of_getElem? (i := 555) (by decide +kernel), List.mem_of_getElem? (i := 664) (by decide +kernel), List.mem_of_getElem? (i := 665) (by decide +kernel)⟩
theorem lw_p67 : lw_okq (⟨"SignBenchModel", "corner", "(III)I"⟩, 14) := ⟨⟨by decide +kernel, by decide +kernel⟩, List.mem_of_getElem? (i := 555) (by decide +kernel), List.mem_of_getElem? (i := 672) (by decide +kernel), List.mem_of_getElem? (i := 673) (by decide +kernel)⟩
theorem lw_p68 : lw_okq (⟨"SignBenchModel", "rowOf", "(II)I"⟩, 14) := ⟨⟨by decide +kernel, by decide +kernel⟩, List.mem_of_getElem? (i := 555) (by decide +kernel), List.mem_of_getElem? (i := 680) (by decide +kernel), List.mem_of_getElem? (i := 681) (by decide +kernel)⟩
theorem lw_p69 : lw_okq (⟨"SignBenchModel", "isEdge", "(IZII)Z"⟩, 14) := ⟨⟨by decide +kernel, by decide +kernel⟩, List.mem_of_getElem? (i := 555) (by decide +kernel), List.mem_of_getElem? (i := 691) (by decide +kernel), List.mem_of_getElem? (i := 692) (by decide +kernel)⟩
theorem lw_p70 : lw_okq (⟨"SignBenchModel", "points", "(IZII)Z"⟩, 14) := ⟨⟨by decide +kernel, by decide +kernel⟩, List.mem_of_getElem? (i := 555) (by decide +kernel), List.mem_of_getElem? (i := 695) (by decide +kernel), List.mem_of_getElem? (i := 696) (by decide +kernel)⟩
theorem lw_p71 : lw_okq (⟨"SignBenchModel", "isHeld", "(IZII)Z"⟩, 14) := ⟨⟨by decide +kernel, by decide +kernel⟩, List.mem_of_getElem? (i := 555) (by decide +kernel), List.mem_of_getElem? (i := 703) (by decide +kernel), List.mem_of_getElem? (i := 704) (by decide +kernel)⟩
theorem lw_p72 : lw_okq (⟨"SignBenchModel", "joined", "(II)I"⟩, 14) := ⟨⟨by decide +kernel, by decide +kernel⟩, List.mem_of_getElem? (i := 555) (by decide +kernel), List.mem_of_getElem? (i := 711) (by decide +kernel), List.mem_of_getElem? (i := 712) (by decide +kernel)⟩
theorem lw_p73 : lw_okq (⟨"SignBenchModel", "end", "(II)I"⟩, 14) := ⟨⟨by decide +kernel, by decide +kernel⟩, List.mem_of_getElem? (i := 555) (by decide +kernel), List.mem_of_getElem? (i := 715) (by decide +kernel), List.mem_of_getElem? (i := 716) (by decide +kernel)⟩
theorem lw_p74 : lw_okq (⟨"SignBenchModel", "leaves", "(II)I"⟩, 14) := ⟨⟨by decide +kernel, by decide +kernel⟩, List.mem_of_getElem? (i := 555) (by decide +kernel), List.mem_of_getElem? (i := 722) (by decide +kernel), List.mem_of_getElem? (i := 723) (by decide +kernel)⟩
theorem lw_p75 : lw_okq (⟨"SignBenchModel", "isInside", "(III)Z"⟩, 14) := ⟨⟨by decide +kernel, by decide +kernel⟩, List.mem_of_getElem? (i := 555) (by decide +kernel), List.mem_of_getElem? (i := 726) (by decide +kernel), List.mem_of_getElem? (i := 727) (by decide +kernel)⟩
theorem lw_p76 : lw_okq (⟨"SignBenchModel", "next", "(IIII)I"⟩, 14) := ⟨⟨by decide +kernel, by decide +kernel⟩, List.mem_of_getElem? (i := 555) (by decide +kernel), List.mem_of_getElem? (i := 730) (by decide +kernel), List.mem_of_getElem? (i := 731) (by decide +kernel)⟩
theorem lw_p77 : lw_okq (⟨"SignBenchModel", "lessOf", "(I)I"⟩, 14) := ⟨⟨by decide +kernel, by decide +kernel⟩, List.mem_of_getElem? (i := 555) (by decide +kernel), List.mem_of_getElem? (i := 742) (by decide +kernel), List.mem_of_getElem? (i := 743) (by decide +kernel)⟩
theorem lw_p78 : lw_okq (⟨"SignBenchModel", "stays", "(II)Z"⟩, 14) := ⟨⟨by decide +kernel, by decide +kernel⟩, List.mem_of_getElem? (i := 555) (by decide +kernel), List.mem_of_getElem? (i := 746) (by decide +kernel), List.mem_of_getElem? (i := 747) (by decide +kernel)⟩
theorem lw_p79 : lw_okq (⟨"SignBenchModel", "all", "(I)J"⟩, 14) := ⟨⟨by decide +kernel, by decide +kernel⟩, List.mem_of_getElem? (i := 555) (by decide +kernel), List.mem_of_getElem? (i := 759) (by decide +kernel), List.mem_of_getElem? (i := 760) (by decide +kernel)⟩
def lw_privs_5 : List (MethodName × Nat) := [(⟨"SignBenchModel", "a", "(IIII)V"⟩, 14), (⟨"SignBenchModel", "isIn", "(IIII)Z"⟩, 14), (⟨"SignBenchModel", "a", "(III)I"⟩, 14), (⟨"SignBenchModel", "corner", "(III)I"⟩, 14), (⟨"SignBenchModel", "rowOf", "(II)I"⟩, 14), (⟨"SignBenchModel", "isEdge", "(IZII)Z"⟩, 14), (⟨"SignBenchModel", "points", "(IZII)Z"⟩, 14), (⟨"SignBenchModel", "isHeld", "(IZII)Z"⟩, 14), (⟨"SignBenchModel", "joined", "(II)I"⟩, 14), (⟨"SignBenchModel", "end", "(II)I"⟩, 14), (⟨"SignBenchModel", "leaves", "(II)I"⟩, 14), (⟨"SignBenchModel", "isInside", "(III)Z"⟩, 14), (⟨"SignBenchModel", "next", "(IIII)I"⟩, 14), (⟨"SignBenchModel", "lessOf", "(I)I"⟩, 14), (⟨"SignBenchModel", "stays", "(II)Z"⟩, 14), (⟨"SignBenchModel", "all", "(I)J"⟩, 14)]
theorem lw_r5 : ∀ q ∈ lw_privs_5, lw_okq q := List.forall_mem_cons.mpr ⟨lw_p64, List.forall_mem_cons.mpr ⟨lw_p65, List.forall_mem_cons.mpr ⟨lw_p66, List.forall_mem_cons.mpr ⟨lw_p67, List.forall_mem_cons.mpr ⟨lw_p68, List.forall_mem_cons.mpr ⟨lw_p69, List.forall_mem_cons.mpr ⟨lw_p70, List.forall_mem_cons.mpr ⟨lw_p71, List.forall_mem_cons.mpr ⟨lw_p72, List.forall_mem_cons.mpr ⟨lw_p73, List.forall_mem_cons.mpr ⟨lw_p74, List.forall_mem_cons.mpr ⟨lw_p75, List.forall_mem_cons.mpr ⟨lw_p76, List.forall_mem_cons.mpr ⟨lw_p77, List.forall_mem_cons.mpr ⟨lw_p78, List.forall_mem_cons.mpr ⟨lw_p79, fun _ h => absurd h List.not_mem_nil⟩⟩⟩⟩⟩⟩⟩⟩⟩⟩⟩⟩⟩⟩⟩⟩
theorem lw_p80 : lw_okq (⟨"SignBenchModel", "work", "(I)V"⟩, 14) := ⟨⟨by decide +kernel, by decide +kernel⟩, List.mem_of_getElem? (i := 555) (by decide +kernel), List.mem_of_getElem? (i := 763) (by decide +kernel), List.mem_of_getElem? (i := 764) (by decide +kernel)⟩
theorem lw_p81 : lw_okq (⟨"SignBenchModel", "below", "(IIIII)J"⟩, 14) := ⟨⟨by decide +kernel, by decide +kernel⟩, List.mem_of_getElem? (i := 555) (by decide +kernel), List.mem_of_getElem? (i := 770) (by decide +kernel), List.mem_of_getElem? (i := 771) (by decide +kernel)⟩
theorem lw_p82 : lw_okq (⟨"SignBenchModel", "numberOf", "(I)J"⟩, 14) := ⟨⟨by decide +kernel, by decide +kernel⟩, List.mem_of_getElem? (i := 555) (by decide +kernel), List.mem_of_getElem? (i := 786) (by decide +kernel), List.mem_of_getElem? (i := 787) (by decide +kernel)⟩
theorem lw_p83 : lw_okq (⟨"SignBenchModel", "mayFollow", "(III)Z"⟩, 14) := ⟨⟨by decide +kernel, by decide +kernel⟩, List.mem_of_getElem? (i := 555) (by decide +kernel), List.mem_of_getElem? (i := 790) (by decide +kernel), List.mem_of_getElem? (i := 791) (by decide +kernel)⟩
theorem lw_p84 : lw_okq (⟨"SignBenchModel", "becomes", "(IIJ)V"⟩, 14) := ⟨⟨by decide +kernel, by decide +kernel⟩, List.mem_of_getElem? (i := 555) (by decide +kernel), List.mem_of_getElem? (i := 804) (by decide +kernel), List.mem_of_getElem? (i := 805) (by decide +kernel)⟩
theorem lw_p85 : lw_okq (⟨"SignBenchModel", "firstRow", "(III)I"⟩, 14) := ⟨⟨by decide +kernel, by decide +kernel⟩, List.mem_of_getElem? (i := 555) (by decide +kernel), List.mem_of_getElem? (i := 808) (by decide +kernel), List.mem_of_getElem? (i := 809) (by decide +kernel)⟩
theorem lw_p86 : lw_okq (⟨"SignBenchModel", "nextRow", "(IIII)I"⟩, 14) := ⟨⟨by decide +kernel, by decide +kernel⟩, List.mem_of_getElem? (i := 555) (by decide +kernel), List.mem_of_getElem? (i := 812) (by decide +kernel), List.mem_of_getElem? (i := 813) (by decide +kernel)⟩
theorem lw_p87 : lw_okq (⟨"SignBenchModel", "meets", "(IIIZ)Z"⟩, 14) := ⟨⟨by decide +kernel, by decide +kernel⟩, List.mem_of_getElem? (i := 555) (by decide +kernel), List.mem_of_getElem? (i := 826) (by decide +kernel), List.mem_of_getElem? (i := 827) (by decide +kernel)⟩
theorem lw_p88 : lw_okq (⟨"SignBenchModel", "fromCorners", "(II)V"⟩, 14) := ⟨⟨by decide +kernel, by decide +kernel⟩, List.mem_of_getElem? (i := 555) (by decide +kernel), List.mem_of_getElem? (i := 832) (by decide +kernel), List.mem_of_getElem? (i := 833) (by decide +kernel)⟩
theorem lw_p89 : lw_okq (⟨"SignBenchModel", "mayBe", "(IIII)Z"⟩, 14) := ⟨⟨by decide +kernel, by decide +kernel⟩, List.mem_of_getElem? (i := 555) (by decide +kernel), List.mem_of_getElem? (i := 853) (by decide +kernel), List.mem_of_getElem? (i := 854) (by decide +kernel)⟩
theorem lw_p90 : lw_okq (⟨"SignBenchModel", "changes", "(IIII)V"⟩, 14) := ⟨⟨by decide +kernel, by decide +kernel⟩, List.mem_of_getElem? (i := 555) (by decide +kernel), List.mem_of_getElem? (i := 857) (by decide +kernel), List.mem_of_getElem? (i := 858) (by decide +kernel)⟩
theorem lw_p91 : lw_okq (⟨"SignBenchModel", "turns", "(II)V"⟩, 14) := ⟨⟨by decide +kernel, by decide +kernel⟩, List.mem_of_getElem? (i := 555) (by decide +kernel), List.mem_of_getElem? (i := 872) (by decide +kernel), List.mem_of_getElem? (i := 873) (by decide +kernel)⟩
def lw_privs_6 : List (MethodName × Nat) := [(⟨"SignBenchModel", "work", "(I)V"⟩, 14), (⟨"SignBenchModel", "below", "(IIIII)J"⟩, 14), (⟨"SignBenchModel", "numberOf", "(I)J"⟩, 14), (⟨"SignBenchModel", "mayFollow", "(III)Z"⟩, 14), (⟨"SignBenchModel", "becomes", "(IIJ)V"⟩, 14), (⟨"SignBenchModel", "firstRow", "(III)I"⟩, 14), (⟨"SignBenchModel", "nextRow", "(IIII)I"⟩, 14), (⟨"SignBenchModel", "meets", "(IIIZ)Z"⟩, 14), (⟨"SignBenchModel", "fromCorners", "(II)V"⟩, 14), (⟨"SignBenchModel", "mayBe", "(IIII)Z"⟩, 14), (⟨"SignBenchModel", "changes", "(IIII)V"⟩, 14), (⟨"SignBenchModel", "turns", "(II)V"⟩, 14)]
theorem lw_r6 : ∀ q ∈ lw_privs_6, lw_okq q := List.forall_mem_cons.mpr ⟨lw_p80, List.forall_mem_cons.mpr ⟨lw_p81, List.forall_mem_cons.mpr ⟨lw_p82, List.forall_mem_cons.mpr ⟨lw_p83, List.forall_mem_cons.mpr ⟨lw_p84, List.forall_mem_cons.mpr ⟨lw_p85, List.forall_mem_cons.mpr ⟨lw_p86, List.forall_mem_cons.mpr ⟨lw_p87, List.forall_mem_cons.mpr ⟨lw_p88, List.forall_mem_cons.mpr ⟨lw_p89, List.forall_mem_cons.mpr ⟨lw_p90, List.forall_mem_cons.mpr ⟨lw_p91, fun _ h => absurd h List.not_mem_nil⟩⟩⟩⟩⟩⟩⟩⟩⟩⟩⟩⟩
def lw_privs : List (MethodName × Nat) := lw_privs_1 ++ (lw_privs_2 ++ (lw_privs_3 ++ (lw_privs_4 ++ (lw_privs_5 ++ (lw_privs_6)))))
def lw_tbl : List Cond := k2_sels lw_privs ++ tables_1
theorem lw_privs_ok : ∀ q ∈ lw_privs, lw_okq q := by
  show ∀ q ∈ lw_privs_1 ++ (lw_privs_2 ++ (lw_privs_3 ++ (lw_privs_4 ++ (lw_privs_5 ++ (lw_privs_6))))), lw_okq q
  exact List.forall_mem_append.mpr ⟨lw_r1, List.forall_mem_append.mpr ⟨lw_r2, List.forall_mem_append.mpr ⟨lw_r3, List.forall_mem_append.mpr ⟨lw_r4, List.forall_mem_append.mpr ⟨lw_r5, lw_r6⟩⟩⟩⟩⟩
-- ===== end of PART A; then your names; then what follows =====
/-! ===== BEGIN words of one list among another's, by their places ===== -/
theorem goodIn_r {big : List Cond} (ws : List Cond) (ps : List Nat) (hp : ws = ps.filterMap (fun i => big[i]?)) (h : ws.all goodWord = true) : GoodIn big ws := by
  intro w hw
  have h1 := List.all_eq_true.mp h w hw
  rw [hp] at hw
  obtain ⟨i, -, hi⟩ := List.mem_filterMap.mp hw
  have hm : w ∈ big := by first | exact List.mem_of_getElem? hi | exact List.getElem?_mem hi
  exact ⟨hm, good_of_word h1⟩
theorem goodIn_app {big a b : List Cond} (ha : GoodIn big a) (hb : GoodIn big b) : GoodIn big (a ++ b) := fun w h => (List.mem_append.mp h).elim (ha w) (hb w)
theorem goodIn_ca {big a b : List Cond} {c : Cond} (ha : GoodIn big (c :: a)) (hb : GoodIn big b) : GoodIn big (c :: (a ++ b)) := fun w h => (List.mem_cons.mp h).elim (fun e => ha w (List.mem_cons.mpr (Or.inl e))) (fun h => (List.mem_append.mp h).elim (fun h => ha w (List.mem_cons.mpr (Or.inr h))) (hb w))
theorem goodIn_sub {big ws : List Cond} (hm : ∀ w ∈ ws, w ∈ big) (h : ws.all goodWord = true) : GoodIn big ws := fun w hw => ⟨hm w hw, good_of_word (List.all_eq_true.mp h w hw)⟩
/-! ===== END ===== -/
def RX0 : String := "SignBench$Draft"
def TX0 : u_T := fun k => match k with
  | 0 => ("SignBench$Draft", "cells", "[I", true)
  | 1 => ("SignBench$Draft", "sort", "I", false)
  | _ => ("SignBench$Draft", "n", "I", false)
def tyX0 : Nat → FieldType := fun k => match k with
  | 0 => .array .int
  | 1 => .int
  | _ => .int
abbrev wsX00 : List Cond := u_ws RX0 TX0 3
theorem nmX0 : ∀ a, a < 3 → ∀ b, b < 3 → a ≠ b → (TX0 a).2.1 ≠ (TX0 b).2.1 := by decide +kernel
theorem tyX0_ok : ∀ k, k < 3 → parseFieldDescriptor (TX0 k).2.2.1 = some (tyX0 k) := by decide +kernel
abbrev cX0_init : ByteArray := prog_2_method_1_code
def yX0_init : MethodName := ⟨RX0, "<init>", "()V"⟩
abbrev cX0_clear : ByteArray := prog_2_method_2_code
def yX0_clear : MethodName := ⟨RX0, "clear", "(II)V"⟩
abbrev cX0_has : ByteArray := prog_2_method_3_code
def yX0_has : MethodName := ⟨RX0, "has", "(II)Z"⟩
abbrev cX0_write : ByteArray := prog_2_method_4_code
def yX0_write : MethodName := ⟨RX0, "write", "(III)V"⟩
abbrev cX0_cell : ByteArray := prog_2_method_5_code
def yX0_cell : MethodName := ⟨RX0, "cell", "(II)I"⟩
abbrev cX0_firstFault : ByteArray := prog_2_method_6_code
def yX0_firstFault : MethodName := ⟨RX0, "firstFault", "()I"⟩
abbrev cX0_firstLineFault : ByteArray := prog_2_method_7_code
def yX0_firstLineFault : MethodName := ⟨RX0, "firstLineFault", "()I"⟩
abbrev cX0_alternates : ByteArray := prog_2_method_8_code
def yX0_alternates : MethodName := ⟨RX0, "alternates", "(II)Z"⟩
abbrev cX0_firstCellFault : ByteArray := prog_2_method_9_code
def yX0_firstCellFault : MethodName := ⟨RX0, "firstCellFault", "()I"⟩
abbrev cX0_isCornerSum : ByteArray := prog_2_method_10_code
def yX0_isCornerSum : MethodName := ⟨RX0, "isCornerSum", "(II)Z"⟩
abbrev cX0_isColumn : ByteArray := prog_2_method_11_code
def yX0_isColumn : MethodName := ⟨RX0, "isColumn", "(II)Z"⟩
abbrev cX0_copyTo : ByteArray := prog_2_method_12_code
def yX0_copyTo : MethodName := ⟨RX0, "copyTo", "(LSignBench$Table;)V"⟩
abbrev cX0_triangleBits : ByteArray := prog_2_method_13_code
def yX0_triangleBits : MethodName := ⟨RX0, "triangleBits", "(II)I"⟩
def RX1 : String := "SignBench$Joinings"
def TX1 : u_T := fun k => match k with
  | 0 => ("SignBench$Joinings", "codes", "[J", true)
  | _ => ("SignBench$Joinings", "known", "[Z", true)
def tyX1 : Nat → FieldType := fun k => match k with
  | 0 => .array .long
  | _ => .array .boolean
abbrev wsX10 : List Cond := u_ws RX1 TX1 2
theorem nmX1 : ∀ a, a < 2 → ∀ b, b < 2 → a ≠ b → (TX1 a).2.1 ≠ (TX1 b).2.1 := by decide +kernel
theorem tyX1_ok : ∀ k, k < 2 → parseFieldDescriptor (TX1 k).2.2.1 = some (tyX1 k) := by decide +kernel
abbrev cX1_init : ByteArray := prog_3_method_1_code
def yX1_init : MethodName := ⟨RX1, "<init>", "()V"⟩
abbrev cX1_knows : ByteArray := prog_3_method_2_code
def yX1_knows : MethodName := ⟨RX1, "knows", "(I)Z"⟩
abbrev cX1_learn : ByteArray := prog_3_method_3_code
def yX1_learn : MethodName := ⟨RX1, "learn", "(IIJ)V"⟩
abbrev cX1_finish : ByteArray := prog_3_method_4_code
def yX1_finish : MethodName := ⟨RX1, "finish", "(I)V"⟩
abbrev cX1_howMany : ByteArray := prog_3_method_5_code
def yX1_howMany : MethodName := ⟨RX1, "howMany", "(IJ)I"⟩
def RX2 : String := "SignBench$Loops"
def TX2 : u_T := fun k => match k with
  | 0 => ("SignBench$Loops", "seenIn", "[I", true)
  | 1 => ("SignBench$Loops", "round", "I", false)
  | 2 => ("SignBench$Loops", "row", "I", false)
  | 3 => ("SignBench$Loops", "column", "I", false)
  | _ => ("SignBench$Loops", "side", "I", false)
def tyX2 : Nat → FieldType := fun k => match k with
  | 0 => .array .int
  | 1 => .int
  | 2 => .int
  | 3 => .int
  | _ => .int
abbrev wsX20 : List Cond := u_ws RX2 TX2 5
theorem nmX2 : ∀ a, a < 5 → ∀ b, b < 5 → a ≠ b → (TX2 a).2.1 ≠ (TX2 b).2.1 := by decide +kernel
theorem tyX2_ok : ∀ k, k < 5 → parseFieldDescriptor (TX2 k).2.2.1 = some (tyX2 k) := by decide +kernel
abbrev cX2_init : ByteArray := prog_4_method_1_code
def yX2_init : MethodName := ⟨RX2, "<init>", "()V"⟩
abbrev cX2_otherEnd : ByteArray := prog_4_method_2_code
def yX2_otherEnd : MethodName := ⟨RX2, "otherEnd", "(LSignBench$Table;I)I"⟩
abbrev cX2_ringsOf : ByteArray := prog_4_method_3_code
def yX2_ringsOf : MethodName := ⟨RX2, "ringsOf", "(LSignBench$Table;)I"⟩
abbrev cX2_joiningOf : ByteArray := prog_4_method_4_code
def yX2_joiningOf : MethodName := ⟨RX2, "joiningOf", "(LSignBench$Table;)J"⟩
abbrev cX2_isSeen : ByteArray := prog_4_method_5_code
def yX2_isSeen : MethodName := ⟨RX2, "isSeen", "(II)Z"⟩
abbrev cX2_goRound : ByteArray := prog_4_method_6_code
def yX2_goRound : MethodName := ⟨RX2, "goRound", "(LSignBench$Table;II)V"⟩
abbrev cX2_follow : ByteArray := prog_4_method_7_code
def yX2_follow : MethodName := ⟨RX2, "follow", "(LSignBench$Table;)Z"⟩
abbrev cX2_nextHeldSide : ByteArray := prog_4_method_8_code
def yX2_nextHeldSide : MethodName := ⟨RX2, "nextHeldSide", "(LSignBench$Table;I)I"⟩
abbrev cX2_holdsSide : ByteArray := prog_4_method_9_code
def yX2_holdsSide : MethodName := ⟨RX2, "holdsSide", "(LSignBench$Table;I)Z"⟩
abbrev cX2_goToEnd : ByteArray := prog_4_method_10_code
def yX2_goToEnd : MethodName := ⟨RX2, "goToEnd", "(II)V"⟩
abbrev cX2_endHere : ByteArray := prog_4_method_11_code
def yX2_endHere : MethodName := ⟨RX2, "endHere", "(I)I"⟩
def RX3 : String := "SignBench$Numbering"
def TX3 : u_T := fun k => match k with
  | 0 => ("SignBench$Numbering", "ways", "[J", true)
  | 1 => ("SignBench$Numbering", "known", "[Z", true)
  | _ => ("SignBench$Numbering", "walk", "LSignBench$RowWalk;", true)
def tyX3 : Nat → FieldType := fun k => match k with
  | 0 => .array .long
  | 1 => .array .boolean
  | _ => .object "SignBench$RowWalk"
abbrev wsX30 : List Cond := u_ws RX3 TX3 3
theorem nmX3 : ∀ a, a < 3 → ∀ b, b < 3 → a ≠ b → (TX3 a).2.1 ≠ (TX3 b).2.1 := by decide +kernel
theorem tyX3_ok : ∀ k, k < 3 → parseFieldDescriptor (TX3 k).2.2.1 = some (tyX3 k) := by decide +kernel
abbrev cX3_init : ByteArray := prog_5_method_1_code
def yX3_init : MethodName := ⟨RX3, "<init>", "()V"⟩
abbrev cX3_numberOf : ByteArray := prog_5_method_2_code
def yX3_numberOf : MethodName := ⟨RX3, "numberOf", "(LSignBench$Table;)J"⟩
abbrev cX3_build : ByteArray := prog_5_method_3_code
def yX3_build : MethodName := ⟨RX3, "build", "(LSignBench$Table;IJ)V"⟩
abbrev cX3_passWays : ByteArray := prog_5_method_4_code
def yX3_passWays : MethodName := ⟨RX3, "passWays", "(IJ)J"⟩
abbrev cX3_waysBefore : ByteArray := prog_5_method_5_code
def yX3_waysBefore : MethodName := ⟨RX3, "waysBefore", "(III)J"⟩
abbrev cX3_learnWays : ByteArray := prog_5_method_6_code
def yX3_learnWays : MethodName := ⟨RX3, "learnWays", "(I)V"⟩
def RX4 : String := "SignBench$RowWalk"
def TX4 : u_T := fun k => match k with
  | 0 => ("SignBench$RowWalk", "least", "[I", true)
  | 1 => ("SignBench$RowWalk", "greatest", "[I", true)
  | 2 => ("SignBench$RowWalk", "columns", "[I", true)
  | 3 => ("SignBench$RowWalk", "n", "I", false)
  | 4 => ("SignBench$RowWalk", "many", "I", false)
  | _ => ("SignBench$RowWalk", "bits", "I", false)
def tyX4 : Nat → FieldType := fun k => match k with
  | 0 => .array .int
  | 1 => .array .int
  | 2 => .array .int
  | 3 => .int
  | 4 => .int
  | _ => .int
abbrev wsX40 : List Cond := u_ws RX4 TX4 6
theorem nmX4 : ∀ a, a < 6 → ∀ b, b < 6 → a ≠ b → (TX4 a).2.1 ≠ (TX4 b).2.1 := by decide +kernel
theorem tyX4_ok : ∀ k, k < 6 → parseFieldDescriptor (TX4 k).2.2.1 = some (tyX4 k) := by decide +kernel
abbrev cX4_init : ByteArray := prog_6_method_1_code
def yX4_init : MethodName := ⟨RX4, "<init>", "()V"⟩
abbrev cX4_start : ByteArray := prog_6_method_2_code
def yX4_start : MethodName := ⟨RX4, "start", "(II)V"⟩
abbrev cX4_advance : ByteArray := prog_6_method_3_code
def yX4_advance : MethodName := ⟨RX4, "advance", "()Z"⟩
abbrev cX4_layFrom : ByteArray := prog_6_method_4_code
def yX4_layFrom : MethodName := ⟨RX4, "layFrom", "(II)V"⟩
abbrev cX4_bitOf : ByteArray := prog_6_method_5_code
def yX4_bitOf : MethodName := ⟨RX4, "bitOf", "(I)I"⟩
def RX5 : String := "SignBench$Table"
def TX5 : u_T := fun k => match k with
  | 0 => ("SignBench$Table", "corners", "[I", true)
  | _ => ("SignBench$Table", "n", "I", false)
def tyX5 : Nat → FieldType := fun k => match k with
  | 0 => .array .int
  | _ => .int
abbrev wsX50 : List Cond := u_ws RX5 TX5 2
theorem nmX5 : ∀ a, a < 2 → ∀ b, b < 2 → a ≠ b → (TX5 a).2.1 ≠ (TX5 b).2.1 := by decide +kernel
theorem tyX5_ok : ∀ k, k < 2 → parseFieldDescriptor (TX5 k).2.2.1 = some (tyX5 k) := by decide +kernel
abbrev cX5_init : ByteArray := prog_7_method_1_code
def yX5_init : MethodName := ⟨RX5, "<init>", "()V"⟩
abbrev cX5_corner : ByteArray := prog_7_method_2_code
def yX5_corner : MethodName := ⟨RX5, "corner", "(II)I"⟩
abbrev cX5_entry : ByteArray := prog_7_method_3_code
def yX5_entry : MethodName := ⟨RX5, "entry", "(II)I"⟩
abbrev cX5_triangleColumn : ByteArray := prog_7_method_4_code
def yX5_triangleColumn : MethodName := ⟨RX5, "triangleColumn", "(II)I"⟩
abbrev cX5_rowBits : ByteArray := prog_7_method_5_code
def yX5_rowBits : MethodName := ⟨RX5, "rowBits", "(I)I"⟩
abbrev cX5_hasEdge : ByteArray := prog_7_method_6_code
def yX5_hasEdge : MethodName := ⟨RX5, "hasEdge", "(ZII)Z"⟩
abbrev cX5_edgeSum : ByteArray := prog_7_method_7_code
def yX5_edgeSum : MethodName := ⟨RX5, "edgeSum", "(ZII)I"⟩
abbrev cX5_holds : ByteArray := prog_7_method_8_code
def yX5_holds : MethodName := ⟨RX5, "holds", "(ZII)Z"⟩
abbrev cX5_minusOnes : ByteArray := prog_7_method_9_code
def yX5_minusOnes : MethodName := ⟨RX5, "minusOnes", "()I"⟩
abbrev cX5_kindOf : ByteArray := prog_7_method_10_code
def yX5_kindOf : MethodName := ⟨RX5, "kindOf", "()I"⟩
abbrev cX5_staysWhen : ByteArray := prog_7_method_11_code
def yX5_staysWhen : MethodName := ⟨RX5, "staysWhen", "(I)Z"⟩
abbrev cX5_movedEntry : ByteArray := prog_7_method_12_code
def yX5_movedEntry : MethodName := ⟨RX5, "movedEntry", "(III)I"⟩
abbrev cX5_isBelow : ByteArray := prog_7_method_13_code
def yX5_isBelow : MethodName := ⟨RX5, "isBelow", "(LSignBench$Table;)Z"⟩
abbrev cX5_stepsTo : ByteArray := prog_7_method_14_code
def yX5_stepsTo : MethodName := ⟨RX5, "stepsTo", "(LSignBench$Table;)I"⟩
abbrev cX5_stepToward : ByteArray := prog_7_method_15_code
def yX5_stepToward : MethodName := ⟨RX5, "stepToward", "(LSignBench$Table;)I"⟩
abbrev cX5_shift : ByteArray := prog_7_method_16_code
def yX5_shift : MethodName := ⟨RX5, "shift", "(III)Z"⟩
abbrev cX5_rises : ByteArray := prog_7_method_17_code
def yX5_rises : MethodName := ⟨RX5, "rises", "(II)Z"⟩
abbrev cX5_turnSquares : ByteArray := prog_7_method_18_code
def yX5_turnSquares : MethodName := ⟨RX5, "turnSquares", "(I)V"⟩
abbrev cX5_become : ByteArray := prog_7_method_19_code
def yX5_become : MethodName := ⟨RX5, "become", "(LSignBench$Table;)V"⟩
abbrev cX5_becomeExtreme : ByteArray := prog_7_method_20_code
def yX5_becomeExtreme : MethodName := ⟨RX5, "becomeExtreme", "(LSignBench$Table;LSignBench$Table;Z)V"⟩
abbrev cX5_becomeMoved : ByteArray := prog_7_method_21_code
def yX5_becomeMoved : MethodName := ⟨RX5, "becomeMoved", "(LSignBench$Table;I)V"⟩
abbrev cX5_layRow : ByteArray := prog_7_method_22_code
def yX5_layRow : MethodName := ⟨RX5, "layRow", "(II)V"⟩
def RX6 : String := "SignBench"
def TX6 : u_T := fun k => match k with
  | 0 => ("SignBench", "tables", "[LSignBench$Table;", true)
  | 1 => ("SignBench", "spare", "LSignBench$Table;", true)
  | 2 => ("SignBench", "draft", "LSignBench$Draft;", true)
  | 3 => ("SignBench", "numbering", "LSignBench$Numbering;", true)
  | 4 => ("SignBench", "loops", "LSignBench$Loops;", true)
  | _ => ("SignBench", "joinings", "LSignBench$Joinings;", true)
def tyX6 : Nat → FieldType := fun k => match k with
  | 0 => .array (.object "SignBench$Table")
  | 1 => .object "SignBench$Table"
  | 2 => .object "SignBench$Draft"
  | 3 => .object "SignBench$Numbering"
  | 4 => .object "SignBench$Loops"
  | _ => .object "SignBench$Joinings"
abbrev wsX60 : List Cond := u_ws RX6 TX6 6
theorem nmX6 : ∀ a, a < 6 → ∀ b, b < 6 → a ≠ b → (TX6 a).2.1 ≠ (TX6 b).2.1 := by decide +kernel
theorem tyX6_ok : ∀ k, k < 6 → parseFieldDescriptor (TX6 k).2.2.1 = some (tyX6 k) := by decide +kernel
abbrev cX6_init : ByteArray := prog_1_method_1_code
def yX6_init : MethodName := ⟨RX6, "<init>", "()V"⟩
abbrev cX6_begin : ByteArray := prog_1_method_2_code
def yX6_begin : MethodName := ⟨RX6, "begin", "(II)Z"⟩
abbrev cX6_put : ByteArray := prog_1_method_3_code
def yX6_put : MethodName := ⟨RX6, "put", "(III)Z"⟩
abbrev cX6_fault : ByteArray := prog_1_method_4_code
def yX6_fault : MethodName := ⟨RX6, "fault", "()I"⟩
abbrev cX6_take : ByteArray := prog_1_method_5_code
def yX6_take : MethodName := ⟨RX6, "take", "(I)Z"⟩
abbrev cX6_size : ByteArray := prog_1_method_6_code
def yX6_size : MethodName := ⟨RX6, "size", "(I)I"⟩
abbrev cX6_at : ByteArray := prog_1_method_7_code
def yX6_at : MethodName := ⟨RX6, "at", "(III)I"⟩
abbrev cX6_sum : ByteArray := prog_1_method_8_code
def yX6_sum : MethodName := ⟨RX6, "sum", "(III)I"⟩
abbrev cX6_triangle : ByteArray := prog_1_method_9_code
def yX6_triangle : MethodName := ⟨RX6, "triangle", "(III)I"⟩
abbrev cX6_arrow : ByteArray := prog_1_method_10_code
def yX6_arrow : MethodName := ⟨RX6, "arrow", "(IZII)I"⟩
abbrev cX6_held : ByteArray := prog_1_method_11_code
def yX6_held : MethodName := ⟨RX6, "held", "(IZII)I"⟩
abbrev cX6_link : ByteArray := prog_1_method_12_code
def yX6_link : MethodName := ⟨RX6, "link", "(II)I"⟩
abbrev cX6_rings : ByteArray := prog_1_method_13_code
def yX6_rings : MethodName := ⟨RX6, "rings", "(I)I"⟩
abbrev cX6_kind : ByteArray := prog_1_method_14_code
def yX6_kind : MethodName := ⟨RX6, "kind", "(I)I"⟩
abbrev cX6_less : ByteArray := prog_1_method_15_code
def yX6_less : MethodName := ⟨RX6, "less", "(I)I"⟩
abbrev cX6_count : ByteArray := prog_1_method_16_code
def yX6_count : MethodName := ⟨RX6, "count", "(I)J"⟩
abbrev cX6_first : ByteArray := prog_1_method_17_code
def yX6_first : MethodName := ⟨RX6, "first", "(II)J"⟩
abbrev cX6_weight : ByteArray := prog_1_method_18_code
def yX6_weight : MethodName := ⟨RX6, "weight", "(I)J"⟩
abbrev cX6_number : ByteArray := prog_1_method_19_code
def yX6_number : MethodName := ⟨RX6, "number", "(I)J"⟩
abbrev cX6_of : ByteArray := prog_1_method_20_code
def yX6_of : MethodName := ⟨RX6, "of", "(IIJ)Z"⟩
abbrev cX6_draw : ByteArray := prog_1_method_21_code
def yX6_draw : MethodName := ⟨RX6, "draw", "(IIJ)I"⟩
abbrev cX6_both : ByteArray := prog_1_method_22_code
def yX6_both : MethodName := ⟨RX6, "both", "(III)Z"⟩
abbrev cX6_either : ByteArray := prog_1_method_23_code
def yX6_either : MethodName := ⟨RX6, "either", "(III)Z"⟩
abbrev cX6_below : ByteArray := prog_1_method_24_code
def yX6_below : MethodName := ⟨RX6, "below", "(II)Z"⟩
abbrev cX6_apart : ByteArray := prog_1_method_25_code
def yX6_apart : MethodName := ⟨RX6, "apart", "(II)I"⟩
abbrev cX6_step : ByteArray := prog_1_method_26_code
def yX6_step : MethodName := ⟨RX6, "step", "(IIIZ)Z"⟩
abbrev cX6_toward : ByteArray := prog_1_method_27_code
def yX6_toward : MethodName := ⟨RX6, "toward", "(II)I"⟩
abbrev cX6_turn : ByteArray := prog_1_method_28_code
def yX6_turn : MethodName := ⟨RX6, "turn", "(I)Z"⟩
abbrev cX6_move : ByteArray := prog_1_method_29_code
def yX6_move : MethodName := ⟨RX6, "move", "(II)Z"⟩
abbrev cX6_alike : ByteArray := prog_1_method_30_code
def yX6_alike : MethodName := ⟨RX6, "alike", "(I)I"⟩
abbrev cX6_learnJoinings : ByteArray := prog_1_method_31_code
def yX6_learnJoinings : MethodName := ⟨RX6, "learnJoinings", "(I)V"⟩
abbrev cX6_tableOf : ByteArray := prog_1_method_32_code
def yX6_tableOf : MethodName := ⟨RX6, "tableOf", "(I)LSignBench$Table;"⟩
abbrev cX6_areOfOneSize : ByteArray := prog_1_method_33_code
def yX6_areOfOneSize : MethodName := ⟨RX6, "areOfOneSize", "(II)Z"⟩
abbrev cX6_isSize : ByteArray := prog_1_method_34_code
def yX6_isSize : MethodName := ⟨RX6, "isSize", "(I)Z"⟩
abbrev cX6_isWithin : ByteArray := prog_1_method_35_code
def yX6_isWithin : MethodName := ⟨RX6, "isWithin", "(III)Z"⟩
abbrev cX6_timesRatio : ByteArray := prog_1_method_36_code
def yX6_timesRatio : MethodName := ⟨RX6, "timesRatio", "(JII)J"⟩
abbrev cX6_bitsUpTo : ByteArray := prog_1_method_37_code
def yX6_bitsUpTo : MethodName := ⟨RX6, "bitsUpTo", "(J)J"⟩
def RX7 : String := "SignBenchModel"
def TX7 : u_T := fun k => match k with
  | 0 => ("SignBenchModel", "thrown", "I", false)
  | 1 => ("SignBenchModel", "sizes", "[I", true)
  | 2 => ("SignBenchModel", "tables", "[I", true)
  | 3 => ("SignBenchModel", "sort", "I", false)
  | 4 => ("SignBenchModel", "many", "I", false)
  | 5 => ("SignBenchModel", "draft", "[I", true)
  | 6 => ("SignBenchModel", "toI", "I", false)
  | 7 => ("SignBenchModel", "toJ", "I", false)
  | 8 => ("SignBenchModel", "seen", "[Z", true)
  | 9 => ("SignBenchModel", "ways", "[J", true)
  | 10 => ("SignBenchModel", "waysOf", "I", false)
  | 11 => ("SignBenchModel", "corners", "[I", true)
  | 12 => ("SignBenchModel", "level", "[Z", true)
  | _ => ("SignBenchModel", "upright", "[Z", true)
def tyX7 : Nat → FieldType := fun k => match k with
  | 0 => .int
  | 1 => .array .int
  | 2 => .array .int
  | 3 => .int
  | 4 => .int
  | 5 => .array .int
  | 6 => .int
  | 7 => .int
  | 8 => .array .boolean
  | 9 => .array .long
  | 10 => .int
  | 11 => .array .int
  | 12 => .array .boolean
  | _ => .array .boolean
abbrev wsX70 : List Cond := u_ws RX7 TX7 14
theorem nmX7 : ∀ a, a < 14 → ∀ b, b < 14 → a ≠ b → (TX7 a).2.1 ≠ (TX7 b).2.1 := by decide +kernel
theorem tyX7_ok : ∀ k, k < 14 → parseFieldDescriptor (TX7 k).2.2.1 = some (tyX7 k) := by decide +kernel
abbrev cX7_init : ByteArray := prog_9_method_1_code
def yX7_init : MethodName := ⟨RX7, "<init>", "()V"⟩
abbrev cX7_isPlace : ByteArray := prog_9_method_3_code
def yX7_isPlace : MethodName := ⟨RX7, "isPlace", "(I)Z"⟩
abbrev cX7_knows : ByteArray := prog_9_method_4_code
def yX7_knows : MethodName := ⟨RX7, "knows", "(I)Z"⟩
abbrev cX7_a : ByteArray := prog_9_method_5_code
def yX7_a : MethodName := ⟨RX7, "a", "(III)I"⟩
abbrev cX7_a_ : ByteArray := prog_9_method_6_code
def yX7_a_ : MethodName := ⟨RX7, "a", "(IIII)V"⟩
abbrev cX7_begin : ByteArray := prog_9_method_7_code
def yX7_begin : MethodName := ⟨RX7, "begin", "(II)Z"⟩
abbrev cX7_put : ByteArray := prog_9_method_8_code
def yX7_put : MethodName := ⟨RX7, "put", "(III)Z"⟩
abbrev cX7_d : ByteArray := prog_9_method_9_code
def yX7_d : MethodName := ⟨RX7, "d", "(II)I"⟩
abbrev cX7_isRight : ByteArray := prog_9_method_10_code
def yX7_isRight : MethodName := ⟨RX7, "isRight", "(IZ)Z"⟩
abbrev cX7_faultOfSums : ByteArray := prog_9_method_11_code
def yX7_faultOfSums : MethodName := ⟨RX7, "faultOfSums", "()I"⟩
abbrev cX7_faultOfTriangle : ByteArray := prog_9_method_12_code
def yX7_faultOfTriangle : MethodName := ⟨RX7, "faultOfTriangle", "()I"⟩
abbrev cX7_fault : ByteArray := prog_9_method_13_code
def yX7_fault : MethodName := ⟨RX7, "fault", "()I"⟩
abbrev cX7_take : ByteArray := prog_9_method_14_code
def yX7_take : MethodName := ⟨RX7, "take", "(I)Z"⟩
abbrev cX7_inRow : ByteArray := prog_9_method_15_code
def yX7_inRow : MethodName := ⟨RX7, "inRow", "(II)I"⟩
abbrev cX7_size : ByteArray := prog_9_method_16_code
def yX7_size : MethodName := ⟨RX7, "size", "(I)I"⟩
abbrev cX7_isIn : ByteArray := prog_9_method_17_code
def yX7_isIn : MethodName := ⟨RX7, "isIn", "(IIII)Z"⟩
abbrev cX7_at : ByteArray := prog_9_method_18_code
def yX7_at : MethodName := ⟨RX7, "at", "(III)I"⟩
abbrev cX7_corner : ByteArray := prog_9_method_19_code
def yX7_corner : MethodName := ⟨RX7, "corner", "(III)I"⟩
abbrev cX7_sum : ByteArray := prog_9_method_20_code
def yX7_sum : MethodName := ⟨RX7, "sum", "(III)I"⟩
abbrev cX7_rowOf : ByteArray := prog_9_method_21_code
def yX7_rowOf : MethodName := ⟨RX7, "rowOf", "(II)I"⟩
abbrev cX7_nth : ByteArray := prog_9_method_22_code
def yX7_nth : MethodName := ⟨RX7, "nth", "(II)I"⟩
abbrev cX7_triangle : ByteArray := prog_9_method_23_code
def yX7_triangle : MethodName := ⟨RX7, "triangle", "(III)I"⟩
abbrev cX7_points : ByteArray := prog_9_method_24_code
def yX7_points : MethodName := ⟨RX7, "points", "(IZII)Z"⟩
abbrev cX7_isEdge : ByteArray := prog_9_method_25_code
def yX7_isEdge : MethodName := ⟨RX7, "isEdge", "(IZII)Z"⟩
abbrev cX7_arrow : ByteArray := prog_9_method_26_code
def yX7_arrow : MethodName := ⟨RX7, "arrow", "(IZII)I"⟩
abbrev cX7_isHeld : ByteArray := prog_9_method_27_code
def yX7_isHeld : MethodName := ⟨RX7, "isHeld", "(IZII)Z"⟩
abbrev cX7_held : ByteArray := prog_9_method_28_code
def yX7_held : MethodName := ⟨RX7, "held", "(IZII)I"⟩
abbrev cX7_edge : ByteArray := prog_9_method_29_code
def yX7_edge : MethodName := ⟨RX7, "edge", "(ZII)I"⟩
abbrev cX7_end : ByteArray := prog_9_method_30_code
def yX7_end : MethodName := ⟨RX7, "end", "(II)I"⟩
abbrev cX7_next : ByteArray := prog_9_method_31_code
def yX7_next : MethodName := ⟨RX7, "next", "(IIII)I"⟩
abbrev cX7_isInside : ByteArray := prog_9_method_32_code
def yX7_isInside : MethodName := ⟨RX7, "isInside", "(III)Z"⟩
abbrev cX7_leaves : ByteArray := prog_9_method_33_code
def yX7_leaves : MethodName := ⟨RX7, "leaves", "(II)I"⟩
abbrev cX7_joined : ByteArray := prog_9_method_34_code
def yX7_joined : MethodName := ⟨RX7, "joined", "(II)I"⟩
abbrev cX7_link : ByteArray := prog_9_method_35_code
def yX7_link : MethodName := ⟨RX7, "link", "(II)I"⟩
abbrev cX7_rings : ByteArray := prog_9_method_36_code
def yX7_rings : MethodName := ⟨RX7, "rings", "(I)I"⟩
abbrev cX7_stays : ByteArray := prog_9_method_37_code
def yX7_stays : MethodName := ⟨RX7, "stays", "(II)Z"⟩
abbrev cX7_lessOf : ByteArray := prog_9_method_38_code
def yX7_lessOf : MethodName := ⟨RX7, "lessOf", "(I)I"⟩
abbrev cX7_kind : ByteArray := prog_9_method_39_code
def yX7_kind : MethodName := ⟨RX7, "kind", "(I)I"⟩
abbrev cX7_less : ByteArray := prog_9_method_40_code
def yX7_less : MethodName := ⟨RX7, "less", "(I)I"⟩
abbrev cX7_bits : ByteArray := prog_9_method_41_code
def yX7_bits : MethodName := ⟨RX7, "bits", "(I)I"⟩
abbrev cX7_fits : ByteArray := prog_9_method_42_code
def yX7_fits : MethodName := ⟨RX7, "fits", "(II)Z"⟩
abbrev cX7_work : ByteArray := prog_9_method_43_code
def yX7_work : MethodName := ⟨RX7, "work", "(I)V"⟩
abbrev cX7_below : ByteArray := prog_9_method_44_code
def yX7_below : MethodName := ⟨RX7, "below", "(IIIII)J"⟩
abbrev cX7_all : ByteArray := prog_9_method_45_code
def yX7_all : MethodName := ⟨RX7, "all", "(I)J"⟩
abbrev cX7_count : ByteArray := prog_9_method_46_code
def yX7_count : MethodName := ⟨RX7, "count", "(I)J"⟩
abbrev cX7_first : ByteArray := prog_9_method_47_code
def yX7_first : MethodName := ⟨RX7, "first", "(II)J"⟩
abbrev cX7_weight : ByteArray := prog_9_method_48_code
def yX7_weight : MethodName := ⟨RX7, "weight", "(I)J"⟩
abbrev cX7_isAhead : ByteArray := prog_9_method_49_code
def yX7_isAhead : MethodName := ⟨RX7, "isAhead", "(II)Z"⟩
abbrev cX7_mayFollow : ByteArray := prog_9_method_50_code
def yX7_mayFollow : MethodName := ⟨RX7, "mayFollow", "(III)Z"⟩
abbrev cX7_numberOf : ByteArray := prog_9_method_51_code
def yX7_numberOf : MethodName := ⟨RX7, "numberOf", "(I)J"⟩
abbrev cX7_number : ByteArray := prog_9_method_52_code
def yX7_number : MethodName := ⟨RX7, "number", "(I)J"⟩
abbrev cX7_becomes : ByteArray := prog_9_method_53_code
def yX7_becomes : MethodName := ⟨RX7, "becomes", "(IIJ)V"⟩
abbrev cX7_firstRow : ByteArray := prog_9_method_54_code
def yX7_firstRow : MethodName := ⟨RX7, "firstRow", "(III)I"⟩
abbrev cX7_nextRow : ByteArray := prog_9_method_55_code
def yX7_nextRow : MethodName := ⟨RX7, "nextRow", "(IIII)I"⟩
abbrev cX7_of : ByteArray := prog_9_method_56_code
def yX7_of : MethodName := ⟨RX7, "of", "(IIJ)Z"⟩
abbrev cX7_draw : ByteArray := prog_9_method_57_code
def yX7_draw : MethodName := ⟨RX7, "draw", "(IIJ)I"⟩
abbrev cX7_fromCorners : ByteArray := prog_9_method_58_code
def yX7_fromCorners : MethodName := ⟨RX7, "fromCorners", "(II)V"⟩
abbrev cX7_meets : ByteArray := prog_9_method_59_code
def yX7_meets : MethodName := ⟨RX7, "meets", "(IIIZ)Z"⟩
abbrev cX7_both : ByteArray := prog_9_method_60_code
def yX7_both : MethodName := ⟨RX7, "both", "(III)Z"⟩
abbrev cX7_either : ByteArray := prog_9_method_61_code
def yX7_either : MethodName := ⟨RX7, "either", "(III)Z"⟩
abbrev cX7_below_ : ByteArray := prog_9_method_62_code
def yX7_below_ : MethodName := ⟨RX7, "below", "(II)Z"⟩
abbrev cX7_apart : ByteArray := prog_9_method_63_code
def yX7_apart : MethodName := ⟨RX7, "apart", "(II)I"⟩
abbrev cX7_mayBe : ByteArray := prog_9_method_64_code
def yX7_mayBe : MethodName := ⟨RX7, "mayBe", "(IIII)Z"⟩
abbrev cX7_changes : ByteArray := prog_9_method_65_code
def yX7_changes : MethodName := ⟨RX7, "changes", "(IIII)V"⟩
abbrev cX7_step : ByteArray := prog_9_method_66_code
def yX7_step : MethodName := ⟨RX7, "step", "(IIIZ)Z"⟩
abbrev cX7_toward : ByteArray := prog_9_method_67_code
def yX7_toward : MethodName := ⟨RX7, "toward", "(II)I"⟩
abbrev cX7_turns : ByteArray := prog_9_method_68_code
def yX7_turns : MethodName := ⟨RX7, "turns", "(II)V"⟩
abbrev cX7_turn : ByteArray := prog_9_method_69_code
def yX7_turn : MethodName := ⟨RX7, "turn", "(I)Z"⟩
abbrev cX7_move : ByteArray := prog_9_method_70_code
def yX7_move : MethodName := ⟨RX7, "move", "(II)Z"⟩
abbrev cX7_alike : ByteArray := prog_9_method_71_code
def yX7_alike : MethodName := ⟨RX7, "alike", "(I)I"⟩
def RJ6 : String := "java/lang/Integer"
abbrev cJ6_compare_7cf53 : ByteArray := prog_10_method_40_code
def yJ6_compare_7cf53 : MethodName := ⟨RJ6, "compare", "(II)I"⟩
def RJ9 : String := "java/lang/Math"
abbrev cJ9_abs_0f7a4 : ByteArray := prog_11_method_59_code
def yJ9_abs_0f7a4 : MethodName := ⟨RJ9, "abs", "(I)I"⟩
abbrev cJ9_max_7cf53 : ByteArray := prog_11_method_65_code
def yJ9_max_7cf53 : MethodName := ⟨RJ9, "max", "(II)I"⟩
abbrev cJ9_min_7cf53 : ByteArray := prog_11_method_69_code
def yJ9_min_7cf53 : MethodName := ⟨RJ9, "min", "(II)I"⟩
def RJ10 : String := "java/lang/System"
def RL : String := "SignBenchLaw"
abbrev cL_law : ByteArray := code
def yL_law : MethodName := ⟨RL, "law", "([I)Z"⟩
abbrev vwCl : List vw_C := [(RX0, TX0, 3), (RX1, TX1, 2), (RX2, TX2, 5), (RX3, TX3, 3), (RX4, TX4, 6), (RX5, TX5, 2), (RX6, TX6, 6), (RX7, TX7, 14)]
end
section
/-! tables of the landed code, by program -/
def xclsL : List Nat := [6, 99, 5, 99, 0, 99, 3, 99, 99, 4, 99, 99, 99, 2, 99, 1, 99, 99, 5, 99, 5, 99, 5, 99, 5, 99, 5, 99, 5, 99, 5, 99, 5, 99, 7, 99, 99, 99, 99, 99, 99, 99, 99]
def xakL : List Nat := [0, 4, 0, 1, 0, 1, 0, 3, 2, 0, 1, 1, 1, 0, 1, 0, 3, 2, 0, 1, 0, 1, 0, 1, 0, 1, 0, 1, 0, 1, 0, 1, 0, 1, 0, 1, 1, 1, 2, 3, 1, 2, 2]
def xlnL : List Nat := [0, 8, 0, 121, 0, 121, 0, 2048, 11, 0, 11, 11, 11, 0, 100, 0, 481, 6, 0, 121, 0, 121, 0, 121, 0, 121, 0, 121, 0, 121, 0, 121, 0, 121, 0, 8, 800, 121, 100, 8192, 121, 121, 121]
abbrev D_new : Nat := 0
abbrev D_clear : Nat := 1
abbrev D_has : Nat := 2
abbrev D_write : Nat := 3
abbrev D_cell : Nat := 4
abbrev D_firstFault : Nat := 5
abbrev D_firstLineFault : Nat := 6
abbrev D_alternates : Nat := 7
abbrev D_firstCellFault : Nat := 8
abbrev D_isCornerSum : Nat := 9
abbrev D_isColumn : Nat := 10
abbrev D_copyTo : Nat := 11
abbrev D_triangleBits : Nat := 12
abbrev G_new : Nat := 13
abbrev G_knows : Nat := 14
abbrev G_learn : Nat := 15
abbrev G_finish : Nat := 16
abbrev G_howMany : Nat := 17
abbrev O_new : Nat := 18
abbrev O_otherEnd : Nat := 19
abbrev O_ringsOf : Nat := 20
abbrev O_joiningOf : Nat := 21
abbrev O_isSeen : Nat := 22
abbrev O_goRound : Nat := 23
abbrev O_follow : Nat := 24
abbrev O_nextHeldSide : Nat := 25
abbrev O_holdsSide : Nat := 26
abbrev O_goToEnd : Nat := 27
abbrev O_endHere : Nat := 28
abbrev U_new : Nat := 29
abbrev U_numberOf : Nat := 30
abbrev U_build : Nat := 31
abbrev U_passWays : Nat := 32
abbrev U_waysBefore : Nat := 33
abbrev U_learnWays : Nat := 34
abbrev K_new : Nat := 35
abbrev K_start : Nat := 36
abbrev K_advance : Nat := 37
abbrev K_layFrom : Nat := 38
abbrev K_bitOf : Nat := 39
abbrev T_new : Nat := 40
abbrev T_corner : Nat := 41
abbrev T_entry : Nat := 42
abbrev T_triangleColumn : Nat := 43
abbrev T_rowBits : Nat := 44
abbrev T_hasEdge : Nat := 45
abbrev T_edgeSum : Nat := 46
abbrev T_holds : Nat := 47
abbrev T_minusOnes : Nat := 48
abbrev T_kindOf : Nat := 49
abbrev T_staysWhen : Nat := 50
abbrev T_movedEntry : Nat := 51
abbrev T_isBelow : Nat := 52
abbrev T_stepsTo : Nat := 53
abbrev T_stepToward : Nat := 54
abbrev T_shift : Nat := 55
abbrev T_rises : Nat := 56
abbrev T_turnSquares : Nat := 57
abbrev T_become : Nat := 58
abbrev T_becomeExtreme : Nat := 59
abbrev T_becomeMoved : Nat := 60
abbrev T_layRow : Nat := 61
abbrev B_new : Nat := 62
abbrev B_begin : Nat := 63
abbrev B_put : Nat := 64
abbrev B_fault : Nat := 65
abbrev B_take : Nat := 66
abbrev B_size : Nat := 67
abbrev B_at : Nat := 68
abbrev B_sum : Nat := 69
abbrev B_triangle : Nat := 70
abbrev B_arrow : Nat := 71
abbrev B_held : Nat := 72
abbrev B_link : Nat := 73
abbrev B_rings : Nat := 74
abbrev B_kind : Nat := 75
abbrev B_less : Nat := 76
abbrev B_count : Nat := 77
abbrev B_first : Nat := 78
abbrev B_weight : Nat := 79
abbrev B_number : Nat := 80
abbrev B_of : Nat := 81
abbrev B_draw : Nat := 82
abbrev B_both : Nat := 83
abbrev B_either : Nat := 84
abbrev B_below : Nat := 85
abbrev B_apart : Nat := 86
abbrev B_step : Nat := 87
abbrev B_toward : Nat := 88
abbrev B_turn : Nat := 89
abbrev B_move : Nat := 90
abbrev B_alike : Nat := 91
abbrev B_learnJoinings : Nat := 92
abbrev B_tableOf : Nat := 93
abbrev B_areOfOneSize : Nat := 94
abbrev B_isSize : Nat := 95
abbrev B_isWithin : Nat := 96
abbrev B_timesRatio : Nat := 97
abbrev B_bitsUpTo : Nat := 98
abbrev M_new : Nat := 99
abbrev M_isPlace : Nat := 100
abbrev M_knows : Nat := 101
abbrev M_a : Nat := 102
abbrev M_a_ : Nat := 103
abbrev M_begin : Nat := 104
abbrev M_put : Nat := 105
abbrev M_d : Nat := 106
abbrev M_isRight : Nat := 107
abbrev M_faultOfSums : Nat := 108
abbrev M_faultOfTriangle : Nat := 109
abbrev M_fault : Nat := 110
abbrev M_take : Nat := 111
abbrev M_inRow : Nat := 112
abbrev M_size : Nat := 113
abbrev M_isIn : Nat := 114
abbrev M_at : Nat := 115
abbrev M_corner : Nat := 116
abbrev M_sum : Nat := 117
abbrev M_rowOf : Nat := 118
abbrev M_nth : Nat := 119
abbrev M_triangle : Nat := 120
abbrev M_points : Nat := 121
abbrev M_isEdge : Nat := 122
abbrev M_arrow : Nat := 123
abbrev M_isHeld : Nat := 124
abbrev M_held : Nat := 125
abbrev M_edge : Nat := 126
abbrev M_end : Nat := 127
abbrev M_next : Nat := 128
abbrev M_isInside : Nat := 129
abbrev M_leaves : Nat := 130
abbrev M_joined : Nat := 131
abbrev M_link : Nat := 132
abbrev M_rings : Nat := 133
abbrev M_stays : Nat := 134
abbrev M_lessOf : Nat := 135
abbrev M_kind : Nat := 136
abbrev M_less : Nat := 137
abbrev M_bits : Nat := 138
abbrev M_fits : Nat := 139
abbrev M_work : Nat := 140
abbrev M_below : Nat := 141
abbrev M_all : Nat := 142
abbrev M_count : Nat := 143
abbrev M_first : Nat := 144
abbrev M_weight : Nat := 145
abbrev M_isAhead : Nat := 146
abbrev M_mayFollow : Nat := 147
abbrev M_numberOf : Nat := 148
abbrev M_number : Nat := 149
abbrev M_becomes : Nat := 150
abbrev M_firstRow : Nat := 151
abbrev M_nextRow : Nat := 152
abbrev M_of : Nat := 153
abbrev M_draw : Nat := 154
abbrev M_fromCorners : Nat := 155
abbrev M_meets : Nat := 156
abbrev M_both : Nat := 157
abbrev M_either : Nat := 158
abbrev M_below_ : Nat := 159
abbrev M_apart : Nat := 160
abbrev M_mayBe : Nat := 161
abbrev M_changes : Nat := 162
abbrev M_step : Nat := 163
abbrev M_toward : Nat := 164
abbrev M_turns : Nat := 165
abbrev M_turn : Nat := 166
abbrev M_move : Nat := 167
abbrev M_alike : Nat := 168
abbrev Y_J6_compare_7cf53 : Nat := 169
abbrev Z_J9_abs_0f7a4 : Nat := 170
abbrev Z_J9_max_7cf53 : Nat := 171
abbrev Z_J9_min_7cf53 : Nat := 172
abbrev L_law : Nat := 173
def xBelow : Nat := 141
def xTab : Nat := 5
def xcalLT : List (List (Nat × Nat)) := [[(22, 96), (26, 6), (30, 8), (33, 7), (37, 2), (40, 9), (43, 10), (46, 4), (50, 56), (56, 12), (59, 61)], [], [(24, 27), (28, 24), (32, 28), (36, 22), (40, 23), (50, 25), (63, 96), (67, 26), (71, 47)], [(21, 35), (32, 34), (36, 44), (40, 33), (44, 36), (48, 32), (55, 61), (58, 37)], [(28, 172), (37, 38), (41, 39), (45, 171)], [(19, 46), (23, 96), (27, 41), (31, 42), (34, 48), (38, 50), (42, 51), (46, 170), (52, 55), (55, 56), (65, 171), (68, 172)], [(15, 40), (22, 0), (29, 29), (36, 18), (43, 13), (48, 95), (52, 1), (56, 2), (60, 3), (64, 5), (68, 93), (72, 11), (80, 96), (84, 42), (88, 41), (91, 43), (94, 45), (98, 46), (102, 47), (105, 19), (109, 20), (113, 49), (116, 48), (125, 97), (129, 30), (133, 31), (137, 98), (145, 94), (148, 59), (152, 52), (156, 53), (159, 55), (162, 54), (165, 57), (169, 60), (173, 58), (176, 14), (179, 92), (182, 21), (185, 17), (189, 15), (193, 16)], [(46, 100), (53, 106), (57, 108), (61, 109), (64, 107), (68, 101), (71, 110), (74, 112), (77, 103), (81, 114), (85, 102), (88, 116), (91, 118), (94, 119), (97, 122), (101, 121), (104, 124), (107, 126), (117, 129), (121, 128), (125, 127), (128, 130), (131, 131), (134, 135), (138, 134), (142, 138), (145, 141), (149, 140), (155, 142), (159, 139), (162, 147), (165, 146), (168, 148), (171, 151), (174, 152), (177, 150), (185, 171), (190, 172), (193, 155), (197, 156), (201, 170), (204, 161), (207, 162), (210, 169), (215, 165)], [(9, 62), (12, 99), (13, 63), (17, 104), (18, 64), (22, 105), (23, 65), (27, 110), (28, 66), (32, 111), (33, 67), (37, 113), (38, 68), (42, 115), (43, 69), (46, 117), (47, 70), (50, 120), (51, 71), (55, 123), (56, 72), (59, 125), (60, 73), (64, 132), (65, 74), (68, 133), (69, 75), (72, 136), (73, 76), (76, 137), (77, 77), (81, 143), (82, 78), (86, 144), (87, 79), (90, 145), (91, 80), (94, 149), (97, 81), (101, 153), (102, 82), (106, 154), (107, 83), (110, 157), (111, 84), (114, 158), (115, 85), (118, 159), (119, 86), (122, 160), (123, 87), (127, 163), (128, 88), (131, 164), (132, 89), (135, 166), (136, 90), (139, 167), (140, 91), (143, 168)], [], []]
def xcalL (c idx : Nat) : Option Nat := List.lookup idx (xcalLT.getD c [])
def xfldT : List (List (Nat × (Nat × Nat))) := [[(11, (0, 0)), (15, (0, 1)), (19, (0, 2)), (55, (5, 1))], [(9, (1, 0)), (15, (1, 1))], [(9, (2, 0)), (15, (2, 1)), (19, (5, 1)), (44, (2, 2)), (47, (2, 3)), (54, (2, 4))], [(9, (3, 0)), (15, (3, 1)), (22, (3, 2)), (26, (5, 1)), (52, (4, 5))], [(9, (4, 0)), (15, (4, 1)), (18, (4, 2)), (21, (4, 3)), (25, (4, 4)), (34, (4, 5))], [(11, (5, 0)), (15, (5, 1))], [(11, (6, 0)), (16, (6, 1)), (23, (6, 2)), (30, (6, 3)), (37, (6, 4)), (44, (6, 5)), (76, (5, 1))], [(9, (7, 1)), (13, (7, 2)), (16, (7, 4)), (20, (7, 5)), (23, (7, 8)), (27, (7, 9)), (31, (7, 10)), (34, (7, 11)), (37, (7, 12)), (40, (7, 13)), (43, (7, 0)), (50, (7, 3)), (111, (7, 6)), (114, (7, 7))], [], [], []]
def xfld (c idx : Nat) : Option (Nat × Nat) := List.lookup idx (xfldT.getD c [])
def xstaT : List (List (Nat × Nat)) := [[], [(19, 3)], [(57, 1), (60, 2)], [], [], [], [(119, 0)], [], [], [], []]
def xsta (c idx : Nat) : Option Nat := List.lookup idx (xstaT.getD c [])
def xldcT : List (List (Nat × Int)) := [[], [], [], [], [], [], [(123, (-1)), (141, 6364136223846793005), (143, 1442695040888963407), (196, 2)], [(153, (-1)), (181, 6364136223846793005), (183, 1442695040888963407)], [(95, 4294967295)], [], []]
def xldc (c idx : Nat) : Option Int := List.lookup idx (xldcT.getD c [])
def xnwT : List (List (Nat × (Nat × Nat))) := [[], [], [], [(19, (4, 6))], [], [], [(9, (5, 2)), (20, (0, 3)), (27, (3, 3)), (34, (2, 5)), (41, (1, 2))], [], [(7, (6, 6)), (10, (7, 14))], [], []]
def xnw (c idx : Nat) : Option (Nat × Nat) := List.lookup idx (xnwT.getD c [])
def xobjT : List (List Nat) := [[3], [3], [3], [3], [3], [3], [1], [1], [], [], []]
def xobj (c idx : Nat) : Bool := List.elem idx (xobjT.getD c [])
def xcpyT : List (List Nat) := [[], [], [], [], [], [59], [], [], [], [], []]
def xcpy (c idx : Nat) : Bool := List.elem idx (xcpyT.getD c [])
def xNfL : List Nat := [3, 2, 5, 3, 6, 2, 6, 14]
def xNf (ci : Nat) : Nat := xNfL.getD ci 0
def xfint (ci f : Nat) : Bool := match ci with
  | 0 => (([false, true, true] : List Bool)[f]?).getD false
  | 1 => (([false, false] : List Bool)[f]?).getD false
  | 2 => (([false, true, true, true, true] : List Bool)[f]?).getD false
  | 3 => (([false, false, false] : List Bool)[f]?).getD false
  | 4 => (([false, false, false, true, true, true] : List Bool)[f]?).getD false
  | 5 => (([false, true] : List Bool)[f]?).getD false
  | 6 => (([false, false, false, false, false, false] : List Bool)[f]?).getD false
  | 7 => (([true, false, false, true, true, false, true, true, false, false, true, false, false, false] : List Bool)[f]?).getD false
  | _ => false
def xkdL : List Nat := [2, 0, 0, 0, 0, 0, 0, 0, 0, 0, 0, 0, 0, 2, 0, 0, 0, 0, 2, 0, 0, 0, 0, 0, 0, 0, 0, 0, 0, 2, 0, 0, 0, 0, 0, 2, 0, 0, 0, 0, 2, 0, 0, 0, 0, 0, 0, 0, 0, 0, 0, 0, 0, 0, 0, 0, 1, 0, 0, 0, 0, 0, 2, 0, 0, 0, 0, 0, 0, 0, 0, 0, 0, 0, 0, 0, 0, 0, 0, 0, 0, 0, 0, 0, 0, 0, 0, 0, 0, 0, 0, 0, 0, 0, 0, 1, 1, 1, 1, 2, 1, 0, 0, 0, 0, 0, 0, 0, 0, 0, 0, 0, 0, 0, 0, 0, 0, 0, 0, 1, 0, 0, 0, 0, 0, 0, 1, 0, 0, 0, 0, 0, 0, 0, 0, 0, 0, 0, 1, 1, 0, 0, 0, 0, 0, 0, 1, 0, 0, 0, 0, 0, 0, 0, 0, 0, 0, 0, 0, 0, 0, 0, 0, 0, 0, 0, 0, 0, 0, 1, 1, 1, 1, 1]
def xkd (id : Nat) : Nat := xkdL.getD id 0
def xownL : List Nat := [0, 0, 0, 0, 0, 0, 0, 0, 0, 0, 0, 0, 0, 1, 1, 1, 1, 1, 2, 2, 2, 2, 2, 2, 2, 2, 2, 2, 2, 3, 3, 3, 3, 3, 3, 4, 4, 4, 4, 4, 5, 5, 5, 5, 5, 5, 5, 5, 5, 5, 5, 5, 5, 5, 5, 5, 5, 5, 5, 5, 5, 5, 6, 6, 6, 6, 6, 6, 6, 6, 6, 6, 6, 6, 6, 6, 6, 6, 6, 6, 6, 6, 6, 6, 6, 6, 6, 6, 6, 6, 6, 6, 6, 6, 6, 6, 6, 6, 6, 7, 7, 7, 7, 7, 7, 7, 7, 7, 7, 7, 7, 7, 7, 7, 7, 7, 7, 7, 7, 7, 7, 7, 7, 7, 7, 7, 7, 7, 7, 7, 7, 7, 7, 7, 7, 7, 7, 7, 7, 7, 7, 7, 7, 7, 7, 7, 7, 7, 7, 7, 7, 7, 7, 7, 7, 7, 7, 7, 7, 7, 7, 7, 7, 7, 7, 7, 7, 7, 7, 10, 9, 9, 9, 8]
def xown (id : Nat) : Nat := xownL.getD id 99
def xrtyL : List Nat := [0, 0, 1, 0, 1, 1, 1, 1, 1, 1, 1, 0, 1, 0, 1, 0, 0, 1, 0, 1, 1, 2, 1, 0, 1, 1, 1, 0, 1, 0, 2, 0, 2, 2, 0, 0, 0, 1, 0, 1, 0, 1, 1, 1, 1, 1, 1, 1, 1, 1, 1, 1, 1, 1, 1, 1, 1, 0, 0, 0, 0, 0, 0, 1, 1, 1, 1, 1, 1, 1, 1, 1, 1, 1, 1, 1, 1, 2, 2, 2, 2, 1, 1, 1, 1, 1, 1, 1, 1, 1, 1, 1, 0, 3, 1, 1, 1, 2, 2, 0, 1, 1, 1, 0, 1, 1, 1, 1, 1, 1, 1, 1, 1, 1, 1, 1, 1, 1, 1, 1, 1, 1, 1, 1, 1, 1, 1, 1, 1, 1, 1, 1, 1, 1, 1, 1, 1, 1, 1, 1, 0, 2, 2, 2, 2, 2, 1, 1, 2, 2, 0, 1, 1, 1, 1, 0, 1, 1, 1, 1, 1, 1, 0, 1, 1, 0, 1, 1, 1, 1, 1, 1, 1, 1]
def xrty (id : Nat) : Nat := xrtyL.getD id 0
def xnarL : List Nat := [0, 2, 2, 3, 2, 0, 0, 2, 0, 2, 2, 1, 2, 0, 1, 3, 1, 2, 0, 2, 1, 1, 2, 3, 1, 2, 2, 2, 1, 0, 1, 3, 2, 3, 1, 0, 2, 0, 2, 1, 0, 2, 2, 2, 1, 3, 3, 3, 0, 0, 1, 3, 1, 1, 1, 3, 2, 1, 1, 3, 2, 2, 0, 2, 3, 0, 1, 1, 3, 3, 3, 4, 4, 2, 1, 1, 1, 1, 2, 1, 1, 3, 3, 3, 3, 2, 2, 4, 2, 1, 2, 1, 1, 1, 2, 1, 3, 3, 1, 0, 1, 1, 3, 4, 2, 3, 2, 2, 0, 0, 0, 1, 2, 1, 4, 3, 3, 3, 2, 2, 3, 4, 4, 4, 4, 4, 3, 2, 4, 3, 2, 2, 2, 1, 2, 1, 1, 1, 1, 2, 1, 5, 1, 1, 2, 1, 2, 3, 1, 1, 3, 3, 4, 3, 3, 2, 4, 3, 3, 2, 2, 4, 4, 4, 2, 2, 1, 2, 1, 2, 1, 2, 2, 1]
def xnar (id : Nat) : Nat := xnarL.getD id 0
def xmaxLL : List Nat := [1, 4, 3, 4, 3, 1, 2, 6, 3, 4, 4, 4, 6, 1, 2, 5, 2, 6, 1, 3, 6, 6, 3, 4, 5, 4, 3, 5, 2, 1, 8, 9, 10, 8, 5, 1, 4, 2, 5, 2, 1, 3, 3, 5, 4, 4, 4, 5, 4, 1, 4, 5, 4, 5, 5, 5, 2, 4, 2, 7, 6, 5, 2, 3, 4, 1, 3, 3, 5, 5, 5, 6, 6, 4, 3, 3, 3, 2, 6, 2, 3, 6, 13, 5, 5, 3, 3, 6, 3, 3, 4, 3, 3, 2, 5, 1, 3, 4, 5, 2, 1, 2, 4, 5, 4, 5, 3, 6, 5, 5, 2, 5, 5, 2, 5, 4, 7, 4, 7, 4, 4, 7, 6, 5, 6, 5, 3, 10, 10, 4, 8, 5, 3, 9, 8, 5, 3, 2, 3, 7, 5, 11, 5, 2, 3, 2, 3, 4, 9, 2, 11, 6, 7, 5, 13, 5, 10, 4, 4, 6, 6, 10, 5, 6, 8, 10, 8, 7, 12, 2, 1, 2, 2, 4]
def xmaxL (id : Nat) : Nat := xmaxLL.getD id 0
def xrzL : List Bool := [false, false, true, false, false, false, false, true, false, true, true, false, false, false, true, false, false, false, false, false, false, false, true, false, true, false, true, false, false, false, false, false, false, false, false, false, false, true, false, false, false, false, false, false, false, true, false, true, false, false, true, false, true, false, false, true, true, false, false, false, false, false, false, true, true, false, true, false, false, false, false, false, false, false, false, false, false, false, false, false, false, true, false, true, true, true, false, true, false, true, true, false, false, false, true, true, true, false, false, false, true, true, false, false, true, true, false, true, false, false, false, true, false, false, true, false, false, false, false, false, false, true, true, false, true, false, false, false, false, true, false, false, false, false, true, false, false, false, false, true, false, false, false, false, false, false, true, true, false, false, false, false, false, true, false, false, true, true, true, true, false, true, false, true, false, false, true, true, false, false, false, false, false, true]
def xrz (id : Nat) : Bool := xrzL.getD id false
def xdepL : List Nat := [1, 0, 1, 0, 0, 3, 1, 0, 2, 1, 1, 2, 1, 1, 0, 0, 0, 0, 1, 6, 7, 6, 0, 6, 5, 4, 3, 0, 0, 2, 5, 5, 3, 3, 4, 1, 2, 2, 1, 0, 1, 0, 2, 2, 2, 1, 1, 2, 3, 5, 4, 3, 1, 1, 2, 1, 0, 2, 1, 1, 4, 0, 3, 2, 2, 4, 4, 2, 3, 2, 3, 2, 3, 7, 8, 6, 4, 1, 1, 1, 6, 6, 6, 3, 3, 3, 3, 2, 3, 3, 5, 8, 7, 1, 2, 1, 0, 0, 0, 1, 0, 1, 0, 0, 0, 0, 0, 1, 1, 1, 2, 3, 1, 2, 0, 2, 1, 2, 1, 0, 2, 1, 0, 2, 2, 3, 0, 3, 3, 0, 4, 5, 6, 5, 1, 1, 2, 2, 0, 0, 14, 0, 15, 16, 15, 0, 0, 1, 15, 16, 15, 2, 2, 16, 16, 1, 2, 3, 3, 2, 2, 2, 1, 3, 3, 0, 3, 2, 16, 0, 0, 0, 0, 17]
def xdep (id : Nat) : Nat := xdepL.getD id 0
def xbud (id : Nat) : Nat × Nat := (List.lookup id [(0, (1, 121)), (13, (2, 487)), (18, (1, 100)), (29, (6, 2098)), (35, (3, 33)), (40, (1, 121)), (62, (33, 3934)), (99, (8, 9584)), (167, (1, 100)), (168, (2, 35)), (173, (600000, 7302250))]).getD (0, 0)
def xlok (n N : Nat) : Bool := match xlnL[n]? with
  | some k => k == N
  | none => true
def xatk (t : ArrayType) : Nat := match t with
  | .int => 1
  | .boolean => 2
  | .long => 3
  | _ => 0
def xslL : List Int := [1, 1, 2, 7, 42, 429, 7436, 218348, 10850216, 911835460, 129534272700, 31095744852375, 12611311859677500, 8639383518297652500]
def xsl (i : Nat) : Int := xslL.getD i 0
def xsiL (t : Nat) : List Int := match t with
  | 1 => [(-1), 0, 1, 0]
  | 2 => [0, 1, 0, (-1)]
  | 3 => [0, 0, 1, 3, 10, 52, 481]
  | _ => []
def xsi (t i : Nat) : Int := (xsiL t).getD i 0
def xsiN (t : Nat) : Nat := (xsiL t).length
def bk_D_new : List (Nat × List Instr) := [(0, [.aload_n 0, .invokespecial 3, .aload_n 0, .bipush 121, .newarray .int, .putfield 11, .aload_n 0, .iconst 0, .putfield 15, .aload_n 0, .iconst 1, .putfield 19, .return_])]
def bk_D_clear : List (Nat × List Instr) := [(0, [.aload_n 0, .iload_n 1, .putfield 15, .aload_n 0, .iload_n 2, .putfield 19, .iconst 0, .istore_n 3]),
  (12, [.iload_n 3, .bipush 121, .if_icmp .ge 16, .aload_n 0, .getfield 11, .iload_n 3, .iconst 0, .iastore, .iinc 3 1, .goto (-16)]),
  (31, [.return_])]
def bk_D_has : List (Nat × List Instr) := [(0, [.aload_n 0, .getfield 15, .lookupswitch 92 #[(0, 28), (1, 62)]]),
  (32, [.iload_n 1, .iconst 0, .aload_n 0, .getfield 19, .iconst 1, .isub, .invokestatic 22, .ifCond .eq 21, .iload_n 2, .iconst 0, .aload_n 0, .getfield 19, .iconst 1, .isub, .invokestatic 22, .ifCond .eq 7, .iconst 1, .goto 4]),
  (64, [.iconst 0]),
  (65, [.ireturn]),
  (66, [.iload_n 1, .iconst 0, .aload_n 0, .getfield 19, .invokestatic 22, .ifCond .eq 19, .iload_n 2, .iconst 0, .aload_n 0, .getfield 19, .invokestatic 22, .ifCond .eq 7, .iconst 1, .goto 4]),
  (94, [.iconst 0]),
  (95, [.ireturn]),
  (96, [.iload_n 1, .iconst 1, .aload_n 0, .getfield 19, .invokestatic 22, .ifCond .eq 18, .iload_n 2, .iconst 0, .iload_n 1, .iconst 1, .isub, .invokestatic 22, .ifCond .eq 7, .iconst 1, .goto 4]),
  (123, [.iconst 0]),
  (124, [.ireturn])]
def bk_D_write : List (Nat × List Instr) := [(0, [.aload_n 0, .getfield 11, .iload_n 1, .bipush 11, .imul, .iload_n 2, .iadd, .iload_n 3, .iastore, .return_])]
def bk_D_cell : List (Nat × List Instr) := [(0, [.aload_n 0, .getfield 11, .iload_n 1, .bipush 11, .imul, .iload_n 2, .iadd, .iaload, .ireturn])]
def bk_D_firstFault : List (Nat × List Instr) := [(0, [.aload_n 0, .getfield 15, .ifCond .ne 10, .aload_n 0, .invokevirtual 26, .goto 7]),
  (14, [.aload_n 0, .invokevirtual 30]),
  (18, [.ireturn])]
def bk_D_firstLineFault : List (Nat × List Instr) := [(0, [.iconst 0, .istore_n 1]),
  (2, [.iload_n 1, .aload_n 0, .getfield 19, .if_icmp .ge 26, .aload_n 0, .iload_n 1, .bipush 11, .imul, .iconst 1, .invokevirtual 33, .ifCond .ne 8, .bipush 100, .iload_n 1, .iadd, .ireturn]),
  (27, [.iinc 1 1, .goto (-28)]),
  (33, [.iconst 0, .istore_n 1]),
  (35, [.iload_n 1, .aload_n 0, .getfield 19, .if_icmp .ge 25, .aload_n 0, .iload_n 1, .bipush 11, .invokevirtual 33, .ifCond .ne 9, .sipush 200, .iload_n 1, .iadd, .ireturn]),
  (59, [.iinc 1 1, .goto (-27)]),
  (65, [.iconst 0, .ireturn])]
def bk_D_alternates : List (Nat × List Instr) := [(0, [.iconst 1, .istore_n 3, .iconst 0, .istore 4]),
  (5, [.iload 4, .aload_n 0, .getfield 19, .if_icmp .ge 38, .aload_n 0, .getfield 11, .iload_n 1, .iload 4, .iload_n 2, .imul, .iadd, .iaload, .istore 5, .iload 5, .ifCond .eq 14, .iload 5, .iload_n 3, .if_icmp .eq 5, .iconst 0, .ireturn]),
  (40, [.iload_n 3, .ineg, .istore_n 3]),
  (43, [.iinc 4 1, .goto (-41)]),
  (49, [.iload_n 3, .iconst (-1), .if_icmp .ne 7, .iconst 1, .goto 4]),
  (58, [.iconst 0]),
  (59, [.ireturn])]
def bk_D_firstCellFault : List (Nat × List Instr) := [(0, [.iconst 0, .istore_n 1]),
  (2, [.iload_n 1, .aload_n 0, .getfield 19, .if_icmp .gt 74, .iconst 0, .istore_n 2]),
  (12, [.iload_n 2, .aload_n 0, .getfield 19, .if_icmp .gt 58, .aload_n 0, .iload_n 1, .iload_n 2, .invokevirtual 37, .ifCond .eq 43, .aload_n 0, .getfield 15, .iconst 1, .if_icmp .ne 15, .aload_n 0, .iload_n 1, .iload_n 2, .invokevirtual 40, .ifCond .eq 15, .goto 23]),
  (49, [.aload_n 0, .iload_n 1, .iload_n 2, .invokevirtual 43, .ifCond .ne 14]),
  (58, [.sipush 1000, .bipush 100, .iload_n 1, .imul, .iadd, .iload_n 2, .iadd, .ireturn]),
  (69, [.iinc 2 1, .goto (-60)]),
  (75, [.iinc 1 1, .goto (-76)]),
  (81, [.iconst 0, .ireturn])]
def bk_D_isCornerSum : List (Nat × List Instr) := [(0, [.aload_n 0, .iload_n 1, .iload_n 2, .invokevirtual 46, .istore_n 3, .iload_n 1, .ifCond .eq 7, .iload_n 2, .ifCond .ne 7]),
  (15, [.iload_n 3, .ifCond .ne 29]),
  (19, [.iload_n 1, .aload_n 0, .getfield 19, .if_icmp .ne 8, .iload_n 3, .iload_n 2, .if_icmp .ne 16]),
  (32, [.iload_n 2, .aload_n 0, .getfield 19, .if_icmp .ne 10, .iload_n 3, .iload_n 1, .if_icmp .eq 5]),
  (45, [.iconst 0, .ireturn]),
  (47, [.iload_n 1, .ifCond .eq 18, .aload_n 0, .iload_n 1, .iconst 1, .isub, .iload_n 2, .invokevirtual 46, .iload_n 3, .invokestatic 50, .ifCond .eq 26]),
  (66, [.iload_n 2, .ifCond .eq 18, .aload_n 0, .iload_n 1, .iload_n 2, .iconst 1, .isub, .invokevirtual 46, .iload_n 3, .invokestatic 50, .ifCond .eq 7]),
  (85, [.iconst 1, .goto 4]),
  (89, [.iconst 0]),
  (90, [.ireturn])]
def bk_D_isColumn : List (Nat × List Instr) := [(0, [.aload_n 0, .iload_n 1, .iload_n 2, .invokevirtual 46, .istore_n 3, .iload_n 3, .iconst 0, .aload_n 0, .getfield 19, .iconst 1, .isub, .invokestatic 22, .ifCond .eq 19, .iload_n 2, .ifCond .le 17, .iload_n 3, .aload_n 0, .iload_n 1, .iload_n 2, .iconst 1, .isub, .invokevirtual 46, .if_icmp .gt 5]),
  (37, [.iconst 0, .ireturn]),
  (39, [.iload_n 1, .iconst 1, .if_icmp .eq 40, .iload_n 2, .iload_n 1, .iconst 1, .isub, .if_icmp .eq 15, .iload_n 3, .aload_n 0, .iload_n 1, .iconst 1, .isub, .iload_n 2, .invokevirtual 46, .if_icmp .gt 25]),
  (63, [.iload_n 2, .ifCond .eq 17, .iload_n 3, .aload_n 0, .iload_n 1, .iconst 1, .isub, .iload_n 2, .iconst 1, .isub, .invokevirtual 46, .if_icmp .lt 7]),
  (81, [.iconst 1, .goto 4]),
  (85, [.iconst 0]),
  (86, [.ireturn])]
def bk_D_copyTo : List (Nat × List Instr) := [(0, [.aload_n 1, .aload_n 0, .getfield 19, .putfield 55, .iconst 0, .istore_n 2, .iconst 1, .istore_n 3]),
  (12, [.iload_n 3, .aload_n 0, .getfield 19, .if_icmp .gt 22, .aload_n 0, .iload_n 3, .iload_n 2, .invokevirtual 56, .istore_n 2, .aload_n 1, .iload_n 3, .iload_n 2, .invokevirtual 59, .iinc 3 1, .goto (-24)]),
  (39, [.return_])]
def bk_D_triangleBits : List (Nat × List Instr) := [(0, [.iconst 0, .istore_n 3, .iconst 0, .istore 4]),
  (5, [.iload 4, .aload_n 0, .getfield 19, .if_icmp .ge 129, .iconst 1, .aload_n 0, .getfield 19, .iconst 1, .isub, .iload 4, .isub, .ishl, .istore 5, .aload_n 0, .getfield 15, .lookupswitch 74 #[(0, 25), (1, 48)]]),
  (56, [.iload_n 3, .iload_n 2, .iload 5, .iand, .aload_n 0, .iload_n 1, .iconst 1, .isub, .iload 4, .invokevirtual 46, .iload 5, .imul, .iadd, .iadd, .istore_n 3, .goto 58]),
  (79, [.iload_n 3, .aload_n 0, .iload_n 1, .iload 4, .iconst 1, .iadd, .invokevirtual 46, .aload_n 0, .iload_n 1, .iload 4, .invokevirtual 46, .isub, .iload 5, .imul, .iadd, .istore_n 3, .goto 32]),
  (105, [.iload_n 3, .iload 4, .iload_n 1, .if_icmp .ge 22, .iconst 1, .aload_n 0, .getfield 19, .iconst 1, .isub, .aload_n 0, .iload_n 1, .iload 4, .invokevirtual 46, .isub, .ishl, .goto 4]),
  (131, [.iconst 0]),
  (132, [.iadd, .istore_n 3]),
  (134, [.iinc 4 1, .goto (-132)]),
  (140, [.iload_n 3, .ireturn])]
def bk_G_new : List (Nat × List Instr) := [(0, [.aload_n 0, .invokespecial 3, .aload_n 0, .sipush 481, .newarray .long, .putfield 9, .aload_n 0, .bipush 6, .newarray .boolean, .putfield 15, .return_])]
def bk_G_knows : List (Nat × List Instr) := [(0, [.aload_n 0, .getfield 15, .iload_n 1, .baload, .ireturn])]
def bk_G_learn : List (Nat × List Instr) := [(0, [.aload_n 0, .getfield 9, .getstatic 19, .iload_n 1, .iaload, .iload_n 2, .iadd, .lload_n 3, .lastore, .return_])]
def bk_G_finish : List (Nat × List Instr) := [(0, [.aload_n 0, .getfield 15, .iload_n 1, .iconst 1, .bastore, .return_])]
def bk_G_howMany : List (Nat × List Instr) := [(0, [.iconst 0, .istore 4, .getstatic 19, .iload_n 1, .iaload, .istore 5]),
  (10, [.iload 5, .getstatic 19, .iload_n 1, .iconst 1, .iadd, .iaload, .if_icmp .ge 24, .aload_n 0, .getfield 9, .iload 5, .laload, .lload_n 2, .lcmp, .ifCond .ne 6, .iinc 4 1]),
  (37, [.iinc 5 1, .goto (-30)]),
  (43, [.iload 4, .ireturn])]
def bk_O_new : List (Nat × List Instr) := [(0, [.aload_n 0, .invokespecial 3, .aload_n 0, .bipush 100, .newarray .int, .putfield 9, .return_])]
def bk_O_otherEnd : List (Nat × List Instr) := [(0, [.aload_n 0, .dup, .getfield 15, .iconst 1, .iadd, .putfield 15, .aload_n 0, .aload_n 1, .getfield 19, .iload_n 2, .invokevirtual 24, .aload_n 0, .aload_n 1, .invokevirtual 28, .ifCond .eq 14, .aload_n 0, .aload_n 1, .getfield 19, .invokevirtual 32, .goto 4]),
  (38, [.iconst (-1)]),
  (39, [.ireturn])]
def bk_O_ringsOf : List (Nat × List Instr) := [(0, [.aload_n 1, .getfield 19, .istore_n 2, .aload_n 0, .dup, .getfield 15, .iconst 1, .iadd, .putfield 15, .iconst 0, .istore_n 3]),
  (17, [.iload_n 3, .iconst 2, .iload_n 2, .imul, .if_icmp .ge 21, .aload_n 0, .iload_n 2, .iload_n 3, .invokevirtual 24, .aload_n 0, .aload_n 1, .invokevirtual 28, .pop, .iinc 3 1, .goto (-22)]),
  (42, [.iconst 0, .istore_n 3, .iconst 0, .istore 4]),
  (47, [.iload 4, .iload_n 2, .if_icmp .ge 47, .iconst 0, .istore 5]),
  (56, [.iload 5, .iload_n 2, .if_icmp .ge 32, .aload_n 0, .iload 4, .iload 5, .invokevirtual 36, .ifCond .ne 15, .iinc 3 1, .aload_n 0, .aload_n 1, .iload 4, .iload 5, .invokevirtual 40]),
  (85, [.iinc 5 1, .goto (-32)]),
  (91, [.iinc 4 1, .goto (-47)]),
  (97, [.iload_n 3, .ireturn])]
def bk_O_joiningOf : List (Nat × List Instr) := [(0, [.aload_n 0, .dup, .getfield 15, .iconst 1, .iadd, .putfield 15, .lconst 0, .lstore_n 2, .iconst 0, .istore 4]),
  (15, [.iload 4, .iconst 2, .aload_n 1, .getfield 19, .imul, .if_icmp .ge 59, .aload_n 0, .aload_n 1, .getfield 19, .iload 4, .invokevirtual 24, .aload_n 0, .aload_n 1, .invokevirtual 28, .ifCond .eq 35, .aload_n 0, .aload_n 1, .getfield 19, .invokevirtual 32, .istore 5, .lload_n 2, .iload 5, .i2l, .iconst 4, .iload 4, .imul, .lshl, .ladd, .lstore_n 2, .lload_n 2, .iload 4, .i2l, .iconst 4, .iload 5, .imul, .lshl, .ladd, .lstore_n 2]),
  (76, [.iinc 4 1, .goto (-64)]),
  (82, [.lload_n 2, .lreturn])]
def bk_O_isSeen : List (Nat × List Instr) := [(0, [.aload_n 0, .getfield 9, .iload_n 1, .bipush 10, .imul, .iload_n 2, .iadd, .iaload, .aload_n 0, .getfield 15, .if_icmp .ne 7, .iconst 1, .goto 4]),
  (22, [.iconst 0]),
  (23, [.ireturn])]
def bk_O_goRound : List (Nat × List Instr) := [(0, [.aload_n 0, .iload_n 2, .putfield 44, .aload_n 0, .iload_n 3, .putfield 47, .aload_n 0, .aload_n 0, .aload_n 1, .iconst 4, .invokevirtual 50, .putfield 54, .aload_n 0, .aload_n 1, .invokevirtual 28, .pop, .return_])]
def bk_O_follow : List (Nat × List Instr) := [(0, [.iconst 0, .istore_n 2]),
  (2, [.iload_n 2, .bipush 100, .if_icmp .ge 141, .aload_n 0, .aload_n 0, .getfield 44, .aload_n 0, .getfield 47, .invokevirtual 36, .ifCond .ne 126, .aload_n 0, .getfield 9, .aload_n 0, .getfield 44, .bipush 10, .imul, .aload_n 0, .getfield 47, .iadd, .aload_n 0, .getfield 15, .iastore, .aload_n 0, .aload_n 0, .aload_n 1, .aload_n 0, .getfield 54, .invokevirtual 50, .putfield 54, .aload_n 0, .getfield 44, .getstatic 57, .aload_n 0, .getfield 54, .iaload, .iadd, .istore_n 3, .aload_n 0, .getfield 47, .getstatic 60, .aload_n 0, .getfield 54, .iaload, .iadd, .istore 4, .iload_n 3, .iconst 0, .aload_n 1, .getfield 19, .iconst 1, .isub, .invokestatic 63, .ifCond .eq 18, .iload 4, .iconst 0, .aload_n 1, .getfield 19, .iconst 1, .isub, .invokestatic 63, .ifCond .ne 5]),
  (115, [.iconst 1, .ireturn]),
  (117, [.aload_n 0, .iload_n 3, .putfield 44, .aload_n 0, .iload 4, .putfield 47, .aload_n 0, .aload_n 0, .getfield 54, .iconst 2, .iadd, .iconst 3, .iand, .putfield 54, .iinc 2 1, .goto (-141)]),
  (146, [.iconst 0, .ireturn])]
def bk_O_nextHeldSide : List (Nat × List Instr) := [(0, [.iconst 0, .istore_n 3]),
  (2, [.iload_n 3, .iconst 3, .if_icmp .ge 25, .iload_n 3, .iload_n 2, .if_icmp .eq 14, .aload_n 0, .aload_n 1, .iload_n 3, .invokevirtual 67, .ifCond .eq 5, .iload_n 3, .ireturn]),
  (23, [.iinc 3 1, .goto (-24)]),
  (29, [.iconst 3, .ireturn])]
def bk_O_holdsSide : List (Nat × List Instr) := [(0, [.iload_n 2, .tableswitch 73 0 2 #[27, 41, 57]]),
  (28, [.aload_n 1, .iconst 0, .aload_n 0, .getfield 44, .aload_n 0, .getfield 47, .invokevirtual 71, .ireturn]),
  (42, [.aload_n 1, .iconst 1, .aload_n 0, .getfield 44, .aload_n 0, .getfield 47, .iconst 1, .iadd, .invokevirtual 71, .ireturn]),
  (58, [.aload_n 1, .iconst 0, .aload_n 0, .getfield 44, .iconst 1, .iadd, .aload_n 0, .getfield 47, .invokevirtual 71, .ireturn]),
  (74, [.aload_n 1, .iconst 1, .aload_n 0, .getfield 44, .aload_n 0, .getfield 47, .invokevirtual 71, .ireturn])]
def bk_O_goToEnd : List (Nat × List Instr) := [(0, [.iconst 2, .iload_n 2, .imul, .iconst 1, .iadd, .istore_n 3, .aload_n 0, .iload_n 3, .iload_n 1, .if_icmp .ge 7, .iconst 0, .goto 26]),
  (16, [.iload_n 3, .iconst 2, .iload_n 1, .imul, .if_icmp .ge 7, .iconst 1, .goto 15]),
  (27, [.iload_n 3, .iconst 3, .iload_n 1, .imul, .if_icmp .ge 7, .iconst 2, .goto 4]),
  (38, [.iconst 3]),
  (39, [.putfield 54, .iload_n 3, .aload_n 0, .getfield 54, .iload_n 1, .imul, .isub, .istore 4, .aload_n 0, .getfield 54, .tableswitch 78 0 2 #[28, 42, 58]]),
  (84, [.aload_n 0, .iconst 0, .putfield 44, .aload_n 0, .iload 4, .putfield 47, .goto 54]),
  (98, [.aload_n 0, .iload 4, .putfield 44, .aload_n 0, .iload_n 1, .iconst 1, .isub, .putfield 47, .goto 38]),
  (114, [.aload_n 0, .iload_n 1, .iconst 1, .isub, .putfield 44, .aload_n 0, .iload_n 1, .iconst 1, .isub, .iload 4, .isub, .putfield 47, .goto 18]),
  (134, [.aload_n 0, .iload_n 1, .iconst 1, .isub, .iload 4, .isub, .putfield 44, .aload_n 0, .iconst 0, .putfield 47]),
  (149, [.return_])]
def bk_O_endHere : List (Nat × List Instr) := [(0, [.aload_n 0, .getfield 54, .tableswitch 57 0 2 #[28, 35, 44]]),
  (32, [.aload_n 0, .getfield 47, .iconst 1, .ishr, .ireturn]),
  (39, [.iload_n 1, .aload_n 0, .getfield 44, .iadd, .iconst 1, .ishr, .ireturn]),
  (48, [.iconst 3, .iload_n 1, .imul, .iconst 1, .isub, .aload_n 0, .getfield 47, .isub, .iconst 1, .ishr, .ireturn]),
  (61, [.iconst 4, .iload_n 1, .imul, .iconst 1, .isub, .aload_n 0, .getfield 44, .isub, .iconst 1, .ishr, .ireturn])]
def bk_U_new : List (Nat × List Instr) := [(0, [.aload_n 0, .invokespecial 3, .aload_n 0, .sipush 2048, .newarray .long, .putfield 9, .aload_n 0, .bipush 11, .newarray .boolean, .putfield 15, .aload_n 0, .new 19, .dup, .invokespecial 21, .putfield 22, .return_])]
def bk_U_numberOf : List (Nat × List Instr) := [(0, [.aload_n 1, .getfield 26, .istore_n 2, .aload_n 0, .iload_n 2, .invokevirtual 32, .lconst 0, .lstore_n 3, .iconst 0, .istore 5, .iconst 1, .istore 6]),
  (18, [.iload 6, .iload_n 2, .if_icmp .gt 33, .aload_n 1, .iload 6, .invokevirtual 36, .istore 7, .lload_n 3, .aload_n 0, .iload_n 2, .iload 5, .iload 7, .invokevirtual 40, .ladd, .lstore_n 3, .iload 7, .istore 5, .iinc 6 1, .goto (-33)]),
  (54, [.lload_n 3, .lreturn])]
def bk_U_build : List (Nat × List Instr) := [(0, [.aload_n 0, .iload_n 2, .invokevirtual 32, .aload_n 1, .iload_n 2, .putfield 26, .lload_n 3, .lstore 5, .iconst 0, .istore 7, .iconst 1, .istore 8]),
  (19, [.iload 8, .iload_n 2, .if_icmp .gt 48, .aload_n 0, .getfield 22, .iload_n 2, .iload 7, .invokevirtual 44, .lload 5, .aload_n 0, .iload_n 2, .lload 5, .invokevirtual 48, .lsub, .lstore 5, .aload_n 0, .getfield 22, .getfield 52, .istore 7, .aload_n 1, .iload 8, .iload 7, .invokevirtual 55, .iinc 8 1, .goto (-48)]),
  (70, [.return_])]
def bk_U_passWays : List (Nat × List Instr) := [(0, [.iconst 1, .iload_n 1, .ishl, .istore 4, .lconst 0, .lstore 5, .iconst 0, .istore 7]),
  (11, [.iload 7, .iload 4, .if_icmp .ge 56, .aload_n 0, .getfield 9, .iload 4, .aload_n 0, .getfield 22, .getfield 52, .iadd, .laload, .lstore 8, .lload_n 2, .lload 5, .lsub, .lload 8, .lcmp, .ifCond .lt 29, .aload_n 0, .getfield 22, .invokevirtual 58, .ifCond .ne 6, .goto 16]),
  (58, [.lload 5, .lload 8, .ladd, .lstore 5, .iinc 7 1, .goto (-57)]),
  (71, [.lload 5, .lreturn])]
def bk_U_waysBefore : List (Nat × List Instr) := [(0, [.iconst 1, .iload_n 1, .ishl, .istore 4, .lconst 0, .lstore 5, .aload_n 0, .getfield 22, .iload_n 1, .iload_n 2, .invokevirtual 44, .iconst 0, .istore 7]),
  (20, [.iload 7, .iload 4, .if_icmp .ge 53, .aload_n 0, .getfield 22, .getfield 52, .iload_n 3, .if_icmp .le 42, .lload 5, .aload_n 0, .getfield 9, .iload 4, .aload_n 0, .getfield 22, .getfield 52, .iadd, .laload, .ladd, .lstore 5, .aload_n 0, .getfield 22, .invokevirtual 58, .ifCond .ne 6, .goto 9]),
  (71, [.iinc 7 1, .goto (-54)]),
  (77, [.lload 5, .lreturn])]
def bk_U_learnWays : List (Nat × List Instr) := [(0, [.aload_n 0, .getfield 15, .iload_n 1, .baload, .ifCond .eq 4, .return_]),
  (10, [.aload_n 0, .getfield 15, .iload_n 1, .iconst 1, .bastore, .iconst 1, .iload_n 1, .ishl, .istore_n 2, .iload_n 2, .iconst 1, .isub, .istore_n 3, .aload_n 0, .getfield 9, .iload_n 2, .iload_n 3, .iadd, .lconst 1, .lastore, .iload_n 3, .iconst 1, .isub, .istore 4]),
  (39, [.iload 4, .ifCond .lt 26, .aload_n 0, .getfield 9, .iload_n 2, .iload 4, .iadd, .aload_n 0, .iload_n 1, .iload 4, .iconst 0, .invokevirtual 40, .lastore, .iinc 4 (-1), .goto (-25)]),
  (67, [.return_])]
def bk_K_new : List (Nat × List Instr) := [(0, [.aload_n 0, .invokespecial 3, .aload_n 0, .bipush 11, .newarray .int, .putfield 9, .aload_n 0, .bipush 11, .newarray .int, .putfield 15, .aload_n 0, .bipush 11, .newarray .int, .putfield 18, .return_])]
def bk_K_start : List (Nat × List Instr) := [(0, [.aload_n 0, .iload_n 1, .putfield 21, .aload_n 0, .iconst 1, .putfield 25, .iconst 0, .istore_n 3]),
  (12, [.iload_n 3, .aload_n 0, .getfield 21, .if_icmp .ge 45, .iload_n 2, .aload_n 0, .getfield 21, .iconst 1, .isub, .iload_n 3, .isub, .ishr, .iconst 1, .iand, .iconst 1, .if_icmp .ne 23, .aload_n 0, .getfield 9, .aload_n 0, .getfield 25, .iload_n 3, .iastore, .aload_n 0, .dup, .getfield 25, .iconst 1, .iadd, .putfield 25]),
  (56, [.iinc 3 1, .goto (-47)]),
  (62, [.aload_n 0, .getfield 15, .aload_n 0, .getfield 25, .iconst 1, .isub, .aload_n 0, .getfield 21, .iconst 1, .isub, .iastore, .aload_n 0, .getfield 25, .iconst 2, .isub, .istore_n 3]),
  (86, [.iload_n 3, .ifCond .lt 36, .aload_n 0, .getfield 15, .iload_n 3, .aload_n 0, .getfield 9, .iload_n 3, .iconst 1, .iadd, .iaload, .aload_n 0, .getfield 15, .iload_n 3, .iconst 1, .iadd, .iaload, .iconst 1, .isub, .invokestatic 28, .iastore, .iinc 3 (-1), .goto (-34)]),
  (123, [.aload_n 0, .iconst 0, .putfield 34, .aload_n 0, .iconst 0, .iconst 0, .invokevirtual 37, .return_])]
def bk_K_advance : List (Nat × List Instr) := [(0, [.aload_n 0, .getfield 25, .iconst 1, .isub, .istore_n 1]),
  (7, [.iload_n 1, .ifCond .lt 58, .aload_n 0, .dup, .getfield 34, .aload_n 0, .aload_n 0, .getfield 18, .iload_n 1, .iaload, .invokevirtual 41, .isub, .putfield 34, .aload_n 0, .getfield 18, .iload_n 1, .iaload, .aload_n 0, .getfield 15, .iload_n 1, .iaload, .if_icmp .ge 18, .aload_n 0, .iload_n 1, .aload_n 0, .getfield 18, .iload_n 1, .iaload, .iconst 1, .iadd, .invokevirtual 37, .iconst 1, .ireturn]),
  (60, [.iinc 1 (-1), .goto (-56)]),
  (66, [.iconst 0, .ireturn])]
def bk_K_layFrom : List (Nat × List Instr) := [(0, [.iload_n 2, .istore_n 3, .iload_n 1, .istore 4]),
  (5, [.iload 4, .aload_n 0, .getfield 25, .if_icmp .ge 57, .aload_n 0, .getfield 18, .iload 4, .aload_n 0, .getfield 9, .iload 4, .iaload, .iload_n 3, .invokestatic 45, .iastore, .aload_n 0, .dup, .getfield 34, .aload_n 0, .aload_n 0, .getfield 18, .iload 4, .iaload, .invokevirtual 41, .iadd, .putfield 34, .aload_n 0, .getfield 18, .iload 4, .iaload, .iconst 1, .iadd, .istore_n 3, .iinc 4 1, .goto (-60)]),
  (68, [.return_])]
def bk_K_bitOf : List (Nat × List Instr) := [(0, [.iconst 1, .aload_n 0, .getfield 21, .iconst 1, .isub, .iload_n 1, .isub, .ishl, .ireturn])]
def bk_T_new : List (Nat × List Instr) := [(0, [.aload_n 0, .invokespecial 3, .aload_n 0, .bipush 121, .newarray .int, .putfield 11, .aload_n 0, .iconst 1, .putfield 15, .aload_n 0, .getfield 11, .bipush 12, .iconst 1, .iastore, .return_])]
def bk_T_corner : List (Nat × List Instr) := [(0, [.aload_n 0, .getfield 11, .iload_n 1, .bipush 11, .imul, .iload_n 2, .iadd, .iaload, .ireturn])]
def bk_T_entry : List (Nat × List Instr) := [(0, [.aload_n 0, .iconst 1, .iload_n 1, .iload_n 2, .iconst 1, .iadd, .invokevirtual 19, .aload_n 0, .iconst 1, .iload_n 1, .iload_n 2, .invokevirtual 19, .isub, .ireturn])]
def bk_T_triangleColumn : List (Nat × List Instr) := [(0, [.iconst 0, .istore_n 3, .iconst 0, .istore 4]),
  (5, [.iload 4, .aload_n 0, .getfield 15, .if_icmp .ge 28, .iload_n 3, .aload_n 0, .iconst 0, .iload_n 1, .iload 4, .invokevirtual 19, .iadd, .istore_n 3, .iload_n 3, .iload_n 2, .if_icmp .le 6, .iload 4, .ireturn]),
  (33, [.iinc 4 1, .goto (-31)]),
  (39, [.iconst (-1), .ireturn])]
def bk_T_rowBits : List (Nat × List Instr) := [(0, [.iconst 0, .istore_n 2, .iconst 0, .istore_n 3]),
  (4, [.iload_n 3, .aload_n 0, .getfield 15, .if_icmp .ge 21, .iconst 2, .iload_n 2, .imul, .aload_n 0, .iconst 0, .iload_n 1, .iload_n 3, .invokevirtual 19, .iadd, .istore_n 2, .iinc 3 1, .goto (-23)]),
  (30, [.iload_n 2, .ireturn])]
def bk_T_hasEdge : List (Nat × List Instr) := [(0, [.iload_n 2, .iconst 0, .iload_n 1, .ifCond .eq 12, .aload_n 0, .getfield 15, .iconst 1, .isub, .goto 7]),
  (15, [.aload_n 0, .getfield 15]),
  (19, [.invokestatic 23, .ifCond .eq 32, .iload_n 3, .iconst 0, .iload_n 1, .ifCond .eq 10, .aload_n 0, .getfield 15, .goto 9]),
  (38, [.aload_n 0, .getfield 15, .iconst 1, .isub]),
  (44, [.invokestatic 23, .ifCond .eq 7, .iconst 1, .goto 4]),
  (54, [.iconst 0]),
  (55, [.ireturn])]
def bk_T_edgeSum : List (Nat × List Instr) := [(0, [.iload_n 1, .ifCond .eq 14, .aload_n 0, .iload_n 2, .iconst 1, .iadd, .iload_n 3, .invokevirtual 27, .goto 11]),
  (15, [.aload_n 0, .iload_n 2, .iload_n 3, .iconst 1, .iadd, .invokevirtual 27]),
  (23, [.aload_n 0, .iload_n 2, .iload_n 3, .invokevirtual 27, .isub, .ireturn])]
def bk_T_holds : List (Nat × List Instr) := [(0, [.iload_n 2, .iload_n 3, .iadd, .aload_n 0, .iload_n 1, .iload_n 2, .iload_n 3, .invokevirtual 19, .iadd, .iconst 1, .iand, .istore 4, .iload 4, .iload_n 1, .ifCond .eq 7, .iconst 0, .goto 4]),
  (25, [.iconst 1]),
  (26, [.if_icmp .ne 7, .iconst 1, .goto 4]),
  (33, [.iconst 0]),
  (34, [.ireturn])]
def bk_T_minusOnes : List (Nat × List Instr) := [(0, [.iconst 0, .istore_n 1, .iconst 0, .istore_n 2]),
  (4, [.iload_n 2, .aload_n 0, .getfield 15, .if_icmp .ge 38, .iconst 0, .istore_n 3]),
  (14, [.iload_n 3, .aload_n 0, .getfield 15, .if_icmp .ge 22, .aload_n 0, .iload_n 2, .iload_n 3, .invokevirtual 31, .iconst (-1), .if_icmp .ne 6, .iinc 1 1]),
  (35, [.iinc 3 1, .goto (-24)]),
  (41, [.iinc 2 1, .goto (-40)]),
  (47, [.iload_n 1, .ireturn])]
def bk_T_kindOf : List (Nat × List Instr) := [(0, [.aload_n 0, .invokevirtual 34, .ifCond .ne 5, .iconst 0, .ireturn]),
  (9, [.aload_n 0, .iconst 1, .invokevirtual 38, .ifCond .eq 5, .iconst 1, .ireturn]),
  (19, [.aload_n 0, .iconst 3, .invokevirtual 38, .ifCond .eq 5, .iconst 2, .ireturn]),
  (29, [.aload_n 0, .iconst 0, .invokevirtual 38, .ifCond .eq 7, .iconst 3, .goto 4]),
  (41, [.iconst 4]),
  (42, [.ireturn])]
def bk_T_staysWhen : List (Nat × List Instr) := [(0, [.iconst 0, .istore_n 2]),
  (2, [.iload_n 2, .aload_n 0, .getfield 15, .if_icmp .ge 43, .iconst 0, .istore_n 3]),
  (12, [.iload_n 3, .aload_n 0, .getfield 15, .if_icmp .ge 27, .aload_n 0, .iload_n 2, .iload_n 3, .invokevirtual 31, .aload_n 0, .iload_n 1, .iload_n 2, .iload_n 3, .invokevirtual 42, .if_icmp .eq 5, .iconst 0, .ireturn]),
  (38, [.iinc 3 1, .goto (-29)]),
  (44, [.iinc 2 1, .goto (-45)]),
  (50, [.iconst 1, .ireturn])]
def bk_T_movedEntry : List (Nat × List Instr) := [(0, [.aload_n 0, .getfield 15, .iconst 1, .isub, .istore 4, .iload_n 1, .tableswitch 54 0 2 #[27, 37, 47]]),
  (36, [.aload_n 0, .iload_n 2, .iload 4, .iload_n 3, .isub, .invokevirtual 31, .ireturn]),
  (46, [.aload_n 0, .iload 4, .iload_n 3, .isub, .iload_n 2, .invokevirtual 31, .ireturn]),
  (56, [.aload_n 0, .iload_n 3, .iload_n 2, .invokevirtual 31, .ireturn]),
  (63, [.aload_n 0, .iload 4, .iload_n 2, .isub, .iload 4, .iload_n 3, .isub, .invokevirtual 31, .ireturn])]
def bk_T_isBelow : List (Nat × List Instr) := [(0, [.iconst 0, .istore_n 2]),
  (2, [.iload_n 2, .aload_n 0, .getfield 15, .if_icmp .gt 42, .iconst 0, .istore_n 3]),
  (12, [.iload_n 3, .aload_n 0, .getfield 15, .if_icmp .gt 26, .aload_n 0, .iload_n 2, .iload_n 3, .invokevirtual 27, .aload_n 1, .iload_n 2, .iload_n 3, .invokevirtual 27, .if_icmp .ge 5, .iconst 0, .ireturn]),
  (37, [.iinc 3 1, .goto (-28)]),
  (43, [.iinc 2 1, .goto (-44)]),
  (49, [.iconst 1, .ireturn])]
def bk_T_stepsTo : List (Nat × List Instr) := [(0, [.iconst 0, .istore_n 2, .iconst 0, .istore_n 3]),
  (4, [.iload_n 3, .aload_n 0, .getfield 15, .if_icmp .gt 48, .iconst 0, .istore 4]),
  (15, [.iload 4, .aload_n 0, .getfield 15, .if_icmp .gt 30, .iload_n 2, .aload_n 0, .iload_n 3, .iload 4, .invokevirtual 27, .aload_n 1, .iload_n 3, .iload 4, .invokevirtual 27, .isub, .invokestatic 46, .iadd, .istore_n 2, .iinc 4 1, .goto (-33)]),
  (51, [.iinc 3 1, .goto (-50)]),
  (57, [.iload_n 2, .ireturn])]
def bk_T_stepToward : List (Nat × List Instr) := [(0, [.iconst 1, .istore_n 2]),
  (2, [.iload_n 2, .aload_n 0, .getfield 15, .if_icmp .ge 71, .iconst 1, .istore_n 3]),
  (12, [.iload_n 3, .aload_n 0, .getfield 15, .if_icmp .ge 55, .aload_n 1, .iload_n 2, .iload_n 3, .invokevirtual 27, .aload_n 0, .iload_n 2, .iload_n 3, .invokevirtual 27, .isub, .istore 4, .iload 4, .ifCond .eq 29, .aload_n 0, .iload_n 2, .iload_n 3, .iload 4, .ifCond .le 7, .iconst 1, .goto 4]),
  (52, [.iconst (-1)]),
  (53, [.invokevirtual 52, .ifCond .eq 10, .bipush 100, .iload_n 2, .imul, .iload_n 3, .iadd, .ireturn]),
  (66, [.iinc 3 1, .goto (-57)]),
  (72, [.iinc 2 1, .goto (-73)]),
  (78, [.iconst (-1), .ireturn])]
def bk_T_shift : List (Nat × List Instr) := [(0, [.iload_n 1, .iconst 1, .aload_n 0, .getfield 15, .iconst 1, .isub, .invokestatic 23, .ifCond .eq 17, .iload_n 2, .iconst 1, .aload_n 0, .getfield 15, .iconst 1, .isub, .invokestatic 23, .ifCond .ne 5]),
  (28, [.iconst 0, .ireturn]),
  (30, [.aload_n 0, .iload_n 1, .iload_n 2, .invokevirtual 27, .iload_n 3, .iadd, .istore 4, .aload_n 0, .iload_n 1, .iconst 1, .isub, .iload_n 2, .invokevirtual 27, .iload 4, .invokestatic 55, .ifCond .eq 51, .aload_n 0, .iload_n 1, .iload_n 2, .iconst 1, .isub, .invokevirtual 27, .iload 4, .invokestatic 55, .ifCond .eq 35, .iload 4, .aload_n 0, .iload_n 1, .iconst 1, .iadd, .iload_n 2, .invokevirtual 27, .invokestatic 55, .ifCond .eq 19, .iload 4, .aload_n 0, .iload_n 1, .iload_n 2, .iconst 1, .iadd, .invokevirtual 27, .invokestatic 55, .ifCond .ne 5]),
  (104, [.iconst 0, .ireturn]),
  (106, [.aload_n 0, .getfield 11, .iload_n 1, .bipush 11, .imul, .iload_n 2, .iadd, .iload 4, .iastore, .iconst 1, .ireturn])]
def bk_T_rises : List (Nat × List Instr) := [(0, [.iload_n 1, .iload_n 0, .if_icmp .eq 10, .iload_n 1, .iload_n 0, .iconst 1, .iadd, .if_icmp .ne 7]),
  (12, [.iconst 1, .goto 4]),
  (16, [.iconst 0]),
  (17, [.ireturn])]
def bk_T_turnSquares : List (Nat × List Instr) := [(0, [.iconst 1, .istore_n 2]),
  (2, [.iload_n 2, .aload_n 0, .getfield 15, .if_icmp .ge 52, .iconst 1, .istore_n 3]),
  (12, [.iload_n 3, .aload_n 0, .getfield 15, .if_icmp .ge 36, .iload_n 2, .iload_n 3, .iadd, .iconst 1, .iand, .iload_n 1, .if_icmp .ne 21, .aload_n 0, .iload_n 2, .iload_n 3, .iconst 1, .invokevirtual 52, .ifCond .ne 11, .aload_n 0, .iload_n 2, .iload_n 3, .iconst (-1), .invokevirtual 52, .pop]),
  (47, [.iinc 3 1, .goto (-38)]),
  (53, [.iinc 2 1, .goto (-54)]),
  (59, [.return_])]
def bk_T_become : List (Nat × List Instr) := [(0, [.aload_n 0, .aload_n 1, .getfield 15, .putfield 15, .aload_n 1, .getfield 11, .iconst 0, .aload_n 0, .getfield 11, .iconst 0, .bipush 121, .invokestatic 59, .return_])]
def bk_T_becomeExtreme : List (Nat × List Instr) := [(0, [.aload_n 0, .aload_n 1, .getfield 15, .putfield 15, .iconst 0, .istore 4]),
  (11, [.iload 4, .bipush 121, .if_icmp .ge 55, .aload_n 1, .getfield 11, .iload 4, .iaload, .istore 5, .aload_n 2, .getfield 11, .iload 4, .iaload, .istore 6, .aload_n 0, .getfield 11, .iload 4, .iload_n 3, .ifCond .eq 13, .iload 5, .iload 6, .invokestatic 65, .goto 10]),
  (56, [.iload 5, .iload 6, .invokestatic 68]),
  (63, [.iastore, .iinc 4 1, .goto (-56)]),
  (70, [.return_])]
def bk_T_becomeMoved : List (Nat × List Instr) := [(0, [.aload_n 0, .aload_n 1, .getfield 15, .putfield 15, .iconst 0, .istore_n 3]),
  (10, [.iload_n 3, .aload_n 0, .getfield 15, .if_icmp .ge 71, .iconst 0, .istore 4, .iconst 0, .istore 5]),
  (24, [.iload 5, .aload_n 0, .getfield 15, .if_icmp .ge 50, .iload 4, .aload_n 1, .iload_n 2, .iload_n 3, .iload 5, .invokevirtual 42, .iadd, .istore 4, .aload_n 0, .getfield 11, .iload_n 3, .iconst 1, .iadd, .bipush 11, .imul, .iload 5, .iadd, .iconst 1, .iadd, .aload_n 0, .iload_n 3, .iload 5, .iconst 1, .iadd, .invokevirtual 27, .iload 4, .iadd, .iastore, .iinc 5 1, .goto (-53)]),
  (80, [.iinc 3 1, .goto (-73)]),
  (86, [.return_])]
def bk_T_layRow : List (Nat × List Instr) := [(0, [.iconst 0, .istore_n 3, .iconst 0, .istore 4]),
  (5, [.iload 4, .aload_n 0, .getfield 15, .if_icmp .ge 40, .iload_n 3, .iload_n 2, .aload_n 0, .getfield 15, .iconst 1, .isub, .iload 4, .isub, .ishr, .iconst 1, .iand, .iadd, .istore_n 3, .aload_n 0, .getfield 11, .iload_n 1, .bipush 11, .imul, .iload 4, .iadd, .iconst 1, .iadd, .iload_n 3, .iastore, .iinc 4 1, .goto (-43)]),
  (51, [.return_])]
def bk_B_new : List (Nat × List Instr) := [(0, [.aload_n 0, .invokespecial 1, .aload_n 0, .bipush 8, .anewarray 9, .putfield 11, .aload_n 0, .new 9, .dup, .invokespecial 15, .putfield 16, .aload_n 0, .new 20, .dup, .invokespecial 22, .putfield 23, .aload_n 0, .new 27, .dup, .invokespecial 29, .putfield 30, .aload_n 0, .new 34, .dup, .invokespecial 36, .putfield 37, .aload_n 0, .new 41, .dup, .invokespecial 43, .putfield 44, .iconst 0, .istore_n 1]),
  (70, [.iload_n 1, .bipush 8, .if_icmp .ge 22, .aload_n 0, .getfield 11, .iload_n 1, .new 9, .dup, .invokespecial 15, .aastore, .iinc 1 1, .goto (-22)]),
  (95, [.return_])]
def bk_B_begin : List (Nat × List Instr) := [(0, [.iload_n 1, .ifCond .lt 15, .iload_n 1, .iconst 2, .if_icmp .gt 10, .iload_n 2, .invokestatic 48, .ifCond .ne 5]),
  (16, [.iconst 0, .ireturn]),
  (18, [.aload_n 0, .getfield 23, .iload_n 1, .iload_n 2, .invokevirtual 52, .iconst 1, .ireturn])]
def bk_B_put : List (Nat × List Instr) := [(0, [.aload_n 0, .getfield 23, .iload_n 1, .iload_n 2, .invokevirtual 56, .ifCond .ne 5, .iconst 0, .ireturn]),
  (14, [.aload_n 0, .getfield 23, .iload_n 1, .iload_n 2, .iload_n 3, .invokevirtual 60, .iconst 1, .ireturn])]
def bk_B_fault : List (Nat × List Instr) := [(0, [.aload_n 0, .getfield 23, .invokevirtual 64, .ireturn])]
def bk_B_take : List (Nat × List Instr) := [(0, [.aload_n 0, .iload_n 1, .invokevirtual 68, .astore_n 2, .aload_n 2, .ifnull 13, .aload_n 0, .getfield 23, .invokevirtual 64, .ifCond .eq 5]),
  (20, [.iconst 0, .ireturn]),
  (22, [.aload_n 0, .getfield 23, .aload_n 2, .invokevirtual 72, .iconst 1, .ireturn])]
def bk_B_size : List (Nat × List Instr) := [(0, [.aload_n 0, .iload_n 1, .invokevirtual 68, .astore_n 2, .aload_n 2, .ifnonnull 7, .iconst (-1), .goto 7]),
  (14, [.aload_n 2, .getfield 76]),
  (18, [.ireturn])]
def bk_B_at : List (Nat × List Instr) := [(0, [.aload_n 0, .iload_n 1, .invokevirtual 68, .astore 4, .aload 4, .ifnonnull 5, .iconst (-1), .ireturn]),
  (14, [.iload_n 2, .iconst 0, .aload 4, .getfield 76, .iconst 1, .isub, .invokestatic 80, .ifCond .eq 28, .iload_n 3, .iconst 0, .aload 4, .getfield 76, .iconst 1, .isub, .invokestatic 80, .ifCond .eq 13, .aload 4, .iload_n 2, .iload_n 3, .invokevirtual 84, .goto 4]),
  (54, [.iconst 0]),
  (55, [.ireturn])]
def bk_B_sum : List (Nat × List Instr) := [(0, [.aload_n 0, .iload_n 1, .invokevirtual 68, .astore 4, .aload 4, .ifnull 29, .iload_n 2, .iconst 0, .aload 4, .getfield 76, .invokestatic 80, .ifCond .eq 16, .iload_n 3, .iconst 0, .aload 4, .getfield 76, .invokestatic 80, .ifCond .ne 5]),
  (38, [.iconst (-1), .ireturn]),
  (40, [.aload 4, .iload_n 2, .iload_n 3, .invokevirtual 88, .ireturn])]
def bk_B_triangle : List (Nat × List Instr) := [(0, [.aload_n 0, .iload_n 1, .invokevirtual 68, .astore 4, .aload 4, .ifnull 27, .iload_n 2, .iconst 1, .aload 4, .getfield 76, .invokestatic 80, .ifCond .eq 14, .iload_n 3, .iconst 0, .iload_n 2, .iconst 1, .isub, .invokestatic 80, .ifCond .ne 5]),
  (36, [.iconst (-1), .ireturn]),
  (38, [.aload 4, .iload_n 2, .iload_n 3, .invokevirtual 91, .ireturn])]
def bk_B_arrow : List (Nat × List Instr) := [(0, [.aload_n 0, .iload_n 1, .invokevirtual 68, .astore 5, .aload 5, .ifnonnull 5, .iconst (-1), .ireturn]),
  (14, [.aload 5, .iload_n 2, .iload_n 3, .iload 4, .invokevirtual 94, .ifCond .ne 5, .iconst 0, .ireturn]),
  (28, [.aload 5, .iload_n 2, .iload_n 3, .iload 4, .invokevirtual 98, .ifCond .ne 7, .iconst 1, .goto 4]),
  (44, [.iconst (-1)]),
  (45, [.ireturn])]
def bk_B_held : List (Nat × List Instr) := [(0, [.aload_n 0, .iload_n 1, .invokevirtual 68, .astore 5, .aload 5, .ifnull 15, .aload 5, .iload_n 2, .iload_n 3, .iload 4, .invokevirtual 94, .ifCond .ne 5]),
  (24, [.iconst (-1), .ireturn]),
  (26, [.aload 5, .iload_n 2, .iload_n 3, .iload 4, .invokevirtual 102, .ifCond .eq 7, .iconst 1, .goto 4]),
  (42, [.iconst 0]),
  (43, [.ireturn])]
def bk_B_link : List (Nat × List Instr) := [(0, [.aload_n 0, .iload_n 1, .invokevirtual 68, .astore_n 3, .aload_n 3, .ifnull 19, .iload_n 2, .iconst 0, .iconst 2, .aload_n 3, .getfield 76, .imul, .iconst 1, .isub, .invokestatic 80, .ifCond .ne 5]),
  (26, [.iconst (-1), .ireturn]),
  (28, [.aload_n 0, .getfield 37, .aload_n 3, .iload_n 2, .invokevirtual 105, .ireturn])]
def bk_B_rings : List (Nat × List Instr) := [(0, [.aload_n 0, .iload_n 1, .invokevirtual 68, .astore_n 2, .aload_n 2, .ifnonnull 7, .iconst (-1), .goto 11]),
  (14, [.aload_n 0, .getfield 37, .aload_n 2, .invokevirtual 109]),
  (22, [.ireturn])]
def bk_B_kind : List (Nat × List Instr) := [(0, [.aload_n 0, .iload_n 1, .invokevirtual 68, .astore_n 2, .aload_n 2, .ifnonnull 7, .iconst (-1), .goto 7]),
  (14, [.aload_n 2, .invokevirtual 113]),
  (18, [.ireturn])]
def bk_B_less : List (Nat × List Instr) := [(0, [.aload_n 0, .iload_n 1, .invokevirtual 68, .astore_n 2, .aload_n 2, .ifnonnull 7, .iconst (-1), .goto 7]),
  (14, [.aload_n 2, .invokevirtual 116]),
  (18, [.ireturn])]
def bk_B_count : List (Nat × List Instr) := [(0, [.iload_n 1, .iconst 1, .bipush 13, .invokestatic 80, .ifCond .eq 11, .getstatic 119, .iload_n 1, .laload, .goto 6]),
  (18, [.ldc2_w 123]),
  (21, [.lreturn])]
def bk_B_first : List (Nat × List Instr) := [(0, [.iload_n 1, .iconst 1, .bipush 13, .invokestatic 80, .ifCond .eq 14, .iload_n 2, .iconst 0, .iload_n 1, .iconst 1, .isub, .invokestatic 80, .ifCond .ne 7]),
  (21, [.ldc2_w 123, .lreturn]),
  (25, [.getstatic 119, .iload_n 1, .iconst 1, .isub, .laload, .lstore_n 3, .iconst 1, .istore 5]),
  (36, [.iload 5, .iload_n 2, .if_icmp .gt 36, .lload_n 3, .iload_n 1, .iload 5, .isub, .iload_n 1, .iload 5, .iadd, .iconst 1, .isub, .imul, .iload 5, .iconst 2, .iload_n 1, .imul, .iload 5, .isub, .iconst 1, .isub, .imul, .invokestatic 125, .lstore_n 3, .iinc 5 1, .goto (-36)]),
  (75, [.lload_n 3, .lreturn])]
def bk_B_weight : List (Nat × List Instr) := [(0, [.iload_n 1, .iconst 1, .bipush 11, .invokestatic 80, .ifCond .eq 15, .lconst 1, .iload_n 1, .iload_n 1, .iconst 1, .isub, .imul, .iconst 2, .idiv, .lshl, .goto 6]),
  (22, [.ldc2_w 123]),
  (25, [.lreturn])]
def bk_B_number : List (Nat × List Instr) := [(0, [.aload_n 0, .iload_n 1, .invokevirtual 68, .astore_n 2, .aload_n 2, .ifnonnull 9, .ldc2_w 123, .goto 11]),
  (16, [.aload_n 0, .getfield 30, .aload_n 2, .invokevirtual 129]),
  (24, [.lreturn])]
def bk_B_of : List (Nat × List Instr) := [(0, [.aload_n 0, .iload_n 1, .invokevirtual 68, .astore 5, .aload 5, .ifnull 26, .iload_n 2, .invokestatic 48, .ifCond .eq 19, .lload_n 3, .lconst 0, .lcmp, .ifCond .lt 13, .lload_n 3, .getstatic 119, .iload_n 2, .laload, .lcmp, .ifCond .lt 5]),
  (35, [.iconst 0, .ireturn]),
  (37, [.aload_n 0, .getfield 30, .aload 5, .iload_n 2, .lload_n 3, .invokevirtual 133, .iconst 1, .ireturn])]
def bk_B_draw : List (Nat × List Instr) := [(0, [.aload_n 0, .iload_n 1, .invokevirtual 68, .astore 5, .aload 5, .ifnull 10, .iload_n 2, .invokestatic 48, .ifCond .ne 5]),
  (19, [.iconst (-1), .ireturn]),
  (21, [.getstatic 119, .iload_n 2, .laload, .lconst 1, .lsub, .invokestatic 137, .lstore 6, .lload_n 3, .lstore 8, .iconst 1, .istore 10]),
  (39, [.iload 10, .sipush 1000, .if_icmp .gt 57, .lload 8, .ldc2_w 141, .lmul, .ldc2_w 143, .ladd, .lstore 8, .lload 8, .bipush 16, .lushr, .lload 6, .land, .lstore 11, .lload 11, .getstatic 119, .iload_n 2, .laload, .lcmp, .ifCond .ge 18, .aload_n 0, .getfield 30, .aload 5, .iload_n 2, .lload 11, .invokevirtual 133, .iload 10, .ireturn]),
  (95, [.iinc 10 1, .goto (-59)]),
  (101, [.iconst (-1), .ireturn])]
def bk_B_both : List (Nat × List Instr) := [(0, [.aload_n 0, .iload_n 1, .invokevirtual 68, .astore 4, .aload 4, .ifnull 12, .aload_n 0, .iload_n 2, .iload_n 3, .invokevirtual 145, .ifCond .ne 5]),
  (21, [.iconst 0, .ireturn]),
  (23, [.aload 4, .aload_n 0, .getfield 11, .iload_n 2, .aaload, .aload_n 0, .getfield 11, .iload_n 3, .aaload, .iconst 1, .invokevirtual 148, .iconst 1, .ireturn])]
def bk_B_either : List (Nat × List Instr) := [(0, [.aload_n 0, .iload_n 1, .invokevirtual 68, .astore 4, .aload 4, .ifnull 12, .aload_n 0, .iload_n 2, .iload_n 3, .invokevirtual 145, .ifCond .ne 5]),
  (21, [.iconst 0, .ireturn]),
  (23, [.aload 4, .aload_n 0, .getfield 11, .iload_n 2, .aaload, .aload_n 0, .getfield 11, .iload_n 3, .aaload, .iconst 0, .invokevirtual 148, .iconst 1, .ireturn])]
def bk_B_below : List (Nat × List Instr) := [(0, [.aload_n 0, .iload_n 1, .iload_n 2, .invokevirtual 145, .ifCond .eq 25, .aload_n 0, .getfield 11, .iload_n 1, .aaload, .aload_n 0, .getfield 11, .iload_n 2, .aaload, .invokevirtual 152, .ifCond .eq 7, .iconst 1, .goto 4]),
  (31, [.iconst 0]),
  (32, [.ireturn])]
def bk_B_apart : List (Nat × List Instr) := [(0, [.aload_n 0, .iload_n 1, .iload_n 2, .invokevirtual 145, .ifCond .eq 21, .aload_n 0, .getfield 11, .iload_n 1, .aaload, .aload_n 0, .getfield 11, .iload_n 2, .aaload, .invokevirtual 156, .goto 4]),
  (27, [.iconst (-1)]),
  (28, [.ireturn])]
def bk_B_step : List (Nat × List Instr) := [(0, [.aload_n 0, .iload_n 1, .invokevirtual 68, .astore 5, .aload 5, .ifnull 27, .aload 5, .iload_n 2, .iload_n 3, .iload 4, .ifCond .eq 7, .iconst 1, .goto 4]),
  (25, [.iconst (-1)]),
  (26, [.invokevirtual 159, .ifCond .eq 7, .iconst 1, .goto 4]),
  (36, [.iconst 0]),
  (37, [.ireturn])]
def bk_B_toward : List (Nat × List Instr) := [(0, [.aload_n 0, .iload_n 1, .iload_n 2, .invokevirtual 145, .ifCond .eq 21, .aload_n 0, .getfield 11, .iload_n 1, .aaload, .aload_n 0, .getfield 11, .iload_n 2, .aaload, .invokevirtual 162, .goto 4]),
  (27, [.iconst (-1)]),
  (28, [.ireturn])]
def bk_B_turn : List (Nat × List Instr) := [(0, [.aload_n 0, .iload_n 1, .invokevirtual 68, .astore_n 2, .aload_n 2, .ifnonnull 5, .iconst 0, .ireturn]),
  (12, [.aload_n 2, .iconst 0, .invokevirtual 165, .aload_n 2, .iconst 1, .invokevirtual 165, .iconst 1, .ireturn])]
def bk_B_move : List (Nat × List Instr) := [(0, [.aload_n 0, .iload_n 1, .invokevirtual 68, .astore_n 3, .aload_n 3, .ifnull 12, .iload_n 2, .iconst 0, .iconst 2, .invokestatic 80, .ifCond .ne 5]),
  (19, [.iconst 0, .ireturn]),
  (21, [.aload_n 0, .getfield 16, .aload_n 3, .iload_n 2, .invokevirtual 169, .aload_n 3, .aload_n 0, .getfield 16, .invokevirtual 173, .iconst 1, .ireturn])]
def bk_B_alike : List (Nat × List Instr) := [(0, [.aload_n 0, .iload_n 1, .invokevirtual 68, .astore_n 2, .aload_n 2, .ifnull 11, .aload_n 2, .getfield 76, .iconst 5, .if_icmp .le 5]),
  (18, [.iconst (-1), .ireturn]),
  (20, [.aload_n 0, .getfield 44, .aload_n 2, .getfield 76, .invokevirtual 176, .ifCond .ne 11, .aload_n 0, .aload_n 2, .getfield 76, .invokevirtual 179]),
  (42, [.aload_n 0, .getfield 44, .aload_n 2, .getfield 76, .aload_n 0, .getfield 37, .aload_n 2, .invokevirtual 182, .invokevirtual 185, .ireturn])]
def bk_B_learnJoinings : List (Nat × List Instr) := [(0, [.iconst 0, .istore_n 2]),
  (2, [.iload_n 2, .i2l, .getstatic 119, .iload_n 1, .laload, .lcmp, .ifCond .ge 43, .aload_n 0, .getfield 30, .aload_n 0, .getfield 16, .iload_n 1, .iload_n 2, .i2l, .invokevirtual 133, .aload_n 0, .getfield 44, .iload_n 1, .iload_n 2, .aload_n 0, .getfield 37, .aload_n 0, .getfield 16, .invokevirtual 182, .invokevirtual 189, .iinc 2 1, .goto (-48)]),
  (53, [.aload_n 0, .getfield 44, .iload_n 1, .invokevirtual 193, .return_])]
def bk_B_tableOf : List (Nat × List Instr) := [(0, [.iload_n 1, .iconst 0, .bipush 7, .invokestatic 80, .ifCond .eq 12, .aload_n 0, .getfield 11, .iload_n 1, .aaload, .goto 4]),
  (19, [.aconst_null]),
  (20, [.areturn])]
def bk_B_areOfOneSize : List (Nat × List Instr) := [(0, [.aload_n 0, .iload_n 1, .invokevirtual 68, .astore_n 3, .aload_n 0, .iload_n 2, .invokevirtual 68, .astore 4, .aload_n 3, .ifnull 24, .aload 4, .ifnull 19, .aload_n 3, .getfield 76, .aload 4, .getfield 76, .if_icmp .ne 7, .iconst 1, .goto 4]),
  (38, [.iconst 0]),
  (39, [.ireturn])]
def bk_B_isSize : List (Nat × List Instr) := [(0, [.iload_n 0, .iconst 1, .bipush 10, .invokestatic 80, .ireturn])]
def bk_B_isWithin : List (Nat × List Instr) := [(0, [.iload_n 0, .iload_n 1, .if_icmp .lt 12, .iload_n 0, .iload_n 2, .if_icmp .gt 7, .iconst 1, .goto 4]),
  (14, [.iconst 0]),
  (15, [.ireturn])]
def bk_B_timesRatio : List (Nat × List Instr) := [(0, [.iload_n 3, .iconst 1, .if_icmp .ge 7, .lconst 0, .goto 21]),
  (9, [.lload_n 0, .iload_n 3, .i2l, .ldiv, .iload_n 2, .i2l, .lmul, .lload_n 0, .iload_n 3, .i2l, .lrem, .iload_n 2, .i2l, .lmul, .iload_n 3, .i2l, .ldiv, .ladd]),
  (27, [.lreturn])]
def bk_B_bitsUpTo : List (Nat × List Instr) := [(0, [.lconst 0, .lstore_n 2, .iconst 0, .istore 4]),
  (5, [.iload 4, .bipush 63, .if_icmp .ge 23, .lload_n 2, .lload_n 0, .lcmp, .ifCond .ge 17, .ldc2_w 196, .lload_n 2, .lmul, .lconst 1, .ladd, .lstore_n 2, .iinc 4 1, .goto (-24)]),
  (32, [.lload_n 2, .lreturn])]
def bk_M_new : List (Nat × List Instr) := [(0, [.aload_n 0, .invokespecial 1, .aload_n 0, .bipush 8, .newarray .int, .putfield 9, .aload_n 0, .sipush 800, .newarray .int, .putfield 13, .aload_n 0, .iconst 1, .putfield 16, .aload_n 0, .bipush 121, .newarray .int, .putfield 20, .aload_n 0, .bipush 100, .newarray .boolean, .putfield 23, .aload_n 0, .sipush 8192, .newarray .long, .putfield 27, .aload_n 0, .iconst (-1), .putfield 31, .aload_n 0, .bipush 121, .newarray .int, .putfield 34, .aload_n 0, .bipush 121, .newarray .boolean, .putfield 37, .aload_n 0, .bipush 121, .newarray .boolean, .putfield 40, .iconst 0, .istore_n 1]),
  (82, [.iload_n 1, .bipush 8, .if_icmp .ge 29, .aload_n 0, .getfield 9, .iload_n 1, .iconst 1, .iastore, .aload_n 0, .getfield 13, .iload_n 1, .bipush 10, .imul, .bipush 10, .imul, .iconst 1, .iastore, .iinc 1 1, .goto (-29)]),
  (114, [.return_])]
def bk_M_isPlace : List (Nat × List Instr) := [(0, [.iload_n 0, .ifCond .lt 13, .iload_n 0, .bipush 8, .if_icmp .ge 7, .iconst 1, .goto 4]),
  (14, [.iconst 0]),
  (15, [.ireturn])]
def bk_M_knows : List (Nat × List Instr) := [(0, [.aload_n 0, .iconst 0, .putfield 43, .iload_n 1, .invokestatic 46, .ireturn])]
def bk_M_a : List (Nat × List Instr) := [(0, [.aload_n 0, .getfield 13, .iload_n 1, .bipush 10, .imul, .iload_n 2, .iadd, .bipush 10, .imul, .iload_n 3, .iadd, .iaload, .ireturn])]
def bk_M_a_ : List (Nat × List Instr) := [(0, [.aload_n 0, .getfield 13, .iload_n 1, .bipush 10, .imul, .iload_n 2, .iadd, .bipush 10, .imul, .iload_n 3, .iadd, .iload 4, .iastore, .return_])]
def bk_M_begin : List (Nat × List Instr) := [(0, [.aload_n 0, .iconst 0, .putfield 43, .iload_n 1, .ifCond .lt 19, .iload_n 1, .iconst 2, .if_icmp .gt 14, .iload_n 2, .iconst 1, .if_icmp .lt 9, .iload_n 2, .bipush 10, .if_icmp .le 5]),
  (25, [.iconst 0, .ireturn]),
  (27, [.aload_n 0, .iload_n 1, .putfield 50, .aload_n 0, .iload_n 2, .putfield 16, .iconst 0, .istore_n 3]),
  (39, [.iload_n 3, .aload_n 0, .getfield 20, .arraylength, .if_icmp .ge 16, .aload_n 0, .getfield 20, .iload_n 3, .iconst 0, .iastore, .iinc 3 1, .goto (-19)]),
  (61, [.iconst 1, .ireturn])]
def bk_M_put : List (Nat × List Instr) := [(0, [.aload_n 0, .iconst 0, .putfield 43, .aload_n 0, .getfield 50, .ifCond .ne 35, .iload_n 1, .ifCond .lt 27, .iload_n 1, .aload_n 0, .getfield 16, .if_icmp .ge 19, .iload_n 2, .ifCond .lt 15, .iload_n 2, .aload_n 0, .getfield 16, .if_icmp .ge 7, .iconst 1, .goto 74]),
  (40, [.iconst 0, .goto 70]),
  (44, [.aload_n 0, .getfield 50, .iconst 1, .if_icmp .ne 35, .iload_n 1, .ifCond .lt 27, .iload_n 1, .aload_n 0, .getfield 16, .if_icmp .gt 19, .iload_n 2, .ifCond .lt 15, .iload_n 2, .aload_n 0, .getfield 16, .if_icmp .gt 7, .iconst 1, .goto 34]),
  (80, [.iconst 0, .goto 30]),
  (84, [.iload_n 1, .iconst 1, .if_icmp .lt 24, .iload_n 1, .aload_n 0, .getfield 16, .if_icmp .gt 16, .iload_n 2, .ifCond .lt 12, .iload_n 2, .iload_n 1, .if_icmp .ge 7, .iconst 1, .goto 4]),
  (110, [.iconst 0]),
  (111, [.istore 4, .iload 4, .ifCond .eq 15, .aload_n 0, .getfield 20, .bipush 11, .iload_n 1, .imul, .iload_n 2, .iadd, .iload_n 3, .iastore]),
  (130, [.iload 4, .ireturn])]
def bk_M_d : List (Nat × List Instr) := [(0, [.aload_n 0, .getfield 20, .bipush 11, .iload_n 1, .imul, .iload_n 2, .iadd, .iaload, .ireturn])]
def bk_M_isRight : List (Nat × List Instr) := [(0, [.iconst 0, .istore_n 3, .iconst 0, .istore 4]),
  (5, [.iload 4, .aload_n 0, .getfield 16, .if_icmp .ge 62, .iload_n 2, .ifCond .eq 13, .aload_n 0, .iload_n 1, .iload 4, .invokevirtual 53, .goto 10]),
  (28, [.aload_n 0, .iload 4, .iload_n 1, .invokevirtual 53]),
  (35, [.istore 5, .iload 5, .iconst (-1), .if_icmp .lt 9, .iload 5, .iconst 1, .if_icmp .le 5]),
  (49, [.iconst 0, .ireturn]),
  (51, [.iload_n 3, .iload 5, .iadd, .istore_n 3, .iload_n 3, .ifCond .lt 8, .iload_n 3, .iconst 1, .if_icmp .le 5]),
  (65, [.iconst 0, .ireturn]),
  (67, [.iinc 4 1, .goto (-65)]),
  (73, [.iload_n 3, .iconst 1, .if_icmp .ne 7, .iconst 1, .goto 4]),
  (82, [.iconst 0]),
  (83, [.ireturn])]
def bk_M_faultOfSums : List (Nat × List Instr) := [(0, [.iconst 0, .istore_n 1]),
  (2, [.iload_n 1, .aload_n 0, .getfield 16, .if_icmp .gt 195, .iconst 0, .istore_n 2]),
  (12, [.iload_n 2, .aload_n 0, .getfield 16, .if_icmp .gt 179, .aload_n 0, .iload_n 1, .iload_n 2, .invokevirtual 53, .istore_n 3, .iload_n 1, .ifCond .eq 7, .iload_n 2, .ifCond .ne 7]),
  (35, [.iload_n 3, .ifCond .ne 7]),
  (39, [.iconst 1, .goto 4]),
  (43, [.iconst 0]),
  (44, [.istore 4, .iload 4, .ifCond .eq 33, .iload_n 1, .aload_n 0, .getfield 16, .if_icmp .lt 8, .iload_n 3, .iload_n 2, .if_icmp .ne 20]),
  (64, [.iload_n 2, .aload_n 0, .getfield 16, .if_icmp .lt 8, .iload_n 3, .iload_n 1, .if_icmp .ne 7]),
  (77, [.iconst 1, .goto 4]),
  (81, [.iconst 0]),
  (82, [.istore 4, .iload 4, .ifCond .eq 40, .iload_n 1, .ifCond .eq 32, .iload_n 3, .aload_n 0, .iload_n 1, .iconst 1, .isub, .iload_n 2, .invokevirtual 53, .if_icmp .eq 20, .iload_n 3, .i2l, .aload_n 0, .iload_n 1, .iconst 1, .isub, .iload_n 2, .invokevirtual 53, .i2l, .lconst 1, .ladd, .lcmp, .ifCond .ne 7]),
  (122, [.iconst 1, .goto 4]),
  (126, [.iconst 0]),
  (127, [.istore 4, .iload 4, .ifCond .eq 40, .iload_n 2, .ifCond .eq 32, .iload_n 3, .aload_n 0, .iload_n 1, .iload_n 2, .iconst 1, .isub, .invokevirtual 53, .if_icmp .eq 20, .iload_n 3, .i2l, .aload_n 0, .iload_n 1, .iload_n 2, .iconst 1, .isub, .invokevirtual 53, .i2l, .lconst 1, .ladd, .lcmp, .ifCond .ne 7]),
  (167, [.iconst 1, .goto 4]),
  (171, [.iconst 0]),
  (172, [.istore 4, .iload 4, .ifCond .ne 14, .sipush 1000, .bipush 100, .iload_n 1, .imul, .iadd, .iload_n 2, .iadd, .ireturn]),
  (190, [.iinc 2 1, .goto (-181)]),
  (196, [.iinc 1 1, .goto (-197)]),
  (202, [.iconst 0, .ireturn])]
def bk_M_faultOfTriangle : List (Nat × List Instr) := [(0, [.iconst 1, .istore_n 1]),
  (2, [.iload_n 1, .aload_n 0, .getfield 16, .if_icmp .gt 134, .iconst 0, .istore_n 2]),
  (12, [.iload_n 2, .iload_n 1, .if_icmp .ge 121, .aload_n 0, .iload_n 1, .iload_n 2, .invokevirtual 53, .istore_n 3, .iload_n 3, .ifCond .lt 31, .iload_n 3, .aload_n 0, .getfield 16, .if_icmp .ge 23, .iload_n 2, .ifCond .eq 15, .iload_n 3, .aload_n 0, .iload_n 1, .iload_n 2, .iconst 1, .isub, .invokevirtual 53, .if_icmp .le 7]),
  (52, [.iconst 1, .goto 4]),
  (56, [.iconst 0]),
  (57, [.istore 4, .iload 4, .ifCond .eq 49, .iload_n 2, .iload_n 1, .iconst 1, .isub, .if_icmp .ge 15, .iload_n 3, .aload_n 0, .iload_n 1, .iconst 1, .isub, .iload_n 2, .invokevirtual 53, .if_icmp .gt 30]),
  (83, [.iload_n 2, .ifCond .eq 22, .iload_n 1, .iconst 1, .if_icmp .eq 17, .iload_n 3, .aload_n 0, .iload_n 1, .iconst 1, .isub, .iload_n 2, .iconst 1, .isub, .invokevirtual 53, .if_icmp .lt 7]),
  (106, [.iconst 1, .goto 4]),
  (110, [.iconst 0]),
  (111, [.istore 4, .iload 4, .ifCond .ne 14, .sipush 1000, .bipush 100, .iload_n 1, .imul, .iadd, .iload_n 2, .iadd, .ireturn]),
  (129, [.iinc 2 1, .goto (-120)]),
  (135, [.iinc 1 1, .goto (-136)]),
  (141, [.iconst 0, .ireturn])]
def bk_M_fault : List (Nat × List Instr) := [(0, [.aload_n 0, .iconst 0, .putfield 43, .aload_n 0, .getfield 50, .iconst 1, .if_icmp .ne 8, .aload_n 0, .invokevirtual 57, .ireturn]),
  (18, [.aload_n 0, .getfield 50, .iconst 2, .if_icmp .ne 8, .aload_n 0, .invokevirtual 61, .ireturn]),
  (31, [.iconst 0, .istore_n 1]),
  (33, [.iload_n 1, .aload_n 0, .getfield 16, .if_icmp .ge 23, .aload_n 0, .iload_n 1, .iconst 1, .invokevirtual 64, .ifCond .ne 8, .bipush 100, .iload_n 1, .iadd, .ireturn]),
  (55, [.iinc 1 1, .goto (-25)]),
  (61, [.iconst 0, .istore_n 1]),
  (63, [.iload_n 1, .aload_n 0, .getfield 16, .if_icmp .ge 24, .aload_n 0, .iload_n 1, .iconst 0, .invokevirtual 64, .ifCond .ne 9, .sipush 200, .iload_n 1, .iadd, .ireturn]),
  (86, [.iinc 1 1, .goto (-26)]),
  (92, [.iconst 0, .ireturn])]
def bk_M_take : List (Nat × List Instr) := [(0, [.aload_n 0, .iload_n 1, .invokevirtual 68, .ifCond .eq 10, .aload_n 0, .invokevirtual 71, .ifCond .eq 5]),
  (15, [.iconst 0, .ireturn]),
  (17, [.aload_n 0, .getfield 9, .iload_n 1, .aload_n 0, .getfield 16, .iastore, .iconst 0, .istore_n 2]),
  (29, [.iload_n 2, .aload_n 0, .getfield 16, .if_icmp .ge 112, .iconst 0, .istore_n 3]),
  (39, [.iload_n 3, .aload_n 0, .getfield 16, .if_icmp .ge 96, .aload_n 0, .iload_n 2, .iload_n 3, .invokevirtual 53, .istore 4, .aload_n 0, .getfield 50, .iconst 1, .if_icmp .ne 40, .aload_n 0, .iload_n 2, .iconst 1, .iadd, .iload_n 3, .iconst 1, .iadd, .invokevirtual 53, .aload_n 0, .iload_n 2, .iload_n 3, .iconst 1, .iadd, .invokevirtual 53, .isub, .aload_n 0, .iload_n 2, .iconst 1, .iadd, .iload_n 3, .invokevirtual 53, .isub, .aload_n 0, .iload_n 2, .iload_n 3, .invokevirtual 53, .iadd, .istore 4]),
  (100, [.aload_n 0, .getfield 50, .iconst 2, .if_icmp .ne 20, .aload_n 0, .iload_n 2, .iconst 1, .iadd, .iload_n 3, .invokevirtual 74, .aload_n 0, .iload_n 2, .iload_n 3, .invokevirtual 74, .isub, .istore 4]),
  (125, [.aload_n 0, .iload_n 1, .iload_n 2, .iload_n 3, .iload 4, .invokevirtual 77, .iinc 3 1, .goto (-98)]),
  (140, [.iinc 2 1, .goto (-114)]),
  (146, [.iconst 1, .ireturn])]
def bk_M_inRow : List (Nat × List Instr) := [(0, [.iconst 0, .istore_n 3, .iconst 0, .istore 4]),
  (5, [.iload 4, .iload_n 1, .if_icmp .ge 26, .aload_n 0, .iload_n 1, .iload 4, .invokevirtual 53, .iload_n 2, .if_icmp .ne 7, .iconst 1, .goto 4]),
  (26, [.iload_n 3]),
  (27, [.istore_n 3, .iinc 4 1, .goto (-26)]),
  (34, [.iload_n 3, .ireturn])]
def bk_M_size : List (Nat × List Instr) := [(0, [.aload_n 0, .iload_n 1, .invokevirtual 68, .ifCond .eq 12, .aload_n 0, .getfield 9, .iload_n 1, .iaload, .goto 4]),
  (17, [.iconst (-1)]),
  (18, [.ireturn])]
def bk_M_isIn : List (Nat × List Instr) := [(0, [.iload_n 2, .ifCond .lt 23, .iload_n 3, .ifCond .lt 19, .iload_n 2, .iload 4, .if_icmp .gt 13, .iload_n 3, .iload 4, .if_icmp .gt 7, .iconst 1, .goto 4]),
  (24, [.iconst 0]),
  (25, [.ireturn])]
def bk_M_at : List (Nat × List Instr) := [(0, [.aload_n 0, .iload_n 1, .invokevirtual 68, .ifCond .ne 5, .iconst (-1), .ireturn]),
  (10, [.aload_n 0, .iload_n 1, .iload_n 2, .iload_n 3, .aload_n 0, .getfield 9, .iload_n 1, .iaload, .iconst 1, .isub, .invokevirtual 81, .ifCond .eq 13, .aload_n 0, .iload_n 1, .iload_n 2, .iload_n 3, .invokevirtual 85, .goto 4]),
  (38, [.iconst 0]),
  (39, [.ireturn])]
def bk_M_corner : List (Nat × List Instr) := [(0, [.iconst 0, .istore 4, .iconst 0, .istore 5]),
  (6, [.iload 5, .iload_n 2, .if_icmp .ge 38, .iconst 0, .istore 6]),
  (15, [.iload 6, .iload_n 3, .if_icmp .ge 23, .iload 4, .aload_n 0, .iload_n 1, .iload 5, .iload 6, .invokevirtual 85, .iadd, .istore 4, .iinc 6 1, .goto (-23)]),
  (41, [.iinc 5 1, .goto (-38)]),
  (47, [.iload 4, .ireturn])]
def bk_M_sum : List (Nat × List Instr) := [(0, [.aload_n 0, .iload_n 1, .invokevirtual 68, .ifCond .eq 29, .aload_n 0, .iload_n 1, .iload_n 2, .iload_n 3, .aload_n 0, .getfield 9, .iload_n 1, .iaload, .invokevirtual 81, .ifCond .eq 13, .aload_n 0, .iload_n 1, .iload_n 2, .iload_n 3, .invokevirtual 88, .goto 4]),
  (34, [.iconst (-1)]),
  (35, [.ireturn])]
def bk_M_rowOf : List (Nat × List Instr) := [(0, [.iconst 0, .istore_n 3, .iconst 0, .istore 4]),
  (5, [.iload 4, .aload_n 0, .getfield 9, .iload_n 1, .iaload, .if_icmp .ge 54, .iconst 0, .istore 5, .iconst 0, .istore 6]),
  (22, [.iload 6, .iload_n 2, .if_icmp .ge 23, .iload 5, .aload_n 0, .iload_n 1, .iload 6, .iload 4, .invokevirtual 85, .iadd, .istore 5, .iinc 6 1, .goto (-23)]),
  (48, [.iload 5, .iconst 1, .if_icmp .ne 10, .iload_n 3, .iconst 1, .iload 4, .ishl, .ior, .istore_n 3]),
  (61, [.iinc 4 1, .goto (-59)]),
  (67, [.iload_n 3, .ireturn])]
def bk_M_nth : List (Nat × List Instr) := [(0, [.iload_n 1, .istore_n 2, .iconst 0, .istore_n 3]),
  (4, [.iload_n 3, .bipush 20, .if_icmp .ge 29, .iload_n 0, .iload_n 3, .ishr, .iconst 1, .iand, .ifCond .ne 6, .goto 12]),
  (21, [.iload_n 2, .ifCond .ne 5, .iload_n 3, .ireturn]),
  (27, [.iinc 2 (-1)]),
  (30, [.iinc 3 1, .goto (-29)]),
  (36, [.iconst (-1), .ireturn])]
def bk_M_triangle : List (Nat × List Instr) := [(0, [.aload_n 0, .iload_n 1, .invokevirtual 68, .ifCond .eq 22, .iload_n 2, .iconst 1, .if_icmp .lt 17, .iload_n 2, .aload_n 0, .getfield 9, .iload_n 1, .iaload, .if_icmp .gt 7, .iload_n 3, .ifCond .ge 5]),
  (27, [.iconst (-1), .ireturn]),
  (29, [.aload_n 0, .iload_n 1, .iload_n 2, .invokevirtual 91, .iload_n 3, .invokestatic 94, .ireturn])]
def bk_M_points : List (Nat × List Instr) := [(0, [.iconst 0, .istore 5, .iload_n 2, .ifCond .eq 35, .iconst 0, .istore 6]),
  (10, [.iload 6, .iload 4, .if_icmp .ge 22, .iload 5, .aload_n 0, .iload_n 1, .iload_n 3, .iload 6, .invokevirtual 85, .iadd, .istore 5, .iinc 6 1, .goto (-23)]),
  (36, [.goto 32]),
  (39, [.iconst 0, .istore 6]),
  (42, [.iload 6, .iload_n 3, .if_icmp .ge 23, .iload 5, .aload_n 0, .iload_n 1, .iload 6, .iload 4, .invokevirtual 85, .iadd, .istore 5, .iinc 6 1, .goto (-23)]),
  (68, [.iload 5, .ifCond .ne 7, .iconst 1, .goto 4]),
  (77, [.iconst 0]),
  (78, [.ireturn])]
def bk_M_isEdge : List (Nat × List Instr) := [(0, [.aload_n 0, .getfield 9, .iload_n 1, .iaload, .istore 5, .iload_n 3, .ifCond .lt 47, .iload 4, .ifCond .lt 42, .iload_n 3, .iload_n 2, .ifCond .eq 8, .iload 5, .goto 7]),
  (27, [.iload 5, .iconst 1, .iadd]),
  (31, [.if_icmp .ge 25, .iload 4, .iload_n 2, .ifCond .eq 10, .iload 5, .iconst 1, .iadd, .goto 5]),
  (47, [.iload 5]),
  (49, [.if_icmp .ge 7, .iconst 1, .goto 4]),
  (56, [.iconst 0]),
  (57, [.ireturn])]
def bk_M_arrow : List (Nat × List Instr) := [(0, [.aload_n 0, .iload_n 1, .invokevirtual 68, .ifCond .ne 5, .iconst (-1), .ireturn]),
  (10, [.aload_n 0, .iload_n 1, .iload_n 2, .iload_n 3, .iload 4, .invokevirtual 97, .ifCond .ne 7, .iconst 0, .goto 20]),
  (26, [.aload_n 0, .iload_n 1, .iload_n 2, .iload_n 3, .iload 4, .invokevirtual 101, .ifCond .eq 7, .iconst 1, .goto 4]),
  (42, [.iconst (-1)]),
  (43, [.ireturn])]
def bk_M_isHeld : List (Nat × List Instr) := [(0, [.iload_n 3, .iload 4, .iadd, .iconst 2, .irem, .ifCond .ne 7, .iconst 1, .goto 4]),
  (13, [.iconst 0]),
  (14, [.istore 5, .aload_n 0, .iload_n 1, .iload_n 2, .iload_n 3, .iload 4, .invokevirtual 101, .iload_n 2, .iload 5, .if_icmp .ne 7, .iconst 1, .goto 4]),
  (35, [.iconst 0]),
  (36, [.if_icmp .ne 7, .iconst 1, .goto 4]),
  (43, [.iconst 0]),
  (44, [.ireturn])]
def bk_M_held : List (Nat × List Instr) := [(0, [.aload_n 0, .iload_n 1, .invokevirtual 68, .ifCond .eq 15, .aload_n 0, .iload_n 1, .iload_n 2, .iload_n 3, .iload 4, .invokevirtual 97, .ifCond .ne 7]),
  (20, [.iconst (-1), .goto 20]),
  (24, [.aload_n 0, .iload_n 1, .iload_n 2, .iload_n 3, .iload 4, .invokevirtual 104, .ifCond .eq 7, .iconst 1, .goto 4]),
  (40, [.iconst 0]),
  (41, [.ireturn])]
def bk_M_edge : List (Nat × List Instr) := [(0, [.bipush 100, .iload_n 1, .imul, .iload_n 2, .iadd, .iload_n 0, .ifCond .eq 7, .iconst 0, .goto 6]),
  (14, [.sipush 10000]),
  (17, [.iadd, .ireturn])]
def bk_M_end : List (Nat × List Instr) := [(0, [.aload_n 0, .getfield 9, .iload_n 1, .iaload, .istore_n 3, .iconst 0, .istore 4, .iconst 0, .istore 5]),
  (13, [.iload 5, .iconst 4, .iload_n 3, .imul, .if_icmp .ge 158, .iload_n 2, .ifCond .lt 154, .iload 5, .iload_n 3, .irem, .istore 6, .iload 5, .iload_n 3, .idiv, .iconst 2, .irem, .iconst 1, .if_icmp .ne 7, .iconst 1, .goto 4]),
  (45, [.iconst 0]),
  (46, [.istore 7, .iload 5, .iload_n 3, .if_icmp .ge 7, .iconst 0, .goto 34]),
  (58, [.iload 5, .iconst 2, .iload_n 3, .imul, .if_icmp .ge 8, .iload 6, .goto 21]),
  (71, [.iload 5, .iconst 3, .iload_n 3, .imul, .if_icmp .ge 7, .iload_n 3, .goto 9]),
  (83, [.iload_n 3, .iconst 1, .isub, .iload 6, .isub]),
  (89, [.istore 8, .iload 5, .iload_n 3, .if_icmp .ge 8, .iload 6, .goto 33]),
  (102, [.iload 5, .iconst 2, .iload_n 3, .imul, .if_icmp .ge 7, .iload_n 3, .goto 21]),
  (114, [.iload 5, .iconst 3, .iload_n 3, .imul, .if_icmp .ge 12, .iload_n 3, .iconst 1, .isub, .iload 6, .isub, .goto 4]),
  (131, [.iconst 0]),
  (132, [.istore 9, .aload_n 0, .iload_n 1, .iload 7, .iload 8, .iload 9, .invokevirtual 104, .ifCond .ne 6, .goto 22]),
  (151, [.iload 4, .iload_n 2, .if_icmp .ne 13, .iload 7, .iload 8, .iload 9, .invokestatic 107, .ireturn]),
  (167, [.iinc 4 1]),
  (170, [.iinc 5 1, .goto (-160)]),
  (176, [.iconst (-1), .ireturn])]
def bk_M_next : List (Nat × List Instr) := [(0, [.iconst 0, .istore 5]),
  (3, [.iload 5, .iconst 4, .if_icmp .ge 147, .iload 5, .iconst 2, .if_icmp .ge 7, .iconst 1, .goto 4]),
  (19, [.iconst 0]),
  (20, [.istore 6, .iload 5, .iconst 3, .if_icmp .ne 9, .iload_n 2, .iconst 1, .iadd, .goto 4]),
  (34, [.iload_n 2]),
  (35, [.istore 7, .iload 5, .iconst 1, .if_icmp .ne 9, .iload_n 3, .iconst 1, .iadd, .goto 4]),
  (49, [.iload_n 3]),
  (50, [.istore 8, .iload 6, .iload 7, .iload 8, .invokestatic 107, .istore 9, .iload 9, .iload 4, .if_icmp .eq 80, .aload_n 0, .iload_n 1, .iload 6, .iload 7, .iload 8, .invokevirtual 104, .ifCond .ne 6, .goto 63]),
  (87, [.aload_n 0, .iload 5, .iconst 2, .if_icmp .ne 9, .iload_n 2, .iconst 1, .isub, .goto 16]),
  (100, [.iload 5, .iconst 3, .if_icmp .ne 9, .iload_n 2, .iconst 1, .iadd, .goto 4]),
  (112, [.iload_n 2]),
  (113, [.putfield 111, .aload_n 0, .iload 5, .ifCond .ne 9, .iload_n 3, .iconst 1, .isub, .goto 16]),
  (128, [.iload 5, .iconst 1, .if_icmp .ne 9, .iload_n 3, .iconst 1, .iadd, .goto 4]),
  (140, [.iload_n 3]),
  (141, [.putfield 114, .iload 9, .ireturn]),
  (147, [.iinc 5 1, .goto (-147)]),
  (153, [.iconst (-1), .ireturn])]
def bk_M_isInside : List (Nat × List Instr) := [(0, [.iload_n 2, .ifCond .lt 31, .iload_n 3, .ifCond .lt 27, .iload_n 2, .aload_n 0, .getfield 9, .iload_n 1, .iaload, .if_icmp .ge 17, .iload_n 3, .aload_n 0, .getfield 9, .iload_n 1, .iaload, .if_icmp .ge 7, .iconst 1, .goto 4]),
  (32, [.iconst 0]),
  (33, [.ireturn])]
def bk_M_leaves : List (Nat × List Instr) := [(0, [.iload_n 2, .sipush 10000, .if_icmp .ge 7, .iconst 1, .goto 4]),
  (11, [.iconst 0]),
  (12, [.istore_n 3, .iload_n 2, .sipush 10000, .irem, .bipush 100, .idiv, .istore 4, .iload_n 2, .bipush 100, .irem, .istore 5, .aload_n 0, .getfield 9, .iload_n 1, .iaload, .istore 6, .iload_n 3, .ifCond .eq 13, .iload 5, .iload 6, .if_icmp .ne 6, .iinc 5 (-1)]),
  (51, [.iload_n 3, .ifCond .ne 13, .iload 4, .iload 6, .if_icmp .ne 6, .iinc 4 (-1)]),
  (65, [.iload_n 2, .istore 7]),
  (68, [.aload_n 0, .iload_n 1, .iload 4, .iload 5, .invokevirtual 117, .ifCond .eq 45, .aload_n 0, .getfield 23, .bipush 10, .iload 4, .imul, .iload 5, .iadd, .iconst 1, .bastore, .aload_n 0, .iload_n 1, .iload 4, .iload 5, .iload 7, .invokevirtual 121, .istore 7, .aload_n 0, .getfield 111, .istore 4, .aload_n 0, .getfield 114, .istore 5, .goto (-51)]),
  (122, [.iload 7, .ireturn])]
def bk_M_joined : List (Nat × List Instr) := [(0, [.aload_n 0, .iload_n 1, .aload_n 0, .iload_n 1, .iload_n 2, .invokevirtual 125, .invokevirtual 128, .istore_n 3, .iconst 0, .istore 4]),
  (15, [.aload_n 0, .iload_n 1, .iload 4, .invokevirtual 125, .iload_n 3, .if_icmp .eq 9, .iinc 4 1, .goto (-14)]),
  (32, [.iload 4, .ireturn])]
def bk_M_link : List (Nat × List Instr) := [(0, [.aload_n 0, .iload_n 1, .invokevirtual 68, .ifCond .eq 19, .iload_n 2, .ifCond .lt 15, .iload_n 2, .iconst 2, .aload_n 0, .getfield 9, .iload_n 1, .iaload, .imul, .if_icmp .lt 7]),
  (24, [.iconst (-1), .goto 9]),
  (28, [.aload_n 0, .iload_n 1, .iload_n 2, .invokevirtual 131]),
  (34, [.ireturn])]
def bk_M_rings : List (Nat × List Instr) := [(0, [.aload_n 0, .iload_n 1, .invokevirtual 68, .ifCond .ne 5, .iconst (-1), .ireturn]),
  (10, [.aload_n 0, .getfield 9, .iload_n 1, .iaload, .istore_n 2, .iconst 0, .istore_n 3]),
  (19, [.iload_n 3, .aload_n 0, .getfield 23, .arraylength, .if_icmp .ge 16, .aload_n 0, .getfield 23, .iload_n 3, .iconst 0, .bastore, .iinc 3 1, .goto (-19)]),
  (41, [.iconst 0, .istore_n 3]),
  (43, [.iload_n 3, .iconst 2, .iload_n 2, .imul, .if_icmp .ge 22, .aload_n 0, .iload_n 1, .aload_n 0, .iload_n 1, .iload_n 3, .invokevirtual 125, .invokevirtual 128, .istore 4, .iinc 3 1, .goto (-23)]),
  (69, [.iconst 0, .istore_n 3, .iconst 0, .istore 4]),
  (74, [.iload 4, .iload_n 2, .if_icmp .ge 115, .iconst 0, .istore 5]),
  (83, [.iload 5, .iload_n 2, .if_icmp .ge 100, .aload_n 0, .getfield 23, .bipush 10, .iload 4, .imul, .iload 5, .iadd, .baload, .ifCond .eq 6, .goto 75]),
  (108, [.iinc 3 1, .iload 4, .istore 6, .iload 5, .istore 7, .iconst (-1), .istore 8]),
  (122, [.aload_n 0, .getfield 23, .bipush 10, .iload 6, .imul, .iload 7, .iadd, .baload, .ifCond .ne 45, .aload_n 0, .getfield 23, .bipush 10, .iload 6, .imul, .iload 7, .iadd, .iconst 1, .bastore, .aload_n 0, .iload_n 1, .iload 6, .iload 7, .iload 8, .invokevirtual 121, .istore 8, .aload_n 0, .getfield 111, .istore 6, .aload_n 0, .getfield 114, .istore 7, .goto (-55)]),
  (180, [.iinc 5 1, .goto (-100)]),
  (186, [.iinc 4 1, .goto (-115)]),
  (192, [.iload_n 3, .ireturn])]
def bk_M_stays : List (Nat × List Instr) := [(0, [.aload_n 0, .getfield 9, .iload_n 1, .iaload, .istore_n 3, .iconst 1, .istore 4, .iconst 0, .istore 5]),
  (13, [.iload 5, .iload_n 3, .if_icmp .ge 110, .iconst 0, .istore 6]),
  (22, [.iload 6, .iload_n 3, .if_icmp .ge 95, .iload_n 2, .ifCond .ne 19, .aload_n 0, .iload_n 1, .iload_n 3, .iconst 1, .isub, .iload 6, .isub, .iload 5, .invokevirtual 85, .goto 41]),
  (48, [.iload_n 2, .iconst 1, .if_icmp .ne 23, .aload_n 0, .iload_n 1, .iload_n 3, .iconst 1, .isub, .iload 5, .isub, .iload_n 3, .iconst 1, .isub, .iload 6, .isub, .invokevirtual 85, .goto 16]),
  (73, [.aload_n 0, .iload_n 1, .iload 5, .iload_n 3, .iconst 1, .isub, .iload 6, .isub, .invokevirtual 85]),
  (86, [.istore 7, .iload 4, .ifCond .eq 21, .iload 7, .aload_n 0, .iload_n 1, .iload 5, .iload 6, .invokevirtual 85, .if_icmp .ne 7, .iconst 1, .goto 4]),
  (111, [.iconst 0]),
  (112, [.istore 4, .iinc 6 1, .goto (-95)]),
  (120, [.iinc 5 1, .goto (-110)]),
  (126, [.iload 4, .ireturn])]
def bk_M_lessOf : List (Nat × List Instr) := [(0, [.iconst 0, .istore_n 2, .iconst 0, .istore_n 3]),
  (4, [.iload_n 3, .aload_n 0, .getfield 9, .iload_n 1, .iaload, .if_icmp .ge 49, .iconst 0, .istore 4]),
  (17, [.iload 4, .aload_n 0, .getfield 9, .iload_n 1, .iaload, .if_icmp .ge 29, .iload_n 2, .aload_n 0, .iload_n 1, .iload_n 3, .iload 4, .invokevirtual 85, .iconst (-1), .if_icmp .ne 7, .iconst 1, .goto 4]),
  (45, [.iconst 0]),
  (46, [.iadd, .istore_n 2, .iinc 4 1, .goto (-34)]),
  (54, [.iinc 3 1, .goto (-53)]),
  (60, [.iload_n 2, .ireturn])]
def bk_M_kind : List (Nat × List Instr) := [(0, [.aload_n 0, .iload_n 1, .invokevirtual 68, .ifCond .ne 5, .iconst (-1), .ireturn]),
  (10, [.aload_n 0, .iload_n 1, .invokevirtual 134, .ifCond .ne 5, .iconst 0, .ireturn]),
  (20, [.iconst 0, .istore_n 2]),
  (22, [.iload_n 2, .iconst 3, .if_icmp .ge 22, .aload_n 0, .iload_n 1, .iload_n 2, .invokevirtual 138, .ifCond .eq 7, .iload_n 2, .iconst 1, .iadd, .ireturn]),
  (40, [.iinc 2 1, .goto (-21)]),
  (46, [.iconst 4, .ireturn])]
def bk_M_less : List (Nat × List Instr) := [(0, [.aload_n 0, .iload_n 1, .invokevirtual 68, .ifCond .eq 11, .aload_n 0, .iload_n 1, .invokevirtual 134, .goto 4]),
  (16, [.iconst (-1)]),
  (17, [.ireturn])]
def bk_M_bits : List (Nat × List Instr) := [(0, [.iconst 0, .istore_n 1, .iconst 0, .istore_n 2]),
  (4, [.iload_n 2, .bipush 20, .if_icmp .ge 17, .iload_n 1, .iload_n 0, .iload_n 2, .ishr, .iconst 1, .iand, .iadd, .istore_n 1, .iinc 2 1, .goto (-17)]),
  (24, [.iload_n 1, .ireturn])]
def bk_M_fits : List (Nat × List Instr) := [(0, [.iconst 0, .istore_n 2, .iconst 0, .istore_n 3, .iconst 0, .istore 4]),
  (7, [.iload 4, .bipush 13, .if_icmp .ge 49, .iload_n 1, .iload 4, .ishr, .iconst 1, .iand, .istore 5, .iload_n 0, .iload 4, .ishr, .iconst 1, .iand, .istore 6, .iload_n 2, .iload 5, .iadd, .istore_n 2, .iload_n 3, .iload 6, .iadd, .istore_n 3, .iload_n 3, .iload_n 2, .if_icmp .gt 10, .iload_n 2, .iload_n 3, .isub, .iconst 1, .if_icmp .le 5]),
  (52, [.iconst 0, .ireturn]),
  (54, [.iinc 4 1, .goto (-50)]),
  (60, [.iconst 1, .ireturn])]
def bk_M_work : List (Nat × List Instr) := [(0, [.aload_n 0, .getfield 31, .iload_n 1, .if_icmp .ne 4, .return_]),
  (9, [.aload_n 0, .iload_n 1, .putfield 31, .iconst 1, .iload_n 1, .ishl, .iconst 1, .isub, .istore_n 2, .iconst 0, .istore_n 3]),
  (22, [.iload_n 3, .iload_n 2, .if_icmp .gt 16, .aload_n 0, .getfield 27, .iload_n 3, .lconst 0, .lastore, .iinc 3 1, .goto (-15)]),
  (40, [.aload_n 0, .getfield 27, .iload_n 2, .lconst 1, .lastore, .iload_n 1, .iconst 1, .isub, .istore_n 3]),
  (51, [.iload_n 3, .ifCond .le 53, .iconst 1, .istore 4]),
  (58, [.iload 4, .iload_n 2, .if_icmp .ge 38, .iload 4, .invokestatic 142, .iload_n 3, .if_icmp .eq 6, .goto 20]),
  (76, [.aload_n 0, .getfield 27, .iload 4, .aload_n 0, .iload 4, .iload_n 1, .iconst 0, .iconst 0, .iconst 0, .invokevirtual 145, .lastore]),
  (93, [.iinc 4 1, .goto (-38)]),
  (99, [.iinc 3 (-1), .goto (-51)]),
  (105, [.return_])]
def bk_M_below : List (Nat × List Instr) := [(0, [.iload_n 3, .iload_n 2, .if_icmp .ne 21, .iload 4, .iconst 1, .if_icmp .ne 13, .aload_n 0, .getfield 27, .iload 5, .laload, .goto 4]),
  (21, [.lconst 0]),
  (22, [.lreturn]),
  (23, [.lconst 0, .lstore 6, .iload_n 1, .iload_n 3, .ishr, .iconst 1, .iand, .istore 8, .iconst 0, .istore 9]),
  (36, [.iload 9, .iconst 2, .if_icmp .ge 53, .iload 4, .iload 9, .iadd, .iload 8, .isub, .istore 10, .iload 10, .ifCond .lt 32, .iload 10, .iconst 2, .if_icmp .ge 26, .lload 6, .aload_n 0, .iload_n 1, .iload_n 2, .iload_n 3, .iconst 1, .iadd, .iload 10, .iload 5, .iload 9, .iload_n 3, .ishl, .ior, .invokevirtual 145, .ladd, .lstore 6]),
  (86, [.iinc 9 1, .goto (-53)]),
  (92, [.lload 6, .lreturn])]
def bk_M_all : List (Nat × List Instr) := [(0, [.aload_n 0, .iload_n 1, .invokevirtual 149, .lconst 0, .lstore_n 2, .iconst 0, .istore 4]),
  (10, [.iload 4, .iload_n 1, .if_icmp .ge 21, .lload_n 2, .aload_n 0, .getfield 27, .iconst 1, .iload 4, .ishl, .laload, .ladd, .lstore_n 2, .iinc 4 1, .goto (-21)]),
  (34, [.lload_n 2, .lreturn])]
def bk_M_count : List (Nat × List Instr) := [(0, [.aload_n 0, .iconst 0, .putfield 43, .iload_n 1, .iconst 1, .if_icmp .lt 9, .iload_n 1, .bipush 13, .if_icmp .le 9]),
  (16, [.ldc2_w 153, .goto 8]),
  (22, [.aload_n 0, .iload_n 1, .invokevirtual 155]),
  (27, [.lreturn])]
def bk_M_first : List (Nat × List Instr) := [(0, [.aload_n 0, .iconst 0, .putfield 43, .iload_n 1, .iconst 1, .if_icmp .lt 18, .iload_n 1, .bipush 13, .if_icmp .gt 12, .iload_n 2, .ifCond .lt 8, .iload_n 2, .iload_n 1, .if_icmp .lt 7]),
  (25, [.ldc2_w 153, .lreturn]),
  (29, [.aload_n 0, .iload_n 1, .invokevirtual 149, .aload_n 0, .getfield 27, .iconst 1, .iload_n 2, .ishl, .laload, .lreturn])]
def bk_M_weight : List (Nat × List Instr) := [(0, [.aload_n 0, .iconst 0, .putfield 43, .iload_n 1, .iconst 1, .if_icmp .lt 9, .iload_n 1, .bipush 11, .if_icmp .le 9]),
  (16, [.ldc2_w 153, .goto 12]),
  (22, [.lconst 1, .iload_n 1, .iload_n 1, .iconst 1, .isub, .imul, .iconst 2, .idiv, .lshl]),
  (31, [.lreturn])]
def bk_M_isAhead : List (Nat × List Instr) := [(0, [.iload_n 0, .iload_n 1, .ixor, .istore_n 2, .iload_n 2, .ifCond .eq 16, .iload_n 0, .iload_n 2, .iand, .iload_n 2, .ineg, .iand, .ifCond .eq 7, .iconst 1, .goto 4]),
  (21, [.iconst 0]),
  (22, [.ireturn])]
def bk_M_mayFollow : List (Nat × List Instr) := [(0, [.iload_n 2, .invokestatic 142, .iload_n 3, .if_icmp .ne 20, .iload_n 3, .iconst 1, .if_icmp .eq 11, .iload_n 1, .iload_n 2, .invokestatic 159, .ifCond .eq 7]),
  (21, [.iconst 1, .goto 4]),
  (25, [.iconst 0]),
  (26, [.ireturn])]
def bk_M_numberOf : List (Nat × List Instr) := [(0, [.aload_n 0, .getfield 9, .iload_n 1, .iaload, .istore_n 2, .aload_n 0, .iload_n 2, .invokevirtual 149, .lconst 0, .lstore_n 3, .iconst 0, .istore 5, .iconst 1, .istore 6]),
  (20, [.iload 6, .iload_n 2, .if_icmp .gt 72, .aload_n 0, .iload_n 1, .iload 6, .invokevirtual 91, .istore 7, .iconst 1, .istore 8]),
  (38, [.iload 8, .iconst 1, .iload_n 2, .ishl, .if_icmp .ge 42, .aload_n 0, .iload 5, .iload 8, .iload 6, .invokevirtual 162, .ifCond .eq 23, .iload 8, .iload 7, .invokestatic 165, .ifCond .eq 13, .lload_n 3, .aload_n 0, .getfield 27, .iload 8, .laload, .ladd, .lstore_n 3]),
  (79, [.iinc 8 1, .goto (-44)]),
  (85, [.iload 7, .istore 5, .iinc 6 1, .goto (-72)]),
  (95, [.lload_n 3, .lreturn])]
def bk_M_number : List (Nat × List Instr) := [(0, [.aload_n 0, .iload_n 1, .invokevirtual 68, .ifCond .eq 11, .aload_n 0, .iload_n 1, .invokevirtual 168, .goto 6]),
  (16, [.ldc2_w 153]),
  (19, [.lreturn])]
def bk_M_becomes : List (Nat × List Instr) := [(0, [.aload_n 0, .iload_n 2, .invokevirtual 149, .lload_n 3, .lstore 5, .iconst 0, .istore 7, .aload_n 0, .getfield 9, .iload_n 1, .iload_n 2, .iastore, .iconst 1, .istore 8]),
  (21, [.iload 8, .iload_n 2, .if_icmp .gt 106, .aload_n 0, .iload 7, .iload_n 2, .iload 8, .invokevirtual 171, .istore 9]),
  (38, [.lload 5, .aload_n 0, .getfield 27, .iload 9, .laload, .lcmp, .ifCond .lt 31, .lload 5, .aload_n 0, .getfield 27, .iload 9, .laload, .lsub, .lstore 5, .aload_n 0, .iload 7, .iload_n 2, .iload 8, .iload 9, .invokevirtual 174, .istore 9, .goto (-38)]),
  (79, [.iconst 0, .istore 10]),
  (82, [.iload 10, .iload_n 2, .if_icmp .ge 35, .aload_n 0, .iload_n 1, .iload 8, .iconst 1, .isub, .iload 10, .iload 9, .iload 10, .ishr, .iconst 1, .iand, .iload 7, .iload 10, .ishr, .iconst 1, .iand, .isub, .invokevirtual 77, .iinc 10 1, .goto (-35)]),
  (120, [.iload 9, .istore 7, .iinc 8 1, .goto (-106)]),
  (130, [.return_])]
def bk_M_firstRow : List (Nat × List Instr) := [(0, [.iconst (-1), .istore 4, .iconst 1, .istore 5]),
  (6, [.iload 5, .iconst 1, .iload_n 2, .ishl, .if_icmp .ge 40, .aload_n 0, .iload_n 1, .iload 5, .iload_n 3, .invokevirtual 162, .ifCond .eq 23, .iload 4, .iconst (-1), .if_icmp .eq 13, .iload 5, .iload 4, .invokestatic 165, .ifCond .eq 7]),
  (41, [.iload 5, .istore 4]),
  (45, [.iinc 5 1, .goto (-42)]),
  (51, [.iload 4, .ireturn])]
def bk_M_nextRow : List (Nat × List Instr) := [(0, [.iconst (-1), .istore 5, .iconst 1, .istore 6]),
  (6, [.iload 6, .iconst 1, .iload_n 2, .ishl, .if_icmp .ge 50, .aload_n 0, .iload_n 1, .iload 6, .iload_n 3, .invokevirtual 162, .ifCond .eq 33, .iload 4, .iload 6, .invokestatic 165, .ifCond .eq 23, .iload 5, .iconst (-1), .if_icmp .eq 13, .iload 6, .iload 5, .invokestatic 165, .ifCond .eq 7]),
  (51, [.iload 6, .istore 5]),
  (55, [.iinc 6 1, .goto (-52)]),
  (61, [.iload 5, .ireturn])]
def bk_M_of : List (Nat × List Instr) := [(0, [.aload_n 0, .iload_n 1, .invokevirtual 68, .ifCond .eq 30, .iload_n 2, .iconst 1, .if_icmp .lt 25, .iload_n 2, .bipush 10, .if_icmp .gt 19, .lload_n 3, .lconst 0, .lcmp, .ifCond .lt 13, .lload_n 3, .aload_n 0, .iload_n 2, .invokevirtual 155, .lcmp, .ifCond .lt 5]),
  (35, [.iconst 0, .ireturn]),
  (37, [.aload_n 0, .iload_n 1, .iload_n 2, .lload_n 3, .invokevirtual 177, .iconst 1, .ireturn])]
def bk_M_draw : List (Nat × List Instr) := [(0, [.aload_n 0, .iload_n 1, .invokevirtual 68, .ifCond .eq 14, .iload_n 2, .iconst 1, .if_icmp .lt 9, .iload_n 2, .bipush 10, .if_icmp .le 5]),
  (19, [.iconst (-1), .ireturn]),
  (21, [.aload_n 0, .iload_n 2, .invokevirtual 155, .lconst 1, .lsub, .lstore 5, .iconst 0, .istore 7]),
  (33, [.iload 7, .bipush 63, .if_icmp .ge 19, .lload 5, .iload 7, .lshr, .lconst 0, .lcmp, .ifCond .eq 9, .iinc 7 1, .goto (-20)]),
  (56, [.lload_n 3, .lstore 8, .iconst 1, .istore 10]),
  (62, [.iload 10, .sipush 1000, .if_icmp .gt 57, .lload 8, .ldc2_w 181, .lmul, .ldc2_w 183, .ladd, .lstore 8, .lload 8, .bipush 16, .lushr, .lconst 1, .iload 7, .lshl, .lconst 1, .lsub, .land, .lstore 11, .lload 11, .lload 5, .lcmp, .ifCond .le 6, .goto 14]),
  (107, [.aload_n 0, .iload_n 1, .iload_n 2, .lload 11, .invokevirtual 177, .iload 10, .ireturn]),
  (118, [.iinc 10 1, .goto (-59)]),
  (124, [.iconst (-1), .ireturn])]
def bk_M_fromCorners : List (Nat × List Instr) := [(0, [.aload_n 0, .getfield 9, .iload_n 1, .iload_n 2, .iastore, .iconst 0, .istore_n 3]),
  (9, [.iload_n 3, .iload_n 2, .if_icmp .ge 91, .iconst 0, .istore 4]),
  (17, [.iload 4, .iload_n 2, .if_icmp .ge 76, .aload_n 0, .iload_n 1, .iload_n 3, .iload 4, .aload_n 0, .getfield 34, .bipush 11, .iload_n 3, .iconst 1, .iadd, .imul, .iload 4, .iadd, .iconst 1, .iadd, .iaload, .aload_n 0, .getfield 34, .bipush 11, .iload_n 3, .imul, .iload 4, .iadd, .iconst 1, .iadd, .iaload, .isub, .aload_n 0, .getfield 34, .bipush 11, .iload_n 3, .iconst 1, .iadd, .imul, .iload 4, .iadd, .iaload, .isub, .aload_n 0, .getfield 34, .bipush 11, .iload_n 3, .imul, .iload 4, .iadd, .iaload, .iadd, .invokevirtual 77, .iinc 4 1, .goto (-76)]),
  (96, [.iinc 3 1, .goto (-90)]),
  (102, [.return_])]
def bk_M_meets : List (Nat × List Instr) := [(0, [.aload_n 0, .iconst 0, .putfield 43, .iload_n 1, .invokestatic 46, .ifCond .eq 32, .iload_n 2, .invokestatic 46, .ifCond .eq 25, .iload_n 3, .invokestatic 46, .ifCond .eq 18, .aload_n 0, .getfield 9, .iload_n 2, .iaload, .aload_n 0, .getfield 9, .iload_n 3, .iaload, .if_icmp .eq 5]),
  (41, [.iconst 0, .ireturn]),
  (43, [.aload_n 0, .getfield 9, .iload_n 2, .iaload, .istore 5, .iconst 0, .istore 6]),
  (54, [.iload 6, .iload 5, .if_icmp .gt 82, .iconst 0, .istore 7]),
  (64, [.iload 7, .iload 5, .if_icmp .gt 66, .aload_n 0, .iload_n 2, .iload 6, .iload 7, .invokevirtual 88, .istore 8, .aload_n 0, .iload_n 3, .iload 6, .iload 7, .invokevirtual 88, .istore 9, .aload_n 0, .getfield 34, .bipush 11, .iload 6, .imul, .iload 7, .iadd, .iload 4, .ifCond .eq 13, .iload 8, .iload 9, .invokestatic 185, .goto 10]),
  (120, [.iload 8, .iload 9, .invokestatic 190]),
  (127, [.iastore, .iinc 7 1, .goto (-67)]),
  (134, [.iinc 6 1, .goto (-83)]),
  (140, [.aload_n 0, .iload_n 1, .iload 5, .invokevirtual 193, .iconst 1, .ireturn])]
def bk_M_both : List (Nat × List Instr) := [(0, [.aload_n 0, .iload_n 1, .iload_n 2, .iload_n 3, .iconst 1, .invokevirtual 197, .ireturn])]
def bk_M_either : List (Nat × List Instr) := [(0, [.aload_n 0, .iload_n 1, .iload_n 2, .iload_n 3, .iconst 0, .invokevirtual 197, .ireturn])]
def bk_M_below_ : List (Nat × List Instr) := [(0, [.aload_n 0, .iconst 0, .putfield 43, .iload_n 1, .invokestatic 46, .ifCond .eq 25, .iload_n 2, .invokestatic 46, .ifCond .eq 18, .aload_n 0, .getfield 9, .iload_n 1, .iaload, .aload_n 0, .getfield 9, .iload_n 2, .iaload, .if_icmp .eq 5]),
  (34, [.iconst 0, .ireturn]),
  (36, [.iconst 1, .istore_n 3, .iconst 0, .istore 4]),
  (41, [.iload 4, .aload_n 0, .getfield 9, .iload_n 1, .iaload, .if_icmp .gt 60, .iconst 0, .istore 5]),
  (55, [.iload 5, .aload_n 0, .getfield 9, .iload_n 1, .iaload, .if_icmp .gt 40, .iload_n 3, .ifCond .eq 28, .aload_n 0, .iload_n 1, .iload 4, .iload 5, .invokevirtual 88, .aload_n 0, .iload_n 2, .iload 4, .iload 5, .invokevirtual 88, .if_icmp .lt 7, .iconst 1, .goto 4]),
  (95, [.iconst 0]),
  (96, [.istore_n 3, .iinc 5 1, .goto (-45)]),
  (103, [.iinc 4 1, .goto (-65)]),
  (109, [.iload_n 3, .ireturn])]
def bk_M_apart : List (Nat × List Instr) := [(0, [.aload_n 0, .iconst 0, .putfield 43, .iload_n 1, .invokestatic 46, .ifCond .eq 25, .iload_n 2, .invokestatic 46, .ifCond .eq 18, .aload_n 0, .getfield 9, .iload_n 1, .iaload, .aload_n 0, .getfield 9, .iload_n 2, .iaload, .if_icmp .eq 5]),
  (34, [.iconst (-1), .ireturn]),
  (36, [.iconst 0, .istore_n 3, .iconst 0, .istore 4]),
  (41, [.iload 4, .aload_n 0, .getfield 9, .iload_n 1, .iaload, .if_icmp .gt 54, .iconst 0, .istore 5]),
  (55, [.iload 5, .aload_n 0, .getfield 9, .iload_n 1, .iaload, .if_icmp .gt 34, .iload_n 3, .aload_n 0, .iload_n 1, .iload 4, .iload 5, .invokevirtual 88, .aload_n 0, .iload_n 2, .iload 4, .iload 5, .invokevirtual 88, .isub, .invokestatic 201, .iadd, .istore_n 3, .iinc 5 1, .goto (-39)]),
  (97, [.iinc 4 1, .goto (-59)]),
  (103, [.iload_n 3, .ireturn])]
def bk_M_mayBe : List (Nat × List Instr) := [(0, [.aload_n 0, .getfield 9, .iload_n 1, .iaload, .istore 5, .iload_n 2, .iconst 1, .if_icmp .lt 20, .iload_n 3, .iconst 1, .if_icmp .lt 15, .iload_n 2, .iload 5, .if_icmp .ge 9, .iload_n 3, .iload 5, .if_icmp .lt 5]),
  (30, [.iconst 0, .ireturn]),
  (32, [.aload_n 0, .iload_n 1, .iload_n 2, .iconst 1, .isub, .iload_n 3, .invokevirtual 88, .istore 6, .aload_n 0, .iload_n 1, .iload_n 2, .iload_n 3, .iconst 1, .isub, .invokevirtual 88, .istore 7, .aload_n 0, .iload_n 1, .iload_n 2, .iconst 1, .iadd, .iload_n 3, .invokevirtual 88, .istore 8, .aload_n 0, .iload_n 1, .iload_n 2, .iload_n 3, .iconst 1, .iadd, .invokevirtual 88, .istore 9, .iload 4, .iload 6, .if_icmp .eq 12, .iload 4, .iload 6, .iconst 1, .iadd, .if_icmp .ne 55]),
  (92, [.iload 4, .iload 7, .if_icmp .eq 12, .iload 4, .iload 7, .iconst 1, .iadd, .if_icmp .ne 39]),
  (108, [.iload 8, .iload 4, .if_icmp .eq 12, .iload 8, .iload 4, .iconst 1, .iadd, .if_icmp .ne 23]),
  (124, [.iload 9, .iload 4, .if_icmp .eq 12, .iload 9, .iload 4, .iconst 1, .iadd, .if_icmp .ne 7]),
  (140, [.iconst 1, .goto 4]),
  (144, [.iconst 0]),
  (145, [.ireturn])]
def bk_M_changes : List (Nat × List Instr) := [(0, [.aload_n 0, .iload_n 1, .iload_n 2, .iconst 1, .isub, .iload_n 3, .iconst 1, .isub, .aload_n 0, .iload_n 1, .iload_n 2, .iconst 1, .isub, .iload_n 3, .iconst 1, .isub, .invokevirtual 85, .iload 4, .iadd, .invokevirtual 77, .aload_n 0, .iload_n 1, .iload_n 2, .iload_n 3, .aload_n 0, .iload_n 1, .iload_n 2, .iload_n 3, .invokevirtual 85, .iload 4, .iadd, .invokevirtual 77, .aload_n 0, .iload_n 1, .iload_n 2, .iconst 1, .isub, .iload_n 3, .aload_n 0, .iload_n 1, .iload_n 2, .iconst 1, .isub, .iload_n 3, .invokevirtual 85, .iload 4, .isub, .invokevirtual 77, .aload_n 0, .iload_n 1, .iload_n 2, .iload_n 3, .iconst 1, .isub, .aload_n 0, .iload_n 1, .iload_n 2, .iload_n 3, .iconst 1, .isub, .invokevirtual 85, .iload 4, .isub, .invokevirtual 77, .return_])]
def bk_M_step : List (Nat × List Instr) := [(0, [.aload_n 0, .iload_n 1, .invokevirtual 68, .ifCond .eq 33, .iload_n 2, .iconst 1, .if_icmp .lt 28, .iload_n 3, .iconst 1, .if_icmp .lt 23, .iload_n 2, .aload_n 0, .getfield 9, .iload_n 1, .iaload, .if_icmp .ge 13, .iload_n 3, .aload_n 0, .getfield 9, .iload_n 1, .iaload, .if_icmp .lt 5]),
  (38, [.iconst 0, .ireturn]),
  (40, [.iload 4, .ifCond .eq 7, .iconst 1, .goto 4]),
  (49, [.iconst (-1)]),
  (50, [.istore 5, .aload_n 0, .iload_n 1, .iload_n 2, .iload_n 3, .aload_n 0, .iload_n 1, .iload_n 2, .iload_n 3, .invokevirtual 88, .iload 5, .iadd, .invokevirtual 204, .ifCond .ne 5, .iconst 0, .ireturn]),
  (74, [.aload_n 0, .iload_n 1, .iload_n 2, .iload_n 3, .iload 5, .invokevirtual 207, .iconst 1, .ireturn])]
def bk_M_toward : List (Nat × List Instr) := [(0, [.aload_n 0, .iconst 0, .putfield 43, .iload_n 1, .invokestatic 46, .ifCond .eq 25, .iload_n 2, .invokestatic 46, .ifCond .eq 18, .aload_n 0, .getfield 9, .iload_n 1, .iaload, .aload_n 0, .getfield 9, .iload_n 2, .iaload, .if_icmp .eq 5]),
  (34, [.iconst (-1), .ireturn]),
  (36, [.aload_n 0, .getfield 9, .iload_n 1, .iaload, .istore_n 3, .iconst 1, .istore 4]),
  (46, [.iload 4, .iload_n 3, .if_icmp .ge 96, .iconst 1, .istore 5]),
  (55, [.iload 5, .iload_n 3, .if_icmp .ge 81, .aload_n 0, .iload_n 1, .iload 4, .iload 5, .invokevirtual 88, .istore 6, .aload_n 0, .iload_n 2, .iload 4, .iload 5, .invokevirtual 88, .iload 6, .invokestatic 210, .istore 7, .iload 7, .ifCond .eq 43, .aload_n 0, .iload_n 1, .iload 4, .iload 5, .iload 6, .iload 7, .iadd, .invokevirtual 204, .ifCond .ne 6, .goto 23]),
  (113, [.aload_n 0, .iload_n 1, .iload 4, .iload 5, .iload 7, .invokevirtual 207, .bipush 100, .iload 4, .imul, .iload 5, .iadd, .ireturn]),
  (133, [.iinc 5 1, .goto (-81)]),
  (139, [.iinc 4 1, .goto (-96)]),
  (145, [.iconst (-1), .ireturn])]
def bk_M_turns : List (Nat × List Instr) := [(0, [.iconst 0, .istore_n 3]),
  (2, [.iload_n 3, .iload_n 1, .iconst 1, .isub, .if_icmp .ge 217, .iconst 0, .istore 4]),
  (12, [.iload 4, .iload_n 1, .iconst 1, .isub, .if_icmp .ge 200, .iload_n 3, .iload 4, .iadd, .iconst 2, .irem, .iload_n 2, .if_icmp .eq 6, .goto 181]),
  (33, [.bipush 11, .iload_n 3, .imul, .iload 4, .iadd, .iconst 1, .iadd, .istore 5, .bipush 11, .iload_n 3, .iconst 1, .iadd, .imul, .iload 4, .iadd, .iconst 1, .iadd, .istore 6, .bipush 11, .iload_n 3, .iconst 1, .iadd, .imul, .iload 4, .iadd, .istore 7, .aload_n 0, .getfield 37, .iload 5, .baload, .ifCond .eq 37, .aload_n 0, .getfield 37, .iload 6, .baload, .ifCond .eq 27, .aload_n 0, .getfield 40, .iload 7, .baload, .ifCond .ne 17, .aload_n 0, .getfield 40, .iload 6, .baload, .ifCond .ne 7, .iconst 1, .goto 4]),
  (112, [.iconst 0]),
  (113, [.istore 8, .aload_n 0, .getfield 37, .iload 5, .baload, .ifCond .ne 37, .aload_n 0, .getfield 37, .iload 6, .baload, .ifCond .ne 27, .aload_n 0, .getfield 40, .iload 7, .baload, .ifCond .eq 17, .aload_n 0, .getfield 40, .iload 6, .baload, .ifCond .eq 7, .iconst 1, .goto 4]),
  (159, [.iconst 0]),
  (160, [.istore 9, .iload 8, .ifCond .ne 11, .iload 9, .ifCond .ne 6, .goto 39]),
  (175, [.aload_n 0, .getfield 37, .iload 5, .iload 9, .bastore, .aload_n 0, .getfield 37, .iload 6, .iload 9, .bastore, .aload_n 0, .getfield 40, .iload 7, .iload 8, .bastore, .aload_n 0, .getfield 40, .iload 6, .iload 8, .bastore]),
  (211, [.iinc 4 1, .goto (-202)]),
  (217, [.iinc 3 1, .goto (-218)]),
  (223, [.return_])]
def bk_M_turn : List (Nat × List Instr) := [(0, [.aload_n 0, .iload_n 1, .invokevirtual 68, .ifCond .ne 5, .iconst 0, .ireturn]),
  (10, [.aload_n 0, .getfield 9, .iload_n 1, .iaload, .istore_n 2, .iconst 0, .istore_n 3]),
  (19, [.iload_n 3, .iload_n 2, .if_icmp .gt 93, .iconst 0, .istore 4]),
  (27, [.iload 4, .iload_n 2, .if_icmp .gt 78, .aload_n 0, .getfield 37, .bipush 11, .iload_n 3, .imul, .iload 4, .iadd, .iload_n 3, .iload_n 2, .if_icmp .ge 19, .aload_n 0, .iload_n 1, .iconst 1, .iload_n 3, .iload 4, .invokevirtual 104, .ifCond .eq 7, .iconst 1, .goto 4]),
  (65, [.iconst 0]),
  (66, [.bastore, .aload_n 0, .getfield 40, .bipush 11, .iload_n 3, .imul, .iload 4, .iadd, .iload 4, .iload_n 2, .if_icmp .ge 19, .aload_n 0, .iload_n 1, .iconst 0, .iload_n 3, .iload 4, .invokevirtual 104, .ifCond .eq 7, .iconst 1, .goto 4]),
  (100, [.iconst 0]),
  (101, [.bastore, .iinc 4 1, .goto (-78)]),
  (108, [.iinc 3 1, .goto (-92)]),
  (114, [.aload_n 0, .iload_n 2, .iconst 0, .invokevirtual 215, .aload_n 0, .iload_n 2, .iconst 1, .invokevirtual 215, .iconst 0, .istore_n 3]),
  (128, [.iload_n 3, .iload_n 2, .if_icmp .ge 94, .iconst 0, .istore 4, .iconst 1, .istore 5]),
  (139, [.iload 5, .iload_n 2, .if_icmp .gt 76, .aload_n 0, .getfield 37, .bipush 11, .iload_n 3, .imul, .iload 5, .iadd, .baload, .iload_n 3, .iload 5, .iadd, .iconst 2, .irem, .ifCond .ne 7, .iconst 1, .goto 4]),
  (170, [.iconst 0]),
  (171, [.if_icmp .ne 7, .iconst 1, .goto 4]),
  (178, [.iconst 0]),
  (179, [.istore 6, .iload 6, .ifCond .eq 7, .iconst 0, .goto 4]),
  (190, [.iconst 1]),
  (191, [.istore 7, .aload_n 0, .iload_n 1, .iload_n 3, .iload 5, .iconst 1, .isub, .iload 7, .iload 4, .isub, .invokevirtual 77, .iload 7, .istore 4, .iinc 5 1, .goto (-76)]),
  (218, [.iinc 3 1, .goto (-93)]),
  (224, [.iconst 1, .ireturn])]
def bk_M_move : List (Nat × List Instr) := [(0, [.aload_n 0, .iload_n 1, .invokevirtual 68, .ifCond .eq 12, .iload_n 2, .ifCond .lt 8, .iload_n 2, .iconst 2, .if_icmp .le 5]),
  (17, [.iconst 0, .ireturn]),
  (19, [.aload_n 0, .getfield 9, .iload_n 1, .iaload, .istore_n 3, .iload_n 3, .iload_n 3, .imul, .newarray .int, .astore 4, .iconst 0, .istore 5]),
  (36, [.iload 5, .iload_n 3, .if_icmp .ge 84, .iconst 0, .istore 6]),
  (45, [.iload 6, .iload_n 3, .if_icmp .ge 69, .aload 4, .iload_n 3, .iload 5, .imul, .iload 6, .iadd, .iload_n 2, .ifCond .ne 19, .aload_n 0, .iload_n 1, .iload 5, .iload_n 3, .iconst 1, .isub, .iload 6, .isub, .invokevirtual 85, .goto 33]),
  (80, [.iload_n 2, .iconst 1, .if_icmp .ne 19, .aload_n 0, .iload_n 1, .iload_n 3, .iconst 1, .isub, .iload 6, .isub, .iload 5, .invokevirtual 85, .goto 12]),
  (101, [.aload_n 0, .iload_n 1, .iload 6, .iload 5, .invokevirtual 85]),
  (110, [.iastore, .iinc 6 1, .goto (-69)]),
  (117, [.iinc 5 1, .goto (-84)]),
  (123, [.iconst 0, .istore 5]),
  (126, [.iload 5, .iload_n 3, .if_icmp .ge 43, .iconst 0, .istore 6]),
  (135, [.iload 6, .iload_n 3, .if_icmp .ge 28, .aload_n 0, .iload_n 1, .iload 5, .iload 6, .aload 4, .iload_n 3, .iload 5, .imul, .iload 6, .iadd, .iaload, .invokevirtual 77, .iinc 6 1, .goto (-28)]),
  (166, [.iinc 5 1, .goto (-43)]),
  (172, [.iconst 1, .ireturn])]
def bk_M_alike : List (Nat × List Instr) := [(0, [.aload_n 0, .iload_n 1, .invokevirtual 68, .ifCond .eq 13, .aload_n 0, .getfield 9, .iload_n 1, .iaload, .iconst 5, .if_icmp .le 5]),
  (18, [.iconst (-1), .ireturn]),
  (20, [.aload_n 0, .getfield 9, .iload_n 1, .iaload, .istore_n 2, .iconst 2, .iload_n 2, .imul, .newarray .int, .astore_n 3, .iload_n 2, .iload_n 2, .imul, .newarray .int, .astore 4, .iconst 0, .istore 5]),
  (43, [.iload 5, .iconst 2, .iload_n 2, .imul, .if_icmp .ge 20, .aload_n 3, .iload 5, .aload_n 0, .iload_n 1, .iload 5, .invokevirtual 131, .iastore, .iinc 5 1, .goto (-22)]),
  (68, [.iconst 0, .istore 5]),
  (71, [.iload 5, .iload_n 2, .if_icmp .ge 43, .iconst 0, .istore 6]),
  (80, [.iload 6, .iload_n 2, .if_icmp .ge 28, .aload 4, .iload_n 2, .iload 5, .imul, .iload 6, .iadd, .aload_n 0, .iload_n 1, .iload 5, .iload 6, .invokevirtual 85, .iastore, .iinc 6 1, .goto (-28)]),
  (111, [.iinc 5 1, .goto (-43)]),
  (117, [.iconst 0, .istore 5, .aload_n 0, .iload_n 2, .invokevirtual 155, .lstore 6, .lconst 0, .lstore 8]),
  (130, [.lload 8, .lload 6, .lcmp, .ifCond .ge 81, .aload_n 0, .iload_n 1, .iload_n 2, .lload 8, .invokevirtual 177, .iconst 1, .istore 10, .iconst 0, .istore 11]),
  (152, [.iload 11, .iconst 2, .iload_n 2, .imul, .if_icmp .ge 35, .iload 10, .ifCond .eq 30, .aload_n 0, .iload_n 1, .iload 11, .invokevirtual 131, .aload_n 3, .iload 11, .iaload, .if_icmp .ne 7, .iconst 1, .goto 4]),
  (183, [.iconst 0]),
  (184, [.istore 10, .iinc 11 1, .goto (-37)]),
  (192, [.iload 5, .iload 10, .ifCond .eq 7, .iconst 1, .goto 4]),
  (203, [.iconst 0]),
  (204, [.iadd, .istore 5, .lload 8, .lconst 1, .ladd, .lstore 8, .goto (-83)]),
  (216, [.iconst 0, .istore 8]),
  (219, [.iload 8, .iload_n 2, .if_icmp .ge 43, .iconst 0, .istore 9]),
  (228, [.iload 9, .iload_n 2, .if_icmp .ge 28, .aload_n 0, .iload_n 1, .iload 8, .iload 9, .aload 4, .iload_n 2, .iload 8, .imul, .iload 9, .iadd, .iaload, .invokevirtual 77, .iinc 9 1, .goto (-28)]),
  (259, [.iinc 8 1, .goto (-43)]),
  (265, [.iload 5, .ireturn])]
def bk_Y_J6_compare_7cf53 : List (Nat × List Instr) := [(0, [.iload_n 0, .iload_n 1, .if_icmp .ge 7, .iconst (-1), .goto 13]),
  (9, [.iload_n 0, .iload_n 1, .if_icmp .ne 7, .iconst 0, .goto 4]),
  (18, [.iconst 1]),
  (19, [.ireturn])]
def bk_Z_J9_abs_0f7a4 : List (Nat × List Instr) := [(0, [.iload_n 0, .ifCond .ge 8, .iload_n 0, .ineg, .goto 4]),
  (9, [.iload_n 0]),
  (10, [.ireturn])]
def bk_Z_J9_max_7cf53 : List (Nat × List Instr) := [(0, [.iload_n 0, .iload_n 1, .if_icmp .lt 7, .iload_n 0, .goto 4]),
  (9, [.iload_n 1]),
  (10, [.ireturn])]
def bk_Z_J9_min_7cf53 : List (Nat × List Instr) := [(0, [.iload_n 0, .iload_n 1, .if_icmp .gt 7, .iload_n 0, .goto 4]),
  (9, [.iload_n 1]),
  (10, [.ireturn])]
def bk_L_law : List (Nat × List Instr) := [(0, [.new 7, .dup, .invokespecial 9, .astore_n 1, .new 10, .dup, .invokespecial 12, .astore_n 2, .iconst 0, .istore_n 3]),
  (18, [.iload_n 3, .aload_n 0, .arraylength, .iconst 5, .isub, .if_icmp .gt 1236, .aload_n 0, .iload_n 3, .iaload, .bipush 31, .iand, .tableswitch 1221 0 28 #[132, 165, 208, 221, 244, 267, 310, 353, 396, 465, 534, 567, 590, 613, 636, 660, 694, 718, 742, 815, 888, 931, 974, 1007, 1040, 1109, 1142, 1165, 1198]]),
  (164, [.aload_n 1, .aload_n 0, .iload_n 3, .iconst 1, .iadd, .iaload, .aload_n 0, .iload_n 3, .iconst 2, .iadd, .iaload, .invokevirtual 13, .aload_n 2, .aload_n 0, .iload_n 3, .iconst 1, .iadd, .iaload, .aload_n 0, .iload_n 3, .iconst 2, .iadd, .iaload, .invokevirtual 17, .if_icmp .eq 1061, .iconst 0, .ireturn]),
  (197, [.aload_n 1, .aload_n 0, .iload_n 3, .iconst 1, .iadd, .iaload, .aload_n 0, .iload_n 3, .iconst 2, .iadd, .iaload, .aload_n 0, .iload_n 3, .iconst 3, .iadd, .iaload, .invokevirtual 18, .aload_n 2, .aload_n 0, .iload_n 3, .iconst 1, .iadd, .iaload, .aload_n 0, .iload_n 3, .iconst 2, .iadd, .iaload, .aload_n 0, .iload_n 3, .iconst 3, .iadd, .iaload, .invokevirtual 22, .if_icmp .eq 1018, .iconst 0, .ireturn]),
  (240, [.aload_n 1, .invokevirtual 23, .aload_n 2, .invokevirtual 27, .if_icmp .eq 1005, .iconst 0, .ireturn]),
  (253, [.aload_n 1, .aload_n 0, .iload_n 3, .iconst 1, .iadd, .iaload, .invokevirtual 28, .aload_n 2, .aload_n 0, .iload_n 3, .iconst 1, .iadd, .iaload, .invokevirtual 32, .if_icmp .eq 982, .iconst 0, .ireturn]),
  (276, [.aload_n 1, .aload_n 0, .iload_n 3, .iconst 1, .iadd, .iaload, .invokevirtual 33, .aload_n 2, .aload_n 0, .iload_n 3, .iconst 1, .iadd, .iaload, .invokevirtual 37, .if_icmp .eq 959, .iconst 0, .ireturn]),
  (299, [.aload_n 1, .aload_n 0, .iload_n 3, .iconst 1, .iadd, .iaload, .aload_n 0, .iload_n 3, .iconst 2, .iadd, .iaload, .aload_n 0, .iload_n 3, .iconst 3, .iadd, .iaload, .invokevirtual 38, .aload_n 2, .aload_n 0, .iload_n 3, .iconst 1, .iadd, .iaload, .aload_n 0, .iload_n 3, .iconst 2, .iadd, .iaload, .aload_n 0, .iload_n 3, .iconst 3, .iadd, .iaload, .invokevirtual 42, .if_icmp .eq 916, .iconst 0, .ireturn]),
  (342, [.aload_n 1, .aload_n 0, .iload_n 3, .iconst 1, .iadd, .iaload, .aload_n 0, .iload_n 3, .iconst 2, .iadd, .iaload, .aload_n 0, .iload_n 3, .iconst 3, .iadd, .iaload, .invokevirtual 43, .aload_n 2, .aload_n 0, .iload_n 3, .iconst 1, .iadd, .iaload, .aload_n 0, .iload_n 3, .iconst 2, .iadd, .iaload, .aload_n 0, .iload_n 3, .iconst 3, .iadd, .iaload, .invokevirtual 46, .if_icmp .eq 873, .iconst 0, .ireturn]),
  (385, [.aload_n 1, .aload_n 0, .iload_n 3, .iconst 1, .iadd, .iaload, .aload_n 0, .iload_n 3, .iconst 2, .iadd, .iaload, .aload_n 0, .iload_n 3, .iconst 3, .iadd, .iaload, .invokevirtual 47, .aload_n 2, .aload_n 0, .iload_n 3, .iconst 1, .iadd, .iaload, .aload_n 0, .iload_n 3, .iconst 2, .iadd, .iaload, .aload_n 0, .iload_n 3, .iconst 3, .iadd, .iaload, .invokevirtual 50, .if_icmp .eq 830, .iconst 0, .ireturn]),
  (428, [.aload_n 1, .aload_n 0, .iload_n 3, .iconst 1, .iadd, .iaload, .aload_n 0, .iload_n 3, .iconst 2, .iadd, .iaload, .ifCond .eq 7, .iconst 1, .goto 4]),
  (446, [.iconst 0]),
  (447, [.aload_n 0, .iload_n 3, .iconst 3, .iadd, .iaload, .aload_n 0, .iload_n 3, .iconst 4, .iadd, .iaload, .invokevirtual 51, .aload_n 2, .aload_n 0, .iload_n 3, .iconst 1, .iadd, .iaload, .aload_n 0, .iload_n 3, .iconst 2, .iadd, .iaload, .ifCond .eq 7, .iconst 1, .goto 4]),
  (478, [.iconst 0]),
  (479, [.aload_n 0, .iload_n 3, .iconst 3, .iadd, .iaload, .aload_n 0, .iload_n 3, .iconst 4, .iadd, .iaload, .invokevirtual 55, .if_icmp .eq 761, .iconst 0, .ireturn]),
  (497, [.aload_n 1, .aload_n 0, .iload_n 3, .iconst 1, .iadd, .iaload, .aload_n 0, .iload_n 3, .iconst 2, .iadd, .iaload, .ifCond .eq 7, .iconst 1, .goto 4]),
  (515, [.iconst 0]),
  (516, [.aload_n 0, .iload_n 3, .iconst 3, .iadd, .iaload, .aload_n 0, .iload_n 3, .iconst 4, .iadd, .iaload, .invokevirtual 56, .aload_n 2, .aload_n 0, .iload_n 3, .iconst 1, .iadd, .iaload, .aload_n 0, .iload_n 3, .iconst 2, .iadd, .iaload, .ifCond .eq 7, .iconst 1, .goto 4]),
  (547, [.iconst 0]),
  (548, [.aload_n 0, .iload_n 3, .iconst 3, .iadd, .iaload, .aload_n 0, .iload_n 3, .iconst 4, .iadd, .iaload, .invokevirtual 59, .if_icmp .eq 692, .iconst 0, .ireturn]),
  (566, [.aload_n 1, .aload_n 0, .iload_n 3, .iconst 1, .iadd, .iaload, .aload_n 0, .iload_n 3, .iconst 2, .iadd, .iaload, .invokevirtual 60, .aload_n 2, .aload_n 0, .iload_n 3, .iconst 1, .iadd, .iaload, .aload_n 0, .iload_n 3, .iconst 2, .iadd, .iaload, .invokevirtual 64, .if_icmp .eq 659, .iconst 0, .ireturn]),
  (599, [.aload_n 1, .aload_n 0, .iload_n 3, .iconst 1, .iadd, .iaload, .invokevirtual 65, .aload_n 2, .aload_n 0, .iload_n 3, .iconst 1, .iadd, .iaload, .invokevirtual 68, .if_icmp .eq 636, .iconst 0, .ireturn]),
  (622, [.aload_n 1, .aload_n 0, .iload_n 3, .iconst 1, .iadd, .iaload, .invokevirtual 69, .aload_n 2, .aload_n 0, .iload_n 3, .iconst 1, .iadd, .iaload, .invokevirtual 72, .if_icmp .eq 613, .iconst 0, .ireturn]),
  (645, [.aload_n 1, .aload_n 0, .iload_n 3, .iconst 1, .iadd, .iaload, .invokevirtual 73, .aload_n 2, .aload_n 0, .iload_n 3, .iconst 1, .iadd, .iaload, .invokevirtual 76, .if_icmp .eq 590, .iconst 0, .ireturn]),
  (668, [.aload_n 1, .aload_n 0, .iload_n 3, .iconst 1, .iadd, .iaload, .invokevirtual 77, .aload_n 2, .aload_n 0, .iload_n 3, .iconst 1, .iadd, .iaload, .invokevirtual 81, .lcmp, .ifCond .eq 566, .iconst 0, .ireturn]),
  (692, [.aload_n 1, .aload_n 0, .iload_n 3, .iconst 1, .iadd, .iaload, .aload_n 0, .iload_n 3, .iconst 2, .iadd, .iaload, .invokevirtual 82, .aload_n 2, .aload_n 0, .iload_n 3, .iconst 1, .iadd, .iaload, .aload_n 0, .iload_n 3, .iconst 2, .iadd, .iaload, .invokevirtual 86, .lcmp, .ifCond .eq 532, .iconst 0, .ireturn]),
  (726, [.aload_n 1, .aload_n 0, .iload_n 3, .iconst 1, .iadd, .iaload, .invokevirtual 87, .aload_n 2, .aload_n 0, .iload_n 3, .iconst 1, .iadd, .iaload, .invokevirtual 90, .lcmp, .ifCond .eq 508, .iconst 0, .ireturn]),
  (750, [.aload_n 1, .aload_n 0, .iload_n 3, .iconst 1, .iadd, .iaload, .invokevirtual 91, .aload_n 2, .aload_n 0, .iload_n 3, .iconst 1, .iadd, .iaload, .invokevirtual 94, .lcmp, .ifCond .eq 484, .iconst 0, .ireturn]),
  (774, [.aload_n 1, .aload_n 0, .iload_n 3, .iconst 1, .iadd, .iaload, .aload_n 0, .iload_n 3, .iconst 2, .iadd, .iaload, .aload_n 0, .iload_n 3, .iconst 3, .iadd, .iaload, .i2l, .bipush 32, .lshl, .aload_n 0, .iload_n 3, .iconst 4, .iadd, .iaload, .i2l, .ldc2_w 95, .land, .lor, .invokevirtual 97, .aload_n 2, .aload_n 0, .iload_n 3, .iconst 1, .iadd, .iaload, .aload_n 0, .iload_n 3, .iconst 2, .iadd, .iaload, .aload_n 0, .iload_n 3, .iconst 3, .iadd, .iaload, .i2l, .bipush 32, .lshl, .aload_n 0, .iload_n 3, .iconst 4, .iadd, .iaload, .i2l, .ldc2_w 95, .land, .lor, .invokevirtual 101, .if_icmp .eq 411, .iconst 0, .ireturn]),
  (847, [.aload_n 1, .aload_n 0, .iload_n 3, .iconst 1, .iadd, .iaload, .aload_n 0, .iload_n 3, .iconst 2, .iadd, .iaload, .aload_n 0, .iload_n 3, .iconst 3, .iadd, .iaload, .i2l, .bipush 32, .lshl, .aload_n 0, .iload_n 3, .iconst 4, .iadd, .iaload, .i2l, .ldc2_w 95, .land, .lor, .invokevirtual 102, .aload_n 2, .aload_n 0, .iload_n 3, .iconst 1, .iadd, .iaload, .aload_n 0, .iload_n 3, .iconst 2, .iadd, .iaload, .aload_n 0, .iload_n 3, .iconst 3, .iadd, .iaload, .i2l, .bipush 32, .lshl, .aload_n 0, .iload_n 3, .iconst 4, .iadd, .iaload, .i2l, .ldc2_w 95, .land, .lor, .invokevirtual 106, .if_icmp .eq 338, .iconst 0, .ireturn]),
  (920, [.aload_n 1, .aload_n 0, .iload_n 3, .iconst 1, .iadd, .iaload, .aload_n 0, .iload_n 3, .iconst 2, .iadd, .iaload, .aload_n 0, .iload_n 3, .iconst 3, .iadd, .iaload, .invokevirtual 107, .aload_n 2, .aload_n 0, .iload_n 3, .iconst 1, .iadd, .iaload, .aload_n 0, .iload_n 3, .iconst 2, .iadd, .iaload, .aload_n 0, .iload_n 3, .iconst 3, .iadd, .iaload, .invokevirtual 110, .if_icmp .eq 295, .iconst 0, .ireturn]),
  (963, [.aload_n 1, .aload_n 0, .iload_n 3, .iconst 1, .iadd, .iaload, .aload_n 0, .iload_n 3, .iconst 2, .iadd, .iaload, .aload_n 0, .iload_n 3, .iconst 3, .iadd, .iaload, .invokevirtual 111, .aload_n 2, .aload_n 0, .iload_n 3, .iconst 1, .iadd, .iaload, .aload_n 0, .iload_n 3, .iconst 2, .iadd, .iaload, .aload_n 0, .iload_n 3, .iconst 3, .iadd, .iaload, .invokevirtual 114, .if_icmp .eq 252, .iconst 0, .ireturn]),
  (1006, [.aload_n 1, .aload_n 0, .iload_n 3, .iconst 1, .iadd, .iaload, .aload_n 0, .iload_n 3, .iconst 2, .iadd, .iaload, .invokevirtual 115, .aload_n 2, .aload_n 0, .iload_n 3, .iconst 1, .iadd, .iaload, .aload_n 0, .iload_n 3, .iconst 2, .iadd, .iaload, .invokevirtual 118, .if_icmp .eq 219, .iconst 0, .ireturn]),
  (1039, [.aload_n 1, .aload_n 0, .iload_n 3, .iconst 1, .iadd, .iaload, .aload_n 0, .iload_n 3, .iconst 2, .iadd, .iaload, .invokevirtual 119, .aload_n 2, .aload_n 0, .iload_n 3, .iconst 1, .iadd, .iaload, .aload_n 0, .iload_n 3, .iconst 2, .iadd, .iaload, .invokevirtual 122, .if_icmp .eq 186, .iconst 0, .ireturn]),
  (1072, [.aload_n 1, .aload_n 0, .iload_n 3, .iconst 1, .iadd, .iaload, .aload_n 0, .iload_n 3, .iconst 2, .iadd, .iaload, .aload_n 0, .iload_n 3, .iconst 3, .iadd, .iaload, .aload_n 0, .iload_n 3, .iconst 4, .iadd, .iaload, .ifCond .eq 7, .iconst 1, .goto 4]),
  (1100, [.iconst 0]),
  (1101, [.invokevirtual 123, .aload_n 2, .aload_n 0, .iload_n 3, .iconst 1, .iadd, .iaload, .aload_n 0, .iload_n 3, .iconst 2, .iadd, .iaload, .aload_n 0, .iload_n 3, .iconst 3, .iadd, .iaload, .aload_n 0, .iload_n 3, .iconst 4, .iadd, .iaload, .ifCond .eq 7, .iconst 1, .goto 4]),
  (1132, [.iconst 0]),
  (1133, [.invokevirtual 127, .if_icmp .eq 117, .iconst 0, .ireturn]),
  (1141, [.aload_n 1, .aload_n 0, .iload_n 3, .iconst 1, .iadd, .iaload, .aload_n 0, .iload_n 3, .iconst 2, .iadd, .iaload, .invokevirtual 128, .aload_n 2, .aload_n 0, .iload_n 3, .iconst 1, .iadd, .iaload, .aload_n 0, .iload_n 3, .iconst 2, .iadd, .iaload, .invokevirtual 131, .if_icmp .eq 84, .iconst 0, .ireturn]),
  (1174, [.aload_n 1, .aload_n 0, .iload_n 3, .iconst 1, .iadd, .iaload, .invokevirtual 132, .aload_n 2, .aload_n 0, .iload_n 3, .iconst 1, .iadd, .iaload, .invokevirtual 135, .if_icmp .eq 61, .iconst 0, .ireturn]),
  (1197, [.aload_n 1, .aload_n 0, .iload_n 3, .iconst 1, .iadd, .iaload, .aload_n 0, .iload_n 3, .iconst 2, .iadd, .iaload, .invokevirtual 136, .aload_n 2, .aload_n 0, .iload_n 3, .iconst 1, .iadd, .iaload, .aload_n 0, .iload_n 3, .iconst 2, .iadd, .iaload, .invokevirtual 139, .if_icmp .eq 28, .iconst 0, .ireturn]),
  (1230, [.aload_n 1, .aload_n 0, .iload_n 3, .iconst 1, .iadd, .iaload, .invokevirtual 140, .aload_n 2, .aload_n 0, .iload_n 3, .iconst 1, .iadd, .iaload, .invokevirtual 143, .if_icmp .eq 5, .iconst 0, .ireturn]),
  (1253, [.iinc 3 5, .goto (-1238)]),
  (1259, [.iconst 1, .ireturn])]
def xcodes_0 : List (List (Nat × List Instr)) := [bk_D_new, bk_D_clear, bk_D_has, bk_D_write, bk_D_cell, bk_D_firstFault, bk_D_firstLineFault, bk_D_alternates, bk_D_firstCellFault, bk_D_isCornerSum, bk_D_isColumn, bk_D_copyTo, bk_D_triangleBits, bk_G_new, bk_G_knows, bk_G_learn]
def xcodes_1 : List (List (Nat × List Instr)) := [bk_G_finish, bk_G_howMany, bk_O_new, bk_O_otherEnd, bk_O_ringsOf, bk_O_joiningOf, bk_O_isSeen, bk_O_goRound, bk_O_follow, bk_O_nextHeldSide, bk_O_holdsSide, bk_O_goToEnd, bk_O_endHere, bk_U_new, bk_U_numberOf, bk_U_build]
def xcodes_2 : List (List (Nat × List Instr)) := [bk_U_passWays, bk_U_waysBefore, bk_U_learnWays, bk_K_new, bk_K_start, bk_K_advance, bk_K_layFrom, bk_K_bitOf, bk_T_new, bk_T_corner, bk_T_entry, bk_T_triangleColumn, bk_T_rowBits, bk_T_hasEdge, bk_T_edgeSum, bk_T_holds]
def xcodes_3 : List (List (Nat × List Instr)) := [bk_T_minusOnes, bk_T_kindOf, bk_T_staysWhen, bk_T_movedEntry, bk_T_isBelow, bk_T_stepsTo, bk_T_stepToward, bk_T_shift, bk_T_rises, bk_T_turnSquares, bk_T_become, bk_T_becomeExtreme, bk_T_becomeMoved, bk_T_layRow, bk_B_new, bk_B_begin]
def xcodes_4 : List (List (Nat × List Instr)) := [bk_B_put, bk_B_fault, bk_B_take, bk_B_size, bk_B_at, bk_B_sum, bk_B_triangle, bk_B_arrow, bk_B_held, bk_B_link, bk_B_rings, bk_B_kind, bk_B_less, bk_B_count, bk_B_first, bk_B_weight]
def xcodes_5 : List (List (Nat × List Instr)) := [bk_B_number, bk_B_of, bk_B_draw, bk_B_both, bk_B_either, bk_B_below, bk_B_apart, bk_B_step, bk_B_toward, bk_B_turn, bk_B_move, bk_B_alike, bk_B_learnJoinings, bk_B_tableOf, bk_B_areOfOneSize, bk_B_isSize]
def xcodes_6 : List (List (Nat × List Instr)) := [bk_B_isWithin, bk_B_timesRatio, bk_B_bitsUpTo, bk_M_new, bk_M_isPlace, bk_M_knows, bk_M_a, bk_M_a_, bk_M_begin, bk_M_put, bk_M_d, bk_M_isRight, bk_M_faultOfSums, bk_M_faultOfTriangle, bk_M_fault, bk_M_take]
def xcodes_7 : List (List (Nat × List Instr)) := [bk_M_inRow, bk_M_size, bk_M_isIn, bk_M_at, bk_M_corner, bk_M_sum, bk_M_rowOf, bk_M_nth, bk_M_triangle, bk_M_points, bk_M_isEdge, bk_M_arrow, bk_M_isHeld, bk_M_held, bk_M_edge, bk_M_end]
def xcodes_8 : List (List (Nat × List Instr)) := [bk_M_next, bk_M_isInside, bk_M_leaves, bk_M_joined, bk_M_link, bk_M_rings, bk_M_stays, bk_M_lessOf, bk_M_kind, bk_M_less, bk_M_bits, bk_M_fits, bk_M_work, bk_M_below, bk_M_all, bk_M_count]
def xcodes_9 : List (List (Nat × List Instr)) := [bk_M_first, bk_M_weight, bk_M_isAhead, bk_M_mayFollow, bk_M_numberOf, bk_M_number, bk_M_becomes, bk_M_firstRow, bk_M_nextRow, bk_M_of, bk_M_draw, bk_M_fromCorners, bk_M_meets, bk_M_both, bk_M_either, bk_M_below_]
def xcodes_10 : List (List (Nat × List Instr)) := [bk_M_apart, bk_M_mayBe, bk_M_changes, bk_M_step, bk_M_toward, bk_M_turns, bk_M_turn, bk_M_move, bk_M_alike, bk_Y_J6_compare_7cf53, bk_Z_J9_abs_0f7a4, bk_Z_J9_max_7cf53, bk_Z_J9_min_7cf53, bk_L_law]
def xcode (id : Nat) : List (Nat × List Instr) := match id / 16 with
  | 0 => xcodes_0.getD (id % 16) []
  | 1 => xcodes_1.getD (id % 16) []
  | 2 => xcodes_2.getD (id % 16) []
  | 3 => xcodes_3.getD (id % 16) []
  | 4 => xcodes_4.getD (id % 16) []
  | 5 => xcodes_5.getD (id % 16) []
  | 6 => xcodes_6.getD (id % 16) []
  | 7 => xcodes_7.getD (id % 16) []
  | 8 => xcodes_8.getD (id % 16) []
  | 9 => xcodes_9.getD (id % 16) []
  | 10 => xcodes_10.getD (id % 16) []
  | _ => []
def xblk (id pc : Nat) : Option (List Instr) := List.lookup pc (xcode id)
end
section
/-! ===== AN INTERPRETER OF THE BYTECODE OVER A SMALL PICTURE OF THE HEAP (own work): cells have numbers of their own; its soundness is proved further on ===== -/
/-- how many cells; lengths of late arrays; int fields; reference fields; int and boolean arrays; long arrays; arrays of references; the script -/
abbrev XW : Type := Nat × (Nat → Nat) × (Nat → Nat → Int32) × (Nat → Nat → Option Nat) × (Nat → Nat → Int32) × (Nat → Nat → Int64) × (Nat → Nat → Option Nat) × (Nat × (Nat → Int32))
abbrev XL : Type := List (Option Value)
abbrev XR : Type := Value × XW
abbrev XB : Type := Nat × Nat
def iI (z : Int) : Int32 := Int32.ofInt z
def lI (z : Int) : Int64 := Int64.ofInt z
def xn (w : XW) : Nat := w.1
def xIF (w : XW) : Nat → Nat → Int32 := w.2.2.1
def xRF (w : XW) : Nat → Nat → Option Nat := w.2.2.2.1
def xIA (w : XW) : Nat → Nat → Int32 := w.2.2.2.2.1
def xLA (w : XW) : Nat → Nat → Int64 := w.2.2.2.2.2.1
def xRA (w : XW) : Nat → Nat → Option Nat := w.2.2.2.2.2.2.1
def xSc (w : XW) : Nat × (Nat → Int32) := w.2.2.2.2.2.2.2
def xcls (a : Nat) : Nat := xclsL.getD a 99
def xak (a : Nat) : Nat := xakL.getD a 1
def xln (w : XW) (a : Nat) : Nat := match xlnL[a]? with
  | some n => n
  | none => w.2.1 a
def xpF (w : XW) (a k : Nat) (v : Int32) : XW := match w with
  | (n, ln, f, r, i, l, ra, s) => (n, ln, va_up f a (va_up (f a) k v), r, i, l, ra, s)
def xpR (w : XW) (a k : Nat) (v : Option Nat) : XW := match w with
  | (n, ln, f, r, i, l, ra, s) => (n, ln, f, va_up r a (va_up (r a) k v), i, l, ra, s)
def xpI (w : XW) (a k : Nat) (v : Int32) : XW := match w with
  | (n, ln, f, r, i, l, ra, s) => (n, ln, f, r, va_up i a (va_up (i a) k v), l, ra, s)
def xpG (w : XW) (a : Nat) (g : Nat → Int32) : XW := match w with
  | (n, ln, f, r, i, l, ra, s) => (n, ln, f, r, va_up i a g, l, ra, s)
def xpL (w : XW) (a k : Nat) (v : Int64) : XW := match w with
  | (n, ln, f, r, i, l, ra, s) => (n, ln, f, r, i, va_up l a (va_up (l a) k v), ra, s)
def xpA (w : XW) (a k : Nat) (v : Option Nat) : XW := match w with
  | (n, ln, f, r, i, l, ra, s) => (n, ln, f, r, i, l, va_up ra a (va_up (ra a) k v), s)
/-- a new object: all its fields 0 and null -/
def xmO (w : XW) : XW := match w with
  | (n, ln, f, r, i, l, ra, s) => (n + 1, ln, va_up f n (fun _ => 0), va_up r n (fun _ => none), i, l, ra, s)
/-- a new array of N places -/
def xmA (w : XW) (N : Nat) : XW := match w with
  | (n, ln, f, r, i, l, ra, s) => (n + 1, va_up ln n N, f, r, va_up i n (fun _ => 0), va_up l n (fun _ => 0), va_up ra n (fun _ => none), s)
def xin (i : Int32) (n : Nat) : Bool := decide (0 ≤ i) && decide (i.toNatClampNeg < n)
def xg {α : Type} (b : Bool) (o : Option α) : Option α := match b with
  | true => o
  | false => none
def xo {α β : Type} (o : Option α) (k : α → Option β) : Option β := match o with
  | some q => k q
  | none => none
def xde {α : Type} (v : Value) (k : Nat → Option α) : Option α := match v with
  | .ref a => k a
  | _ => none
def xnl {α : Type} (v : Value) (A B : Option α) : Option α := match v with
  | .null => A
  | .ref _ => B
  | _ => none
def xok (a ci : Nat) : Bool := xcls a == ci
def xoa (w : XW) (a t : Nat) (i : Int32) : Bool := xak a == t && xin i (xln w a)
def xol (a : Nat) : Bool := Nat.blt 0 (xak a)
def xnok (w : XW) (t : Nat) (n : Int32) (b : XB) : Bool := xak (xn w) == t && xin n 65536 && Nat.blt 0 b.1 && Nat.ble n.toNatClampNeg b.2 && xlok (xn w) n.toNatClampNeg
def xcok (w : XW) (a q : Nat) (sp dp n : Int32) : Bool := xak a == 1 && xak q == 1 && decide (sp = 0) && decide (dp = 0) && decide (0 ≤ n) && Nat.ble n.toNatClampNeg (xln w a) && Nat.ble n.toNatClampNeg (xln w q)
def xz01 (x : Int32) : Bool := decide (x = 0) || decide (x = 1)
def xbz (x : Int32) (w : XW) : Option XR := if x = 0 ∨ x = 1 then some (.int x, w) else none
def xar (v : Value) (w : XW) : Option XR := match v with
  | .ref a => some (.ref a, w)
  | .null => some (.null, w)
  | _ => none
def xrv (v : Value) (ci : Nat) : Bool := match v with
  | .ref a => xcls a == ci
  | _ => false
def xisr (v : Value) : Bool := match v with
  | .ref _ => true
  | .null => true
  | .retAddr t => Nat.blt t 5
  | _ => false
def xbI (o : Option XR) (k : Int32 → XW → Option XR) : Option XR := match o with
  | some (.int x, w) => k x w
  | _ => none
def xbJ (o : Option XR) (k : Int64 → XW → Option XR) : Option XR := match o with
  | some (.long x, w) => k x w
  | _ => none
def xbA (o : Option XR) (k : Value → XW → Option XR) : Option XR := match o with
  | some (v, w) => xg (xisr v) (k v w)
  | none => none
def xbV (o : Option XR) (k : XW → Option XR) : Option XR := match o with
  | some (_, w) => k w
  | none => none
def xif (cnd : ClassFile.Cond) (x y : Int32) (A B : Option XR) : Option XR := match cnd with
  | .eq => if x = y then A else B
  | .ne => if x = y then B else A
  | .lt => if x < y then A else B
  | .ge => if y ≤ x then A else B
  | .gt => if y < x then A else B
  | .le => if x ≤ y then A else B
def xtg (pc : Nat) (off : Int) : Nat := ((pc : Int) + off).toNat
/-- a long's second place holds a mark; without it the long is not read -/
def xst (L : XL) (i : Nat) (v : Value) : XL := L.set i (some v)
def xst2 (L : XL) (i : Nat) (v : Value) : XL := (L.set i (some v)).set (i + 1) (some (.retAddr 7))
def xcat (st : List Value) : Nat := (st.map fun v => v.category).sum
/-- the callee of an entry of the pool: its number and level -/
def xcal (c id lv idx : Nat) : Option (Nat × Nat) := match xcalL c idx with
  | none => none
  | some d => match d == xBelow, id == xBelow, lv with
    | true, true, k + 1 => some (xBelow, k)
    | true, true, 0 => none
    | true, false, _ => some (xBelow, 13)
    | false, _, _ => some (d, 0)
/-- the answer of a call, by its type: 0 none, 1 int or boolean, 2 long, 3 a reference -/
def xback (ty : Nat) (o : Option XR) (rest : List Value) (k : List Value → XW → Option XR) : Option XR := match ty with
  | 0 => xbV o (fun w => k rest w)
  | 1 => xbI o (fun x w => k (.int x :: rest) w)
  | 2 => xbJ o (fun x w => k (.long x :: rest) w)
  | _ => xbA o (fun v w => k (v :: rest) w)
/-- a call: the room that the callee asks for is taken off the caller's -/
def xcall (C : Nat → Nat → List Value → XW → Option XR) (d : Nat × Nat) (fit : Bool) (As rest : List Value) (b : XB) (w : XW) (k : List Value → XB → XW → Option XR) : Option XR :=
  xg fit (match xbud d.1 with
  | (0, 0) => xg (Nat.ble (xcat rest) 8) (xback (xrty d.1) (C d.1 d.2 As w) rest (fun st w => k st b w))
  | (mc, ms) => xg (Nat.ble mc b.1 && Nat.ble ms b.2 && Nat.ble (xcat rest) 8) (xback (xrty d.1) (C d.1 d.2 As w) rest (fun st u => k st (b.1 - mc, b.2 - ms) u)))
def xsw (x : Int32) (ps : List (Int × Nat)) (dflt : Nat) (J : Nat → Option XR) : Option XR := match ps with
  | [] => J dflt
  | p :: ps => if x = iI p.1 then J p.2 else xsw x ps dflt J
def xtab (pc : Nat) (lo : Int) : List Int → List (Int × Nat)
  | [] => []
  | o :: os => (lo, xtg pc o) :: xtab pc (lo + 1) os
/-- one instruction: c the class whose pool is meant, id and lv the method, k what comes behind it -/
def xins (J : Nat → XL → List Value → XB → XW → Option XR) (C : Nat → Nat → List Value → XW → Option XR) (c id lv pc : Nat) (i : Instr) (k : XL → List Value → XB → XW → Option XR) (L : XL) (st : List Value) (b : XB) (w : XW) : Option XR :=
  match i with
  | .iconst n => k L (.int (iI n) :: st) b w
  | .bipush n => k L (.int (iI n) :: st) b w
  | .sipush n => k L (.int (iI n) :: st) b w
  | .lconst n => match n with
    | 0 => k L (.long (lI 0) :: st) b w
    | 1 => k L (.long (lI 1) :: st) b w
  | .ldc2_w idx => match xldc c idx with
    | some z => k L (.long (lI z) :: st) b w
    | none => none
  | .aconst_null => k L (.null :: st) b w
  | .iload i => match L[i]? with
    | some (some (.int x)) => k L (.int x :: st) b w
    | _ => none
  | .iload_n i => match L[(i : Nat)]? with
    | some (some (.int x)) => k L (.int x :: st) b w
    | _ => none
  | .lload i => match L[i]?, L[i + 1]? with
    | some (some (.long x)), some (some (.retAddr 7)) => k L (.long x :: st) b w
    | _, _ => none
  | .lload_n i => match L[(i : Nat)]?, L[(i : Nat) + 1]? with
    | some (some (.long x)), some (some (.retAddr 7)) => k L (.long x :: st) b w
    | _, _ => none
  | .aload i => match L[i]? with
    | some (some v) => xg (xisr v) (k L (v :: st) b w)
    | _ => none
  | .aload_n i => match L[(i : Nat)]? with
    | some (some v) => xg (xisr v) (k L (v :: st) b w)
    | _ => none
  | .istore i => match st with
    | .int x :: st => k (xst L i (.int x)) st b w
    | _ => none
  | .istore_n i => match st with
    | .int x :: st => k (xst L i (.int x)) st b w
    | _ => none
  | .lstore i => match st with
    | .long x :: st => k (xst2 L i (.long x)) st b w
    | _ => none
  | .lstore_n i => match st with
    | .long x :: st => k (xst2 L i (.long x)) st b w
    | _ => none
  | .astore i => match st with
    | v :: st => xg (xisr v) (k (xst L i v) st b w)
    | _ => none
  | .astore_n i => match st with
    | v :: st => xg (xisr v) (k (xst L i v) st b w)
    | _ => none
  | .iinc i n => match L[i]? with
    | some (some (.int x)) => k (xst L i (.int (x + iI n))) st b w
    | _ => none
  | .iadd => match st with
    | .int y :: .int x :: st => k L (.int (x + y) :: st) b w
    | _ => none
  | .isub => match st with
    | .int y :: .int x :: st => k L (.int (x - y) :: st) b w
    | _ => none
  | .imul => match st with
    | .int y :: .int x :: st => k L (.int (x * y) :: st) b w
    | _ => none
  | .iand => match st with
    | .int y :: .int x :: st => k L (.int (x &&& y) :: st) b w
    | _ => none
  | .ior => match st with
    | .int y :: .int x :: st => k L (.int (x ||| y) :: st) b w
    | _ => none
  | .ixor => match st with
    | .int y :: .int x :: st => k L (.int (x ^^^ y) :: st) b w
    | _ => none
  | .ishl => match st with
    | .int y :: .int x :: st => k L (.int (x <<< (y &&& 31)) :: st) b w
    | _ => none
  | .ishr => match st with
    | .int y :: .int x :: st => k L (.int (x >>> (y &&& 31)) :: st) b w
    | _ => none
  | .idiv => match st with
    | .int y :: .int x :: st => if y = 0 then none else k L (.int (x / y) :: st) b w
    | _ => none
  | .irem => match st with
    | .int y :: .int x :: st => if y = 0 then none else k L (.int (x - x / y * y) :: st) b w
    | _ => none
  | .ineg => match st with
    | .int x :: st => k L (.int (-x) :: st) b w
    | _ => none
  | .ladd => match st with
    | .long y :: .long x :: st => k L (.long (x + y) :: st) b w
    | _ => none
  | .lsub => match st with
    | .long y :: .long x :: st => k L (.long (x - y) :: st) b w
    | _ => none
  | .lmul => match st with
    | .long y :: .long x :: st => k L (.long (x * y) :: st) b w
    | _ => none
  | .land => match st with
    | .long y :: .long x :: st => k L (.long (x &&& y) :: st) b w
    | _ => none
  | .lor => match st with
    | .long y :: .long x :: st => k L (.long (x ||| y) :: st) b w
    | _ => none
  | .ldiv => match st with
    | .long y :: .long x :: st => if y = 0 then none else k L (.long (x / y) :: st) b w
    | _ => none
  | .lrem => match st with
    | .long y :: .long x :: st => if y = 0 then none else k L (.long (x - x / y * y) :: st) b w
    | _ => none
  | .lshl => match st with
    | .int y :: .long x :: st => k L (.long (x <<< (y.toInt64 &&& 63)) :: st) b w
    | _ => none
  | .lshr => match st with
    | .int y :: .long x :: st => k L (.long (x >>> (y.toInt64 &&& 63)) :: st) b w
    | _ => none
  | .lushr => match st with
    | .int y :: .long x :: st => k L (.long (x.toUInt64 >>> (y.toInt64.toUInt64 &&& Int64.toUInt64 63)).toInt64 :: st) b w
    | _ => none
  | .lcmp => match st with
    | .long y :: .long x :: st => k L (.int (lg_cmp x y) :: st) b w
    | _ => none
  | .i2l => match st with
    | .int x :: st => k L (.long x.toInt64 :: st) b w
    | _ => none
  | .dup => match st with
    | v :: st => xg (xisr v) (k L (v :: v :: st) b w)
    | _ => none
  | .pop => match st with
    | .int _ :: st => k L st b w
    | _ => none
  | .getfield idx => match xfld c idx, st with
    | some (ci, f), v :: st => xde v (fun a => xg (xok a ci) (match xfint ci f with
      | true => k L (.int (xIF w a f) :: st) b w
      | false => xo (xRF w a f) (fun q => k L (.ref q :: st) b w)))
    | _, _ => none
  | .putfield idx => match xfld c idx, st with
    | some (ci, f), u :: v :: st => xde v (fun a => xg (xok a ci) (match xfint ci f, u with
      | true, .int x => k L st b (xpF w a f x)
      | false, .ref q => k L st b (xpR w a f (some q))
      | _, _ => none))
    | _, _ => none
  | .getstatic idx => match xsta c idx with
    | some t => k L (.retAddr t :: st) b w
    | none => none
  | .iaload => match st with
    | .int i :: .retAddr t :: st => match t with
      | 4 => xg (xin i (xSc w).1) (k L (.int ((xSc w).2 i.toNatClampNeg) :: st) b w)
      | t => xg (xin i (xsiN t)) (k L (.int (iI (xsi t i.toNatClampNeg)) :: st) b w)
    | .int i :: v :: st => xde v (fun a => xg (xoa w a 1 i) (k L (.int (xIA w a i.toNatClampNeg) :: st) b w))
    | _ => none
  | .laload => match st with
    | .int i :: .retAddr t :: st => xg (t == 0 && xin i 14) (k L (.long (lI (xsl i.toNatClampNeg)) :: st) b w)
    | .int i :: v :: st => xde v (fun a => xg (xoa w a 3 i) (k L (.long (xLA w a i.toNatClampNeg) :: st) b w))
    | _ => none
  | .baload => match st with
    | .int i :: v :: st => xde v (fun a => xg (xoa w a 2 i) (k L (.int (xIA w a i.toNatClampNeg) :: st) b w))
    | _ => none
  | .aaload => match st with
    | .int i :: v :: st => xde v (fun a => xg (xoa w a 4 i) (xo (xRA w a i.toNatClampNeg) (fun q => k L (.ref q :: st) b w)))
    | _ => none
  | .iastore => match st with
    | .int x :: .int i :: v :: st => xde v (fun a => xg (xoa w a 1 i) (k L st b (xpI w a i.toNatClampNeg x)))
    | _ => none
  | .bastore => match st with
    | .int x :: .int i :: v :: st => xde v (fun a => xg (xoa w a 2 i) (xg (xz01 x) (k L st b (xpI w a i.toNatClampNeg x))))
    | _ => none
  | .lastore => match st with
    | .long x :: .int i :: v :: st => xde v (fun a => xg (xoa w a 3 i) (k L st b (xpL w a i.toNatClampNeg x)))
    | _ => none
  | .aastore => match st with
    | .ref q :: .int i :: v :: st => xde v (fun a => xg (xoa w a 4 i && xok q xTab) (k L st b (xpA w a i.toNatClampNeg (some q))))
    | _ => none
  | .arraylength => match st with
    | .retAddr t :: st => xg (t == 4) (k L (.int (iI (xSc w).1) :: st) b w)
    | v :: st => xde v (fun a => xg (xol a) (k L (.int (iI (xln w a)) :: st) b w))
    | _ => none
  | .new idx => match xnw c idx with
    | some (ci, N) => xg (xcls (xn w) == ci && Nat.blt 0 b.1 && Nat.ble N b.2) (k L (.ref (xn w) :: st) (b.1 - 1, b.2 - N) (xmO w))
    | none => none
  | .newarray t => match st with
    | .int n :: st => xg (xnok w (xatk t) n b) (k L (.ref (xn w) :: st) (b.1 - 1, b.2 - n.toNatClampNeg) (xmA w n.toNatClampNeg))
    | _ => none
  | .anewarray _ => match st with
    | .int n :: st => xg (xnok w 4 n b) (k L (.ref (xn w) :: st) (b.1 - 1, b.2 - n.toNatClampNeg) (xmA w n.toNatClampNeg))
    | _ => none
  | .goto off => J (xtg pc off) L st b w
  | .ifCond cnd off => match st with
    | .int x :: st => xif cnd x 0 (J (xtg pc off) L st b w) (k L st b w)
    | _ => none
  | .if_icmp cnd off => match st with
    | .int y :: .int x :: st => xif cnd x y (J (xtg pc off) L st b w) (k L st b w)
    | _ => none
  | .ifnull off => match st with
    | v :: st => xnl v (J (xtg pc off) L st b w) (k L st b w)
    | _ => none
  | .ifnonnull off => match st with
    | v :: st => xnl v (k L st b w) (J (xtg pc off) L st b w)
    | _ => none
  | .tableswitch d lo _ os => match st with
    | .int x :: st => xsw x (xtab pc lo os.toList) (xtg pc d) (fun p => J p L st b w)
    | _ => none
  | .lookupswitch d ps => match st with
    | .int x :: st => xsw x (ps.toList.map fun q => (q.1, xtg pc q.2)) (xtg pc d) (fun p => J p L st b w)
    | _ => none
  | .ireturn => match st with
    | [.int x] => match xrz id with
      | true => xbz x w
      | false => some (.int x, w)
    | _ => none
  | .lreturn => match st with
    | [.long x] => some (.long x, w)
    | _ => none
  | .areturn => match st with
    | [v] => xar v w
    | _ => none
  | .return_ => match st with
    | [] => some (.null, w)
    | _ => none
  | .invokespecial idx => match xobj c idx with
    | true => match st with
      | .ref _ :: st => xg (Nat.ble (xcat st) 8) (k L st b w)
      | _ => none
    | false => match xcal c id lv idx with
      | some d => match st with
        | v :: st => xg (xrv v (xown d.1)) (xcall C d true [v] st b w (fun st b w => k L st b w))
        | _ => none
      | none => none
  | .invokestatic idx => match xcpy c idx with
    | true => match st with
      | .int n :: .int dp :: .ref q :: .int sp :: .ref a :: st => xg (Nat.ble (xcat st) 8) (xg (xcok w a q sp dp n) (k L st b (xpG w q (va_cpy (xIA w a) (xIA w q) 0 0 n.toNatClampNeg))))
      | _ => none
    | false => match xcal c id lv idx with
      | some d => xcall C d (Nat.ble (xnar d.1) st.length && Nat.ble (xcat (st.take (xnar d.1)).reverse) (xmaxL d.1)) (st.take (xnar d.1)).reverse (st.drop (xnar d.1)) b w (fun st b w => k L st b w)
      | none => none
  | .invokevirtual idx => match xcal c id lv idx with
    | some d => match st.drop (xnar d.1) with
      | v :: rest => xg (xrv v (xown d.1)) (xcall C d (Nat.ble (xcat (st.take (xnar d.1)).reverse) (xmaxL d.1 - 1)) (v :: (st.take (xnar d.1)).reverse) rest b w (fun st b w => k L st b w))
      | _ => none
    | none => none
  | _ => none
def xilen (i : Instr) : Nat := match i with
  | .bipush _ | .iload _ | .lload _ | .aload _ | .istore _ | .lstore _ | .astore _ | .newarray _ => 2
  | .sipush _ | .ldc2_w _ | .iinc _ _ | .getfield _ | .putfield _ | .getstatic _ | .new _ | .anewarray _ | .goto _ | .ifCond _ _ | .if_icmp _ _ | .ifnull _ | .ifnonnull _ | .invokespecial _ | .invokestatic _ | .invokevirtual _ => 3
  | _ => 1
/-- instructions in a row, then the place behind them -/
def xexec (J : Nat → XL → List Value → XB → XW → Option XR) (C : Nat → Nat → List Value → XW → Option XR) (c id lv : Nat) : List Instr → Nat → XL → List Value → XB → XW → Option XR
  | [], pc => fun L st b w => J pc L st b w
  | i :: is, pc => xins J C c id lv pc i (xexec J C c id lv is (pc + xilen i))
def xentry (id : Nat) (args : List Value) : XL := let l := args.flatMap (fun v => match v with
    | .long x => [some (.long x), some (.retAddr 7)]
    | v => [some v]); l ++ List.replicate (xmaxL id - l.length) none
/-- with fuel: a jump or a call takes one -/
def xrf : Nat → Nat → Nat → Nat → XL → List Value → XB → XW → Option XR
  | 0 => fun _ _ _ _ _ _ _ => none
  | f + 1 => fun id lv pc L st b w => match xblk id pc with
    | some is => xexec (xrf f id lv) (fun d lw As u => xrf f d lw 0 (xentry d As) [] (xbud d) u) (xown id) id lv is pc L st b w
    | none => none
end
section
/-! ===== the interpreter without fuel: the limit, and its equation ===== -/
def xle {α : Type} (a b : Option α) : Prop := ∀ x, a = some x → b = some x
def xlim {α : Type} (a : Option α) (A : Nat → Option α) : Prop := (∀ f, xle (A f) (A (f + 1))) ∧ (∀ x, a = some x → ∃ f, A f = some x) ∧ ∀ f, xle (A f) a
theorem xlim.up {α : Type} {a : Option α} {A : Nat → Option α} (h : xlim a A) {f : Nat} : ∀ g, f ≤ g → xle (A f) (A g) := by
  intro g hg
  induction g with
  | zero => intro x hx; rw [Nat.le_zero.mp hg] at hx; exact hx
  | succ g ih =>
    rcases Nat.lt_or_ge f (g + 1) with q | q
    · exact fun x hx => h.1 g x (ih (Nat.le_of_lt_succ q) x hx)
    · have e : f = g + 1 := Nat.le_antisymm hg q
      rw [e]; exact fun x hx => hx
theorem xlim.uniq {α : Type} {a b : Option α} {A : Nat → Option α} (h : xlim a A) (h2 : xlim b A) : a = b := by
  cases a with
  | some x => obtain ⟨f, hf⟩ := h.2.1 x rfl; exact (h2.2.2 f x hf).symm
  | none =>
    cases b with
    | none => rfl
    | some y => obtain ⟨f, hf⟩ := h2.2.1 y rfl; exact h.2.2 f y hf
theorem xlim_const {α : Type} (a : Option α) : xlim a (fun _ => a) := ⟨fun _ _ h => h, fun _ h => ⟨0, h⟩, fun _ _ h => h⟩
theorem xg_lim {α : Type} {a : Option α} {A : Nat → Option α} (c : Bool) (h : xlim a A) : xlim (xg c a) (fun f => xg c (A f)) := by
  cases c
  · exact xlim_const none
  · exact h
theorem xo_lim {α β : Type} (o : Option α) {k : α → Option β} {K : Nat → α → Option β} (h : ∀ q, xlim (k q) (fun f => K f q)) : xlim (xo o k) (fun f => xo o (K f)) := by
  cases o
  · exact xlim_const none
  · exact h _
theorem xde_lim {α : Type} (v : Value) {k : Nat → Option α} {K : Nat → Nat → Option α} (h : ∀ q, xlim (k q) (fun f => K f q)) : xlim (xde v k) (fun f => xde v (K f)) := by
  cases v <;> first | exact h _ | exact xlim_const none
theorem xnl_lim {α : Type} (v : Value) {a b : Option α} {A B : Nat → Option α} (h : xlim a A) (h2 : xlim b B) : xlim (xnl v a b) (fun f => xnl v (A f) (B f)) := by
  cases v <;> first | exact h | exact h2 | exact xlim_const none
theorem ite_lim {α : Type} {p : Prop} [Decidable p] {a b : Option α} {A B : Nat → Option α} (h : xlim a A) (h2 : xlim b B) : xlim (if p then a else b) (fun f => if p then A f else B f) := by
  by_cases hp : p
  · simp only [hp, if_true]; exact h
  · simp only [hp, if_false]; exact h2
theorem xif_lim (c : ClassFile.Cond) (x y : Int32) {a b : Option XR} {A B : Nat → Option XR} (h : xlim a A) (h2 : xlim b B) : xlim (xif c x y a b) (fun f => xif c x y (A f) (B f)) := by
  cases c <;> first | exact ite_lim h h2 | exact ite_lim h2 h
theorem xsw_lim (x : Int32) (ps : List (Int × Nat)) (d : Nat) {J : Nat → Option XR} {JJ : Nat → Nat → Option XR} (h : ∀ p, xlim (J p) (fun f => JJ f p)) : xlim (xsw x ps d J) (fun f => xsw x ps d (JJ f)) := by
  induction ps with
  | nil => exact h d
  | cons p ps ih => exact ite_lim (h p.2) ih
theorem xbind_lim {α β : Type} {o : Option α} {O : Nat → Option α} (ho : xlim o O) {F : Option α → Option β} {G : Nat → Option α → Option β} (hs : ∀ q, xlim (F (some q)) (fun f => G f (some q))) (hn : ∀ f, G f none = none) (hn0 : F none = none) : xlim (F o) (fun f => G f (O f)) := by
  refine ⟨fun f x hx => ?_, fun x hx => ?_, fun f x hx => ?_⟩
  · cases he : O f with
    | none => simp only [he, hn] at hx; cases hx
    | some q => simp only [he] at hx; simp only [ho.1 f q he]; exact (hs q).1 f x hx
  · cases he : o with
    | none => rw [he, hn0] at hx; cases hx
    | some q =>
      rw [he] at hx
      obtain ⟨f, hf⟩ := ho.2.1 q he
      obtain ⟨g, hg⟩ := (hs q).2.1 x hx
      refine ⟨max f g, ?_⟩
      simp only [ho.up (max f g) (Nat.le_max_left f g) q hf]
      exact (hs q).up (max f g) (Nat.le_max_right f g) x hg
  · cases he : O f with
    | none => simp only [he, hn] at hx; cases hx
    | some q => simp only [he] at hx; rw [ho.2.2 f q he]; exact (hs q).2.2 f x hx
theorem xback_lim (ty : Nat) {o : Option XR} {O : Nat → Option XR} (rest : List Value) {k : List Value → XW → Option XR} {K : Nat → List Value → XW → Option XR} (ho : xlim o O) (hk : ∀ st w, xlim (k st w) (fun f => K f st w)) : xlim (xback ty o rest k) (fun f => xback ty (O f) rest (K f)) := by
  match ty with
  | 0 =>
    refine xbind_lim (F := fun o => xbV o (fun w => k rest w)) (G := fun f o => xbV o (fun w => K f rest w)) ho (fun q => ?_) (fun _ => rfl) rfl
    exact hk _ _
  | 1 =>
    refine xbind_lim (F := fun o => xbI o (fun x w => k (.int x :: rest) w)) (G := fun f o => xbI o (fun x w => K f (.int x :: rest) w)) ho (fun q => ?_) (fun _ => rfl) rfl
    obtain ⟨v, w⟩ := q
    cases v <;> first | exact hk _ _ | exact xlim_const none
  | 2 =>
    refine xbind_lim (F := fun o => xbJ o (fun x w => k (.long x :: rest) w)) (G := fun f o => xbJ o (fun x w => K f (.long x :: rest) w)) ho (fun q => ?_) (fun _ => rfl) rfl
    obtain ⟨v, w⟩ := q
    cases v <;> first | exact hk _ _ | exact xlim_const none
  | n + 3 =>
    refine xbind_lim (F := fun o => xbA o (fun x w => k (x :: rest) w)) (G := fun f o => xbA o (fun x w => K f (x :: rest) w)) ho (fun q => ?_) (fun _ => rfl) rfl
    exact xg_lim _ (hk _ _)
theorem xcall_lim {C : Nat → Nat → List Value → XW → Option XR} {CC : Nat → Nat → Nat → List Value → XW → Option XR} (hC : ∀ d lv As w, xlim (C d lv As w) (fun f => CC f d lv As w)) (d : Nat × Nat) (fit : Bool) (As rest : List Value) (b : XB) (w : XW) {k : List Value → XB → XW → Option XR} {K : Nat → List Value → XB → XW → Option XR} (hk : ∀ st b w, xlim (k st b w) (fun f => K f st b w)) :
    xlim (xcall C d fit As rest b w k) (fun f => xcall (CC f) d fit As rest b w (K f)) := by
  unfold xcall
  apply xg_lim
  split
  · exact xg_lim _ (xback_lim _ _ (hC _ _ _ _) (fun st w => hk _ _ _))
  · exact xg_lim _ (xback_lim _ _ (hC _ _ _ _) (fun st w => hk _ _ _))
set_option maxHeartbeats 8000000 in
set_option maxRecDepth 20000 in
theorem xins_lim {J : Nat → XL → List Value → XB → XW → Option XR} {JJ : Nat → Nat → XL → List Value → XB → XW → Option XR} (hJ : ∀ pc L st b w, xlim (J pc L st b w) (fun f => JJ f pc L st b w))
    {C : Nat → Nat → List Value → XW → Option XR} {CC : Nat → Nat → Nat → List Value → XW → Option XR} (hC : ∀ d lv As w, xlim (C d lv As w) (fun f => CC f d lv As w))
    {k : XL → List Value → XB → XW → Option XR} {K : Nat → XL → List Value → XB → XW → Option XR} (hk : ∀ L st b w, xlim (k L st b w) (fun f => K f L st b w)) (c id lv pc : Nat) (i : Instr) (L : XL) (st : List Value) (b : XB) (w : XW) :
    xlim (xins J C c id lv pc i k L st b w) (fun f => xins (JJ f) (CC f) c id lv pc i (K f) L st b w) := by
  cases i <;> first
    | exact xlim_const none
    | exact hk _ _ _ _
    | exact hJ _ _ _ _ _
    | (simp only [xins]
       repeat' first
         | exact hk _ _ _ _
         | exact hJ _ _ _ _ _
         | exact xlim_const _
         | exact xcall_lim hC _ _ _ _ _ _ (fun _ _ _ => hk _ _ _ _)
         | exact xif_lim _ _ _ (hJ _ _ _ _ _) (hk _ _ _ _)
         | exact xnl_lim _ (hJ _ _ _ _ _) (hk _ _ _ _)
         | exact xnl_lim _ (hk _ _ _ _) (hJ _ _ _ _ _)
         | exact xsw_lim _ _ _ (fun _ => hJ _ _ _ _ _)
         | apply xg_lim
         | (refine xde_lim _ (fun q => ?_))
         | (refine xo_lim _ (fun q => ?_))
         | apply ite_lim
         | split)
theorem xexec_lim {J : Nat → XL → List Value → XB → XW → Option XR} {JJ : Nat → Nat → XL → List Value → XB → XW → Option XR} (hJ : ∀ pc L st b w, xlim (J pc L st b w) (fun f => JJ f pc L st b w))
    {C : Nat → Nat → List Value → XW → Option XR} {CC : Nat → Nat → Nat → List Value → XW → Option XR} (hC : ∀ d lv As w, xlim (C d lv As w) (fun f => CC f d lv As w)) (c id lv : Nat) : ∀ (is : List Instr) (pc : Nat) (L : XL) (st : List Value) (b : XB) (w : XW),
    xlim (xexec J C c id lv is pc L st b w) (fun f => xexec (JJ f) (CC f) c id lv is pc L st b w) := by
  intro is
  induction is with
  | nil => intro pc L st b w; exact hJ _ _ _ _ _
  | cons i is ih => intro pc L st b w; exact xins_lim hJ hC (fun L st b w => ih _ L st b w) c id lv pc i L st b w
theorem xexec_mono {J J' : Nat → XL → List Value → XB → XW → Option XR} (hJ : ∀ pc L st b w, xle (J pc L st b w) (J' pc L st b w))
    {C C' : Nat → Nat → List Value → XW → Option XR} (hC : ∀ d lv As w, xle (C d lv As w) (C' d lv As w)) (c id lv : Nat) (is : List Instr) (pc : Nat) (L : XL) (st : List Value) (b : XB) (w : XW) :
    xle (xexec J C c id lv is pc L st b w) (xexec J' C' c id lv is pc L st b w) := by
  have two : ∀ {α : Type} {a a' : Option α}, xle a a' → xlim a' (fun f => match f with
      | 0 => a
      | _ + 1 => a') := fun h => ⟨fun f => by cases f with
      | zero => exact h
      | succ f => exact fun x hx => hx, fun x hx => ⟨1, hx⟩, fun f => by cases f with
      | zero => exact h
      | succ f => exact fun x hx => hx⟩
  have h := xexec_lim (J := J') (JJ := fun f => match f with
      | 0 => J
      | _ + 1 => J') (fun pc L st b w => by
        have := two (hJ pc L st b w)
        refine ⟨fun f => ?_, fun x hx => ⟨1, hx⟩, fun f => ?_⟩
        · cases f with
          | zero => exact this.1 0
          | succ f => exact fun x hx => hx
        · cases f with
          | zero => exact this.2.2 0
          | succ f => exact fun x hx => hx) (C := C') (CC := fun f => match f with
      | 0 => C
      | _ + 1 => C') (fun d lv As w => by
        have := two (hC d lv As w)
        refine ⟨fun f => ?_, fun x hx => ⟨1, hx⟩, fun f => ?_⟩
        · cases f with
          | zero => exact this.1 0
          | succ f => exact fun x hx => hx
        · cases f with
          | zero => exact this.2.2 0
          | succ f => exact fun x hx => hx) c id lv is pc L st b w
  exact h.2.2 0
theorem xrf_mono : ∀ (f id lv pc : Nat) (L : XL) (st : List Value) (b : XB) (w : XW), xle (xrf f id lv pc L st b w) (xrf (f + 1) id lv pc L st b w) := by
  intro f
  induction f with
  | zero => intro id lv pc L st b w x hx; cases hx
  | succ f ih =>
    intro id lv pc L st b w
    show xle (match xblk id pc with
      | some is => xexec (xrf f id lv) (fun d lw As u => xrf f d lw 0 (xentry d As) [] (xbud d) u) (xown id) id lv is pc L st b w
      | none => none) (match xblk id pc with
      | some is => xexec (xrf (f + 1) id lv) (fun d lw As u => xrf (f + 1) d lw 0 (xentry d As) [] (xbud d) u) (xown id) id lv is pc L st b w
      | none => none)
    cases xblk id pc with
    | none => exact fun x hx => hx
    | some is => exact xexec_mono (fun pc L st b w => ih id lv pc L st b w) (fun d lw As u => ih d lw 0 _ _ _ u) _ _ _ _ _ _ _ _ _
noncomputable def xlimit {α : Type} (A : Nat → Option α) : Option α := @dite _ (∃ f x, A f = some x) (Classical.propDecidable _) (fun h => A (Classical.choose h)) (fun _ => none)
theorem xlimit_lim {α : Type} {A : Nat → Option α} (hm : ∀ f, xle (A f) (A (f + 1))) : xlim (xlimit A) A := by
  have up : ∀ g f, f ≤ g → xle (A f) (A g) := by
    intro g
    induction g with
    | zero => intro f hf x hx; rw [Nat.le_zero.mp hf] at hx; exact hx
    | succ g ih =>
      intro f hf
      rcases Nat.lt_or_ge f (g + 1) with q | q
      · exact fun x hx => hm g x (ih f (Nat.le_of_lt_succ q) x hx)
      · have e : f = g + 1 := Nat.le_antisymm hf q
        rw [e]; exact fun x hx => hx
  by_cases h : ∃ f x, A f = some x
  · have e : xlimit A = A (Classical.choose h) := by unfold xlimit; exact dif_pos h
    obtain ⟨y, hy⟩ := Classical.choose_spec h
    refine ⟨hm, fun x hx => ⟨Classical.choose h, by rw [← e]; exact hx⟩, fun f x hx => ?_⟩
    rw [e]
    have h1 := up (max f (Classical.choose h)) f (Nat.le_max_left _ _) x hx
    have h2 := up (max f (Classical.choose h)) (Classical.choose h) (Nat.le_max_right _ _) y hy
    rw [h1] at h2
    rw [hy, h2]
  · have e : xlimit A = none := by unfold xlimit; exact dif_neg h
    exact ⟨hm, fun x hx => (by rw [e] at hx; cases hx), fun f x hx => absurd ⟨f, x, hx⟩ h⟩
noncomputable def xr (id lv pc : Nat) (L : XL) (st : List Value) (b : XB) (w : XW) : Option XR := xlimit (fun f => xrf f id lv pc L st b w)
noncomputable def xm (id lv : Nat) (As : List Value) (w : XW) : Option XR := xr id lv 0 (xentry id As) [] (xbud id) w
theorem xr_lim (id lv pc : Nat) (L : XL) (st : List Value) (b : XB) (w : XW) : xlim (xr id lv pc L st b w) (fun f => xrf f id lv pc L st b w) := xlimit_lim (fun f => xrf_mono f id lv pc L st b w)
/-- the equation of a block -/
theorem xr_eq {id pc : Nat} {is : List Instr} (hk : xblk id pc = some is) (lv : Nat) (L : XL) (st : List Value) (b : XB) (w : XW) : xr id lv pc L st b w = xexec (xr id lv) xm (xown id) id lv is pc L st b w := by
  have h1 := xexec_lim (J := xr id lv) (JJ := fun f => xrf f id lv) (fun pc L st b w => xr_lim id lv pc L st b w) (C := xm) (CC := fun f d lw As u => xrf f d lw 0 (xentry d As) [] (xbud d) u) (fun d lw As u => xr_lim d lw 0 _ _ _ u) (xown id) id lv is pc L st b w
  have h0 := xr_lim id lv pc L st b w
  have e : ∀ f, xrf (f + 1) id lv pc L st b w = xexec (xrf f id lv) (fun d lw As u => xrf f d lw 0 (xentry d As) [] (xbud d) u) (xown id) id lv is pc L st b w := fun f => by
    show (match xblk id pc with
      | some is => xexec (xrf f id lv) (fun d lw As u => xrf f d lw 0 (xentry d As) [] (xbud d) u) (xown id) id lv is pc L st b w
      | none => none) = _
    rw [hk]
  refine xlim.uniq (A := fun f => xrf (f + 1) id lv pc L st b w) ⟨fun f => h0.1 (f + 1), fun x hx => ?_, fun f => h0.2.2 (f + 1)⟩ ?_
  · obtain ⟨f, hf⟩ := h0.2.1 x hx
    exact ⟨f, h0.1 f x hf⟩
  · have : (fun f => xrf (f + 1) id lv pc L st b w) = (fun f => xexec (xrf f id lv) (fun d lw As u => xrf f d lw 0 (xentry d As) [] (xbud d) u) (xown id) id lv is pc L st b w) := funext e
    rw [this]
    exact h1
theorem xm_fuel {id lv : Nat} {As : List Value} {w : XW} {x : XR} (h : xm id lv As w = some x) : ∃ f, xrf f id lv 0 (xentry id As) [] (xbud id) w = some x := (xr_lim id lv 0 _ _ _ w).2.1 x h
end
section
/-! what the tables say of methods and classes, by program -/
def xyL : List MethodName := [yX0_init, yX0_clear, yX0_has, yX0_write, yX0_cell, yX0_firstFault, yX0_firstLineFault, yX0_alternates, yX0_firstCellFault, yX0_isCornerSum, yX0_isColumn, yX0_copyTo, yX0_triangleBits, yX1_init, yX1_knows, yX1_learn, yX1_finish, yX1_howMany, yX2_init, yX2_otherEnd, yX2_ringsOf, yX2_joiningOf, yX2_isSeen, yX2_goRound, yX2_follow, yX2_nextHeldSide, yX2_holdsSide, yX2_goToEnd, yX2_endHere, yX3_init, yX3_numberOf, yX3_build, yX3_passWays, yX3_waysBefore, yX3_learnWays, yX4_init, yX4_start, yX4_advance, yX4_layFrom, yX4_bitOf, yX5_init, yX5_corner, yX5_entry, yX5_triangleColumn, yX5_rowBits, yX5_hasEdge, yX5_edgeSum, yX5_holds, yX5_minusOnes, yX5_kindOf, yX5_staysWhen, yX5_movedEntry, yX5_isBelow, yX5_stepsTo, yX5_stepToward, yX5_shift, yX5_rises, yX5_turnSquares, yX5_become, yX5_becomeExtreme, yX5_becomeMoved, yX5_layRow, yX6_init, yX6_begin, yX6_put, yX6_fault, yX6_take, yX6_size, yX6_at, yX6_sum, yX6_triangle, yX6_arrow, yX6_held, yX6_link, yX6_rings, yX6_kind, yX6_less, yX6_count, yX6_first, yX6_weight, yX6_number, yX6_of, yX6_draw, yX6_both, yX6_either, yX6_below, yX6_apart, yX6_step, yX6_toward, yX6_turn, yX6_move, yX6_alike, yX6_learnJoinings, yX6_tableOf, yX6_areOfOneSize, yX6_isSize, yX6_isWithin, yX6_timesRatio, yX6_bitsUpTo, yX7_init, yX7_isPlace, yX7_knows, yX7_a, yX7_a_, yX7_begin, yX7_put, yX7_d, yX7_isRight, yX7_faultOfSums, yX7_faultOfTriangle, yX7_fault, yX7_take, yX7_inRow, yX7_size, yX7_isIn, yX7_at, yX7_corner, yX7_sum, yX7_rowOf, yX7_nth, yX7_triangle, yX7_points, yX7_isEdge, yX7_arrow, yX7_isHeld, yX7_held, yX7_edge, yX7_end, yX7_next, yX7_isInside, yX7_leaves, yX7_joined, yX7_link, yX7_rings, yX7_stays, yX7_lessOf, yX7_kind, yX7_less, yX7_bits, yX7_fits, yX7_work, yX7_below, yX7_all, yX7_count, yX7_first, yX7_weight, yX7_isAhead, yX7_mayFollow, yX7_numberOf, yX7_number, yX7_becomes, yX7_firstRow, yX7_nextRow, yX7_of, yX7_draw, yX7_fromCorners, yX7_meets, yX7_both, yX7_either, yX7_below_, yX7_apart, yX7_mayBe, yX7_changes, yX7_step, yX7_toward, yX7_turns, yX7_turn, yX7_move, yX7_alike, yJ6_compare_7cf53, yJ9_abs_0f7a4, yJ9_max_7cf53, yJ9_min_7cf53, yL_law]
def xy (id : Nat) : MethodName := xyL.getD id yL_law
def xbyL : List ByteArray := [cX0_init, cX0_clear, cX0_has, cX0_write, cX0_cell, cX0_firstFault, cX0_firstLineFault, cX0_alternates, cX0_firstCellFault, cX0_isCornerSum, cX0_isColumn, cX0_copyTo, cX0_triangleBits, cX1_init, cX1_knows, cX1_learn, cX1_finish, cX1_howMany, cX2_init, cX2_otherEnd, cX2_ringsOf, cX2_joiningOf, cX2_isSeen, cX2_goRound, cX2_follow, cX2_nextHeldSide, cX2_holdsSide, cX2_goToEnd, cX2_endHere, cX3_init, cX3_numberOf, cX3_build, cX3_passWays, cX3_waysBefore, cX3_learnWays, cX4_init, cX4_start, cX4_advance, cX4_layFrom, cX4_bitOf, cX5_init, cX5_corner, cX5_entry, cX5_triangleColumn, cX5_rowBits, cX5_hasEdge, cX5_edgeSum, cX5_holds, cX5_minusOnes, cX5_kindOf, cX5_staysWhen, cX5_movedEntry, cX5_isBelow, cX5_stepsTo, cX5_stepToward, cX5_shift, cX5_rises, cX5_turnSquares, cX5_become, cX5_becomeExtreme, cX5_becomeMoved, cX5_layRow, cX6_init, cX6_begin, cX6_put, cX6_fault, cX6_take, cX6_size, cX6_at, cX6_sum, cX6_triangle, cX6_arrow, cX6_held, cX6_link, cX6_rings, cX6_kind, cX6_less, cX6_count, cX6_first, cX6_weight, cX6_number, cX6_of, cX6_draw, cX6_both, cX6_either, cX6_below, cX6_apart, cX6_step, cX6_toward, cX6_turn, cX6_move, cX6_alike, cX6_learnJoinings, cX6_tableOf, cX6_areOfOneSize, cX6_isSize, cX6_isWithin, cX6_timesRatio, cX6_bitsUpTo, cX7_init, cX7_isPlace, cX7_knows, cX7_a, cX7_a_, cX7_begin, cX7_put, cX7_d, cX7_isRight, cX7_faultOfSums, cX7_faultOfTriangle, cX7_fault, cX7_take, cX7_inRow, cX7_size, cX7_isIn, cX7_at, cX7_corner, cX7_sum, cX7_rowOf, cX7_nth, cX7_triangle, cX7_points, cX7_isEdge, cX7_arrow, cX7_isHeld, cX7_held, cX7_edge, cX7_end, cX7_next, cX7_isInside, cX7_leaves, cX7_joined, cX7_link, cX7_rings, cX7_stays, cX7_lessOf, cX7_kind, cX7_less, cX7_bits, cX7_fits, cX7_work, cX7_below, cX7_all, cX7_count, cX7_first, cX7_weight, cX7_isAhead, cX7_mayFollow, cX7_numberOf, cX7_number, cX7_becomes, cX7_firstRow, cX7_nextRow, cX7_of, cX7_draw, cX7_fromCorners, cX7_meets, cX7_both, cX7_either, cX7_below_, cX7_apart, cX7_mayBe, cX7_changes, cX7_step, cX7_toward, cX7_turns, cX7_turn, cX7_move, cX7_alike, cJ6_compare_7cf53, cJ9_abs_0f7a4, cJ9_max_7cf53, cJ9_min_7cf53, cL_law]
def xby (id : Nat) : ByteArray := xbyL.getD id cL_law
def xretL : List (Option FieldType) := [none, none, some .boolean, none, some .int, some .int, some .int, some .boolean, some .int, some .boolean, some .boolean, none, some .int, none, some .boolean, none, none, some .int, none, some .int, some .int, some .long, some .boolean, none, some .boolean, some .int, some .boolean, none, some .int, none, some .long, none, some .long, some .long, none, none, none, some .boolean, none, some .int, none, some .int, some .int, some .int, some .int, some .boolean, some .int, some .boolean, some .int, some .int, some .boolean, some .int, some .boolean, some .int, some .int, some .boolean, some .boolean, none, none, none, none, none, none, some .boolean, some .boolean, some .int, some .boolean, some .int, some .int, some .int, some .int, some .int, some .int, some .int, some .int, some .int, some .int, some .long, some .long, some .long, some .long, some .boolean, some .int, some .boolean, some .boolean, some .boolean, some .int, some .boolean, some .int, some .boolean, some .boolean, some .int, none, some (.object "SignBench$Table"), some .boolean, some .boolean, some .boolean, some .long, some .long, none, some .boolean, some .boolean, some .int, none, some .boolean, some .boolean, some .int, some .boolean, some .int, some .int, some .int, some .boolean, some .int, some .int, some .boolean, some .int, some .int, some .int, some .int, some .int, some .int, some .boolean, some .boolean, some .int, some .boolean, some .int, some .int, some .int, some .int, some .boolean, some .int, some .int, some .int, some .int, some .boolean, some .int, some .int, some .int, some .int, some .boolean, none, some .long, some .long, some .long, some .long, some .long, some .boolean, some .boolean, some .long, some .long, none, some .int, some .int, some .boolean, some .int, none, some .boolean, some .boolean, some .boolean, some .boolean, some .int, some .boolean, none, some .boolean, some .int, none, some .boolean, some .boolean, some .int, some .int, some .int, some .int, some .int, some .boolean]
def xret (id : Nat) : Option FieldType := xretL.getD id none
def xcnL : List String := ["SignBench$Draft", "SignBench$Joinings", "SignBench$Loops", "SignBench$Numbering", "SignBench$RowWalk", "SignBench$Table", "SignBench", "SignBenchModel", "SignBenchLaw", "java/lang/Math", "java/lang/Integer"]
def xcn (c : Nat) : String := xcnL.getD c ""
def xT (ci : Nat) : u_T := match ci with
  | 0 => TX0
  | 1 => TX1
  | 2 => TX2
  | 3 => TX3
  | 4 => TX4
  | 5 => TX5
  | 6 => TX6
  | 7 => TX7
  | _ => TX0
def xty (ci : Nat) : Nat → FieldType := match ci with
  | 0 => tyX0
  | 1 => tyX1
  | 2 => tyX2
  | 3 => tyX3
  | 4 => tyX4
  | 5 => tyX5
  | 6 => tyX6
  | 7 => tyX7
  | _ => tyX0
def xNM : Nat := 174
def xLaw : Nat := 173
def xstC (t : Nat) : String × String × String := match t with
  | 0 => ("SignBench", "COUNTS", "[J")
  | 1 => ("SignBench$Loops", "DOWN", "[I")
  | 2 => ("SignBench$Loops", "ACROSS", "[I")
  | 3 => ("SignBench$Joinings", "STARTS", "[I")
  | _ => ("", "", "")
/-! ===== what is checked of the code by computing ===== -/
/-- the tables' words that a callee may ask for too -/
def xtb : List Cond := lw_tbl.filter goodWord
def xmem (w : Cond) : Bool := goodWord w && decide (w ∈ lw_tbl)
theorem xmem_in {w : Cond} (h : xmem w = true) : w ∈ xtb := by
  unfold xmem at h
  simp only [Bool.and_eq_true, decide_eq_true_eq] at h
  exact List.mem_filter.mpr ⟨h.2, h.1⟩
/-- links between nest mates: these go with the state -/
def xnest (w : Cond) : Bool := match w with
  | .fieldLinkNest _ _ _ _ _ _ => true
  | .methodLinkNest _ _ _ _ => true
  | _ => false
def xmemN (w : Cond) : Bool := xnest w && decide (w ∈ lw_tbl)
def xNs (U : State) : Prop := ∀ w ∈ lw_tbl, xnest w = true → va_Nw w U
theorem xNs.at {U : State} (h : xNs U) {w : Cond} (hw : xmemN w = true) : va_Nw w U := by
  unfold xmemN at hw
  simp only [Bool.and_eq_true, decide_eq_true_eq] at hw
  exact h w hw.2 hw.1
theorem xNs.warm {s U : State} (hW : s.WarmedH U.vm) (h : xNs s) : xNs U := by
  intro w hw hn
  have h0 := h w hw hn
  cases w <;> first | exact va_Nw.warmF hW h0 | exact va_Nw.warmM hW h0 | cases hn
theorem xNs.same {s U : State} (hv : s.vm = U.vm) (h : xNs s) : xNs U := by
  intro w hw hn
  have h0 := h w hw hn
  cases w <;> first | exact va_Nw.same rfl hv h0 | cases hn
def xci1 (id pc : Nat) (i : Instr) : Bool := match i with
  | .tableswitch _ _ _ _ => (match decode (xby id) pc with
    | .ok (j, _) => decide (j = i)
    | _ => false)
  | .lookupswitch _ _ => (match decode (xby id) pc with
    | .ok (j, _) => decide (j = i)
    | _ => false)
  | _ => decide (decode (xby id) pc = .ok (i, xilen i))
def xjok (pc : Nat) (o : Int) : Bool := decide (0 ≤ (pc : Int) + o)
def xrnk (id lv : Nat) : Nat := xdep id + (match id == xBelow with
  | true => lv
  | false => 0)
def xrkok (id d : Nat) : Bool := match d == xBelow, id == xBelow with
  | true, true => true
  | true, false => Nat.blt (xdep xBelow + 13) (xdep id)
  | false, true => false
  | false, false => Nat.blt (xdep d) (xdep id)
def xkok (id c idx kd : Nat) : Bool := match xcalL c idx with
  | some d => xkd d == kd && xrkok id d && Nat.blt d xLaw
  | none => false
def xci2 (id pc : Nat) (i : Instr) : Bool := match i with
  | .bipush n => decide ((Int8.ofInt n).toInt32 = Int32.ofInt n)
  | .sipush n => decide ((Int16.ofInt n).toInt32 = Int32.ofInt n)
  | .istore j => Nat.blt j (xmaxL id)
  | .astore j => Nat.blt j (xmaxL id)
  | .iinc j _ => Nat.blt j (xmaxL id)
  | .istore_n j => Nat.blt j (xmaxL id)
  | .astore_n j => Nat.blt j (xmaxL id)
  | .lstore j => Nat.blt (j + 1) (xmaxL id)
  | .lstore_n j => Nat.blt (j + 1) (xmaxL id)
  | .goto o => xjok pc o
  | .ifCond _ o => xjok pc o
  | .if_icmp _ o => xjok pc o
  | .ifnull o => xjok pc o
  | .ifnonnull o => xjok pc o
  | .tableswitch d lo hi os => xjok pc d && os.toList.all (xjok pc) && decide (hi = lo + os.size - 1) && decide (-2147483648 ≤ lo) && decide (hi < 2147483648)
  | .lookupswitch d ps => xjok pc d && ps.toList.all (fun q => xjok pc q.2 && decide (-2147483648 ≤ q.1) && decide (q.1 < 2147483648)) && (ps.toList.zip (ps.toList.drop 1)).all (fun (a, next) => a.1 < next.1)
  | .putfield idx => (match xfld (xown id) idx with
    | some (ci, f) => !(xT ci f).2.2.2 || (xkd id == 2 && decide ((xT ci f).1 = xcn (xown id)))
    | none => false)
  | .ireturn => (match xrz id with
    | true => decide (xret id = some .boolean)
    | false => decide (xret id = some .int))
  | .lreturn => decide (xret id = some .long)
  | .areturn => (match xret id with
    | some (.object _) => true
    | _ => false)
  | .return_ => decide (xret id = none)
  | .anewarray idx => xmem (.classLink (xcn (xown id)) idx "SignBench$Table")
  | .newarray t => xmem (.arrayClass (newarray.typeOf t)) && Nat.blt 0 (xatk t)
  | .invokevirtual idx => xkok id (xown id) idx 0
  | .invokestatic idx => (match xcpy (xown id) idx with
    | true => Nat.blt 0 (xdep id) && xmem (.methodLink (xcn (xown id)) idx arraycopyName) 
    | false => xkok id (xown id) idx 1)
  | .invokespecial idx => (match xobj (xown id) idx with
    | true => Nat.blt 0 (xdep id) && xmem (.methodLink (xcn (xown id)) idx objectInit)
    | false => xkok id (xown id) idx 2)
  | _ => true
def xchkL (id : Nat) : Nat → List Instr → Bool
  | _, [] => true
  | pc, i :: is => xci1 id pc i && xci2 id pc i && xchkL id (pc + xilen i) is
def xchk (id : Nat) : Bool := (xcode id).all (fun q => xchkL id q.1 q.2)
set_option maxRecDepth 100000 in
theorem xchk_0 : ((List.range 12).all fun q => xchk (0 + q)) = true := by decide +kernel
set_option maxRecDepth 100000 in
theorem xchk_12 : ((List.range 13).all fun q => xchk (12 + q)) = true := by decide +kernel
set_option maxRecDepth 100000 in
theorem xchk_25 : ((List.range 11).all fun q => xchk (25 + q)) = true := by decide +kernel
set_option maxRecDepth 100000 in
theorem xchk_36 : ((List.range 14).all fun q => xchk (36 + q)) = true := by decide +kernel
set_option maxRecDepth 100000 in
theorem xchk_50 : ((List.range 11).all fun q => xchk (50 + q)) = true := by decide +kernel
set_option maxRecDepth 100000 in
theorem xchk_61 : ((List.range 18).all fun q => xchk (61 + q)) = true := by decide +kernel
set_option maxRecDepth 100000 in
theorem xchk_79 : ((List.range 18).all fun q => xchk (79 + q)) = true := by decide +kernel
set_option maxRecDepth 100000 in
theorem xchk_97 : ((List.range 11).all fun q => xchk (97 + q)) = true := by decide +kernel
set_option maxRecDepth 100000 in
theorem xchk_108 : ((List.range 7).all fun q => xchk (108 + q)) = true := by decide +kernel
set_option maxRecDepth 100000 in
theorem xchk_115 : ((List.range 12).all fun q => xchk (115 + q)) = true := by decide +kernel
set_option maxRecDepth 100000 in
theorem xchk_127 : ((List.range 6).all fun q => xchk (127 + q)) = true := by decide +kernel
set_option maxRecDepth 100000 in
theorem xchk_133 : ((List.range 8).all fun q => xchk (133 + q)) = true := by decide +kernel
set_option maxRecDepth 100000 in
theorem xchk_141 : ((List.range 12).all fun q => xchk (141 + q)) = true := by decide +kernel
set_option maxRecDepth 100000 in
theorem xchk_153 : ((List.range 8).all fun q => xchk (153 + q)) = true := by decide +kernel
set_option maxRecDepth 100000 in
theorem xchk_161 : ((List.range 4).all fun q => xchk (161 + q)) = true := by decide +kernel
set_option maxRecDepth 100000 in
theorem xchk_165 : ((List.range 3).all fun q => xchk (165 + q)) = true := by decide +kernel
set_option maxRecDepth 100000 in
theorem xchk_168 : ((List.range 5).all fun q => xchk (168 + q)) = true := by decide +kernel
theorem xchk_ok {id : Nat} (h : id < 173) : xchk id = true := by
  have use : ∀ {a n : Nat}, ((List.range n).all fun q => xchk (a + q)) = true → a ≤ id → id < a + n → xchk id = true := by
    intro a n h h1 h2
    have := List.all_eq_true.mp h (id - a) (List.mem_range.mpr (by omega))
    rwa [Nat.add_sub_cancel' h1] at this
  rcases Nat.lt_or_ge id 12 with q | q
  · exact use xchk_0 (by omega) (by omega)
  rcases Nat.lt_or_ge id 25 with q | q
  · exact use xchk_12 (by omega) (by omega)
  rcases Nat.lt_or_ge id 36 with q | q
  · exact use xchk_25 (by omega) (by omega)
  rcases Nat.lt_or_ge id 50 with q | q
  · exact use xchk_36 (by omega) (by omega)
  rcases Nat.lt_or_ge id 61 with q | q
  · exact use xchk_50 (by omega) (by omega)
  rcases Nat.lt_or_ge id 79 with q | q
  · exact use xchk_61 (by omega) (by omega)
  rcases Nat.lt_or_ge id 97 with q | q
  · exact use xchk_79 (by omega) (by omega)
  rcases Nat.lt_or_ge id 108 with q | q
  · exact use xchk_97 (by omega) (by omega)
  rcases Nat.lt_or_ge id 115 with q | q
  · exact use xchk_108 (by omega) (by omega)
  rcases Nat.lt_or_ge id 127 with q | q
  · exact use xchk_115 (by omega) (by omega)
  rcases Nat.lt_or_ge id 133 with q | q
  · exact use xchk_127 (by omega) (by omega)
  rcases Nat.lt_or_ge id 141 with q | q
  · exact use xchk_133 (by omega) (by omega)
  rcases Nat.lt_or_ge id 153 with q | q
  · exact use xchk_141 (by omega) (by omega)
  rcases Nat.lt_or_ge id 161 with q | q
  · exact use xchk_153 (by omega) (by omega)
  rcases Nat.lt_or_ge id 165 with q | q
  · exact use xchk_161 (by omega) (by omega)
  rcases Nat.lt_or_ge id 168 with q | q
  · exact use xchk_165 (by omega) (by omega)
  exact use xchk_168 q (by omega)
end
section
set_option maxRecDepth 100000 in
theorem xchkw_0 : ((bk_L_law.drop 0).take 3).all (fun q => xchkL 173 q.1 q.2) = true := by decide +kernel
set_option maxRecDepth 100000 in
theorem xchkw_3 : ((bk_L_law.drop 3).take 2).all (fun q => xchkL 173 q.1 q.2) = true := by decide +kernel
set_option maxRecDepth 100000 in
theorem xchkw_5 : ((bk_L_law.drop 5).take 2).all (fun q => xchkL 173 q.1 q.2) = true := by decide +kernel
set_option maxRecDepth 100000 in
theorem xchkw_7 : ((bk_L_law.drop 7).take 1).all (fun q => xchkL 173 q.1 q.2) = true := by decide +kernel
set_option maxRecDepth 100000 in
theorem xchkw_8 : ((bk_L_law.drop 8).take 1).all (fun q => xchkL 173 q.1 q.2) = true := by decide +kernel
set_option maxRecDepth 100000 in
theorem xchkw_9 : ((bk_L_law.drop 9).take 3).all (fun q => xchkL 173 q.1 q.2) = true := by decide +kernel
set_option maxRecDepth 100000 in
theorem xchkw_12 : ((bk_L_law.drop 12).take 5).all (fun q => xchkL 173 q.1 q.2) = true := by decide +kernel
set_option maxRecDepth 100000 in
theorem xchkw_17 : ((bk_L_law.drop 17).take 3).all (fun q => xchkL 173 q.1 q.2) = true := by decide +kernel
set_option maxRecDepth 100000 in
theorem xchkw_20 : ((bk_L_law.drop 20).take 2).all (fun q => xchkL 173 q.1 q.2) = true := by decide +kernel
set_option maxRecDepth 100000 in
theorem xchkw_22 : ((bk_L_law.drop 22).take 3).all (fun q => xchkL 173 q.1 q.2) = true := by decide +kernel
set_option maxRecDepth 100000 in
theorem xchkw_25 : ((bk_L_law.drop 25).take 2).all (fun q => xchkL 173 q.1 q.2) = true := by decide +kernel
set_option maxRecDepth 100000 in
theorem xchkw_27 : ((bk_L_law.drop 27).take 1).all (fun q => xchkL 173 q.1 q.2) = true := by decide +kernel
set_option maxRecDepth 100000 in
theorem xchkw_28 : ((bk_L_law.drop 28).take 1).all (fun q => xchkL 173 q.1 q.2) = true := by decide +kernel
set_option maxRecDepth 100000 in
theorem xchkw_29 : ((bk_L_law.drop 29).take 1).all (fun q => xchkL 173 q.1 q.2) = true := by decide +kernel
set_option maxRecDepth 100000 in
theorem xchkw_30 : ((bk_L_law.drop 30).take 1).all (fun q => xchkL 173 q.1 q.2) = true := by decide +kernel
set_option maxRecDepth 100000 in
theorem xchkw_31 : ((bk_L_law.drop 31).take 1).all (fun q => xchkL 173 q.1 q.2) = true := by decide +kernel
set_option maxRecDepth 100000 in
theorem xchkw_32 : ((bk_L_law.drop 32).take 2).all (fun q => xchkL 173 q.1 q.2) = true := by decide +kernel
set_option maxRecDepth 100000 in
theorem xchkw_34 : ((bk_L_law.drop 34).take 5).all (fun q => xchkL 173 q.1 q.2) = true := by decide +kernel
set_option maxRecDepth 100000 in
theorem xchkw_39 : ((bk_L_law.drop 39).take 2).all (fun q => xchkL 173 q.1 q.2) = true := by decide +kernel
set_option maxRecDepth 100000 in
theorem xchkw_41 : ((bk_L_law.drop 41).take 4).all (fun q => xchkL 173 q.1 q.2) = true := by decide +kernel
theorem xall_step {α : Type} {f : α → Bool} {l : List α} (a n : Nat) (h : ((l.drop a).take n).all f = true) (h2 : (l.drop (a + n)).all f = true) : (l.drop a).all f = true := by
  rw [← List.take_append_drop n (l.drop a), List.all_append, h, List.drop_drop, h2]
  rfl
theorem xchk_law : xchk xLaw = true := (xall_step 0 3 xchkw_0 (xall_step 3 2 xchkw_3 (xall_step 5 2 xchkw_5 (xall_step 7 1 xchkw_7 (xall_step 8 1 xchkw_8 (xall_step 9 3 xchkw_9 (xall_step 12 5 xchkw_12 (xall_step 17 3 xchkw_17 (xall_step 20 2 xchkw_20 (xall_step 22 3 xchkw_22 (xall_step 25 2 xchkw_25 (xall_step 27 1 xchkw_27 (xall_step 28 1 xchkw_28 (xall_step 29 1 xchkw_29 (xall_step 30 1 xchkw_30 (xall_step 31 1 xchkw_31 (xall_step 32 2 xchkw_32 (xall_step 34 5 xchkw_34 (xall_step 39 2 xchkw_39 (xall_step 41 4 xchkw_41 (by rfl)))))))))))))))))))))
end
section
/-! ===== the picture and the heap ===== -/
def xv (ad sad : Nat → Nat) (v : Value) : Value := match v with
  | .ref a => .ref (ad a)
  | .retAddr t => .ref (sad t)
  | .int x => .int x
  | .long x => .long x
  | .null => .null
  | .float x => .float x
  | .double x => .double x
theorem xv_cat (ad sad : Nat → Nat) (v : Value) : (xv ad sad v).category = v.category := by cases v <;> rfl
theorem xv_cats (ad sad : Nat → Nat) (st : List Value) : ((st.map (xv ad sad)).map fun v => v.category).sum = xcat st := by
  unfold xcat
  rw [List.map_map]
  congr 1
  exact List.map_congr_left (fun v _ => xv_cat ad sad v)
def xtyp (t : Nat) : FieldType := match t with
  | 2 => .boolean
  | 3 => .long
  | 4 => .object "SignBench$Table"
  | _ => .int
def xfv (ad : Nat → Nat) (w : XW) (a ci f : Nat) : Value := match xfint ci f with
  | true => .int (xIF w a f)
  | false => va_rf ((xRF w a f).map ad)
def xfs (ad : Nat → Nat) (w : XW) (a ci : Nat) : List Value := (List.range (xNf ci)).map (fun f => xfv ad w a ci f)
def xcell (ad : Nat → Nat) (cA : Nat → ClassId) (w : XW) (a : Nat) : va_E := match xak a with
  | 0 => .inr (xcls a, xfs ad w a (xcls a))
  | 3 => .inl (cA a, xln w a, .inr (.inl (xLA w a)))
  | 4 => .inl (cA a, xln w a, .inr (.inr (.inr (.inr (fun j => (xRA w a j).map ad)))))
  | _ => .inl (cA a, xln w a, .inl (xIA w a))
def xws (ad : Nat → Nat) (cA : Nat → ClassId) (w : XW) : va_W := (List.range (xn w)).map (fun a => (ad a, xcell ad cA w a))
theorem xws_at {ad : Nat → Nat} {cA : Nat → ClassId} {w : XW} {a : Nat} (h : a < xn w) : (xws ad cA w)[a]? = some (ad a, xcell ad cA w a) := by
  unfold xws
  rw [List.getElem?_map, List.getElem?_range h]
  rfl
theorem xws_len (ad : Nat → Nat) (cA : Nat → ClassId) (w : XW) : (xws ad cA w).length = xn w := by simp [xws]
theorem xws_set {ad : Nat → Nat} {cA : Nat → ClassId} {w w' : XW} {a : Nat} {E : va_E} (hn : xn w' = xn w) (ho : ∀ q, q ≠ a → xcell ad cA w' q = xcell ad cA w q) (hE : xcell ad cA w' a = E) : (xws ad cA w).set a (ad a, E) = xws ad cA w' := by
  apply List.ext_getElem?
  intro k
  rw [List.getElem?_set]
  by_cases hk : k < xn w
  · rw [xws_at (w := w') (by rw [hn]; exact hk)]
    by_cases e : a = k
    · subst e
      rw [if_pos rfl, if_pos (by rw [xws_len]; exact hk), hE]
    · rw [if_neg e, xws_at hk, ho k (fun q => e q.symm)]
  · have h1 : (xws ad cA w')[k]? = none := List.getElem?_eq_none (by rw [xws_len, hn]; omega)
    have h2 : (xws ad cA w)[k]? = none := List.getElem?_eq_none (by rw [xws_len]; omega)
    rw [h1]
    by_cases e : a = k
    · subst e
      rw [if_pos rfl, if_neg (by rw [xws_len]; exact hk)]
    · rw [if_neg e, h2]
theorem xws_push {ad ad' : Nat → Nat} {cA cA' : Nat → ClassId} {w w' : XW} (hn : xn w' = xn w + 1) (ho : ∀ a, a < xn w → ad' a = ad a ∧ xcell ad' cA' w' a = xcell ad cA w a) {q : Nat} {E : va_E} (hq : ad' (xn w) = q) (hE : xcell ad' cA' w' (xn w) = E) : xws ad cA w ++ [(q, E)] = xws ad' cA' w' := by
  unfold xws
  rw [hn, List.range_succ, List.map_append, List.map_singleton, hq, hE]
  congr 1
  apply List.map_congr_left
  intro a ha
  have h := ho a (List.mem_range.mp ha)
  rw [h.1, h.2]
def xAr (cA : Nat → ClassId) (w : XW) (U : State) : Prop := ∀ a, a < xn w → xak a ≠ 0 → ArrOfT U (cA a) (xtyp (xak a)) ∧ va_RA U (cA a) (xtyp (xak a))
def xVR (w : XW) : Prop := (∀ a f q, xRF w a f = some q → q < xn w) ∧ ∀ a j q, xRA w a j = some q → q < xn w
def xvs (w : XW) (v : Value) : Prop := match v with
  | .ref a => a < xn w
  | .retAddr t => t < 5
  | .double _ => False
  | _ => True
theorem xs_cons {w : XW} {v : Value} {st : List Value} (h : xvs w v) (hs : ∀ u ∈ st, xvs w u) : ∀ u ∈ v :: st, xvs w u := fun u hu => (List.mem_cons.mp hu).elim (fun e => e ▸ h) (hs u)
theorem xs_tl {w : XW} {v : Value} {st : List Value} (hs : ∀ u ∈ v :: st, xvs w u) : ∀ u ∈ st, xvs w u := fun u hu => hs u (List.mem_cons_of_mem _ hu)
theorem xs_hd {w : XW} {v : Value} {st : List Value} (hs : ∀ u ∈ v :: st, xvs w u) : xvs w v := hs v List.mem_cons_self
def xLv (ad sad : Nat → Nat) (w : XW) (ls : Array Slot) (L : XL) (j : Nat) (v : Value) : Prop := match v with
  | .int x => ls[j]? = some (.val (.int x))
  | .long x => L[j + 1]? = some (some (.retAddr 7)) → ls[j]? = some (.val (.long x))
  | .null => ls[j]? = some (.val .null)
  | .ref a => ls[j]? = some (.val (.ref (ad a))) ∧ a < xn w
  | .retAddr t => t < 5 → ls[j]? = some (.val (.ref (sad t)))
  | _ => True
def xLH (ad sad : Nat → Nat) (w : XW) (ls : Array Slot) (nL : Nat) (L : XL) : Prop := ls.size = nL ∧ lv_wf ls ∧ ∀ (j : Nat) (v : Value), L[j]? = some (some v) → xLv ad sad w ls L j v
theorem xLH.grow {ad ad' sad : Nat → Nat} {w w' : XW} {ls : Array Slot} {nL : Nat} {L : XL} (h : xLH ad sad w ls nL L) (hn : xn w ≤ xn w') (ha : ∀ a, a < xn w → ad' a = ad a) : xLH ad' sad w' ls nL L := by
  refine ⟨h.1, h.2.1, fun j v hj => ?_⟩
  have h1 := h.2.2 j v hj
  cases v with
  | ref a => exact ⟨by rw [ha a h1.2]; exact h1.1, Nat.lt_of_lt_of_le h1.2 hn⟩
  | _ => exact h1
theorem xs_grow {w w' : XW} {st : List Value} (hn : xn w ≤ xn w') (hs : ∀ u ∈ st, xvs w u) : ∀ u ∈ st, xvs w' u := by
  intro u hu
  have h := hs u hu
  cases u with
  | ref a => exact Nat.lt_of_lt_of_le h hn
  | _ => exact h
theorem xs_map {ad ad' sad : Nat → Nat} {w : XW} {st : List Value} (ha : ∀ a, a < xn w → ad' a = ad a) (hs : ∀ u ∈ st, xvs w u) : st.map (xv ad sad) = st.map (xv ad' sad) := by
  apply List.map_congr_left
  intro u hu
  have h := hs u hu
  cases u with
  | ref a => show Value.ref (ad a) = Value.ref (ad' a); rw [ha a h]
  | _ => rfl
def xall (ls : Array Slot) : List (Nat × Value) := (List.range ls.size).filterMap (fun (j : Nat) => match (ls[j]? : Option Slot) with
  | some (.val v) => some (j, v)
  | _ => none)
theorem xall_mem {ls : Array Slot} {j : Nat} {v : Value} (h : ls[j]? = some (.val v)) : (j, v) ∈ xall ls := by
  unfold xall
  refine List.mem_filterMap.mpr ⟨j, List.mem_range.mpr (lv_lt h), ?_⟩
  rw [h]
theorem xall_has {ad sad : Nat → Nat} {w : XW} {ls : Array Slot} {nL : Nat} {L : XL} (h : xLH ad sad w ls nL L) : lv_has ls nL (xall ls) := by
  refine ⟨h.1, h.2.1, fun q hq => ?_⟩
  unfold xall at hq
  obtain ⟨j, -, hj⟩ := List.mem_filterMap.mp hq
  cases hls : ls[j]? with
  | none => rw [hls] at hj; cases hj
  | some sl =>
    rw [hls] at hj
    cases sl with
    | val v => cases hj; exact hls
    | _ => cases hj
theorem x_st1 {ad sad : Nat → Nat} {w : XW} {ls ls' : Array Slot} {nL i : Nat} {L : XL} {v : Value} (h : xLH ad sad w ls nL L) (hv : v.category = 1) (hv7 : v ≠ .retAddr 7) (hval : xvs w v)
    (h' : lv_has ls' nL ((i, xv ad sad v) :: (xall ls).filter (fun q => !(q.1 == i) && !(q.1 + 1 == i && q.2.category == 2)))) : xLH ad sad w ls' nL (xst L i v) := by
  have keep : ∀ (j : Nat) (u : Value), j ≠ i → ¬ (j + 1 = i ∧ u.category = 2) → ls[j]? = some (.val u) → ls'[j]? = some (.val u) := by
    intro j u h1 h2 h3
    refine h'.2.2 (j, u) (List.mem_cons_of_mem _ (List.mem_filter.mpr ⟨xall_mem h3, ?_⟩))
    simp only [Bool.and_eq_true, Bool.not_eq_true', beq_eq_false_iff_ne, ne_eq, Bool.and_eq_false_iff]
    refine ⟨h1, ?_⟩
    by_cases e : j + 1 = i
    · exact Or.inr (fun q => h2 ⟨e, q⟩)
    · exact Or.inl e
  refine ⟨h'.1, h'.2.1, fun j u hj => ?_⟩
  unfold xst at hj
  rw [List.getElem?_set] at hj
  by_cases e : i = j
  · subst e
    rw [if_pos rfl] at hj
    split at hj
    · have hu : u = v := by
        have := Option.some.inj hj
        exact (Option.some.inj this).symm
      subst hu
      have h0 := h'.2.2 (i, xv ad sad u) List.mem_cons_self
      cases u with
      | int z => exact h0
      | long z => cases hv
      | null => exact h0
      | ref z => exact ⟨h0, hval⟩
      | retAddr t => exact fun _ => h0
      | float z => trivial
      | double z => trivial
    · cases hj
  · rw [if_neg e] at hj
    have h1 := h.2.2 j u hj
    have e' : j ≠ i := fun q => e q.symm
    cases u with
    | int z => exact keep j _ e' (fun q => by cases q.2) h1
    | long z =>
      intro hm
      unfold xst at hm
      rw [List.getElem?_set] at hm
      by_cases e2 : i = j + 1
      · rw [if_pos e2] at hm
        split at hm
        · have := Option.some.inj (Option.some.inj hm)
          exact absurd this hv7
        · cases hm
      · rw [if_neg e2] at hm
        exact keep j _ e' (fun q => e2 q.1.symm) (h1 hm)
    | null => exact keep j _ e' (fun q => by cases q.2) h1
    | ref z => exact ⟨keep j _ e' (fun q => by cases q.2) h1.1, h1.2⟩
    | retAddr t => exact fun ht => keep j _ e' (fun q => by cases q.2) (h1 ht)
    | float z => trivial
    | double z => trivial
theorem x_st2 {ad sad : Nat → Nat} {w : XW} {ls ls' : Array Slot} {nL i : Nat} {L : XL} {z : Int64} (h : xLH ad sad w ls nL L)
    (h' : lv_has ls' nL ((i, Value.long z) :: (xall ls).filter (fun q => !(q.1 == i) && (!(q.1 == i + 1) && !(q.1 + 1 == i && q.2.category == 2))))) : xLH ad sad w ls' nL (xst2 L i (.long z)) := by
  have keep : ∀ (j : Nat) (u : Value), j ≠ i → j ≠ i + 1 → ¬ (j + 1 = i ∧ u.category = 2) → ls[j]? = some (.val u) → ls'[j]? = some (.val u) := by
    intro j u h1 h4 h2 h3
    refine h'.2.2 (j, u) (List.mem_cons_of_mem _ (List.mem_filter.mpr ⟨xall_mem h3, ?_⟩))
    simp only [Bool.and_eq_true, Bool.not_eq_true', beq_eq_false_iff_ne, ne_eq, Bool.and_eq_false_iff]
    refine ⟨h1, h4, ?_⟩
    by_cases e : j + 1 = i
    · exact Or.inr (fun q => h2 ⟨e, q⟩)
    · exact Or.inl e
  refine ⟨h'.1, h'.2.1, fun j u hj => ?_⟩
  unfold xst2 at hj
  rw [List.getElem?_set] at hj
  by_cases e : i + 1 = j
  · subst e
    rw [if_pos rfl] at hj
    split at hj
    · have hu : u = .retAddr 7 := by
        have := Option.some.inj hj
        exact (Option.some.inj this).symm
      subst hu
      exact fun q => absurd q (by decide)
    · cases hj
  · rw [if_neg e, List.getElem?_set] at hj
    by_cases e2 : i = j
    · subst e2
      rw [if_pos rfl] at hj
      split at hj
      · have hu : u = .long z := by
          have := Option.some.inj hj
          exact (Option.some.inj this).symm
        subst hu
        exact fun _ => h'.2.2 (i, .long z) List.mem_cons_self
      · cases hj
    · rw [if_neg e2] at hj
      have h1 := h.2.2 j u hj
      have n1 : j ≠ i := fun q => e2 q.symm
      have n2 : j ≠ i + 1 := fun q => e q.symm
      cases u with
      | int z => exact keep j _ n1 n2 (fun q => by cases q.2) h1
      | long z2 =>
        intro hm
        unfold xst2 at hm
        rw [List.getElem?_set, if_neg (fun q => e2 (Nat.succ.inj q)), List.getElem?_set] at hm
        by_cases e3 : i = j + 1
        · rw [if_pos e3] at hm
          split at hm
          · cases Option.some.inj (Option.some.inj hm)
          · cases hm
        · rw [if_neg e3] at hm
          exact keep j _ n1 n2 (fun q => e3 q.1.symm) (h1 hm)
      | null => exact keep j _ n1 n2 (fun q => by cases q.2) h1
      | ref z => exact ⟨keep j _ n1 n2 (fun q => by cases q.2) h1.1, h1.2⟩
      | retAddr t => exact fun ht => keep j _ n1 n2 (fun q => by cases q.2) (h1 ht)
      | float z => trivial
      | double z => trivial
/-- static arrays, and the script -/
def xSt (sad : Nat → Nat) (sc : Nat × (Nat → Int32)) (A : Nat → Prop) (U : State) (H : Heap) : Prop :=
  (∀ t, t < 4 → va_Z (xstC t).1 (xstC t).2.1 (xstC t).2.2 (.ref (sad t)) A U H) ∧ va_T .long (sad 0) 14 (fun j => .long (lI (xsl j))) A U H ∧
  (∀ t, 0 < t → t < 4 → va_T .int (sad t) (xsiN t) (fun j => .int (iI (xsi t j))) A U H) ∧ va_T .int (sad 4) sc.1 (fun j => .int (sc.2 j)) A U H ∧ va_AO "SignBench$Table" U
theorem xSt.moved {sad : Nat → Nat} {sc : Nat × (Nat → Int32)} {A : Nat → Prop} {u U : State} {H : Heap} (hvm : u.vm.Alike U.vm) (h : xSt sad sc A u H) : xSt sad sc A U H :=
  ⟨fun t ht => (h.1 t ht).moved hvm, h.2.1.moved hvm, fun t h0 ht => (h.2.2.1 t h0 ht).moved hvm, h.2.2.2.1.moved hvm, h.2.2.2.2.moved hvm⟩
theorem xSt.kept {sad : Nat → Nat} {sc : Nat × (Nat → Int32)} {A : Nat → Prop} {U : State} {H H1 : Heap} (h : xSt sad sc A U H) (hq : ∀ a : Nat, a < H.size → ¬ A a → H1[a]? = H[a]?) : xSt sad sc A U H1 :=
  ⟨fun t ht => (h.1 t ht).kept hq, h.2.1.kept hq, fun t h0 ht => (h.2.2.1 t h0 ht).kept hq, h.2.2.2.1.kept hq, h.2.2.2.2⟩
theorem xSt.narrow {sad : Nat → Nat} {sc : Nat × (Nat → Int32)} {A B : Nat → Prop} {U : State} {H : Heap} (h : xSt sad sc A U H) (hAB : ∀ q, B q → A q) : xSt sad sc B U H :=
  ⟨fun t ht => (h.1 t ht).narrow hAB, h.2.1.narrow hAB, fun t h0 ht => (h.2.2.1 t h0 ht).narrow hAB, h.2.2.2.1.narrow hAB, h.2.2.2.2⟩
theorem xAr.moved {cA : Nat → ClassId} {w : XW} {u U : State} (hvm : u.vm.Alike U.vm) (h : xAr cA w u) : xAr cA w U := fun a ha h0 => ⟨arrOfT_moved hvm (h a ha h0).1, (h a ha h0).2.moved hvm⟩
/-- the picture holds of the heap, in a run of a method that began with n0 cells -/
def xI (D : va_G) (ad0 : Nat → Nat) (cA0 : Nat → ClassId) (n0 : Nat) (sc : Nat × (Nat → Int32)) (A : Nat → Prop) (s : State) (ad : Nat → Nat) (cA : Nat → ClassId) (w : XW) (H : Heap) (locs : List Loc) : Prop :=
  va_P D vwCl (xws ad cA w) H ∧ va_D A (xws ad cA w) ∧ xAr cA w s ∧ xVR w ∧ va_S A s.heap H locs ∧ xSc w = sc ∧ n0 ≤ xn w ∧ ∀ a, a < n0 → ad a = ad0 a ∧ cA a = cA0 a
theorem xI.upd {D : va_G} {ad0 : Nat → Nat} {cA0 : Nat → ClassId} {n0 : Nat} {sc : Nat × (Nat → Int32)} {A : Nat → Prop} {s : State} {ad : Nat → Nat} {cA : Nat → ClassId} {w : XW} {H : Heap} {locs : List Loc} (hI : xI D ad0 cA0 n0 sc A s ad cA w H locs)
    {a : Nat} {w' : XW} {E : va_E} {H1 : Heap} {locs1 : List Loc} (hn : xn w' = xn w) (hsc : xSc w' = xSc w) (ho : ∀ q, q ≠ a → xcell ad cA w' q = xcell ad cA w q) (hE : xcell ad cA w' a = E) (hv : xVR w') (hP : va_P D vwCl ((xws ad cA w).set a (ad a, E)) H1) (hD : va_D A ((xws ad cA w).set a (ad a, E))) (hS : va_S A s.heap H1 locs1) :
    xI D ad0 cA0 n0 sc A s ad cA w' H1 locs1 := by
  obtain ⟨-, -, h3, h4, -, h6, h7, h8⟩ := hI
  rw [xws_set hn ho hE] at hP hD
  exact ⟨hP, hD, fun q hq h0 => h3 q (by rw [← hn]; exact hq) h0, hv, hS, by rw [hsc]; exact h6, by rw [hn]; exact h7, h8⟩
end
section
/-! ===== one instruction of the interpreter is one of the machine's ===== -/
def xisw (i : Instr) : Bool := match i with
  | .tableswitch _ _ _ _ => true
  | .lookupswitch _ _ => true
  | _ => false
set_option maxHeartbeats 4000000 in
theorem xdec {id pc : Nat} {i : Instr} (h : xci1 id pc i = true) (hs : xisw i = false) : decode (xby id) pc = .ok (i, xilen i) := by
  cases i <;> first | exact of_decide_eq_true h | cases hs
theorem xvp {i : Int32} {n : Nat} (h : xin i n = true) : vp_in i n := by
  unfold xin at h
  simp only [Bool.and_eq_true, decide_eq_true_eq] at h
  intro q
  rcases q with q | q
  · have h1 := h.1
    rw [Int32.le_iff_toInt_le] at h1
    rw [Int32.lt_iff_toInt_lt] at q
    omega
  · omega
theorem xg_some {α : Type} {b : Bool} {o : Option α} {x : α} (h : xg b o = some x) : b = true ∧ o = some x := by
  cases b
  · cases h
  · exact ⟨rfl, h⟩
theorem xo_some {α β : Type} {o : Option α} {k : α → Option β} {x : β} (h : xo o k = some x) : ∃ q, o = some q ∧ k q = some x := by
  cases o with
  | none => cases h
  | some q => exact ⟨q, rfl, h⟩
theorem xde_some {α : Type} {v : Value} {k : Nat → Option α} {x : α} (h : xde v k = some x) : ∃ a, v = .ref a ∧ k a = some x := by
  cases v <;> first | exact ⟨_, rfl, h⟩ | cases h
abbrev XK : Type := XL → List Value → XB → XW → Option XR
def xGo (Wf : Heap → List Loc → Nat → Nat → JFrame → Prop) (I : (Nat → Nat) → (Nat → ClassId) → XW → Heap → List Loc → Prop) (m : MethodId) (sad : Nat → Nat) (nL mc ms : Nat) (x : XR) (pc : Nat) (k : XK) : Prop :=
  ∀ (ad : Nat → Nat) (cA : Nat → ClassId) (w : XW) (H : Heap) (locs : List Loc) (cells slots : Nat) (ls : Array Slot) (L : XL) (st : List Value) (b : XB), I ad cA w H locs → xLH ad sad w ls nL L → (∀ v ∈ st, xvs w v) → cells + b.1 = mc → slots + b.2 = ms → k L st b w = some x → Wf H locs cells slots (F0 m pc ls (st.map (xv ad sad)))
def xCx (p : Program) (R : Room) (s : State) (m : MethodId) (args : Array Value) (meth : Method) (c : Code) (D : va_G) (sad : Nat → Nat) (sc : Nat × (Nat → Int32)) (A : Nat → Prop) (id lv mc ms : Nat) : Prop :=
  p.tables.exec = Jvm.exec ∧ c.code = xby id ∧ meth.sig.returnType = xret id ∧ c.maxLocals = xmaxL id ∧ s.vm.findClass (xcn (xown id)) = some m.cls ∧ (∀ w ∈ xtb, w.before args s = true) ∧ meth.locks = false ∧ va_K D vwCl [] s ∧ (xkd id = 2 → meth.name = "<init>") ∧ xSt sad sc A s s.heap ∧ (∀ q, s.heap.size ≤ q → A q) ∧ xrnk id lv ≤ R.frames ∧ 64 * xrnk id lv ≤ R.locals ∧ R.cells = mc ∧ R.slots = ms ∧ xNs s
section XINS
variable {p : Program} {l : Launch} {e : Env} {R : Room} {s : State} {m : MethodId} {args : Array Value} {below : List Frame} {meth : Method} {c : Code} {Q : State → Prop} {D : va_G} {sad ad0 : Nat → Nat} {cA0 : Nat → ClassId} {n0 : Nat} {sc : Nat × (Nat → Int32)} {A : Nat → Prop} {id lv mc ms : Nat} {x : XR}
variable {J : Nat → XL → List Value → XB → XW → Option XR} {C : Nat → Nat → List Value → XW → Option XR} {k : XK} {pc : Nat}

theorem xi_iconst {n : Int} (cx : xCx p R s m args meth c D sad sc A id lv mc ms) (h1 : xci1 id pc (.iconst n) = true) (h2 : xci2 id pc (.iconst n) = true) (Hk : xGo (fun H locs cells slots g => W p l e R s m args below meth c H locs cells slots Q g) (xI D ad0 cA0 n0 sc A s) m sad (xmaxL id) mc ms x (pc + xilen (.iconst n)) k) : xGo (fun H locs cells slots g => W p l e R s m args below meth c H locs cells slots Q g) (xI D ad0 cA0 n0 sc A s) m sad (xmaxL id) mc ms x pc (xins J C (xown id) id lv pc (.iconst n) k) := by
  intro ad cA w H locs cells slots ls L st b hI hL hs hc hb h
  obtain ⟨hx, hcc, hr, hml, hown, hts, hlk, hK, hin, hst, hA, hRf, hRl, hRc, hRs, hN⟩ := cx
  have hd := xdec h1 rfl
  dsimp only [xins] at h
  exact lv_iconst hx hcc hd rfl (Hk ad cA w H locs cells slots ls L (.int (iI n) :: st) b hI hL (xs_cons trivial hs) hc hb h)

theorem xi_bipush {n : Int} (cx : xCx p R s m args meth c D sad sc A id lv mc ms) (h1 : xci1 id pc (.bipush n) = true) (h2 : xci2 id pc (.bipush n) = true) (Hk : xGo (fun H locs cells slots g => W p l e R s m args below meth c H locs cells slots Q g) (xI D ad0 cA0 n0 sc A s) m sad (xmaxL id) mc ms x (pc + xilen (.bipush n)) k) : xGo (fun H locs cells slots g => W p l e R s m args below meth c H locs cells slots Q g) (xI D ad0 cA0 n0 sc A s) m sad (xmaxL id) mc ms x pc (xins J C (xown id) id lv pc (.bipush n) k) := by
  intro ad cA w H locs cells slots ls L st b hI hL hs hc hb h
  obtain ⟨hx, hcc, hr, hml, hown, hts, hlk, hK, hin, hst, hA, hRf, hRl, hRc, hRs, hN⟩ := cx
  have hd := xdec h1 rfl
  dsimp only [xins] at h
  exact lv_bipush hx hcc hd (of_decide_eq_true h2) (Hk ad cA w H locs cells slots ls L (.int (iI n) :: st) b hI hL (xs_cons trivial hs) hc hb h)

theorem xi_sipush {n : Int} (cx : xCx p R s m args meth c D sad sc A id lv mc ms) (h1 : xci1 id pc (.sipush n) = true) (h2 : xci2 id pc (.sipush n) = true) (Hk : xGo (fun H locs cells slots g => W p l e R s m args below meth c H locs cells slots Q g) (xI D ad0 cA0 n0 sc A s) m sad (xmaxL id) mc ms x (pc + xilen (.sipush n)) k) : xGo (fun H locs cells slots g => W p l e R s m args below meth c H locs cells slots Q g) (xI D ad0 cA0 n0 sc A s) m sad (xmaxL id) mc ms x pc (xins J C (xown id) id lv pc (.sipush n) k) := by
  intro ad cA w H locs cells slots ls L st b hI hL hs hc hb h
  obtain ⟨hx, hcc, hr, hml, hown, hts, hlk, hK, hin, hst, hA, hRf, hRl, hRc, hRs, hN⟩ := cx
  have hd := xdec h1 rfl
  dsimp only [xins] at h
  exact lv_sipush hx hcc hd (of_decide_eq_true h2) (Hk ad cA w H locs cells slots ls L (.int (iI n) :: st) b hI hL (xs_cons trivial hs) hc hb h)

theorem xi_lconst {n : Fin 2} (cx : xCx p R s m args meth c D sad sc A id lv mc ms) (h1 : xci1 id pc (.lconst n) = true) (h2 : xci2 id pc (.lconst n) = true) (Hk : xGo (fun H locs cells slots g => W p l e R s m args below meth c H locs cells slots Q g) (xI D ad0 cA0 n0 sc A s) m sad (xmaxL id) mc ms x (pc + xilen (.lconst n)) k) : xGo (fun H locs cells slots g => W p l e R s m args below meth c H locs cells slots Q g) (xI D ad0 cA0 n0 sc A s) m sad (xmaxL id) mc ms x pc (xins J C (xown id) id lv pc (.lconst n) k) := by
  intro ad cA w H locs cells slots ls L st b hI hL hs hc hb h
  obtain ⟨hx, hcc, hr, hml, hown, hts, hlk, hK, hin, hst, hA, hRf, hRl, hRc, hRs, hN⟩ := cx
  have hd := xdec h1 rfl
  dsimp only [xins] at h
  split at h
  · exact lv_lconst hx hcc hd (by decide) (Hk ad cA w H locs cells slots ls L (.long (lI 0) :: st) b hI hL (xs_cons trivial hs) hc hb h)
  · exact lv_lconst hx hcc hd (by decide) (Hk ad cA w H locs cells slots ls L (.long (lI 1) :: st) b hI hL (xs_cons trivial hs) hc hb h)

theorem xi_null (cx : xCx p R s m args meth c D sad sc A id lv mc ms) (h1 : xci1 id pc (.aconst_null) = true) (h2 : xci2 id pc (.aconst_null) = true) (Hk : xGo (fun H locs cells slots g => W p l e R s m args below meth c H locs cells slots Q g) (xI D ad0 cA0 n0 sc A s) m sad (xmaxL id) mc ms x (pc + xilen (.aconst_null)) k) : xGo (fun H locs cells slots g => W p l e R s m args below meth c H locs cells slots Q g) (xI D ad0 cA0 n0 sc A s) m sad (xmaxL id) mc ms x pc (xins J C (xown id) id lv pc (.aconst_null) k) := by
  intro ad cA w H locs cells slots ls L st b hI hL hs hc hb h
  obtain ⟨hx, hcc, hr, hml, hown, hts, hlk, hK, hin, hst, hA, hRf, hRl, hRc, hRs, hN⟩ := cx
  have hd := xdec h1 rfl
  dsimp only [xins] at h
  exact lv_null hx hcc hd (Hk ad cA w H locs cells slots ls L (.null :: st) b hI hL (xs_cons trivial hs) hc hb h)

theorem xi_iload {i : Nat} (cx : xCx p R s m args meth c D sad sc A id lv mc ms) (h1 : xci1 id pc (.iload i) = true) (h2 : xci2 id pc (.iload i) = true) (Hk : xGo (fun H locs cells slots g => W p l e R s m args below meth c H locs cells slots Q g) (xI D ad0 cA0 n0 sc A s) m sad (xmaxL id) mc ms x (pc + xilen (.iload i)) k) : xGo (fun H locs cells slots g => W p l e R s m args below meth c H locs cells slots Q g) (xI D ad0 cA0 n0 sc A s) m sad (xmaxL id) mc ms x pc (xins J C (xown id) id lv pc (.iload i) k) := by
  intro ad cA w H locs cells slots ls L st b hI hL hs hc hb h
  obtain ⟨hx, hcc, hr, hml, hown, hts, hlk, hK, hin, hst, hA, hRf, hRl, hRc, hRs, hN⟩ := cx
  have hd := xdec h1 rfl
  dsimp only [xins] at h
  split at h
  · rename_i z hz
    exact lv_iload hx hcc hd (hL.2.2 _ _ hz) (Hk ad cA w H locs cells slots ls L (.int z :: st) b hI hL (xs_cons trivial hs) hc hb h)
  · cases h

theorem xi_iload_n {i : Fin 4} (cx : xCx p R s m args meth c D sad sc A id lv mc ms) (h1 : xci1 id pc (.iload_n i) = true) (h2 : xci2 id pc (.iload_n i) = true) (Hk : xGo (fun H locs cells slots g => W p l e R s m args below meth c H locs cells slots Q g) (xI D ad0 cA0 n0 sc A s) m sad (xmaxL id) mc ms x (pc + xilen (.iload_n i)) k) : xGo (fun H locs cells slots g => W p l e R s m args below meth c H locs cells slots Q g) (xI D ad0 cA0 n0 sc A s) m sad (xmaxL id) mc ms x pc (xins J C (xown id) id lv pc (.iload_n i) k) := by
  intro ad cA w H locs cells slots ls L st b hI hL hs hc hb h
  obtain ⟨hx, hcc, hr, hml, hown, hts, hlk, hK, hin, hst, hA, hRf, hRl, hRc, hRs, hN⟩ := cx
  have hd := xdec h1 rfl
  dsimp only [xins] at h
  split at h
  · rename_i z hz
    exact lv_iload_n hx hcc hd rfl (hL.2.2 _ _ hz) (Hk ad cA w H locs cells slots ls L (.int z :: st) b hI hL (xs_cons trivial hs) hc hb h)
  · cases h

theorem xi_lload {i : Nat} (cx : xCx p R s m args meth c D sad sc A id lv mc ms) (h1 : xci1 id pc (.lload i) = true) (h2 : xci2 id pc (.lload i) = true) (Hk : xGo (fun H locs cells slots g => W p l e R s m args below meth c H locs cells slots Q g) (xI D ad0 cA0 n0 sc A s) m sad (xmaxL id) mc ms x (pc + xilen (.lload i)) k) : xGo (fun H locs cells slots g => W p l e R s m args below meth c H locs cells slots Q g) (xI D ad0 cA0 n0 sc A s) m sad (xmaxL id) mc ms x pc (xins J C (xown id) id lv pc (.lload i) k) := by
  intro ad cA w H locs cells slots ls L st b hI hL hs hc hb h
  obtain ⟨hx, hcc, hr, hml, hown, hts, hlk, hK, hin, hst, hA, hRf, hRl, hRc, hRs, hN⟩ := cx
  have hd := xdec h1 rfl
  dsimp only [xins] at h
  split at h
  · rename_i z hz hm
    exact lv_lload hx hcc hd (hL.2.2 _ _ hz hm) (Hk ad cA w H locs cells slots ls L (.long z :: st) b hI hL (xs_cons trivial hs) hc hb h)
  · cases h

theorem xi_lload_n {i : Fin 4} (cx : xCx p R s m args meth c D sad sc A id lv mc ms) (h1 : xci1 id pc (.lload_n i) = true) (h2 : xci2 id pc (.lload_n i) = true) (Hk : xGo (fun H locs cells slots g => W p l e R s m args below meth c H locs cells slots Q g) (xI D ad0 cA0 n0 sc A s) m sad (xmaxL id) mc ms x (pc + xilen (.lload_n i)) k) : xGo (fun H locs cells slots g => W p l e R s m args below meth c H locs cells slots Q g) (xI D ad0 cA0 n0 sc A s) m sad (xmaxL id) mc ms x pc (xins J C (xown id) id lv pc (.lload_n i) k) := by
  intro ad cA w H locs cells slots ls L st b hI hL hs hc hb h
  obtain ⟨hx, hcc, hr, hml, hown, hts, hlk, hK, hin, hst, hA, hRf, hRl, hRc, hRs, hN⟩ := cx
  have hd := xdec h1 rfl
  dsimp only [xins] at h
  split at h
  · rename_i z hz hm
    exact lv_lload_n hx hcc hd rfl (hL.2.2 _ _ hz hm) (Hk ad cA w H locs cells slots ls L (.long z :: st) b hI hL (xs_cons trivial hs) hc hb h)
  · cases h

theorem xi_aload {i : Nat} (cx : xCx p R s m args meth c D sad sc A id lv mc ms) (h1 : xci1 id pc (.aload i) = true) (h2 : xci2 id pc (.aload i) = true) (Hk : xGo (fun H locs cells slots g => W p l e R s m args below meth c H locs cells slots Q g) (xI D ad0 cA0 n0 sc A s) m sad (xmaxL id) mc ms x (pc + xilen (.aload i)) k) : xGo (fun H locs cells slots g => W p l e R s m args below meth c H locs cells slots Q g) (xI D ad0 cA0 n0 sc A s) m sad (xmaxL id) mc ms x pc (xins J C (xown id) id lv pc (.aload i) k) := by
  intro ad cA w H locs cells slots ls L st b hI hL hs hc hb h
  obtain ⟨hx, hcc, hr, hml, hown, hts, hlk, hK, hin, hst, hA, hRf, hRl, hRc, hRs, hN⟩ := cx
  have hd := xdec h1 rfl
  dsimp only [xins] at h
  split at h
  · rename_i v hz
    obtain ⟨hg, h⟩ := xg_some h
    have hv := hL.2.2 _ _ hz
    cases v with
    | ref a => exact lv_aload hx hcc hd hv.1 (Hk ad cA w H locs cells slots ls L (.ref a :: st) b hI hL (xs_cons hv.2 hs) hc hb h)
    | null => exact lv_aloadN hx hcc hd hv (Hk ad cA w H locs cells slots ls L (.null :: st) b hI hL (xs_cons trivial hs) hc hb h)
    | retAddr t => exact lv_aload hx hcc hd (hv (Nat.le_of_ble_eq_true hg)) (Hk ad cA w H locs cells slots ls L (.retAddr t :: st) b hI hL (xs_cons (Nat.le_of_ble_eq_true hg) hs) hc hb h)
    | _ => cases hg
  · cases h

theorem xi_aload_n {i : Fin 4} (cx : xCx p R s m args meth c D sad sc A id lv mc ms) (h1 : xci1 id pc (.aload_n i) = true) (h2 : xci2 id pc (.aload_n i) = true) (Hk : xGo (fun H locs cells slots g => W p l e R s m args below meth c H locs cells slots Q g) (xI D ad0 cA0 n0 sc A s) m sad (xmaxL id) mc ms x (pc + xilen (.aload_n i)) k) : xGo (fun H locs cells slots g => W p l e R s m args below meth c H locs cells slots Q g) (xI D ad0 cA0 n0 sc A s) m sad (xmaxL id) mc ms x pc (xins J C (xown id) id lv pc (.aload_n i) k) := by
  intro ad cA w H locs cells slots ls L st b hI hL hs hc hb h
  obtain ⟨hx, hcc, hr, hml, hown, hts, hlk, hK, hin, hst, hA, hRf, hRl, hRc, hRs, hN⟩ := cx
  have hd := xdec h1 rfl
  dsimp only [xins] at h
  split at h
  · rename_i v hz
    obtain ⟨hg, h⟩ := xg_some h
    have hv := hL.2.2 _ _ hz
    cases v with
    | ref a => exact lv_aload_n hx hcc hd rfl hv.1 (Hk ad cA w H locs cells slots ls L (.ref a :: st) b hI hL (xs_cons hv.2 hs) hc hb h)
    | null => exact lv_aload_nN hx hcc hd rfl hv (Hk ad cA w H locs cells slots ls L (.null :: st) b hI hL (xs_cons trivial hs) hc hb h)
    | retAddr t => exact lv_aload_n hx hcc hd rfl (hv (Nat.le_of_ble_eq_true hg)) (Hk ad cA w H locs cells slots ls L (.retAddr t :: st) b hI hL (xs_cons (Nat.le_of_ble_eq_true hg) hs) hc hb h)
    | _ => cases hg
  · cases h

theorem xi_istore {i : Nat} (cx : xCx p R s m args meth c D sad sc A id lv mc ms) (h1 : xci1 id pc (.istore i) = true) (h2 : xci2 id pc (.istore i) = true) (Hk : xGo (fun H locs cells slots g => W p l e R s m args below meth c H locs cells slots Q g) (xI D ad0 cA0 n0 sc A s) m sad (xmaxL id) mc ms x (pc + xilen (.istore i)) k) : xGo (fun H locs cells slots g => W p l e R s m args below meth c H locs cells slots Q g) (xI D ad0 cA0 n0 sc A s) m sad (xmaxL id) mc ms x pc (xins J C (xown id) id lv pc (.istore i) k) := by
  intro ad cA w H locs cells slots ls L st b hI hL hs hc hb h
  obtain ⟨hx, hcc, hr, hml, hown, hts, hlk, hK, hin, hst, hA, hRf, hRl, hRc, hRs, hN⟩ := cx
  have hd := xdec h1 rfl
  dsimp only [xins] at h
  split at h
  · rename_i z st'
    exact lv_istore hx hcc hd (xall_has hL) (Nat.le_of_ble_eq_true h2) rfl (fun ls' h' => Hk ad cA w H locs cells slots ls' (xst L i (.int z)) st' b hI (x_st1 hL rfl (by simp) trivial h') (xs_tl hs) hc hb h)
  · cases h

theorem xi_istore_n {i : Fin 4} (cx : xCx p R s m args meth c D sad sc A id lv mc ms) (h1 : xci1 id pc (.istore_n i) = true) (h2 : xci2 id pc (.istore_n i) = true) (Hk : xGo (fun H locs cells slots g => W p l e R s m args below meth c H locs cells slots Q g) (xI D ad0 cA0 n0 sc A s) m sad (xmaxL id) mc ms x (pc + xilen (.istore_n i)) k) : xGo (fun H locs cells slots g => W p l e R s m args below meth c H locs cells slots Q g) (xI D ad0 cA0 n0 sc A s) m sad (xmaxL id) mc ms x pc (xins J C (xown id) id lv pc (.istore_n i) k) := by
  intro ad cA w H locs cells slots ls L st b hI hL hs hc hb h
  obtain ⟨hx, hcc, hr, hml, hown, hts, hlk, hK, hin, hst, hA, hRf, hRl, hRc, hRs, hN⟩ := cx
  have hd := xdec h1 rfl
  dsimp only [xins] at h
  split at h
  · rename_i z st'
    exact lv_istore_n hx hcc hd rfl (xall_has hL) (Nat.le_of_ble_eq_true h2) rfl (fun ls' h' => Hk ad cA w H locs cells slots ls' (xst L i (.int z)) st' b hI (x_st1 hL rfl (by simp) trivial h') (xs_tl hs) hc hb h)
  · cases h

theorem xi_lstore {i : Nat} (cx : xCx p R s m args meth c D sad sc A id lv mc ms) (h1 : xci1 id pc (.lstore i) = true) (h2 : xci2 id pc (.lstore i) = true) (Hk : xGo (fun H locs cells slots g => W p l e R s m args below meth c H locs cells slots Q g) (xI D ad0 cA0 n0 sc A s) m sad (xmaxL id) mc ms x (pc + xilen (.lstore i)) k) : xGo (fun H locs cells slots g => W p l e R s m args below meth c H locs cells slots Q g) (xI D ad0 cA0 n0 sc A s) m sad (xmaxL id) mc ms x pc (xins J C (xown id) id lv pc (.lstore i) k) := by
  intro ad cA w H locs cells slots ls L st b hI hL hs hc hb h
  obtain ⟨hx, hcc, hr, hml, hown, hts, hlk, hK, hin, hst, hA, hRf, hRl, hRc, hRs, hN⟩ := cx
  have hd := xdec h1 rfl
  dsimp only [xins] at h
  split at h
  · rename_i z st'
    exact lv_lstore hx hcc hd (xall_has hL) (Nat.le_of_ble_eq_true h2) rfl (fun ls' h' => Hk ad cA w H locs cells slots ls' (xst2 L i (.long z)) st' b hI (x_st2 hL h') (xs_tl hs) hc hb h)
  · cases h

theorem xi_lstore_n {i : Fin 4} (cx : xCx p R s m args meth c D sad sc A id lv mc ms) (h1 : xci1 id pc (.lstore_n i) = true) (h2 : xci2 id pc (.lstore_n i) = true) (Hk : xGo (fun H locs cells slots g => W p l e R s m args below meth c H locs cells slots Q g) (xI D ad0 cA0 n0 sc A s) m sad (xmaxL id) mc ms x (pc + xilen (.lstore_n i)) k) : xGo (fun H locs cells slots g => W p l e R s m args below meth c H locs cells slots Q g) (xI D ad0 cA0 n0 sc A s) m sad (xmaxL id) mc ms x pc (xins J C (xown id) id lv pc (.lstore_n i) k) := by
  intro ad cA w H locs cells slots ls L st b hI hL hs hc hb h
  obtain ⟨hx, hcc, hr, hml, hown, hts, hlk, hK, hin, hst, hA, hRf, hRl, hRc, hRs, hN⟩ := cx
  have hd := xdec h1 rfl
  dsimp only [xins] at h
  split at h
  · rename_i z st'
    exact lv_lstore_n hx hcc hd rfl (xall_has hL) (Nat.le_of_ble_eq_true h2) rfl (fun ls' h' => Hk ad cA w H locs cells slots ls' (xst2 L i (.long z)) st' b hI (x_st2 hL h') (xs_tl hs) hc hb h)
  · cases h

theorem xi_astore {i : Nat} (cx : xCx p R s m args meth c D sad sc A id lv mc ms) (h1 : xci1 id pc (.astore i) = true) (h2 : xci2 id pc (.astore i) = true) (Hk : xGo (fun H locs cells slots g => W p l e R s m args below meth c H locs cells slots Q g) (xI D ad0 cA0 n0 sc A s) m sad (xmaxL id) mc ms x (pc + xilen (.astore i)) k) : xGo (fun H locs cells slots g => W p l e R s m args below meth c H locs cells slots Q g) (xI D ad0 cA0 n0 sc A s) m sad (xmaxL id) mc ms x pc (xins J C (xown id) id lv pc (.astore i) k) := by
  intro ad cA w H locs cells slots ls L st b hI hL hs hc hb h
  obtain ⟨hx, hcc, hr, hml, hown, hts, hlk, hK, hin, hst, hA, hRf, hRl, hRc, hRs, hN⟩ := cx
  have hd := xdec h1 rfl
  dsimp only [xins] at h
  split at h
  · rename_i v st'
    obtain ⟨hg, h⟩ := xg_some h
    have hv := xs_hd hs
    cases v with
    | ref a => exact lv_astore hx hcc hd (xall_has hL) (Nat.le_of_ble_eq_true h2) rfl (fun ls' h' => Hk ad cA w H locs cells slots ls' (xst L i (.ref a)) st' b hI (x_st1 hL rfl (by simp) hv h') (xs_tl hs) hc hb h)
    | null => exact lv_astoreN hx hcc hd (xall_has hL) (Nat.le_of_ble_eq_true h2) rfl (fun ls' h' => Hk ad cA w H locs cells slots ls' (xst L i .null) st' b hI (x_st1 hL rfl (by simp) trivial h') (xs_tl hs) hc hb h)
    | retAddr t => exact lv_astore hx hcc hd (xall_has hL) (Nat.le_of_ble_eq_true h2) rfl (fun ls' h' => Hk ad cA w H locs cells slots ls' (xst L i (.retAddr t)) st' b hI (x_st1 hL rfl (fun q => by cases q; exact absurd (show (7 : Nat) < 5 from hv) (by decide)) hv h') (xs_tl hs) hc hb h)
    | _ => cases hg
  · cases h

theorem xi_astore_n {i : Fin 4} (cx : xCx p R s m args meth c D sad sc A id lv mc ms) (h1 : xci1 id pc (.astore_n i) = true) (h2 : xci2 id pc (.astore_n i) = true) (Hk : xGo (fun H locs cells slots g => W p l e R s m args below meth c H locs cells slots Q g) (xI D ad0 cA0 n0 sc A s) m sad (xmaxL id) mc ms x (pc + xilen (.astore_n i)) k) : xGo (fun H locs cells slots g => W p l e R s m args below meth c H locs cells slots Q g) (xI D ad0 cA0 n0 sc A s) m sad (xmaxL id) mc ms x pc (xins J C (xown id) id lv pc (.astore_n i) k) := by
  intro ad cA w H locs cells slots ls L st b hI hL hs hc hb h
  obtain ⟨hx, hcc, hr, hml, hown, hts, hlk, hK, hin, hst, hA, hRf, hRl, hRc, hRs, hN⟩ := cx
  have hd := xdec h1 rfl
  dsimp only [xins] at h
  split at h
  · rename_i v st'
    obtain ⟨hg, h⟩ := xg_some h
    have hv := xs_hd hs
    cases v with
    | ref a => exact lv_astore_n hx hcc hd rfl (xall_has hL) (Nat.le_of_ble_eq_true h2) rfl (fun ls' h' => Hk ad cA w H locs cells slots ls' (xst L i (.ref a)) st' b hI (x_st1 hL rfl (by simp) hv h') (xs_tl hs) hc hb h)
    | null => exact lv_astore_nN hx hcc hd rfl (xall_has hL) (Nat.le_of_ble_eq_true h2) rfl (fun ls' h' => Hk ad cA w H locs cells slots ls' (xst L i .null) st' b hI (x_st1 hL rfl (by simp) trivial h') (xs_tl hs) hc hb h)
    | retAddr t => exact lv_astore_n hx hcc hd rfl (xall_has hL) (Nat.le_of_ble_eq_true h2) rfl (fun ls' h' => Hk ad cA w H locs cells slots ls' (xst L i (.retAddr t)) st' b hI (x_st1 hL rfl (fun q => by cases q; exact absurd (show (7 : Nat) < 5 from hv) (by decide)) hv h') (xs_tl hs) hc hb h)
    | _ => cases hg
  · cases h

theorem xi_iinc {i : Nat} {n : Int} (cx : xCx p R s m args meth c D sad sc A id lv mc ms) (h1 : xci1 id pc (.iinc i n) = true) (h2 : xci2 id pc (.iinc i n) = true) (Hk : xGo (fun H locs cells slots g => W p l e R s m args below meth c H locs cells slots Q g) (xI D ad0 cA0 n0 sc A s) m sad (xmaxL id) mc ms x (pc + xilen (.iinc i n)) k) : xGo (fun H locs cells slots g => W p l e R s m args below meth c H locs cells slots Q g) (xI D ad0 cA0 n0 sc A s) m sad (xmaxL id) mc ms x pc (xins J C (xown id) id lv pc (.iinc i n) k) := by
  intro ad cA w H locs cells slots ls L st b hI hL hs hc hb h
  obtain ⟨hx, hcc, hr, hml, hown, hts, hlk, hK, hin, hst, hA, hRf, hRl, hRc, hRs, hN⟩ := cx
  have hd := xdec h1 rfl
  dsimp only [xins] at h
  split at h
  · rename_i z hz
    obtain ⟨j, hj⟩ := List.getElem?_of_mem (xall_mem (hL.2.2 _ _ hz))
    exact lv_iinc hx hcc hd (xall_has hL) hj rfl (Nat.le_of_ble_eq_true h2) rfl (fun ls' h' => Hk ad cA w H locs cells slots ls' (xst L i (.int (z + iI n))) st b hI (x_st1 hL rfl (by simp) trivial h') hs hc hb h)
  · cases h

theorem xi_iadd (cx : xCx p R s m args meth c D sad sc A id lv mc ms) (h1 : xci1 id pc (.iadd) = true) (h2 : xci2 id pc (.iadd) = true) (Hk : xGo (fun H locs cells slots g => W p l e R s m args below meth c H locs cells slots Q g) (xI D ad0 cA0 n0 sc A s) m sad (xmaxL id) mc ms x (pc + xilen (.iadd)) k) : xGo (fun H locs cells slots g => W p l e R s m args below meth c H locs cells slots Q g) (xI D ad0 cA0 n0 sc A s) m sad (xmaxL id) mc ms x pc (xins J C (xown id) id lv pc (.iadd) k) := by
  intro ad cA w H locs cells slots ls L st b hI hL hs hc hb h
  obtain ⟨hx, hcc, hr, hml, hown, hts, hlk, hK, hin, hst, hA, hRf, hRl, hRc, hRs, hN⟩ := cx
  have hd := xdec h1 rfl
  dsimp only [xins] at h
  split at h
  · rename_i y z st'
    exact lv_iadd hx hcc hd (Hk ad cA w H locs cells slots ls L (.int (z + y) :: st') b hI hL (xs_cons trivial (xs_tl (xs_tl hs))) hc hb h)
  · cases h

theorem xi_isub (cx : xCx p R s m args meth c D sad sc A id lv mc ms) (h1 : xci1 id pc (.isub) = true) (h2 : xci2 id pc (.isub) = true) (Hk : xGo (fun H locs cells slots g => W p l e R s m args below meth c H locs cells slots Q g) (xI D ad0 cA0 n0 sc A s) m sad (xmaxL id) mc ms x (pc + xilen (.isub)) k) : xGo (fun H locs cells slots g => W p l e R s m args below meth c H locs cells slots Q g) (xI D ad0 cA0 n0 sc A s) m sad (xmaxL id) mc ms x pc (xins J C (xown id) id lv pc (.isub) k) := by
  intro ad cA w H locs cells slots ls L st b hI hL hs hc hb h
  obtain ⟨hx, hcc, hr, hml, hown, hts, hlk, hK, hin, hst, hA, hRf, hRl, hRc, hRs, hN⟩ := cx
  have hd := xdec h1 rfl
  dsimp only [xins] at h
  split at h
  · rename_i y z st'
    exact lv_isub hx hcc hd (Hk ad cA w H locs cells slots ls L (.int (z - y) :: st') b hI hL (xs_cons trivial (xs_tl (xs_tl hs))) hc hb h)
  · cases h

theorem xi_imul (cx : xCx p R s m args meth c D sad sc A id lv mc ms) (h1 : xci1 id pc (.imul) = true) (h2 : xci2 id pc (.imul) = true) (Hk : xGo (fun H locs cells slots g => W p l e R s m args below meth c H locs cells slots Q g) (xI D ad0 cA0 n0 sc A s) m sad (xmaxL id) mc ms x (pc + xilen (.imul)) k) : xGo (fun H locs cells slots g => W p l e R s m args below meth c H locs cells slots Q g) (xI D ad0 cA0 n0 sc A s) m sad (xmaxL id) mc ms x pc (xins J C (xown id) id lv pc (.imul) k) := by
  intro ad cA w H locs cells slots ls L st b hI hL hs hc hb h
  obtain ⟨hx, hcc, hr, hml, hown, hts, hlk, hK, hin, hst, hA, hRf, hRl, hRc, hRs, hN⟩ := cx
  have hd := xdec h1 rfl
  dsimp only [xins] at h
  split at h
  · rename_i y z st'
    exact lv_imul hx hcc hd (Hk ad cA w H locs cells slots ls L (.int (z * y) :: st') b hI hL (xs_cons trivial (xs_tl (xs_tl hs))) hc hb h)
  · cases h

theorem xi_iand (cx : xCx p R s m args meth c D sad sc A id lv mc ms) (h1 : xci1 id pc (.iand) = true) (h2 : xci2 id pc (.iand) = true) (Hk : xGo (fun H locs cells slots g => W p l e R s m args below meth c H locs cells slots Q g) (xI D ad0 cA0 n0 sc A s) m sad (xmaxL id) mc ms x (pc + xilen (.iand)) k) : xGo (fun H locs cells slots g => W p l e R s m args below meth c H locs cells slots Q g) (xI D ad0 cA0 n0 sc A s) m sad (xmaxL id) mc ms x pc (xins J C (xown id) id lv pc (.iand) k) := by
  intro ad cA w H locs cells slots ls L st b hI hL hs hc hb h
  obtain ⟨hx, hcc, hr, hml, hown, hts, hlk, hK, hin, hst, hA, hRf, hRl, hRc, hRs, hN⟩ := cx
  have hd := xdec h1 rfl
  dsimp only [xins] at h
  split at h
  · rename_i y z st'
    exact lv_iand hx hcc hd (Hk ad cA w H locs cells slots ls L (.int (z &&& y) :: st') b hI hL (xs_cons trivial (xs_tl (xs_tl hs))) hc hb h)
  · cases h

theorem xi_ior (cx : xCx p R s m args meth c D sad sc A id lv mc ms) (h1 : xci1 id pc (.ior) = true) (h2 : xci2 id pc (.ior) = true) (Hk : xGo (fun H locs cells slots g => W p l e R s m args below meth c H locs cells slots Q g) (xI D ad0 cA0 n0 sc A s) m sad (xmaxL id) mc ms x (pc + xilen (.ior)) k) : xGo (fun H locs cells slots g => W p l e R s m args below meth c H locs cells slots Q g) (xI D ad0 cA0 n0 sc A s) m sad (xmaxL id) mc ms x pc (xins J C (xown id) id lv pc (.ior) k) := by
  intro ad cA w H locs cells slots ls L st b hI hL hs hc hb h
  obtain ⟨hx, hcc, hr, hml, hown, hts, hlk, hK, hin, hst, hA, hRf, hRl, hRc, hRs, hN⟩ := cx
  have hd := xdec h1 rfl
  dsimp only [xins] at h
  split at h
  · rename_i y z st'
    exact lv_ior hx hcc hd (Hk ad cA w H locs cells slots ls L (.int (z ||| y) :: st') b hI hL (xs_cons trivial (xs_tl (xs_tl hs))) hc hb h)
  · cases h

theorem xi_ixor (cx : xCx p R s m args meth c D sad sc A id lv mc ms) (h1 : xci1 id pc (.ixor) = true) (h2 : xci2 id pc (.ixor) = true) (Hk : xGo (fun H locs cells slots g => W p l e R s m args below meth c H locs cells slots Q g) (xI D ad0 cA0 n0 sc A s) m sad (xmaxL id) mc ms x (pc + xilen (.ixor)) k) : xGo (fun H locs cells slots g => W p l e R s m args below meth c H locs cells slots Q g) (xI D ad0 cA0 n0 sc A s) m sad (xmaxL id) mc ms x pc (xins J C (xown id) id lv pc (.ixor) k) := by
  intro ad cA w H locs cells slots ls L st b hI hL hs hc hb h
  obtain ⟨hx, hcc, hr, hml, hown, hts, hlk, hK, hin, hst, hA, hRf, hRl, hRc, hRs, hN⟩ := cx
  have hd := xdec h1 rfl
  dsimp only [xins] at h
  split at h
  · rename_i y z st'
    exact lv_ixor hx hcc hd (Hk ad cA w H locs cells slots ls L (.int (z ^^^ y) :: st') b hI hL (xs_cons trivial (xs_tl (xs_tl hs))) hc hb h)
  · cases h

theorem xi_ishl (cx : xCx p R s m args meth c D sad sc A id lv mc ms) (h1 : xci1 id pc (.ishl) = true) (h2 : xci2 id pc (.ishl) = true) (Hk : xGo (fun H locs cells slots g => W p l e R s m args below meth c H locs cells slots Q g) (xI D ad0 cA0 n0 sc A s) m sad (xmaxL id) mc ms x (pc + xilen (.ishl)) k) : xGo (fun H locs cells slots g => W p l e R s m args below meth c H locs cells slots Q g) (xI D ad0 cA0 n0 sc A s) m sad (xmaxL id) mc ms x pc (xins J C (xown id) id lv pc (.ishl) k) := by
  intro ad cA w H locs cells slots ls L st b hI hL hs hc hb h
  obtain ⟨hx, hcc, hr, hml, hown, hts, hlk, hK, hin, hst, hA, hRf, hRl, hRc, hRs, hN⟩ := cx
  have hd := xdec h1 rfl
  dsimp only [xins] at h
  split at h
  · rename_i y z st'
    exact lv_ishl hx hcc hd (Hk ad cA w H locs cells slots ls L (.int (z <<< (y &&& 31)) :: st') b hI hL (xs_cons trivial (xs_tl (xs_tl hs))) hc hb h)
  · cases h

theorem xi_ishr (cx : xCx p R s m args meth c D sad sc A id lv mc ms) (h1 : xci1 id pc (.ishr) = true) (h2 : xci2 id pc (.ishr) = true) (Hk : xGo (fun H locs cells slots g => W p l e R s m args below meth c H locs cells slots Q g) (xI D ad0 cA0 n0 sc A s) m sad (xmaxL id) mc ms x (pc + xilen (.ishr)) k) : xGo (fun H locs cells slots g => W p l e R s m args below meth c H locs cells slots Q g) (xI D ad0 cA0 n0 sc A s) m sad (xmaxL id) mc ms x pc (xins J C (xown id) id lv pc (.ishr) k) := by
  intro ad cA w H locs cells slots ls L st b hI hL hs hc hb h
  obtain ⟨hx, hcc, hr, hml, hown, hts, hlk, hK, hin, hst, hA, hRf, hRl, hRc, hRs, hN⟩ := cx
  have hd := xdec h1 rfl
  dsimp only [xins] at h
  split at h
  · rename_i y z st'
    exact lv_ishr hx hcc hd (Hk ad cA w H locs cells slots ls L (.int (z >>> (y &&& 31)) :: st') b hI hL (xs_cons trivial (xs_tl (xs_tl hs))) hc hb h)
  · cases h

theorem xi_ladd (cx : xCx p R s m args meth c D sad sc A id lv mc ms) (h1 : xci1 id pc (.ladd) = true) (h2 : xci2 id pc (.ladd) = true) (Hk : xGo (fun H locs cells slots g => W p l e R s m args below meth c H locs cells slots Q g) (xI D ad0 cA0 n0 sc A s) m sad (xmaxL id) mc ms x (pc + xilen (.ladd)) k) : xGo (fun H locs cells slots g => W p l e R s m args below meth c H locs cells slots Q g) (xI D ad0 cA0 n0 sc A s) m sad (xmaxL id) mc ms x pc (xins J C (xown id) id lv pc (.ladd) k) := by
  intro ad cA w H locs cells slots ls L st b hI hL hs hc hb h
  obtain ⟨hx, hcc, hr, hml, hown, hts, hlk, hK, hin, hst, hA, hRf, hRl, hRc, hRs, hN⟩ := cx
  have hd := xdec h1 rfl
  dsimp only [xins] at h
  split at h
  · rename_i y z st'
    exact lv_ladd hx hcc hd (Hk ad cA w H locs cells slots ls L (.long (z + y) :: st') b hI hL (xs_cons trivial (xs_tl (xs_tl hs))) hc hb h)
  · cases h

theorem xi_lsub (cx : xCx p R s m args meth c D sad sc A id lv mc ms) (h1 : xci1 id pc (.lsub) = true) (h2 : xci2 id pc (.lsub) = true) (Hk : xGo (fun H locs cells slots g => W p l e R s m args below meth c H locs cells slots Q g) (xI D ad0 cA0 n0 sc A s) m sad (xmaxL id) mc ms x (pc + xilen (.lsub)) k) : xGo (fun H locs cells slots g => W p l e R s m args below meth c H locs cells slots Q g) (xI D ad0 cA0 n0 sc A s) m sad (xmaxL id) mc ms x pc (xins J C (xown id) id lv pc (.lsub) k) := by
  intro ad cA w H locs cells slots ls L st b hI hL hs hc hb h
  obtain ⟨hx, hcc, hr, hml, hown, hts, hlk, hK, hin, hst, hA, hRf, hRl, hRc, hRs, hN⟩ := cx
  have hd := xdec h1 rfl
  dsimp only [xins] at h
  split at h
  · rename_i y z st'
    exact lv_lsub hx hcc hd (Hk ad cA w H locs cells slots ls L (.long (z - y) :: st') b hI hL (xs_cons trivial (xs_tl (xs_tl hs))) hc hb h)
  · cases h

theorem xi_lmul (cx : xCx p R s m args meth c D sad sc A id lv mc ms) (h1 : xci1 id pc (.lmul) = true) (h2 : xci2 id pc (.lmul) = true) (Hk : xGo (fun H locs cells slots g => W p l e R s m args below meth c H locs cells slots Q g) (xI D ad0 cA0 n0 sc A s) m sad (xmaxL id) mc ms x (pc + xilen (.lmul)) k) : xGo (fun H locs cells slots g => W p l e R s m args below meth c H locs cells slots Q g) (xI D ad0 cA0 n0 sc A s) m sad (xmaxL id) mc ms x pc (xins J C (xown id) id lv pc (.lmul) k) := by
  intro ad cA w H locs cells slots ls L st b hI hL hs hc hb h
  obtain ⟨hx, hcc, hr, hml, hown, hts, hlk, hK, hin, hst, hA, hRf, hRl, hRc, hRs, hN⟩ := cx
  have hd := xdec h1 rfl
  dsimp only [xins] at h
  split at h
  · rename_i y z st'
    exact lv_lmul hx hcc hd (Hk ad cA w H locs cells slots ls L (.long (z * y) :: st') b hI hL (xs_cons trivial (xs_tl (xs_tl hs))) hc hb h)
  · cases h

theorem xi_land (cx : xCx p R s m args meth c D sad sc A id lv mc ms) (h1 : xci1 id pc (.land) = true) (h2 : xci2 id pc (.land) = true) (Hk : xGo (fun H locs cells slots g => W p l e R s m args below meth c H locs cells slots Q g) (xI D ad0 cA0 n0 sc A s) m sad (xmaxL id) mc ms x (pc + xilen (.land)) k) : xGo (fun H locs cells slots g => W p l e R s m args below meth c H locs cells slots Q g) (xI D ad0 cA0 n0 sc A s) m sad (xmaxL id) mc ms x pc (xins J C (xown id) id lv pc (.land) k) := by
  intro ad cA w H locs cells slots ls L st b hI hL hs hc hb h
  obtain ⟨hx, hcc, hr, hml, hown, hts, hlk, hK, hin, hst, hA, hRf, hRl, hRc, hRs, hN⟩ := cx
  have hd := xdec h1 rfl
  dsimp only [xins] at h
  split at h
  · rename_i y z st'
    exact lv_land hx hcc hd (Hk ad cA w H locs cells slots ls L (.long (z &&& y) :: st') b hI hL (xs_cons trivial (xs_tl (xs_tl hs))) hc hb h)
  · cases h

theorem xi_lor (cx : xCx p R s m args meth c D sad sc A id lv mc ms) (h1 : xci1 id pc (.lor) = true) (h2 : xci2 id pc (.lor) = true) (Hk : xGo (fun H locs cells slots g => W p l e R s m args below meth c H locs cells slots Q g) (xI D ad0 cA0 n0 sc A s) m sad (xmaxL id) mc ms x (pc + xilen (.lor)) k) : xGo (fun H locs cells slots g => W p l e R s m args below meth c H locs cells slots Q g) (xI D ad0 cA0 n0 sc A s) m sad (xmaxL id) mc ms x pc (xins J C (xown id) id lv pc (.lor) k) := by
  intro ad cA w H locs cells slots ls L st b hI hL hs hc hb h
  obtain ⟨hx, hcc, hr, hml, hown, hts, hlk, hK, hin, hst, hA, hRf, hRl, hRc, hRs, hN⟩ := cx
  have hd := xdec h1 rfl
  dsimp only [xins] at h
  split at h
  · rename_i y z st'
    exact lv_lor hx hcc hd (Hk ad cA w H locs cells slots ls L (.long (z ||| y) :: st') b hI hL (xs_cons trivial (xs_tl (xs_tl hs))) hc hb h)
  · cases h

theorem xi_idiv (cx : xCx p R s m args meth c D sad sc A id lv mc ms) (h1 : xci1 id pc (.idiv) = true) (h2 : xci2 id pc (.idiv) = true) (Hk : xGo (fun H locs cells slots g => W p l e R s m args below meth c H locs cells slots Q g) (xI D ad0 cA0 n0 sc A s) m sad (xmaxL id) mc ms x (pc + xilen (.idiv)) k) : xGo (fun H locs cells slots g => W p l e R s m args below meth c H locs cells slots Q g) (xI D ad0 cA0 n0 sc A s) m sad (xmaxL id) mc ms x pc (xins J C (xown id) id lv pc (.idiv) k) := by
  intro ad cA w H locs cells slots ls L st b hI hL hs hc hb h
  obtain ⟨hx, hcc, hr, hml, hown, hts, hlk, hK, hin, hst, hA, hRf, hRl, hRc, hRs, hN⟩ := cx
  have hd := xdec h1 rfl
  dsimp only [xins] at h
  split at h
  · rename_i y z st'
    split at h
    · cases h
    · rename_i hy
      exact lv_idiv hx hcc hd hy (Hk ad cA w H locs cells slots ls L (.int (z / y) :: st') b hI hL (xs_cons trivial (xs_tl (xs_tl hs))) hc hb h)
  · cases h

theorem xi_irem (cx : xCx p R s m args meth c D sad sc A id lv mc ms) (h1 : xci1 id pc (.irem) = true) (h2 : xci2 id pc (.irem) = true) (Hk : xGo (fun H locs cells slots g => W p l e R s m args below meth c H locs cells slots Q g) (xI D ad0 cA0 n0 sc A s) m sad (xmaxL id) mc ms x (pc + xilen (.irem)) k) : xGo (fun H locs cells slots g => W p l e R s m args below meth c H locs cells slots Q g) (xI D ad0 cA0 n0 sc A s) m sad (xmaxL id) mc ms x pc (xins J C (xown id) id lv pc (.irem) k) := by
  intro ad cA w H locs cells slots ls L st b hI hL hs hc hb h
  obtain ⟨hx, hcc, hr, hml, hown, hts, hlk, hK, hin, hst, hA, hRf, hRl, hRc, hRs, hN⟩ := cx
  have hd := xdec h1 rfl
  dsimp only [xins] at h
  split at h
  · rename_i y z st'
    split at h
    · cases h
    · rename_i hy
      exact lv_irem hx hcc hd hy (Hk ad cA w H locs cells slots ls L (.int (z - z / y * y) :: st') b hI hL (xs_cons trivial (xs_tl (xs_tl hs))) hc hb h)
  · cases h

theorem xi_ldiv (cx : xCx p R s m args meth c D sad sc A id lv mc ms) (h1 : xci1 id pc (.ldiv) = true) (h2 : xci2 id pc (.ldiv) = true) (Hk : xGo (fun H locs cells slots g => W p l e R s m args below meth c H locs cells slots Q g) (xI D ad0 cA0 n0 sc A s) m sad (xmaxL id) mc ms x (pc + xilen (.ldiv)) k) : xGo (fun H locs cells slots g => W p l e R s m args below meth c H locs cells slots Q g) (xI D ad0 cA0 n0 sc A s) m sad (xmaxL id) mc ms x pc (xins J C (xown id) id lv pc (.ldiv) k) := by
  intro ad cA w H locs cells slots ls L st b hI hL hs hc hb h
  obtain ⟨hx, hcc, hr, hml, hown, hts, hlk, hK, hin, hst, hA, hRf, hRl, hRc, hRs, hN⟩ := cx
  have hd := xdec h1 rfl
  dsimp only [xins] at h
  split at h
  · rename_i y z st'
    split at h
    · cases h
    · rename_i hy
      exact lv_ldiv hx hcc hd hy (Hk ad cA w H locs cells slots ls L (.long (z / y) :: st') b hI hL (xs_cons trivial (xs_tl (xs_tl hs))) hc hb h)
  · cases h

theorem xi_lrem (cx : xCx p R s m args meth c D sad sc A id lv mc ms) (h1 : xci1 id pc (.lrem) = true) (h2 : xci2 id pc (.lrem) = true) (Hk : xGo (fun H locs cells slots g => W p l e R s m args below meth c H locs cells slots Q g) (xI D ad0 cA0 n0 sc A s) m sad (xmaxL id) mc ms x (pc + xilen (.lrem)) k) : xGo (fun H locs cells slots g => W p l e R s m args below meth c H locs cells slots Q g) (xI D ad0 cA0 n0 sc A s) m sad (xmaxL id) mc ms x pc (xins J C (xown id) id lv pc (.lrem) k) := by
  intro ad cA w H locs cells slots ls L st b hI hL hs hc hb h
  obtain ⟨hx, hcc, hr, hml, hown, hts, hlk, hK, hin, hst, hA, hRf, hRl, hRc, hRs, hN⟩ := cx
  have hd := xdec h1 rfl
  dsimp only [xins] at h
  split at h
  · rename_i y z st'
    split at h
    · cases h
    · rename_i hy
      exact lv_lrem hx hcc hd hy (Hk ad cA w H locs cells slots ls L (.long (z - z / y * y) :: st') b hI hL (xs_cons trivial (xs_tl (xs_tl hs))) hc hb h)
  · cases h

theorem xi_ineg (cx : xCx p R s m args meth c D sad sc A id lv mc ms) (h1 : xci1 id pc (.ineg) = true) (h2 : xci2 id pc (.ineg) = true) (Hk : xGo (fun H locs cells slots g => W p l e R s m args below meth c H locs cells slots Q g) (xI D ad0 cA0 n0 sc A s) m sad (xmaxL id) mc ms x (pc + xilen (.ineg)) k) : xGo (fun H locs cells slots g => W p l e R s m args below meth c H locs cells slots Q g) (xI D ad0 cA0 n0 sc A s) m sad (xmaxL id) mc ms x pc (xins J C (xown id) id lv pc (.ineg) k) := by
  intro ad cA w H locs cells slots ls L st b hI hL hs hc hb h
  obtain ⟨hx, hcc, hr, hml, hown, hts, hlk, hK, hin, hst, hA, hRf, hRl, hRc, hRs, hN⟩ := cx
  have hd := xdec h1 rfl
  dsimp only [xins] at h
  split at h
  · rename_i z st'
    exact lv_ineg hx hcc hd (Hk ad cA w H locs cells slots ls L (.int (-z) :: st') b hI hL (xs_cons trivial (xs_tl hs)) hc hb h)
  · cases h

theorem xi_i2l (cx : xCx p R s m args meth c D sad sc A id lv mc ms) (h1 : xci1 id pc (.i2l) = true) (h2 : xci2 id pc (.i2l) = true) (Hk : xGo (fun H locs cells slots g => W p l e R s m args below meth c H locs cells slots Q g) (xI D ad0 cA0 n0 sc A s) m sad (xmaxL id) mc ms x (pc + xilen (.i2l)) k) : xGo (fun H locs cells slots g => W p l e R s m args below meth c H locs cells slots Q g) (xI D ad0 cA0 n0 sc A s) m sad (xmaxL id) mc ms x pc (xins J C (xown id) id lv pc (.i2l) k) := by
  intro ad cA w H locs cells slots ls L st b hI hL hs hc hb h
  obtain ⟨hx, hcc, hr, hml, hown, hts, hlk, hK, hin, hst, hA, hRf, hRl, hRc, hRs, hN⟩ := cx
  have hd := xdec h1 rfl
  dsimp only [xins] at h
  split at h
  · rename_i z st'
    exact lv_i2l hx hcc hd rfl (Hk ad cA w H locs cells slots ls L (.long z.toInt64 :: st') b hI hL (xs_cons trivial (xs_tl hs)) hc hb h)
  · cases h

theorem xi_lshl (cx : xCx p R s m args meth c D sad sc A id lv mc ms) (h1 : xci1 id pc (.lshl) = true) (h2 : xci2 id pc (.lshl) = true) (Hk : xGo (fun H locs cells slots g => W p l e R s m args below meth c H locs cells slots Q g) (xI D ad0 cA0 n0 sc A s) m sad (xmaxL id) mc ms x (pc + xilen (.lshl)) k) : xGo (fun H locs cells slots g => W p l e R s m args below meth c H locs cells slots Q g) (xI D ad0 cA0 n0 sc A s) m sad (xmaxL id) mc ms x pc (xins J C (xown id) id lv pc (.lshl) k) := by
  intro ad cA w H locs cells slots ls L st b hI hL hs hc hb h
  obtain ⟨hx, hcc, hr, hml, hown, hts, hlk, hK, hin, hst, hA, hRf, hRl, hRc, hRs, hN⟩ := cx
  have hd := xdec h1 rfl
  dsimp only [xins] at h
  split at h
  · rename_i y z st'
    exact lv_lshl hx hcc hd rfl (Hk ad cA w H locs cells slots ls L (.long (z <<< (y.toInt64 &&& 63)) :: st') b hI hL (xs_cons trivial (xs_tl (xs_tl hs))) hc hb h)
  · cases h

theorem xi_lshr (cx : xCx p R s m args meth c D sad sc A id lv mc ms) (h1 : xci1 id pc (.lshr) = true) (h2 : xci2 id pc (.lshr) = true) (Hk : xGo (fun H locs cells slots g => W p l e R s m args below meth c H locs cells slots Q g) (xI D ad0 cA0 n0 sc A s) m sad (xmaxL id) mc ms x (pc + xilen (.lshr)) k) : xGo (fun H locs cells slots g => W p l e R s m args below meth c H locs cells slots Q g) (xI D ad0 cA0 n0 sc A s) m sad (xmaxL id) mc ms x pc (xins J C (xown id) id lv pc (.lshr) k) := by
  intro ad cA w H locs cells slots ls L st b hI hL hs hc hb h
  obtain ⟨hx, hcc, hr, hml, hown, hts, hlk, hK, hin, hst, hA, hRf, hRl, hRc, hRs, hN⟩ := cx
  have hd := xdec h1 rfl
  dsimp only [xins] at h
  split at h
  · rename_i y z st'
    exact lv_lshr hx hcc hd rfl (Hk ad cA w H locs cells slots ls L (.long (z >>> (y.toInt64 &&& 63)) :: st') b hI hL (xs_cons trivial (xs_tl (xs_tl hs))) hc hb h)
  · cases h

theorem xi_lushr (cx : xCx p R s m args meth c D sad sc A id lv mc ms) (h1 : xci1 id pc (.lushr) = true) (h2 : xci2 id pc (.lushr) = true) (Hk : xGo (fun H locs cells slots g => W p l e R s m args below meth c H locs cells slots Q g) (xI D ad0 cA0 n0 sc A s) m sad (xmaxL id) mc ms x (pc + xilen (.lushr)) k) : xGo (fun H locs cells slots g => W p l e R s m args below meth c H locs cells slots Q g) (xI D ad0 cA0 n0 sc A s) m sad (xmaxL id) mc ms x pc (xins J C (xown id) id lv pc (.lushr) k) := by
  intro ad cA w H locs cells slots ls L st b hI hL hs hc hb h
  obtain ⟨hx, hcc, hr, hml, hown, hts, hlk, hK, hin, hst, hA, hRf, hRl, hRc, hRs, hN⟩ := cx
  have hd := xdec h1 rfl
  dsimp only [xins] at h
  split at h
  · rename_i y z st'
    exact lv_lushr hx hcc hd rfl (Hk ad cA w H locs cells slots ls L (.long ((z.toUInt64 >>> (y.toInt64.toUInt64 &&& Int64.toUInt64 63)).toInt64) :: st') b hI hL (xs_cons trivial (xs_tl (xs_tl hs))) hc hb h)
  · cases h

theorem xi_lcmp (cx : xCx p R s m args meth c D sad sc A id lv mc ms) (h1 : xci1 id pc (.lcmp) = true) (h2 : xci2 id pc (.lcmp) = true) (Hk : xGo (fun H locs cells slots g => W p l e R s m args below meth c H locs cells slots Q g) (xI D ad0 cA0 n0 sc A s) m sad (xmaxL id) mc ms x (pc + xilen (.lcmp)) k) : xGo (fun H locs cells slots g => W p l e R s m args below meth c H locs cells slots Q g) (xI D ad0 cA0 n0 sc A s) m sad (xmaxL id) mc ms x pc (xins J C (xown id) id lv pc (.lcmp) k) := by
  intro ad cA w H locs cells slots ls L st b hI hL hs hc hb h
  obtain ⟨hx, hcc, hr, hml, hown, hts, hlk, hK, hin, hst, hA, hRf, hRl, hRc, hRs, hN⟩ := cx
  have hd := xdec h1 rfl
  dsimp only [xins] at h
  split at h
  · rename_i y z st'
    exact W.lcmp hx hcc hd (Hk ad cA w H locs cells slots ls L (.int (lg_cmp z y) :: st') b hI hL (xs_cons trivial (xs_tl (xs_tl hs))) hc hb h)
  · cases h

theorem xi_dup (cx : xCx p R s m args meth c D sad sc A id lv mc ms) (h1 : xci1 id pc (.dup) = true) (h2 : xci2 id pc (.dup) = true) (Hk : xGo (fun H locs cells slots g => W p l e R s m args below meth c H locs cells slots Q g) (xI D ad0 cA0 n0 sc A s) m sad (xmaxL id) mc ms x (pc + xilen (.dup)) k) : xGo (fun H locs cells slots g => W p l e R s m args below meth c H locs cells slots Q g) (xI D ad0 cA0 n0 sc A s) m sad (xmaxL id) mc ms x pc (xins J C (xown id) id lv pc (.dup) k) := by
  intro ad cA w H locs cells slots ls L st b hI hL hs hc hb h
  obtain ⟨hx, hcc, hr, hml, hown, hts, hlk, hK, hin, hst, hA, hRf, hRl, hRc, hRs, hN⟩ := cx
  have hd := xdec h1 rfl
  dsimp only [xins] at h
  split at h
  · rename_i v st'
    obtain ⟨hg, h⟩ := xg_some h
    refine lv_dup hx hcc hd ?_ (Hk ad cA w H locs cells slots ls L (v :: v :: st') b hI hL (xs_cons (xs_hd hs) hs) hc hb h)
    rw [xv_cat]
    cases v <;> first | rfl | cases hg
  · cases h

theorem xi_pop (cx : xCx p R s m args meth c D sad sc A id lv mc ms) (h1 : xci1 id pc (.pop) = true) (h2 : xci2 id pc (.pop) = true) (Hk : xGo (fun H locs cells slots g => W p l e R s m args below meth c H locs cells slots Q g) (xI D ad0 cA0 n0 sc A s) m sad (xmaxL id) mc ms x (pc + xilen (.pop)) k) : xGo (fun H locs cells slots g => W p l e R s m args below meth c H locs cells slots Q g) (xI D ad0 cA0 n0 sc A s) m sad (xmaxL id) mc ms x pc (xins J C (xown id) id lv pc (.pop) k) := by
  intro ad cA w H locs cells slots ls L st b hI hL hs hc hb h
  obtain ⟨hx, hcc, hr, hml, hown, hts, hlk, hK, hin, hst, hA, hRf, hRl, hRc, hRs, hN⟩ := cx
  have hd := xdec h1 rfl
  dsimp only [xins] at h
  split at h
  · rename_i z st'
    exact lv_pop hx hcc hd rfl (Hk ad cA w H locs cells slots ls L st' b hI hL (xs_tl hs) hc hb h)
  · cases h

theorem xi_goto {off : Int} (cx : xCx p R s m args meth c D sad sc A id lv mc ms) (h1 : xci1 id pc (.goto off) = true) (h2 : xci2 id pc (.goto off) = true) (HJ : ∀ t, xGo (fun H locs cells slots g => W p l e R s m args below meth c H locs cells slots Q g) (xI D ad0 cA0 n0 sc A s) m sad (xmaxL id) mc ms x t (J t)) (Hk : xGo (fun H locs cells slots g => W p l e R s m args below meth c H locs cells slots Q g) (xI D ad0 cA0 n0 sc A s) m sad (xmaxL id) mc ms x (pc + xilen (.goto off)) k) : xGo (fun H locs cells slots g => W p l e R s m args below meth c H locs cells slots Q g) (xI D ad0 cA0 n0 sc A s) m sad (xmaxL id) mc ms x pc (xins J C (xown id) id lv pc (.goto off) k) := by
  intro ad cA w H locs cells slots ls L st b hI hL hs hc hb h
  obtain ⟨hx, hcc, hr, hml, hown, hts, hlk, hK, hin, hst, hA, hRf, hRl, hRc, hRs, hN⟩ := cx
  have hd := xdec h1 rfl
  dsimp only [xins] at h
  have ht : (pc : Int) + off = (xtg pc off : Nat) := (Int.toNat_of_nonneg (of_decide_eq_true h2)).symm
  exact lv_goto hx hcc hd ht (HJ _ ad cA w H locs cells slots ls L st b hI hL hs hc hb h)

theorem xi_ifCond {cn : ClassFile.Cond} {off : Int} (cx : xCx p R s m args meth c D sad sc A id lv mc ms) (h1 : xci1 id pc (.ifCond cn off) = true) (h2 : xci2 id pc (.ifCond cn off) = true) (HJ : ∀ t, xGo (fun H locs cells slots g => W p l e R s m args below meth c H locs cells slots Q g) (xI D ad0 cA0 n0 sc A s) m sad (xmaxL id) mc ms x t (J t)) (Hk : xGo (fun H locs cells slots g => W p l e R s m args below meth c H locs cells slots Q g) (xI D ad0 cA0 n0 sc A s) m sad (xmaxL id) mc ms x (pc + xilen (.ifCond cn off)) k) : xGo (fun H locs cells slots g => W p l e R s m args below meth c H locs cells slots Q g) (xI D ad0 cA0 n0 sc A s) m sad (xmaxL id) mc ms x pc (xins J C (xown id) id lv pc (.ifCond cn off) k) := by
  intro ad cA w H locs cells slots ls L st b hI hL hs hc hb h
  obtain ⟨hx, hcc, hr, hml, hown, hts, hlk, hK, hin, hst, hA, hRf, hRl, hRc, hRs, hN⟩ := cx
  have hd := xdec h1 rfl
  dsimp only [xins] at h
  have ht : (pc : Int) + off = (xtg pc off : Nat) := (Int.toNat_of_nonneg (of_decide_eq_true h2)).symm
  split at h
  · rename_i z st'
    cases cn <;> dsimp only [xif] at h
    · exact lv_if_eq hx hcc hd ht (fun q => by rw [if_pos q] at h; exact HJ _ ad cA w H locs cells slots ls L st' b hI hL (xs_tl hs) hc hb h) (fun q => by rw [if_neg q] at h; exact Hk ad cA w H locs cells slots ls L st' b hI hL (xs_tl hs) hc hb h)
    · exact lv_if_ne hx hcc hd ht (fun q => by rw [if_neg q] at h; exact HJ _ ad cA w H locs cells slots ls L st' b hI hL (xs_tl hs) hc hb h) (fun q => by rw [if_pos q] at h; exact Hk ad cA w H locs cells slots ls L st' b hI hL (xs_tl hs) hc hb h)
    · exact lv_if_lt hx hcc hd ht (fun q => by rw [if_pos q] at h; exact HJ _ ad cA w H locs cells slots ls L st' b hI hL (xs_tl hs) hc hb h) (fun q => by rw [if_neg q] at h; exact Hk ad cA w H locs cells slots ls L st' b hI hL (xs_tl hs) hc hb h)
    · exact lv_if_ge hx hcc hd ht (fun q => by rw [if_pos q] at h; exact HJ _ ad cA w H locs cells slots ls L st' b hI hL (xs_tl hs) hc hb h) (fun q => by rw [if_neg q] at h; exact Hk ad cA w H locs cells slots ls L st' b hI hL (xs_tl hs) hc hb h)
    · exact lv_if_gt hx hcc hd ht (fun q => by rw [if_pos q] at h; exact HJ _ ad cA w H locs cells slots ls L st' b hI hL (xs_tl hs) hc hb h) (fun q => by rw [if_neg q] at h; exact Hk ad cA w H locs cells slots ls L st' b hI hL (xs_tl hs) hc hb h)
    · exact lv_if_le hx hcc hd ht (fun q => by rw [if_pos q] at h; exact HJ _ ad cA w H locs cells slots ls L st' b hI hL (xs_tl hs) hc hb h) (fun q => by rw [if_neg q] at h; exact Hk ad cA w H locs cells slots ls L st' b hI hL (xs_tl hs) hc hb h)
  · cases h

theorem xi_if_icmp {cn : ClassFile.Cond} {off : Int} (cx : xCx p R s m args meth c D sad sc A id lv mc ms) (h1 : xci1 id pc (.if_icmp cn off) = true) (h2 : xci2 id pc (.if_icmp cn off) = true) (HJ : ∀ t, xGo (fun H locs cells slots g => W p l e R s m args below meth c H locs cells slots Q g) (xI D ad0 cA0 n0 sc A s) m sad (xmaxL id) mc ms x t (J t)) (Hk : xGo (fun H locs cells slots g => W p l e R s m args below meth c H locs cells slots Q g) (xI D ad0 cA0 n0 sc A s) m sad (xmaxL id) mc ms x (pc + xilen (.if_icmp cn off)) k) : xGo (fun H locs cells slots g => W p l e R s m args below meth c H locs cells slots Q g) (xI D ad0 cA0 n0 sc A s) m sad (xmaxL id) mc ms x pc (xins J C (xown id) id lv pc (.if_icmp cn off) k) := by
  intro ad cA w H locs cells slots ls L st b hI hL hs hc hb h
  obtain ⟨hx, hcc, hr, hml, hown, hts, hlk, hK, hin, hst, hA, hRf, hRl, hRc, hRs, hN⟩ := cx
  have hd := xdec h1 rfl
  dsimp only [xins] at h
  have ht : (pc : Int) + off = (xtg pc off : Nat) := (Int.toNat_of_nonneg (of_decide_eq_true h2)).symm
  split at h
  · rename_i y z st'
    cases cn <;> dsimp only [xif] at h
    · exact lv_icmp_eq hx hcc hd ht (fun q => by rw [if_pos q] at h; exact HJ _ ad cA w H locs cells slots ls L st' b hI hL (xs_tl (xs_tl hs)) hc hb h) (fun q => by rw [if_neg q] at h; exact Hk ad cA w H locs cells slots ls L st' b hI hL (xs_tl (xs_tl hs)) hc hb h)
    · exact lv_icmp_ne hx hcc hd ht (fun q => by rw [if_neg q] at h; exact HJ _ ad cA w H locs cells slots ls L st' b hI hL (xs_tl (xs_tl hs)) hc hb h) (fun q => by rw [if_pos q] at h; exact Hk ad cA w H locs cells slots ls L st' b hI hL (xs_tl (xs_tl hs)) hc hb h)
    · exact lv_icmp_lt hx hcc hd ht (fun q => by rw [if_pos q] at h; exact HJ _ ad cA w H locs cells slots ls L st' b hI hL (xs_tl (xs_tl hs)) hc hb h) (fun q => by rw [if_neg q] at h; exact Hk ad cA w H locs cells slots ls L st' b hI hL (xs_tl (xs_tl hs)) hc hb h)
    · exact lv_icmp_ge hx hcc hd ht (fun q => by rw [if_pos q] at h; exact HJ _ ad cA w H locs cells slots ls L st' b hI hL (xs_tl (xs_tl hs)) hc hb h) (fun q => by rw [if_neg q] at h; exact Hk ad cA w H locs cells slots ls L st' b hI hL (xs_tl (xs_tl hs)) hc hb h)
    · exact lv_icmp_gt hx hcc hd ht (fun q => by rw [if_pos q] at h; exact HJ _ ad cA w H locs cells slots ls L st' b hI hL (xs_tl (xs_tl hs)) hc hb h) (fun q => by rw [if_neg q] at h; exact Hk ad cA w H locs cells slots ls L st' b hI hL (xs_tl (xs_tl hs)) hc hb h)
    · exact lv_icmp_le hx hcc hd ht (fun q => by rw [if_pos q] at h; exact HJ _ ad cA w H locs cells slots ls L st' b hI hL (xs_tl (xs_tl hs)) hc hb h) (fun q => by rw [if_neg q] at h; exact Hk ad cA w H locs cells slots ls L st' b hI hL (xs_tl (xs_tl hs)) hc hb h)
  · cases h

theorem xi_ifnull {off : Int} (cx : xCx p R s m args meth c D sad sc A id lv mc ms) (h1 : xci1 id pc (.ifnull off) = true) (h2 : xci2 id pc (.ifnull off) = true) (HJ : ∀ t, xGo (fun H locs cells slots g => W p l e R s m args below meth c H locs cells slots Q g) (xI D ad0 cA0 n0 sc A s) m sad (xmaxL id) mc ms x t (J t)) (Hk : xGo (fun H locs cells slots g => W p l e R s m args below meth c H locs cells slots Q g) (xI D ad0 cA0 n0 sc A s) m sad (xmaxL id) mc ms x (pc + xilen (.ifnull off)) k) : xGo (fun H locs cells slots g => W p l e R s m args below meth c H locs cells slots Q g) (xI D ad0 cA0 n0 sc A s) m sad (xmaxL id) mc ms x pc (xins J C (xown id) id lv pc (.ifnull off) k) := by
  intro ad cA w H locs cells slots ls L st b hI hL hs hc hb h
  obtain ⟨hx, hcc, hr, hml, hown, hts, hlk, hK, hin, hst, hA, hRf, hRl, hRc, hRs, hN⟩ := cx
  have hd := xdec h1 rfl
  dsimp only [xins] at h
  have ht : (pc : Int) + off = (xtg pc off : Nat) := (Int.toNat_of_nonneg (of_decide_eq_true h2)).symm
  split at h
  · rename_i v st'
    cases v with
    | null => exact lv_ifnullN hx hcc hd ht (HJ _ ad cA w H locs cells slots ls L st' b hI hL (xs_tl hs) hc hb h)
    | ref a => exact lv_ifnull hx hcc hd (Hk ad cA w H locs cells slots ls L st' b hI hL (xs_tl hs) hc hb h)
    | _ => cases h
  · cases h

theorem xi_ifnonnull {off : Int} (cx : xCx p R s m args meth c D sad sc A id lv mc ms) (h1 : xci1 id pc (.ifnonnull off) = true) (h2 : xci2 id pc (.ifnonnull off) = true) (HJ : ∀ t, xGo (fun H locs cells slots g => W p l e R s m args below meth c H locs cells slots Q g) (xI D ad0 cA0 n0 sc A s) m sad (xmaxL id) mc ms x t (J t)) (Hk : xGo (fun H locs cells slots g => W p l e R s m args below meth c H locs cells slots Q g) (xI D ad0 cA0 n0 sc A s) m sad (xmaxL id) mc ms x (pc + xilen (.ifnonnull off)) k) : xGo (fun H locs cells slots g => W p l e R s m args below meth c H locs cells slots Q g) (xI D ad0 cA0 n0 sc A s) m sad (xmaxL id) mc ms x pc (xins J C (xown id) id lv pc (.ifnonnull off) k) := by
  intro ad cA w H locs cells slots ls L st b hI hL hs hc hb h
  obtain ⟨hx, hcc, hr, hml, hown, hts, hlk, hK, hin, hst, hA, hRf, hRl, hRc, hRs, hN⟩ := cx
  have hd := xdec h1 rfl
  dsimp only [xins] at h
  have ht : (pc : Int) + off = (xtg pc off : Nat) := (Int.toNat_of_nonneg (of_decide_eq_true h2)).symm
  split at h
  · rename_i v st'
    cases v with
    | null => exact lv_ifnonnullN hx hcc hd (Hk ad cA w H locs cells slots ls L st' b hI hL (xs_tl hs) hc hb h)
    | ref a => exact lv_ifnonnull hx hcc hd ht (HJ _ ad cA w H locs cells slots ls L st' b hI hL (xs_tl hs) hc hb h)
    | _ => cases h
  · cases h

end XINS
end
section
/-! ===== fields, arrays, new cells ===== -/
theorem xlk {α : Type} {k : Nat} {v : α} : ∀ {l : List (Nat × α)}, List.lookup k l = some v → (k, v) ∈ l := by
  intro l
  induction l with
  | nil => intro h; cases h
  | cons q l ih =>
    intro h
    obtain ⟨a, b⟩ := q
    rw [List.lookup_cons] at h
    split at h
    · rename_i hk
      cases h
      rw [eq_of_beq hk]
      exact List.mem_cons_self
    · exact List.mem_cons_of_mem _ (ih h)
theorem xcl_at {ci : Nat} (h : ci < 8) : vwCl[ci]? = some (xcn ci, xT ci, xNf ci) := by
  rcases (show ci = 0 ∨ ci = 1 ∨ ci = 2 ∨ ci = 3 ∨ ci = 4 ∨ ci = 5 ∨ ci = 6 ∨ ci = 7 by omega) with rfl | rfl | rfl | rfl | rfl | rfl | rfl | rfl <;> rfl
set_option maxRecDepth 20000 in
theorem xcl_in1 : ∀ ci, ci < 8 → ∀ w ∈ u_ws (xcn ci) (xT ci) (xNf ci), xmem w = true := by decide +kernel
theorem xcl_in0 (ci : Nat) (h : ci < 8) : ∀ w ∈ u_ws (xcn ci) (xT ci) (xNf ci), w ∈ xtb := fun w hw => xmem_in (xcl_in1 ci h w hw)
theorem xcl_ty0 : ∀ ci, ci < 8 → ∀ k, k < xNf ci → parseFieldDescriptor (xT ci k).2.2.1 = some (xty ci k) := by decide +kernel
theorem xcl_nm0 : ∀ ci, ci < 8 → ∀ a, a < xNf ci → ∀ b, b < xNf ci → a ≠ b → (xT ci a).2.1 ≠ (xT ci b).2.1 := by decide +kernel
def xftok (ci f : Nat) : Bool := match xty ci f with
  | .int => xfint ci f
  | .object _ => !xfint ci f
  | .array _ => !xfint ci f
  | _ => false
theorem xft0 : ∀ ci, ci < 8 → ∀ f, f < xNf ci → xftok ci f = true := by decide +kernel
theorem xft_int {ci f : Nat} (h : ci < 8) (hf : f < xNf ci) (hi : xfint ci f = true) : xty ci f = .int := by
  have h0 := xft0 ci h f hf
  unfold xftok at h0
  split at h0
  · assumption
  · rw [hi] at h0; cases h0
  · rw [hi] at h0; cases h0
  · cases h0
theorem xft_ref {ci f : Nat} (h : ci < 8) (hf : f < xNf ci) (hi : xfint ci f = false) (a : Nat) : narrow (xty ci f) (.ref a) = .ref a ∧ fits (xty ci f) (.ref a) = true ∧ defaultValue (xty ci f) = .null := by
  have h0 := xft0 ci h f hf
  unfold xftok at h0
  split at h0
  · rw [hi] at h0; cases h0
  · rename_i q; rw [q]; exact ⟨rfl, rfl, rfl⟩
  · rename_i q; rw [q]; exact ⟨rfl, rfl, rfl⟩
  · cases h0
def xfldok (c : Nat) (e : Nat × (Nat × Nat)) : Bool := Nat.blt e.2.1 8 && Nat.blt e.2.2 (xNf e.2.1) &&
  (xmem (.fieldLink (xcn c) e.1 (xT e.2.1 e.2.2).1 (xT e.2.1 e.2.2).2.1 (xT e.2.1 e.2.2).2.2.1) || (xmemN (.fieldLinkNest (xcn c) e.1 (xT e.2.1 e.2.2).1 (xT e.2.1 e.2.2).2.1 (xT e.2.1 e.2.2).2.2.1 "SignBench") && decide ((xT e.2.1 e.2.2).1 ≠ xcn c)))
set_option maxRecDepth 20000 in
theorem xfld_ok0 : ∀ c, c < 11 → ∀ e ∈ xfldT.getD c [], xfldok c e = true := by decide +kernel
theorem xT_len {α : Type} {T : List (List (Nat × α))} {c idx : Nat} {v : α} (h : List.lookup idx (T.getD c []) = some v) : c < T.length := by
  rcases Nat.lt_or_ge c T.length with q | q
  · exact q
  · rw [List.getD_eq_getElem?_getD, List.getElem?_eq_none q] at h
    cases h
theorem xfld_ok {c idx ci f : Nat} (h : xfld c idx = some (ci, f)) : ci < 8 ∧ f < xNf ci ∧ (Cond.fieldLink (xcn c) idx (xT ci f).1 (xT ci f).2.1 (xT ci f).2.2.1 ∈ xtb ∨ (xmemN (Cond.fieldLinkNest (xcn c) idx (xT ci f).1 (xT ci f).2.1 (xT ci f).2.2.1 "SignBench") = true ∧ (xT ci f).1 ≠ xcn c)) := by
  have h0 := xfld_ok0 c (xT_len h) _ (xlk h)
  simp only [xfldok, Bool.and_eq_true, Bool.or_eq_true, decide_eq_true_eq] at h0
  exact ⟨Nat.le_of_ble_eq_true h0.1.1, Nat.le_of_ble_eq_true h0.1.2, h0.2.imp xmem_in (fun q => q)⟩
def xstaok (c : Nat) (e : Nat × Nat) : Bool := Nat.blt e.2 4 && xmem (.fieldLink (xcn c) e.1 (xstC e.2).1 (xstC e.2).2.1 (xstC e.2).2.2)
set_option maxRecDepth 20000 in
theorem xsta_ok0 : ∀ c, c < 11 → ∀ e ∈ xstaT.getD c [], xstaok c e = true := by decide +kernel
theorem xsta_ok {c idx t : Nat} (h : xsta c idx = some t) : t < 4 ∧ Cond.fieldLink (xcn c) idx (xstC t).1 (xstC t).2.1 (xstC t).2.2 ∈ xtb := by
  have h0 := xsta_ok0 c (xT_len h) _ (xlk h)
  simp only [xstaok, Bool.and_eq_true] at h0
  exact ⟨Nat.le_of_ble_eq_true h0.1, xmem_in h0.2⟩
def xldcok (c : Nat) (e : Nat × Int) : Bool := xmem (.constantLong (xcn c) e.1 (lI e.2))
set_option maxRecDepth 20000 in
theorem xldc_ok0 : ∀ c, c < 11 → ∀ e ∈ xldcT.getD c [], xldcok c e = true := by decide +kernel
set_option maxRecDepth 20000 in
theorem xldc_ok {c idx : Nat} {z : Int} (h : xldc c idx = some z) : Cond.constantLong (xcn c) idx (lI z) ∈ xtb := xmem_in (xldc_ok0 c (xT_len h) _ (xlk h))
def xnwok (c : Nat) (e : Nat × (Nat × Nat)) : Bool := Nat.blt e.2.1 8 && (e.2.2 == xNf e.2.1) && xmem (.classLink (xcn c) e.1 (xcn e.2.1)) && xmem (.instantiable (xcn e.2.1) (xNf e.2.1)) && xmem (.initialized (xcn e.2.1))
set_option maxRecDepth 20000 in
theorem xnw_ok0 : ∀ c, c < 11 → ∀ e ∈ xnwT.getD c [], xnwok c e = true := by decide +kernel
theorem xnw_ok {c idx ci N : Nat} (h : xnw c idx = some (ci, N)) : ci < 8 ∧ N = xNf ci ∧ Cond.classLink (xcn c) idx (xcn ci) ∈ xtb ∧ Cond.instantiable (xcn ci) (xNf ci) ∈ xtb ∧ Cond.initialized (xcn ci) ∈ xtb := by
  have h0 := xnw_ok0 c (xT_len h) _ (xlk h)
  simp only [xnwok, Bool.and_eq_true, beq_iff_eq] at h0
  exact ⟨Nat.le_of_ble_eq_true h0.1.1.1.1, h0.1.1.1.2, xmem_in h0.1.1.2, xmem_in h0.1.2, xmem_in h0.2⟩
theorem xak_cls0 : ∀ a, a < 43 → xcls a < 8 → xak a = 0 := by decide +kernel
theorem xcls_far {a : Nat} (h : 43 ≤ a) : xcls a = 99 := by
  unfold xcls
  rw [List.getD_eq_getElem?_getD, List.getElem?_eq_none (by exact h)]
  rfl
theorem xak_cls {a ci : Nat} (h : xok a ci = true) (hc : ci < 8) : xcls a = ci ∧ xak a = 0 := by
  have h0 : xcls a = ci := eq_of_beq h
  refine ⟨h0, ?_⟩
  rcases Nat.lt_or_ge a 43 with q | q
  · exact xak_cls0 a q (by omega)
  · rw [xcls_far q] at h0; omega
theorem xIF_pF (w : XW) (a f : Nat) (z : Int32) : xIF (xpF w a f z) = va_up (xIF w) a (va_up (xIF w a) f z) := rfl
theorem xcell_pF {ad : Nat → Nat} {cA : Nat → ClassId} {w : XW} {a f : Nat} {z : Int32} {q : Nat} (h : q ≠ a) : xcell ad cA (xpF w a f z) q = xcell ad cA w q := by
  have e : xIF (xpF w a f z) q = xIF w q := by rw [xIF_pF]; exact if_neg h
  unfold xcell xfs xfv
  rw [e]
  rfl
theorem xcell_pR {ad : Nat → Nat} {cA : Nat → ClassId} {w : XW} {a f : Nat} {z : Option Nat} {q : Nat} (h : q ≠ a) : xcell ad cA (xpR w a f z) q = xcell ad cA w q := by
  have e : xRF (xpR w a f z) q = xRF w q := if_neg h
  unfold xcell xfs xfv
  rw [e]
  rfl
theorem xmapset {N f : Nat} {g g' : Nat → Value} {v : Value} (h : ∀ j, j ≠ f → g' j = g j) (hf : g' f = v) : ((List.range N).map g).set f v = (List.range N).map g' := by
  apply List.ext_getElem?
  intro k
  rw [List.getElem?_set, List.getElem?_map, List.getElem?_map]
  by_cases hk : k < N
  · rw [List.getElem?_range hk]
    by_cases e : f = k
    · subst e
      rw [if_pos rfl, if_pos (by simpa using hk)]
      exact congrArg some hf.symm
    · rw [if_neg e]
      exact congrArg some (h k (fun q => e q.symm)).symm
  · have e0 : (List.range N)[k]? = none := List.getElem?_eq_none (by simpa using hk)
    rw [e0]
    by_cases e : f = k
    · subst e
      rw [if_pos rfl, if_neg (by simpa using hk)]
      rfl
    · rw [if_neg e]
      rfl
theorem xcell_obj {ad : Nat → Nat} {cA : Nat → ClassId} {w : XW} {a ci : Nat} (hc : xcls a = ci) (h0 : xak a = 0) : xcell ad cA w a = .inr (ci, xfs ad w a ci) := by
  unfold xcell
  rw [h0, hc]
  rfl
theorem xfs_at {ad : Nat → Nat} {w : XW} {a ci f : Nat} (hf : f < xNf ci) : (xfs ad w a ci)[f]? = some (xfv ad w a ci f) := by
  unfold xfs
  rw [List.getElem?_map, List.getElem?_range hf]
  rfl
theorem xfs_len (ad : Nat → Nat) (w : XW) (a ci : Nat) : (xfs ad w a ci).length = xNf ci := by simp [xfs]
theorem xfs_pF {ad : Nat → Nat} {w : XW} {a ci f : Nat} {z : Int32} (hi : xfint ci f = true) : (xfs ad w a ci).set f (.int z) = xfs ad (xpF w a f z) a ci := by
  refine xmapset (fun j hj => ?_) ?_
  · unfold xfv
    split
    · rw [xIF_pF]
      simp only [va_up, if_true, hj, if_false]
    · rfl
  · unfold xfv
    rw [hi, xIF_pF]
    simp [va_up]
theorem xfs_pR {ad : Nat → Nat} {w : XW} {a ci f : Nat} {q : Nat} (hi : xfint ci f = false) : (xfs ad w a ci).set f (.ref (ad q)) = xfs ad (xpR w a f (some q)) a ci := by
  have e : xRF (xpR w a f (some q)) = va_up (xRF w) a (va_up (xRF w a) f (some q)) := rfl
  refine xmapset (fun j hj => ?_) ?_
  · unfold xfv
    split
    · rfl
    · rw [e]
      simp only [va_up, if_true, hj, if_false]
  · unfold xfv
    rw [hi, e]
    simp [va_up, va_rf]
theorem xVR_pR {w : XW} {a f q : Nat} (h : xVR w) (hq : q < xn w) : xVR (xpR w a f (some q)) := by
  have e : xRF (xpR w a f (some q)) = va_up (xRF w) a (va_up (xRF w a) f (some q)) := rfl
  refine ⟨fun a' f' q' h' => ?_, h.2⟩
  rw [e] at h'
  simp only [va_up] at h'
  split at h'
  · simp only [va_up] at h'
    split at h'
    · cases h'; exact hq
    · exact h.1 _ _ _ h'
  · exact h.1 _ _ _ h'
theorem xKa {D : va_G} {s : State} {cA : ClassId} {ty : FieldType} (hK : va_K D vwCl [] s) (h : ArrOfT s cA ty ∧ va_RA s cA ty) : va_K D vwCl [(cA, ty)] s := ⟨hK.1, fun k q hq => by
  match k, hq with
  | 0, hq => cases hq; exact h
  | k + 1, hq => cases hq⟩
theorem xoa_in {w : XW} {a t : Nat} {i : Int32} (h : xoa w a t i = true) : xak a = t ∧ vp_in i (xln w a) := by
  unfold xoa at h
  simp only [Bool.and_eq_true] at h
  exact ⟨eq_of_beq h.1, xvp h.2⟩
theorem xcell_i {ad : Nat → Nat} {cA : Nat → ClassId} {w : XW} {a : Nat} (h : xak a = 1) : xcell ad cA w a = .inl (cA a, xln w a, .inl (xIA w a)) := by unfold xcell; rw [h]; rfl
theorem xcell_z {ad : Nat → Nat} {cA : Nat → ClassId} {w : XW} {a : Nat} (h : xak a = 2) : xcell ad cA w a = .inl (cA a, xln w a, .inl (xIA w a)) := by unfold xcell; rw [h]; rfl
theorem xcell_l {ad : Nat → Nat} {cA : Nat → ClassId} {w : XW} {a : Nat} (h : xak a = 3) : xcell ad cA w a = .inl (cA a, xln w a, .inr (.inl (xLA w a))) := by unfold xcell; rw [h]; rfl
theorem xcell_q {ad : Nat → Nat} {cA : Nat → ClassId} {w : XW} {a : Nat} (h : xak a = 4) : xcell ad cA w a = .inl (cA a, xln w a, .inr (.inr (.inr (.inr (fun j => (xRA w a j).map ad))))) := by unfold xcell; rw [h]; rfl
theorem xcell_pI {ad : Nat → Nat} {cA : Nat → ClassId} {w : XW} {a k : Nat} {z : Int32} {q : Nat} (h : q ≠ a) : xcell ad cA (xpI w a k z) q = xcell ad cA w q := by
  have e : xIA (xpI w a k z) q = xIA w q := if_neg h
  unfold xcell
  rw [e]
  rfl
theorem xcell_pG {ad : Nat → Nat} {cA : Nat → ClassId} {w : XW} {a : Nat} {g : Nat → Int32} {q : Nat} (h : q ≠ a) : xcell ad cA (xpG w a g) q = xcell ad cA w q := by
  have e : xIA (xpG w a g) q = xIA w q := if_neg h
  unfold xcell
  rw [e]
  rfl
theorem xcell_pL {ad : Nat → Nat} {cA : Nat → ClassId} {w : XW} {a k : Nat} {z : Int64} {q : Nat} (h : q ≠ a) : xcell ad cA (xpL w a k z) q = xcell ad cA w q := by
  have e : xLA (xpL w a k z) q = xLA w q := if_neg h
  unfold xcell
  rw [e]
  rfl
theorem xcell_pA {ad : Nat → Nat} {cA : Nat → ClassId} {w : XW} {a k : Nat} {z : Option Nat} {q : Nat} (h : q ≠ a) : xcell ad cA (xpA w a k z) q = xcell ad cA w q := by
  have e : xRA (xpA w a k z) q = xRA w q := if_neg h
  unfold xcell
  rw [e]
  rfl
end
section
theorem xofN (n : Nat) : Int32.ofNat n = iI (n : Int) := by
  unfold iI
  exact (Int32.ofInt_eq_ofNat).symm

section XINS2
variable {p : Program} {l : Launch} {e : Env} {R : Room} {s : State} {m : MethodId} {args : Array Value} {below : List Frame} {meth : Method} {c : Code} {Q : State → Prop} {D : va_G} {sad ad0 : Nat → Nat} {cA0 : Nat → ClassId} {n0 : Nat} {sc : Nat × (Nat → Int32)} {A : Nat → Prop} {id lv mc ms : Nat} {x : XR}
variable {J : Nat → XL → List Value → XB → XW → Option XR} {C : Nat → Nat → List Value → XW → Option XR} {k : XK} {pc : Nat}

theorem xi_ldc2 {idx : Nat} (cx : xCx p R s m args meth c D sad sc A id lv mc ms) (h1 : xci1 id pc (.ldc2_w idx) = true) (h2 : xci2 id pc (.ldc2_w idx) = true) (Hk : xGo (fun H locs cells slots g => W p l e R s m args below meth c H locs cells slots Q g) (xI D ad0 cA0 n0 sc A s) m sad (xmaxL id) mc ms x (pc + xilen (.ldc2_w idx)) k) : xGo (fun H locs cells slots g => W p l e R s m args below meth c H locs cells slots Q g) (xI D ad0 cA0 n0 sc A s) m sad (xmaxL id) mc ms x pc (xins J C (xown id) id lv pc (.ldc2_w idx) k) := by
  intro ad cA w H locs cells slots ls L st b hI hL hs hc hb h
  obtain ⟨hx, hcc, hr, hml, hown, hts, hlk, hK, hin, hst, hA, hRf, hRl, hRc, hRs, hN⟩ := cx
  have hd := xdec h1 rfl
  dsimp only [xins] at h
  split at h
  · rename_i z hz
    exact lv_ldc2 hx hcc hown (hts _ (xldc_ok hz)) hd (Hk ad cA w H locs cells slots ls L (.long (lI z) :: st) b hI hL (xs_cons trivial hs) hc hb h)
  · cases h

theorem xi_getfield {idx : Nat} (cx : xCx p R s m args meth c D sad sc A id lv mc ms) (h1 : xci1 id pc (.getfield idx) = true) (h2 : xci2 id pc (.getfield idx) = true) (Hk : xGo (fun H locs cells slots g => W p l e R s m args below meth c H locs cells slots Q g) (xI D ad0 cA0 n0 sc A s) m sad (xmaxL id) mc ms x (pc + xilen (.getfield idx)) k) : xGo (fun H locs cells slots g => W p l e R s m args below meth c H locs cells slots Q g) (xI D ad0 cA0 n0 sc A s) m sad (xmaxL id) mc ms x pc (xins J C (xown id) id lv pc (.getfield idx) k) := by
  intro ad cA w H locs cells slots ls L st b hI hL hs hc hb h
  obtain ⟨hx, hcc, hr, hml, hown, hts, hlk, hK, hin, hst, hA, hRf, hRl, hRc, hRs, hN⟩ := cx
  have hd := xdec h1 rfl
  dsimp only [xins] at h
  split at h
  · rename_i ci f v st' hf
    obtain ⟨a, rfl, h⟩ := xde_some h
    obtain ⟨hg, h⟩ := xg_some h
    obtain ⟨hc8, hfN, hlink⟩ := xfld_ok hf
    obtain ⟨hcls, hak⟩ := xak_cls hg hc8
    have hlt : a < xn w := xs_hd hs
    have he : (xws ad cA w)[a]? = some (ad a, .inr (ci, xfs ad w a ci)) := by rw [xws_at hlt, xcell_obj hcls hak]
    have hat := xfs_at (ad := ad) (w := w) (a := a) hfN
    split at h
    · rename_i hi
      have hv : (xfs ad w a ci)[f]? = some (.int (xIF w a f)) := by rw [hat]; unfold xfv; rw [hi]
      rcases hlink with hl | ⟨hl, -⟩
      · exact va_get (D := D) hx hcc hts (xcl_in0 ci hc8) hown hK hI.1 a he (xcl_at hc8) f hfN (hts _ hl) (fun _ h9 => h9) hv hd (Hk ad cA w H locs cells slots ls L (.int (xIF w a f) :: st') b hI hL (xs_cons trivial (xs_tl hs)) hc hb h)
      · exact va_getN (D := D) hx hcc hts (xcl_in0 ci hc8) hown hK hI.1 a he (xcl_at hc8) f hfN (va_Nw.use rfl (hN.at hl)) (fun _ h9 => h9) hv hd (Hk ad cA w H locs cells slots ls L (.int (xIF w a f) :: st') b hI hL (xs_cons trivial (xs_tl hs)) hc hb h)
    · rename_i hi
      obtain ⟨q, hq, h⟩ := xo_some h
      have hv : (xfs ad w a ci)[f]? = some (.ref (ad q)) := by rw [hat]; unfold xfv; rw [hi, hq]; rfl
      have hqn : q < xn w := hI.2.2.2.1.1 _ _ _ hq
      rcases hlink with hl | ⟨hl, -⟩
      · exact va_get (D := D) hx hcc hts (xcl_in0 ci hc8) hown hK hI.1 a he (xcl_at hc8) f hfN (hts _ hl) (fun _ h9 => h9) hv hd (Hk ad cA w H locs cells slots ls L (.ref q :: st') b hI hL (xs_cons hqn (xs_tl hs)) hc hb h)
      · exact va_getN (D := D) hx hcc hts (xcl_in0 ci hc8) hown hK hI.1 a he (xcl_at hc8) f hfN (va_Nw.use rfl (hN.at hl)) (fun _ h9 => h9) hv hd (Hk ad cA w H locs cells slots ls L (.ref q :: st') b hI hL (xs_cons hqn (xs_tl hs)) hc hb h)
  · cases h

theorem xi_putfield {idx : Nat} (cx : xCx p R s m args meth c D sad sc A id lv mc ms) (h1 : xci1 id pc (.putfield idx) = true) (h2 : xci2 id pc (.putfield idx) = true) (Hk : xGo (fun H locs cells slots g => W p l e R s m args below meth c H locs cells slots Q g) (xI D ad0 cA0 n0 sc A s) m sad (xmaxL id) mc ms x (pc + xilen (.putfield idx)) k) : xGo (fun H locs cells slots g => W p l e R s m args below meth c H locs cells slots Q g) (xI D ad0 cA0 n0 sc A s) m sad (xmaxL id) mc ms x pc (xins J C (xown id) id lv pc (.putfield idx) k) := by
  intro ad cA w H locs cells slots ls L st b hI hL hs hc hb h
  obtain ⟨hx, hcc, hr, hml, hown, hts, hlk, hK, hin, hst, hA, hRf, hRl, hRc, hRs, hN⟩ := cx
  have hd := xdec h1 rfl
  dsimp only [xins] at h
  split at h
  · rename_i ci f u v st' hf
    obtain ⟨a, rfl, h⟩ := xde_some h
    obtain ⟨hg, h⟩ := xg_some h
    obtain ⟨hc8, hfN, hlink⟩ := xfld_ok hf
    obtain ⟨hcls, hak⟩ := xak_cls hg hc8
    have hlt : a < xn w := xs_hd (xs_tl hs)
    have he : (xws ad cA w)[a]? = some (ad a, .inr (ci, xfs ad w a ci)) := by rw [xws_at hlt, xcell_obj hcls hak]
    have hty := xcl_ty0 ci hc8 f hfN
    have hfin : (xT ci f).2.2.2 = false ∨ ((xT ci f).2.2.2 = true ∧ meth.name = "<init>" ∧ (xT ci f).1 = xcn (xown id)) := by
      simp only [xci2, hf, Bool.or_eq_true, Bool.and_eq_true, Bool.not_eq_true', decide_eq_true_eq, beq_iff_eq] at h2
      rcases h2 with h2 | h2
      · exact Or.inl h2
      · cases hq : (xT ci f).2.2.2 with
        | false => exact Or.inl rfl
        | true => exact Or.inr ⟨rfl, hin h2.1, h2.2⟩
    cases hi : xfint ci f with
    | true =>
     rw [hi] at h
     cases u with
     | int z =>
      have hE : xcell ad cA (xpF w a f z) a = .inr (ci, (xfs ad w a ci).set f (.int z)) := by rw [xcell_obj hcls hak, xfs_pF hi]
      have hn : narrow (xty ci f) (.int z) = .int z := by rw [xft_int hc8 hfN hi]; rfl
      have hft : fits (xty ci f) (.int z) = true := by rw [xft_int hc8 hfN hi]; rfl
      have kk : ∀ (H1 : Heap) (locs1 : List Loc), va_P D vwCl ((xws ad cA w).set a (ad a, .inr (ci, (xfs ad w a ci).set f (.int z)))) H1 → va_D A ((xws ad cA w).set a (ad a, .inr (ci, (xfs ad w a ci).set f (.int z)))) → va_S A s.heap H1 locs1 → W p l e R s m args below meth c H1 locs1 cells slots Q (F0 m (pc + 3) ls (st'.map (xv ad sad))) := fun H1 locs1 hP1 hD1 hS1 =>
        Hk ad cA (xpF w a f z) H1 locs1 cells slots ls L st' b (hI.upd (a := a) rfl rfl (fun q hq => xcell_pF hq) hE hI.2.2.2.1 hP1 hD1 hS1) (hL.grow (Nat.le_refl _) (fun _ _ => rfl)) (xs_grow (Nat.le_refl _) (xs_tl (xs_tl hs))) hc hb h
      rcases hfin with hf0 | ⟨hf1, hmn, hdc⟩
      · rcases hlink with hl | ⟨hl, -⟩
        · exact va_put (D := D) hx hcc hts (xcl_in0 ci hc8) (xty ci) (xcl_ty0 ci hc8) (xcl_nm0 ci hc8) hown hK hI.1 hI.2.1 hI.2.2.2.2.1 a he (xcl_at hc8) f hfN (hts _ hl) (fun _ h9 => h9) hf0 hty hn hft (by rw [xfs_len]; exact hfN) hd kk
        · exact va_putN (D := D) hx hcc hts (xcl_in0 ci hc8) (xty ci) (xcl_ty0 ci hc8) (xcl_nm0 ci hc8) hown hK hI.1 hI.2.1 hI.2.2.2.2.1 a he (xcl_at hc8) f hfN (va_Nw.use rfl (hN.at hl)) (fun _ h9 => h9) hf0 hty hn hft (by rw [xfs_len]; exact hfN) hd kk
      · rcases hlink with hl | ⟨-, hl⟩
        · exact va_putF (D := D) hx hcc hts (xcl_in0 ci hc8) (xty ci) (xcl_ty0 ci hc8) (xcl_nm0 ci hc8) hown hK hI.1 hI.2.1 hI.2.2.2.2.1 a he (xcl_at hc8) f hfN (hts _ hl) (fun _ h9 => h9) hf1 hmn hdc hty hn hft (by rw [xfs_len]; exact hfN) hd kk
        · exact absurd hdc hl
     | _ => cases h
    | false =>
     rw [hi] at h
     cases u with
     | ref q =>
      have hqn : q < xn w := xs_hd hs
      have hE : xcell ad cA (xpR w a f (some q)) a = .inr (ci, (xfs ad w a ci).set f (.ref (ad q))) := by rw [xcell_obj hcls hak, xfs_pR hi]
      have hn := (xft_ref hc8 hfN hi (ad q)).1
      have hft := (xft_ref hc8 hfN hi (ad q)).2.1
      have kk : ∀ (H1 : Heap) (locs1 : List Loc), va_P D vwCl ((xws ad cA w).set a (ad a, .inr (ci, (xfs ad w a ci).set f (.ref (ad q))))) H1 → va_D A ((xws ad cA w).set a (ad a, .inr (ci, (xfs ad w a ci).set f (.ref (ad q))))) → va_S A s.heap H1 locs1 → W p l e R s m args below meth c H1 locs1 cells slots Q (F0 m (pc + 3) ls (st'.map (xv ad sad))) := fun H1 locs1 hP1 hD1 hS1 =>
        Hk ad cA (xpR w a f (some q)) H1 locs1 cells slots ls L st' b (hI.upd (a := a) rfl rfl (fun q hq => xcell_pR hq) hE (xVR_pR hI.2.2.2.1 hqn) hP1 hD1 hS1) (hL.grow (Nat.le_refl _) (fun _ _ => rfl)) (xs_grow (Nat.le_refl _) (xs_tl (xs_tl hs))) hc hb h
      rcases hfin with hf0 | ⟨hf1, hmn, hdc⟩
      · rcases hlink with hl | ⟨hl, -⟩
        · exact va_put (D := D) hx hcc hts (xcl_in0 ci hc8) (xty ci) (xcl_ty0 ci hc8) (xcl_nm0 ci hc8) hown hK hI.1 hI.2.1 hI.2.2.2.2.1 a he (xcl_at hc8) f hfN (hts _ hl) (fun _ h9 => h9) hf0 hty hn hft (by rw [xfs_len]; exact hfN) hd kk
        · exact va_putN (D := D) hx hcc hts (xcl_in0 ci hc8) (xty ci) (xcl_ty0 ci hc8) (xcl_nm0 ci hc8) hown hK hI.1 hI.2.1 hI.2.2.2.2.1 a he (xcl_at hc8) f hfN (va_Nw.use rfl (hN.at hl)) (fun _ h9 => h9) hf0 hty hn hft (by rw [xfs_len]; exact hfN) hd kk
      · rcases hlink with hl | ⟨-, hl⟩
        · exact va_putF (D := D) hx hcc hts (xcl_in0 ci hc8) (xty ci) (xcl_ty0 ci hc8) (xcl_nm0 ci hc8) hown hK hI.1 hI.2.1 hI.2.2.2.2.1 a he (xcl_at hc8) f hfN (hts _ hl) (fun _ h9 => h9) hf1 hmn hdc hty hn hft (by rw [xfs_len]; exact hfN) hd kk
        · exact absurd hdc hl
     | _ => cases h
  · cases h

theorem xi_getstatic {idx : Nat} (cx : xCx p R s m args meth c D sad sc A id lv mc ms) (h1 : xci1 id pc (.getstatic idx) = true) (h2 : xci2 id pc (.getstatic idx) = true) (Hk : xGo (fun H locs cells slots g => W p l e R s m args below meth c H locs cells slots Q g) (xI D ad0 cA0 n0 sc A s) m sad (xmaxL id) mc ms x (pc + xilen (.getstatic idx)) k) : xGo (fun H locs cells slots g => W p l e R s m args below meth c H locs cells slots Q g) (xI D ad0 cA0 n0 sc A s) m sad (xmaxL id) mc ms x pc (xins J C (xown id) id lv pc (.getstatic idx) k) := by
  intro ad cA w H locs cells slots ls L st b hI hL hs hc hb h
  obtain ⟨hx, hcc, hr, hml, hown, hts, hlk, hK, hin, hst, hA, hRf, hRl, hRc, hRs, hN⟩ := cx
  have hd := xdec h1 rfl
  dsimp only [xins] at h
  split at h
  · rename_i t ht
    obtain ⟨h4, hl⟩ := xsta_ok ht
    exact va_gets hx hcc (hst.1 t h4) hI.2.2.2.2.1 hown (hts _ hl) (fun _ h9 => h9) hd (Hk ad cA w H locs cells slots ls L (.retAddr t :: st) b hI hL (xs_cons (show t < 5 by omega) hs) hc hb h)
  · cases h

theorem xi_iaload (cx : xCx p R s m args meth c D sad sc A id lv mc ms) (h1 : xci1 id pc (.iaload) = true) (h2 : xci2 id pc (.iaload) = true) (Hk : xGo (fun H locs cells slots g => W p l e R s m args below meth c H locs cells slots Q g) (xI D ad0 cA0 n0 sc A s) m sad (xmaxL id) mc ms x (pc + xilen (.iaload)) k) : xGo (fun H locs cells slots g => W p l e R s m args below meth c H locs cells slots Q g) (xI D ad0 cA0 n0 sc A s) m sad (xmaxL id) mc ms x pc (xins J C (xown id) id lv pc (.iaload) k) := by
  intro ad cA w H locs cells slots ls L st b hI hL hs hc hb h
  obtain ⟨hx, hcc, hr, hml, hown, hts, hlk, hK, hin, hst, hA, hRf, hRl, hRc, hRs, hN⟩ := cx
  have hd := xdec h1 rfl
  dsimp only [xins] at h
  split at h
  · rename_i i t st'
    split at h
    · obtain ⟨hg, h⟩ := xg_some h
      rw [hI.2.2.2.2.2.1] at hg h
      exact va_ti hx hcc hst.2.2.2.1 hI.2.2.2.2.1 (xvp hg) rfl hd (Hk ad cA w H locs cells slots ls L (.int (sc.2 i.toNatClampNeg) :: st') b hI hL (xs_cons trivial (xs_tl (xs_tl hs))) hc hb h)
    · rename_i ht4
      obtain ⟨hg, h⟩ := xg_some h
      have h5 : t < 5 := xs_hd (xs_tl hs)
      have h0 : 0 < t := by
        rcases Nat.eq_zero_or_pos t with q | q
        · subst q
          exact absurd (xvp hg) (fun z => z (Or.inr (Nat.zero_le _)))
        · exact q
      have h4 : t < 4 := by
        rcases Nat.lt_or_ge t 4 with q | q
        · exact q
        · exact absurd (show t = 4 by omega) ht4
      exact va_ti hx hcc (hst.2.2.1 t h0 h4) hI.2.2.2.2.1 (xvp hg) rfl hd (Hk ad cA w H locs cells slots ls L (.int (iI (xsi t i.toNatClampNeg)) :: st') b hI hL (xs_cons trivial (xs_tl (xs_tl hs))) hc hb h)
  · rename_i i v st' hne
    obtain ⟨a, rfl, h⟩ := xde_some h
    obtain ⟨hg, h⟩ := xg_some h
    obtain ⟨hak, hin2⟩ := xoa_in hg
    have hlt : a < xn w := xs_hd (xs_tl hs)
    have hAr := hI.2.2.1 a hlt (by rw [hak]; decide)
    rw [hak] at hAr
    exact va_iald (D := D) hx hcc (xKa hK hAr) hI.1 a 0 (by rw [xws_at hlt, xcell_i hak]) rfl hin2 hd (Hk ad cA w H locs cells slots ls L (.int (xIA w a i.toNatClampNeg) :: st') b hI hL (xs_cons trivial (xs_tl (xs_tl hs))) hc hb h)
  · cases h

theorem xi_laload (cx : xCx p R s m args meth c D sad sc A id lv mc ms) (h1 : xci1 id pc (.laload) = true) (h2 : xci2 id pc (.laload) = true) (Hk : xGo (fun H locs cells slots g => W p l e R s m args below meth c H locs cells slots Q g) (xI D ad0 cA0 n0 sc A s) m sad (xmaxL id) mc ms x (pc + xilen (.laload)) k) : xGo (fun H locs cells slots g => W p l e R s m args below meth c H locs cells slots Q g) (xI D ad0 cA0 n0 sc A s) m sad (xmaxL id) mc ms x pc (xins J C (xown id) id lv pc (.laload) k) := by
  intro ad cA w H locs cells slots ls L st b hI hL hs hc hb h
  obtain ⟨hx, hcc, hr, hml, hown, hts, hlk, hK, hin, hst, hA, hRf, hRl, hRc, hRs, hN⟩ := cx
  have hd := xdec h1 rfl
  dsimp only [xins] at h
  split at h
  · rename_i i t st'
    have hg := (xg_some h).1
    simp only [Bool.and_eq_true, beq_iff_eq] at hg
    obtain ⟨ht, hg⟩ := hg
    subst ht
    obtain ⟨-, h⟩ := xg_some h
    exact va_tl hx hcc hst.2.1 hI.2.2.2.2.1 (xvp hg) rfl hd (Hk ad cA w H locs cells slots ls L (.long (lI (xsl i.toNatClampNeg)) :: st') b hI hL (xs_cons trivial (xs_tl (xs_tl hs))) hc hb h)
  · rename_i i v st' hne
    obtain ⟨a, rfl, h⟩ := xde_some h
    obtain ⟨hg, h⟩ := xg_some h
    obtain ⟨hak, hin2⟩ := xoa_in hg
    have hlt : a < xn w := xs_hd (xs_tl hs)
    have hAr := hI.2.2.1 a hlt (by rw [hak]; decide)
    rw [hak] at hAr
    exact va_lald (D := D) hx hcc (xKa hK hAr) hI.1 a 0 (by rw [xws_at hlt, xcell_l hak]) rfl hin2 hd (Hk ad cA w H locs cells slots ls L (.long (xLA w a i.toNatClampNeg) :: st') b hI hL (xs_cons trivial (xs_tl (xs_tl hs))) hc hb h)
  · cases h

theorem xi_baload (cx : xCx p R s m args meth c D sad sc A id lv mc ms) (h1 : xci1 id pc (.baload) = true) (h2 : xci2 id pc (.baload) = true) (Hk : xGo (fun H locs cells slots g => W p l e R s m args below meth c H locs cells slots Q g) (xI D ad0 cA0 n0 sc A s) m sad (xmaxL id) mc ms x (pc + xilen (.baload)) k) : xGo (fun H locs cells slots g => W p l e R s m args below meth c H locs cells slots Q g) (xI D ad0 cA0 n0 sc A s) m sad (xmaxL id) mc ms x pc (xins J C (xown id) id lv pc (.baload) k) := by
  intro ad cA w H locs cells slots ls L st b hI hL hs hc hb h
  obtain ⟨hx, hcc, hr, hml, hown, hts, hlk, hK, hin, hst, hA, hRf, hRl, hRc, hRs, hN⟩ := cx
  have hd := xdec h1 rfl
  dsimp only [xins] at h
  split at h
  · rename_i i v st'
    obtain ⟨a, rfl, h⟩ := xde_some h
    obtain ⟨hg, h⟩ := xg_some h
    obtain ⟨hak, hin2⟩ := xoa_in hg
    have hlt : a < xn w := xs_hd (xs_tl hs)
    have hAr := hI.2.2.1 a hlt (by rw [hak]; decide)
    rw [hak] at hAr
    exact va_zald (D := D) hx hcc (xKa hK hAr) hI.1 a 0 (by rw [xws_at hlt, xcell_z hak]) rfl hin2 hd (Hk ad cA w H locs cells slots ls L (.int (xIA w a i.toNatClampNeg) :: st') b hI hL (xs_cons trivial (xs_tl (xs_tl hs))) hc hb h)
  · cases h

theorem xi_aaload (cx : xCx p R s m args meth c D sad sc A id lv mc ms) (h1 : xci1 id pc (.aaload) = true) (h2 : xci2 id pc (.aaload) = true) (Hk : xGo (fun H locs cells slots g => W p l e R s m args below meth c H locs cells slots Q g) (xI D ad0 cA0 n0 sc A s) m sad (xmaxL id) mc ms x (pc + xilen (.aaload)) k) : xGo (fun H locs cells slots g => W p l e R s m args below meth c H locs cells slots Q g) (xI D ad0 cA0 n0 sc A s) m sad (xmaxL id) mc ms x pc (xins J C (xown id) id lv pc (.aaload) k) := by
  intro ad cA w H locs cells slots ls L st b hI hL hs hc hb h
  obtain ⟨hx, hcc, hr, hml, hown, hts, hlk, hK, hin, hst, hA, hRf, hRl, hRc, hRs, hN⟩ := cx
  have hd := xdec h1 rfl
  dsimp only [xins] at h
  split at h
  · rename_i i v st'
    obtain ⟨a, rfl, h⟩ := xde_some h
    obtain ⟨hg, h⟩ := xg_some h
    obtain ⟨hak, hin2⟩ := xoa_in hg
    obtain ⟨q, hq, h⟩ := xo_some h
    have hlt : a < xn w := xs_hd (xs_tl hs)
    have hAr := hI.2.2.1 a hlt (by rw [hak]; decide)
    rw [hak] at hAr
    have hqn : q < xn w := hI.2.2.2.1.2 _ _ _ hq
    refine va_aldq (D := D) hx hcc (xKa hK hAr) hI.1 a 0 (by rw [xws_at hlt, xcell_q hak]) rfl hin2 hd ?_
    try dsimp only
    rw [hq]
    exact Hk ad cA w H locs cells slots ls L (.ref q :: st') b hI hL (xs_cons hqn (xs_tl (xs_tl hs))) hc hb h
  · cases h

theorem xi_iastore (cx : xCx p R s m args meth c D sad sc A id lv mc ms) (h1 : xci1 id pc (.iastore) = true) (h2 : xci2 id pc (.iastore) = true) (Hk : xGo (fun H locs cells slots g => W p l e R s m args below meth c H locs cells slots Q g) (xI D ad0 cA0 n0 sc A s) m sad (xmaxL id) mc ms x (pc + xilen (.iastore)) k) : xGo (fun H locs cells slots g => W p l e R s m args below meth c H locs cells slots Q g) (xI D ad0 cA0 n0 sc A s) m sad (xmaxL id) mc ms x pc (xins J C (xown id) id lv pc (.iastore) k) := by
  intro ad cA w H locs cells slots ls L st b hI hL hs hc hb h
  obtain ⟨hx, hcc, hr, hml, hown, hts, hlk, hK, hin, hst, hA, hRf, hRl, hRc, hRs, hN⟩ := cx
  have hd := xdec h1 rfl
  dsimp only [xins] at h
  split at h
  · rename_i z i v st'
    obtain ⟨a, rfl, h⟩ := xde_some h
    obtain ⟨hg, h⟩ := xg_some h
    obtain ⟨hak, hin2⟩ := xoa_in hg
    have hlt : a < xn w := xs_hd (xs_tl (xs_tl hs))
    have hAr := hI.2.2.1 a hlt (by rw [hak]; decide)
    rw [hak] at hAr
    have hE : xcell ad cA (xpI w a i.toNatClampNeg z) a = .inl (cA a, xln w a, .inl (upd (xIA w a) i.toNatClampNeg z)) := by
      rw [xcell_i hak]
      have e : xIA (xpI w a i.toNatClampNeg z) a = upd (xIA w a) i.toNatClampNeg z := if_pos rfl
      rw [e]
      rfl
    exact va_iast (D := D) hx hcc (xKa hK hAr) hI.1 hI.2.1 hI.2.2.2.2.1 a 0 (by rw [xws_at hlt, xcell_i hak]) rfl hin2 hd (fun H1 locs1 hP1 hD1 hS1 => Hk ad cA (xpI w a i.toNatClampNeg z) H1 locs1 cells slots ls L st' b (hI.upd (a := a) rfl rfl (fun q hq => xcell_pI hq) hE hI.2.2.2.1 hP1 hD1 hS1) (hL.grow (Nat.le_refl _) (fun _ _ => rfl)) (xs_grow (Nat.le_refl _) (xs_tl (xs_tl (xs_tl hs)))) hc hb h)
  · cases h

theorem xi_bastore (cx : xCx p R s m args meth c D sad sc A id lv mc ms) (h1 : xci1 id pc (.bastore) = true) (h2 : xci2 id pc (.bastore) = true) (Hk : xGo (fun H locs cells slots g => W p l e R s m args below meth c H locs cells slots Q g) (xI D ad0 cA0 n0 sc A s) m sad (xmaxL id) mc ms x (pc + xilen (.bastore)) k) : xGo (fun H locs cells slots g => W p l e R s m args below meth c H locs cells slots Q g) (xI D ad0 cA0 n0 sc A s) m sad (xmaxL id) mc ms x pc (xins J C (xown id) id lv pc (.bastore) k) := by
  intro ad cA w H locs cells slots ls L st b hI hL hs hc hb h
  obtain ⟨hx, hcc, hr, hml, hown, hts, hlk, hK, hin, hst, hA, hRf, hRl, hRc, hRs, hN⟩ := cx
  have hd := xdec h1 rfl
  dsimp only [xins] at h
  split at h
  · rename_i z i v st'
    obtain ⟨a, rfl, h⟩ := xde_some h
    obtain ⟨hg, h⟩ := xg_some h
    obtain ⟨hz, h⟩ := xg_some h
    obtain ⟨hak, hin2⟩ := xoa_in hg
    have hlt : a < xn w := xs_hd (xs_tl (xs_tl hs))
    have hAr := hI.2.2.1 a hlt (by rw [hak]; decide)
    rw [hak] at hAr
    have hzz : vp_nar .boolean z = z := by
      unfold xz01 at hz
      simp only [Bool.or_eq_true, decide_eq_true_eq] at hz
      rcases hz with rfl | rfl <;> decide
    have hE : xcell ad cA (xpI w a i.toNatClampNeg z) a = .inl (cA a, xln w a, .inl (upd (xIA w a) i.toNatClampNeg (vp_nar .boolean z))) := by
      rw [xcell_z hak, hzz]
      have e : xIA (xpI w a i.toNatClampNeg z) a = upd (xIA w a) i.toNatClampNeg z := if_pos rfl
      rw [e]
      rfl
    exact va_zast (D := D) hx hcc (xKa hK hAr) hI.1 hI.2.1 hI.2.2.2.2.1 a 0 (by rw [xws_at hlt, xcell_z hak]) rfl hin2 hd (fun H1 locs1 hP1 hD1 hS1 => Hk ad cA (xpI w a i.toNatClampNeg z) H1 locs1 cells slots ls L st' b (hI.upd (a := a) rfl rfl (fun q hq => xcell_pI hq) hE hI.2.2.2.1 hP1 hD1 hS1) (hL.grow (Nat.le_refl _) (fun _ _ => rfl)) (xs_grow (Nat.le_refl _) (xs_tl (xs_tl (xs_tl hs)))) hc hb h)
  · cases h

theorem xi_lastore (cx : xCx p R s m args meth c D sad sc A id lv mc ms) (h1 : xci1 id pc (.lastore) = true) (h2 : xci2 id pc (.lastore) = true) (Hk : xGo (fun H locs cells slots g => W p l e R s m args below meth c H locs cells slots Q g) (xI D ad0 cA0 n0 sc A s) m sad (xmaxL id) mc ms x (pc + xilen (.lastore)) k) : xGo (fun H locs cells slots g => W p l e R s m args below meth c H locs cells slots Q g) (xI D ad0 cA0 n0 sc A s) m sad (xmaxL id) mc ms x pc (xins J C (xown id) id lv pc (.lastore) k) := by
  intro ad cA w H locs cells slots ls L st b hI hL hs hc hb h
  obtain ⟨hx, hcc, hr, hml, hown, hts, hlk, hK, hin, hst, hA, hRf, hRl, hRc, hRs, hN⟩ := cx
  have hd := xdec h1 rfl
  dsimp only [xins] at h
  split at h
  · rename_i z i v st'
    obtain ⟨a, rfl, h⟩ := xde_some h
    obtain ⟨hg, h⟩ := xg_some h
    obtain ⟨hak, hin2⟩ := xoa_in hg
    have hlt : a < xn w := xs_hd (xs_tl (xs_tl hs))
    have hAr := hI.2.2.1 a hlt (by rw [hak]; decide)
    rw [hak] at hAr
    have hE : xcell ad cA (xpL w a i.toNatClampNeg z) a = .inl (cA a, xln w a, .inr (.inl (vp_updL (xLA w a) i.toNatClampNeg z))) := by
      rw [xcell_l hak]
      have e : xLA (xpL w a i.toNatClampNeg z) a = vp_updL (xLA w a) i.toNatClampNeg z := if_pos rfl
      rw [e]
      rfl
    exact va_last (D := D) hx hcc (xKa hK hAr) hI.1 hI.2.1 hI.2.2.2.2.1 a 0 (by rw [xws_at hlt, xcell_l hak]) rfl hin2 hd (fun H1 locs1 hP1 hD1 hS1 => Hk ad cA (xpL w a i.toNatClampNeg z) H1 locs1 cells slots ls L st' b (hI.upd (a := a) rfl rfl (fun q hq => xcell_pL hq) hE hI.2.2.2.1 hP1 hD1 hS1) (hL.grow (Nat.le_refl _) (fun _ _ => rfl)) (xs_grow (Nat.le_refl _) (xs_tl (xs_tl (xs_tl hs)))) hc hb h)
  · cases h

theorem xi_aastore (cx : xCx p R s m args meth c D sad sc A id lv mc ms) (h1 : xci1 id pc (.aastore) = true) (h2 : xci2 id pc (.aastore) = true) (Hk : xGo (fun H locs cells slots g => W p l e R s m args below meth c H locs cells slots Q g) (xI D ad0 cA0 n0 sc A s) m sad (xmaxL id) mc ms x (pc + xilen (.aastore)) k) : xGo (fun H locs cells slots g => W p l e R s m args below meth c H locs cells slots Q g) (xI D ad0 cA0 n0 sc A s) m sad (xmaxL id) mc ms x pc (xins J C (xown id) id lv pc (.aastore) k) := by
  intro ad cA w H locs cells slots ls L st b hI hL hs hc hb h
  obtain ⟨hx, hcc, hr, hml, hown, hts, hlk, hK, hin, hst, hA, hRf, hRl, hRc, hRs, hN⟩ := cx
  have hd := xdec h1 rfl
  dsimp only [xins] at h
  split at h
  · rename_i q i v st'
    obtain ⟨a, rfl, h⟩ := xde_some h
    obtain ⟨hg, h⟩ := xg_some h
    simp only [Bool.and_eq_true] at hg
    obtain ⟨hak, hin2⟩ := xoa_in hg.1
    obtain ⟨hqc, hqk⟩ := xak_cls hg.2 (by decide)
    have hlt : a < xn w := xs_hd (xs_tl (xs_tl hs))
    have hqn : q < xn w := xs_hd hs
    have hAr := hI.2.2.1 a hlt (by rw [hak]; decide)
    rw [hak] at hAr
    have hE : xcell ad cA (xpA w a i.toNatClampNeg (some q)) a = .inl (cA a, xln w a, .inr (.inr (.inr (.inr (va_up (fun j => (xRA w a j).map ad) i.toNatClampNeg (some (ad q))))))) := by
      rw [xcell_q hak]
      have e : xRA (xpA w a i.toNatClampNeg (some q)) a = va_up (xRA w a) i.toNatClampNeg (some q) := if_pos rfl
      have e2 : (fun j => (xRA (xpA w a i.toNatClampNeg (some q)) a j).map ad) = va_up (fun j => (xRA w a j).map ad) i.toNatClampNeg (some (ad q)) := by
        funext j
        rw [e]
        unfold va_up
        split
        · rfl
        · rfl
      rw [e2]
      rfl
    have hV : xVR (xpA w a i.toNatClampNeg (some q)) := by
      have e : xRA (xpA w a i.toNatClampNeg (some q)) = va_up (xRA w) a (va_up (xRA w a) i.toNatClampNeg (some q)) := rfl
      refine ⟨hI.2.2.2.1.1, fun a' f' q' h' => ?_⟩
      rw [e] at h'
      simp only [va_up] at h'
      split at h'
      · simp only [va_up] at h'
        split at h'
        · cases h'; exact hqn
        · exact hI.2.2.2.1.2 _ _ _ h'
      · exact hI.2.2.2.1.2 _ _ _ h'
    exact va_astq (D := D) hx hcc (xKa hK hAr) hI.1 hI.2.1 hI.2.2.2.2.1 a 0 q xTab (r := (xcn xTab, xT xTab, xNf xTab)) (by rw [xws_at hlt, xcell_q hak]) rfl (by rw [xws_at hqn, xcell_obj hqc hqk]) (xcl_at (by decide)) hin2 hd (fun H1 locs1 hP1 hD1 hS1 => Hk ad cA (xpA w a i.toNatClampNeg (some q)) H1 locs1 cells slots ls L st' b (hI.upd (a := a) rfl rfl (fun q hq => xcell_pA hq) hE hV hP1 hD1 hS1) (hL.grow (Nat.le_refl _) (fun _ _ => rfl)) (xs_grow (Nat.le_refl _) (xs_tl (xs_tl (xs_tl hs)))) hc hb h)
  · cases h

theorem xi_arraylength (cx : xCx p R s m args meth c D sad sc A id lv mc ms) (h1 : xci1 id pc (.arraylength) = true) (h2 : xci2 id pc (.arraylength) = true) (Hk : xGo (fun H locs cells slots g => W p l e R s m args below meth c H locs cells slots Q g) (xI D ad0 cA0 n0 sc A s) m sad (xmaxL id) mc ms x (pc + xilen (.arraylength)) k) : xGo (fun H locs cells slots g => W p l e R s m args below meth c H locs cells slots Q g) (xI D ad0 cA0 n0 sc A s) m sad (xmaxL id) mc ms x pc (xins J C (xown id) id lv pc (.arraylength) k) := by
  intro ad cA w H locs cells slots ls L st b hI hL hs hc hb h
  obtain ⟨hx, hcc, hr, hml, hown, hts, hlk, hK, hin, hst, hA, hRf, hRl, hRc, hRs, hN⟩ := cx
  have hd := xdec h1 rfl
  dsimp only [xins] at h
  split at h
  · rename_i t st'
    obtain ⟨hg, h⟩ := xg_some h
    have ht : t = 4 := eq_of_beq hg
    subst ht
    rw [hI.2.2.2.2.2.1] at h
    exact va_tlen hx hcc hst.2.2.2.1 hI.2.2.2.2.1 (xofN _) hd (Hk ad cA w H locs cells slots ls L (.int (iI sc.1) :: st') b hI hL (xs_cons trivial (xs_tl hs)) hc hb h)
  · rename_i v st' hne
    obtain ⟨a, rfl, h⟩ := xde_some h
    obtain ⟨hg, h⟩ := xg_some h
    have h0 : 0 < xak a := Nat.le_of_ble_eq_true hg
    have hlt : a < xn w := xs_hd hs
    have hAr := hI.2.2.1 a hlt (by omega)
    have hc : ∃ z : vp_A, xcell ad cA w a = .inl (cA a, z) ∧ z.1 = xln w a := by
      unfold xcell
      split
      · omega
      · exact ⟨_, rfl, rfl⟩
      · exact ⟨_, rfl, rfl⟩
      · exact ⟨_, rfl, rfl⟩
    obtain ⟨z, hz, hz1⟩ := hc
    exact va_alen (D := D) hx hcc (xKa hK hAr) hI.1 a 0 (by rw [xws_at hlt, hz]) rfl (by rw [hz1]; exact xofN _) hd (Hk ad cA w H locs cells slots ls L (.int (iI (xln w a)) :: st') b hI hL (xs_cons trivial (xs_tl hs)) hc hb h)
  · cases h

theorem xI.push {ad : Nat → Nat} {cA : Nat → ClassId} {w : XW} {H : Heap} {locs : List Loc} (hI : xI D ad0 cA0 n0 sc A s ad cA w H locs) {w' : XW} {q : Nat} {ca : ClassId} {E : va_E} {H1 : Heap} (hn : xn w' = xn w + 1) (hsc : xSc w' = xSc w)
    (ho : ∀ a, a < xn w → xcell (va_up ad (xn w) q) (va_up cA (xn w) ca) w' a = xcell ad cA w a) (hE : xcell (va_up ad (xn w) q) (va_up cA (xn w) ca) w' (xn w) = E) (hv : xVR w') (hAr : xak (xn w) ≠ 0 → ArrOfT s ca (xtyp (xak (xn w))) ∧ va_RA s ca (xtyp (xak (xn w))))
    (hP : va_P D vwCl (xws ad cA w ++ [(q, E)]) H1) (hD : va_D A (xws ad cA w ++ [(q, E)])) (hS : va_S A s.heap H1 locs) :
    xI D ad0 cA0 n0 sc A s (va_up ad (xn w) q) (va_up cA (xn w) ca) w' H1 locs := by
  obtain ⟨-, -, h3, h4, -, h6, h7, h8⟩ := hI
  have e : xws ad cA w ++ [(q, E)] = xws (va_up ad (xn w) q) (va_up cA (xn w) ca) w' := xws_push hn (fun a ha => ⟨if_neg (by omega), ho a ha⟩) (if_pos rfl) hE
  rw [e] at hP hD
  refine ⟨hP, hD, fun a ha h0 => ?_, hv, hS, by rw [hsc]; exact h6, by omega, fun a ha => ?_⟩
  · by_cases ea : a = xn w
    · subst ea
      have : va_up cA (xn w) ca (xn w) = ca := if_pos rfl
      rw [this]
      exact hAr h0
    · have : va_up cA (xn w) ca a = cA a := if_neg ea
      rw [this]
      exact h3 a (by omega) h0
  · have e1 : va_up ad (xn w) q a = ad a := if_neg (by omega)
    have e2 : va_up cA (xn w) ca a = cA a := if_neg (by omega)
    rw [e1, e2]
    exact h8 a ha

theorem xmap_up {ad : Nat → Nat} {n q : Nat} {r : Option Nat} (h : ∀ z, r = some z → z < n) : r.map (va_up ad n q) = r.map ad := by
  cases r with
  | none => rfl
  | some z =>
    have := h z rfl
    have e1 : va_up ad n q z = ad z := if_neg (by omega)
    show some (va_up ad n q z) = some (ad z)
    rw [e1]
theorem xcell_mO {ad : Nat → Nat} {cA : Nat → ClassId} {w : XW} {q : Nat} {ca : ClassId} {a : Nat} (hv : xVR w) (h : a < xn w) : xcell (va_up ad (xn w) q) (va_up cA (xn w) ca) (xmO w) a = xcell ad cA w a := by
  have e1 : xIF (xmO w) a = xIF w a := if_neg (Nat.ne_of_lt h)
  have e2 : xRF (xmO w) a = xRF w a := if_neg (Nat.ne_of_lt h)
  have e3 : va_up cA (xn w) ca a = cA a := if_neg (by omega)
  have e4 : ∀ f, (xRF w a f).map (va_up ad (xn w) q) = (xRF w a f).map ad := fun f => xmap_up (fun z hz => hv.1 _ _ _ hz)
  have e5 : ∀ j, (xRA w a j).map (va_up ad (xn w) q) = (xRA w a j).map ad := fun f => xmap_up (fun z hz => hv.2 _ _ _ hz)
  have e6 : xRA (xmO w) a = xRA w a := rfl
  unfold xcell xfs xfv
  rw [e1, e2, e3, e6]
  simp only [e4, e5]
  rfl
theorem xln_mA {w : XW} {N a : Nat} (h : a ≠ xn w) : xln (xmA w N) a = xln w a := by
  unfold xln
  split
  · rfl
  · exact if_neg h
theorem xcell_mA {ad : Nat → Nat} {cA : Nat → ClassId} {w : XW} {q : Nat} {ca : ClassId} {a N : Nat} (hv : xVR w) (h : a < xn w) : xcell (va_up ad (xn w) q) (va_up cA (xn w) ca) (xmA w N) a = xcell ad cA w a := by
  have e1 : xIA (xmA w N) a = xIA w a := if_neg (Nat.ne_of_lt h)
  have e2 : xLA (xmA w N) a = xLA w a := if_neg (Nat.ne_of_lt h)
  have e3 : va_up cA (xn w) ca a = cA a := if_neg (by omega)
  have e4 : ∀ f, (xRF w a f).map (va_up ad (xn w) q) = (xRF w a f).map ad := fun f => xmap_up (fun z hz => hv.1 _ _ _ hz)
  have e5 : ∀ j, (xRA w a j).map (va_up ad (xn w) q) = (xRA w a j).map ad := fun f => xmap_up (fun z hz => hv.2 _ _ _ hz)
  have e6 : xRA (xmA w N) a = xRA w a := if_neg (Nat.ne_of_lt h)
  have e7 : xRF (xmA w N) = xRF w := rfl
  have e8 : xIF (xmA w N) = xIF w := rfl
  unfold xcell xfs xfv
  rw [e1, e2, e3, e6, e7, e8, xln_mA (by omega)]
  simp only [e4, e5]
theorem xVR_mO {w : XW} (h : xVR w) : xVR (xmO w) := by
  have e : xRF (xmO w) = va_up (xRF w) (xn w) (fun _ => none) := rfl
  have en : xn (xmO w) = xn w + 1 := rfl
  refine ⟨fun a f q hq => ?_, fun a j q hq => ?_⟩
  · rw [e] at hq
    unfold va_up at hq
    split at hq
    · cases hq
    · have := h.1 _ _ _ hq; omega
  · have := h.2 a j q hq; omega
theorem xVR_mA {w : XW} {N : Nat} (h : xVR w) : xVR (xmA w N) := by
  have e : xRA (xmA w N) = va_up (xRA w) (xn w) (fun _ => none) := rfl
  have en : xn (xmA w N) = xn w + 1 := rfl
  refine ⟨fun a f q hq => ?_, fun a j q hq => ?_⟩
  · have := h.1 a f q hq; omega
  · rw [e] at hq
    unfold va_up at hq
    split at hq
    · cases hq
    · have := h.2 _ _ _ hq; omega
theorem xln_new {w : XW} {N : Nat} (h : xlok (xn w) N = true) : xln (xmA w N) (xn w) = N := by
  unfold xlok at h
  unfold xln
  split
  · rename_i k hk
    rw [hk] at h
    exact eq_of_beq h
  · exact if_pos rfl

theorem xi_new {idx : Nat} (cx : xCx p R s m args meth c D sad sc A id lv mc ms) (h1 : xci1 id pc (.new idx) = true) (h2 : xci2 id pc (.new idx) = true) (Hk : xGo (fun H locs cells slots g => W p l e R s m args below meth c H locs cells slots Q g) (xI D ad0 cA0 n0 sc A s) m sad (xmaxL id) mc ms x (pc + xilen (.new idx)) k) : xGo (fun H locs cells slots g => W p l e R s m args below meth c H locs cells slots Q g) (xI D ad0 cA0 n0 sc A s) m sad (xmaxL id) mc ms x pc (xins J C (xown id) id lv pc (.new idx) k) := by
  intro ad cA w H locs cells slots ls L st b hI hL hs hc hb h
  obtain ⟨hx, hcc, hr, hml, hown, hts, hlk, hK, hin, hst, hA, hRf, hRl, hRc, hRs, hN⟩ := cx
  have hd := xdec h1 rfl
  dsimp only [xins] at h
  split at h
  · rename_i ci N hw
    obtain ⟨hg, h⟩ := xg_some h
    simp only [Bool.and_eq_true] at hg
    obtain ⟨⟨hg1, hg2⟩, hg3⟩ := hg
    have hb1 : 0 < b.1 := Nat.le_of_ble_eq_true hg2
    have hb2 : N ≤ b.2 := Nat.le_of_ble_eq_true hg3
    obtain ⟨hc8, rfl, hl1, hl2, hl3⟩ := xnw_ok hw
    obtain ⟨hcls, hak⟩ := xak_cls hg1 hc8
    have hfs : ∀ j, j < xNf ci → defaultValue (xty ci j) = vp_V (xfs ad (xmO w) (xn w) ci) j := by
      intro j hj
      unfold vp_V
      rw [List.getD_eq_getElem?_getD, xfs_at hj]
      have e1 : xIF (xmO w) (xn w) = fun _ => 0 := if_pos rfl
      have e2 : xRF (xmO w) (xn w) = fun _ => none := if_pos rfl
      unfold xfv
      cases hi : xfint ci j with
      | true => rw [xft_int hc8 hj hi, e1]; rfl
      | false => rw [(xft_ref hc8 hj hi 0).2.2, e2]; rfl
    refine va_new (D := D) hx hcc hts (xcl_in0 ci hc8) (xty ci) (xcl_ty0 ci hc8) hown (hts _ hl1) (hts _ hl2) (hts _ hl3) hK hI.1 hI.2.1 hI.2.2.2.2.1 hA (xcl_at hc8) hfs (by omega) (by omega) hd (fun q H1 hP1 hD1 hS1 => ?_)
    have e2 : xRF (xmO w) (xn w) = fun _ => none := if_pos rfl
    have hE : xcell (va_up ad (xn w) q) (va_up cA (xn w) (cA 0)) (xmO w) (xn w) = .inr (ci, xfs ad (xmO w) (xn w) ci) := by
      rw [xcell_obj hcls hak]
      unfold xfs xfv
      rw [e2]
      rfl
    have hI' := hI.push (w' := xmO w) (q := q) (ca := cA 0) rfl rfl (fun a ha => xcell_mO hI.2.2.2.1 ha) hE (xVR_mO hI.2.2.2.1) (fun z => absurd hak z) hP1 hD1 hS1
    rw [xs_map (ad' := va_up ad (xn w) q) (fun a ha => if_neg (Nat.ne_of_lt ha)) hs]
    have hk := Hk _ _ (xmO w) H1 locs (cells + 1) (slots + xNf ci) ls L (.ref (xn w) :: st) (b.1 - 1, b.2 - xNf ci) hI' (hL.grow (Nat.le_succ _) (fun a ha => if_neg (Nat.ne_of_lt ha))) (xs_cons (Nat.lt_succ_self _) (xs_grow (Nat.le_succ _) hs)) (by show cells + 1 + (b.1 - 1) = mc; omega) (by show slots + xNf ci + (b.2 - xNf ci) = ms; omega) h
    have e : xv (va_up ad (xn w) q) sad (.ref (xn w)) = .ref q := by show Value.ref (va_up ad (xn w) q (xn w)) = _; rw [show va_up ad (xn w) q (xn w) = q from if_pos rfl]
    rw [List.map_cons, e] at hk
    exact hk
  · cases h

theorem xi_newarray {t : ArrayType} (cx : xCx p R s m args meth c D sad sc A id lv mc ms) (h1 : xci1 id pc (.newarray t) = true) (h2 : xci2 id pc (.newarray t) = true) (Hk : xGo (fun H locs cells slots g => W p l e R s m args below meth c H locs cells slots Q g) (xI D ad0 cA0 n0 sc A s) m sad (xmaxL id) mc ms x (pc + xilen (.newarray t)) k) : xGo (fun H locs cells slots g => W p l e R s m args below meth c H locs cells slots Q g) (xI D ad0 cA0 n0 sc A s) m sad (xmaxL id) mc ms x pc (xins J C (xown id) id lv pc (.newarray t) k) := by
  intro ad cA w H locs cells slots ls L st b hI hL hs hc hb h
  obtain ⟨hx, hcc, hr, hml, hown, hts, hlk, hK, hin, hst, hA, hRf, hRl, hRc, hRs, hN⟩ := cx
  have hd := xdec h1 rfl
  dsimp only [xins] at h
  split at h
  · rename_i n st'
    have hg := (xg_some h).1
    replace h := (xg_some h).2
    unfold xnok at hg
    simp only [Bool.and_eq_true] at hg
    obtain ⟨⟨⟨⟨hg1, hg2⟩, hg3⟩, hg4⟩, hg5⟩ := hg
    have hb1 : 0 < b.1 := Nat.le_of_ble_eq_true hg3
    have hb2 : n.toNatClampNeg ≤ b.2 := Nat.le_of_ble_eq_true hg4
    have hn0 : ¬ n < 0 := fun z => xvp hg2 (Or.inl z)
    have hn1 : n.toNatClampNeg < 65536 := Nat.not_le.mp (fun z => xvp hg2 (Or.inr z))
    have hmem : Cond.arrayClass (newarray.typeOf t) ∈ xtb := by
      simp only [xci2, Bool.and_eq_true] at h2
      exact xmem_in h2.1
    cases t with
    | int =>
      have hak : xak (xn w) = 1 := eq_of_beq hg1
      have hby : n.toNatClampNeg * componentBytes .int ≤ 536870912 := Nat.le_trans (Nat.mul_le_mul (Nat.le_of_lt hn1) (show componentBytes .int ≤ 8 by decide)) (by decide)
      refine va_newa (D := D) (tys := []) (ty := .int) (a0 := (n.toNatClampNeg, .inl (fun _ => 0))) hx hcc (hts _ hmem) rfl hK hI.1 hI.2.1 hI.2.2.2.2.1 hA (fun _ => rfl) hn0 rfl hby (by omega) (by omega) hd (fun q ca H1 hK1 hP1 hD1 hS1 => ?_)
      have hE : xcell (va_up ad (xn w) q) (va_up cA (xn w) ca) (xmA w n.toNatClampNeg) (xn w) = .inl (ca, (n.toNatClampNeg, .inl (fun _ => 0))) := by
        rw [xcell_i hak, xln_new hg5]
        have e1 : xIA (xmA w n.toNatClampNeg) (xn w) = fun _ => 0 := if_pos rfl
        have e2 : va_up cA (xn w) ca (xn w) = ca := if_pos rfl
        rw [e1, e2]
      have hI' := hI.push (w' := xmA w n.toNatClampNeg) (q := q) (ca := ca) rfl rfl (fun a ha => xcell_mA hI.2.2.2.1 ha) hE (xVR_mA hI.2.2.2.1) (fun _ => by rw [hak]; exact hK1.2 0 _ rfl) hP1 hD1 hS1
      rw [xs_map (ad' := va_up ad (xn w) q) (fun a ha => if_neg (Nat.ne_of_lt ha)) (xs_tl hs)]
      have hk := Hk _ _ (xmA w n.toNatClampNeg) H1 locs (cells + 1) (slots + n.toNatClampNeg) ls L (.ref (xn w) :: st') (b.1 - 1, b.2 - n.toNatClampNeg) hI' (hL.grow (Nat.le_succ _) (fun a ha => if_neg (Nat.ne_of_lt ha))) (xs_cons (Nat.lt_succ_self _) (xs_grow (Nat.le_succ _) (xs_tl hs))) (by show cells + 1 + (b.1 - 1) = mc; omega) (by show slots + n.toNatClampNeg + (b.2 - n.toNatClampNeg) = ms; omega) h
      have e : xv (va_up ad (xn w) q) sad (.ref (xn w)) = .ref q := by show Value.ref (va_up ad (xn w) q (xn w)) = _; rw [show va_up ad (xn w) q (xn w) = q from if_pos rfl]
      rw [List.map_cons, e] at hk
      exact hk
    | boolean =>
      have hak : xak (xn w) = 2 := eq_of_beq hg1
      have hby : n.toNatClampNeg * componentBytes .boolean ≤ 536870912 := Nat.le_trans (Nat.mul_le_mul (Nat.le_of_lt hn1) (show componentBytes .boolean ≤ 8 by decide)) (by decide)
      refine va_newa (D := D) (tys := []) (ty := .boolean) (a0 := (n.toNatClampNeg, .inl (fun _ => 0))) hx hcc (hts _ hmem) rfl hK hI.1 hI.2.1 hI.2.2.2.2.1 hA (fun _ => rfl) hn0 rfl hby (by omega) (by omega) hd (fun q ca H1 hK1 hP1 hD1 hS1 => ?_)
      have hE : xcell (va_up ad (xn w) q) (va_up cA (xn w) ca) (xmA w n.toNatClampNeg) (xn w) = .inl (ca, (n.toNatClampNeg, .inl (fun _ => 0))) := by
        rw [xcell_z hak, xln_new hg5]
        have e1 : xIA (xmA w n.toNatClampNeg) (xn w) = fun _ => 0 := if_pos rfl
        have e2 : va_up cA (xn w) ca (xn w) = ca := if_pos rfl
        rw [e1, e2]
      have hI' := hI.push (w' := xmA w n.toNatClampNeg) (q := q) (ca := ca) rfl rfl (fun a ha => xcell_mA hI.2.2.2.1 ha) hE (xVR_mA hI.2.2.2.1) (fun _ => by rw [hak]; exact hK1.2 0 _ rfl) hP1 hD1 hS1
      rw [xs_map (ad' := va_up ad (xn w) q) (fun a ha => if_neg (Nat.ne_of_lt ha)) (xs_tl hs)]
      have hk := Hk _ _ (xmA w n.toNatClampNeg) H1 locs (cells + 1) (slots + n.toNatClampNeg) ls L (.ref (xn w) :: st') (b.1 - 1, b.2 - n.toNatClampNeg) hI' (hL.grow (Nat.le_succ _) (fun a ha => if_neg (Nat.ne_of_lt ha))) (xs_cons (Nat.lt_succ_self _) (xs_grow (Nat.le_succ _) (xs_tl hs))) (by show cells + 1 + (b.1 - 1) = mc; omega) (by show slots + n.toNatClampNeg + (b.2 - n.toNatClampNeg) = ms; omega) h
      have e : xv (va_up ad (xn w) q) sad (.ref (xn w)) = .ref q := by show Value.ref (va_up ad (xn w) q (xn w)) = _; rw [show va_up ad (xn w) q (xn w) = q from if_pos rfl]
      rw [List.map_cons, e] at hk
      exact hk
    | long =>
      have hak : xak (xn w) = 3 := eq_of_beq hg1
      have hby : n.toNatClampNeg * componentBytes .long ≤ 536870912 := Nat.le_trans (Nat.mul_le_mul (Nat.le_of_lt hn1) (show componentBytes .long ≤ 8 by decide)) (by decide)
      refine va_newa (D := D) (tys := []) (ty := .long) (a0 := (n.toNatClampNeg, .inr (.inl (fun _ => 0)))) hx hcc (hts _ hmem) rfl hK hI.1 hI.2.1 hI.2.2.2.2.1 hA (fun _ => rfl) hn0 rfl hby (by omega) (by omega) hd (fun q ca H1 hK1 hP1 hD1 hS1 => ?_)
      have hE : xcell (va_up ad (xn w) q) (va_up cA (xn w) ca) (xmA w n.toNatClampNeg) (xn w) = .inl (ca, (n.toNatClampNeg, .inr (.inl (fun _ => 0)))) := by
        rw [xcell_l hak, xln_new hg5]
        have e1 : xLA (xmA w n.toNatClampNeg) (xn w) = fun _ => 0 := if_pos rfl
        have e2 : va_up cA (xn w) ca (xn w) = ca := if_pos rfl
        rw [e1, e2]
      have hI' := hI.push (w' := xmA w n.toNatClampNeg) (q := q) (ca := ca) rfl rfl (fun a ha => xcell_mA hI.2.2.2.1 ha) hE (xVR_mA hI.2.2.2.1) (fun _ => by rw [hak]; exact hK1.2 0 _ rfl) hP1 hD1 hS1
      rw [xs_map (ad' := va_up ad (xn w) q) (fun a ha => if_neg (Nat.ne_of_lt ha)) (xs_tl hs)]
      have hk := Hk _ _ (xmA w n.toNatClampNeg) H1 locs (cells + 1) (slots + n.toNatClampNeg) ls L (.ref (xn w) :: st') (b.1 - 1, b.2 - n.toNatClampNeg) hI' (hL.grow (Nat.le_succ _) (fun a ha => if_neg (Nat.ne_of_lt ha))) (xs_cons (Nat.lt_succ_self _) (xs_grow (Nat.le_succ _) (xs_tl hs))) (by show cells + 1 + (b.1 - 1) = mc; omega) (by show slots + n.toNatClampNeg + (b.2 - n.toNatClampNeg) = ms; omega) h
      have e : xv (va_up ad (xn w) q) sad (.ref (xn w)) = .ref q := by show Value.ref (va_up ad (xn w) q (xn w)) = _; rw [show va_up ad (xn w) q (xn w) = q from if_pos rfl]
      rw [List.map_cons, e] at hk
      exact hk
    | _ =>
      simp only [xci2, Bool.and_eq_true] at h2
      exact absurd h2.2 (by decide)
  · cases h

theorem xi_anewarray {idx : Nat} (cx : xCx p R s m args meth c D sad sc A id lv mc ms) (h1 : xci1 id pc (.anewarray idx) = true) (h2 : xci2 id pc (.anewarray idx) = true) (Hk : xGo (fun H locs cells slots g => W p l e R s m args below meth c H locs cells slots Q g) (xI D ad0 cA0 n0 sc A s) m sad (xmaxL id) mc ms x (pc + xilen (.anewarray idx)) k) : xGo (fun H locs cells slots g => W p l e R s m args below meth c H locs cells slots Q g) (xI D ad0 cA0 n0 sc A s) m sad (xmaxL id) mc ms x pc (xins J C (xown id) id lv pc (.anewarray idx) k) := by
  intro ad cA w H locs cells slots ls L st b hI hL hs hc hb h
  obtain ⟨hx, hcc, hr, hml, hown, hts, hlk, hK, hin, hst, hA, hRf, hRl, hRc, hRs, hN⟩ := cx
  have hd := xdec h1 rfl
  dsimp only [xins] at h
  split at h
  · rename_i n st'
    have hg := (xg_some h).1
    replace h := (xg_some h).2
    unfold xnok at hg
    simp only [Bool.and_eq_true] at hg
    obtain ⟨⟨⟨⟨hg1, hg2⟩, hg3⟩, hg4⟩, hg5⟩ := hg
    have hb1 : 0 < b.1 := Nat.le_of_ble_eq_true hg3
    have hb2 : n.toNatClampNeg ≤ b.2 := Nat.le_of_ble_eq_true hg4
    have hn0 : ¬ n < 0 := fun z => xvp hg2 (Or.inl z)
    have hn1 : n.toNatClampNeg < 65536 := Nat.not_le.mp (fun z => xvp hg2 (Or.inr z))
    have hak : xak (xn w) = 4 := eq_of_beq hg1
    refine va_newq (D := D) (tys := []) hx hcc hown (hts _ (xmem_in h2)) hst.2.2.2.2 hK hI.1 hI.2.1 hI.2.2.2.2.1 hA hn0 rfl (by omega) (by omega) (by omega) hd (fun q ca H1 hK1 hP1 hD1 hS1 => ?_)
    have hE : xcell (va_up ad (xn w) q) (va_up cA (xn w) ca) (xmA w n.toNatClampNeg) (xn w) = .inl (ca, n.toNatClampNeg, .inr (.inr (.inr (.inr (fun _ => none))))) := by
      rw [xcell_q hak, xln_new hg5]
      have e1 : xRA (xmA w n.toNatClampNeg) (xn w) = fun _ => none := if_pos rfl
      have e2 : va_up cA (xn w) ca (xn w) = ca := if_pos rfl
      rw [e1, e2]
      rfl
    have hI' := hI.push (w' := xmA w n.toNatClampNeg) (q := q) (ca := ca) rfl rfl (fun a ha => xcell_mA hI.2.2.2.1 ha) hE (xVR_mA hI.2.2.2.1) (fun _ => by rw [hak]; exact hK1.2 0 _ rfl) hP1 hD1 hS1
    rw [xs_map (ad' := va_up ad (xn w) q) (fun a ha => if_neg (Nat.ne_of_lt ha)) (xs_tl hs)]
    have hk := Hk _ _ (xmA w n.toNatClampNeg) H1 locs (cells + 1) (slots + n.toNatClampNeg) ls L (.ref (xn w) :: st') (b.1 - 1, b.2 - n.toNatClampNeg) hI' (hL.grow (Nat.le_succ _) (fun a ha => if_neg (Nat.ne_of_lt ha))) (xs_cons (Nat.lt_succ_self _) (xs_grow (Nat.le_succ _) (xs_tl hs))) (by show cells + 1 + (b.1 - 1) = mc; omega) (by show slots + n.toNatClampNeg + (b.2 - n.toNatClampNeg) = ms; omega) h
    have e : xv (va_up ad (xn w) q) sad (.ref (xn w)) = .ref q := by show Value.ref (va_up ad (xn w) q (xn w)) = _; rw [show va_up ad (xn w) q (xn w) = q from if_pos rfl]
    rw [List.map_cons, e] at hk
    exact hk
  · cases h

end XINS2
end
section
def xmI : List (Nat × Nat × Nat × Nat) := [(135, 95, 134, 0), (258, 95, 257, 0), (266, 95, 265, 1), (271, 95, 270, 2), (300, 95, 299, 8), (279, 95, 278, 3), (283, 95, 282, 4), (287, 95, 286, 5), (291, 95, 290, 6), (296, 95, 295, 7), (307, 95, 306, 9), (319, 95, 318, 11), (323, 95, 322, 12), (217, 99, 216, 0), (623, 99, 622, 52), (635, 99, 634, 55), (641, 99, 640, 56), (645, 99, 644, 57), (195, 98, 194, 0), (386, 98, 385, 20), (424, 98, 423, 27), (631, 98, 630, 54), (398, 98, 397, 23), (428, 98, 427, 28), (394, 98, 393, 22), (402, 98, 401, 24), (406, 98, 405, 25), (390, 98, 389, 21), (416, 98, 415, 26), (151, 96, 150, 0), (480, 96, 479, 33), (522, 96, 521, 41), (526, 96, 525, 42), (488, 96, 487, 35), (484, 96, 483, 34), (157, 97, 156, 0), (492, 97, 491, 36), (510, 97, 509, 39), (499, 97, 498, 37), (506, 97, 505, 38), (117, 94, 116, 0), (347, 94, 346, 16), (339, 94, 338, 14), (360, 94, 359, 17), (514, 94, 513, 40), (368, 94, 367, 18), (343, 94, 342, 15), (378, 94, 377, 19), (440, 94, 439, 30), (436, 94, 435, 29), (445, 94, 444, 31), (449, 94, 448, 32), (563, 94, 562, 45), (571, 94, 570, 46), (591, 94, 590, 48), (582, 94, 581, 47), (303, 94, 302, 0), (600, 94, 599, 49), (612, 94, 611, 51), (549, 94, 548, 44), (608, 94, 607, 50), (327, 94, 326, 13), (108, 93, 107, 0), (248, 93, 246, 247), (262, 93, 260, 261), (275, 93, 273, 274), (311, 93, 309, 310), (331, 93, 329, 330), (335, 93, 333, 334), (351, 93, 349, 350), (356, 93, 354, 355), (364, 93, 362, 363), (374, 93, 372, 373), (382, 93, 380, 381), (420, 93, 418, 419), (432, 93, 430, 431), (453, 93, 451, 452), (458, 93, 456, 457), (465, 93, 463, 464), (472, 93, 470, 471), (476, 93, 474, 475), (518, 93, 516, 517), (531, 93, 529, 530), (541, 93, 539, 540), (555, 93, 553, 554), (559, 93, 557, 558), (567, 93, 565, 566), (578, 93, 576, 577), (587, 93, 585, 586), (596, 93, 594, 595), (604, 93, 602, 603), (619, 93, 617, 618), (627, 93, 626, 53), (315, 93, 314, 10), (545, 93, 544, 43), (251, 93, 250, 0), (254, 93, 253, 0), (468, 93, 467, 0), (534, 93, 533, 0), (650, 100, 649, 0), (733, 100, 732, 0), (730, 100, 729, 62), (758, 100, 757, 66), (742, 100, 741, 64), (698, 100, 696, 697), (702, 100, 700, 701), (714, 100, 713, 59), (722, 100, 721, 61), (710, 100, 709, 58), (718, 100, 717, 60), (706, 100, 704, 705), (726, 100, 724, 725), (738, 100, 737, 63), (746, 100, 744, 745), (754, 100, 753, 65), (750, 100, 748, 749), (766, 100, 765, 67), (762, 100, 760, 761), (774, 100, 773, 68), (777, 100, 776, 0), (770, 100, 768, 769), (789, 100, 788, 70), (785, 100, 784, 69), (781, 100, 779, 780), (797, 100, 796, 71), (793, 100, 791, 792), (812, 100, 811, 0), (809, 100, 808, 73), (824, 100, 823, 76), (820, 100, 819, 75), (816, 100, 815, 74), (805, 100, 804, 72), (801, 100, 799, 800), (828, 100, 826, 827), (840, 100, 839, 78), (836, 100, 835, 77), (832, 100, 830, 831), (844, 100, 842, 843), (860, 100, 859, 0), (887, 100, 886, 0), (857, 100, 856, 80), (864, 100, 863, 81), (853, 100, 852, 79), (848, 100, 846, 847), (868, 100, 866, 867), (872, 100, 870, 871), (890, 100, 889, 0), (884, 100, 883, 83), (880, 100, 879, 82), (876, 100, 874, 875), (898, 100, 897, 84), (902, 100, 901, 85), (906, 100, 905, 86), (894, 100, 892, 893), (910, 100, 908, 909), (926, 100, 925, 88), (920, 100, 919, 87), (916, 100, 914, 915), (930, 100, 928, 929), (934, 100, 932, 933), (938, 100, 936, 937), (947, 100, 946, 89), (951, 100, 950, 90), (943, 100, 941, 942), (955, 100, 953, 954), (966, 100, 965, 91), (962, 100, 960, 961), (970, 100, 968, 969), (974, 100, 972, 973), (958, 102, 957, 0), (574, 101, 573, 0), (502, 101, 501, 0), (495, 101, 494, 0)]
def xclI : List (List (Nat × (Nat × Bool))) := [[(22, (267, true)), (26, (280, false)), (30, (288, false)), (33, (284, false)), (37, (292, false)), (40, (293, false)), (43, (304, false)), (46, (297, false)), (50, (301, true)), (56, (320, false)), (59, (324, true))], [], [(24, (387, false)), (28, (391, false)), (32, (413, false)), (36, (395, false)), (40, (425, false)), (50, (399, false)), (63, (412, true)), (67, (403, false)), (71, (407, true))], [(21, (155, true)), (32, (481, false)), (36, (511, true)), (40, (485, false)), (44, (489, true)), (48, (523, false)), (55, (527, true)), (58, (507, true))], [(28, (493, false)), (37, (496, false)), (41, (503, false)), (45, (500, false))], [(19, (340, false)), (23, (369, true)), (27, (344, false)), (31, (441, false)), (34, (437, false)), (38, (442, false)), (42, (446, false)), (46, (572, false)), (52, (592, false)), (55, (583, false)), (65, (550, false)), (68, (551, false))], [(15, (115, true)), (22, (133, true)), (29, (149, true)), (36, (193, true)), (43, (215, true)), (48, (249, false)), (52, (255, true)), (56, (263, true)), (60, (268, true)), (64, (276, true)), (68, (312, false)), (72, (316, true)), (80, (252, false)), (84, (336, true)), (88, (352, true)), (91, (357, true)), (94, (365, true)), (98, (370, true)), (102, (375, true)), (105, (383, true)), (109, (421, true)), (113, (433, true)), (116, (454, true)), (125, (466, false)), (129, (477, true)), (133, (519, true)), (137, (532, false)), (145, (542, false)), (148, (546, true)), (152, (560, true)), (156, (568, true)), (159, (579, true)), (162, (588, true)), (165, (597, true)), (169, (605, true)), (173, (609, true)), (176, (620, true)), (179, (624, false)), (182, (628, true)), (185, (642, true)), (189, (632, true)), (193, (638, true))], [(46, (731, false)), (53, (711, false)), (57, (707, false)), (61, (715, false)), (64, (719, false)), (68, (727, false)), (71, (734, false)), (74, (735, false)), (77, (739, false)), (81, (751, false)), (85, (755, false)), (88, (763, false)), (91, (771, false)), (94, (775, false)), (97, (782, false)), (101, (786, false)), (104, (794, false)), (107, (810, false)), (117, (817, false)), (121, (821, false)), (125, (806, false)), (128, (813, false)), (131, (802, false)), (134, (833, false)), (138, (837, false)), (142, (858, false)), (145, (861, false)), (149, (854, false)), (155, (850, false)), (159, (885, false)), (162, (881, false)), (165, (888, false)), (168, (877, false)), (171, (899, false)), (174, (903, false)), (177, (895, false)), (185, (921, false)), (190, (922, false)), (193, (923, false)), (197, (917, false)), (201, (939, false)), (204, (944, false)), (207, (948, false)), (210, (956, false)), (215, (963, false))], [(9, (106, false)), (12, (648, false)), (13, (245, false)), (17, (695, false)), (18, (259, false)), (22, (699, false)), (23, (272, false)), (27, (703, false)), (28, (308, false)), (32, (723, false)), (33, (328, false)), (37, (743, false)), (38, (332, false)), (42, (747, false)), (43, (348, false)), (46, (759, false)), (47, (353, false)), (50, (767, false)), (51, (361, false)), (55, (778, false)), (56, (371, false)), (59, (790, false)), (60, (379, false)), (64, (798, false)), (65, (417, false)), (68, (825, false)), (69, (429, false)), (72, (829, false)), (73, (450, false)), (76, (841, false)), (77, (455, false)), (81, (845, false)), (82, (462, false)), (86, (865, false)), (87, (469, false)), (90, (869, false)), (91, (473, false)), (94, (873, false)), (97, (515, false)), (101, (891, false)), (102, (528, false)), (106, (907, false)), (107, (538, false)), (110, (913, false)), (111, (552, false)), (114, (927, false)), (115, (556, false)), (118, (931, false)), (119, (564, false)), (122, (935, false)), (123, (575, false)), (127, (940, false)), (128, (584, false)), (131, (952, false)), (132, (593, false)), (135, (959, false)), (136, (601, false)), (139, (967, false)), (140, (616, false)), (143, (971, false))], [], []]
/-! ===== calls: what the tables say; words by their places, compared by rfl ===== -/
def xmi (d : Nat) : Nat × Nat × Nat × Nat := xmI.getD d (0, 0, 0, 0)
theorem xpl {α : Type} {N : Nat} {f : Nat → Option α} {g : Nat → α} (h : (List.range N).map f = (List.range N).map (fun d => some (g d))) {d : Nat} (hd : d < N) : f d = some (g d) := by
  have := congrArg (fun l => l[d]?) h
  simpa [List.getElem?_map, List.getElem?_range hd] using this
theorem xpi {w : Cond} {i : Nat} (h : lw_tbl[i]? = some w) (hg : goodWord w = true) : w ∈ xtb := List.mem_filter.mpr ⟨List.mem_of_getElem? h, hg⟩
set_option maxRecDepth 200000 in
theorem xt_code : (List.range 173).map (fun d => lw_tbl[(xmi d).1]?) = (List.range 173).map (fun d => some (.code (xy d) (xby d) (xmaxL d) (xret d))) := by rfl
set_option maxRecDepth 200000 in
theorem xt_ini : (List.range 173).map (fun d => lw_tbl[(xmi d).2.1]?) = (List.range 173).map (fun d => some (.initialized (xy d).cls)) := by rfl
def xw3 (d : Nat) : Cond := match xkd d with
  | 1 => .static (xy d)
  | _ => .instanceMethod (xy d)
set_option maxRecDepth 200000 in
theorem xt_kd : (List.range 173).map (fun d => lw_tbl[(xmi d).2.2.1]?) = (List.range 173).map (fun d => some (xw3 d)) := by rfl
def xs4 (d : Nat) : Option Cond := match xkd d with
  | 0 => lw_tbl[(xmi d).2.2.2]?
  | _ => some (.selects (xy d).cls (xy d) (xy d))
set_option maxRecDepth 200000 in
theorem xt_sel : (List.range 173).map xs4 = (List.range 173).map (fun d => some (.selects (xy d).cls (xy d) (xy d))) := by rfl
def xmetok (d : Nat) : Bool := decide ((xy d).cls ≠ "java/lang/invoke/MethodHandle") && decide ((xy d).cls ≠ "java/lang/invoke/VarHandle") &&
  decide ((parseMethodDescriptor (xy d).desc).map (fun q => q.parameters.length) = some (xnar d)) && plainFor (xy d) && decide ((xy d).cls = xcn (xown d)) && Nat.ble (xmaxL d) 45 &&
  (match xkd d with
   | 0 => Nat.blt (xown d) 8 && Nat.blt 0 (xmaxL d)
   | 1 => true
   | 2 => decide ((xy d).name = "<init>") && Nat.blt (xown d) 8 && Nat.blt 0 (xmaxL d) && decide (xret d = none)
   | _ => false) &&
  (match xrty d with
   | 0 => decide (xret d = none)
   | 1 => decide (xret d = some .int) || decide (xret d = some .boolean)
   | 2 => decide (xret d = some .long)
   | _ => (match xret d with
     | some (.object _) => true
     | _ => false))
set_option maxRecDepth 100000 in
theorem xmet_0 : ((List.range 60).all fun q => xmetok (0 + q)) = true := by decide +kernel
set_option maxRecDepth 100000 in
theorem xmet_60 : ((List.range 60).all fun q => xmetok (60 + q)) = true := by decide +kernel
set_option maxRecDepth 100000 in
theorem xmet_120 : ((List.range 53).all fun q => xmetok (120 + q)) = true := by decide +kernel
theorem xmet_ok {d : Nat} (h : d < xLaw) : xmetok d = true := by
  have h : d < 173 := h
  have use : ∀ {a n : Nat}, ((List.range n).all fun q => xmetok (a + q)) = true → a ≤ d → d < a + n → xmetok d = true := by
    intro a n h h1 h2
    have := List.all_eq_true.mp h (d - a) (List.mem_range.mpr (by omega))
    rwa [Nat.add_sub_cancel' h1] at this
  rcases Nat.lt_or_ge d 60 with q | q
  · exact use xmet_0 (Nat.zero_le _) (by omega)
  · rcases Nat.lt_or_ge d 120 with q2 | q2
    · exact use xmet_60 q (by omega)
    · exact use xmet_120 q2 (by omega)
def xcli (c idx : Nat) : Nat × Bool := (List.lookup idx (xclI.getD c [])).getD (0, false)
def xclw (c : Nat) (e : Nat × Nat) : Cond := match (xcli c e.1).2 with
  | true => .methodLinkNest (xcn c) e.1 (xy e.2) "SignBench"
  | false => .methodLink (xcn c) e.1 (xy e.2)
set_option maxRecDepth 200000 in
theorem xt_lk : (List.range 11).map (fun c => (xcalLT.getD c []).map (fun e => lw_tbl[(xcli c e.1).1]?)) = (List.range 11).map (fun c => (xcalLT.getD c []).map (fun e => some (xclw c e))) := by rfl
theorem xcal_ok {c idx d : Nat} (h : xcalL c idx = some d) : Cond.methodLink (xcn c) idx (xy d) ∈ xtb ∨ xmemN (Cond.methodLinkNest (xcn c) idx (xy d) "SignBench") = true := by
  have hc : c < 11 := xT_len h
  have hm := xlk h
  have h1 := congrArg (fun l => l[c]?) xt_lk
  simp only [List.getElem?_map, List.getElem?_range hc, Option.map_some, Option.some.injEq] at h1
  have h2 := List.map_inj_left.mp h1 (idx, d) hm
  unfold xclw at h2
  split at h2
  · refine Or.inr ?_
    unfold xmemN
    simp only [Bool.and_eq_true, decide_eq_true_eq]
    exact ⟨rfl, List.mem_of_getElem? h2⟩
  · exact Or.inl (xpi h2 rfl)
end
