-- ===== PART A: goes FIRST, ahead of the names: the tables' words, and 'selects' of the private methods out of them =====
/-- a private method of a class that the tables say can be made, by its rows of tables_1 -/
def lw_okq (q : MethodName × Nat) : Prop := (q.1.cls ≠ "java/lang/invoke/MethodHandle" ∧ q.1.cls ≠ "java/lang/invoke/VarHandle") ∧ Cond.instantiable q.1.cls q.2 ∈ tables_1 ∧ Cond.privateMethod q.1 ∈ tables_1 ∧ Cond.instanceMethod q.1 ∈ tables_1
theorem lw_p0 : lw_okq (⟨"SignBench$Draft", "clear", "(II)V"⟩, 3) := ⟨⟨by decide +kernel, by decide +kernel⟩, List.mem_of_getElem? (i := 40) (by decide +kernel), List.mem_of_getElem? (i := 164) (by decide +kernel), List.mem_of_getElem? (i := 165) (by decide +kernel)⟩
theorem lw_p1 : lw_okq (⟨"SignBench$Draft", "has", "(II)Z"⟩, 3) := ⟨⟨by decide +kernel, by decide +kernel⟩, List.mem_of_getElem? (i := 40) (by decide +kernel), List.mem_of_getElem? (i := 172) (by decide +kernel), List.mem_of_getElem? (i := 173) (by decide +kernel)⟩
theorem lw_p2 : lw_okq (⟨"SignBench$Draft", "write", "(III)V"⟩, 3) := ⟨⟨by decide +kernel, by decide +kernel⟩, List.mem_of_getElem? (i := 40) (by decide +kernel), List.mem_of_getElem? (i := 177) (by decide +kernel), List.mem_of_getElem? (i := 178) (by decide +kernel)⟩
theorem lw_p3 : lw_okq (⟨"SignBench$Draft", "firstFault", "()I"⟩, 3) := ⟨⟨by decide +kernel, by decide +kernel⟩, List.mem_of_getElem? (i := 40) (by decide +kernel), List.mem_of_getElem? (i := 185) (by decide +kernel), List.mem_of_getElem? (i := 186) (by decide +kernel)⟩
theorem lw_p4 : lw_okq (⟨"SignBench$Draft", "firstLineFault", "()I"⟩, 3) := ⟨⟨by decide +kernel, by decide +kernel⟩, List.mem_of_getElem? (i := 40) (by decide +kernel), List.mem_of_getElem? (i := 189) (by decide +kernel), List.mem_of_getElem? (i := 190) (by decide +kernel)⟩
theorem lw_p5 : lw_okq (⟨"SignBench$Draft", "alternates", "(II)Z"⟩, 3) := ⟨⟨by decide +kernel, by decide +kernel⟩, List.mem_of_getElem? (i := 40) (by decide +kernel), List.mem_of_getElem? (i := 193) (by decide +kernel), List.mem_of_getElem? (i := 194) (by decide +kernel)⟩
theorem lw_p6 : lw_okq (⟨"SignBench$Draft", "firstCellFault", "()I"⟩, 3) := ⟨⟨by decide +kernel, by decide +kernel⟩, List.mem_of_getElem? (i := 40) (by decide +kernel), List.mem_of_getElem? (i := 197) (by decide +kernel), List.mem_of_getElem? (i := 198) (by decide +kernel)⟩
theorem lw_p7 : lw_okq (⟨"SignBench$Draft", "isCornerSum", "(II)Z"⟩, 3) := ⟨⟨by decide +kernel, by decide +kernel⟩, List.mem_of_getElem? (i := 40) (by decide +kernel), List.mem_of_getElem? (i := 202) (by decide +kernel), List.mem_of_getElem? (i := 203) (by decide +kernel)⟩
theorem lw_p8 : lw_okq (⟨"SignBench$Draft", "cell", "(II)I"⟩, 3) := ⟨⟨by decide +kernel, by decide +kernel⟩, List.mem_of_getElem? (i := 40) (by decide +kernel), List.mem_of_getElem? (i := 206) (by decide +kernel), List.mem_of_getElem? (i := 207) (by decide +kernel)⟩
theorem lw_p9 : lw_okq (⟨"SignBench$Draft", "isColumn", "(II)Z"⟩, 3) := ⟨⟨by decide +kernel, by decide +kernel⟩, List.mem_of_getElem? (i := 40) (by decide +kernel), List.mem_of_getElem? (i := 213) (by decide +kernel), List.mem_of_getElem? (i := 214) (by decide +kernel)⟩
theorem lw_p10 : lw_okq (⟨"SignBench", "tableOf", "(I)LSignBench$Table;"⟩, 6) := ⟨⟨by decide +kernel, by decide +kernel⟩, List.mem_of_getElem? (i := 13) (by decide +kernel), List.mem_of_getElem? (i := 221) (by decide +kernel), List.mem_of_getElem? (i := 222) (by decide +kernel)⟩
theorem lw_p11 : lw_okq (⟨"SignBench$Draft", "copyTo", "(LSignBench$Table;)V"⟩, 3) := ⟨⟨by decide +kernel, by decide +kernel⟩, List.mem_of_getElem? (i := 40) (by decide +kernel), List.mem_of_getElem? (i := 225) (by decide +kernel), List.mem_of_getElem? (i := 226) (by decide +kernel)⟩
theorem lw_p12 : lw_okq (⟨"SignBench$Draft", "triangleBits", "(II)I"⟩, 3) := ⟨⟨by decide +kernel, by decide +kernel⟩, List.mem_of_getElem? (i := 40) (by decide +kernel), List.mem_of_getElem? (i := 229) (by decide +kernel), List.mem_of_getElem? (i := 230) (by decide +kernel)⟩
theorem lw_p13 : lw_okq (⟨"SignBench$Table", "layRow", "(II)V"⟩, 2) := ⟨⟨by decide +kernel, by decide +kernel⟩, List.mem_of_getElem? (i := 22) (by decide +kernel), List.mem_of_getElem? (i := 233) (by decide +kernel), List.mem_of_getElem? (i := 234) (by decide +kernel)⟩
theorem lw_p14 : lw_okq (⟨"SignBench$Table", "entry", "(II)I"⟩, 2) := ⟨⟨by decide +kernel, by decide +kernel⟩, List.mem_of_getElem? (i := 22) (by decide +kernel), List.mem_of_getElem? (i := 245) (by decide +kernel), List.mem_of_getElem? (i := 246) (by decide +kernel)⟩
theorem lw_p15 : lw_okq (⟨"SignBench$Table", "edgeSum", "(ZII)I"⟩, 2) := ⟨⟨by decide +kernel, by decide +kernel⟩, List.mem_of_getElem? (i := 22) (by decide +kernel), List.mem_of_getElem? (i := 249) (by decide +kernel), List.mem_of_getElem? (i := 250) (by decide +kernel)⟩
def lw_privs_1 : List (MethodName × Nat) := [(⟨"SignBench$Draft", "clear", "(II)V"⟩, 3), (⟨"SignBench$Draft", "has", "(II)Z"⟩, 3), (⟨"SignBench$Draft", "write", "(III)V"⟩, 3), (⟨"SignBench$Draft", "firstFault", "()I"⟩, 3), (⟨"SignBench$Draft", "firstLineFault", "()I"⟩, 3), (⟨"SignBench$Draft", "alternates", "(II)Z"⟩, 3), (⟨"SignBench$Draft", "firstCellFault", "()I"⟩, 3), (⟨"SignBench$Draft", "isCornerSum", "(II)Z"⟩, 3), (⟨"SignBench$Draft", "cell", "(II)I"⟩, 3), (⟨"SignBench$Draft", "isColumn", "(II)Z"⟩, 3), (⟨"SignBench", "tableOf", "(I)LSignBench$Table;"⟩, 6), (⟨"SignBench$Draft", "copyTo", "(LSignBench$Table;)V"⟩, 3), (⟨"SignBench$Draft", "triangleBits", "(II)I"⟩, 3), (⟨"SignBench$Table", "layRow", "(II)V"⟩, 2), (⟨"SignBench$Table", "entry", "(II)I"⟩, 2), (⟨"SignBench$Table", "edgeSum", "(ZII)I"⟩, 2)]
theorem lw_r1 : ∀ q ∈ lw_privs_1, lw_okq q := List.forall_mem_cons.mpr ⟨lw_p0, List.forall_mem_cons.mpr ⟨lw_p1, List.forall_mem_cons.mpr ⟨lw_p2, List.forall_mem_cons.mpr ⟨lw_p3, List.forall_mem_cons.mpr ⟨lw_p4, List.forall_mem_cons.mpr ⟨lw_p5, List.forall_mem_cons.mpr ⟨lw_p6, List.forall_mem_cons.mpr ⟨lw_p7, List.forall_mem_cons.mpr ⟨lw_p8, List.forall_mem_cons.mpr ⟨lw_p9, List.forall_mem_cons.mpr ⟨lw_p10, List.forall_mem_cons.mpr ⟨lw_p11, List.forall_mem_cons.mpr ⟨lw_p12, List.forall_mem_cons.mpr ⟨lw_p13, List.forall_mem_cons.mpr ⟨lw_p14, List.forall_mem_cons.mpr ⟨lw_p15, fun _ h => absurd h List.not_mem_nil⟩⟩⟩⟩⟩⟩⟩⟩⟩⟩⟩⟩⟩⟩⟩⟩
theorem lw_p16 : lw_okq (⟨"SignBench$Table", "corner", "(II)I"⟩, 2) := ⟨⟨by decide +kernel, by decide +kernel⟩, List.mem_of_getElem? (i := 22) (by decide +kernel), List.mem_of_getElem? (i := 257) (by decide +kernel), List.mem_of_getElem? (i := 258) (by decide +kernel)⟩
theorem lw_p17 : lw_okq (⟨"SignBench$Table", "triangleColumn", "(II)I"⟩, 2) := ⟨⟨by decide +kernel, by decide +kernel⟩, List.mem_of_getElem? (i := 22) (by decide +kernel), List.mem_of_getElem? (i := 265) (by decide +kernel), List.mem_of_getElem? (i := 266) (by decide +kernel)⟩
theorem lw_p18 : lw_okq (⟨"SignBench$Table", "hasEdge", "(ZII)Z"⟩, 2) := ⟨⟨by decide +kernel, by decide +kernel⟩, List.mem_of_getElem? (i := 22) (by decide +kernel), List.mem_of_getElem? (i := 273) (by decide +kernel), List.mem_of_getElem? (i := 274) (by decide +kernel)⟩
theorem lw_p19 : lw_okq (⟨"SignBench$Table", "holds", "(ZII)Z"⟩, 2) := ⟨⟨by decide +kernel, by decide +kernel⟩, List.mem_of_getElem? (i := 22) (by decide +kernel), List.mem_of_getElem? (i := 283) (by decide +kernel), List.mem_of_getElem? (i := 284) (by decide +kernel)⟩
theorem lw_p20 : lw_okq (⟨"SignBench$Loops", "otherEnd", "(LSignBench$Table;I)I"⟩, 5) := ⟨⟨by decide +kernel, by decide +kernel⟩, List.mem_of_getElem? (i := 100) (by decide +kernel), List.mem_of_getElem? (i := 291) (by decide +kernel), List.mem_of_getElem? (i := 292) (by decide +kernel)⟩
theorem lw_p21 : lw_okq (⟨"SignBench$Loops", "goToEnd", "(II)V"⟩, 5) := ⟨⟨by decide +kernel, by decide +kernel⟩, List.mem_of_getElem? (i := 100) (by decide +kernel), List.mem_of_getElem? (i := 295) (by decide +kernel), List.mem_of_getElem? (i := 296) (by decide +kernel)⟩
theorem lw_p22 : lw_okq (⟨"SignBench$Loops", "follow", "(LSignBench$Table;)Z"⟩, 5) := ⟨⟨by decide +kernel, by decide +kernel⟩, List.mem_of_getElem? (i := 100) (by decide +kernel), List.mem_of_getElem? (i := 299) (by decide +kernel), List.mem_of_getElem? (i := 300) (by decide +kernel)⟩
theorem lw_p23 : lw_okq (⟨"SignBench$Loops", "isSeen", "(II)Z"⟩, 5) := ⟨⟨by decide +kernel, by decide +kernel⟩, List.mem_of_getElem? (i := 100) (by decide +kernel), List.mem_of_getElem? (i := 303) (by decide +kernel), List.mem_of_getElem? (i := 304) (by decide +kernel)⟩
theorem lw_p24 : lw_okq (⟨"SignBench$Loops", "nextHeldSide", "(LSignBench$Table;I)I"⟩, 5) := ⟨⟨by decide +kernel, by decide +kernel⟩, List.mem_of_getElem? (i := 100) (by decide +kernel), List.mem_of_getElem? (i := 307) (by decide +kernel), List.mem_of_getElem? (i := 308) (by decide +kernel)⟩
theorem lw_p25 : lw_okq (⟨"SignBench$Loops", "endHere", "(I)I"⟩, 5) := ⟨⟨by decide +kernel, by decide +kernel⟩, List.mem_of_getElem? (i := 100) (by decide +kernel), List.mem_of_getElem? (i := 317) (by decide +kernel), List.mem_of_getElem? (i := 318) (by decide +kernel)⟩
theorem lw_p26 : lw_okq (⟨"SignBench$Loops", "ringsOf", "(LSignBench$Table;)I"⟩, 5) := ⟨⟨by decide +kernel, by decide +kernel⟩, List.mem_of_getElem? (i := 100) (by decide +kernel), List.mem_of_getElem? (i := 325) (by decide +kernel), List.mem_of_getElem? (i := 326) (by decide +kernel)⟩
theorem lw_p27 : lw_okq (⟨"SignBench$Loops", "goRound", "(LSignBench$Table;II)V"⟩, 5) := ⟨⟨by decide +kernel, by decide +kernel⟩, List.mem_of_getElem? (i := 100) (by decide +kernel), List.mem_of_getElem? (i := 329) (by decide +kernel), List.mem_of_getElem? (i := 330) (by decide +kernel)⟩
theorem lw_p28 : lw_okq (⟨"SignBench$Table", "kindOf", "()I"⟩, 2) := ⟨⟨by decide +kernel, by decide +kernel⟩, List.mem_of_getElem? (i := 22) (by decide +kernel), List.mem_of_getElem? (i := 337) (by decide +kernel), List.mem_of_getElem? (i := 338) (by decide +kernel)⟩
theorem lw_p29 : lw_okq (⟨"SignBench$Table", "minusOnes", "()I"⟩, 2) := ⟨⟨by decide +kernel, by decide +kernel⟩, List.mem_of_getElem? (i := 22) (by decide +kernel), List.mem_of_getElem? (i := 341) (by decide +kernel), List.mem_of_getElem? (i := 342) (by decide +kernel)⟩
theorem lw_p30 : lw_okq (⟨"SignBench$Table", "staysWhen", "(I)Z"⟩, 2) := ⟨⟨by decide +kernel, by decide +kernel⟩, List.mem_of_getElem? (i := 22) (by decide +kernel), List.mem_of_getElem? (i := 346) (by decide +kernel), List.mem_of_getElem? (i := 347) (by decide +kernel)⟩
theorem lw_p31 : lw_okq (⟨"SignBench$Table", "movedEntry", "(III)I"⟩, 2) := ⟨⟨by decide +kernel, by decide +kernel⟩, List.mem_of_getElem? (i := 22) (by decide +kernel), List.mem_of_getElem? (i := 350) (by decide +kernel), List.mem_of_getElem? (i := 351) (by decide +kernel)⟩
def lw_privs_2 : List (MethodName × Nat) := [(⟨"SignBench$Table", "corner", "(II)I"⟩, 2), (⟨"SignBench$Table", "triangleColumn", "(II)I"⟩, 2), (⟨"SignBench$Table", "hasEdge", "(ZII)Z"⟩, 2), (⟨"SignBench$Table", "holds", "(ZII)Z"⟩, 2), (⟨"SignBench$Loops", "otherEnd", "(LSignBench$Table;I)I"⟩, 5), (⟨"SignBench$Loops", "goToEnd", "(II)V"⟩, 5), (⟨"SignBench$Loops", "follow", "(LSignBench$Table;)Z"⟩, 5), (⟨"SignBench$Loops", "isSeen", "(II)Z"⟩, 5), (⟨"SignBench$Loops", "nextHeldSide", "(LSignBench$Table;I)I"⟩, 5), (⟨"SignBench$Loops", "endHere", "(I)I"⟩, 5), (⟨"SignBench$Loops", "ringsOf", "(LSignBench$Table;)I"⟩, 5), (⟨"SignBench$Loops", "goRound", "(LSignBench$Table;II)V"⟩, 5), (⟨"SignBench$Table", "kindOf", "()I"⟩, 2), (⟨"SignBench$Table", "minusOnes", "()I"⟩, 2), (⟨"SignBench$Table", "staysWhen", "(I)Z"⟩, 2), (⟨"SignBench$Table", "movedEntry", "(III)I"⟩, 2)]
theorem lw_r2 : ∀ q ∈ lw_privs_2, lw_okq q := List.forall_mem_cons.mpr ⟨lw_p16, List.forall_mem_cons.mpr ⟨lw_p17, List.forall_mem_cons.mpr ⟨lw_p18, List.forall_mem_cons.mpr ⟨lw_p19, List.forall_mem_cons.mpr ⟨lw_p20, List.forall_mem_cons.mpr ⟨lw_p21, List.forall_mem_cons.mpr ⟨lw_p22, List.forall_mem_cons.mpr ⟨lw_p23, List.forall_mem_cons.mpr ⟨lw_p24, List.forall_mem_cons.mpr ⟨lw_p25, List.forall_mem_cons.mpr ⟨lw_p26, List.forall_mem_cons.mpr ⟨lw_p27, List.forall_mem_cons.mpr ⟨lw_p28, List.forall_mem_cons.mpr ⟨lw_p29, List.forall_mem_cons.mpr ⟨lw_p30, List.forall_mem_cons.mpr ⟨lw_p31, fun _ h => absurd h List.not_mem_nil⟩⟩⟩⟩⟩⟩⟩⟩⟩⟩⟩⟩⟩⟩⟩⟩
theorem lw_p32 : lw_okq (⟨"SignBench$Numbering", "numberOf", "(LSignBench$Table;)J"⟩, 3) := ⟨⟨by decide +kernel, by decide +kernel⟩, List.mem_of_getElem? (i := 56) (by decide +kernel), List.mem_of_getElem? (i := 381) (by decide +kernel), List.mem_of_getElem? (i := 382) (by decide +kernel)⟩
theorem lw_p33 : lw_okq (⟨"SignBench$Numbering", "learnWays", "(I)V"⟩, 3) := ⟨⟨by decide +kernel, by decide +kernel⟩, List.mem_of_getElem? (i := 56) (by decide +kernel), List.mem_of_getElem? (i := 385) (by decide +kernel), List.mem_of_getElem? (i := 386) (by decide +kernel)⟩
theorem lw_p34 : lw_okq (⟨"SignBench$Numbering", "waysBefore", "(III)J"⟩, 3) := ⟨⟨by decide +kernel, by decide +kernel⟩, List.mem_of_getElem? (i := 56) (by decide +kernel), List.mem_of_getElem? (i := 389) (by decide +kernel), List.mem_of_getElem? (i := 390) (by decide +kernel)⟩
theorem lw_p35 : lw_okq (⟨"SignBench$RowWalk", "start", "(II)V"⟩, 6) := ⟨⟨by decide +kernel, by decide +kernel⟩, List.mem_of_getElem? (i := 62) (by decide +kernel), List.mem_of_getElem? (i := 393) (by decide +kernel), List.mem_of_getElem? (i := 394) (by decide +kernel)⟩
theorem lw_p36 : lw_okq (⟨"SignBench$RowWalk", "layFrom", "(II)V"⟩, 6) := ⟨⟨by decide +kernel, by decide +kernel⟩, List.mem_of_getElem? (i := 62) (by decide +kernel), List.mem_of_getElem? (i := 400) (by decide +kernel), List.mem_of_getElem? (i := 401) (by decide +kernel)⟩
theorem lw_p37 : lw_okq (⟨"SignBench$RowWalk", "bitOf", "(I)I"⟩, 6) := ⟨⟨by decide +kernel, by decide +kernel⟩, List.mem_of_getElem? (i := 62) (by decide +kernel), List.mem_of_getElem? (i := 407) (by decide +kernel), List.mem_of_getElem? (i := 408) (by decide +kernel)⟩
theorem lw_p38 : lw_okq (⟨"SignBench$RowWalk", "advance", "()Z"⟩, 6) := ⟨⟨by decide +kernel, by decide +kernel⟩, List.mem_of_getElem? (i := 62) (by decide +kernel), List.mem_of_getElem? (i := 411) (by decide +kernel), List.mem_of_getElem? (i := 412) (by decide +kernel)⟩
theorem lw_p39 : lw_okq (⟨"SignBench$Table", "rowBits", "(I)I"⟩, 2) := ⟨⟨by decide +kernel, by decide +kernel⟩, List.mem_of_getElem? (i := 22) (by decide +kernel), List.mem_of_getElem? (i := 415) (by decide +kernel), List.mem_of_getElem? (i := 416) (by decide +kernel)⟩
theorem lw_p40 : lw_okq (⟨"SignBench$Numbering", "build", "(LSignBench$Table;IJ)V"⟩, 3) := ⟨⟨by decide +kernel, by decide +kernel⟩, List.mem_of_getElem? (i := 56) (by decide +kernel), List.mem_of_getElem? (i := 423) (by decide +kernel), List.mem_of_getElem? (i := 424) (by decide +kernel)⟩
theorem lw_p41 : lw_okq (⟨"SignBench$Numbering", "passWays", "(IJ)J"⟩, 3) := ⟨⟨by decide +kernel, by decide +kernel⟩, List.mem_of_getElem? (i := 56) (by decide +kernel), List.mem_of_getElem? (i := 427) (by decide +kernel), List.mem_of_getElem? (i := 428) (by decide +kernel)⟩
theorem lw_p42 : lw_okq (⟨"SignBench", "areOfOneSize", "(II)Z"⟩, 6) := ⟨⟨by decide +kernel, by decide +kernel⟩, List.mem_of_getElem? (i := 13) (by decide +kernel), List.mem_of_getElem? (i := 446) (by decide +kernel), List.mem_of_getElem? (i := 447) (by decide +kernel)⟩
theorem lw_p43 : lw_okq (⟨"SignBench$Table", "becomeExtreme", "(LSignBench$Table;LSignBench$Table;Z)V"⟩, 2) := ⟨⟨by decide +kernel, by decide +kernel⟩, List.mem_of_getElem? (i := 22) (by decide +kernel), List.mem_of_getElem? (i := 450) (by decide +kernel), List.mem_of_getElem? (i := 451) (by decide +kernel)⟩
theorem lw_p44 : lw_okq (⟨"SignBench$Table", "isBelow", "(LSignBench$Table;)Z"⟩, 2) := ⟨⟨by decide +kernel, by decide +kernel⟩, List.mem_of_getElem? (i := 22) (by decide +kernel), List.mem_of_getElem? (i := 464) (by decide +kernel), List.mem_of_getElem? (i := 465) (by decide +kernel)⟩
theorem lw_p45 : lw_okq (⟨"SignBench$Table", "stepsTo", "(LSignBench$Table;)I"⟩, 2) := ⟨⟨by decide +kernel, by decide +kernel⟩, List.mem_of_getElem? (i := 22) (by decide +kernel), List.mem_of_getElem? (i := 473) (by decide +kernel), List.mem_of_getElem? (i := 474) (by decide +kernel)⟩
theorem lw_p46 : lw_okq (⟨"SignBench$Table", "shift", "(III)Z"⟩, 2) := ⟨⟨by decide +kernel, by decide +kernel⟩, List.mem_of_getElem? (i := 22) (by decide +kernel), List.mem_of_getElem? (i := 484) (by decide +kernel), List.mem_of_getElem? (i := 485) (by decide +kernel)⟩
theorem lw_p47 : lw_okq (⟨"SignBench$Table", "stepToward", "(LSignBench$Table;)I"⟩, 2) := ⟨⟨by decide +kernel, by decide +kernel⟩, List.mem_of_getElem? (i := 22) (by decide +kernel), List.mem_of_getElem? (i := 493) (by decide +kernel), List.mem_of_getElem? (i := 494) (by decide +kernel)⟩
def lw_privs_3 : List (MethodName × Nat) := [(⟨"SignBench$Numbering", "numberOf", "(LSignBench$Table;)J"⟩, 3), (⟨"SignBench$Numbering", "learnWays", "(I)V"⟩, 3), (⟨"SignBench$Numbering", "waysBefore", "(III)J"⟩, 3), (⟨"SignBench$RowWalk", "start", "(II)V"⟩, 6), (⟨"SignBench$RowWalk", "layFrom", "(II)V"⟩, 6), (⟨"SignBench$RowWalk", "bitOf", "(I)I"⟩, 6), (⟨"SignBench$RowWalk", "advance", "()Z"⟩, 6), (⟨"SignBench$Table", "rowBits", "(I)I"⟩, 2), (⟨"SignBench$Numbering", "build", "(LSignBench$Table;IJ)V"⟩, 3), (⟨"SignBench$Numbering", "passWays", "(IJ)J"⟩, 3), (⟨"SignBench", "areOfOneSize", "(II)Z"⟩, 6), (⟨"SignBench$Table", "becomeExtreme", "(LSignBench$Table;LSignBench$Table;Z)V"⟩, 2), (⟨"SignBench$Table", "isBelow", "(LSignBench$Table;)Z"⟩, 2), (⟨"SignBench$Table", "stepsTo", "(LSignBench$Table;)I"⟩, 2), (⟨"SignBench$Table", "shift", "(III)Z"⟩, 2), (⟨"SignBench$Table", "stepToward", "(LSignBench$Table;)I"⟩, 2)]
theorem lw_r3 : ∀ q ∈ lw_privs_3, lw_okq q := List.forall_mem_cons.mpr ⟨lw_p32, List.forall_mem_cons.mpr ⟨lw_p33, List.forall_mem_cons.mpr ⟨lw_p34, List.forall_mem_cons.mpr ⟨lw_p35, List.forall_mem_cons.mpr ⟨lw_p36, List.forall_mem_cons.mpr ⟨lw_p37, List.forall_mem_cons.mpr ⟨lw_p38, List.forall_mem_cons.mpr ⟨lw_p39, List.forall_mem_cons.mpr ⟨lw_p40, List.forall_mem_cons.mpr ⟨lw_p41, List.forall_mem_cons.mpr ⟨lw_p42, List.forall_mem_cons.mpr ⟨lw_p43, List.forall_mem_cons.mpr ⟨lw_p44, List.forall_mem_cons.mpr ⟨lw_p45, List.forall_mem_cons.mpr ⟨lw_p46, List.forall_mem_cons.mpr ⟨lw_p47, fun _ h => absurd h List.not_mem_nil⟩⟩⟩⟩⟩⟩⟩⟩⟩⟩⟩⟩⟩⟩⟩⟩
theorem lw_p48 : lw_okq (⟨"SignBench$Table", "turnSquares", "(I)V"⟩, 2) := ⟨⟨by decide +kernel, by decide +kernel⟩, List.mem_of_getElem? (i := 22) (by decide +kernel), List.mem_of_getElem? (i := 502) (by decide +kernel), List.mem_of_getElem? (i := 503) (by decide +kernel)⟩
theorem lw_p49 : lw_okq (⟨"SignBench$Table", "becomeMoved", "(LSignBench$Table;I)V"⟩, 2) := ⟨⟨by decide +kernel, by decide +kernel⟩, List.mem_of_getElem? (i := 22) (by decide +kernel), List.mem_of_getElem? (i := 510) (by decide +kernel), List.mem_of_getElem? (i := 511) (by decide +kernel)⟩
theorem lw_p50 : lw_okq (⟨"SignBench$Table", "become", "(LSignBench$Table;)V"⟩, 2) := ⟨⟨by decide +kernel, by decide +kernel⟩, List.mem_of_getElem? (i := 22) (by decide +kernel), List.mem_of_getElem? (i := 514) (by decide +kernel), List.mem_of_getElem? (i := 515) (by decide +kernel)⟩
theorem lw_p51 : lw_okq (⟨"SignBench$Joinings", "knows", "(I)Z"⟩, 2) := ⟨⟨by decide +kernel, by decide +kernel⟩, List.mem_of_getElem? (i := 122) (by decide +kernel), List.mem_of_getElem? (i := 525) (by decide +kernel), List.mem_of_getElem? (i := 526) (by decide +kernel)⟩
theorem lw_p52 : lw_okq (⟨"SignBench", "learnJoinings", "(I)V"⟩, 6) := ⟨⟨by decide +kernel, by decide +kernel⟩, List.mem_of_getElem? (i := 13) (by decide +kernel), List.mem_of_getElem? (i := 529) (by decide +kernel), List.mem_of_getElem? (i := 530) (by decide +kernel)⟩
theorem lw_p53 : lw_okq (⟨"SignBench$Loops", "joiningOf", "(LSignBench$Table;)J"⟩, 5) := ⟨⟨by decide +kernel, by decide +kernel⟩, List.mem_of_getElem? (i := 100) (by decide +kernel), List.mem_of_getElem? (i := 533) (by decide +kernel), List.mem_of_getElem? (i := 534) (by decide +kernel)⟩
theorem lw_p54 : lw_okq (⟨"SignBench$Joinings", "learn", "(IIJ)V"⟩, 2) := ⟨⟨by decide +kernel, by decide +kernel⟩, List.mem_of_getElem? (i := 122) (by decide +kernel), List.mem_of_getElem? (i := 537) (by decide +kernel), List.mem_of_getElem? (i := 538) (by decide +kernel)⟩
theorem lw_p55 : lw_okq (⟨"SignBench$Joinings", "finish", "(I)V"⟩, 2) := ⟨⟨by decide +kernel, by decide +kernel⟩, List.mem_of_getElem? (i := 122) (by decide +kernel), List.mem_of_getElem? (i := 543) (by decide +kernel), List.mem_of_getElem? (i := 544) (by decide +kernel)⟩
theorem lw_p56 : lw_okq (⟨"SignBench$Joinings", "howMany", "(IJ)I"⟩, 2) := ⟨⟨by decide +kernel, by decide +kernel⟩, List.mem_of_getElem? (i := 122) (by decide +kernel), List.mem_of_getElem? (i := 547) (by decide +kernel), List.mem_of_getElem? (i := 548) (by decide +kernel)⟩
theorem lw_p57 : lw_okq (⟨"SignBenchModel", "faultOfSums", "()I"⟩, 14) := ⟨⟨by decide +kernel, by decide +kernel⟩, List.mem_of_getElem? (i := 551) (by decide +kernel), List.mem_of_getElem? (i := 612) (by decide +kernel), List.mem_of_getElem? (i := 613) (by decide +kernel)⟩
theorem lw_p58 : lw_okq (⟨"SignBenchModel", "d", "(II)I"⟩, 14) := ⟨⟨by decide +kernel, by decide +kernel⟩, List.mem_of_getElem? (i := 551) (by decide +kernel), List.mem_of_getElem? (i := 616) (by decide +kernel), List.mem_of_getElem? (i := 617) (by decide +kernel)⟩
theorem lw_p59 : lw_okq (⟨"SignBenchModel", "faultOfTriangle", "()I"⟩, 14) := ⟨⟨by decide +kernel, by decide +kernel⟩, List.mem_of_getElem? (i := 551) (by decide +kernel), List.mem_of_getElem? (i := 620) (by decide +kernel), List.mem_of_getElem? (i := 621) (by decide +kernel)⟩
theorem lw_p60 : lw_okq (⟨"SignBenchModel", "isRight", "(IZ)Z"⟩, 14) := ⟨⟨by decide +kernel, by decide +kernel⟩, List.mem_of_getElem? (i := 551) (by decide +kernel), List.mem_of_getElem? (i := 624) (by decide +kernel), List.mem_of_getElem? (i := 625) (by decide +kernel)⟩
theorem lw_p61 : lw_okq (⟨"SignBenchModel", "knows", "(I)Z"⟩, 14) := ⟨⟨by decide +kernel, by decide +kernel⟩, List.mem_of_getElem? (i := 551) (by decide +kernel), List.mem_of_getElem? (i := 632) (by decide +kernel), List.mem_of_getElem? (i := 633) (by decide +kernel)⟩
theorem lw_p62 : lw_okq (⟨"SignBenchModel", "inRow", "(II)I"⟩, 14) := ⟨⟨by decide +kernel, by decide +kernel⟩, List.mem_of_getElem? (i := 551) (by decide +kernel), List.mem_of_getElem? (i := 640) (by decide +kernel), List.mem_of_getElem? (i := 641) (by decide +kernel)⟩
theorem lw_p63 : lw_okq (⟨"SignBenchModel", "a", "(IIII)V"⟩, 14) := ⟨⟨by decide +kernel, by decide +kernel⟩, List.mem_of_getElem? (i := 551) (by decide +kernel), List.mem_of_getElem? (i := 644) (by decide +kernel), List.mem_of_getElem? (i := 645) (by decide +kernel)⟩
def lw_privs_4 : List (MethodName × Nat) := [(⟨"SignBench$Table", "turnSquares", "(I)V"⟩, 2), (⟨"SignBench$Table", "becomeMoved", "(LSignBench$Table;I)V"⟩, 2), (⟨"SignBench$Table", "become", "(LSignBench$Table;)V"⟩, 2), (⟨"SignBench$Joinings", "knows", "(I)Z"⟩, 2), (⟨"SignBench", "learnJoinings", "(I)V"⟩, 6), (⟨"SignBench$Loops", "joiningOf", "(LSignBench$Table;)J"⟩, 5), (⟨"SignBench$Joinings", "learn", "(IIJ)V"⟩, 2), (⟨"SignBench$Joinings", "finish", "(I)V"⟩, 2), (⟨"SignBench$Joinings", "howMany", "(IJ)I"⟩, 2), (⟨"SignBenchModel", "faultOfSums", "()I"⟩, 14), (⟨"SignBenchModel", "d", "(II)I"⟩, 14), (⟨"SignBenchModel", "faultOfTriangle", "()I"⟩, 14), (⟨"SignBenchModel", "isRight", "(IZ)Z"⟩, 14), (⟨"SignBenchModel", "knows", "(I)Z"⟩, 14), (⟨"SignBenchModel", "inRow", "(II)I"⟩, 14), (⟨"SignBenchModel", "a", "(IIII)V"⟩, 14)]
theorem lw_r4 : ∀ q ∈ lw_privs_4, lw_okq q := List.forall_mem_cons.mpr ⟨lw_p48, List.forall_mem_cons.mpr ⟨lw_p49, List.forall_mem_cons.mpr ⟨lw_p50, List.forall_mem_cons.mpr ⟨lw_p51, List.forall_mem_cons.mpr ⟨lw_p52, List.forall_mem_cons.mpr ⟨lw_p53, List.forall_mem_cons.mpr ⟨lw_p54, List.forall_mem_cons.mpr ⟨lw_p55, List.forall_mem_cons.mpr ⟨lw_p56, List.forall_mem_cons.mpr ⟨lw_p57, List.forall_mem_cons.mpr ⟨lw_p58, List.forall_mem_cons.mpr ⟨lw_p59, List.forall_mem_cons.mpr ⟨lw_p60, List.forall_mem_cons.mpr ⟨lw_p61, List.forall_mem_cons.mpr ⟨lw_p62, List.forall_mem_cons.mpr ⟨lw_p63, fun _ h => absurd h List.not_mem_nil⟩⟩⟩⟩⟩⟩⟩⟩⟩⟩⟩⟩⟩⟩⟩⟩
theorem lw_p64 : lw_okq (⟨"SignBenchModel", "isIn", "(IIII)Z"⟩, 14) := ⟨⟨by decide +kernel, by decide +kernel⟩, List.mem_of_getElem? (i := 551) (by decide +kernel), List.mem_of_getElem? (i := 656) (by decide +kernel), List.mem_of_getElem? (i := 657) (by decide +kernel)⟩
theorem lw_p65 : lw_okq (⟨"SignBenchModel", "a", "(III)I"⟩, 14) := ⟨⟨by decide +kernel, by decide +kernel⟩, List.mem_of_getElem? (i := 551) (by decide +kernel), List.mem_of_getElem? (i := 660) (by decide +kernel), List.mem_of_getElem? (i := 661) (by decide +kernel)⟩
theorem lw_p66 : lw_okq (⟨"SignBenchModel", "corner", "(III)I"⟩, 14) := ⟨⟨by decide +kernel, by decide +kernel⟩, List.mem_of_getElem? (i := 551) (by decide +kernel), List.mem_of_getElem? (i := 668) (by decide +kernel), List.mem_of_getElem? (i := 669) (by decide +kernel)⟩
theorem lw_p67 : lw_okq (⟨"SignBenchModel", "rowOf", "(II)I"⟩, 14) := ⟨⟨by decide +kernel, by decide +kernel⟩, List.mem_of_getElem? (i := 551) (by decide +kernel), List.mem_of_getElem? (i := 676) (by decide +kernel), List.mem_of_getElem? (i := 677) (by decide +kernel)⟩
theorem lw_p68 : lw_okq (⟨"SignBenchModel", "isEdge", "(IZII)Z"⟩, 14) := ⟨⟨by decide +kernel, by decide +kernel⟩, List.mem_of_getElem? (i := 551) (by decide +kernel), List.mem_of_getElem? (i := 687) (by decide +kernel), List.mem_of_getElem? (i := 688) (by decide +kernel)⟩
theorem lw_p69 : lw_okq (⟨"SignBenchModel", "points", "(IZII)Z"⟩, 14) := ⟨⟨by decide +kernel, by decide +kernel⟩, List.mem_of_getElem? (i := 551) (by decide +kernel), List.mem_of_getElem? (i := 691) (by decide +kernel), List.mem_of_getElem? (i := 692) (by decide +kernel)⟩
theorem lw_p70 : lw_okq (⟨"SignBenchModel", "isHeld", "(IZII)Z"⟩, 14) := ⟨⟨by decide +kernel, by decide +kernel⟩, List.mem_of_getElem? (i := 551) (by decide +kernel), List.mem_of_getElem? (i := 699) (by decide +kernel), List.mem_of_getElem? (i := 700) (by decide +kernel)⟩
theorem lw_p71 : lw_okq (⟨"SignBenchModel", "joined", "(II)I"⟩, 14) := ⟨⟨by decide +kernel, by decide +kernel⟩, List.mem_of_getElem? (i := 551) (by decide +kernel), List.mem_of_getElem? (i := 707) (by decide +kernel), List.mem_of_getElem? (i := 708) (by decide +kernel)⟩
theorem lw_p72 : lw_okq (⟨"SignBenchModel", "end", "(II)I"⟩, 14) := ⟨⟨by decide +kernel, by decide +kernel⟩, List.mem_of_getElem? (i := 551) (by decide +kernel), List.mem_of_getElem? (i := 711) (by decide +kernel), List.mem_of_getElem? (i := 712) (by decide +kernel)⟩
theorem lw_p73 : lw_okq (⟨"SignBenchModel", "leaves", "(II)I"⟩, 14) := ⟨⟨by decide +kernel, by decide +kernel⟩, List.mem_of_getElem? (i := 551) (by decide +kernel), List.mem_of_getElem? (i := 718) (by decide +kernel), List.mem_of_getElem? (i := 719) (by decide +kernel)⟩
theorem lw_p74 : lw_okq (⟨"SignBenchModel", "isInside", "(III)Z"⟩, 14) := ⟨⟨by decide +kernel, by decide +kernel⟩, List.mem_of_getElem? (i := 551) (by decide +kernel), List.mem_of_getElem? (i := 722) (by decide +kernel), List.mem_of_getElem? (i := 723) (by decide +kernel)⟩
theorem lw_p75 : lw_okq (⟨"SignBenchModel", "next", "(IIII)I"⟩, 14) := ⟨⟨by decide +kernel, by decide +kernel⟩, List.mem_of_getElem? (i := 551) (by decide +kernel), List.mem_of_getElem? (i := 726) (by decide +kernel), List.mem_of_getElem? (i := 727) (by decide +kernel)⟩
theorem lw_p76 : lw_okq (⟨"SignBenchModel", "lessOf", "(I)I"⟩, 14) := ⟨⟨by decide +kernel, by decide +kernel⟩, List.mem_of_getElem? (i := 551) (by decide +kernel), List.mem_of_getElem? (i := 738) (by decide +kernel), List.mem_of_getElem? (i := 739) (by decide +kernel)⟩
theorem lw_p77 : lw_okq (⟨"SignBenchModel", "stays", "(II)Z"⟩, 14) := ⟨⟨by decide +kernel, by decide +kernel⟩, List.mem_of_getElem? (i := 551) (by decide +kernel), List.mem_of_getElem? (i := 742) (by decide +kernel), List.mem_of_getElem? (i := 743) (by decide +kernel)⟩
theorem lw_p78 : lw_okq (⟨"SignBenchModel", "all", "(I)J"⟩, 14) := ⟨⟨by decide +kernel, by decide +kernel⟩, List.mem_of_getElem? (i := 551) (by decide +kernel), List.mem_of_getElem? (i := 755) (by decide +kernel), List.mem_of_getElem? (i := 756) (by decide +kernel)⟩
theorem lw_p79 : lw_okq (⟨"SignBenchModel", "work", "(I)V"⟩, 14) := ⟨⟨by decide +kernel, by decide +kernel⟩, List.mem_of_getElem? (i := 551) (by decide +kernel), List.mem_of_getElem? (i := 759) (by decide +kernel), List.mem_of_getElem? (i := 760) (by decide +kernel)⟩
def lw_privs_5 : List (MethodName × Nat) := [(⟨"SignBenchModel", "isIn", "(IIII)Z"⟩, 14), (⟨"SignBenchModel", "a", "(III)I"⟩, 14), (⟨"SignBenchModel", "corner", "(III)I"⟩, 14), (⟨"SignBenchModel", "rowOf", "(II)I"⟩, 14), (⟨"SignBenchModel", "isEdge", "(IZII)Z"⟩, 14), (⟨"SignBenchModel", "points", "(IZII)Z"⟩, 14), (⟨"SignBenchModel", "isHeld", "(IZII)Z"⟩, 14), (⟨"SignBenchModel", "joined", "(II)I"⟩, 14), (⟨"SignBenchModel", "end", "(II)I"⟩, 14), (⟨"SignBenchModel", "leaves", "(II)I"⟩, 14), (⟨"SignBenchModel", "isInside", "(III)Z"⟩, 14), (⟨"SignBenchModel", "next", "(IIII)I"⟩, 14), (⟨"SignBenchModel", "lessOf", "(I)I"⟩, 14), (⟨"SignBenchModel", "stays", "(II)Z"⟩, 14), (⟨"SignBenchModel", "all", "(I)J"⟩, 14), (⟨"SignBenchModel", "work", "(I)V"⟩, 14)]
theorem lw_r5 : ∀ q ∈ lw_privs_5, lw_okq q := List.forall_mem_cons.mpr ⟨lw_p64, List.forall_mem_cons.mpr ⟨lw_p65, List.forall_mem_cons.mpr ⟨lw_p66, List.forall_mem_cons.mpr ⟨lw_p67, List.forall_mem_cons.mpr ⟨lw_p68, List.forall_mem_cons.mpr ⟨lw_p69, List.forall_mem_cons.mpr ⟨lw_p70, List.forall_mem_cons.mpr ⟨lw_p71, List.forall_mem_cons.mpr ⟨lw_p72, List.forall_mem_cons.mpr ⟨lw_p73, List.forall_mem_cons.mpr ⟨lw_p74, List.forall_mem_cons.mpr ⟨lw_p75, List.forall_mem_cons.mpr ⟨lw_p76, List.forall_mem_cons.mpr ⟨lw_p77, List.forall_mem_cons.mpr ⟨lw_p78, List.forall_mem_cons.mpr ⟨lw_p79, fun _ h => absurd h List.not_mem_nil⟩⟩⟩⟩⟩⟩⟩⟩⟩⟩⟩⟩⟩⟩⟩⟩
theorem lw_p80 : lw_okq (⟨"SignBenchModel", "below", "(IIIII)J"⟩, 14) := ⟨⟨by decide +kernel, by decide +kernel⟩, List.mem_of_getElem? (i := 551) (by decide +kernel), List.mem_of_getElem? (i := 766) (by decide +kernel), List.mem_of_getElem? (i := 767) (by decide +kernel)⟩
theorem lw_p81 : lw_okq (⟨"SignBenchModel", "numberOf", "(I)J"⟩, 14) := ⟨⟨by decide +kernel, by decide +kernel⟩, List.mem_of_getElem? (i := 551) (by decide +kernel), List.mem_of_getElem? (i := 782) (by decide +kernel), List.mem_of_getElem? (i := 783) (by decide +kernel)⟩
theorem lw_p82 : lw_okq (⟨"SignBenchModel", "mayFollow", "(III)Z"⟩, 14) := ⟨⟨by decide +kernel, by decide +kernel⟩, List.mem_of_getElem? (i := 551) (by decide +kernel), List.mem_of_getElem? (i := 786) (by decide +kernel), List.mem_of_getElem? (i := 787) (by decide +kernel)⟩
theorem lw_p83 : lw_okq (⟨"SignBenchModel", "becomes", "(IIJ)V"⟩, 14) := ⟨⟨by decide +kernel, by decide +kernel⟩, List.mem_of_getElem? (i := 551) (by decide +kernel), List.mem_of_getElem? (i := 800) (by decide +kernel), List.mem_of_getElem? (i := 801) (by decide +kernel)⟩
theorem lw_p84 : lw_okq (⟨"SignBenchModel", "firstRow", "(III)I"⟩, 14) := ⟨⟨by decide +kernel, by decide +kernel⟩, List.mem_of_getElem? (i := 551) (by decide +kernel), List.mem_of_getElem? (i := 804) (by decide +kernel), List.mem_of_getElem? (i := 805) (by decide +kernel)⟩
theorem lw_p85 : lw_okq (⟨"SignBenchModel", "nextRow", "(IIII)I"⟩, 14) := ⟨⟨by decide +kernel, by decide +kernel⟩, List.mem_of_getElem? (i := 551) (by decide +kernel), List.mem_of_getElem? (i := 808) (by decide +kernel), List.mem_of_getElem? (i := 809) (by decide +kernel)⟩
theorem lw_p86 : lw_okq (⟨"SignBenchModel", "meets", "(IIIZ)Z"⟩, 14) := ⟨⟨by decide +kernel, by decide +kernel⟩, List.mem_of_getElem? (i := 551) (by decide +kernel), List.mem_of_getElem? (i := 822) (by decide +kernel), List.mem_of_getElem? (i := 823) (by decide +kernel)⟩
theorem lw_p87 : lw_okq (⟨"SignBenchModel", "fromCorners", "(II)V"⟩, 14) := ⟨⟨by decide +kernel, by decide +kernel⟩, List.mem_of_getElem? (i := 551) (by decide +kernel), List.mem_of_getElem? (i := 828) (by decide +kernel), List.mem_of_getElem? (i := 829) (by decide +kernel)⟩
theorem lw_p88 : lw_okq (⟨"SignBenchModel", "mayBe", "(IIII)Z"⟩, 14) := ⟨⟨by decide +kernel, by decide +kernel⟩, List.mem_of_getElem? (i := 551) (by decide +kernel), List.mem_of_getElem? (i := 849) (by decide +kernel), List.mem_of_getElem? (i := 850) (by decide +kernel)⟩
theorem lw_p89 : lw_okq (⟨"SignBenchModel", "changes", "(IIII)V"⟩, 14) := ⟨⟨by decide +kernel, by decide +kernel⟩, List.mem_of_getElem? (i := 551) (by decide +kernel), List.mem_of_getElem? (i := 853) (by decide +kernel), List.mem_of_getElem? (i := 854) (by decide +kernel)⟩
theorem lw_p90 : lw_okq (⟨"SignBenchModel", "turns", "(II)V"⟩, 14) := ⟨⟨by decide +kernel, by decide +kernel⟩, List.mem_of_getElem? (i := 551) (by decide +kernel), List.mem_of_getElem? (i := 868) (by decide +kernel), List.mem_of_getElem? (i := 869) (by decide +kernel)⟩
def lw_privs_6 : List (MethodName × Nat) := [(⟨"SignBenchModel", "below", "(IIIII)J"⟩, 14), (⟨"SignBenchModel", "numberOf", "(I)J"⟩, 14), (⟨"SignBenchModel", "mayFollow", "(III)Z"⟩, 14), (⟨"SignBenchModel", "becomes", "(IIJ)V"⟩, 14), (⟨"SignBenchModel", "firstRow", "(III)I"⟩, 14), (⟨"SignBenchModel", "nextRow", "(IIII)I"⟩, 14), (⟨"SignBenchModel", "meets", "(IIIZ)Z"⟩, 14), (⟨"SignBenchModel", "fromCorners", "(II)V"⟩, 14), (⟨"SignBenchModel", "mayBe", "(IIII)Z"⟩, 14), (⟨"SignBenchModel", "changes", "(IIII)V"⟩, 14), (⟨"SignBenchModel", "turns", "(II)V"⟩, 14)]
theorem lw_r6 : ∀ q ∈ lw_privs_6, lw_okq q := List.forall_mem_cons.mpr ⟨lw_p80, List.forall_mem_cons.mpr ⟨lw_p81, List.forall_mem_cons.mpr ⟨lw_p82, List.forall_mem_cons.mpr ⟨lw_p83, List.forall_mem_cons.mpr ⟨lw_p84, List.forall_mem_cons.mpr ⟨lw_p85, List.forall_mem_cons.mpr ⟨lw_p86, List.forall_mem_cons.mpr ⟨lw_p87, List.forall_mem_cons.mpr ⟨lw_p88, List.forall_mem_cons.mpr ⟨lw_p89, List.forall_mem_cons.mpr ⟨lw_p90, fun _ h => absurd h List.not_mem_nil⟩⟩⟩⟩⟩⟩⟩⟩⟩⟩⟩
def lw_privs : List (MethodName × Nat) := lw_privs_1 ++ (lw_privs_2 ++ (lw_privs_3 ++ (lw_privs_4 ++ (lw_privs_5 ++ (lw_privs_6)))))
def lw_tbl : List Cond := k2_sels lw_privs ++ tables_1
theorem lw_privs_ok : ∀ q ∈ lw_privs, lw_okq q := by
  show ∀ q ∈ lw_privs_1 ++ (lw_privs_2 ++ (lw_privs_3 ++ (lw_privs_4 ++ (lw_privs_5 ++ (lw_privs_6))))), lw_okq q
  exact List.forall_mem_append.mpr ⟨lw_r1, List.forall_mem_append.mpr ⟨lw_r2, List.forall_mem_append.mpr ⟨lw_r3, List.forall_mem_append.mpr ⟨lw_r4, List.forall_mem_append.mpr ⟨lw_r5, lw_r6⟩⟩⟩⟩⟩
-- ===== end of PART A; then your names; then what follows =====
/-! ===== BEGIN words of one list among another's, by their places ===== -/
theorem goodIn_r {big : List Cond} (ws : List Cond) (ps : List Nat) (hp : ws = ps.filterMap (fun i => big[i]?)) (h : ws.all goodWord = true) : GoodIn big ws := by
  intro w hw
  have h1 := List.all_eq_true.mp h w hw
  rw [hp] at hw
  obtain ⟨i, -, hi⟩ := List.mem_filterMap.mp hw
  have hm : w ∈ big := by first | exact List.mem_of_getElem? hi | exact List.getElem?_mem hi
  exact ⟨hm, good_of_word h1⟩
theorem goodIn_app {big a b : List Cond} (ha : GoodIn big a) (hb : GoodIn big b) : GoodIn big (a ++ b) := fun w h => (List.mem_append.mp h).elim (ha w) (hb w)
theorem goodIn_ca {big a b : List Cond} {c : Cond} (ha : GoodIn big (c :: a)) (hb : GoodIn big b) : GoodIn big (c :: (a ++ b)) := fun w h => (List.mem_cons.mp h).elim (fun e => ha w (List.mem_cons.mpr (Or.inl e))) (fun h => (List.mem_append.mp h).elim (fun h => ha w (List.mem_cons.mpr (Or.inr h))) (hb w))
theorem goodIn_sub {big ws : List Cond} (hm : ∀ w ∈ ws, w ∈ big) (h : ws.all goodWord = true) : GoodIn big ws := fun w hw => ⟨hm w hw, good_of_word (List.all_eq_true.mp h w hw)⟩
/-! ===== END ===== -/
def RX0 : String := "SignBench$Draft"
def TX0 : u_T := fun k => match k with
  | 0 => ("SignBench$Draft", "cells", "[I", true)
  | 1 => ("SignBench$Draft", "sort", "I", false)
  | _ => ("SignBench$Draft", "n", "I", false)
def tyX0 : Nat → FieldType := fun k => match k with
  | 0 => .array .int
  | 1 => .int
  | _ => .int
abbrev wsX00 : List Cond := u_ws RX0 TX0 3
theorem nmX0 : ∀ a, a < 3 → ∀ b, b < 3 → a ≠ b → (TX0 a).2.1 ≠ (TX0 b).2.1 := by decide +kernel
theorem tyX0_ok : ∀ k, k < 3 → parseFieldDescriptor (TX0 k).2.2.1 = some (tyX0 k) := by decide +kernel
abbrev cX0_init : ByteArray := prog_2_method_1_code
def yX0_init : MethodName := ⟨RX0, "<init>", "()V"⟩
abbrev cX0_clear : ByteArray := prog_2_method_2_code
def yX0_clear : MethodName := ⟨RX0, "clear", "(II)V"⟩
abbrev cX0_has : ByteArray := prog_2_method_3_code
def yX0_has : MethodName := ⟨RX0, "has", "(II)Z"⟩
abbrev cX0_write : ByteArray := prog_2_method_4_code
def yX0_write : MethodName := ⟨RX0, "write", "(III)V"⟩
abbrev cX0_cell : ByteArray := prog_2_method_5_code
def yX0_cell : MethodName := ⟨RX0, "cell", "(II)I"⟩
abbrev cX0_firstFault : ByteArray := prog_2_method_6_code
def yX0_firstFault : MethodName := ⟨RX0, "firstFault", "()I"⟩
abbrev cX0_firstLineFault : ByteArray := prog_2_method_7_code
def yX0_firstLineFault : MethodName := ⟨RX0, "firstLineFault", "()I"⟩
abbrev cX0_alternates : ByteArray := prog_2_method_8_code
def yX0_alternates : MethodName := ⟨RX0, "alternates", "(II)Z"⟩
abbrev cX0_firstCellFault : ByteArray := prog_2_method_9_code
def yX0_firstCellFault : MethodName := ⟨RX0, "firstCellFault", "()I"⟩
abbrev cX0_isCornerSum : ByteArray := prog_2_method_10_code
def yX0_isCornerSum : MethodName := ⟨RX0, "isCornerSum", "(II)Z"⟩
abbrev cX0_isColumn : ByteArray := prog_2_method_11_code
def yX0_isColumn : MethodName := ⟨RX0, "isColumn", "(II)Z"⟩
abbrev cX0_copyTo : ByteArray := prog_2_method_12_code
def yX0_copyTo : MethodName := ⟨RX0, "copyTo", "(LSignBench$Table;)V"⟩
abbrev cX0_triangleBits : ByteArray := prog_2_method_13_code
def yX0_triangleBits : MethodName := ⟨RX0, "triangleBits", "(II)I"⟩
def RX1 : String := "SignBench$Joinings"
def TX1 : u_T := fun k => match k with
  | 0 => ("SignBench$Joinings", "codes", "[J", true)
  | _ => ("SignBench$Joinings", "known", "[Z", true)
def tyX1 : Nat → FieldType := fun k => match k with
  | 0 => .array .long
  | _ => .array .boolean
abbrev wsX10 : List Cond := u_ws RX1 TX1 2
theorem nmX1 : ∀ a, a < 2 → ∀ b, b < 2 → a ≠ b → (TX1 a).2.1 ≠ (TX1 b).2.1 := by decide +kernel
theorem tyX1_ok : ∀ k, k < 2 → parseFieldDescriptor (TX1 k).2.2.1 = some (tyX1 k) := by decide +kernel
abbrev cX1_init : ByteArray := prog_3_method_1_code
def yX1_init : MethodName := ⟨RX1, "<init>", "()V"⟩
abbrev cX1_knows : ByteArray := prog_3_method_2_code
def yX1_knows : MethodName := ⟨RX1, "knows", "(I)Z"⟩
abbrev cX1_learn : ByteArray := prog_3_method_3_code
def yX1_learn : MethodName := ⟨RX1, "learn", "(IIJ)V"⟩
abbrev cX1_finish : ByteArray := prog_3_method_4_code
def yX1_finish : MethodName := ⟨RX1, "finish", "(I)V"⟩
abbrev cX1_howMany : ByteArray := prog_3_method_5_code
def yX1_howMany : MethodName := ⟨RX1, "howMany", "(IJ)I"⟩
def RX2 : String := "SignBench$Loops"
def TX2 : u_T := fun k => match k with
  | 0 => ("SignBench$Loops", "seenIn", "[I", true)
  | 1 => ("SignBench$Loops", "round", "I", false)
  | 2 => ("SignBench$Loops", "row", "I", false)
  | 3 => ("SignBench$Loops", "column", "I", false)
  | _ => ("SignBench$Loops", "side", "I", false)
def tyX2 : Nat → FieldType := fun k => match k with
  | 0 => .array .int
  | 1 => .int
  | 2 => .int
  | 3 => .int
  | _ => .int
abbrev wsX20 : List Cond := u_ws RX2 TX2 5
theorem nmX2 : ∀ a, a < 5 → ∀ b, b < 5 → a ≠ b → (TX2 a).2.1 ≠ (TX2 b).2.1 := by decide +kernel
theorem tyX2_ok : ∀ k, k < 5 → parseFieldDescriptor (TX2 k).2.2.1 = some (tyX2 k) := by decide +kernel
abbrev cX2_init : ByteArray := prog_4_method_1_code
def yX2_init : MethodName := ⟨RX2, "<init>", "()V"⟩
abbrev cX2_otherEnd : ByteArray := prog_4_method_2_code
def yX2_otherEnd : MethodName := ⟨RX2, "otherEnd", "(LSignBench$Table;I)I"⟩
abbrev cX2_ringsOf : ByteArray := prog_4_method_3_code
def yX2_ringsOf : MethodName := ⟨RX2, "ringsOf", "(LSignBench$Table;)I"⟩
abbrev cX2_joiningOf : ByteArray := prog_4_method_4_code
def yX2_joiningOf : MethodName := ⟨RX2, "joiningOf", "(LSignBench$Table;)J"⟩
abbrev cX2_isSeen : ByteArray := prog_4_method_5_code
def yX2_isSeen : MethodName := ⟨RX2, "isSeen", "(II)Z"⟩
abbrev cX2_goRound : ByteArray := prog_4_method_6_code
def yX2_goRound : MethodName := ⟨RX2, "goRound", "(LSignBench$Table;II)V"⟩
abbrev cX2_follow : ByteArray := prog_4_method_7_code
def yX2_follow : MethodName := ⟨RX2, "follow", "(LSignBench$Table;)Z"⟩
abbrev cX2_nextHeldSide : ByteArray := prog_4_method_8_code
def yX2_nextHeldSide : MethodName := ⟨RX2, "nextHeldSide", "(LSignBench$Table;I)I"⟩
abbrev cX2_goToEnd : ByteArray := prog_4_method_9_code
def yX2_goToEnd : MethodName := ⟨RX2, "goToEnd", "(II)V"⟩
abbrev cX2_endHere : ByteArray := prog_4_method_10_code
def yX2_endHere : MethodName := ⟨RX2, "endHere", "(I)I"⟩
def RX3 : String := "SignBench$Numbering"
def TX3 : u_T := fun k => match k with
  | 0 => ("SignBench$Numbering", "ways", "[J", true)
  | 1 => ("SignBench$Numbering", "known", "[Z", true)
  | _ => ("SignBench$Numbering", "walk", "LSignBench$RowWalk;", true)
def tyX3 : Nat → FieldType := fun k => match k with
  | 0 => .array .long
  | 1 => .array .boolean
  | _ => .object "SignBench$RowWalk"
abbrev wsX30 : List Cond := u_ws RX3 TX3 3
theorem nmX3 : ∀ a, a < 3 → ∀ b, b < 3 → a ≠ b → (TX3 a).2.1 ≠ (TX3 b).2.1 := by decide +kernel
theorem tyX3_ok : ∀ k, k < 3 → parseFieldDescriptor (TX3 k).2.2.1 = some (tyX3 k) := by decide +kernel
abbrev cX3_init : ByteArray := prog_5_method_1_code
def yX3_init : MethodName := ⟨RX3, "<init>", "()V"⟩
abbrev cX3_numberOf : ByteArray := prog_5_method_2_code
def yX3_numberOf : MethodName := ⟨RX3, "numberOf", "(LSignBench$Table;)J"⟩
abbrev cX3_build : ByteArray := prog_5_method_3_code
def yX3_build : MethodName := ⟨RX3, "build", "(LSignBench$Table;IJ)V"⟩
abbrev cX3_passWays : ByteArray := prog_5_method_4_code
def yX3_passWays : MethodName := ⟨RX3, "passWays", "(IJ)J"⟩
abbrev cX3_waysBefore : ByteArray := prog_5_method_5_code
def yX3_waysBefore : MethodName := ⟨RX3, "waysBefore", "(III)J"⟩
abbrev cX3_learnWays : ByteArray := prog_5_method_6_code
def yX3_learnWays : MethodName := ⟨RX3, "learnWays", "(I)V"⟩
def RX4 : String := "SignBench$RowWalk"
def TX4 : u_T := fun k => match k with
  | 0 => ("SignBench$RowWalk", "least", "[I", true)
  | 1 => ("SignBench$RowWalk", "greatest", "[I", true)
  | 2 => ("SignBench$RowWalk", "columns", "[I", true)
  | 3 => ("SignBench$RowWalk", "n", "I", false)
  | 4 => ("SignBench$RowWalk", "many", "I", false)
  | _ => ("SignBench$RowWalk", "bits", "I", false)
def tyX4 : Nat → FieldType := fun k => match k with
  | 0 => .array .int
  | 1 => .array .int
  | 2 => .array .int
  | 3 => .int
  | 4 => .int
  | _ => .int
abbrev wsX40 : List Cond := u_ws RX4 TX4 6
theorem nmX4 : ∀ a, a < 6 → ∀ b, b < 6 → a ≠ b → (TX4 a).2.1 ≠ (TX4 b).2.1 := by decide +kernel
theorem tyX4_ok : ∀ k, k < 6 → parseFieldDescriptor (TX4 k).2.2.1 = some (tyX4 k) := by decide +kernel
abbrev cX4_init : ByteArray := prog_6_method_1_code
def yX4_init : MethodName := ⟨RX4, "<init>", "()V"⟩
abbrev cX4_start : ByteArray := prog_6_method_2_code
def yX4_start : MethodName := ⟨RX4, "start", "(II)V"⟩
abbrev cX4_advance : ByteArray := prog_6_method_3_code
def yX4_advance : MethodName := ⟨RX4, "advance", "()Z"⟩
abbrev cX4_layFrom : ByteArray := prog_6_method_4_code
def yX4_layFrom : MethodName := ⟨RX4, "layFrom", "(II)V"⟩
abbrev cX4_bitOf : ByteArray := prog_6_method_5_code
def yX4_bitOf : MethodName := ⟨RX4, "bitOf", "(I)I"⟩
def RX5 : String := "SignBench$Table"
def TX5 : u_T := fun k => match k with
  | 0 => ("SignBench$Table", "corners", "[I", true)
  | _ => ("SignBench$Table", "n", "I", false)
def tyX5 : Nat → FieldType := fun k => match k with
  | 0 => .array .int
  | _ => .int
abbrev wsX50 : List Cond := u_ws RX5 TX5 2
theorem nmX5 : ∀ a, a < 2 → ∀ b, b < 2 → a ≠ b → (TX5 a).2.1 ≠ (TX5 b).2.1 := by decide +kernel
theorem tyX5_ok : ∀ k, k < 2 → parseFieldDescriptor (TX5 k).2.2.1 = some (tyX5 k) := by decide +kernel
abbrev cX5_init : ByteArray := prog_7_method_1_code
def yX5_init : MethodName := ⟨RX5, "<init>", "()V"⟩
abbrev cX5_corner : ByteArray := prog_7_method_2_code
def yX5_corner : MethodName := ⟨RX5, "corner", "(II)I"⟩
abbrev cX5_entry : ByteArray := prog_7_method_3_code
def yX5_entry : MethodName := ⟨RX5, "entry", "(II)I"⟩
abbrev cX5_triangleColumn : ByteArray := prog_7_method_4_code
def yX5_triangleColumn : MethodName := ⟨RX5, "triangleColumn", "(II)I"⟩
abbrev cX5_rowBits : ByteArray := prog_7_method_5_code
def yX5_rowBits : MethodName := ⟨RX5, "rowBits", "(I)I"⟩
abbrev cX5_hasEdge : ByteArray := prog_7_method_6_code
def yX5_hasEdge : MethodName := ⟨RX5, "hasEdge", "(ZII)Z"⟩
abbrev cX5_edgeSum : ByteArray := prog_7_method_7_code
def yX5_edgeSum : MethodName := ⟨RX5, "edgeSum", "(ZII)I"⟩
abbrev cX5_holds : ByteArray := prog_7_method_8_code
def yX5_holds : MethodName := ⟨RX5, "holds", "(ZII)Z"⟩
abbrev cX5_minusOnes : ByteArray := prog_7_method_9_code
def yX5_minusOnes : MethodName := ⟨RX5, "minusOnes", "()I"⟩
abbrev cX5_kindOf : ByteArray := prog_7_method_10_code
def yX5_kindOf : MethodName := ⟨RX5, "kindOf", "()I"⟩
abbrev cX5_staysWhen : ByteArray := prog_7_method_11_code
def yX5_staysWhen : MethodName := ⟨RX5, "staysWhen", "(I)Z"⟩
abbrev cX5_movedEntry : ByteArray := prog_7_method_12_code
def yX5_movedEntry : MethodName := ⟨RX5, "movedEntry", "(III)I"⟩
abbrev cX5_isBelow : ByteArray := prog_7_method_13_code
def yX5_isBelow : MethodName := ⟨RX5, "isBelow", "(LSignBench$Table;)Z"⟩
abbrev cX5_stepsTo : ByteArray := prog_7_method_14_code
def yX5_stepsTo : MethodName := ⟨RX5, "stepsTo", "(LSignBench$Table;)I"⟩
abbrev cX5_stepToward : ByteArray := prog_7_method_15_code
def yX5_stepToward : MethodName := ⟨RX5, "stepToward", "(LSignBench$Table;)I"⟩
abbrev cX5_shift : ByteArray := prog_7_method_16_code
def yX5_shift : MethodName := ⟨RX5, "shift", "(III)Z"⟩
abbrev cX5_rises : ByteArray := prog_7_method_17_code
def yX5_rises : MethodName := ⟨RX5, "rises", "(II)Z"⟩
abbrev cX5_turnSquares : ByteArray := prog_7_method_18_code
def yX5_turnSquares : MethodName := ⟨RX5, "turnSquares", "(I)V"⟩
abbrev cX5_become : ByteArray := prog_7_method_19_code
def yX5_become : MethodName := ⟨RX5, "become", "(LSignBench$Table;)V"⟩
abbrev cX5_becomeExtreme : ByteArray := prog_7_method_20_code
def yX5_becomeExtreme : MethodName := ⟨RX5, "becomeExtreme", "(LSignBench$Table;LSignBench$Table;Z)V"⟩
abbrev cX5_becomeMoved : ByteArray := prog_7_method_21_code
def yX5_becomeMoved : MethodName := ⟨RX5, "becomeMoved", "(LSignBench$Table;I)V"⟩
abbrev cX5_layRow : ByteArray := prog_7_method_22_code
def yX5_layRow : MethodName := ⟨RX5, "layRow", "(II)V"⟩
def RX6 : String := "SignBench"
def TX6 : u_T := fun k => match k with
  | 0 => ("SignBench", "tables", "[LSignBench$Table;", true)
  | 1 => ("SignBench", "spare", "LSignBench$Table;", true)
  | 2 => ("SignBench", "draft", "LSignBench$Draft;", true)
  | 3 => ("SignBench", "numbering", "LSignBench$Numbering;", true)
  | 4 => ("SignBench", "loops", "LSignBench$Loops;", true)
  | _ => ("SignBench", "joinings", "LSignBench$Joinings;", true)
def tyX6 : Nat → FieldType := fun k => match k with
  | 0 => .array (.object "SignBench$Table")
  | 1 => .object "SignBench$Table"
  | 2 => .object "SignBench$Draft"
  | 3 => .object "SignBench$Numbering"
  | 4 => .object "SignBench$Loops"
  | _ => .object "SignBench$Joinings"
abbrev wsX60 : List Cond := u_ws RX6 TX6 6
theorem nmX6 : ∀ a, a < 6 → ∀ b, b < 6 → a ≠ b → (TX6 a).2.1 ≠ (TX6 b).2.1 := by decide +kernel
theorem tyX6_ok : ∀ k, k < 6 → parseFieldDescriptor (TX6 k).2.2.1 = some (tyX6 k) := by decide +kernel
abbrev cX6_init : ByteArray := prog_1_method_1_code
def yX6_init : MethodName := ⟨RX6, "<init>", "()V"⟩
abbrev cX6_begin : ByteArray := prog_1_method_2_code
def yX6_begin : MethodName := ⟨RX6, "begin", "(II)Z"⟩
abbrev cX6_put : ByteArray := prog_1_method_3_code
def yX6_put : MethodName := ⟨RX6, "put", "(III)Z"⟩
abbrev cX6_fault : ByteArray := prog_1_method_4_code
def yX6_fault : MethodName := ⟨RX6, "fault", "()I"⟩
abbrev cX6_take : ByteArray := prog_1_method_5_code
def yX6_take : MethodName := ⟨RX6, "take", "(I)Z"⟩
abbrev cX6_size : ByteArray := prog_1_method_6_code
def yX6_size : MethodName := ⟨RX6, "size", "(I)I"⟩
abbrev cX6_at : ByteArray := prog_1_method_7_code
def yX6_at : MethodName := ⟨RX6, "at", "(III)I"⟩
abbrev cX6_sum : ByteArray := prog_1_method_8_code
def yX6_sum : MethodName := ⟨RX6, "sum", "(III)I"⟩
abbrev cX6_triangle : ByteArray := prog_1_method_9_code
def yX6_triangle : MethodName := ⟨RX6, "triangle", "(III)I"⟩
abbrev cX6_arrow : ByteArray := prog_1_method_10_code
def yX6_arrow : MethodName := ⟨RX6, "arrow", "(IZII)I"⟩
abbrev cX6_held : ByteArray := prog_1_method_11_code
def yX6_held : MethodName := ⟨RX6, "held", "(IZII)I"⟩
abbrev cX6_link : ByteArray := prog_1_method_12_code
def yX6_link : MethodName := ⟨RX6, "link", "(II)I"⟩
abbrev cX6_rings : ByteArray := prog_1_method_13_code
def yX6_rings : MethodName := ⟨RX6, "rings", "(I)I"⟩
abbrev cX6_kind : ByteArray := prog_1_method_14_code
def yX6_kind : MethodName := ⟨RX6, "kind", "(I)I"⟩
abbrev cX6_less : ByteArray := prog_1_method_15_code
def yX6_less : MethodName := ⟨RX6, "less", "(I)I"⟩
abbrev cX6_count : ByteArray := prog_1_method_16_code
def yX6_count : MethodName := ⟨RX6, "count", "(I)J"⟩
abbrev cX6_first : ByteArray := prog_1_method_17_code
def yX6_first : MethodName := ⟨RX6, "first", "(II)J"⟩
abbrev cX6_weight : ByteArray := prog_1_method_18_code
def yX6_weight : MethodName := ⟨RX6, "weight", "(I)J"⟩
abbrev cX6_number : ByteArray := prog_1_method_19_code
def yX6_number : MethodName := ⟨RX6, "number", "(I)J"⟩
abbrev cX6_of : ByteArray := prog_1_method_20_code
def yX6_of : MethodName := ⟨RX6, "of", "(IIJ)Z"⟩
abbrev cX6_draw : ByteArray := prog_1_method_21_code
def yX6_draw : MethodName := ⟨RX6, "draw", "(IIJ)I"⟩
abbrev cX6_both : ByteArray := prog_1_method_22_code
def yX6_both : MethodName := ⟨RX6, "both", "(III)Z"⟩
abbrev cX6_either : ByteArray := prog_1_method_23_code
def yX6_either : MethodName := ⟨RX6, "either", "(III)Z"⟩
abbrev cX6_below : ByteArray := prog_1_method_24_code
def yX6_below : MethodName := ⟨RX6, "below", "(II)Z"⟩
abbrev cX6_apart : ByteArray := prog_1_method_25_code
def yX6_apart : MethodName := ⟨RX6, "apart", "(II)I"⟩
abbrev cX6_step : ByteArray := prog_1_method_26_code
def yX6_step : MethodName := ⟨RX6, "step", "(IIIZ)Z"⟩
abbrev cX6_toward : ByteArray := prog_1_method_27_code
def yX6_toward : MethodName := ⟨RX6, "toward", "(II)I"⟩
abbrev cX6_turn : ByteArray := prog_1_method_28_code
def yX6_turn : MethodName := ⟨RX6, "turn", "(I)Z"⟩
abbrev cX6_move : ByteArray := prog_1_method_29_code
def yX6_move : MethodName := ⟨RX6, "move", "(II)Z"⟩
abbrev cX6_alike : ByteArray := prog_1_method_30_code
def yX6_alike : MethodName := ⟨RX6, "alike", "(I)I"⟩
abbrev cX6_learnJoinings : ByteArray := prog_1_method_31_code
def yX6_learnJoinings : MethodName := ⟨RX6, "learnJoinings", "(I)V"⟩
abbrev cX6_tableOf : ByteArray := prog_1_method_32_code
def yX6_tableOf : MethodName := ⟨RX6, "tableOf", "(I)LSignBench$Table;"⟩
abbrev cX6_areOfOneSize : ByteArray := prog_1_method_33_code
def yX6_areOfOneSize : MethodName := ⟨RX6, "areOfOneSize", "(II)Z"⟩
abbrev cX6_isSize : ByteArray := prog_1_method_34_code
def yX6_isSize : MethodName := ⟨RX6, "isSize", "(I)Z"⟩
abbrev cX6_isWithin : ByteArray := prog_1_method_35_code
def yX6_isWithin : MethodName := ⟨RX6, "isWithin", "(III)Z"⟩
abbrev cX6_timesRatio : ByteArray := prog_1_method_36_code
def yX6_timesRatio : MethodName := ⟨RX6, "timesRatio", "(JII)J"⟩
abbrev cX6_bitsUpTo : ByteArray := prog_1_method_37_code
def yX6_bitsUpTo : MethodName := ⟨RX6, "bitsUpTo", "(J)J"⟩
def RX7 : String := "SignBenchModel"
def TX7 : u_T := fun k => match k with
  | 0 => ("SignBenchModel", "thrown", "I", false)
  | 1 => ("SignBenchModel", "sizes", "[I", true)
  | 2 => ("SignBenchModel", "tables", "[I", true)
  | 3 => ("SignBenchModel", "sort", "I", false)
  | 4 => ("SignBenchModel", "many", "I", false)
  | 5 => ("SignBenchModel", "draft", "[I", true)
  | 6 => ("SignBenchModel", "toI", "I", false)
  | 7 => ("SignBenchModel", "toJ", "I", false)
  | 8 => ("SignBenchModel", "seen", "[Z", true)
  | 9 => ("SignBenchModel", "ways", "[J", true)
  | 10 => ("SignBenchModel", "waysOf", "I", false)
  | 11 => ("SignBenchModel", "corners", "[I", true)
  | 12 => ("SignBenchModel", "level", "[Z", true)
  | _ => ("SignBenchModel", "upright", "[Z", true)
def tyX7 : Nat → FieldType := fun k => match k with
  | 0 => .int
  | 1 => .array .int
  | 2 => .array .int
  | 3 => .int
  | 4 => .int
  | 5 => .array .int
  | 6 => .int
  | 7 => .int
  | 8 => .array .boolean
  | 9 => .array .long
  | 10 => .int
  | 11 => .array .int
  | 12 => .array .boolean
  | _ => .array .boolean
abbrev wsX70 : List Cond := u_ws RX7 TX7 14
theorem nmX7 : ∀ a, a < 14 → ∀ b, b < 14 → a ≠ b → (TX7 a).2.1 ≠ (TX7 b).2.1 := by decide +kernel
theorem tyX7_ok : ∀ k, k < 14 → parseFieldDescriptor (TX7 k).2.2.1 = some (tyX7 k) := by decide +kernel
abbrev cX7_init : ByteArray := prog_9_method_1_code
def yX7_init : MethodName := ⟨RX7, "<init>", "()V"⟩
abbrev cX7_isPlace : ByteArray := prog_9_method_3_code
def yX7_isPlace : MethodName := ⟨RX7, "isPlace", "(I)Z"⟩
abbrev cX7_knows : ByteArray := prog_9_method_4_code
def yX7_knows : MethodName := ⟨RX7, "knows", "(I)Z"⟩
abbrev cX7_a : ByteArray := prog_9_method_5_code
def yX7_a : MethodName := ⟨RX7, "a", "(III)I"⟩
abbrev cX7_a_ : ByteArray := prog_9_method_6_code
def yX7_a_ : MethodName := ⟨RX7, "a", "(IIII)V"⟩
abbrev cX7_begin : ByteArray := prog_9_method_7_code
def yX7_begin : MethodName := ⟨RX7, "begin", "(II)Z"⟩
abbrev cX7_put : ByteArray := prog_9_method_8_code
def yX7_put : MethodName := ⟨RX7, "put", "(III)Z"⟩
abbrev cX7_d : ByteArray := prog_9_method_9_code
def yX7_d : MethodName := ⟨RX7, "d", "(II)I"⟩
abbrev cX7_isRight : ByteArray := prog_9_method_10_code
def yX7_isRight : MethodName := ⟨RX7, "isRight", "(IZ)Z"⟩
abbrev cX7_faultOfSums : ByteArray := prog_9_method_11_code
def yX7_faultOfSums : MethodName := ⟨RX7, "faultOfSums", "()I"⟩
abbrev cX7_faultOfTriangle : ByteArray := prog_9_method_12_code
def yX7_faultOfTriangle : MethodName := ⟨RX7, "faultOfTriangle", "()I"⟩
abbrev cX7_fault : ByteArray := prog_9_method_13_code
def yX7_fault : MethodName := ⟨RX7, "fault", "()I"⟩
abbrev cX7_take : ByteArray := prog_9_method_14_code
def yX7_take : MethodName := ⟨RX7, "take", "(I)Z"⟩
abbrev cX7_inRow : ByteArray := prog_9_method_15_code
def yX7_inRow : MethodName := ⟨RX7, "inRow", "(II)I"⟩
abbrev cX7_size : ByteArray := prog_9_method_16_code
def yX7_size : MethodName := ⟨RX7, "size", "(I)I"⟩
abbrev cX7_isIn : ByteArray := prog_9_method_17_code
def yX7_isIn : MethodName := ⟨RX7, "isIn", "(IIII)Z"⟩
abbrev cX7_at : ByteArray := prog_9_method_18_code
def yX7_at : MethodName := ⟨RX7, "at", "(III)I"⟩
abbrev cX7_corner : ByteArray := prog_9_method_19_code
def yX7_corner : MethodName := ⟨RX7, "corner", "(III)I"⟩
abbrev cX7_sum : ByteArray := prog_9_method_20_code
def yX7_sum : MethodName := ⟨RX7, "sum", "(III)I"⟩
abbrev cX7_rowOf : ByteArray := prog_9_method_21_code
def yX7_rowOf : MethodName := ⟨RX7, "rowOf", "(II)I"⟩
abbrev cX7_nth : ByteArray := prog_9_method_22_code
def yX7_nth : MethodName := ⟨RX7, "nth", "(II)I"⟩
abbrev cX7_triangle : ByteArray := prog_9_method_23_code
def yX7_triangle : MethodName := ⟨RX7, "triangle", "(III)I"⟩
abbrev cX7_points : ByteArray := prog_9_method_24_code
def yX7_points : MethodName := ⟨RX7, "points", "(IZII)Z"⟩
abbrev cX7_isEdge : ByteArray := prog_9_method_25_code
def yX7_isEdge : MethodName := ⟨RX7, "isEdge", "(IZII)Z"⟩
abbrev cX7_arrow : ByteArray := prog_9_method_26_code
def yX7_arrow : MethodName := ⟨RX7, "arrow", "(IZII)I"⟩
abbrev cX7_isHeld : ByteArray := prog_9_method_27_code
def yX7_isHeld : MethodName := ⟨RX7, "isHeld", "(IZII)Z"⟩
abbrev cX7_held : ByteArray := prog_9_method_28_code
def yX7_held : MethodName := ⟨RX7, "held", "(IZII)I"⟩
abbrev cX7_edge : ByteArray := prog_9_method_29_code
def yX7_edge : MethodName := ⟨RX7, "edge", "(ZII)I"⟩
abbrev cX7_end : ByteArray := prog_9_method_30_code
def yX7_end : MethodName := ⟨RX7, "end", "(II)I"⟩
abbrev cX7_next : ByteArray := prog_9_method_31_code
def yX7_next : MethodName := ⟨RX7, "next", "(IIII)I"⟩
abbrev cX7_isInside : ByteArray := prog_9_method_32_code
def yX7_isInside : MethodName := ⟨RX7, "isInside", "(III)Z"⟩
abbrev cX7_leaves : ByteArray := prog_9_method_33_code
def yX7_leaves : MethodName := ⟨RX7, "leaves", "(II)I"⟩
abbrev cX7_joined : ByteArray := prog_9_method_34_code
def yX7_joined : MethodName := ⟨RX7, "joined", "(II)I"⟩
abbrev cX7_link : ByteArray := prog_9_method_35_code
def yX7_link : MethodName := ⟨RX7, "link", "(II)I"⟩
abbrev cX7_rings : ByteArray := prog_9_method_36_code
def yX7_rings : MethodName := ⟨RX7, "rings", "(I)I"⟩
abbrev cX7_stays : ByteArray := prog_9_method_37_code
def yX7_stays : MethodName := ⟨RX7, "stays", "(II)Z"⟩
abbrev cX7_lessOf : ByteArray := prog_9_method_38_code
def yX7_lessOf : MethodName := ⟨RX7, "lessOf", "(I)I"⟩
abbrev cX7_kind : ByteArray := prog_9_method_39_code
def yX7_kind : MethodName := ⟨RX7, "kind", "(I)I"⟩
abbrev cX7_less : ByteArray := prog_9_method_40_code
def yX7_less : MethodName := ⟨RX7, "less", "(I)I"⟩
abbrev cX7_bits : ByteArray := prog_9_method_41_code
def yX7_bits : MethodName := ⟨RX7, "bits", "(I)I"⟩
abbrev cX7_fits : ByteArray := prog_9_method_42_code
def yX7_fits : MethodName := ⟨RX7, "fits", "(II)Z"⟩
abbrev cX7_work : ByteArray := prog_9_method_43_code
def yX7_work : MethodName := ⟨RX7, "work", "(I)V"⟩
abbrev cX7_below : ByteArray := prog_9_method_44_code
def yX7_below : MethodName := ⟨RX7, "below", "(IIIII)J"⟩
abbrev cX7_all : ByteArray := prog_9_method_45_code
def yX7_all : MethodName := ⟨RX7, "all", "(I)J"⟩
abbrev cX7_count : ByteArray := prog_9_method_46_code
def yX7_count : MethodName := ⟨RX7, "count", "(I)J"⟩
abbrev cX7_first : ByteArray := prog_9_method_47_code
def yX7_first : MethodName := ⟨RX7, "first", "(II)J"⟩
abbrev cX7_weight : ByteArray := prog_9_method_48_code
def yX7_weight : MethodName := ⟨RX7, "weight", "(I)J"⟩
abbrev cX7_isAhead : ByteArray := prog_9_method_49_code
def yX7_isAhead : MethodName := ⟨RX7, "isAhead", "(II)Z"⟩
abbrev cX7_mayFollow : ByteArray := prog_9_method_50_code
def yX7_mayFollow : MethodName := ⟨RX7, "mayFollow", "(III)Z"⟩
abbrev cX7_numberOf : ByteArray := prog_9_method_51_code
def yX7_numberOf : MethodName := ⟨RX7, "numberOf", "(I)J"⟩
abbrev cX7_number : ByteArray := prog_9_method_52_code
def yX7_number : MethodName := ⟨RX7, "number", "(I)J"⟩
abbrev cX7_becomes : ByteArray := prog_9_method_53_code
def yX7_becomes : MethodName := ⟨RX7, "becomes", "(IIJ)V"⟩
abbrev cX7_firstRow : ByteArray := prog_9_method_54_code
def yX7_firstRow : MethodName := ⟨RX7, "firstRow", "(III)I"⟩
abbrev cX7_nextRow : ByteArray := prog_9_method_55_code
def yX7_nextRow : MethodName := ⟨RX7, "nextRow", "(IIII)I"⟩
abbrev cX7_of : ByteArray := prog_9_method_56_code
def yX7_of : MethodName := ⟨RX7, "of", "(IIJ)Z"⟩
abbrev cX7_draw : ByteArray := prog_9_method_57_code
def yX7_draw : MethodName := ⟨RX7, "draw", "(IIJ)I"⟩
abbrev cX7_fromCorners : ByteArray := prog_9_method_58_code
def yX7_fromCorners : MethodName := ⟨RX7, "fromCorners", "(II)V"⟩
abbrev cX7_meets : ByteArray := prog_9_method_59_code
def yX7_meets : MethodName := ⟨RX7, "meets", "(IIIZ)Z"⟩
abbrev cX7_both : ByteArray := prog_9_method_60_code
def yX7_both : MethodName := ⟨RX7, "both", "(III)Z"⟩
abbrev cX7_either : ByteArray := prog_9_method_61_code
def yX7_either : MethodName := ⟨RX7, "either", "(III)Z"⟩
abbrev cX7_below_ : ByteArray := prog_9_method_62_code
def yX7_below_ : MethodName := ⟨RX7, "below", "(II)Z"⟩
abbrev cX7_apart : ByteArray := prog_9_method_63_code
def yX7_apart : MethodName := ⟨RX7, "apart", "(II)I"⟩
abbrev cX7_mayBe : ByteArray := prog_9_method_64_code
def yX7_mayBe : MethodName := ⟨RX7, "mayBe", "(IIII)Z"⟩
abbrev cX7_changes : ByteArray := prog_9_method_65_code
def yX7_changes : MethodName := ⟨RX7, "changes", "(IIII)V"⟩
abbrev cX7_step : ByteArray := prog_9_method_66_code
def yX7_step : MethodName := ⟨RX7, "step", "(IIIZ)Z"⟩
abbrev cX7_toward : ByteArray := prog_9_method_67_code
def yX7_toward : MethodName := ⟨RX7, "toward", "(II)I"⟩
abbrev cX7_turns : ByteArray := prog_9_method_68_code
def yX7_turns : MethodName := ⟨RX7, "turns", "(II)V"⟩
abbrev cX7_turn : ByteArray := prog_9_method_69_code
def yX7_turn : MethodName := ⟨RX7, "turn", "(I)Z"⟩
abbrev cX7_move : ByteArray := prog_9_method_70_code
def yX7_move : MethodName := ⟨RX7, "move", "(II)Z"⟩
abbrev cX7_alike : ByteArray := prog_9_method_71_code
def yX7_alike : MethodName := ⟨RX7, "alike", "(I)I"⟩
def RJ6 : String := "java/lang/Integer"
abbrev cJ6_compare_7cf53 : ByteArray := prog_10_method_40_code
def yJ6_compare_7cf53 : MethodName := ⟨RJ6, "compare", "(II)I"⟩
def RJ9 : String := "java/lang/Math"
abbrev cJ9_abs_0f7a4 : ByteArray := prog_11_method_59_code
def yJ9_abs_0f7a4 : MethodName := ⟨RJ9, "abs", "(I)I"⟩
abbrev cJ9_max_7cf53 : ByteArray := prog_11_method_65_code
def yJ9_max_7cf53 : MethodName := ⟨RJ9, "max", "(II)I"⟩
abbrev cJ9_min_7cf53 : ByteArray := prog_11_method_69_code
def yJ9_min_7cf53 : MethodName := ⟨RJ9, "min", "(II)I"⟩
def RJ10 : String := "java/lang/System"
def RL : String := "SignBenchLaw"
abbrev cL_law : ByteArray := code
def yL_law : MethodName := ⟨RL, "law", "([I)Z"⟩
abbrev vwCl : List vw_C := [(RX0, TX0, 3), (RX1, TX1, 2), (RX2, TX2, 5), (RX3, TX3, 3), (RX4, TX4, 6), (RX5, TX5, 2), (RX6, TX6, 6), (RX7, TX7, 14)]
