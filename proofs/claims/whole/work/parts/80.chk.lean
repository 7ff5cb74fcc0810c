/-! what the tables say of methods and classes, by program -/
def xyL : List MethodName := [yX0_init, yX0_clear, yX0_has, yX0_write, yX0_cell, yX0_firstFault, yX0_firstLineFault, yX0_alternates, yX0_firstCellFault, yX0_isCornerSum, yX0_isColumn, yX0_copyTo, yX0_triangleBits, yX1_init, yX1_knows, yX1_learn, yX1_finish, yX1_howMany, yX2_init, yX2_otherEnd, yX2_ringsOf, yX2_joiningOf, yX2_isSeen, yX2_goRound, yX2_follow, yX2_nextHeldSide, yX2_goToEnd, yX2_endHere, yX3_init, yX3_numberOf, yX3_build, yX3_passWays, yX3_waysBefore, yX3_learnWays, yX4_init, yX4_start, yX4_advance, yX4_layFrom, yX4_bitOf, yX5_init, yX5_corner, yX5_entry, yX5_triangleColumn, yX5_rowBits, yX5_hasEdge, yX5_edgeSum, yX5_holds, yX5_minusOnes, yX5_kindOf, yX5_staysWhen, yX5_movedEntry, yX5_isBelow, yX5_stepsTo, yX5_stepToward, yX5_shift, yX5_rises, yX5_turnSquares, yX5_become, yX5_becomeExtreme, yX5_becomeMoved, yX5_layRow, yX6_init, yX6_begin, yX6_put, yX6_fault, yX6_take, yX6_size, yX6_at, yX6_sum, yX6_triangle, yX6_arrow, yX6_held, yX6_link, yX6_rings, yX6_kind, yX6_less, yX6_count, yX6_first, yX6_weight, yX6_number, yX6_of, yX6_draw, yX6_both, yX6_either, yX6_below, yX6_apart, yX6_step, yX6_toward, yX6_turn, yX6_move, yX6_alike, yX6_learnJoinings, yX6_tableOf, yX6_areOfOneSize, yX6_isSize, yX6_isWithin, yX6_timesRatio, yX6_bitsUpTo, yX7_init, yX7_isPlace, yX7_knows, yX7_a, yX7_a_, yX7_begin, yX7_put, yX7_d, yX7_isRight, yX7_faultOfSums, yX7_faultOfTriangle, yX7_fault, yX7_take, yX7_inRow, yX7_size, yX7_isIn, yX7_at, yX7_corner, yX7_sum, yX7_rowOf, yX7_nth, yX7_triangle, yX7_points, yX7_isEdge, yX7_arrow, yX7_isHeld, yX7_held, yX7_edge, yX7_end, yX7_next, yX7_isInside, yX7_leaves, yX7_joined, yX7_link, yX7_rings, yX7_stays, yX7_lessOf, yX7_kind, yX7_less, yX7_bits, yX7_fits, yX7_work, yX7_below, yX7_all, yX7_count, yX7_first, yX7_weight, yX7_isAhead, yX7_mayFollow, yX7_numberOf, yX7_number, yX7_becomes, yX7_firstRow, yX7_nextRow, yX7_of, yX7_draw, yX7_fromCorners, yX7_meets, yX7_both, yX7_either, yX7_below_, yX7_apart, yX7_mayBe, yX7_changes, yX7_step, yX7_toward, yX7_turns, yX7_turn, yX7_move, yX7_alike, yJ6_compare_7cf53, yJ9_abs_0f7a4, yJ9_max_7cf53, yJ9_min_7cf53, yL_law]
def xy (id : Nat) : MethodName := xyL.getD id yL_law
def xbyL : List ByteArray := [cX0_init, cX0_clear, cX0_has, cX0_write, cX0_cell, cX0_firstFault, cX0_firstLineFault, cX0_alternates, cX0_firstCellFault, cX0_isCornerSum, cX0_isColumn, cX0_copyTo, cX0_triangleBits, cX1_init, cX1_knows, cX1_learn, cX1_finish, cX1_howMany, cX2_init, cX2_otherEnd, cX2_ringsOf, cX2_joiningOf, cX2_isSeen, cX2_goRound, cX2_follow, cX2_nextHeldSide, cX2_goToEnd, cX2_endHere, cX3_init, cX3_numberOf, cX3_build, cX3_passWays, cX3_waysBefore, cX3_learnWays, cX4_init, cX4_start, cX4_advance, cX4_layFrom, cX4_bitOf, cX5_init, cX5_corner, cX5_entry, cX5_triangleColumn, cX5_rowBits, cX5_hasEdge, cX5_edgeSum, cX5_holds, cX5_minusOnes, cX5_kindOf, cX5_staysWhen, cX5_movedEntry, cX5_isBelow, cX5_stepsTo, cX5_stepToward, cX5_shift, cX5_rises, cX5_turnSquares, cX5_become, cX5_becomeExtreme, cX5_becomeMoved, cX5_layRow, cX6_init, cX6_begin, cX6_put, cX6_fault, cX6_take, cX6_size, cX6_at, cX6_sum, cX6_triangle, cX6_arrow, cX6_held, cX6_link, cX6_rings, cX6_kind, cX6_less, cX6_count, cX6_first, cX6_weight, cX6_number, cX6_of, cX6_draw, cX6_both, cX6_either, cX6_below, cX6_apart, cX6_step, cX6_toward, cX6_turn, cX6_move, cX6_alike, cX6_learnJoinings, cX6_tableOf, cX6_areOfOneSize, cX6_isSize, cX6_isWithin, cX6_timesRatio, cX6_bitsUpTo, cX7_init, cX7_isPlace, cX7_knows, cX7_a, cX7_a_, cX7_begin, cX7_put, cX7_d, cX7_isRight, cX7_faultOfSums, cX7_faultOfTriangle, cX7_fault, cX7_take, cX7_inRow, cX7_size, cX7_isIn, cX7_at, cX7_corner, cX7_sum, cX7_rowOf, cX7_nth, cX7_triangle, cX7_points, cX7_isEdge, cX7_arrow, cX7_isHeld, cX7_held, cX7_edge, cX7_end, cX7_next, cX7_isInside, cX7_leaves, cX7_joined, cX7_link, cX7_rings, cX7_stays, cX7_lessOf, cX7_kind, cX7_less, cX7_bits, cX7_fits, cX7_work, cX7_below, cX7_all, cX7_count, cX7_first, cX7_weight, cX7_isAhead, cX7_mayFollow, cX7_numberOf, cX7_number, cX7_becomes, cX7_firstRow, cX7_nextRow, cX7_of, cX7_draw, cX7_fromCorners, cX7_meets, cX7_both, cX7_either, cX7_below_, cX7_apart, cX7_mayBe, cX7_changes, cX7_step, cX7_toward, cX7_turns, cX7_turn, cX7_move, cX7_alike, cJ6_compare_7cf53, cJ9_abs_0f7a4, cJ9_max_7cf53, cJ9_min_7cf53, cL_law]
def xby (id : Nat) : ByteArray := xbyL.getD id cL_law
def xretL : List (Option FieldType) := [none, none, some .boolean, none, some .int, some .int, some .int, some .boolean, some .int, some .boolean, some .boolean, none, some .int, none, some .boolean, none, none, some .int, none, some .int, some .int, some .long, some .boolean, none, some .boolean, some .int, none, some .int, none, some .long, none, some .long, some .long, none, none, none, some .boolean, none, some .int, none, some .int, some .int, some .int, some .int, some .boolean, some .int, some .boolean, some .int, some .int, some .boolean, some .int, some .boolean, some .int, some .int, some .boolean, some .boolean, none, none, none, none, none, none, some .boolean, some .boolean, some .int, some .boolean, some .int, some .int, some .int, some .int, some .int, some .int, some .int, some .int, some .int, some .int, some .long, some .long, some .long, some .long, some .boolean, some .int, some .boolean, some .boolean, some .boolean, some .int, some .boolean, some .int, some .boolean, some .boolean, some .int, none, some (.object "SignBench$Table"), some .boolean, some .boolean, some .boolean, some .long, some .long, none, some .boolean, some .boolean, some .int, none, some .boolean, some .boolean, some .int, some .boolean, some .int, some .int, some .int, some .boolean, some .int, some .int, some .boolean, some .int, some .int, some .int, some .int, some .int, some .int, some .boolean, some .boolean, some .int, some .boolean, some .int, some .int, some .int, some .int, some .boolean, some .int, some .int, some .int, some .int, some .boolean, some .int, some .int, some .int, some .int, some .boolean, none, some .long, some .long, some .long, some .long, some .long, some .boolean, some .boolean, some .long, some .long, none, some .int, some .int, some .boolean, some .int, none, some .boolean, some .boolean, some .boolean, some .boolean, some .int, some .boolean, none, some .boolean, some .int, none, some .boolean, some .boolean, some .int, some .int, some .int, some .int, some .int, some .boolean]
def xret (id : Nat) : Option FieldType := xretL.getD id none
def xcnL : List String := ["SignBench$Draft", "SignBench$Joinings", "SignBench$Loops", "SignBench$Numbering", "SignBench$RowWalk", "SignBench$Table", "SignBench", "SignBenchModel", "SignBenchLaw", "java/lang/Math", "java/lang/Integer"]
def xcn (c : Nat) : String := xcnL.getD c ""
def xT (ci : Nat) : u_T := match ci with
  | 0 => TX0
  | 1 => TX1
  | 2 => TX2
  | 3 => TX3
  | 4 => TX4
  | 5 => TX5
  | 6 => TX6
  | 7 => TX7
  | _ => TX0
def xty (ci : Nat) : Nat → FieldType := match ci with
  | 0 => tyX0
  | 1 => tyX1
  | 2 => tyX2
  | 3 => tyX3
  | 4 => tyX4
  | 5 => tyX5
  | 6 => tyX6
  | 7 => tyX7
  | _ => tyX0
def xNM : Nat := 173
def xLaw : Nat := 172
def xstC (t : Nat) : String × String × String := match t with
  | 0 => ("SignBench", "COUNTS", "[J")
  | 1 => ("SignBench$Loops", "DOWN", "[I")
  | 2 => ("SignBench$Loops", "ACROSS", "[I")
  | 3 => ("SignBench$Joinings", "STARTS", "[I")
  | _ => ("", "", "")
/-! ===== what is checked of the code by computing ===== -/
/-- the tables' words that a callee may ask for too -/
def xtb : List Cond := lw_tbl.filter goodWord
def xmem (w : Cond) : Bool := goodWord w && decide (w ∈ lw_tbl)
theorem xmem_in {w : Cond} (h : xmem w = true) : w ∈ xtb := by
  unfold xmem at h
  simp only [Bool.and_eq_true, decide_eq_true_eq] at h
  exact List.mem_filter.mpr ⟨h.2, h.1⟩
/-- links between nest mates: these go with the state -/
def xnest (w : Cond) : Bool := match w with
  | .fieldLinkNest _ _ _ _ _ _ => true
  | .methodLinkNest _ _ _ _ => true
  | _ => false
def xmemN (w : Cond) : Bool := xnest w && decide (w ∈ lw_tbl)
def xNs (U : State) : Prop := ∀ w ∈ lw_tbl, xnest w = true → va_Nw w U
theorem xNs.at {U : State} (h : xNs U) {w : Cond} (hw : xmemN w = true) : va_Nw w U := by
  unfold xmemN at hw
  simp only [Bool.and_eq_true, decide_eq_true_eq] at hw
  exact h w hw.2 hw.1
theorem xNs.warm {s U : State} (hW : s.WarmedH U.vm) (h : xNs s) : xNs U := by
  intro w hw hn
  have h0 := h w hw hn
  cases w <;> first | exact va_Nw.warmF hW h0 | exact va_Nw.warmM hW h0 | cases hn
theorem xNs.same {s U : State} (hv : s.vm = U.vm) (h : xNs s) : xNs U := by
  intro w hw hn
  have h0 := h w hw hn
  cases w <;> first | exact va_Nw.same rfl hv h0 | cases hn
def xci1 (id pc : Nat) (i : Instr) : Bool := match i with
  | .tableswitch _ _ _ _ => (match decode (xby id) pc with
    | .ok (j, _) => decide (j = i)
    | _ => false)
  | .lookupswitch _ _ => (match decode (xby id) pc with
    | .ok (j, _) => decide (j = i)
    | _ => false)
  | _ => decide (decode (xby id) pc = .ok (i, xilen i))
def xjok (pc : Nat) (o : Int) : Bool := decide (0 ≤ (pc : Int) + o)
def xrnk (id lv : Nat) : Nat := xdep id + (match id == xBelow with
  | true => lv
  | false => 0)
def xrkok (id d : Nat) : Bool := match d == xBelow, id == xBelow with
  | true, true => true
  | true, false => Nat.blt (xdep xBelow + 13) (xdep id)
  | false, true => false
  | false, false => Nat.blt (xdep d) (xdep id)
def xkok (id c idx kd : Nat) : Bool := match xcalL c idx with
  | some d => xkd d == kd && xrkok id d && Nat.blt d xLaw
  | none => false
def xci2 (id pc : Nat) (i : Instr) : Bool := match i with
  | .bipush n => decide ((Int8.ofInt n).toInt32 = Int32.ofInt n)
  | .sipush n => decide ((Int16.ofInt n).toInt32 = Int32.ofInt n)
  | .istore j => Nat.blt j (xmaxL id)
  | .astore j => Nat.blt j (xmaxL id)
  | .iinc j _ => Nat.blt j (xmaxL id)
  | .istore_n j => Nat.blt j (xmaxL id)
  | .astore_n j => Nat.blt j (xmaxL id)
  | .lstore j => Nat.blt (j + 1) (xmaxL id)
  | .lstore_n j => Nat.blt (j + 1) (xmaxL id)
  | .goto o => xjok pc o
  | .ifCond _ o => xjok pc o
  | .if_icmp _ o => xjok pc o
  | .ifnull o => xjok pc o
  | .ifnonnull o => xjok pc o
  | .tableswitch d lo hi os => xjok pc d && os.toList.all (xjok pc) && decide (hi = lo + os.size - 1) && decide (-2147483648 ≤ lo) && decide (hi < 2147483648)
  | .lookupswitch d ps => xjok pc d && ps.toList.all (fun q => xjok pc q.2 && decide (-2147483648 ≤ q.1) && decide (q.1 < 2147483648)) && (ps.toList.zip (ps.toList.drop 1)).all (fun (a, next) => a.1 < next.1)
  | .putfield idx => (match xfld (xown id) idx with
    | some (ci, f) => !(xT ci f).2.2.2 || (xkd id == 2 && decide ((xT ci f).1 = xcn (xown id)))
    | none => false)
  | .ireturn => (match xrz id with
    | true => decide (xret id = some .boolean)
    | false => decide (xret id = some .int))
  | .lreturn => decide (xret id = some .long)
  | .areturn => (match xret id with
    | some (.object _) => true
    | _ => false)
  | .return_ => decide (xret id = none)
  | .anewarray idx => xmem (.classLink (xcn (xown id)) idx "SignBench$Table")
  | .newarray t => xmem (.arrayClass (newarray.typeOf t)) && Nat.blt 0 (xatk t)
  | .invokevirtual idx => xkok id (xown id) idx 0
  | .invokestatic idx => (match xcpy (xown id) idx with
    | true => Nat.blt 0 (xdep id) && xmem (.methodLink (xcn (xown id)) idx arraycopyName) 
    | false => xkok id (xown id) idx 1)
  | .invokespecial idx => (match xobj (xown id) idx with
    | true => Nat.blt 0 (xdep id) && xmem (.methodLink (xcn (xown id)) idx objectInit)
    | false => xkok id (xown id) idx 2)
  | _ => true
def xchkL (id : Nat) : Nat → List Instr → Bool
  | _, [] => true
  | pc, i :: is => xci1 id pc i && xci2 id pc i && xchkL id (pc + xilen i) is
def xchk (id : Nat) : Bool := (xcode id).all (fun q => xchkL id q.1 q.2)
set_option maxRecDepth 100000 in
theorem xchk_0 : ((List.range 12).all fun q => xchk (0 + q)) = true := by decide +kernel
set_option maxRecDepth 100000 in
theorem xchk_12 : ((List.range 13).all fun q => xchk (12 + q)) = true := by decide +kernel
set_option maxRecDepth 100000 in
theorem xchk_25 : ((List.range 10).all fun q => xchk (25 + q)) = true := by decide +kernel
set_option maxRecDepth 100000 in
theorem xchk_35 : ((List.range 14).all fun q => xchk (35 + q)) = true := by decide +kernel
set_option maxRecDepth 100000 in
theorem xchk_49 : ((List.range 11).all fun q => xchk (49 + q)) = true := by decide +kernel
set_option maxRecDepth 100000 in
theorem xchk_60 : ((List.range 18).all fun q => xchk (60 + q)) = true := by decide +kernel
set_option maxRecDepth 100000 in
theorem xchk_78 : ((List.range 18).all fun q => xchk (78 + q)) = true := by decide +kernel
set_option maxRecDepth 100000 in
theorem xchk_96 : ((List.range 11).all fun q => xchk (96 + q)) = true := by decide +kernel
set_option maxRecDepth 100000 in
theorem xchk_107 : ((List.range 7).all fun q => xchk (107 + q)) = true := by decide +kernel
set_option maxRecDepth 100000 in
theorem xchk_114 : ((List.range 12).all fun q => xchk (114 + q)) = true := by decide +kernel
set_option maxRecDepth 100000 in
theorem xchk_126 : ((List.range 6).all fun q => xchk (126 + q)) = true := by decide +kernel
set_option maxRecDepth 100000 in
theorem xchk_132 : ((List.range 8).all fun q => xchk (132 + q)) = true := by decide +kernel
set_option maxRecDepth 100000 in
theorem xchk_140 : ((List.range 12).all fun q => xchk (140 + q)) = true := by decide +kernel
set_option maxRecDepth 100000 in
theorem xchk_152 : ((List.range 8).all fun q => xchk (152 + q)) = true := by decide +kernel
set_option maxRecDepth 100000 in
theorem xchk_160 : ((List.range 4).all fun q => xchk (160 + q)) = true := by decide +kernel
set_option maxRecDepth 100000 in
theorem xchk_164 : ((List.range 3).all fun q => xchk (164 + q)) = true := by decide +kernel
set_option maxRecDepth 100000 in
theorem xchk_167 : ((List.range 5).all fun q => xchk (167 + q)) = true := by decide +kernel
theorem xchk_ok {id : Nat} (h : id < 172) : xchk id = true := by
  have use : ∀ {a n : Nat}, ((List.range n).all fun q => xchk (a + q)) = true → a ≤ id → id < a + n → xchk id = true := by
    intro a n h h1 h2
    have := List.all_eq_true.mp h (id - a) (List.mem_range.mpr (by omega))
    rwa [Nat.add_sub_cancel' h1] at this
  rcases Nat.lt_or_ge id 12 with q | q
  · exact use xchk_0 (by omega) (by omega)
  rcases Nat.lt_or_ge id 25 with q | q
  · exact use xchk_12 (by omega) (by omega)
  rcases Nat.lt_or_ge id 35 with q | q
  · exact use xchk_25 (by omega) (by omega)
  rcases Nat.lt_or_ge id 49 with q | q
  · exact use xchk_35 (by omega) (by omega)
  rcases Nat.lt_or_ge id 60 with q | q
  · exact use xchk_49 (by omega) (by omega)
  rcases Nat.lt_or_ge id 78 with q | q
  · exact use xchk_60 (by omega) (by omega)
  rcases Nat.lt_or_ge id 96 with q | q
  · exact use xchk_78 (by omega) (by omega)
  rcases Nat.lt_or_ge id 107 with q | q
  · exact use xchk_96 (by omega) (by omega)
  rcases Nat.lt_or_ge id 114 with q | q
  · exact use xchk_107 (by omega) (by omega)
  rcases Nat.lt_or_ge id 126 with q | q
  · exact use xchk_114 (by omega) (by omega)
  rcases Nat.lt_or_ge id 132 with q | q
  · exact use xchk_126 (by omega) (by omega)
  rcases Nat.lt_or_ge id 140 with q | q
  · exact use xchk_132 (by omega) (by omega)
  rcases Nat.lt_or_ge id 152 with q | q
  · exact use xchk_140 (by omega) (by omega)
  rcases Nat.lt_or_ge id 160 with q | q
  · exact use xchk_152 (by omega) (by omega)
  rcases Nat.lt_or_ge id 164 with q | q
  · exact use xchk_160 (by omega) (by omega)
  rcases Nat.lt_or_ge id 167 with q | q
  · exact use xchk_164 (by omega) (by omega)
  exact use xchk_167 q (by omega)
