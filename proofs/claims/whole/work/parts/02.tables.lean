/-! tables of the landed code, by program -/
def xclsL : List Nat := [6, 99, 5, 99, 0, 99, 3, 99, 99, 4, 99, 99, 99, 2, 99, 1, 99, 99, 5, 99, 5, 99, 5, 99, 5, 99, 5, 99, 5, 99, 5, 99, 5, 99, 7, 99, 99, 99, 99, 99, 99, 99, 99]
def xakL : List Nat := [0, 4, 0, 1, 0, 1, 0, 3, 2, 0, 1, 1, 1, 0, 1, 0, 3, 2, 0, 1, 0, 1, 0, 1, 0, 1, 0, 1, 0, 1, 0, 1, 0, 1, 0, 1, 1, 1, 2, 3, 1, 2, 2]
def xlnL : List Nat := [0, 8, 0, 121, 0, 121, 0, 2048, 11, 0, 11, 11, 11, 0, 100, 0, 481, 6, 0, 121, 0, 121, 0, 121, 0, 121, 0, 121, 0, 121, 0, 121, 0, 121, 0, 8, 800, 121, 100, 8192, 121, 121, 121]
abbrev D_new : Nat := 0
abbrev D_clear : Nat := 1
abbrev D_has : Nat := 2
abbrev D_write : Nat := 3
abbrev D_cell : Nat := 4
abbrev D_firstFault : Nat := 5
abbrev D_firstLineFault : Nat := 6
abbrev D_alternates : Nat := 7
abbrev D_firstCellFault : Nat := 8
abbrev D_isCornerSum : Nat := 9
abbrev D_isColumn : Nat := 10
abbrev D_copyTo : Nat := 11
abbrev D_triangleBits : Nat := 12
abbrev G_new : Nat := 13
abbrev G_knows : Nat := 14
abbrev G_learn : Nat := 15
abbrev G_finish : Nat := 16
abbrev G_howMany : Nat := 17
abbrev O_new : Nat := 18
abbrev O_otherEnd : Nat := 19
abbrev O_ringsOf : Nat := 20
abbrev O_joiningOf : Nat := 21
abbrev O_isSeen : Nat := 22
abbrev O_goRound : Nat := 23
abbrev O_follow : Nat := 24
abbrev O_nextHeldSide : Nat := 25
abbrev O_goToEnd : Nat := 26
abbrev O_endHere : Nat := 27
abbrev U_new : Nat := 28
abbrev U_numberOf : Nat := 29
abbrev U_build : Nat := 30
abbrev U_passWays : Nat := 31
abbrev U_waysBefore : Nat := 32
abbrev U_learnWays : Nat := 33
abbrev K_new : Nat := 34
abbrev K_start : Nat := 35
abbrev K_advance : Nat := 36
abbrev K_layFrom : Nat := 37
abbrev K_bitOf : Nat := 38
abbrev T_new : Nat := 39
abbrev T_corner : Nat := 40
abbrev T_entry : Nat := 41
abbrev T_triangleColumn : Nat := 42
abbrev T_rowBits : Nat := 43
abbrev T_hasEdge : Nat := 44
abbrev T_edgeSum : Nat := 45
abbrev T_holds : Nat := 46
abbrev T_minusOnes : Nat := 47
abbrev T_kindOf : Nat := 48
abbrev T_staysWhen : Nat := 49
abbrev T_movedEntry : Nat := 50
abbrev T_isBelow : Nat := 51
abbrev T_stepsTo : Nat := 52
abbrev T_stepToward : Nat := 53
abbrev T_shift : Nat := 54
abbrev T_rises : Nat := 55
abbrev T_turnSquares : Nat := 56
abbrev T_become : Nat := 57
abbrev T_becomeExtreme : Nat := 58
abbrev T_becomeMoved : Nat := 59
abbrev T_layRow : Nat := 60
abbrev B_new : Nat := 61
abbrev B_begin : Nat := 62
abbrev B_put : Nat := 63
abbrev B_fault : Nat := 64
abbrev B_take : Nat := 65
abbrev B_size : Nat := 66
abbrev B_at : Nat := 67
abbrev B_sum : Nat := 68
abbrev B_triangle : Nat := 69
abbrev B_arrow : Nat := 70
abbrev B_held : Nat := 71
abbrev B_link : Nat := 72
abbrev B_rings : Nat := 73
abbrev B_kind : Nat := 74
abbrev B_less : Nat := 75
abbrev B_count : Nat := 76
abbrev B_first : Nat := 77
abbrev B_weight : Nat := 78
abbrev B_number : Nat := 79
abbrev B_of : Nat := 80
abbrev B_draw : Nat := 81
abbrev B_both : Nat := 82
abbrev B_either : Nat := 83
abbrev B_below : Nat := 84
abbrev B_apart : Nat := 85
abbrev B_step : Nat := 86
abbrev B_toward : Nat := 87
abbrev B_turn : Nat := 88
abbrev B_move : Nat := 89
abbrev B_alike : Nat := 90
abbrev B_learnJoinings : Nat := 91
abbrev B_tableOf : Nat := 92
abbrev B_areOfOneSize : Nat := 93
abbrev B_isSize : Nat := 94
abbrev B_isWithin : Nat := 95
abbrev B_timesRatio : Nat := 96
abbrev B_bitsUpTo : Nat := 97
abbrev M_new : Nat := 98
abbrev M_isPlace : Nat := 99
abbrev M_knows : Nat := 100
abbrev M_a : Nat := 101
abbrev M_a_ : Nat := 102
abbrev M_begin : Nat := 103
abbrev M_put : Nat := 104
abbrev M_d : Nat := 105
abbrev M_isRight : Nat := 106
abbrev M_faultOfSums : Nat := 107
abbrev M_faultOfTriangle : Nat := 108
abbrev M_fault : Nat := 109
abbrev M_take : Nat := 110
abbrev M_inRow : Nat := 111
abbrev M_size : Nat := 112
abbrev M_isIn : Nat := 113
abbrev M_at : Nat := 114
abbrev M_corner : Nat := 115
abbrev M_sum : Nat := 116
abbrev M_rowOf : Nat := 117
abbrev M_nth : Nat := 118
abbrev M_triangle : Nat := 119
abbrev M_points : Nat := 120
abbrev M_isEdge : Nat := 121
abbrev M_arrow : Nat := 122
abbrev M_isHeld : Nat := 123
abbrev M_held : Nat := 124
abbrev M_edge : Nat := 125
abbrev M_end : Nat := 126
abbrev M_next : Nat := 127
abbrev M_isInside : Nat := 128
abbrev M_leaves : Nat := 129
abbrev M_joined : Nat := 130
abbrev M_link : Nat := 131
abbrev M_rings : Nat := 132
abbrev M_stays : Nat := 133
abbrev M_lessOf : Nat := 134
abbrev M_kind : Nat := 135
abbrev M_less : Nat := 136
abbrev M_bits : Nat := 137
abbrev M_fits : Nat := 138
abbrev M_work : Nat := 139
abbrev M_below : Nat := 140
abbrev M_all : Nat := 141
abbrev M_count : Nat := 142
abbrev M_first : Nat := 143
abbrev M_weight : Nat := 144
abbrev M_isAhead : Nat := 145
abbrev M_mayFollow : Nat := 146
abbrev M_numberOf : Nat := 147
abbrev M_number : Nat := 148
abbrev M_becomes : Nat := 149
abbrev M_firstRow : Nat := 150
abbrev M_nextRow : Nat := 151
abbrev M_of : Nat := 152
abbrev M_draw : Nat := 153
abbrev M_fromCorners : Nat := 154
abbrev M_meets : Nat := 155
abbrev M_both : Nat := 156
abbrev M_either : Nat := 157
abbrev M_below_ : Nat := 158
abbrev M_apart : Nat := 159
abbrev M_mayBe : Nat := 160
abbrev M_changes : Nat := 161
abbrev M_step : Nat := 162
abbrev M_toward : Nat := 163
abbrev M_turns : Nat := 164
abbrev M_turn : Nat := 165
abbrev M_move : Nat := 166
abbrev M_alike : Nat := 167
abbrev Y_J6_compare_7cf53 : Nat := 168
abbrev Z_J9_abs_0f7a4 : Nat := 169
abbrev Z_J9_max_7cf53 : Nat := 170
abbrev Z_J9_min_7cf53 : Nat := 171
abbrev L_law : Nat := 172
def xBelow : Nat := 140
def xTab : Nat := 5
def xcalLT : List (List (Nat × Nat)) := [[(22, 95), (26, 6), (30, 8), (33, 7), (37, 2), (40, 9), (43, 10), (46, 4), (50, 55), (56, 12), (59, 60)], [], [(24, 26), (28, 24), (32, 27), (36, 22), (40, 23), (50, 25), (63, 95), (67, 46)], [(21, 34), (32, 33), (36, 43), (40, 32), (44, 35), (48, 31), (55, 60), (58, 36)], [(28, 171), (37, 37), (41, 38), (45, 170)], [(19, 45), (23, 95), (27, 41), (31, 47), (35, 49), (39, 50), (43, 40), (46, 169), (52, 54), (55, 55), (65, 170), (68, 171)], [(15, 39), (22, 0), (29, 28), (36, 18), (43, 13), (48, 94), (52, 1), (56, 2), (60, 3), (64, 5), (68, 92), (72, 11), (80, 95), (84, 41), (88, 40), (91, 42), (94, 44), (98, 45), (102, 46), (105, 19), (109, 20), (113, 48), (116, 47), (125, 96), (129, 29), (133, 30), (137, 97), (145, 93), (148, 58), (152, 51), (156, 52), (159, 54), (162, 53), (165, 56), (169, 59), (173, 57), (176, 14), (179, 91), (182, 21), (185, 17), (189, 15), (193, 16)], [(46, 99), (53, 105), (57, 107), (61, 108), (64, 106), (68, 100), (71, 109), (74, 111), (77, 102), (81, 113), (85, 101), (88, 115), (91, 117), (94, 118), (97, 121), (101, 120), (104, 123), (107, 125), (117, 128), (121, 127), (125, 126), (128, 129), (131, 130), (134, 134), (138, 133), (142, 137), (145, 140), (149, 139), (155, 141), (159, 138), (162, 146), (165, 145), (168, 147), (171, 150), (174, 151), (177, 149), (185, 170), (190, 171), (193, 154), (197, 155), (201, 169), (204, 160), (207, 161), (210, 168), (215, 164)], [(9, 61), (12, 98), (13, 62), (17, 103), (18, 63), (22, 104), (23, 64), (27, 109), (28, 65), (32, 110), (33, 66), (37, 112), (38, 67), (42, 114), (43, 68), (46, 116), (47, 69), (50, 119), (51, 70), (55, 122), (56, 71), (59, 124), (60, 72), (64, 131), (65, 73), (68, 132), (69, 74), (72, 135), (73, 75), (76, 136), (77, 76), (81, 142), (82, 77), (86, 143), (87, 78), (90, 144), (91, 79), (94, 148), (97, 80), (101, 152), (102, 81), (106, 153), (107, 82), (110, 156), (111, 83), (114, 157), (115, 84), (118, 158), (119, 85), (122, 159), (123, 86), (127, 162), (128, 87), (131, 163), (132, 88), (135, 165), (136, 89), (139, 166), (140, 90), (143, 167)], [], []]
def xcalL (c idx : Nat) : Option Nat := List.lookup idx (xcalLT.getD c [])
def xfldT : List (List (Nat × (Nat × Nat))) := [[(9, (0, 0)), (15, (0, 1)), (19, (0, 2)), (55, (5, 1))], [(9, (1, 0)), (15, (1, 1))], [(9, (2, 0)), (15, (2, 1)), (19, (5, 1)), (44, (2, 2)), (47, (2, 3)), (54, (2, 4))], [(9, (3, 0)), (15, (3, 1)), (22, (3, 2)), (26, (5, 1)), (52, (4, 5))], [(9, (4, 0)), (15, (4, 1)), (18, (4, 2)), (21, (4, 3)), (25, (4, 4)), (34, (4, 5))], [(9, (5, 0)), (15, (5, 1))], [(11, (6, 0)), (16, (6, 1)), (23, (6, 2)), (30, (6, 3)), (37, (6, 4)), (44, (6, 5)), (76, (5, 1))], [(9, (7, 1)), (13, (7, 2)), (16, (7, 4)), (20, (7, 5)), (23, (7, 8)), (27, (7, 9)), (31, (7, 10)), (34, (7, 11)), (37, (7, 12)), (40, (7, 13)), (43, (7, 0)), (50, (7, 3)), (111, (7, 6)), (114, (7, 7))], [], [], []]
def xfld (c idx : Nat) : Option (Nat × Nat) := List.lookup idx (xfldT.getD c [])
def xstaT : List (List (Nat × Nat)) := [[], [(19, 3)], [(57, 1), (60, 2)], [], [], [], [(119, 0)], [], [], [], []]
def xsta (c idx : Nat) : Option Nat := List.lookup idx (xstaT.getD c [])
def xldcT : List (List (Nat × Int)) := [[], [], [], [], [], [], [(123, (-1)), (141, 6364136223846793005), (143, 1442695040888963407), (196, 2)], [(153, (-1)), (181, 6364136223846793005), (183, 1442695040888963407)], [(95, 4294967295)], [], []]
def xldc (c idx : Nat) : Option Int := List.lookup idx (xldcT.getD c [])
def xnwT : List (List (Nat × (Nat × Nat))) := [[], [], [], [(19, (4, 6))], [], [], [(9, (5, 2)), (20, (0, 3)), (27, (3, 3)), (34, (2, 5)), (41, (1, 2))], [], [(7, (6, 6)), (10, (7, 14))], [], []]
def xnw (c idx : Nat) : Option (Nat × Nat) := List.lookup idx (xnwT.getD c [])
def xobjT : List (List Nat) := [[3], [3], [3], [3], [3], [3], [3], [1], [], [], []]
def xobj (c idx : Nat) : Bool := List.elem idx (xobjT.getD c [])
def xcpyT : List (List Nat) := [[], [], [], [], [], [59], [], [], [], [], []]
def xcpy (c idx : Nat) : Bool := List.elem idx (xcpyT.getD c [])
def xNfL : List Nat := [3, 2, 5, 3, 6, 2, 6, 14]
def xNf (ci : Nat) : Nat := xNfL.getD ci 0
def xfint (ci f : Nat) : Bool := match ci with
  | 0 => (([false, true, true] : List Bool)[f]?).getD false
  | 1 => (([false, false] : List Bool)[f]?).getD false
  | 2 => (([false, true, true, true, true] : List Bool)[f]?).getD false
  | 3 => (([false, false, false] : List Bool)[f]?).getD false
  | 4 => (([false, false, false, true, true, true] : List Bool)[f]?).getD false
  | 5 => (([false, true] : List Bool)[f]?).getD false
  | 6 => (([false, false, false, false, false, false] : List Bool)[f]?).getD false
  | 7 => (([true, false, false, true, true, false, true, true, false, false, true, false, false, false] : List Bool)[f]?).getD false
  | _ => false
def xkdL : List Nat := [2, 0, 0, 0, 0, 0, 0, 0, 0, 0, 0, 0, 0, 2, 0, 0, 0, 0, 2, 0, 0, 0, 0, 0, 0, 0, 0, 0, 2, 0, 0, 0, 0, 0, 2, 0, 0, 0, 0, 2, 0, 0, 0, 0, 0, 0, 0, 0, 0, 0, 0, 0, 0, 0, 0, 1, 0, 0, 0, 0, 0, 2, 0, 0, 0, 0, 0, 0, 0, 0, 0, 0, 0, 0, 0, 0, 0, 0, 0, 0, 0, 0, 0, 0, 0, 0, 0, 0, 0, 0, 0, 0, 0, 0, 1, 1, 1, 1, 2, 1, 0, 0, 0, 0, 0, 0, 0, 0, 0, 0, 0, 0, 0, 0, 0, 0, 0, 0, 1, 0, 0, 0, 0, 0, 0, 1, 0, 0, 0, 0, 0, 0, 0, 0, 0, 0, 0, 1, 1, 0, 0, 0, 0, 0, 0, 1, 0, 0, 0, 0, 0, 0, 0, 0, 0, 0, 0, 0, 0, 0, 0, 0, 0, 0, 0, 0, 0, 0, 1, 1, 1, 1, 1]
def xkd (id : Nat) : Nat := xkdL.getD id 0
def xownL : List Nat := [0, 0, 0, 0, 0, 0, 0, 0, 0, 0, 0, 0, 0, 1, 1, 1, 1, 1, 2, 2, 2, 2, 2, 2, 2, 2, 2, 2, 3, 3, 3, 3, 3, 3, 4, 4, 4, 4, 4, 5, 5, 5, 5, 5, 5, 5, 5, 5, 5, 5, 5, 5, 5, 5, 5, 5, 5, 5, 5, 5, 5, 6, 6, 6, 6, 6, 6, 6, 6, 6, 6, 6, 6, 6, 6, 6, 6, 6, 6, 6, 6, 6, 6, 6, 6, 6, 6, 6, 6, 6, 6, 6, 6, 6, 6, 6, 6, 6, 7, 7, 7, 7, 7, 7, 7, 7, 7, 7, 7, 7, 7, 7, 7, 7, 7, 7, 7, 7, 7, 7, 7, 7, 7, 7, 7, 7, 7, 7, 7, 7, 7, 7, 7, 7, 7, 7, 7, 7, 7, 7, 7, 7, 7, 7, 7, 7, 7, 7, 7, 7, 7, 7, 7, 7, 7, 7, 7, 7, 7, 7, 7, 7, 7, 7, 7, 7, 7, 7, 10, 9, 9, 9, 8]
def xown (id : Nat) : Nat := xownL.getD id 99
def xrtyL : List Nat := [0, 0, 1, 0, 1, 1, 1, 1, 1, 1, 1, 0, 1, 0, 1, 0, 0, 1, 0, 1, 1, 2, 1, 0, 1, 1, 0, 1, 0, 2, 0, 2, 2, 0, 0, 0, 1, 0, 1, 0, 1, 1, 1, 1, 1, 1, 1, 1, 1, 1, 1, 1, 1, 1, 1, 1, 0, 0, 0, 0, 0, 0, 1, 1, 1, 1, 1, 1, 1, 1, 1, 1, 1, 1, 1, 1, 2, 2, 2, 2, 1, 1, 1, 1, 1, 1, 1, 1, 1, 1, 1, 0, 3, 1, 1, 1, 2, 2, 0, 1, 1, 1, 0, 1, 1, 1, 1, 1, 1, 1, 1, 1, 1, 1, 1, 1, 1, 1, 1, 1, 1, 1, 1, 1, 1, 1, 1, 1, 1, 1, 1, 1, 1, 1, 1, 1, 1, 1, 1, 0, 2, 2, 2, 2, 2, 1, 1, 2, 2, 0, 1, 1, 1, 1, 0, 1, 1, 1, 1, 1, 1, 0, 1, 1, 0, 1, 1, 1, 1, 1, 1, 1, 1]
def xrty (id : Nat) : Nat := xrtyL.getD id 0
def xnarL : List Nat := [0, 2, 2, 3, 2, 0, 0, 2, 0, 2, 2, 1, 2, 0, 1, 3, 1, 2, 0, 2, 1, 1, 2, 3, 1, 2, 2, 1, 0, 1, 3, 2, 3, 1, 0, 2, 0, 2, 1, 0, 2, 2, 2, 1, 3, 3, 3, 0, 0, 1, 3, 1, 1, 1, 3, 2, 1, 1, 3, 2, 2, 0, 2, 3, 0, 1, 1, 3, 3, 3, 4, 4, 2, 1, 1, 1, 1, 2, 1, 1, 3, 3, 3, 3, 2, 2, 4, 2, 1, 2, 1, 1, 1, 2, 1, 3, 3, 1, 0, 1, 1, 3, 4, 2, 3, 2, 2, 0, 0, 0, 1, 2, 1, 4, 3, 3, 3, 2, 2, 3, 4, 4, 4, 4, 4, 3, 2, 4, 3, 2, 2, 2, 1, 2, 1, 1, 1, 1, 2, 1, 5, 1, 1, 2, 1, 2, 3, 1, 1, 3, 3, 4, 3, 3, 2, 4, 3, 3, 2, 2, 4, 4, 4, 2, 2, 1, 2, 1, 2, 1, 2, 2, 1]
def xnar (id : Nat) : Nat := xnarL.getD id 0
def xmaxLL : List Nat := [1, 4, 3, 4, 3, 1, 2, 6, 3, 4, 4, 4, 6, 1, 2, 5, 2, 6, 1, 3, 6, 6, 3, 4, 5, 6, 5, 2, 1, 8, 9, 10, 8, 5, 1, 4, 2, 5, 2, 1, 3, 3, 5, 4, 4, 5, 5, 4, 1, 4, 5, 4, 5, 5, 5, 2, 4, 2, 7, 6, 5, 2, 3, 4, 1, 3, 3, 5, 5, 5, 6, 6, 4, 3, 3, 3, 2, 6, 2, 3, 6, 13, 5, 5, 3, 3, 6, 3, 3, 4, 3, 3, 2, 5, 1, 3, 4, 5, 2, 1, 2, 4, 5, 4, 5, 3, 6, 5, 5, 2, 5, 5, 2, 5, 4, 7, 4, 7, 4, 4, 7, 6, 5, 6, 5, 3, 10, 10, 4, 8, 5, 3, 9, 8, 5, 3, 2, 3, 7, 5, 11, 5, 2, 3, 2, 3, 4, 9, 2, 11, 6, 7, 5, 13, 5, 10, 4, 4, 6, 6, 10, 5, 6, 8, 10, 8, 7, 12, 2, 1, 2, 2, 4]
def xmaxL (id : Nat) : Nat := xmaxLL.getD id 0
def xrzL : List Bool := [false, false, true, false, false, false, false, true, false, true, true, false, false, false, true, false, false, false, false, false, false, false, true, false, true, false, false, false, false, false, false, false, false, false, false, false, true, false, false, false, false, false, false, false, true, false, true, false, false, true, false, true, false, false, true, true, false, false, false, false, false, false, true, true, false, true, false, false, false, false, false, false, false, false, false, false, false, false, false, false, true, false, true, true, true, false, true, false, true, true, false, false, false, true, true, true, false, false, false, true, true, false, false, true, true, false, true, false, false, false, true, false, false, true, false, false, false, false, false, false, true, true, false, true, false, false, false, false, true, false, false, false, false, true, false, false, false, false, true, false, false, false, false, false, false, true, true, false, false, false, false, false, true, false, false, true, true, true, true, false, true, false, true, false, false, true, true, false, false, false, false, false, true]
def xrz (id : Nat) : Bool := xrzL.getD id false
def xdepL : List Nat := [1, 0, 1, 0, 0, 3, 1, 0, 2, 1, 1, 2, 1, 1, 0, 0, 0, 0, 1, 4, 5, 4, 0, 4, 3, 2, 0, 0, 2, 5, 5, 3, 3, 4, 1, 2, 2, 1, 0, 1, 0, 1, 1, 1, 1, 0, 1, 2, 4, 3, 2, 1, 1, 2, 1, 0, 2, 1, 1, 3, 0, 3, 2, 2, 4, 4, 2, 2, 2, 2, 2, 2, 5, 6, 5, 3, 1, 1, 1, 6, 6, 6, 3, 3, 3, 3, 2, 3, 3, 4, 7, 6, 1, 2, 1, 0, 0, 0, 1, 0, 1, 0, 0, 0, 0, 0, 1, 1, 1, 2, 3, 1, 2, 0, 2, 1, 2, 1, 0, 2, 1, 0, 2, 2, 3, 0, 3, 3, 0, 4, 5, 6, 5, 1, 1, 2, 2, 0, 0, 14, 0, 15, 16, 15, 0, 0, 1, 15, 16, 15, 2, 2, 16, 16, 1, 2, 3, 3, 2, 2, 2, 1, 3, 3, 0, 3, 2, 16, 0, 0, 0, 0, 17]
def xdep (id : Nat) : Nat := xdepL.getD id 0
def xbud (id : Nat) : Nat × Nat := (List.lookup id [(0, (1, 121)), (13, (2, 487)), (18, (1, 100)), (28, (6, 2098)), (34, (3, 33)), (39, (1, 121)), (61, (33, 3934)), (98, (8, 9584)), (166, (1, 100)), (167, (2, 35)), (172, (600000, 7302250))]).getD (0, 0)
def xlok (n N : Nat) : Bool := match xlnL[n]? with
  | some k => k == N
  | none => true
def xatk (t : ArrayType) : Nat := match t with
  | .int => 1
  | .boolean => 2
  | .long => 3
  | _ => 0
def xslL : List Int := [1, 1, 2, 7, 42, 429, 7436, 218348, 10850216, 911835460, 129534272700, 31095744852375, 12611311859677500, 8639383518297652500]
def xsl (i : Nat) : Int := xslL.getD i 0
def xsiL (t : Nat) : List Int := match t with
  | 1 => [(-1), 0, 1, 0]
  | 2 => [0, 1, 0, (-1)]
  | 3 => [0, 0, 1, 3, 10, 52, 481]
  | _ => []
def xsi (t i : Nat) : Int := (xsiL t).getD i 0
def xsiN (t : Nat) : Nat := (xsiL t).length
def bk_D_new : List (Nat × List Instr) := [(0, [.aload_n 0, .invokespecial 3, .aload_n 0, .bipush 121, .newarray .int, .putfield 9, .aload_n 0, .iconst 0, .putfield 15, .aload_n 0, .iconst 1, .putfield 19, .return_])]
def bk_D_clear : List (Nat × List Instr) := [(0, [.aload_n 0, .iload_n 1, .putfield 15, .aload_n 0, .iload_n 2, .putfield 19, .iconst 0, .istore_n 3]),
  (12, [.iload_n 3, .bipush 121, .if_icmp .ge 16, .aload_n 0, .getfield 9, .iload_n 3, .iconst 0, .iastore, .iinc 3 1, .goto (-16)]),
  (31, [.return_])]
def bk_D_has : List (Nat × List Instr) := [(0, [.aload_n 0, .getfield 15, .lookupswitch 92 #[(0, 28), (1, 62)]]),
  (32, [.iload_n 1, .iconst 0, .aload_n 0, .getfield 19, .iconst 1, .isub, .invokestatic 22, .ifCond .eq 21, .iload_n 2, .iconst 0, .aload_n 0, .getfield 19, .iconst 1, .isub, .invokestatic 22, .ifCond .eq 7, .iconst 1, .goto 4]),
  (64, [.iconst 0]),
  (65, [.ireturn]),
  (66, [.iload_n 1, .iconst 0, .aload_n 0, .getfield 19, .invokestatic 22, .ifCond .eq 19, .iload_n 2, .iconst 0, .aload_n 0, .getfield 19, .invokestatic 22, .ifCond .eq 7, .iconst 1, .goto 4]),
  (94, [.iconst 0]),
  (95, [.ireturn]),
  (96, [.iload_n 1, .iconst 1, .aload_n 0, .getfield 19, .invokestatic 22, .ifCond .eq 18, .iload_n 2, .iconst 0, .iload_n 1, .iconst 1, .isub, .invokestatic 22, .ifCond .eq 7, .iconst 1, .goto 4]),
  (123, [.iconst 0]),
  (124, [.ireturn])]
def bk_D_write : List (Nat × List Instr) := [(0, [.aload_n 0, .getfield 9, .iload_n 1, .bipush 11, .imul, .iload_n 2, .iadd, .iload_n 3, .iastore, .return_])]
def bk_D_cell : List (Nat × List Instr) := [(0, [.aload_n 0, .getfield 9, .iload_n 1, .bipush 11, .imul, .iload_n 2, .iadd, .iaload, .ireturn])]
def bk_D_firstFault : List (Nat × List Instr) := [(0, [.aload_n 0, .getfield 15, .ifCond .ne 10, .aload_n 0, .invokevirtual 26, .goto 7]),
  (14, [.aload_n 0, .invokevirtual 30]),
  (18, [.ireturn])]
def bk_D_firstLineFault : List (Nat × List Instr) := [(0, [.iconst 0, .istore_n 1]),
  (2, [.iload_n 1, .aload_n 0, .getfield 19, .if_icmp .ge 26, .aload_n 0, .iload_n 1, .bipush 11, .imul, .iconst 1, .invokevirtual 33, .ifCond .ne 8, .bipush 100, .iload_n 1, .iadd, .ireturn]),
  (27, [.iinc 1 1, .goto (-28)]),
  (33, [.iconst 0, .istore_n 1]),
  (35, [.iload_n 1, .aload_n 0, .getfield 19, .if_icmp .ge 25, .aload_n 0, .iload_n 1, .bipush 11, .invokevirtual 33, .ifCond .ne 9, .sipush 200, .iload_n 1, .iadd, .ireturn]),
  (59, [.iinc 1 1, .goto (-27)]),
  (65, [.iconst 0, .ireturn])]
def bk_D_alternates : List (Nat × List Instr) := [(0, [.iconst 1, .istore_n 3, .iconst 0, .istore 4]),
  (5, [.iload 4, .aload_n 0, .getfield 19, .if_icmp .ge 38, .aload_n 0, .getfield 9, .iload_n 1, .iload 4, .iload_n 2, .imul, .iadd, .iaload, .istore 5, .iload 5, .ifCond .eq 14, .iload 5, .iload_n 3, .if_icmp .eq 5, .iconst 0, .ireturn]),
  (40, [.iload_n 3, .ineg, .istore_n 3]),
  (43, [.iinc 4 1, .goto (-41)]),
  (49, [.iload_n 3, .iconst (-1), .if_icmp .ne 7, .iconst 1, .goto 4]),
  (58, [.iconst 0]),
  (59, [.ireturn])]
def bk_D_firstCellFault : List (Nat × List Instr) := [(0, [.iconst 0, .istore_n 1]),
  (2, [.iload_n 1, .aload_n 0, .getfield 19, .if_icmp .gt 74, .iconst 0, .istore_n 2]),
  (12, [.iload_n 2, .aload_n 0, .getfield 19, .if_icmp .gt 58, .aload_n 0, .iload_n 1, .iload_n 2, .invokevirtual 37, .ifCond .eq 43, .aload_n 0, .getfield 15, .iconst 1, .if_icmp .ne 15, .aload_n 0, .iload_n 1, .iload_n 2, .invokevirtual 40, .ifCond .eq 15, .goto 23]),
  (49, [.aload_n 0, .iload_n 1, .iload_n 2, .invokevirtual 43, .ifCond .ne 14]),
  (58, [.sipush 1000, .bipush 100, .iload_n 1, .imul, .iadd, .iload_n 2, .iadd, .ireturn]),
  (69, [.iinc 2 1, .goto (-60)]),
  (75, [.iinc 1 1, .goto (-76)]),
  (81, [.iconst 0, .ireturn])]
def bk_D_isCornerSum : List (Nat × List Instr) := [(0, [.aload_n 0, .iload_n 1, .iload_n 2, .invokevirtual 46, .istore_n 3, .iload_n 1, .ifCond .eq 7, .iload_n 2, .ifCond .ne 7]),
  (15, [.iload_n 3, .ifCond .ne 29]),
  (19, [.iload_n 1, .aload_n 0, .getfield 19, .if_icmp .ne 8, .iload_n 3, .iload_n 2, .if_icmp .ne 16]),
  (32, [.iload_n 2, .aload_n 0, .getfield 19, .if_icmp .ne 10, .iload_n 3, .iload_n 1, .if_icmp .eq 5]),
  (45, [.iconst 0, .ireturn]),
  (47, [.iload_n 1, .ifCond .eq 18, .aload_n 0, .iload_n 1, .iconst 1, .isub, .iload_n 2, .invokevirtual 46, .iload_n 3, .invokestatic 50, .ifCond .eq 26]),
  (66, [.iload_n 2, .ifCond .eq 18, .aload_n 0, .iload_n 1, .iload_n 2, .iconst 1, .isub, .invokevirtual 46, .iload_n 3, .invokestatic 50, .ifCond .eq 7]),
  (85, [.iconst 1, .goto 4]),
  (89, [.iconst 0]),
  (90, [.ireturn])]
def bk_D_isColumn : List (Nat × List Instr) := [(0, [.aload_n 0, .iload_n 1, .iload_n 2, .invokevirtual 46, .istore_n 3, .iload_n 3, .iconst 0, .aload_n 0, .getfield 19, .iconst 1, .isub, .invokestatic 22, .ifCond .eq 19, .iload_n 2, .ifCond .le 17, .iload_n 3, .aload_n 0, .iload_n 1, .iload_n 2, .iconst 1, .isub, .invokevirtual 46, .if_icmp .gt 5]),
  (37, [.iconst 0, .ireturn]),
  (39, [.iload_n 1, .iconst 1, .if_icmp .eq 40, .iload_n 2, .iload_n 1, .iconst 1, .isub, .if_icmp .eq 15, .iload_n 3, .aload_n 0, .iload_n 1, .iconst 1, .isub, .iload_n 2, .invokevirtual 46, .if_icmp .gt 25]),
  (63, [.iload_n 2, .ifCond .eq 17, .iload_n 3, .aload_n 0, .iload_n 1, .iconst 1, .isub, .iload_n 2, .iconst 1, .isub, .invokevirtual 46, .if_icmp .lt 7]),
  (81, [.iconst 1, .goto 4]),
  (85, [.iconst 0]),
  (86, [.ireturn])]
def bk_D_copyTo : List (Nat × List Instr) := [(0, [.aload_n 1, .aload_n 0, .getfield 19, .putfield 55, .iconst 0, .istore_n 2, .iconst 1, .istore_n 3]),
  (12, [.iload_n 3, .aload_n 0, .getfield 19, .if_icmp .gt 22, .aload_n 0, .iload_n 3, .iload_n 2, .invokevirtual 56, .istore_n 2, .aload_n 1, .iload_n 3, .iload_n 2, .invokevirtual 59, .iinc 3 1, .goto (-24)]),
  (39, [.return_])]
def bk_D_triangleBits : List (Nat × List Instr) := [(0, [.iconst 0, .istore_n 3, .iconst 0, .istore 4]),
  (5, [.iload 4, .aload_n 0, .getfield 19, .if_icmp .ge 129, .iconst 1, .aload_n 0, .getfield 19, .iconst 1, .isub, .iload 4, .isub, .ishl, .istore 5, .aload_n 0, .getfield 15, .lookupswitch 74 #[(0, 25), (1, 48)]]),
  (56, [.iload_n 3, .iload_n 2, .iload 5, .iand, .aload_n 0, .iload_n 1, .iconst 1, .isub, .iload 4, .invokevirtual 46, .iload 5, .imul, .iadd, .iadd, .istore_n 3, .goto 58]),
  (79, [.iload_n 3, .aload_n 0, .iload_n 1, .iload 4, .iconst 1, .iadd, .invokevirtual 46, .aload_n 0, .iload_n 1, .iload 4, .invokevirtual 46, .isub, .iload 5, .imul, .iadd, .istore_n 3, .goto 32]),
  (105, [.iload_n 3, .iload 4, .iload_n 1, .if_icmp .ge 22, .iconst 1, .aload_n 0, .getfield 19, .iconst 1, .isub, .aload_n 0, .iload_n 1, .iload 4, .invokevirtual 46, .isub, .ishl, .goto 4]),
  (131, [.iconst 0]),
  (132, [.iadd, .istore_n 3]),
  (134, [.iinc 4 1, .goto (-132)]),
  (140, [.iload_n 3, .ireturn])]
def bk_G_new : List (Nat × List Instr) := [(0, [.aload_n 0, .invokespecial 3, .aload_n 0, .sipush 481, .newarray .long, .putfield 9, .aload_n 0, .bipush 6, .newarray .boolean, .putfield 15, .return_])]
def bk_G_knows : List (Nat × List Instr) := [(0, [.aload_n 0, .getfield 15, .iload_n 1, .baload, .ireturn])]
def bk_G_learn : List (Nat × List Instr) := [(0, [.aload_n 0, .getfield 9, .getstatic 19, .iload_n 1, .iaload, .iload_n 2, .iadd, .lload_n 3, .lastore, .return_])]
def bk_G_finish : List (Nat × List Instr) := [(0, [.aload_n 0, .getfield 15, .iload_n 1, .iconst 1, .bastore, .return_])]
def bk_G_howMany : List (Nat × List Instr) := [(0, [.iconst 0, .istore 4, .getstatic 19, .iload_n 1, .iaload, .istore 5]),
  (10, [.iload 5, .getstatic 19, .iload_n 1, .iconst 1, .iadd, .iaload, .if_icmp .ge 24, .aload_n 0, .getfield 9, .iload 5, .laload, .lload_n 2, .lcmp, .ifCond .ne 6, .iinc 4 1]),
  (37, [.iinc 5 1, .goto (-30)]),
  (43, [.iload 4, .ireturn])]
def bk_O_new : List (Nat × List Instr) := [(0, [.aload_n 0, .invokespecial 3, .aload_n 0, .bipush 100, .newarray .int, .putfield 9, .return_])]
def bk_O_otherEnd : List (Nat × List Instr) := [(0, [.aload_n 0, .dup, .getfield 15, .iconst 1, .iadd, .putfield 15, .aload_n 0, .aload_n 1, .getfield 19, .iload_n 2, .invokevirtual 24, .aload_n 0, .aload_n 1, .invokevirtual 28, .ifCond .eq 14, .aload_n 0, .aload_n 1, .getfield 19, .invokevirtual 32, .goto 4]),
  (38, [.iconst (-1)]),
  (39, [.ireturn])]
def bk_O_ringsOf : List (Nat × List Instr) := [(0, [.aload_n 1, .getfield 19, .istore_n 2, .aload_n 0, .dup, .getfield 15, .iconst 1, .iadd, .putfield 15, .iconst 0, .istore_n 3]),
  (17, [.iload_n 3, .iconst 2, .iload_n 2, .imul, .if_icmp .ge 21, .aload_n 0, .iload_n 2, .iload_n 3, .invokevirtual 24, .aload_n 0, .aload_n 1, .invokevirtual 28, .pop, .iinc 3 1, .goto (-22)]),
  (42, [.iconst 0, .istore_n 3, .iconst 0, .istore 4]),
  (47, [.iload 4, .iload_n 2, .if_icmp .ge 47, .iconst 0, .istore 5]),
  (56, [.iload 5, .iload_n 2, .if_icmp .ge 32, .aload_n 0, .iload 4, .iload 5, .invokevirtual 36, .ifCond .ne 15, .iinc 3 1, .aload_n 0, .aload_n 1, .iload 4, .iload 5, .invokevirtual 40]),
  (85, [.iinc 5 1, .goto (-32)]),
  (91, [.iinc 4 1, .goto (-47)]),
  (97, [.iload_n 3, .ireturn])]
def bk_O_joiningOf : List (Nat × List Instr) := [(0, [.aload_n 0, .dup, .getfield 15, .iconst 1, .iadd, .putfield 15, .lconst 0, .lstore_n 2, .iconst 0, .istore 4]),
  (15, [.iload 4, .iconst 2, .aload_n 1, .getfield 19, .imul, .if_icmp .ge 59, .aload_n 0, .aload_n 1, .getfield 19, .iload 4, .invokevirtual 24, .aload_n 0, .aload_n 1, .invokevirtual 28, .ifCond .eq 35, .aload_n 0, .aload_n 1, .getfield 19, .invokevirtual 32, .istore 5, .lload_n 2, .iload 5, .i2l, .iconst 4, .iload 4, .imul, .lshl, .ladd, .lstore_n 2, .lload_n 2, .iload 4, .i2l, .iconst 4, .iload 5, .imul, .lshl, .ladd, .lstore_n 2]),
  (76, [.iinc 4 1, .goto (-64)]),
  (82, [.lload_n 2, .lreturn])]
def bk_O_isSeen : List (Nat × List Instr) := [(0, [.aload_n 0, .getfield 9, .iload_n 1, .bipush 10, .imul, .iload_n 2, .iadd, .iaload, .aload_n 0, .getfield 15, .if_icmp .ne 7, .iconst 1, .goto 4]),
  (22, [.iconst 0]),
  (23, [.ireturn])]
def bk_O_goRound : List (Nat × List Instr) := [(0, [.aload_n 0, .iload_n 2, .putfield 44, .aload_n 0, .iload_n 3, .putfield 47, .aload_n 0, .aload_n 0, .aload_n 1, .iconst 4, .invokevirtual 50, .putfield 54, .aload_n 0, .aload_n 1, .invokevirtual 28, .pop, .return_])]
def bk_O_follow : List (Nat × List Instr) := [(0, [.iconst 0, .istore_n 2]),
  (2, [.iload_n 2, .bipush 100, .if_icmp .ge 141, .aload_n 0, .aload_n 0, .getfield 44, .aload_n 0, .getfield 47, .invokevirtual 36, .ifCond .ne 126, .aload_n 0, .getfield 9, .aload_n 0, .getfield 44, .bipush 10, .imul, .aload_n 0, .getfield 47, .iadd, .aload_n 0, .getfield 15, .iastore, .aload_n 0, .aload_n 0, .aload_n 1, .aload_n 0, .getfield 54, .invokevirtual 50, .putfield 54, .aload_n 0, .getfield 44, .getstatic 57, .aload_n 0, .getfield 54, .iaload, .iadd, .istore_n 3, .aload_n 0, .getfield 47, .getstatic 60, .aload_n 0, .getfield 54, .iaload, .iadd, .istore 4, .iload_n 3, .iconst 0, .aload_n 1, .getfield 19, .iconst 1, .isub, .invokestatic 63, .ifCond .eq 18, .iload 4, .iconst 0, .aload_n 1, .getfield 19, .iconst 1, .isub, .invokestatic 63, .ifCond .ne 5]),
  (115, [.iconst 1, .ireturn]),
  (117, [.aload_n 0, .iload_n 3, .putfield 44, .aload_n 0, .iload 4, .putfield 47, .aload_n 0, .aload_n 0, .getfield 54, .iconst 2, .iadd, .iconst 3, .iand, .putfield 54, .iinc 2 1, .goto (-141)]),
  (146, [.iconst 0, .ireturn])]
def bk_O_nextHeldSide : List (Nat × List Instr) := [(0, [.iconst 0, .istore_n 3]),
  (2, [.iload_n 3, .iconst 3, .if_icmp .ge 77, .iload_n 3, .iconst 2, .if_icmp .ne 12, .aload_n 0, .getfield 44, .iconst 1, .iadd, .goto 7]),
  (21, [.aload_n 0, .getfield 44]),
  (25, [.istore 4, .iload_n 3, .iconst 1, .if_icmp .ne 12, .aload_n 0, .getfield 47, .iconst 1, .iadd, .goto 7]),
  (41, [.aload_n 0, .getfield 47]),
  (45, [.istore 5, .iload_n 3, .iload_n 2, .if_icmp .eq 26, .aload_n 1, .iload_n 3, .iconst 1, .if_icmp .ne 7, .iconst 1, .goto 4]),
  (62, [.iconst 0]),
  (63, [.iload 4, .iload 5, .invokevirtual 67, .ifCond .eq 5, .iload_n 3, .ireturn]),
  (75, [.iinc 3 1, .goto (-76)]),
  (81, [.iconst 3, .ireturn])]
def bk_O_goToEnd : List (Nat × List Instr) := [(0, [.iconst 2, .iload_n 2, .imul, .iconst 1, .iadd, .istore_n 3, .aload_n 0, .iload_n 3, .iload_n 1, .if_icmp .ge 7, .iconst 0, .goto 26]),
  (16, [.iload_n 3, .iconst 2, .iload_n 1, .imul, .if_icmp .ge 7, .iconst 1, .goto 15]),
  (27, [.iload_n 3, .iconst 3, .iload_n 1, .imul, .if_icmp .ge 7, .iconst 2, .goto 4]),
  (38, [.iconst 3]),
  (39, [.putfield 54, .iload_n 3, .aload_n 0, .getfield 54, .iload_n 1, .imul, .isub, .istore 4, .aload_n 0, .getfield 54, .tableswitch 78 0 2 #[28, 42, 58]]),
  (84, [.aload_n 0, .iconst 0, .putfield 44, .aload_n 0, .iload 4, .putfield 47, .goto 54]),
  (98, [.aload_n 0, .iload 4, .putfield 44, .aload_n 0, .iload_n 1, .iconst 1, .isub, .putfield 47, .goto 38]),
  (114, [.aload_n 0, .iload_n 1, .iconst 1, .isub, .putfield 44, .aload_n 0, .iload_n 1, .iconst 1, .isub, .iload 4, .isub, .putfield 47, .goto 18]),
  (134, [.aload_n 0, .iload_n 1, .iconst 1, .isub, .iload 4, .isub, .putfield 44, .aload_n 0, .iconst 0, .putfield 47]),
  (149, [.return_])]
def bk_O_endHere : List (Nat × List Instr) := [(0, [.aload_n 0, .getfield 54, .tableswitch 57 0 2 #[28, 35, 44]]),
  (32, [.aload_n 0, .getfield 47, .iconst 1, .ishr, .ireturn]),
  (39, [.iload_n 1, .aload_n 0, .getfield 44, .iadd, .iconst 1, .ishr, .ireturn]),
  (48, [.iconst 3, .iload_n 1, .imul, .iconst 1, .isub, .aload_n 0, .getfield 47, .isub, .iconst 1, .ishr, .ireturn]),
  (61, [.iconst 4, .iload_n 1, .imul, .iconst 1, .isub, .aload_n 0, .getfield 44, .isub, .iconst 1, .ishr, .ireturn])]
def bk_U_new : List (Nat × List Instr) := [(0, [.aload_n 0, .invokespecial 3, .aload_n 0, .sipush 2048, .newarray .long, .putfield 9, .aload_n 0, .bipush 11, .newarray .boolean, .putfield 15, .aload_n 0, .new 19, .dup, .invokespecial 21, .putfield 22, .return_])]
def bk_U_numberOf : List (Nat × List Instr) := [(0, [.aload_n 1, .getfield 26, .istore_n 2, .aload_n 0, .iload_n 2, .invokevirtual 32, .lconst 0, .lstore_n 3, .iconst 0, .istore 5, .iconst 1, .istore 6]),
  (18, [.iload 6, .iload_n 2, .if_icmp .gt 33, .aload_n 1, .iload 6, .invokevirtual 36, .istore 7, .lload_n 3, .aload_n 0, .iload_n 2, .iload 5, .iload 7, .invokevirtual 40, .ladd, .lstore_n 3, .iload 7, .istore 5, .iinc 6 1, .goto (-33)]),
  (54, [.lload_n 3, .lreturn])]
def bk_U_build : List (Nat × List Instr) := [(0, [.aload_n 0, .iload_n 2, .invokevirtual 32, .aload_n 1, .iload_n 2, .putfield 26, .lload_n 3, .lstore 5, .iconst 0, .istore 7, .iconst 1, .istore 8]),
  (19, [.iload 8, .iload_n 2, .if_icmp .gt 48, .aload_n 0, .getfield 22, .iload_n 2, .iload 7, .invokevirtual 44, .lload 5, .aload_n 0, .iload_n 2, .lload 5, .invokevirtual 48, .lsub, .lstore 5, .aload_n 0, .getfield 22, .getfield 52, .istore 7, .aload_n 1, .iload 8, .iload 7, .invokevirtual 55, .iinc 8 1, .goto (-48)]),
  (70, [.return_])]
def bk_U_passWays : List (Nat × List Instr) := [(0, [.iconst 1, .iload_n 1, .ishl, .istore 4, .lconst 0, .lstore 5, .iconst 0, .istore 7]),
  (11, [.iload 7, .iload 4, .if_icmp .ge 56, .aload_n 0, .getfield 9, .iload 4, .aload_n 0, .getfield 22, .getfield 52, .iadd, .laload, .lstore 8, .lload_n 2, .lload 5, .lsub, .lload 8, .lcmp, .ifCond .lt 29, .aload_n 0, .getfield 22, .invokevirtual 58, .ifCond .ne 6, .goto 16]),
  (58, [.lload 5, .lload 8, .ladd, .lstore 5, .iinc 7 1, .goto (-57)]),
  (71, [.lload 5, .lreturn])]
def bk_U_waysBefore : List (Nat × List Instr) := [(0, [.iconst 1, .iload_n 1, .ishl, .istore 4, .lconst 0, .lstore 5, .aload_n 0, .getfield 22, .iload_n 1, .iload_n 2, .invokevirtual 44, .iconst 0, .istore 7]),
  (20, [.iload 7, .iload 4, .if_icmp .ge 53, .aload_n 0, .getfield 22, .getfield 52, .iload_n 3, .if_icmp .le 42, .lload 5, .aload_n 0, .getfield 9, .iload 4, .aload_n 0, .getfield 22, .getfield 52, .iadd, .laload, .ladd, .lstore 5, .aload_n 0, .getfield 22, .invokevirtual 58, .ifCond .ne 6, .goto 9]),
  (71, [.iinc 7 1, .goto (-54)]),
  (77, [.lload 5, .lreturn])]
def bk_U_learnWays : List (Nat × List Instr) := [(0, [.aload_n 0, .getfield 15, .iload_n 1, .baload, .ifCond .eq 4, .return_]),
  (10, [.aload_n 0, .getfield 15, .iload_n 1, .iconst 1, .bastore, .iconst 1, .iload_n 1, .ishl, .istore_n 2, .iload_n 2, .iconst 1, .isub, .istore_n 3, .aload_n 0, .getfield 9, .iload_n 2, .iload_n 3, .iadd, .lconst 1, .lastore, .iload_n 3, .iconst 1, .isub, .istore 4]),
  (39, [.iload 4, .ifCond .lt 26, .aload_n 0, .getfield 9, .iload_n 2, .iload 4, .iadd, .aload_n 0, .iload_n 1, .iload 4, .iconst 0, .invokevirtual 40, .lastore, .iinc 4 (-1), .goto (-25)]),
  (67, [.return_])]
def bk_K_new : List (Nat × List Instr) := [(0, [.aload_n 0, .invokespecial 3, .aload_n 0, .bipush 11, .newarray .int, .putfield 9, .aload_n 0, .bipush 11, .newarray .int, .putfield 15, .aload_n 0, .bipush 11, .newarray .int, .putfield 18, .return_])]
def bk_K_start : List (Nat × List Instr) := [(0, [.aload_n 0, .iload_n 1, .putfield 21, .aload_n 0, .iconst 1, .putfield 25, .iconst 0, .istore_n 3]),
  (12, [.iload_n 3, .aload_n 0, .getfield 21, .if_icmp .ge 45, .iload_n 2, .aload_n 0, .getfield 21, .iconst 1, .isub, .iload_n 3, .isub, .ishr, .iconst 1, .iand, .iconst 1, .if_icmp .ne 23, .aload_n 0, .getfield 9, .aload_n 0, .getfield 25, .iload_n 3, .iastore, .aload_n 0, .dup, .getfield 25, .iconst 1, .iadd, .putfield 25]),
  (56, [.iinc 3 1, .goto (-47)]),
  (62, [.aload_n 0, .getfield 15, .aload_n 0, .getfield 25, .iconst 1, .isub, .aload_n 0, .getfield 21, .iconst 1, .isub, .iastore, .aload_n 0, .getfield 25, .iconst 2, .isub, .istore_n 3]),
  (86, [.iload_n 3, .ifCond .lt 36, .aload_n 0, .getfield 15, .iload_n 3, .aload_n 0, .getfield 9, .iload_n 3, .iconst 1, .iadd, .iaload, .aload_n 0, .getfield 15, .iload_n 3, .iconst 1, .iadd, .iaload, .iconst 1, .isub, .invokestatic 28, .iastore, .iinc 3 (-1), .goto (-34)]),
  (123, [.aload_n 0, .iconst 0, .putfield 34, .aload_n 0, .iconst 0, .iconst 0, .invokevirtual 37, .return_])]
def bk_K_advance : List (Nat × List Instr) := [(0, [.aload_n 0, .getfield 25, .iconst 1, .isub, .istore_n 1]),
  (7, [.iload_n 1, .ifCond .lt 58, .aload_n 0, .dup, .getfield 34, .aload_n 0, .aload_n 0, .getfield 18, .iload_n 1, .iaload, .invokevirtual 41, .isub, .putfield 34, .aload_n 0, .getfield 18, .iload_n 1, .iaload, .aload_n 0, .getfield 15, .iload_n 1, .iaload, .if_icmp .ge 18, .aload_n 0, .iload_n 1, .aload_n 0, .getfield 18, .iload_n 1, .iaload, .iconst 1, .iadd, .invokevirtual 37, .iconst 1, .ireturn]),
  (60, [.iinc 1 (-1), .goto (-56)]),
  (66, [.iconst 0, .ireturn])]
def bk_K_layFrom : List (Nat × List Instr) := [(0, [.iload_n 2, .istore_n 3, .iload_n 1, .istore 4]),
  (5, [.iload 4, .aload_n 0, .getfield 25, .if_icmp .ge 57, .aload_n 0, .getfield 18, .iload 4, .aload_n 0, .getfield 9, .iload 4, .iaload, .iload_n 3, .invokestatic 45, .iastore, .aload_n 0, .dup, .getfield 34, .aload_n 0, .aload_n 0, .getfield 18, .iload 4, .iaload, .invokevirtual 41, .iadd, .putfield 34, .aload_n 0, .getfield 18, .iload 4, .iaload, .iconst 1, .iadd, .istore_n 3, .iinc 4 1, .goto (-60)]),
  (68, [.return_])]
def bk_K_bitOf : List (Nat × List Instr) := [(0, [.iconst 1, .aload_n 0, .getfield 21, .iconst 1, .isub, .iload_n 1, .isub, .ishl, .ireturn])]
def bk_T_new : List (Nat × List Instr) := [(0, [.aload_n 0, .invokespecial 3, .aload_n 0, .bipush 121, .newarray .int, .putfield 9, .aload_n 0, .iconst 1, .putfield 15, .aload_n 0, .getfield 9, .bipush 12, .iconst 1, .iastore, .return_])]
def bk_T_corner : List (Nat × List Instr) := [(0, [.aload_n 0, .getfield 9, .iload_n 1, .bipush 11, .imul, .iload_n 2, .iadd, .iaload, .ireturn])]
def bk_T_entry : List (Nat × List Instr) := [(0, [.aload_n 0, .iconst 1, .iload_n 1, .iload_n 2, .iconst 1, .iadd, .invokevirtual 19, .aload_n 0, .iconst 1, .iload_n 1, .iload_n 2, .invokevirtual 19, .isub, .ireturn])]
def bk_T_triangleColumn : List (Nat × List Instr) := [(0, [.iconst 0, .istore_n 3, .iconst 0, .istore 4]),
  (5, [.iload 4, .aload_n 0, .getfield 15, .if_icmp .ge 28, .iload_n 3, .aload_n 0, .iconst 0, .iload_n 1, .iload 4, .invokevirtual 19, .iadd, .istore_n 3, .iload_n 3, .iload_n 2, .if_icmp .le 6, .iload 4, .ireturn]),
  (33, [.iinc 4 1, .goto (-31)]),
  (39, [.iconst (-1), .ireturn])]
def bk_T_rowBits : List (Nat × List Instr) := [(0, [.iconst 0, .istore_n 2, .iconst 0, .istore_n 3]),
  (4, [.iload_n 3, .aload_n 0, .getfield 15, .if_icmp .ge 21, .iconst 2, .iload_n 2, .imul, .aload_n 0, .iconst 0, .iload_n 1, .iload_n 3, .invokevirtual 19, .iadd, .istore_n 2, .iinc 3 1, .goto (-23)]),
  (30, [.iload_n 2, .ireturn])]
def bk_T_hasEdge : List (Nat × List Instr) := [(0, [.iload_n 2, .iconst 0, .iload_n 1, .ifCond .eq 12, .aload_n 0, .getfield 15, .iconst 1, .isub, .goto 7]),
  (15, [.aload_n 0, .getfield 15]),
  (19, [.invokestatic 23, .ifCond .eq 32, .iload_n 3, .iconst 0, .iload_n 1, .ifCond .eq 10, .aload_n 0, .getfield 15, .goto 9]),
  (38, [.aload_n 0, .getfield 15, .iconst 1, .isub]),
  (44, [.invokestatic 23, .ifCond .eq 7, .iconst 1, .goto 4]),
  (54, [.iconst 0]),
  (55, [.ireturn])]
def bk_T_edgeSum : List (Nat × List Instr) := [(0, [.iload_n 2, .bipush 11, .imul, .iload_n 3, .iadd, .istore 4, .aload_n 0, .getfield 9, .iload_n 1, .ifCond .eq 11, .iload 4, .bipush 11, .iadd, .goto 7]),
  (24, [.iload 4, .iconst 1, .iadd]),
  (28, [.iaload, .aload_n 0, .getfield 9, .iload 4, .iaload, .isub, .ireturn])]
def bk_T_holds : List (Nat × List Instr) := [(0, [.iload_n 2, .iload_n 3, .iadd, .aload_n 0, .iload_n 1, .iload_n 2, .iload_n 3, .invokevirtual 19, .iadd, .iconst 1, .iand, .istore 4, .iload 4, .iload_n 1, .ifCond .eq 7, .iconst 0, .goto 4]),
  (25, [.iconst 1]),
  (26, [.if_icmp .ne 7, .iconst 1, .goto 4]),
  (33, [.iconst 0]),
  (34, [.ireturn])]
def bk_T_minusOnes : List (Nat × List Instr) := [(0, [.iconst 0, .istore_n 1, .iconst 0, .istore_n 2]),
  (4, [.iload_n 2, .aload_n 0, .getfield 15, .if_icmp .ge 38, .iconst 0, .istore_n 3]),
  (14, [.iload_n 3, .aload_n 0, .getfield 15, .if_icmp .ge 22, .aload_n 0, .iload_n 2, .iload_n 3, .invokevirtual 27, .iconst (-1), .if_icmp .ne 6, .iinc 1 1]),
  (35, [.iinc 3 1, .goto (-24)]),
  (41, [.iinc 2 1, .goto (-40)]),
  (47, [.iload_n 1, .ireturn])]
def bk_T_kindOf : List (Nat × List Instr) := [(0, [.aload_n 0, .invokevirtual 31, .ifCond .ne 5, .iconst 0, .ireturn]),
  (9, [.aload_n 0, .iconst 1, .invokevirtual 35, .ifCond .eq 5, .iconst 1, .ireturn]),
  (19, [.aload_n 0, .iconst 3, .invokevirtual 35, .ifCond .eq 5, .iconst 2, .ireturn]),
  (29, [.aload_n 0, .iconst 0, .invokevirtual 35, .ifCond .eq 7, .iconst 3, .goto 4]),
  (41, [.iconst 4]),
  (42, [.ireturn])]
def bk_T_staysWhen : List (Nat × List Instr) := [(0, [.iconst 0, .istore_n 2]),
  (2, [.iload_n 2, .aload_n 0, .getfield 15, .if_icmp .ge 43, .iconst 0, .istore_n 3]),
  (12, [.iload_n 3, .aload_n 0, .getfield 15, .if_icmp .ge 27, .aload_n 0, .iload_n 2, .iload_n 3, .invokevirtual 27, .aload_n 0, .iload_n 1, .iload_n 2, .iload_n 3, .invokevirtual 39, .if_icmp .eq 5, .iconst 0, .ireturn]),
  (38, [.iinc 3 1, .goto (-29)]),
  (44, [.iinc 2 1, .goto (-45)]),
  (50, [.iconst 1, .ireturn])]
def bk_T_movedEntry : List (Nat × List Instr) := [(0, [.aload_n 0, .getfield 15, .iconst 1, .isub, .istore 4, .iload_n 1, .tableswitch 54 0 2 #[27, 37, 47]]),
  (36, [.aload_n 0, .iload_n 2, .iload 4, .iload_n 3, .isub, .invokevirtual 27, .ireturn]),
  (46, [.aload_n 0, .iload 4, .iload_n 3, .isub, .iload_n 2, .invokevirtual 27, .ireturn]),
  (56, [.aload_n 0, .iload_n 3, .iload_n 2, .invokevirtual 27, .ireturn]),
  (63, [.aload_n 0, .iload 4, .iload_n 2, .isub, .iload 4, .iload_n 3, .isub, .invokevirtual 27, .ireturn])]
def bk_T_isBelow : List (Nat × List Instr) := [(0, [.iconst 0, .istore_n 2]),
  (2, [.iload_n 2, .aload_n 0, .getfield 15, .if_icmp .gt 42, .iconst 0, .istore_n 3]),
  (12, [.iload_n 3, .aload_n 0, .getfield 15, .if_icmp .gt 26, .aload_n 0, .iload_n 2, .iload_n 3, .invokevirtual 43, .aload_n 1, .iload_n 2, .iload_n 3, .invokevirtual 43, .if_icmp .ge 5, .iconst 0, .ireturn]),
  (37, [.iinc 3 1, .goto (-28)]),
  (43, [.iinc 2 1, .goto (-44)]),
  (49, [.iconst 1, .ireturn])]
def bk_T_stepsTo : List (Nat × List Instr) := [(0, [.iconst 0, .istore_n 2, .iconst 0, .istore_n 3]),
  (4, [.iload_n 3, .aload_n 0, .getfield 15, .if_icmp .gt 48, .iconst 0, .istore 4]),
  (15, [.iload 4, .aload_n 0, .getfield 15, .if_icmp .gt 30, .iload_n 2, .aload_n 0, .iload_n 3, .iload 4, .invokevirtual 43, .aload_n 1, .iload_n 3, .iload 4, .invokevirtual 43, .isub, .invokestatic 46, .iadd, .istore_n 2, .iinc 4 1, .goto (-33)]),
  (51, [.iinc 3 1, .goto (-50)]),
  (57, [.iload_n 2, .ireturn])]
def bk_T_stepToward : List (Nat × List Instr) := [(0, [.iconst 1, .istore_n 2]),
  (2, [.iload_n 2, .aload_n 0, .getfield 15, .if_icmp .ge 71, .iconst 1, .istore_n 3]),
  (12, [.iload_n 3, .aload_n 0, .getfield 15, .if_icmp .ge 55, .aload_n 1, .iload_n 2, .iload_n 3, .invokevirtual 43, .aload_n 0, .iload_n 2, .iload_n 3, .invokevirtual 43, .isub, .istore 4, .iload 4, .ifCond .eq 29, .aload_n 0, .iload_n 2, .iload_n 3, .iload 4, .ifCond .le 7, .iconst 1, .goto 4]),
  (52, [.iconst (-1)]),
  (53, [.invokevirtual 52, .ifCond .eq 10, .bipush 100, .iload_n 2, .imul, .iload_n 3, .iadd, .ireturn]),
  (66, [.iinc 3 1, .goto (-57)]),
  (72, [.iinc 2 1, .goto (-73)]),
  (78, [.iconst (-1), .ireturn])]
def bk_T_shift : List (Nat × List Instr) := [(0, [.iload_n 1, .iconst 1, .aload_n 0, .getfield 15, .iconst 1, .isub, .invokestatic 23, .ifCond .eq 17, .iload_n 2, .iconst 1, .aload_n 0, .getfield 15, .iconst 1, .isub, .invokestatic 23, .ifCond .ne 5]),
  (28, [.iconst 0, .ireturn]),
  (30, [.aload_n 0, .iload_n 1, .iload_n 2, .invokevirtual 43, .iload_n 3, .iadd, .istore 4, .aload_n 0, .iload_n 1, .iconst 1, .isub, .iload_n 2, .invokevirtual 43, .iload 4, .invokestatic 55, .ifCond .eq 51, .aload_n 0, .iload_n 1, .iload_n 2, .iconst 1, .isub, .invokevirtual 43, .iload 4, .invokestatic 55, .ifCond .eq 35, .iload 4, .aload_n 0, .iload_n 1, .iconst 1, .iadd, .iload_n 2, .invokevirtual 43, .invokestatic 55, .ifCond .eq 19, .iload 4, .aload_n 0, .iload_n 1, .iload_n 2, .iconst 1, .iadd, .invokevirtual 43, .invokestatic 55, .ifCond .ne 5]),
  (104, [.iconst 0, .ireturn]),
  (106, [.aload_n 0, .getfield 9, .iload_n 1, .bipush 11, .imul, .iload_n 2, .iadd, .iload 4, .iastore, .iconst 1, .ireturn])]
def bk_T_rises : List (Nat × List Instr) := [(0, [.iload_n 1, .iload_n 0, .if_icmp .eq 10, .iload_n 1, .iload_n 0, .iconst 1, .iadd, .if_icmp .ne 7]),
  (12, [.iconst 1, .goto 4]),
  (16, [.iconst 0]),
  (17, [.ireturn])]
def bk_T_turnSquares : List (Nat × List Instr) := [(0, [.iconst 1, .istore_n 2]),
  (2, [.iload_n 2, .aload_n 0, .getfield 15, .if_icmp .ge 52, .iconst 1, .istore_n 3]),
  (12, [.iload_n 3, .aload_n 0, .getfield 15, .if_icmp .ge 36, .iload_n 2, .iload_n 3, .iadd, .iconst 1, .iand, .iload_n 1, .if_icmp .ne 21, .aload_n 0, .iload_n 2, .iload_n 3, .iconst 1, .invokevirtual 52, .ifCond .ne 11, .aload_n 0, .iload_n 2, .iload_n 3, .iconst (-1), .invokevirtual 52, .pop]),
  (47, [.iinc 3 1, .goto (-38)]),
  (53, [.iinc 2 1, .goto (-54)]),
  (59, [.return_])]
def bk_T_become : List (Nat × List Instr) := [(0, [.aload_n 0, .aload_n 1, .getfield 15, .putfield 15, .aload_n 1, .getfield 9, .iconst 0, .aload_n 0, .getfield 9, .iconst 0, .bipush 121, .invokestatic 59, .return_])]
def bk_T_becomeExtreme : List (Nat × List Instr) := [(0, [.aload_n 0, .aload_n 1, .getfield 15, .putfield 15, .iconst 0, .istore 4]),
  (11, [.iload 4, .bipush 121, .if_icmp .ge 55, .aload_n 1, .getfield 9, .iload 4, .iaload, .istore 5, .aload_n 2, .getfield 9, .iload 4, .iaload, .istore 6, .aload_n 0, .getfield 9, .iload 4, .iload_n 3, .ifCond .eq 13, .iload 5, .iload 6, .invokestatic 65, .goto 10]),
  (56, [.iload 5, .iload 6, .invokestatic 68]),
  (63, [.iastore, .iinc 4 1, .goto (-56)]),
  (70, [.return_])]
def bk_T_becomeMoved : List (Nat × List Instr) := [(0, [.aload_n 0, .aload_n 1, .getfield 15, .putfield 15, .iconst 0, .istore_n 3]),
  (10, [.iload_n 3, .aload_n 0, .getfield 15, .if_icmp .ge 71, .iconst 0, .istore 4, .iconst 0, .istore 5]),
  (24, [.iload 5, .aload_n 0, .getfield 15, .if_icmp .ge 50, .iload 4, .aload_n 1, .iload_n 2, .iload_n 3, .iload 5, .invokevirtual 39, .iadd, .istore 4, .aload_n 0, .getfield 9, .iload_n 3, .iconst 1, .iadd, .bipush 11, .imul, .iload 5, .iadd, .iconst 1, .iadd, .aload_n 0, .iload_n 3, .iload 5, .iconst 1, .iadd, .invokevirtual 43, .iload 4, .iadd, .iastore, .iinc 5 1, .goto (-53)]),
  (80, [.iinc 3 1, .goto (-73)]),
  (86, [.return_])]
def bk_T_layRow : List (Nat × List Instr) := [(0, [.iconst 0, .istore_n 3, .iconst 0, .istore 4]),
  (5, [.iload 4, .aload_n 0, .getfield 15, .if_icmp .ge 40, .iload_n 3, .iload_n 2, .aload_n 0, .getfield 15, .iconst 1, .isub, .iload 4, .isub, .ishr, .iconst 1, .iand, .iadd, .istore_n 3, .aload_n 0, .getfield 9, .iload_n 1, .bipush 11, .imul, .iload 4, .iadd, .iconst 1, .iadd, .iload_n 3, .iastore, .iinc 4 1, .goto (-43)]),
  (51, [.return_])]
def bk_B_new : List (Nat × List Instr) := [(0, [.aload_n 0, .invokespecial 3, .aload_n 0, .bipush 8, .anewarray 9, .putfield 11, .aload_n 0, .new 9, .dup, .invokespecial 15, .putfield 16, .aload_n 0, .new 20, .dup, .invokespecial 22, .putfield 23, .aload_n 0, .new 27, .dup, .invokespecial 29, .putfield 30, .aload_n 0, .new 34, .dup, .invokespecial 36, .putfield 37, .aload_n 0, .new 41, .dup, .invokespecial 43, .putfield 44, .iconst 0, .istore_n 1]),
  (70, [.iload_n 1, .bipush 8, .if_icmp .ge 22, .aload_n 0, .getfield 11, .iload_n 1, .new 9, .dup, .invokespecial 15, .aastore, .iinc 1 1, .goto (-22)]),
  (95, [.return_])]
def bk_B_begin : List (Nat × List Instr) := [(0, [.iload_n 1, .ifCond .lt 15, .iload_n 1, .iconst 2, .if_icmp .gt 10, .iload_n 2, .invokestatic 48, .ifCond .ne 5]),
  (16, [.iconst 0, .ireturn]),
  (18, [.aload_n 0, .getfield 23, .iload_n 1, .iload_n 2, .invokevirtual 52, .iconst 1, .ireturn])]
def bk_B_put : List (Nat × List Instr) := [(0, [.aload_n 0, .getfield 23, .iload_n 1, .iload_n 2, .invokevirtual 56, .ifCond .ne 5, .iconst 0, .ireturn]),
  (14, [.aload_n 0, .getfield 23, .iload_n 1, .iload_n 2, .iload_n 3, .invokevirtual 60, .iconst 1, .ireturn])]
def bk_B_fault : List (Nat × List Instr) := [(0, [.aload_n 0, .getfield 23, .invokevirtual 64, .ireturn])]
def bk_B_take : List (Nat × List Instr) := [(0, [.aload_n 0, .iload_n 1, .invokevirtual 68, .astore_n 2, .aload_n 2, .ifnull 13, .aload_n 0, .getfield 23, .invokevirtual 64, .ifCond .eq 5]),
  (20, [.iconst 0, .ireturn]),
  (22, [.aload_n 0, .getfield 23, .aload_n 2, .invokevirtual 72, .iconst 1, .ireturn])]
def bk_B_size : List (Nat × List Instr) := [(0, [.aload_n 0, .iload_n 1, .invokevirtual 68, .astore_n 2, .aload_n 2, .ifnonnull 7, .iconst (-1), .goto 7]),
  (14, [.aload_n 2, .getfield 76]),
  (18, [.ireturn])]
def bk_B_at : List (Nat × List Instr) := [(0, [.aload_n 0, .iload_n 1, .invokevirtual 68, .astore 4, .aload 4, .ifnonnull 5, .iconst (-1), .ireturn]),
  (14, [.iload_n 2, .iconst 0, .aload 4, .getfield 76, .iconst 1, .isub, .invokestatic 80, .ifCond .eq 28, .iload_n 3, .iconst 0, .aload 4, .getfield 76, .iconst 1, .isub, .invokestatic 80, .ifCond .eq 13, .aload 4, .iload_n 2, .iload_n 3, .invokevirtual 84, .goto 4]),
  (54, [.iconst 0]),
  (55, [.ireturn])]
def bk_B_sum : List (Nat × List Instr) := [(0, [.aload_n 0, .iload_n 1, .invokevirtual 68, .astore 4, .aload 4, .ifnull 29, .iload_n 2, .iconst 0, .aload 4, .getfield 76, .invokestatic 80, .ifCond .eq 16, .iload_n 3, .iconst 0, .aload 4, .getfield 76, .invokestatic 80, .ifCond .ne 5]),
  (38, [.iconst (-1), .ireturn]),
  (40, [.aload 4, .iload_n 2, .iload_n 3, .invokevirtual 88, .ireturn])]
def bk_B_triangle : List (Nat × List Instr) := [(0, [.aload_n 0, .iload_n 1, .invokevirtual 68, .astore 4, .aload 4, .ifnull 27, .iload_n 2, .iconst 1, .aload 4, .getfield 76, .invokestatic 80, .ifCond .eq 14, .iload_n 3, .iconst 0, .iload_n 2, .iconst 1, .isub, .invokestatic 80, .ifCond .ne 5]),
  (36, [.iconst (-1), .ireturn]),
  (38, [.aload 4, .iload_n 2, .iload_n 3, .invokevirtual 91, .ireturn])]
def bk_B_arrow : List (Nat × List Instr) := [(0, [.aload_n 0, .iload_n 1, .invokevirtual 68, .astore 5, .aload 5, .ifnonnull 5, .iconst (-1), .ireturn]),
  (14, [.aload 5, .iload_n 2, .iload_n 3, .iload 4, .invokevirtual 94, .ifCond .ne 5, .iconst 0, .ireturn]),
  (28, [.aload 5, .iload_n 2, .iload_n 3, .iload 4, .invokevirtual 98, .ifCond .ne 7, .iconst 1, .goto 4]),
  (44, [.iconst (-1)]),
  (45, [.ireturn])]
def bk_B_held : List (Nat × List Instr) := [(0, [.aload_n 0, .iload_n 1, .invokevirtual 68, .astore 5, .aload 5, .ifnull 15, .aload 5, .iload_n 2, .iload_n 3, .iload 4, .invokevirtual 94, .ifCond .ne 5]),
  (24, [.iconst (-1), .ireturn]),
  (26, [.aload 5, .iload_n 2, .iload_n 3, .iload 4, .invokevirtual 102, .ifCond .eq 7, .iconst 1, .goto 4]),
  (42, [.iconst 0]),
  (43, [.ireturn])]
def bk_B_link : List (Nat × List Instr) := [(0, [.aload_n 0, .iload_n 1, .invokevirtual 68, .astore_n 3, .aload_n 3, .ifnull 19, .iload_n 2, .iconst 0, .iconst 2, .aload_n 3, .getfield 76, .imul, .iconst 1, .isub, .invokestatic 80, .ifCond .ne 5]),
  (26, [.iconst (-1), .ireturn]),
  (28, [.aload_n 0, .getfield 37, .aload_n 3, .iload_n 2, .invokevirtual 105, .ireturn])]
def bk_B_rings : List (Nat × List Instr) := [(0, [.aload_n 0, .iload_n 1, .invokevirtual 68, .astore_n 2, .aload_n 2, .ifnonnull 7, .iconst (-1), .goto 11]),
  (14, [.aload_n 0, .getfield 37, .aload_n 2, .invokevirtual 109]),
  (22, [.ireturn])]
def bk_B_kind : List (Nat × List Instr) := [(0, [.aload_n 0, .iload_n 1, .invokevirtual 68, .astore_n 2, .aload_n 2, .ifnonnull 7, .iconst (-1), .goto 7]),
  (14, [.aload_n 2, .invokevirtual 113]),
  (18, [.ireturn])]
def bk_B_less : List (Nat × List Instr) := [(0, [.aload_n 0, .iload_n 1, .invokevirtual 68, .astore_n 2, .aload_n 2, .ifnonnull 7, .iconst (-1), .goto 7]),
  (14, [.aload_n 2, .invokevirtual 116]),
  (18, [.ireturn])]
def bk_B_count : List (Nat × List Instr) := [(0, [.iload_n 1, .iconst 1, .bipush 13, .invokestatic 80, .ifCond .eq 11, .getstatic 119, .iload_n 1, .laload, .goto 6]),
  (18, [.ldc2_w 123]),
  (21, [.lreturn])]
def bk_B_first : List (Nat × List Instr) := [(0, [.iload_n 1, .iconst 1, .bipush 13, .invokestatic 80, .ifCond .eq 14, .iload_n 2, .iconst 0, .iload_n 1, .iconst 1, .isub, .invokestatic 80, .ifCond .ne 7]),
  (21, [.ldc2_w 123, .lreturn]),
  (25, [.getstatic 119, .iload_n 1, .iconst 1, .isub, .laload, .lstore_n 3, .iconst 1, .istore 5]),
  (36, [.iload 5, .iload_n 2, .if_icmp .gt 36, .lload_n 3, .iload_n 1, .iload 5, .isub, .iload_n 1, .iload 5, .iadd, .iconst 1, .isub, .imul, .iload 5, .iconst 2, .iload_n 1, .imul, .iload 5, .isub, .iconst 1, .isub, .imul, .invokestatic 125, .lstore_n 3, .iinc 5 1, .goto (-36)]),
  (75, [.lload_n 3, .lreturn])]
def bk_B_weight : List (Nat × List Instr) := [(0, [.iload_n 1, .iconst 1, .bipush 11, .invokestatic 80, .ifCond .eq 15, .lconst 1, .iload_n 1, .iload_n 1, .iconst 1, .isub, .imul, .iconst 2, .idiv, .lshl, .goto 6]),
  (22, [.ldc2_w 123]),
  (25, [.lreturn])]
def bk_B_number : List (Nat × List Instr) := [(0, [.aload_n 0, .iload_n 1, .invokevirtual 68, .astore_n 2, .aload_n 2, .ifnonnull 9, .ldc2_w 123, .goto 11]),
  (16, [.aload_n 0, .getfield 30, .aload_n 2, .invokevirtual 129]),
  (24, [.lreturn])]
def bk_B_of : List (Nat × List Instr) := [(0, [.aload_n 0, .iload_n 1, .invokevirtual 68, .astore 5, .aload 5, .ifnull 26, .iload_n 2, .invokestatic 48, .ifCond .eq 19, .lload_n 3, .lconst 0, .lcmp, .ifCond .lt 13, .lload_n 3, .getstatic 119, .iload_n 2, .laload, .lcmp, .ifCond .lt 5]),
  (35, [.iconst 0, .ireturn]),
  (37, [.aload_n 0, .getfield 30, .aload 5, .iload_n 2, .lload_n 3, .invokevirtual 133, .iconst 1, .ireturn])]
def bk_B_draw : List (Nat × List Instr) := [(0, [.aload_n 0, .iload_n 1, .invokevirtual 68, .astore 5, .aload 5, .ifnull 10, .iload_n 2, .invokestatic 48, .ifCond .ne 5]),
  (19, [.iconst (-1), .ireturn]),
  (21, [.getstatic 119, .iload_n 2, .laload, .lconst 1, .lsub, .invokestatic 137, .lstore 6, .lload_n 3, .lstore 8, .iconst 1, .istore 10]),
  (39, [.iload 10, .sipush 1000, .if_icmp .gt 57, .lload 8, .ldc2_w 141, .lmul, .ldc2_w 143, .ladd, .lstore 8, .lload 8, .bipush 16, .lushr, .lload 6, .land, .lstore 11, .lload 11, .getstatic 119, .iload_n 2, .laload, .lcmp, .ifCond .ge 18, .aload_n 0, .getfield 30, .aload 5, .iload_n 2, .lload 11, .invokevirtual 133, .iload 10, .ireturn]),
  (95, [.iinc 10 1, .goto (-59)]),
  (101, [.iconst (-1), .ireturn])]
def bk_B_both : List (Nat × List Instr) := [(0, [.aload_n 0, .iload_n 1, .invokevirtual 68, .astore 4, .aload 4, .ifnull 12, .aload_n 0, .iload_n 2, .iload_n 3, .invokevirtual 145, .ifCond .ne 5]),
  (21, [.iconst 0, .ireturn]),
  (23, [.aload 4, .aload_n 0, .getfield 11, .iload_n 2, .aaload, .aload_n 0, .getfield 11, .iload_n 3, .aaload, .iconst 1, .invokevirtual 148, .iconst 1, .ireturn])]
def bk_B_either : List (Nat × List Instr) := [(0, [.aload_n 0, .iload_n 1, .invokevirtual 68, .astore 4, .aload 4, .ifnull 12, .aload_n 0, .iload_n 2, .iload_n 3, .invokevirtual 145, .ifCond .ne 5]),
  (21, [.iconst 0, .ireturn]),
  (23, [.aload 4, .aload_n 0, .getfield 11, .iload_n 2, .aaload, .aload_n 0, .getfield 11, .iload_n 3, .aaload, .iconst 0, .invokevirtual 148, .iconst 1, .ireturn])]
def bk_B_below : List (Nat × List Instr) := [(0, [.aload_n 0, .iload_n 1, .iload_n 2, .invokevirtual 145, .ifCond .eq 25, .aload_n 0, .getfield 11, .iload_n 1, .aaload, .aload_n 0, .getfield 11, .iload_n 2, .aaload, .invokevirtual 152, .ifCond .eq 7, .iconst 1, .goto 4]),
  (31, [.iconst 0]),
  (32, [.ireturn])]
def bk_B_apart : List (Nat × List Instr) := [(0, [.aload_n 0, .iload_n 1, .iload_n 2, .invokevirtual 145, .ifCond .eq 21, .aload_n 0, .getfield 11, .iload_n 1, .aaload, .aload_n 0, .getfield 11, .iload_n 2, .aaload, .invokevirtual 156, .goto 4]),
  (27, [.iconst (-1)]),
  (28, [.ireturn])]
def bk_B_step : List (Nat × List Instr) := [(0, [.aload_n 0, .iload_n 1, .invokevirtual 68, .astore 5, .aload 5, .ifnull 27, .aload 5, .iload_n 2, .iload_n 3, .iload 4, .ifCond .eq 7, .iconst 1, .goto 4]),
  (25, [.iconst (-1)]),
  (26, [.invokevirtual 159, .ifCond .eq 7, .iconst 1, .goto 4]),
  (36, [.iconst 0]),
  (37, [.ireturn])]
def bk_B_toward : List (Nat × List Instr) := [(0, [.aload_n 0, .iload_n 1, .iload_n 2, .invokevirtual 145, .ifCond .eq 21, .aload_n 0, .getfield 11, .iload_n 1, .aaload, .aload_n 0, .getfield 11, .iload_n 2, .aaload, .invokevirtual 162, .goto 4]),
  (27, [.iconst (-1)]),
  (28, [.ireturn])]
def bk_B_turn : List (Nat × List Instr) := [(0, [.aload_n 0, .iload_n 1, .invokevirtual 68, .astore_n 2, .aload_n 2, .ifnonnull 5, .iconst 0, .ireturn]),
  (12, [.aload_n 2, .iconst 0, .invokevirtual 165, .aload_n 2, .iconst 1, .invokevirtual 165, .iconst 1, .ireturn])]
def bk_B_move : List (Nat × List Instr) := [(0, [.aload_n 0, .iload_n 1, .invokevirtual 68, .astore_n 3, .aload_n 3, .ifnull 12, .iload_n 2, .iconst 0, .iconst 2, .invokestatic 80, .ifCond .ne 5]),
  (19, [.iconst 0, .ireturn]),
  (21, [.aload_n 0, .getfield 16, .aload_n 3, .iload_n 2, .invokevirtual 169, .aload_n 3, .aload_n 0, .getfield 16, .invokevirtual 173, .iconst 1, .ireturn])]
def bk_B_alike : List (Nat × List Instr) := [(0, [.aload_n 0, .iload_n 1, .invokevirtual 68, .astore_n 2, .aload_n 2, .ifnull 11, .aload_n 2, .getfield 76, .iconst 5, .if_icmp .le 5]),
  (18, [.iconst (-1), .ireturn]),
  (20, [.aload_n 0, .getfield 44, .aload_n 2, .getfield 76, .invokevirtual 176, .ifCond .ne 11, .aload_n 0, .aload_n 2, .getfield 76, .invokevirtual 179]),
  (42, [.aload_n 0, .getfield 44, .aload_n 2, .getfield 76, .aload_n 0, .getfield 37, .aload_n 2, .invokevirtual 182, .invokevirtual 185, .ireturn])]
def bk_B_learnJoinings : List (Nat × List Instr) := [(0, [.iconst 0, .istore_n 2]),
  (2, [.iload_n 2, .i2l, .getstatic 119, .iload_n 1, .laload, .lcmp, .ifCond .ge 43, .aload_n 0, .getfield 30, .aload_n 0, .getfield 16, .iload_n 1, .iload_n 2, .i2l, .invokevirtual 133, .aload_n 0, .getfield 44, .iload_n 1, .iload_n 2, .aload_n 0, .getfield 37, .aload_n 0, .getfield 16, .invokevirtual 182, .invokevirtual 189, .iinc 2 1, .goto (-48)]),
  (53, [.aload_n 0, .getfield 44, .iload_n 1, .invokevirtual 193, .return_])]
def bk_B_tableOf : List (Nat × List Instr) := [(0, [.iload_n 1, .iconst 0, .bipush 7, .invokestatic 80, .ifCond .eq 12, .aload_n 0, .getfield 11, .iload_n 1, .aaload, .goto 4]),
  (19, [.aconst_null]),
  (20, [.areturn])]
def bk_B_areOfOneSize : List (Nat × List Instr) := [(0, [.aload_n 0, .iload_n 1, .invokevirtual 68, .astore_n 3, .aload_n 0, .iload_n 2, .invokevirtual 68, .astore 4, .aload_n 3, .ifnull 24, .aload 4, .ifnull 19, .aload_n 3, .getfield 76, .aload 4, .getfield 76, .if_icmp .ne 7, .iconst 1, .goto 4]),
  (38, [.iconst 0]),
  (39, [.ireturn])]
def bk_B_isSize : List (Nat × List Instr) := [(0, [.iload_n 0, .iconst 1, .bipush 10, .invokestatic 80, .ireturn])]
def bk_B_isWithin : List (Nat × List Instr) := [(0, [.iload_n 0, .iload_n 1, .if_icmp .lt 12, .iload_n 0, .iload_n 2, .if_icmp .gt 7, .iconst 1, .goto 4]),
  (14, [.iconst 0]),
  (15, [.ireturn])]
def bk_B_timesRatio : List (Nat × List Instr) := [(0, [.iload_n 3, .iconst 1, .if_icmp .ge 7, .lconst 0, .goto 21]),
  (9, [.lload_n 0, .iload_n 3, .i2l, .ldiv, .iload_n 2, .i2l, .lmul, .lload_n 0, .iload_n 3, .i2l, .lrem, .iload_n 2, .i2l, .lmul, .iload_n 3, .i2l, .ldiv, .ladd]),
  (27, [.lreturn])]
def bk_B_bitsUpTo : List (Nat × List Instr) := [(0, [.lconst 0, .lstore_n 2, .iconst 0, .istore 4]),
  (5, [.iload 4, .bipush 63, .if_icmp .ge 23, .lload_n 2, .lload_n 0, .lcmp, .ifCond .ge 17, .ldc2_w 196, .lload_n 2, .lmul, .lconst 1, .ladd, .lstore_n 2, .iinc 4 1, .goto (-24)]),
  (32, [.lload_n 2, .lreturn])]
def bk_M_new : List (Nat × List Instr) := [(0, [.aload_n 0, .invokespecial 1, .aload_n 0, .bipush 8, .newarray .int, .putfield 9, .aload_n 0, .sipush 800, .newarray .int, .putfield 13, .aload_n 0, .iconst 1, .putfield 16, .aload_n 0, .bipush 121, .newarray .int, .putfield 20, .aload_n 0, .bipush 100, .newarray .boolean, .putfield 23, .aload_n 0, .sipush 8192, .newarray .long, .putfield 27, .aload_n 0, .iconst (-1), .putfield 31, .aload_n 0, .bipush 121, .newarray .int, .putfield 34, .aload_n 0, .bipush 121, .newarray .boolean, .putfield 37, .aload_n 0, .bipush 121, .newarray .boolean, .putfield 40, .iconst 0, .istore_n 1]),
  (82, [.iload_n 1, .bipush 8, .if_icmp .ge 29, .aload_n 0, .getfield 9, .iload_n 1, .iconst 1, .iastore, .aload_n 0, .getfield 13, .iload_n 1, .bipush 10, .imul, .bipush 10, .imul, .iconst 1, .iastore, .iinc 1 1, .goto (-29)]),
  (114, [.return_])]
def bk_M_isPlace : List (Nat × List Instr) := [(0, [.iload_n 0, .ifCond .lt 13, .iload_n 0, .bipush 8, .if_icmp .ge 7, .iconst 1, .goto 4]),
  (14, [.iconst 0]),
  (15, [.ireturn])]
def bk_M_knows : List (Nat × List Instr) := [(0, [.aload_n 0, .iconst 0, .putfield 43, .iload_n 1, .invokestatic 46, .ireturn])]
def bk_M_a : List (Nat × List Instr) := [(0, [.aload_n 0, .getfield 13, .iload_n 1, .bipush 10, .imul, .iload_n 2, .iadd, .bipush 10, .imul, .iload_n 3, .iadd, .iaload, .ireturn])]
def bk_M_a_ : List (Nat × List Instr) := [(0, [.aload_n 0, .getfield 13, .iload_n 1, .bipush 10, .imul, .iload_n 2, .iadd, .bipush 10, .imul, .iload_n 3, .iadd, .iload 4, .iastore, .return_])]
def bk_M_begin : List (Nat × List Instr) := [(0, [.aload_n 0, .iconst 0, .putfield 43, .iload_n 1, .ifCond .lt 19, .iload_n 1, .iconst 2, .if_icmp .gt 14, .iload_n 2, .iconst 1, .if_icmp .lt 9, .iload_n 2, .bipush 10, .if_icmp .le 5]),
  (25, [.iconst 0, .ireturn]),
  (27, [.aload_n 0, .iload_n 1, .putfield 50, .aload_n 0, .iload_n 2, .putfield 16, .iconst 0, .istore_n 3]),
  (39, [.iload_n 3, .aload_n 0, .getfield 20, .arraylength, .if_icmp .ge 16, .aload_n 0, .getfield 20, .iload_n 3, .iconst 0, .iastore, .iinc 3 1, .goto (-19)]),
  (61, [.iconst 1, .ireturn])]
def bk_M_put : List (Nat × List Instr) := [(0, [.aload_n 0, .iconst 0, .putfield 43, .aload_n 0, .getfield 50, .ifCond .ne 35, .iload_n 1, .ifCond .lt 27, .iload_n 1, .aload_n 0, .getfield 16, .if_icmp .ge 19, .iload_n 2, .ifCond .lt 15, .iload_n 2, .aload_n 0, .getfield 16, .if_icmp .ge 7, .iconst 1, .goto 74]),
  (40, [.iconst 0, .goto 70]),
  (44, [.aload_n 0, .getfield 50, .iconst 1, .if_icmp .ne 35, .iload_n 1, .ifCond .lt 27, .iload_n 1, .aload_n 0, .getfield 16, .if_icmp .gt 19, .iload_n 2, .ifCond .lt 15, .iload_n 2, .aload_n 0, .getfield 16, .if_icmp .gt 7, .iconst 1, .goto 34]),
  (80, [.iconst 0, .goto 30]),
  (84, [.iload_n 1, .iconst 1, .if_icmp .lt 24, .iload_n 1, .aload_n 0, .getfield 16, .if_icmp .gt 16, .iload_n 2, .ifCond .lt 12, .iload_n 2, .iload_n 1, .if_icmp .ge 7, .iconst 1, .goto 4]),
  (110, [.iconst 0]),
  (111, [.istore 4, .iload 4, .ifCond .eq 15, .aload_n 0, .getfield 20, .bipush 11, .iload_n 1, .imul, .iload_n 2, .iadd, .iload_n 3, .iastore]),
  (130, [.iload 4, .ireturn])]
def bk_M_d : List (Nat × List Instr) := [(0, [.aload_n 0, .getfield 20, .bipush 11, .iload_n 1, .imul, .iload_n 2, .iadd, .iaload, .ireturn])]
def bk_M_isRight : List (Nat × List Instr) := [(0, [.iconst 0, .istore_n 3, .iconst 0, .istore 4]),
  (5, [.iload 4, .aload_n 0, .getfield 16, .if_icmp .ge 62, .iload_n 2, .ifCond .eq 13, .aload_n 0, .iload_n 1, .iload 4, .invokevirtual 53, .goto 10]),
  (28, [.aload_n 0, .iload 4, .iload_n 1, .invokevirtual 53]),
  (35, [.istore 5, .iload 5, .iconst (-1), .if_icmp .lt 9, .iload 5, .iconst 1, .if_icmp .le 5]),
  (49, [.iconst 0, .ireturn]),
  (51, [.iload_n 3, .iload 5, .iadd, .istore_n 3, .iload_n 3, .ifCond .lt 8, .iload_n 3, .iconst 1, .if_icmp .le 5]),
  (65, [.iconst 0, .ireturn]),
  (67, [.iinc 4 1, .goto (-65)]),
  (73, [.iload_n 3, .iconst 1, .if_icmp .ne 7, .iconst 1, .goto 4]),
  (82, [.iconst 0]),
  (83, [.ireturn])]
def bk_M_faultOfSums : List (Nat × List Instr) := [(0, [.iconst 0, .istore_n 1]),
  (2, [.iload_n 1, .aload_n 0, .getfield 16, .if_icmp .gt 195, .iconst 0, .istore_n 2]),
  (12, [.iload_n 2, .aload_n 0, .getfield 16, .if_icmp .gt 179, .aload_n 0, .iload_n 1, .iload_n 2, .invokevirtual 53, .istore_n 3, .iload_n 1, .ifCond .eq 7, .iload_n 2, .ifCond .ne 7]),
  (35, [.iload_n 3, .ifCond .ne 7]),
  (39, [.iconst 1, .goto 4]),
  (43, [.iconst 0]),
  (44, [.istore 4, .iload 4, .ifCond .eq 33, .iload_n 1, .aload_n 0, .getfield 16, .if_icmp .lt 8, .iload_n 3, .iload_n 2, .if_icmp .ne 20]),
  (64, [.iload_n 2, .aload_n 0, .getfield 16, .if_icmp .lt 8, .iload_n 3, .iload_n 1, .if_icmp .ne 7]),
  (77, [.iconst 1, .goto 4]),
  (81, [.iconst 0]),
  (82, [.istore 4, .iload 4, .ifCond .eq 40, .iload_n 1, .ifCond .eq 32, .iload_n 3, .aload_n 0, .iload_n 1, .iconst 1, .isub, .iload_n 2, .invokevirtual 53, .if_icmp .eq 20, .iload_n 3, .i2l, .aload_n 0, .iload_n 1, .iconst 1, .isub, .iload_n 2, .invokevirtual 53, .i2l, .lconst 1, .ladd, .lcmp, .ifCond .ne 7]),
  (122, [.iconst 1, .goto 4]),
  (126, [.iconst 0]),
  (127, [.istore 4, .iload 4, .ifCond .eq 40, .iload_n 2, .ifCond .eq 32, .iload_n 3, .aload_n 0, .iload_n 1, .iload_n 2, .iconst 1, .isub, .invokevirtual 53, .if_icmp .eq 20, .iload_n 3, .i2l, .aload_n 0, .iload_n 1, .iload_n 2, .iconst 1, .isub, .invokevirtual 53, .i2l, .lconst 1, .ladd, .lcmp, .ifCond .ne 7]),
  (167, [.iconst 1, .goto 4]),
  (171, [.iconst 0]),
  (172, [.istore 4, .iload 4, .ifCond .ne 14, .sipush 1000, .bipush 100, .iload_n 1, .imul, .iadd, .iload_n 2, .iadd, .ireturn]),
  (190, [.iinc 2 1, .goto (-181)]),
  (196, [.iinc 1 1, .goto (-197)]),
  (202, [.iconst 0, .ireturn])]
def bk_M_faultOfTriangle : List (Nat × List Instr) := [(0, [.iconst 1, .istore_n 1]),
  (2, [.iload_n 1, .aload_n 0, .getfield 16, .if_icmp .gt 134, .iconst 0, .istore_n 2]),
  (12, [.iload_n 2, .iload_n 1, .if_icmp .ge 121, .aload_n 0, .iload_n 1, .iload_n 2, .invokevirtual 53, .istore_n 3, .iload_n 3, .ifCond .lt 31, .iload_n 3, .aload_n 0, .getfield 16, .if_icmp .ge 23, .iload_n 2, .ifCond .eq 15, .iload_n 3, .aload_n 0, .iload_n 1, .iload_n 2, .iconst 1, .isub, .invokevirtual 53, .if_icmp .le 7]),
  (52, [.iconst 1, .goto 4]),
  (56, [.iconst 0]),
  (57, [.istore 4, .iload 4, .ifCond .eq 49, .iload_n 2, .iload_n 1, .iconst 1, .isub, .if_icmp .ge 15, .iload_n 3, .aload_n 0, .iload_n 1, .iconst 1, .isub, .iload_n 2, .invokevirtual 53, .if_icmp .gt 30]),
  (83, [.iload_n 2, .ifCond .eq 22, .iload_n 1, .iconst 1, .if_icmp .eq 17, .iload_n 3, .aload_n 0, .iload_n 1, .iconst 1, .isub, .iload_n 2, .iconst 1, .isub, .invokevirtual 53, .if_icmp .lt 7]),
  (106, [.iconst 1, .goto 4]),
  (110, [.iconst 0]),
  (111, [.istore 4, .iload 4, .ifCond .ne 14, .sipush 1000, .bipush 100, .iload_n 1, .imul, .iadd, .iload_n 2, .iadd, .ireturn]),
  (129, [.iinc 2 1, .goto (-120)]),
  (135, [.iinc 1 1, .goto (-136)]),
  (141, [.iconst 0, .ireturn])]
def bk_M_fault : List (Nat × List Instr) := [(0, [.aload_n 0, .iconst 0, .putfield 43, .aload_n 0, .getfield 50, .iconst 1, .if_icmp .ne 8, .aload_n 0, .invokevirtual 57, .ireturn]),
  (18, [.aload_n 0, .getfield 50, .iconst 2, .if_icmp .ne 8, .aload_n 0, .invokevirtual 61, .ireturn]),
  (31, [.iconst 0, .istore_n 1]),
  (33, [.iload_n 1, .aload_n 0, .getfield 16, .if_icmp .ge 23, .aload_n 0, .iload_n 1, .iconst 1, .invokevirtual 64, .ifCond .ne 8, .bipush 100, .iload_n 1, .iadd, .ireturn]),
  (55, [.iinc 1 1, .goto (-25)]),
  (61, [.iconst 0, .istore_n 1]),
  (63, [.iload_n 1, .aload_n 0, .getfield 16, .if_icmp .ge 24, .aload_n 0, .iload_n 1, .iconst 0, .invokevirtual 64, .ifCond .ne 9, .sipush 200, .iload_n 1, .iadd, .ireturn]),
  (86, [.iinc 1 1, .goto (-26)]),
  (92, [.iconst 0, .ireturn])]
def bk_M_take : List (Nat × List Instr) := [(0, [.aload_n 0, .iload_n 1, .invokevirtual 68, .ifCond .eq 10, .aload_n 0, .invokevirtual 71, .ifCond .eq 5]),
  (15, [.iconst 0, .ireturn]),
  (17, [.aload_n 0, .getfield 9, .iload_n 1, .aload_n 0, .getfield 16, .iastore, .iconst 0, .istore_n 2]),
  (29, [.iload_n 2, .aload_n 0, .getfield 16, .if_icmp .ge 112, .iconst 0, .istore_n 3]),
  (39, [.iload_n 3, .aload_n 0, .getfield 16, .if_icmp .ge 96, .aload_n 0, .iload_n 2, .iload_n 3, .invokevirtual 53, .istore 4, .aload_n 0, .getfield 50, .iconst 1, .if_icmp .ne 40, .aload_n 0, .iload_n 2, .iconst 1, .iadd, .iload_n 3, .iconst 1, .iadd, .invokevirtual 53, .aload_n 0, .iload_n 2, .iload_n 3, .iconst 1, .iadd, .invokevirtual 53, .isub, .aload_n 0, .iload_n 2, .iconst 1, .iadd, .iload_n 3, .invokevirtual 53, .isub, .aload_n 0, .iload_n 2, .iload_n 3, .invokevirtual 53, .iadd, .istore 4]),
  (100, [.aload_n 0, .getfield 50, .iconst 2, .if_icmp .ne 20, .aload_n 0, .iload_n 2, .iconst 1, .iadd, .iload_n 3, .invokevirtual 74, .aload_n 0, .iload_n 2, .iload_n 3, .invokevirtual 74, .isub, .istore 4]),
  (125, [.aload_n 0, .iload_n 1, .iload_n 2, .iload_n 3, .iload 4, .invokevirtual 77, .iinc 3 1, .goto (-98)]),
  (140, [.iinc 2 1, .goto (-114)]),
  (146, [.iconst 1, .ireturn])]
def bk_M_inRow : List (Nat × List Instr) := [(0, [.iconst 0, .istore_n 3, .iconst 0, .istore 4]),
  (5, [.iload 4, .iload_n 1, .if_icmp .ge 26, .aload_n 0, .iload_n 1, .iload 4, .invokevirtual 53, .iload_n 2, .if_icmp .ne 7, .iconst 1, .goto 4]),
  (26, [.iload_n 3]),
  (27, [.istore_n 3, .iinc 4 1, .goto (-26)]),
  (34, [.iload_n 3, .ireturn])]
def bk_M_size : List (Nat × List Instr) := [(0, [.aload_n 0, .iload_n 1, .invokevirtual 68, .ifCond .eq 12, .aload_n 0, .getfield 9, .iload_n 1, .iaload, .goto 4]),
  (17, [.iconst (-1)]),
  (18, [.ireturn])]
def bk_M_isIn : List (Nat × List Instr) := [(0, [.iload_n 2, .ifCond .lt 23, .iload_n 3, .ifCond .lt 19, .iload_n 2, .iload 4, .if_icmp .gt 13, .iload_n 3, .iload 4, .if_icmp .gt 7, .iconst 1, .goto 4]),
  (24, [.iconst 0]),
  (25, [.ireturn])]
def bk_M_at : List (Nat × List Instr) := [(0, [.aload_n 0, .iload_n 1, .invokevirtual 68, .ifCond .ne 5, .iconst (-1), .ireturn]),
  (10, [.aload_n 0, .iload_n 1, .iload_n 2, .iload_n 3, .aload_n 0, .getfield 9, .iload_n 1, .iaload, .iconst 1, .isub, .invokevirtual 81, .ifCond .eq 13, .aload_n 0, .iload_n 1, .iload_n 2, .iload_n 3, .invokevirtual 85, .goto 4]),
  (38, [.iconst 0]),
  (39, [.ireturn])]
def bk_M_corner : List (Nat × List Instr) := [(0, [.iconst 0, .istore 4, .iconst 0, .istore 5]),
  (6, [.iload 5, .iload_n 2, .if_icmp .ge 38, .iconst 0, .istore 6]),
  (15, [.iload 6, .iload_n 3, .if_icmp .ge 23, .iload 4, .aload_n 0, .iload_n 1, .iload 5, .iload 6, .invokevirtual 85, .iadd, .istore 4, .iinc 6 1, .goto (-23)]),
  (41, [.iinc 5 1, .goto (-38)]),
  (47, [.iload 4, .ireturn])]
def bk_M_sum : List (Nat × List Instr) := [(0, [.aload_n 0, .iload_n 1, .invokevirtual 68, .ifCond .eq 29, .aload_n 0, .iload_n 1, .iload_n 2, .iload_n 3, .aload_n 0, .getfield 9, .iload_n 1, .iaload, .invokevirtual 81, .ifCond .eq 13, .aload_n 0, .iload_n 1, .iload_n 2, .iload_n 3, .invokevirtual 88, .goto 4]),
  (34, [.iconst (-1)]),
  (35, [.ireturn])]
def bk_M_rowOf : List (Nat × List Instr) := [(0, [.iconst 0, .istore_n 3, .iconst 0, .istore 4]),
  (5, [.iload 4, .aload_n 0, .getfield 9, .iload_n 1, .iaload, .if_icmp .ge 54, .iconst 0, .istore 5, .iconst 0, .istore 6]),
  (22, [.iload 6, .iload_n 2, .if_icmp .ge 23, .iload 5, .aload_n 0, .iload_n 1, .iload 6, .iload 4, .invokevirtual 85, .iadd, .istore 5, .iinc 6 1, .goto (-23)]),
  (48, [.iload 5, .iconst 1, .if_icmp .ne 10, .iload_n 3, .iconst 1, .iload 4, .ishl, .ior, .istore_n 3]),
  (61, [.iinc 4 1, .goto (-59)]),
  (67, [.iload_n 3, .ireturn])]
def bk_M_nth : List (Nat × List Instr) := [(0, [.iload_n 1, .istore_n 2, .iconst 0, .istore_n 3]),
  (4, [.iload_n 3, .bipush 20, .if_icmp .ge 29, .iload_n 0, .iload_n 3, .ishr, .iconst 1, .iand, .ifCond .ne 6, .goto 12]),
  (21, [.iload_n 2, .ifCond .ne 5, .iload_n 3, .ireturn]),
  (27, [.iinc 2 (-1)]),
  (30, [.iinc 3 1, .goto (-29)]),
  (36, [.iconst (-1), .ireturn])]
def bk_M_triangle : List (Nat × List Instr) := [(0, [.aload_n 0, .iload_n 1, .invokevirtual 68, .ifCond .eq 22, .iload_n 2, .iconst 1, .if_icmp .lt 17, .iload_n 2, .aload_n 0, .getfield 9, .iload_n 1, .iaload, .if_icmp .gt 7, .iload_n 3, .ifCond .ge 5]),
  (27, [.iconst (-1), .ireturn]),
  (29, [.aload_n 0, .iload_n 1, .iload_n 2, .invokevirtual 91, .iload_n 3, .invokestatic 94, .ireturn])]
def bk_M_points : List (Nat × List Instr) := [(0, [.iconst 0, .istore 5, .iload_n 2, .ifCond .eq 35, .iconst 0, .istore 6]),
  (10, [.iload 6, .iload 4, .if_icmp .ge 22, .iload 5, .aload_n 0, .iload_n 1, .iload_n 3, .iload 6, .invokevirtual 85, .iadd, .istore 5, .iinc 6 1, .goto (-23)]),
  (36, [.goto 32]),
  (39, [.iconst 0, .istore 6]),
  (42, [.iload 6, .iload_n 3, .if_icmp .ge 23, .iload 5, .aload_n 0, .iload_n 1, .iload 6, .iload 4, .invokevirtual 85, .iadd, .istore 5, .iinc 6 1, .goto (-23)]),
  (68, [.iload 5, .ifCond .ne 7, .iconst 1, .goto 4]),
  (77, [.iconst 0]),
  (78, [.ireturn])]
def bk_M_isEdge : List (Nat × List Instr) := [(0, [.aload_n 0, .getfield 9, .iload_n 1, .iaload, .istore 5, .iload_n 3, .ifCond .lt 47, .iload 4, .ifCond .lt 42, .iload_n 3, .iload_n 2, .ifCond .eq 8, .iload 5, .goto 7]),
  (27, [.iload 5, .iconst 1, .iadd]),
  (31, [.if_icmp .ge 25, .iload 4, .iload_n 2, .ifCond .eq 10, .iload 5, .iconst 1, .iadd, .goto 5]),
  (47, [.iload 5]),
  (49, [.if_icmp .ge 7, .iconst 1, .goto 4]),
  (56, [.iconst 0]),
  (57, [.ireturn])]
def bk_M_arrow : List (Nat × List Instr) := [(0, [.aload_n 0, .iload_n 1, .invokevirtual 68, .ifCond .ne 5, .iconst (-1), .ireturn]),
  (10, [.aload_n 0, .iload_n 1, .iload_n 2, .iload_n 3, .iload 4, .invokevirtual 97, .ifCond .ne 7, .iconst 0, .goto 20]),
  (26, [.aload_n 0, .iload_n 1, .iload_n 2, .iload_n 3, .iload 4, .invokevirtual 101, .ifCond .eq 7, .iconst 1, .goto 4]),
  (42, [.iconst (-1)]),
  (43, [.ireturn])]
def bk_M_isHeld : List (Nat × List Instr) := [(0, [.iload_n 3, .iload 4, .iadd, .iconst 2, .irem, .ifCond .ne 7, .iconst 1, .goto 4]),
  (13, [.iconst 0]),
  (14, [.istore 5, .aload_n 0, .iload_n 1, .iload_n 2, .iload_n 3, .iload 4, .invokevirtual 101, .iload_n 2, .iload 5, .if_icmp .ne 7, .iconst 1, .goto 4]),
  (35, [.iconst 0]),
  (36, [.if_icmp .ne 7, .iconst 1, .goto 4]),
  (43, [.iconst 0]),
  (44, [.ireturn])]
def bk_M_held : List (Nat × List Instr) := [(0, [.aload_n 0, .iload_n 1, .invokevirtual 68, .ifCond .eq 15, .aload_n 0, .iload_n 1, .iload_n 2, .iload_n 3, .iload 4, .invokevirtual 97, .ifCond .ne 7]),
  (20, [.iconst (-1), .goto 20]),
  (24, [.aload_n 0, .iload_n 1, .iload_n 2, .iload_n 3, .iload 4, .invokevirtual 104, .ifCond .eq 7, .iconst 1, .goto 4]),
  (40, [.iconst 0]),
  (41, [.ireturn])]
def bk_M_edge : List (Nat × List Instr) := [(0, [.bipush 100, .iload_n 1, .imul, .iload_n 2, .iadd, .iload_n 0, .ifCond .eq 7, .iconst 0, .goto 6]),
  (14, [.sipush 10000]),
  (17, [.iadd, .ireturn])]
def bk_M_end : List (Nat × List Instr) := [(0, [.aload_n 0, .getfield 9, .iload_n 1, .iaload, .istore_n 3, .iconst 0, .istore 4, .iconst 0, .istore 5]),
  (13, [.iload 5, .iconst 4, .iload_n 3, .imul, .if_icmp .ge 158, .iload_n 2, .ifCond .lt 154, .iload 5, .iload_n 3, .irem, .istore 6, .iload 5, .iload_n 3, .idiv, .iconst 2, .irem, .iconst 1, .if_icmp .ne 7, .iconst 1, .goto 4]),
  (45, [.iconst 0]),
  (46, [.istore 7, .iload 5, .iload_n 3, .if_icmp .ge 7, .iconst 0, .goto 34]),
  (58, [.iload 5, .iconst 2, .iload_n 3, .imul, .if_icmp .ge 8, .iload 6, .goto 21]),
  (71, [.iload 5, .iconst 3, .iload_n 3, .imul, .if_icmp .ge 7, .iload_n 3, .goto 9]),
  (83, [.iload_n 3, .iconst 1, .isub, .iload 6, .isub]),
  (89, [.istore 8, .iload 5, .iload_n 3, .if_icmp .ge 8, .iload 6, .goto 33]),
  (102, [.iload 5, .iconst 2, .iload_n 3, .imul, .if_icmp .ge 7, .iload_n 3, .goto 21]),
  (114, [.iload 5, .iconst 3, .iload_n 3, .imul, .if_icmp .ge 12, .iload_n 3, .iconst 1, .isub, .iload 6, .isub, .goto 4]),
  (131, [.iconst 0]),
  (132, [.istore 9, .aload_n 0, .iload_n 1, .iload 7, .iload 8, .iload 9, .invokevirtual 104, .ifCond .ne 6, .goto 22]),
  (151, [.iload 4, .iload_n 2, .if_icmp .ne 13, .iload 7, .iload 8, .iload 9, .invokestatic 107, .ireturn]),
  (167, [.iinc 4 1]),
  (170, [.iinc 5 1, .goto (-160)]),
  (176, [.iconst (-1), .ireturn])]
def bk_M_next : List (Nat × List Instr) := [(0, [.iconst 0, .istore 5]),
  (3, [.iload 5, .iconst 4, .if_icmp .ge 147, .iload 5, .iconst 2, .if_icmp .ge 7, .iconst 1, .goto 4]),
  (19, [.iconst 0]),
  (20, [.istore 6, .iload 5, .iconst 3, .if_icmp .ne 9, .iload_n 2, .iconst 1, .iadd, .goto 4]),
  (34, [.iload_n 2]),
  (35, [.istore 7, .iload 5, .iconst 1, .if_icmp .ne 9, .iload_n 3, .iconst 1, .iadd, .goto 4]),
  (49, [.iload_n 3]),
  (50, [.istore 8, .iload 6, .iload 7, .iload 8, .invokestatic 107, .istore 9, .iload 9, .iload 4, .if_icmp .eq 80, .aload_n 0, .iload_n 1, .iload 6, .iload 7, .iload 8, .invokevirtual 104, .ifCond .ne 6, .goto 63]),
  (87, [.aload_n 0, .iload 5, .iconst 2, .if_icmp .ne 9, .iload_n 2, .iconst 1, .isub, .goto 16]),
  (100, [.iload 5, .iconst 3, .if_icmp .ne 9, .iload_n 2, .iconst 1, .iadd, .goto 4]),
  (112, [.iload_n 2]),
  (113, [.putfield 111, .aload_n 0, .iload 5, .ifCond .ne 9, .iload_n 3, .iconst 1, .isub, .goto 16]),
  (128, [.iload 5, .iconst 1, .if_icmp .ne 9, .iload_n 3, .iconst 1, .iadd, .goto 4]),
  (140, [.iload_n 3]),
  (141, [.putfield 114, .iload 9, .ireturn]),
  (147, [.iinc 5 1, .goto (-147)]),
  (153, [.iconst (-1), .ireturn])]
def bk_M_isInside : List (Nat × List Instr) := [(0, [.iload_n 2, .ifCond .lt 31, .iload_n 3, .ifCond .lt 27, .iload_n 2, .aload_n 0, .getfield 9, .iload_n 1, .iaload, .if_icmp .ge 17, .iload_n 3, .aload_n 0, .getfield 9, .iload_n 1, .iaload, .if_icmp .ge 7, .iconst 1, .goto 4]),
  (32, [.iconst 0]),
  (33, [.ireturn])]
def bk_M_leaves : List (Nat × List Instr) := [(0, [.iload_n 2, .sipush 10000, .if_icmp .ge 7, .iconst 1, .goto 4]),
  (11, [.iconst 0]),
  (12, [.istore_n 3, .iload_n 2, .sipush 10000, .irem, .bipush 100, .idiv, .istore 4, .iload_n 2, .bipush 100, .irem, .istore 5, .aload_n 0, .getfield 9, .iload_n 1, .iaload, .istore 6, .iload_n 3, .ifCond .eq 13, .iload 5, .iload 6, .if_icmp .ne 6, .iinc 5 (-1)]),
  (51, [.iload_n 3, .ifCond .ne 13, .iload 4, .iload 6, .if_icmp .ne 6, .iinc 4 (-1)]),
  (65, [.iload_n 2, .istore 7]),
  (68, [.aload_n 0, .iload_n 1, .iload 4, .iload 5, .invokevirtual 117, .ifCond .eq 45, .aload_n 0, .getfield 23, .bipush 10, .iload 4, .imul, .iload 5, .iadd, .iconst 1, .bastore, .aload_n 0, .iload_n 1, .iload 4, .iload 5, .iload 7, .invokevirtual 121, .istore 7, .aload_n 0, .getfield 111, .istore 4, .aload_n 0, .getfield 114, .istore 5, .goto (-51)]),
  (122, [.iload 7, .ireturn])]
def bk_M_joined : List (Nat × List Instr) := [(0, [.aload_n 0, .iload_n 1, .aload_n 0, .iload_n 1, .iload_n 2, .invokevirtual 125, .invokevirtual 128, .istore_n 3, .iconst 0, .istore 4]),
  (15, [.aload_n 0, .iload_n 1, .iload 4, .invokevirtual 125, .iload_n 3, .if_icmp .eq 9, .iinc 4 1, .goto (-14)]),
  (32, [.iload 4, .ireturn])]
def bk_M_link : List (Nat × List Instr) := [(0, [.aload_n 0, .iload_n 1, .invokevirtual 68, .ifCond .eq 19, .iload_n 2, .ifCond .lt 15, .iload_n 2, .iconst 2, .aload_n 0, .getfield 9, .iload_n 1, .iaload, .imul, .if_icmp .lt 7]),
  (24, [.iconst (-1), .goto 9]),
  (28, [.aload_n 0, .iload_n 1, .iload_n 2, .invokevirtual 131]),
  (34, [.ireturn])]
def bk_M_rings : List (Nat × List Instr) := [(0, [.aload_n 0, .iload_n 1, .invokevirtual 68, .ifCond .ne 5, .iconst (-1), .ireturn]),
  (10, [.aload_n 0, .getfield 9, .iload_n 1, .iaload, .istore_n 2, .iconst 0, .istore_n 3]),
  (19, [.iload_n 3, .aload_n 0, .getfield 23, .arraylength, .if_icmp .ge 16, .aload_n 0, .getfield 23, .iload_n 3, .iconst 0, .bastore, .iinc 3 1, .goto (-19)]),
  (41, [.iconst 0, .istore_n 3]),
  (43, [.iload_n 3, .iconst 2, .iload_n 2, .imul, .if_icmp .ge 22, .aload_n 0, .iload_n 1, .aload_n 0, .iload_n 1, .iload_n 3, .invokevirtual 125, .invokevirtual 128, .istore 4, .iinc 3 1, .goto (-23)]),
  (69, [.iconst 0, .istore_n 3, .iconst 0, .istore 4]),
  (74, [.iload 4, .iload_n 2, .if_icmp .ge 115, .iconst 0, .istore 5]),
  (83, [.iload 5, .iload_n 2, .if_icmp .ge 100, .aload_n 0, .getfield 23, .bipush 10, .iload 4, .imul, .iload 5, .iadd, .baload, .ifCond .eq 6, .goto 75]),
  (108, [.iinc 3 1, .iload 4, .istore 6, .iload 5, .istore 7, .iconst (-1), .istore 8]),
  (122, [.aload_n 0, .getfield 23, .bipush 10, .iload 6, .imul, .iload 7, .iadd, .baload, .ifCond .ne 45, .aload_n 0, .getfield 23, .bipush 10, .iload 6, .imul, .iload 7, .iadd, .iconst 1, .bastore, .aload_n 0, .iload_n 1, .iload 6, .iload 7, .iload 8, .invokevirtual 121, .istore 8, .aload_n 0, .getfield 111, .istore 6, .aload_n 0, .getfield 114, .istore 7, .goto (-55)]),
  (180, [.iinc 5 1, .goto (-100)]),
  (186, [.iinc 4 1, .goto (-115)]),
  (192, [.iload_n 3, .ireturn])]
def bk_M_stays : List (Nat × List Instr) := [(0, [.aload_n 0, .getfield 9, .iload_n 1, .iaload, .istore_n 3, .iconst 1, .istore 4, .iconst 0, .istore 5]),
  (13, [.iload 5, .iload_n 3, .if_icmp .ge 110, .iconst 0, .istore 6]),
  (22, [.iload 6, .iload_n 3, .if_icmp .ge 95, .iload_n 2, .ifCond .ne 19, .aload_n 0, .iload_n 1, .iload_n 3, .iconst 1, .isub, .iload 6, .isub, .iload 5, .invokevirtual 85, .goto 41]),
  (48, [.iload_n 2, .iconst 1, .if_icmp .ne 23, .aload_n 0, .iload_n 1, .iload_n 3, .iconst 1, .isub, .iload 5, .isub, .iload_n 3, .iconst 1, .isub, .iload 6, .isub, .invokevirtual 85, .goto 16]),
  (73, [.aload_n 0, .iload_n 1, .iload 5, .iload_n 3, .iconst 1, .isub, .iload 6, .isub, .invokevirtual 85]),
  (86, [.istore 7, .iload 4, .ifCond .eq 21, .iload 7, .aload_n 0, .iload_n 1, .iload 5, .iload 6, .invokevirtual 85, .if_icmp .ne 7, .iconst 1, .goto 4]),
  (111, [.iconst 0]),
  (112, [.istore 4, .iinc 6 1, .goto (-95)]),
  (120, [.iinc 5 1, .goto (-110)]),
  (126, [.iload 4, .ireturn])]
def bk_M_lessOf : List (Nat × List Instr) := [(0, [.iconst 0, .istore_n 2, .iconst 0, .istore_n 3]),
  (4, [.iload_n 3, .aload_n 0, .getfield 9, .iload_n 1, .iaload, .if_icmp .ge 49, .iconst 0, .istore 4]),
  (17, [.iload 4, .aload_n 0, .getfield 9, .iload_n 1, .iaload, .if_icmp .ge 29, .iload_n 2, .aload_n 0, .iload_n 1, .iload_n 3, .iload 4, .invokevirtual 85, .iconst (-1), .if_icmp .ne 7, .iconst 1, .goto 4]),
  (45, [.iconst 0]),
  (46, [.iadd, .istore_n 2, .iinc 4 1, .goto (-34)]),
  (54, [.iinc 3 1, .goto (-53)]),
  (60, [.iload_n 2, .ireturn])]
def bk_M_kind : List (Nat × List Instr) := [(0, [.aload_n 0, .iload_n 1, .invokevirtual 68, .ifCond .ne 5, .iconst (-1), .ireturn]),
  (10, [.aload_n 0, .iload_n 1, .invokevirtual 134, .ifCond .ne 5, .iconst 0, .ireturn]),
  (20, [.iconst 0, .istore_n 2]),
  (22, [.iload_n 2, .iconst 3, .if_icmp .ge 22, .aload_n 0, .iload_n 1, .iload_n 2, .invokevirtual 138, .ifCond .eq 7, .iload_n 2, .iconst 1, .iadd, .ireturn]),
  (40, [.iinc 2 1, .goto (-21)]),
  (46, [.iconst 4, .ireturn])]
def bk_M_less : List (Nat × List Instr) := [(0, [.aload_n 0, .iload_n 1, .invokevirtual 68, .ifCond .eq 11, .aload_n 0, .iload_n 1, .invokevirtual 134, .goto 4]),
  (16, [.iconst (-1)]),
  (17, [.ireturn])]
def bk_M_bits : List (Nat × List Instr) := [(0, [.iconst 0, .istore_n 1, .iconst 0, .istore_n 2]),
  (4, [.iload_n 2, .bipush 20, .if_icmp .ge 17, .iload_n 1, .iload_n 0, .iload_n 2, .ishr, .iconst 1, .iand, .iadd, .istore_n 1, .iinc 2 1, .goto (-17)]),
  (24, [.iload_n 1, .ireturn])]
def bk_M_fits : List (Nat × List Instr) := [(0, [.iconst 0, .istore_n 2, .iconst 0, .istore_n 3, .iconst 0, .istore 4]),
  (7, [.iload 4, .bipush 13, .if_icmp .ge 49, .iload_n 1, .iload 4, .ishr, .iconst 1, .iand, .istore 5, .iload_n 0, .iload 4, .ishr, .iconst 1, .iand, .istore 6, .iload_n 2, .iload 5, .iadd, .istore_n 2, .iload_n 3, .iload 6, .iadd, .istore_n 3, .iload_n 3, .iload_n 2, .if_icmp .gt 10, .iload_n 2, .iload_n 3, .isub, .iconst 1, .if_icmp .le 5]),
  (52, [.iconst 0, .ireturn]),
  (54, [.iinc 4 1, .goto (-50)]),
  (60, [.iconst 1, .ireturn])]
def bk_M_work : List (Nat × List Instr) := [(0, [.aload_n 0, .getfield 31, .iload_n 1, .if_icmp .ne 4, .return_]),
  (9, [.aload_n 0, .iload_n 1, .putfield 31, .iconst 1, .iload_n 1, .ishl, .iconst 1, .isub, .istore_n 2, .iconst 0, .istore_n 3]),
  (22, [.iload_n 3, .iload_n 2, .if_icmp .gt 16, .aload_n 0, .getfield 27, .iload_n 3, .lconst 0, .lastore, .iinc 3 1, .goto (-15)]),
  (40, [.aload_n 0, .getfield 27, .iload_n 2, .lconst 1, .lastore, .iload_n 1, .iconst 1, .isub, .istore_n 3]),
  (51, [.iload_n 3, .ifCond .le 53, .iconst 1, .istore 4]),
  (58, [.iload 4, .iload_n 2, .if_icmp .ge 38, .iload 4, .invokestatic 142, .iload_n 3, .if_icmp .eq 6, .goto 20]),
  (76, [.aload_n 0, .getfield 27, .iload 4, .aload_n 0, .iload 4, .iload_n 1, .iconst 0, .iconst 0, .iconst 0, .invokevirtual 145, .lastore]),
  (93, [.iinc 4 1, .goto (-38)]),
  (99, [.iinc 3 (-1), .goto (-51)]),
  (105, [.return_])]
def bk_M_below : List (Nat × List Instr) := [(0, [.iload_n 3, .iload_n 2, .if_icmp .ne 21, .iload 4, .iconst 1, .if_icmp .ne 13, .aload_n 0, .getfield 27, .iload 5, .laload, .goto 4]),
  (21, [.lconst 0]),
  (22, [.lreturn]),
  (23, [.lconst 0, .lstore 6, .iload_n 1, .iload_n 3, .ishr, .iconst 1, .iand, .istore 8, .iconst 0, .istore 9]),
  (36, [.iload 9, .iconst 2, .if_icmp .ge 53, .iload 4, .iload 9, .iadd, .iload 8, .isub, .istore 10, .iload 10, .ifCond .lt 32, .iload 10, .iconst 2, .if_icmp .ge 26, .lload 6, .aload_n 0, .iload_n 1, .iload_n 2, .iload_n 3, .iconst 1, .iadd, .iload 10, .iload 5, .iload 9, .iload_n 3, .ishl, .ior, .invokevirtual 145, .ladd, .lstore 6]),
  (86, [.iinc 9 1, .goto (-53)]),
  (92, [.lload 6, .lreturn])]
def bk_M_all : List (Nat × List Instr) := [(0, [.aload_n 0, .iload_n 1, .invokevirtual 149, .lconst 0, .lstore_n 2, .iconst 0, .istore 4]),
  (10, [.iload 4, .iload_n 1, .if_icmp .ge 21, .lload_n 2, .aload_n 0, .getfield 27, .iconst 1, .iload 4, .ishl, .laload, .ladd, .lstore_n 2, .iinc 4 1, .goto (-21)]),
  (34, [.lload_n 2, .lreturn])]
def bk_M_count : List (Nat × List Instr) := [(0, [.aload_n 0, .iconst 0, .putfield 43, .iload_n 1, .iconst 1, .if_icmp .lt 9, .iload_n 1, .bipush 13, .if_icmp .le 9]),
  (16, [.ldc2_w 153, .goto 8]),
  (22, [.aload_n 0, .iload_n 1, .invokevirtual 155]),
  (27, [.lreturn])]
def bk_M_first : List (Nat × List Instr) := [(0, [.aload_n 0, .iconst 0, .putfield 43, .iload_n 1, .iconst 1, .if_icmp .lt 18, .iload_n 1, .bipush 13, .if_icmp .gt 12, .iload_n 2, .ifCond .lt 8, .iload_n 2, .iload_n 1, .if_icmp .lt 7]),
  (25, [.ldc2_w 153, .lreturn]),
  (29, [.aload_n 0, .iload_n 1, .invokevirtual 149, .aload_n 0, .getfield 27, .iconst 1, .iload_n 2, .ishl, .laload, .lreturn])]
def bk_M_weight : List (Nat × List Instr) := [(0, [.aload_n 0, .iconst 0, .putfield 43, .iload_n 1, .iconst 1, .if_icmp .lt 9, .iload_n 1, .bipush 11, .if_icmp .le 9]),
  (16, [.ldc2_w 153, .goto 12]),
  (22, [.lconst 1, .iload_n 1, .iload_n 1, .iconst 1, .isub, .imul, .iconst 2, .idiv, .lshl]),
  (31, [.lreturn])]
def bk_M_isAhead : List (Nat × List Instr) := [(0, [.iload_n 0, .iload_n 1, .ixor, .istore_n 2, .iload_n 2, .ifCond .eq 16, .iload_n 0, .iload_n 2, .iand, .iload_n 2, .ineg, .iand, .ifCond .eq 7, .iconst 1, .goto 4]),
  (21, [.iconst 0]),
  (22, [.ireturn])]
def bk_M_mayFollow : List (Nat × List Instr) := [(0, [.iload_n 2, .invokestatic 142, .iload_n 3, .if_icmp .ne 20, .iload_n 3, .iconst 1, .if_icmp .eq 11, .iload_n 1, .iload_n 2, .invokestatic 159, .ifCond .eq 7]),
  (21, [.iconst 1, .goto 4]),
  (25, [.iconst 0]),
  (26, [.ireturn])]
def bk_M_numberOf : List (Nat × List Instr) := [(0, [.aload_n 0, .getfield 9, .iload_n 1, .iaload, .istore_n 2, .aload_n 0, .iload_n 2, .invokevirtual 149, .lconst 0, .lstore_n 3, .iconst 0, .istore 5, .iconst 1, .istore 6]),
  (20, [.iload 6, .iload_n 2, .if_icmp .gt 72, .aload_n 0, .iload_n 1, .iload 6, .invokevirtual 91, .istore 7, .iconst 1, .istore 8]),
  (38, [.iload 8, .iconst 1, .iload_n 2, .ishl, .if_icmp .ge 42, .aload_n 0, .iload 5, .iload 8, .iload 6, .invokevirtual 162, .ifCond .eq 23, .iload 8, .iload 7, .invokestatic 165, .ifCond .eq 13, .lload_n 3, .aload_n 0, .getfield 27, .iload 8, .laload, .ladd, .lstore_n 3]),
  (79, [.iinc 8 1, .goto (-44)]),
  (85, [.iload 7, .istore 5, .iinc 6 1, .goto (-72)]),
  (95, [.lload_n 3, .lreturn])]
def bk_M_number : List (Nat × List Instr) := [(0, [.aload_n 0, .iload_n 1, .invokevirtual 68, .ifCond .eq 11, .aload_n 0, .iload_n 1, .invokevirtual 168, .goto 6]),
  (16, [.ldc2_w 153]),
  (19, [.lreturn])]
def bk_M_becomes : List (Nat × List Instr) := [(0, [.aload_n 0, .iload_n 2, .invokevirtual 149, .lload_n 3, .lstore 5, .iconst 0, .istore 7, .aload_n 0, .getfield 9, .iload_n 1, .iload_n 2, .iastore, .iconst 1, .istore 8]),
  (21, [.iload 8, .iload_n 2, .if_icmp .gt 106, .aload_n 0, .iload 7, .iload_n 2, .iload 8, .invokevirtual 171, .istore 9]),
  (38, [.lload 5, .aload_n 0, .getfield 27, .iload 9, .laload, .lcmp, .ifCond .lt 31, .lload 5, .aload_n 0, .getfield 27, .iload 9, .laload, .lsub, .lstore 5, .aload_n 0, .iload 7, .iload_n 2, .iload 8, .iload 9, .invokevirtual 174, .istore 9, .goto (-38)]),
  (79, [.iconst 0, .istore 10]),
  (82, [.iload 10, .iload_n 2, .if_icmp .ge 35, .aload_n 0, .iload_n 1, .iload 8, .iconst 1, .isub, .iload 10, .iload 9, .iload 10, .ishr, .iconst 1, .iand, .iload 7, .iload 10, .ishr, .iconst 1, .iand, .isub, .invokevirtual 77, .iinc 10 1, .goto (-35)]),
  (120, [.iload 9, .istore 7, .iinc 8 1, .goto (-106)]),
  (130, [.return_])]
def bk_M_firstRow : List (Nat × List Instr) := [(0, [.iconst (-1), .istore 4, .iconst 1, .istore 5]),
  (6, [.iload 5, .iconst 1, .iload_n 2, .ishl, .if_icmp .ge 40, .aload_n 0, .iload_n 1, .iload 5, .iload_n 3, .invokevirtual 162, .ifCond .eq 23, .iload 4, .iconst (-1), .if_icmp .eq 13, .iload 5, .iload 4, .invokestatic 165, .ifCond .eq 7]),
  (41, [.iload 5, .istore 4]),
  (45, [.iinc 5 1, .goto (-42)]),
  (51, [.iload 4, .ireturn])]
def bk_M_nextRow : List (Nat × List Instr) := [(0, [.iconst (-1), .istore 5, .iconst 1, .istore 6]),
  (6, [.iload 6, .iconst 1, .iload_n 2, .ishl, .if_icmp .ge 50, .aload_n 0, .iload_n 1, .iload 6, .iload_n 3, .invokevirtual 162, .ifCond .eq 33, .iload 4, .iload 6, .invokestatic 165, .ifCond .eq 23, .iload 5, .iconst (-1), .if_icmp .eq 13, .iload 6, .iload 5, .invokestatic 165, .ifCond .eq 7]),
  (51, [.iload 6, .istore 5]),
  (55, [.iinc 6 1, .goto (-52)]),
  (61, [.iload 5, .ireturn])]
def bk_M_of : List (Nat × List Instr) := [(0, [.aload_n 0, .iload_n 1, .invokevirtual 68, .ifCond .eq 30, .iload_n 2, .iconst 1, .if_icmp .lt 25, .iload_n 2, .bipush 10, .if_icmp .gt 19, .lload_n 3, .lconst 0, .lcmp, .ifCond .lt 13, .lload_n 3, .aload_n 0, .iload_n 2, .invokevirtual 155, .lcmp, .ifCond .lt 5]),
  (35, [.iconst 0, .ireturn]),
  (37, [.aload_n 0, .iload_n 1, .iload_n 2, .lload_n 3, .invokevirtual 177, .iconst 1, .ireturn])]
def bk_M_draw : List (Nat × List Instr) := [(0, [.aload_n 0, .iload_n 1, .invokevirtual 68, .ifCond .eq 14, .iload_n 2, .iconst 1, .if_icmp .lt 9, .iload_n 2, .bipush 10, .if_icmp .le 5]),
  (19, [.iconst (-1), .ireturn]),
  (21, [.aload_n 0, .iload_n 2, .invokevirtual 155, .lconst 1, .lsub, .lstore 5, .iconst 0, .istore 7]),
  (33, [.iload 7, .bipush 63, .if_icmp .ge 19, .lload 5, .iload 7, .lshr, .lconst 0, .lcmp, .ifCond .eq 9, .iinc 7 1, .goto (-20)]),
  (56, [.lload_n 3, .lstore 8, .iconst 1, .istore 10]),
  (62, [.iload 10, .sipush 1000, .if_icmp .gt 57, .lload 8, .ldc2_w 181, .lmul, .ldc2_w 183, .ladd, .lstore 8, .lload 8, .bipush 16, .lushr, .lconst 1, .iload 7, .lshl, .lconst 1, .lsub, .land, .lstore 11, .lload 11, .lload 5, .lcmp, .ifCond .le 6, .goto 14]),
  (107, [.aload_n 0, .iload_n 1, .iload_n 2, .lload 11, .invokevirtual 177, .iload 10, .ireturn]),
  (118, [.iinc 10 1, .goto (-59)]),
  (124, [.iconst (-1), .ireturn])]
def bk_M_fromCorners : List (Nat × List Instr) := [(0, [.aload_n 0, .getfield 9, .iload_n 1, .iload_n 2, .iastore, .iconst 0, .istore_n 3]),
  (9, [.iload_n 3, .iload_n 2, .if_icmp .ge 91, .iconst 0, .istore 4]),
  (17, [.iload 4, .iload_n 2, .if_icmp .ge 76, .aload_n 0, .iload_n 1, .iload_n 3, .iload 4, .aload_n 0, .getfield 34, .bipush 11, .iload_n 3, .iconst 1, .iadd, .imul, .iload 4, .iadd, .iconst 1, .iadd, .iaload, .aload_n 0, .getfield 34, .bipush 11, .iload_n 3, .imul, .iload 4, .iadd, .iconst 1, .iadd, .iaload, .isub, .aload_n 0, .getfield 34, .bipush 11, .iload_n 3, .iconst 1, .iadd, .imul, .iload 4, .iadd, .iaload, .isub, .aload_n 0, .getfield 34, .bipush 11, .iload_n 3, .imul, .iload 4, .iadd, .iaload, .iadd, .invokevirtual 77, .iinc 4 1, .goto (-76)]),
  (96, [.iinc 3 1, .goto (-90)]),
  (102, [.return_])]
def bk_M_meets : List (Nat × List Instr) := [(0, [.aload_n 0, .iconst 0, .putfield 43, .iload_n 1, .invokestatic 46, .ifCond .eq 32, .iload_n 2, .invokestatic 46, .ifCond .eq 25, .iload_n 3, .invokestatic 46, .ifCond .eq 18, .aload_n 0, .getfield 9, .iload_n 2, .iaload, .aload_n 0, .getfield 9, .iload_n 3, .iaload, .if_icmp .eq 5]),
  (41, [.iconst 0, .ireturn]),
  (43, [.aload_n 0, .getfield 9, .iload_n 2, .iaload, .istore 5, .iconst 0, .istore 6]),
  (54, [.iload 6, .iload 5, .if_icmp .gt 82, .iconst 0, .istore 7]),
  (64, [.iload 7, .iload 5, .if_icmp .gt 66, .aload_n 0, .iload_n 2, .iload 6, .iload 7, .invokevirtual 88, .istore 8, .aload_n 0, .iload_n 3, .iload 6, .iload 7, .invokevirtual 88, .istore 9, .aload_n 0, .getfield 34, .bipush 11, .iload 6, .imul, .iload 7, .iadd, .iload 4, .ifCond .eq 13, .iload 8, .iload 9, .invokestatic 185, .goto 10]),
  (120, [.iload 8, .iload 9, .invokestatic 190]),
  (127, [.iastore, .iinc 7 1, .goto (-67)]),
  (134, [.iinc 6 1, .goto (-83)]),
  (140, [.aload_n 0, .iload_n 1, .iload 5, .invokevirtual 193, .iconst 1, .ireturn])]
def bk_M_both : List (Nat × List Instr) := [(0, [.aload_n 0, .iload_n 1, .iload_n 2, .iload_n 3, .iconst 1, .invokevirtual 197, .ireturn])]
def bk_M_either : List (Nat × List Instr) := [(0, [.aload_n 0, .iload_n 1, .iload_n 2, .iload_n 3, .iconst 0, .invokevirtual 197, .ireturn])]
def bk_M_below_ : List (Nat × List Instr) := [(0, [.aload_n 0, .iconst 0, .putfield 43, .iload_n 1, .invokestatic 46, .ifCond .eq 25, .iload_n 2, .invokestatic 46, .ifCond .eq 18, .aload_n 0, .getfield 9, .iload_n 1, .iaload, .aload_n 0, .getfield 9, .iload_n 2, .iaload, .if_icmp .eq 5]),
  (34, [.iconst 0, .ireturn]),
  (36, [.iconst 1, .istore_n 3, .iconst 0, .istore 4]),
  (41, [.iload 4, .aload_n 0, .getfield 9, .iload_n 1, .iaload, .if_icmp .gt 60, .iconst 0, .istore 5]),
  (55, [.iload 5, .aload_n 0, .getfield 9, .iload_n 1, .iaload, .if_icmp .gt 40, .iload_n 3, .ifCond .eq 28, .aload_n 0, .iload_n 1, .iload 4, .iload 5, .invokevirtual 88, .aload_n 0, .iload_n 2, .iload 4, .iload 5, .invokevirtual 88, .if_icmp .lt 7, .iconst 1, .goto 4]),
  (95, [.iconst 0]),
  (96, [.istore_n 3, .iinc 5 1, .goto (-45)]),
  (103, [.iinc 4 1, .goto (-65)]),
  (109, [.iload_n 3, .ireturn])]
def bk_M_apart : List (Nat × List Instr) := [(0, [.aload_n 0, .iconst 0, .putfield 43, .iload_n 1, .invokestatic 46, .ifCond .eq 25, .iload_n 2, .invokestatic 46, .ifCond .eq 18, .aload_n 0, .getfield 9, .iload_n 1, .iaload, .aload_n 0, .getfield 9, .iload_n 2, .iaload, .if_icmp .eq 5]),
  (34, [.iconst (-1), .ireturn]),
  (36, [.iconst 0, .istore_n 3, .iconst 0, .istore 4]),
  (41, [.iload 4, .aload_n 0, .getfield 9, .iload_n 1, .iaload, .if_icmp .gt 54, .iconst 0, .istore 5]),
  (55, [.iload 5, .aload_n 0, .getfield 9, .iload_n 1, .iaload, .if_icmp .gt 34, .iload_n 3, .aload_n 0, .iload_n 1, .iload 4, .iload 5, .invokevirtual 88, .aload_n 0, .iload_n 2, .iload 4, .iload 5, .invokevirtual 88, .isub, .invokestatic 201, .iadd, .istore_n 3, .iinc 5 1, .goto (-39)]),
  (97, [.iinc 4 1, .goto (-59)]),
  (103, [.iload_n 3, .ireturn])]
def bk_M_mayBe : List (Nat × List Instr) := [(0, [.aload_n 0, .getfield 9, .iload_n 1, .iaload, .istore 5, .iload_n 2, .iconst 1, .if_icmp .lt 20, .iload_n 3, .iconst 1, .if_icmp .lt 15, .iload_n 2, .iload 5, .if_icmp .ge 9, .iload_n 3, .iload 5, .if_icmp .lt 5]),
  (30, [.iconst 0, .ireturn]),
  (32, [.aload_n 0, .iload_n 1, .iload_n 2, .iconst 1, .isub, .iload_n 3, .invokevirtual 88, .istore 6, .aload_n 0, .iload_n 1, .iload_n 2, .iload_n 3, .iconst 1, .isub, .invokevirtual 88, .istore 7, .aload_n 0, .iload_n 1, .iload_n 2, .iconst 1, .iadd, .iload_n 3, .invokevirtual 88, .istore 8, .aload_n 0, .iload_n 1, .iload_n 2, .iload_n 3, .iconst 1, .iadd, .invokevirtual 88, .istore 9, .iload 4, .iload 6, .if_icmp .eq 12, .iload 4, .iload 6, .iconst 1, .iadd, .if_icmp .ne 55]),
  (92, [.iload 4, .iload 7, .if_icmp .eq 12, .iload 4, .iload 7, .iconst 1, .iadd, .if_icmp .ne 39]),
  (108, [.iload 8, .iload 4, .if_icmp .eq 12, .iload 8, .iload 4, .iconst 1, .iadd, .if_icmp .ne 23]),
  (124, [.iload 9, .iload 4, .if_icmp .eq 12, .iload 9, .iload 4, .iconst 1, .iadd, .if_icmp .ne 7]),
  (140, [.iconst 1, .goto 4]),
  (144, [.iconst 0]),
  (145, [.ireturn])]
def bk_M_changes : List (Nat × List Instr) := [(0, [.aload_n 0, .iload_n 1, .iload_n 2, .iconst 1, .isub, .iload_n 3, .iconst 1, .isub, .aload_n 0, .iload_n 1, .iload_n 2, .iconst 1, .isub, .iload_n 3, .iconst 1, .isub, .invokevirtual 85, .iload 4, .iadd, .invokevirtual 77, .aload_n 0, .iload_n 1, .iload_n 2, .iload_n 3, .aload_n 0, .iload_n 1, .iload_n 2, .iload_n 3, .invokevirtual 85, .iload 4, .iadd, .invokevirtual 77, .aload_n 0, .iload_n 1, .iload_n 2, .iconst 1, .isub, .iload_n 3, .aload_n 0, .iload_n 1, .iload_n 2, .iconst 1, .isub, .iload_n 3, .invokevirtual 85, .iload 4, .isub, .invokevirtual 77, .aload_n 0, .iload_n 1, .iload_n 2, .iload_n 3, .iconst 1, .isub, .aload_n 0, .iload_n 1, .iload_n 2, .iload_n 3, .iconst 1, .isub, .invokevirtual 85, .iload 4, .isub, .invokevirtual 77, .return_])]
def bk_M_step : List (Nat × List Instr) := [(0, [.aload_n 0, .iload_n 1, .invokevirtual 68, .ifCond .eq 33, .iload_n 2, .iconst 1, .if_icmp .lt 28, .iload_n 3, .iconst 1, .if_icmp .lt 23, .iload_n 2, .aload_n 0, .getfield 9, .iload_n 1, .iaload, .if_icmp .ge 13, .iload_n 3, .aload_n 0, .getfield 9, .iload_n 1, .iaload, .if_icmp .lt 5]),
  (38, [.iconst 0, .ireturn]),
  (40, [.iload 4, .ifCond .eq 7, .iconst 1, .goto 4]),
  (49, [.iconst (-1)]),
  (50, [.istore 5, .aload_n 0, .iload_n 1, .iload_n 2, .iload_n 3, .aload_n 0, .iload_n 1, .iload_n 2, .iload_n 3, .invokevirtual 88, .iload 5, .iadd, .invokevirtual 204, .ifCond .ne 5, .iconst 0, .ireturn]),
  (74, [.aload_n 0, .iload_n 1, .iload_n 2, .iload_n 3, .iload 5, .invokevirtual 207, .iconst 1, .ireturn])]
def bk_M_toward : List (Nat × List Instr) := [(0, [.aload_n 0, .iconst 0, .putfield 43, .iload_n 1, .invokestatic 46, .ifCond .eq 25, .iload_n 2, .invokestatic 46, .ifCond .eq 18, .aload_n 0, .getfield 9, .iload_n 1, .iaload, .aload_n 0, .getfield 9, .iload_n 2, .iaload, .if_icmp .eq 5]),
  (34, [.iconst (-1), .ireturn]),
  (36, [.aload_n 0, .getfield 9, .iload_n 1, .iaload, .istore_n 3, .iconst 1, .istore 4]),
  (46, [.iload 4, .iload_n 3, .if_icmp .ge 96, .iconst 1, .istore 5]),
  (55, [.iload 5, .iload_n 3, .if_icmp .ge 81, .aload_n 0, .iload_n 1, .iload 4, .iload 5, .invokevirtual 88, .istore 6, .aload_n 0, .iload_n 2, .iload 4, .iload 5, .invokevirtual 88, .iload 6, .invokestatic 210, .istore 7, .iload 7, .ifCond .eq 43, .aload_n 0, .iload_n 1, .iload 4, .iload 5, .iload 6, .iload 7, .iadd, .invokevirtual 204, .ifCond .ne 6, .goto 23]),
  (113, [.aload_n 0, .iload_n 1, .iload 4, .iload 5, .iload 7, .invokevirtual 207, .bipush 100, .iload 4, .imul, .iload 5, .iadd, .ireturn]),
  (133, [.iinc 5 1, .goto (-81)]),
  (139, [.iinc 4 1, .goto (-96)]),
  (145, [.iconst (-1), .ireturn])]
def bk_M_turns : List (Nat × List Instr) := [(0, [.iconst 0, .istore_n 3]),
  (2, [.iload_n 3, .iload_n 1, .iconst 1, .isub, .if_icmp .ge 217, .iconst 0, .istore 4]),
  (12, [.iload 4, .iload_n 1, .iconst 1, .isub, .if_icmp .ge 200, .iload_n 3, .iload 4, .iadd, .iconst 2, .irem, .iload_n 2, .if_icmp .eq 6, .goto 181]),
  (33, [.bipush 11, .iload_n 3, .imul, .iload 4, .iadd, .iconst 1, .iadd, .istore 5, .bipush 11, .iload_n 3, .iconst 1, .iadd, .imul, .iload 4, .iadd, .iconst 1, .iadd, .istore 6, .bipush 11, .iload_n 3, .iconst 1, .iadd, .imul, .iload 4, .iadd, .istore 7, .aload_n 0, .getfield 37, .iload 5, .baload, .ifCond .eq 37, .aload_n 0, .getfield 37, .iload 6, .baload, .ifCond .eq 27, .aload_n 0, .getfield 40, .iload 7, .baload, .ifCond .ne 17, .aload_n 0, .getfield 40, .iload 6, .baload, .ifCond .ne 7, .iconst 1, .goto 4]),
  (112, [.iconst 0]),
  (113, [.istore 8, .aload_n 0, .getfield 37, .iload 5, .baload, .ifCond .ne 37, .aload_n 0, .getfield 37, .iload 6, .baload, .ifCond .ne 27, .aload_n 0, .getfield 40, .iload 7, .baload, .ifCond .eq 17, .aload_n 0, .getfield 40, .iload 6, .baload, .ifCond .eq 7, .iconst 1, .goto 4]),
  (159, [.iconst 0]),
  (160, [.istore 9, .iload 8, .ifCond .ne 11, .iload 9, .ifCond .ne 6, .goto 39]),
  (175, [.aload_n 0, .getfield 37, .iload 5, .iload 9, .bastore, .aload_n 0, .getfield 37, .iload 6, .iload 9, .bastore, .aload_n 0, .getfield 40, .iload 7, .iload 8, .bastore, .aload_n 0, .getfield 40, .iload 6, .iload 8, .bastore]),
  (211, [.iinc 4 1, .goto (-202)]),
  (217, [.iinc 3 1, .goto (-218)]),
  (223, [.return_])]
def bk_M_turn : List (Nat × List Instr) := [(0, [.aload_n 0, .iload_n 1, .invokevirtual 68, .ifCond .ne 5, .iconst 0, .ireturn]),
  (10, [.aload_n 0, .getfield 9, .iload_n 1, .iaload, .istore_n 2, .iconst 0, .istore_n 3]),
  (19, [.iload_n 3, .iload_n 2, .if_icmp .gt 93, .iconst 0, .istore 4]),
  (27, [.iload 4, .iload_n 2, .if_icmp .gt 78, .aload_n 0, .getfield 37, .bipush 11, .iload_n 3, .imul, .iload 4, .iadd, .iload_n 3, .iload_n 2, .if_icmp .ge 19, .aload_n 0, .iload_n 1, .iconst 1, .iload_n 3, .iload 4, .invokevirtual 104, .ifCond .eq 7, .iconst 1, .goto 4]),
  (65, [.iconst 0]),
  (66, [.bastore, .aload_n 0, .getfield 40, .bipush 11, .iload_n 3, .imul, .iload 4, .iadd, .iload 4, .iload_n 2, .if_icmp .ge 19, .aload_n 0, .iload_n 1, .iconst 0, .iload_n 3, .iload 4, .invokevirtual 104, .ifCond .eq 7, .iconst 1, .goto 4]),
  (100, [.iconst 0]),
  (101, [.bastore, .iinc 4 1, .goto (-78)]),
  (108, [.iinc 3 1, .goto (-92)]),
  (114, [.aload_n 0, .iload_n 2, .iconst 0, .invokevirtual 215, .aload_n 0, .iload_n 2, .iconst 1, .invokevirtual 215, .iconst 0, .istore_n 3]),
  (128, [.iload_n 3, .iload_n 2, .if_icmp .ge 94, .iconst 0, .istore 4, .iconst 1, .istore 5]),
  (139, [.iload 5, .iload_n 2, .if_icmp .gt 76, .aload_n 0, .getfield 37, .bipush 11, .iload_n 3, .imul, .iload 5, .iadd, .baload, .iload_n 3, .iload 5, .iadd, .iconst 2, .irem, .ifCond .ne 7, .iconst 1, .goto 4]),
  (170, [.iconst 0]),
  (171, [.if_icmp .ne 7, .iconst 1, .goto 4]),
  (178, [.iconst 0]),
  (179, [.istore 6, .iload 6, .ifCond .eq 7, .iconst 0, .goto 4]),
  (190, [.iconst 1]),
  (191, [.istore 7, .aload_n 0, .iload_n 1, .iload_n 3, .iload 5, .iconst 1, .isub, .iload 7, .iload 4, .isub, .invokevirtual 77, .iload 7, .istore 4, .iinc 5 1, .goto (-76)]),
  (218, [.iinc 3 1, .goto (-93)]),
  (224, [.iconst 1, .ireturn])]
def bk_M_move : List (Nat × List Instr) := [(0, [.aload_n 0, .iload_n 1, .invokevirtual 68, .ifCond .eq 12, .iload_n 2, .ifCond .lt 8, .iload_n 2, .iconst 2, .if_icmp .le 5]),
  (17, [.iconst 0, .ireturn]),
  (19, [.aload_n 0, .getfield 9, .iload_n 1, .iaload, .istore_n 3, .iload_n 3, .iload_n 3, .imul, .newarray .int, .astore 4, .iconst 0, .istore 5]),
  (36, [.iload 5, .iload_n 3, .if_icmp .ge 84, .iconst 0, .istore 6]),
  (45, [.iload 6, .iload_n 3, .if_icmp .ge 69, .aload 4, .iload_n 3, .iload 5, .imul, .iload 6, .iadd, .iload_n 2, .ifCond .ne 19, .aload_n 0, .iload_n 1, .iload 5, .iload_n 3, .iconst 1, .isub, .iload 6, .isub, .invokevirtual 85, .goto 33]),
  (80, [.iload_n 2, .iconst 1, .if_icmp .ne 19, .aload_n 0, .iload_n 1, .iload_n 3, .iconst 1, .isub, .iload 6, .isub, .iload 5, .invokevirtual 85, .goto 12]),
  (101, [.aload_n 0, .iload_n 1, .iload 6, .iload 5, .invokevirtual 85]),
  (110, [.iastore, .iinc 6 1, .goto (-69)]),
  (117, [.iinc 5 1, .goto (-84)]),
  (123, [.iconst 0, .istore 5]),
  (126, [.iload 5, .iload_n 3, .if_icmp .ge 43, .iconst 0, .istore 6]),
  (135, [.iload 6, .iload_n 3, .if_icmp .ge 28, .aload_n 0, .iload_n 1, .iload 5, .iload 6, .aload 4, .iload_n 3, .iload 5, .imul, .iload 6, .iadd, .iaload, .invokevirtual 77, .iinc 6 1, .goto (-28)]),
  (166, [.iinc 5 1, .goto (-43)]),
  (172, [.iconst 1, .ireturn])]
def bk_M_alike : List (Nat × List Instr) := [(0, [.aload_n 0, .iload_n 1, .invokevirtual 68, .ifCond .eq 13, .aload_n 0, .getfield 9, .iload_n 1, .iaload, .iconst 5, .if_icmp .le 5]),
  (18, [.iconst (-1), .ireturn]),
  (20, [.aload_n 0, .getfield 9, .iload_n 1, .iaload, .istore_n 2, .iconst 2, .iload_n 2, .imul, .newarray .int, .astore_n 3, .iload_n 2, .iload_n 2, .imul, .newarray .int, .astore 4, .iconst 0, .istore 5]),
  (43, [.iload 5, .iconst 2, .iload_n 2, .imul, .if_icmp .ge 20, .aload_n 3, .iload 5, .aload_n 0, .iload_n 1, .iload 5, .invokevirtual 131, .iastore, .iinc 5 1, .goto (-22)]),
  (68, [.iconst 0, .istore 5]),
  (71, [.iload 5, .iload_n 2, .if_icmp .ge 43, .iconst 0, .istore 6]),
  (80, [.iload 6, .iload_n 2, .if_icmp .ge 28, .aload 4, .iload_n 2, .iload 5, .imul, .iload 6, .iadd, .aload_n 0, .iload_n 1, .iload 5, .iload 6, .invokevirtual 85, .iastore, .iinc 6 1, .goto (-28)]),
  (111, [.iinc 5 1, .goto (-43)]),
  (117, [.iconst 0, .istore 5, .aload_n 0, .iload_n 2, .invokevirtual 155, .lstore 6, .lconst 0, .lstore 8]),
  (130, [.lload 8, .lload 6, .lcmp, .ifCond .ge 81, .aload_n 0, .iload_n 1, .iload_n 2, .lload 8, .invokevirtual 177, .iconst 1, .istore 10, .iconst 0, .istore 11]),
  (152, [.iload 11, .iconst 2, .iload_n 2, .imul, .if_icmp .ge 35, .iload 10, .ifCond .eq 30, .aload_n 0, .iload_n 1, .iload 11, .invokevirtual 131, .aload_n 3, .iload 11, .iaload, .if_icmp .ne 7, .iconst 1, .goto 4]),
  (183, [.iconst 0]),
  (184, [.istore 10, .iinc 11 1, .goto (-37)]),
  (192, [.iload 5, .iload 10, .ifCond .eq 7, .iconst 1, .goto 4]),
  (203, [.iconst 0]),
  (204, [.iadd, .istore 5, .lload 8, .lconst 1, .ladd, .lstore 8, .goto (-83)]),
  (216, [.iconst 0, .istore 8]),
  (219, [.iload 8, .iload_n 2, .if_icmp .ge 43, .iconst 0, .istore 9]),
  (228, [.iload 9, .iload_n 2, .if_icmp .ge 28, .aload_n 0, .iload_n 1, .iload 8, .iload 9, .aload 4, .iload_n 2, .iload 8, .imul, .iload 9, .iadd, .iaload, .invokevirtual 77, .iinc 9 1, .goto (-28)]),
  (259, [.iinc 8 1, .goto (-43)]),
  (265, [.iload 5, .ireturn])]
def bk_Y_J6_compare_7cf53 : List (Nat × List Instr) := [(0, [.iload_n 0, .iload_n 1, .if_icmp .ge 7, .iconst (-1), .goto 13]),
  (9, [.iload_n 0, .iload_n 1, .if_icmp .ne 7, .iconst 0, .goto 4]),
  (18, [.iconst 1]),
  (19, [.ireturn])]
def bk_Z_J9_abs_0f7a4 : List (Nat × List Instr) := [(0, [.iload_n 0, .ifCond .ge 8, .iload_n 0, .ineg, .goto 4]),
  (9, [.iload_n 0]),
  (10, [.ireturn])]
def bk_Z_J9_max_7cf53 : List (Nat × List Instr) := [(0, [.iload_n 0, .iload_n 1, .if_icmp .lt 7, .iload_n 0, .goto 4]),
  (9, [.iload_n 1]),
  (10, [.ireturn])]
def bk_Z_J9_min_7cf53 : List (Nat × List Instr) := [(0, [.iload_n 0, .iload_n 1, .if_icmp .gt 7, .iload_n 0, .goto 4]),
  (9, [.iload_n 1]),
  (10, [.ireturn])]
def bk_L_law : List (Nat × List Instr) := [(0, [.new 7, .dup, .invokespecial 9, .astore_n 1, .new 10, .dup, .invokespecial 12, .astore_n 2, .iconst 0, .istore_n 3]),
  (18, [.iload_n 3, .aload_n 0, .arraylength, .iconst 5, .isub, .if_icmp .gt 1236, .aload_n 0, .iload_n 3, .iaload, .bipush 31, .iand, .tableswitch 1221 0 28 #[132, 165, 208, 221, 244, 267, 310, 353, 396, 465, 534, 567, 590, 613, 636, 660, 694, 718, 742, 815, 888, 931, 974, 1007, 1040, 1109, 1142, 1165, 1198]]),
  (164, [.aload_n 1, .aload_n 0, .iload_n 3, .iconst 1, .iadd, .iaload, .aload_n 0, .iload_n 3, .iconst 2, .iadd, .iaload, .invokevirtual 13, .aload_n 2, .aload_n 0, .iload_n 3, .iconst 1, .iadd, .iaload, .aload_n 0, .iload_n 3, .iconst 2, .iadd, .iaload, .invokevirtual 17, .if_icmp .eq 1061, .iconst 0, .ireturn]),
  (197, [.aload_n 1, .aload_n 0, .iload_n 3, .iconst 1, .iadd, .iaload, .aload_n 0, .iload_n 3, .iconst 2, .iadd, .iaload, .aload_n 0, .iload_n 3, .iconst 3, .iadd, .iaload, .invokevirtual 18, .aload_n 2, .aload_n 0, .iload_n 3, .iconst 1, .iadd, .iaload, .aload_n 0, .iload_n 3, .iconst 2, .iadd, .iaload, .aload_n 0, .iload_n 3, .iconst 3, .iadd, .iaload, .invokevirtual 22, .if_icmp .eq 1018, .iconst 0, .ireturn]),
  (240, [.aload_n 1, .invokevirtual 23, .aload_n 2, .invokevirtual 27, .if_icmp .eq 1005, .iconst 0, .ireturn]),
  (253, [.aload_n 1, .aload_n 0, .iload_n 3, .iconst 1, .iadd, .iaload, .invokevirtual 28, .aload_n 2, .aload_n 0, .iload_n 3, .iconst 1, .iadd, .iaload, .invokevirtual 32, .if_icmp .eq 982, .iconst 0, .ireturn]),
  (276, [.aload_n 1, .aload_n 0, .iload_n 3, .iconst 1, .iadd, .iaload, .invokevirtual 33, .aload_n 2, .aload_n 0, .iload_n 3, .iconst 1, .iadd, .iaload, .invokevirtual 37, .if_icmp .eq 959, .iconst 0, .ireturn]),
  (299, [.aload_n 1, .aload_n 0, .iload_n 3, .iconst 1, .iadd, .iaload, .aload_n 0, .iload_n 3, .iconst 2, .iadd, .iaload, .aload_n 0, .iload_n 3, .iconst 3, .iadd, .iaload, .invokevirtual 38, .aload_n 2, .aload_n 0, .iload_n 3, .iconst 1, .iadd, .iaload, .aload_n 0, .iload_n 3, .iconst 2, .iadd, .iaload, .aload_n 0, .iload_n 3, .iconst 3, .iadd, .iaload, .invokevirtual 42, .if_icmp .eq 916, .iconst 0, .ireturn]),
  (342, [.aload_n 1, .aload_n 0, .iload_n 3, .iconst 1, .iadd, .iaload, .aload_n 0, .iload_n 3, .iconst 2, .iadd, .iaload, .aload_n 0, .iload_n 3, .iconst 3, .iadd, .iaload, .invokevirtual 43, .aload_n 2, .aload_n 0, .iload_n 3, .iconst 1, .iadd, .iaload, .aload_n 0, .iload_n 3, .iconst 2, .iadd, .iaload, .aload_n 0, .iload_n 3, .iconst 3, .iadd, .iaload, .invokevirtual 46, .if_icmp .eq 873, .iconst 0, .ireturn]),
  (385, [.aload_n 1, .aload_n 0, .iload_n 3, .iconst 1, .iadd, .iaload, .aload_n 0, .iload_n 3, .iconst 2, .iadd, .iaload, .aload_n 0, .iload_n 3, .iconst 3, .iadd, .iaload, .invokevirtual 47, .aload_n 2, .aload_n 0, .iload_n 3, .iconst 1, .iadd, .iaload, .aload_n 0, .iload_n 3, .iconst 2, .iadd, .iaload, .aload_n 0, .iload_n 3, .iconst 3, .iadd, .iaload, .invokevirtual 50, .if_icmp .eq 830, .iconst 0, .ireturn]),
  (428, [.aload_n 1, .aload_n 0, .iload_n 3, .iconst 1, .iadd, .iaload, .aload_n 0, .iload_n 3, .iconst 2, .iadd, .iaload, .ifCond .eq 7, .iconst 1, .goto 4]),
  (446, [.iconst 0]),
  (447, [.aload_n 0, .iload_n 3, .iconst 3, .iadd, .iaload, .aload_n 0, .iload_n 3, .iconst 4, .iadd, .iaload, .invokevirtual 51, .aload_n 2, .aload_n 0, .iload_n 3, .iconst 1, .iadd, .iaload, .aload_n 0, .iload_n 3, .iconst 2, .iadd, .iaload, .ifCond .eq 7, .iconst 1, .goto 4]),
  (478, [.iconst 0]),
  (479, [.aload_n 0, .iload_n 3, .iconst 3, .iadd, .iaload, .aload_n 0, .iload_n 3, .iconst 4, .iadd, .iaload, .invokevirtual 55, .if_icmp .eq 761, .iconst 0, .ireturn]),
  (497, [.aload_n 1, .aload_n 0, .iload_n 3, .iconst 1, .iadd, .iaload, .aload_n 0, .iload_n 3, .iconst 2, .iadd, .iaload, .ifCond .eq 7, .iconst 1, .goto 4]),
  (515, [.iconst 0]),
  (516, [.aload_n 0, .iload_n 3, .iconst 3, .iadd, .iaload, .aload_n 0, .iload_n 3, .iconst 4, .iadd, .iaload, .invokevirtual 56, .aload_n 2, .aload_n 0, .iload_n 3, .iconst 1, .iadd, .iaload, .aload_n 0, .iload_n 3, .iconst 2, .iadd, .iaload, .ifCond .eq 7, .iconst 1, .goto 4]),
  (547, [.iconst 0]),
  (548, [.aload_n 0, .iload_n 3, .iconst 3, .iadd, .iaload, .aload_n 0, .iload_n 3, .iconst 4, .iadd, .iaload, .invokevirtual 59, .if_icmp .eq 692, .iconst 0, .ireturn]),
  (566, [.aload_n 1, .aload_n 0, .iload_n 3, .iconst 1, .iadd, .iaload, .aload_n 0, .iload_n 3, .iconst 2, .iadd, .iaload, .invokevirtual 60, .aload_n 2, .aload_n 0, .iload_n 3, .iconst 1, .iadd, .iaload, .aload_n 0, .iload_n 3, .iconst 2, .iadd, .iaload, .invokevirtual 64, .if_icmp .eq 659, .iconst 0, .ireturn]),
  (599, [.aload_n 1, .aload_n 0, .iload_n 3, .iconst 1, .iadd, .iaload, .invokevirtual 65, .aload_n 2, .aload_n 0, .iload_n 3, .iconst 1, .iadd, .iaload, .invokevirtual 68, .if_icmp .eq 636, .iconst 0, .ireturn]),
  (622, [.aload_n 1, .aload_n 0, .iload_n 3, .iconst 1, .iadd, .iaload, .invokevirtual 69, .aload_n 2, .aload_n 0, .iload_n 3, .iconst 1, .iadd, .iaload, .invokevirtual 72, .if_icmp .eq 613, .iconst 0, .ireturn]),
  (645, [.aload_n 1, .aload_n 0, .iload_n 3, .iconst 1, .iadd, .iaload, .invokevirtual 73, .aload_n 2, .aload_n 0, .iload_n 3, .iconst 1, .iadd, .iaload, .invokevirtual 76, .if_icmp .eq 590, .iconst 0, .ireturn]),
  (668, [.aload_n 1, .aload_n 0, .iload_n 3, .iconst 1, .iadd, .iaload, .invokevirtual 77, .aload_n 2, .aload_n 0, .iload_n 3, .iconst 1, .iadd, .iaload, .invokevirtual 81, .lcmp, .ifCond .eq 566, .iconst 0, .ireturn]),
  (692, [.aload_n 1, .aload_n 0, .iload_n 3, .iconst 1, .iadd, .iaload, .aload_n 0, .iload_n 3, .iconst 2, .iadd, .iaload, .invokevirtual 82, .aload_n 2, .aload_n 0, .iload_n 3, .iconst 1, .iadd, .iaload, .aload_n 0, .iload_n 3, .iconst 2, .iadd, .iaload, .invokevirtual 86, .lcmp, .ifCond .eq 532, .iconst 0, .ireturn]),
  (726, [.aload_n 1, .aload_n 0, .iload_n 3, .iconst 1, .iadd, .iaload, .invokevirtual 87, .aload_n 2, .aload_n 0, .iload_n 3, .iconst 1, .iadd, .iaload, .invokevirtual 90, .lcmp, .ifCond .eq 508, .iconst 0, .ireturn]),
  (750, [.aload_n 1, .aload_n 0, .iload_n 3, .iconst 1, .iadd, .iaload, .invokevirtual 91, .aload_n 2, .aload_n 0, .iload_n 3, .iconst 1, .iadd, .iaload, .invokevirtual 94, .lcmp, .ifCond .eq 484, .iconst 0, .ireturn]),
  (774, [.aload_n 1, .aload_n 0, .iload_n 3, .iconst 1, .iadd, .iaload, .aload_n 0, .iload_n 3, .iconst 2, .iadd, .iaload, .aload_n 0, .iload_n 3, .iconst 3, .iadd, .iaload, .i2l, .bipush 32, .lshl, .aload_n 0, .iload_n 3, .iconst 4, .iadd, .iaload, .i2l, .ldc2_w 95, .land, .lor, .invokevirtual 97, .aload_n 2, .aload_n 0, .iload_n 3, .iconst 1, .iadd, .iaload, .aload_n 0, .iload_n 3, .iconst 2, .iadd, .iaload, .aload_n 0, .iload_n 3, .iconst 3, .iadd, .iaload, .i2l, .bipush 32, .lshl, .aload_n 0, .iload_n 3, .iconst 4, .iadd, .iaload, .i2l, .ldc2_w 95, .land, .lor, .invokevirtual 101, .if_icmp .eq 411, .iconst 0, .ireturn]),
  (847, [.aload_n 1, .aload_n 0, .iload_n 3, .iconst 1, .iadd, .iaload, .aload_n 0, .iload_n 3, .iconst 2, .iadd, .iaload, .aload_n 0, .iload_n 3, .iconst 3, .iadd, .iaload, .i2l, .bipush 32, .lshl, .aload_n 0, .iload_n 3, .iconst 4, .iadd, .iaload, .i2l, .ldc2_w 95, .land, .lor, .invokevirtual 102, .aload_n 2, .aload_n 0, .iload_n 3, .iconst 1, .iadd, .iaload, .aload_n 0, .iload_n 3, .iconst 2, .iadd, .iaload, .aload_n 0, .iload_n 3, .iconst 3, .iadd, .iaload, .i2l, .bipush 32, .lshl, .aload_n 0, .iload_n 3, .iconst 4, .iadd, .iaload, .i2l, .ldc2_w 95, .land, .lor, .invokevirtual 106, .if_icmp .eq 338, .iconst 0, .ireturn]),
  (920, [.aload_n 1, .aload_n 0, .iload_n 3, .iconst 1, .iadd, .iaload, .aload_n 0, .iload_n 3, .iconst 2, .iadd, .iaload, .aload_n 0, .iload_n 3, .iconst 3, .iadd, .iaload, .invokevirtual 107, .aload_n 2, .aload_n 0, .iload_n 3, .iconst 1, .iadd, .iaload, .aload_n 0, .iload_n 3, .iconst 2, .iadd, .iaload, .aload_n 0, .iload_n 3, .iconst 3, .iadd, .iaload, .invokevirtual 110, .if_icmp .eq 295, .iconst 0, .ireturn]),
  (963, [.aload_n 1, .aload_n 0, .iload_n 3, .iconst 1, .iadd, .iaload, .aload_n 0, .iload_n 3, .iconst 2, .iadd, .iaload, .aload_n 0, .iload_n 3, .iconst 3, .iadd, .iaload, .invokevirtual 111, .aload_n 2, .aload_n 0, .iload_n 3, .iconst 1, .iadd, .iaload, .aload_n 0, .iload_n 3, .iconst 2, .iadd, .iaload, .aload_n 0, .iload_n 3, .iconst 3, .iadd, .iaload, .invokevirtual 114, .if_icmp .eq 252, .iconst 0, .ireturn]),
  (1006, [.aload_n 1, .aload_n 0, .iload_n 3, .iconst 1, .iadd, .iaload, .aload_n 0, .iload_n 3, .iconst 2, .iadd, .iaload, .invokevirtual 115, .aload_n 2, .aload_n 0, .iload_n 3, .iconst 1, .iadd, .iaload, .aload_n 0, .iload_n 3, .iconst 2, .iadd, .iaload, .invokevirtual 118, .if_icmp .eq 219, .iconst 0, .ireturn]),
  (1039, [.aload_n 1, .aload_n 0, .iload_n 3, .iconst 1, .iadd, .iaload, .aload_n 0, .iload_n 3, .iconst 2, .iadd, .iaload, .invokevirtual 119, .aload_n 2, .aload_n 0, .iload_n 3, .iconst 1, .iadd, .iaload, .aload_n 0, .iload_n 3, .iconst 2, .iadd, .iaload, .invokevirtual 122, .if_icmp .eq 186, .iconst 0, .ireturn]),
  (1072, [.aload_n 1, .aload_n 0, .iload_n 3, .iconst 1, .iadd, .iaload, .aload_n 0, .iload_n 3, .iconst 2, .iadd, .iaload, .aload_n 0, .iload_n 3, .iconst 3, .iadd, .iaload, .aload_n 0, .iload_n 3, .iconst 4, .iadd, .iaload, .ifCond .eq 7, .iconst 1, .goto 4]),
  (1100, [.iconst 0]),
  (1101, [.invokevirtual 123, .aload_n 2, .aload_n 0, .iload_n 3, .iconst 1, .iadd, .iaload, .aload_n 0, .iload_n 3, .iconst 2, .iadd, .iaload, .aload_n 0, .iload_n 3, .iconst 3, .iadd, .iaload, .aload_n 0, .iload_n 3, .iconst 4, .iadd, .iaload, .ifCond .eq 7, .iconst 1, .goto 4]),
  (1132, [.iconst 0]),
  (1133, [.invokevirtual 127, .if_icmp .eq 117, .iconst 0, .ireturn]),
  (1141, [.aload_n 1, .aload_n 0, .iload_n 3, .iconst 1, .iadd, .iaload, .aload_n 0, .iload_n 3, .iconst 2, .iadd, .iaload, .invokevirtual 128, .aload_n 2, .aload_n 0, .iload_n 3, .iconst 1, .iadd, .iaload, .aload_n 0, .iload_n 3, .iconst 2, .iadd, .iaload, .invokevirtual 131, .if_icmp .eq 84, .iconst 0, .ireturn]),
  (1174, [.aload_n 1, .aload_n 0, .iload_n 3, .iconst 1, .iadd, .iaload, .invokevirtual 132, .aload_n 2, .aload_n 0, .iload_n 3, .iconst 1, .iadd, .iaload, .invokevirtual 135, .if_icmp .eq 61, .iconst 0, .ireturn]),
  (1197, [.aload_n 1, .aload_n 0, .iload_n 3, .iconst 1, .iadd, .iaload, .aload_n 0, .iload_n 3, .iconst 2, .iadd, .iaload, .invokevirtual 136, .aload_n 2, .aload_n 0, .iload_n 3, .iconst 1, .iadd, .iaload, .aload_n 0, .iload_n 3, .iconst 2, .iadd, .iaload, .invokevirtual 139, .if_icmp .eq 28, .iconst 0, .ireturn]),
  (1230, [.aload_n 1, .aload_n 0, .iload_n 3, .iconst 1, .iadd, .iaload, .invokevirtual 140, .aload_n 2, .aload_n 0, .iload_n 3, .iconst 1, .iadd, .iaload, .invokevirtual 143, .if_icmp .eq 5, .iconst 0, .ireturn]),
  (1253, [.iinc 3 5, .goto (-1238)]),
  (1259, [.iconst 1, .ireturn])]
def xcodes_0 : List (List (Nat × List Instr)) := [bk_D_new, bk_D_clear, bk_D_has, bk_D_write, bk_D_cell, bk_D_firstFault, bk_D_firstLineFault, bk_D_alternates, bk_D_firstCellFault, bk_D_isCornerSum, bk_D_isColumn, bk_D_copyTo, bk_D_triangleBits, bk_G_new, bk_G_knows, bk_G_learn]
def xcodes_1 : List (List (Nat × List Instr)) := [bk_G_finish, bk_G_howMany, bk_O_new, bk_O_otherEnd, bk_O_ringsOf, bk_O_joiningOf, bk_O_isSeen, bk_O_goRound, bk_O_follow, bk_O_nextHeldSide, bk_O_goToEnd, bk_O_endHere, bk_U_new, bk_U_numberOf, bk_U_build, bk_U_passWays]
def xcodes_2 : List (List (Nat × List Instr)) := [bk_U_waysBefore, bk_U_learnWays, bk_K_new, bk_K_start, bk_K_advance, bk_K_layFrom, bk_K_bitOf, bk_T_new, bk_T_corner, bk_T_entry, bk_T_triangleColumn, bk_T_rowBits, bk_T_hasEdge, bk_T_edgeSum, bk_T_holds, bk_T_minusOnes]
def xcodes_3 : List (List (Nat × List Instr)) := [bk_T_kindOf, bk_T_staysWhen, bk_T_movedEntry, bk_T_isBelow, bk_T_stepsTo, bk_T_stepToward, bk_T_shift, bk_T_rises, bk_T_turnSquares, bk_T_become, bk_T_becomeExtreme, bk_T_becomeMoved, bk_T_layRow, bk_B_new, bk_B_begin, bk_B_put]
def xcodes_4 : List (List (Nat × List Instr)) := [bk_B_fault, bk_B_take, bk_B_size, bk_B_at, bk_B_sum, bk_B_triangle, bk_B_arrow, bk_B_held, bk_B_link, bk_B_rings, bk_B_kind, bk_B_less, bk_B_count, bk_B_first, bk_B_weight, bk_B_number]
def xcodes_5 : List (List (Nat × List Instr)) := [bk_B_of, bk_B_draw, bk_B_both, bk_B_either, bk_B_below, bk_B_apart, bk_B_step, bk_B_toward, bk_B_turn, bk_B_move, bk_B_alike, bk_B_learnJoinings, bk_B_tableOf, bk_B_areOfOneSize, bk_B_isSize, bk_B_isWithin]
def xcodes_6 : List (List (Nat × List Instr)) := [bk_B_timesRatio, bk_B_bitsUpTo, bk_M_new, bk_M_isPlace, bk_M_knows, bk_M_a, bk_M_a_, bk_M_begin, bk_M_put, bk_M_d, bk_M_isRight, bk_M_faultOfSums, bk_M_faultOfTriangle, bk_M_fault, bk_M_take, bk_M_inRow]
def xcodes_7 : List (List (Nat × List Instr)) := [bk_M_size, bk_M_isIn, bk_M_at, bk_M_corner, bk_M_sum, bk_M_rowOf, bk_M_nth, bk_M_triangle, bk_M_points, bk_M_isEdge, bk_M_arrow, bk_M_isHeld, bk_M_held, bk_M_edge, bk_M_end, bk_M_next]
def xcodes_8 : List (List (Nat × List Instr)) := [bk_M_isInside, bk_M_leaves, bk_M_joined, bk_M_link, bk_M_rings, bk_M_stays, bk_M_lessOf, bk_M_kind, bk_M_less, bk_M_bits, bk_M_fits, bk_M_work, bk_M_below, bk_M_all, bk_M_count, bk_M_first]
def xcodes_9 : List (List (Nat × List Instr)) := [bk_M_weight, bk_M_isAhead, bk_M_mayFollow, bk_M_numberOf, bk_M_number, bk_M_becomes, bk_M_firstRow, bk_M_nextRow, bk_M_of, bk_M_draw, bk_M_fromCorners, bk_M_meets, bk_M_both, bk_M_either, bk_M_below_, bk_M_apart]
def xcodes_10 : List (List (Nat × List Instr)) := [bk_M_mayBe, bk_M_changes, bk_M_step, bk_M_toward, bk_M_turns, bk_M_turn, bk_M_move, bk_M_alike, bk_Y_J6_compare_7cf53, bk_Z_J9_abs_0f7a4, bk_Z_J9_max_7cf53, bk_Z_J9_min_7cf53, bk_L_law]
def xcode (id : Nat) : List (Nat × List Instr) := match id / 16 with
  | 0 => xcodes_0.getD (id % 16) []
  | 1 => xcodes_1.getD (id % 16) []
  | 2 => xcodes_2.getD (id % 16) []
  | 3 => xcodes_3.getD (id % 16) []
  | 4 => xcodes_4.getD (id % 16) []
  | 5 => xcodes_5.getD (id % 16) []
  | 6 => xcodes_6.getD (id % 16) []
  | 7 => xcodes_7.getD (id % 16) []
  | 8 => xcodes_8.getD (id % 16) []
  | 9 => xcodes_9.getD (id % 16) []
  | 10 => xcodes_10.getD (id % 16) []
  | _ => []
def xblk (id pc : Nat) : Option (List Instr) := List.lookup pc (xcode id)
