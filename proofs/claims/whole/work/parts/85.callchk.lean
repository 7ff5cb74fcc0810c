def xmI : List (Nat × Nat × Nat × Nat) := [(134, 94, 133, 0), (257, 94, 256, 0), (265, 94, 264, 1), (270, 94, 269, 2), (299, 94, 298, 8), (278, 94, 277, 3), (282, 94, 281, 4), (286, 94, 285, 5), (290, 94, 289, 6), (295, 94, 294, 7), (306, 94, 305, 9), (318, 94, 317, 11), (322, 94, 321, 12), (216, 98, 215, 0), (618, 98, 617, 51), (630, 98, 629, 54), (636, 98, 635, 55), (640, 98, 639, 56), (194, 97, 193, 0), (384, 97, 383, 20), (418, 97, 417, 26), (626, 97, 625, 53), (396, 97, 395, 23), (422, 97, 421, 27), (392, 97, 391, 22), (400, 97, 399, 24), (388, 97, 387, 21), (410, 97, 409, 25), (150, 95, 149, 0), (474, 95, 473, 32), (516, 95, 515, 40), (520, 95, 519, 41), (482, 95, 481, 34), (478, 95, 477, 33), (156, 96, 155, 0), (486, 96, 485, 35), (504, 96, 503, 38), (493, 96, 492, 36), (500, 96, 499, 37), (116, 93, 115, 0), (350, 93, 349, 16), (338, 93, 337, 14), (358, 93, 357, 17), (508, 93, 507, 39), (366, 93, 365, 18), (342, 93, 341, 15), (376, 93, 375, 19), (434, 93, 433, 29), (430, 93, 429, 28), (439, 93, 438, 30), (443, 93, 442, 31), (557, 93, 556, 44), (566, 93, 565, 45), (586, 93, 585, 47), (577, 93, 576, 46), (302, 93, 301, 0), (595, 93, 594, 48), (607, 93, 606, 50), (543, 93, 542, 43), (603, 93, 602, 49), (326, 93, 325, 13), (107, 92, 106, 0), (247, 92, 245, 246), (261, 92, 259, 260), (274, 92, 272, 273), (310, 92, 308, 309), (330, 92, 328, 329), (334, 92, 332, 333), (346, 92, 344, 345), (354, 92, 352, 353), (362, 92, 360, 361), (372, 92, 370, 371), (380, 92, 378, 379), (414, 92, 412, 413), (426, 92, 424, 425), (447, 92, 445, 446), (452, 92, 450, 451), (459, 92, 457, 458), (466, 92, 464, 465), (470, 92, 468, 469), (512, 92, 510, 511), (525, 92, 523, 524), (535, 92, 533, 534), (549, 92, 547, 548), (553, 92, 551, 552), (562, 92, 560, 561), (573, 92, 571, 572), (582, 92, 580, 581), (591, 92, 589, 590), (599, 92, 597, 598), (614, 92, 612, 613), (622, 92, 621, 52), (314, 92, 313, 10), (539, 92, 538, 42), (250, 92, 249, 0), (253, 92, 252, 0), (462, 92, 461, 0), (528, 92, 527, 0), (645, 99, 644, 0), (728, 99, 727, 0), (725, 99, 724, 61), (753, 99, 752, 65), (737, 99, 736, 63), (693, 99, 691, 692), (697, 99, 695, 696), (709, 99, 708, 58), (717, 99, 716, 60), (705, 99, 704, 57), (713, 99, 712, 59), (701, 99, 699, 700), (721, 99, 719, 720), (733, 99, 732, 62), (741, 99, 739, 740), (749, 99, 748, 64), (745, 99, 743, 744), (761, 99, 760, 66), (757, 99, 755, 756), (769, 99, 768, 67), (772, 99, 771, 0), (765, 99, 763, 764), (784, 99, 783, 69), (780, 99, 779, 68), (776, 99, 774, 775), (792, 99, 791, 70), (788, 99, 786, 787), (807, 99, 806, 0), (804, 99, 803, 72), (819, 99, 818, 75), (815, 99, 814, 74), (811, 99, 810, 73), (800, 99, 799, 71), (796, 99, 794, 795), (823, 99, 821, 822), (835, 99, 834, 77), (831, 99, 830, 76), (827, 99, 825, 826), (839, 99, 837, 838), (855, 99, 854, 0), (882, 99, 881, 0), (852, 99, 851, 79), (859, 99, 858, 80), (848, 99, 847, 78), (843, 99, 841, 842), (863, 99, 861, 862), (867, 99, 865, 866), (885, 99, 884, 0), (879, 99, 878, 82), (875, 99, 874, 81), (871, 99, 869, 870), (893, 99, 892, 83), (897, 99, 896, 84), (901, 99, 900, 85), (889, 99, 887, 888), (905, 99, 903, 904), (921, 99, 920, 87), (915, 99, 914, 86), (911, 99, 909, 910), (925, 99, 923, 924), (929, 99, 927, 928), (933, 99, 931, 932), (942, 99, 941, 88), (946, 99, 945, 89), (938, 99, 936, 937), (950, 99, 948, 949), (961, 99, 960, 90), (957, 99, 955, 956), (965, 99, 963, 964), (969, 99, 967, 968), (953, 101, 952, 0), (569, 100, 568, 0), (496, 100, 495, 0), (489, 100, 488, 0)]
def xclI : List (List (Nat × (Nat × Bool))) := [[(22, (266, true)), (26, (279, false)), (30, (287, false)), (33, (283, false)), (37, (291, false)), (40, (292, false)), (43, (303, false)), (46, (296, false)), (50, (300, true)), (56, (319, false)), (59, (323, true))], [], [(24, (385, false)), (28, (389, false)), (32, (407, false)), (36, (393, false)), (40, (419, false)), (50, (397, false)), (63, (406, true)), (67, (401, true))], [(21, (154, true)), (32, (475, false)), (36, (505, true)), (40, (479, false)), (44, (483, true)), (48, (517, false)), (55, (521, true)), (58, (501, true))], [(28, (487, false)), (37, (490, false)), (41, (497, false)), (45, (494, false))], [(19, (339, false)), (23, (367, true)), (27, (435, false)), (31, (431, false)), (35, (436, false)), (39, (440, false)), (43, (558, false)), (46, (567, false)), (52, (587, false)), (55, (578, false)), (65, (544, false)), (68, (545, false))], [(15, (114, true)), (22, (132, true)), (29, (148, true)), (36, (192, true)), (43, (214, true)), (48, (248, false)), (52, (254, true)), (56, (262, true)), (60, (267, true)), (64, (275, true)), (68, (311, false)), (72, (315, true)), (80, (251, false)), (84, (335, true)), (88, (347, true)), (91, (355, true)), (94, (363, true)), (98, (368, true)), (102, (373, true)), (105, (381, true)), (109, (415, true)), (113, (427, true)), (116, (448, true)), (125, (460, false)), (129, (471, true)), (133, (513, true)), (137, (526, false)), (145, (536, false)), (148, (540, true)), (152, (554, true)), (156, (563, true)), (159, (574, true)), (162, (583, true)), (165, (592, true)), (169, (600, true)), (173, (604, true)), (176, (615, true)), (179, (619, false)), (182, (623, true)), (185, (637, true)), (189, (627, true)), (193, (633, true))], [(46, (726, false)), (53, (706, false)), (57, (702, false)), (61, (710, false)), (64, (714, false)), (68, (722, false)), (71, (729, false)), (74, (730, false)), (77, (734, false)), (81, (746, false)), (85, (750, false)), (88, (758, false)), (91, (766, false)), (94, (770, false)), (97, (777, false)), (101, (781, false)), (104, (789, false)), (107, (805, false)), (117, (812, false)), (121, (816, false)), (125, (801, false)), (128, (808, false)), (131, (797, false)), (134, (828, false)), (138, (832, false)), (142, (853, false)), (145, (856, false)), (149, (849, false)), (155, (845, false)), (159, (880, false)), (162, (876, false)), (165, (883, false)), (168, (872, false)), (171, (894, false)), (174, (898, false)), (177, (890, false)), (185, (916, false)), (190, (917, false)), (193, (918, false)), (197, (912, false)), (201, (934, false)), (204, (939, false)), (207, (943, false)), (210, (951, false)), (215, (958, false))], [(9, (105, false)), (12, (643, false)), (13, (244, false)), (17, (690, false)), (18, (258, false)), (22, (694, false)), (23, (271, false)), (27, (698, false)), (28, (307, false)), (32, (718, false)), (33, (327, false)), (37, (738, false)), (38, (331, false)), (42, (742, false)), (43, (343, false)), (46, (754, false)), (47, (351, false)), (50, (762, false)), (51, (359, false)), (55, (773, false)), (56, (369, false)), (59, (785, false)), (60, (377, false)), (64, (793, false)), (65, (411, false)), (68, (820, false)), (69, (423, false)), (72, (824, false)), (73, (444, false)), (76, (836, false)), (77, (449, false)), (81, (840, false)), (82, (456, false)), (86, (860, false)), (87, (463, false)), (90, (864, false)), (91, (467, false)), (94, (868, false)), (97, (509, false)), (101, (886, false)), (102, (522, false)), (106, (902, false)), (107, (532, false)), (110, (908, false)), (111, (546, false)), (114, (922, false)), (115, (550, false)), (118, (926, false)), (119, (559, false)), (122, (930, false)), (123, (570, false)), (127, (935, false)), (128, (579, false)), (131, (947, false)), (132, (588, false)), (135, (954, false)), (136, (596, false)), (139, (962, false)), (140, (611, false)), (143, (966, false))], [], []]
/-! ===== calls: what the tables say; words by their places, compared by rfl ===== -/
def xmi (d : Nat) : Nat × Nat × Nat × Nat := xmI.getD d (0, 0, 0, 0)
theorem xpl {α : Type} {N : Nat} {f : Nat → Option α} {g : Nat → α} (h : (List.range N).map f = (List.range N).map (fun d => some (g d))) {d : Nat} (hd : d < N) : f d = some (g d) := by
  have := congrArg (fun l => l[d]?) h
  simpa [List.getElem?_map, List.getElem?_range hd] using this
theorem xpi {w : Cond} {i : Nat} (h : lw_tbl[i]? = some w) (hg : goodWord w = true) : w ∈ xtb := List.mem_filter.mpr ⟨List.mem_of_getElem? h, hg⟩
set_option maxRecDepth 200000 in
theorem xt_code : (List.range 172).map (fun d => lw_tbl[(xmi d).1]?) = (List.range 172).map (fun d => some (.code (xy d) (xby d) (xmaxL d) (xret d))) := by rfl
set_option maxRecDepth 200000 in
theorem xt_ini : (List.range 172).map (fun d => lw_tbl[(xmi d).2.1]?) = (List.range 172).map (fun d => some (.initialized (xy d).cls)) := by rfl
def xw3 (d : Nat) : Cond := match xkd d with
  | 1 => .static (xy d)
  | _ => .instanceMethod (xy d)
set_option maxRecDepth 200000 in
theorem xt_kd : (List.range 172).map (fun d => lw_tbl[(xmi d).2.2.1]?) = (List.range 172).map (fun d => some (xw3 d)) := by rfl
def xs4 (d : Nat) : Option Cond := match xkd d with
  | 0 => lw_tbl[(xmi d).2.2.2]?
  | _ => some (.selects (xy d).cls (xy d) (xy d))
set_option maxRecDepth 200000 in
theorem xt_sel : (List.range 172).map xs4 = (List.range 172).map (fun d => some (.selects (xy d).cls (xy d) (xy d))) := by rfl
def xmetok (d : Nat) : Bool := decide ((xy d).cls ≠ "java/lang/invoke/MethodHandle") && decide ((xy d).cls ≠ "java/lang/invoke/VarHandle") &&
  decide ((parseMethodDescriptor (xy d).desc).map (fun q => q.parameters.length) = some (xnar d)) && plainFor (xy d) && decide ((xy d).cls = xcn (xown d)) && Nat.ble (xmaxL d) 45 &&
  (match xkd d with
   | 0 => Nat.blt (xown d) 8 && Nat.blt 0 (xmaxL d)
   | 1 => true
   | 2 => decide ((xy d).name = "<init>") && Nat.blt (xown d) 8 && Nat.blt 0 (xmaxL d) && decide (xret d = none)
   | _ => false) &&
  (match xrty d with
   | 0 => decide (xret d = none)
   | 1 => decide (xret d = some .int) || decide (xret d = some .boolean)
   | 2 => decide (xret d = some .long)
   | _ => (match xret d with
     | some (.object _) => true
     | _ => false))
set_option maxRecDepth 100000 in
theorem xmet_0 : ((List.range 60).all fun q => xmetok (0 + q)) = true := by decide +kernel
set_option maxRecDepth 100000 in
theorem xmet_60 : ((List.range 60).all fun q => xmetok (60 + q)) = true := by decide +kernel
set_option maxRecDepth 100000 in
theorem xmet_120 : ((List.range 53).all fun q => xmetok (120 + q)) = true := by decide +kernel
theorem xmet_ok {d : Nat} (h : d < xLaw) : xmetok d = true := by
  have h : d < 172 := h
  have use : ∀ {a n : Nat}, ((List.range n).all fun q => xmetok (a + q)) = true → a ≤ d → d < a + n → xmetok d = true := by
    intro a n h h1 h2
    have := List.all_eq_true.mp h (d - a) (List.mem_range.mpr (by omega))
    rwa [Nat.add_sub_cancel' h1] at this
  rcases Nat.lt_or_ge d 60 with q | q
  · exact use xmet_0 (Nat.zero_le _) (by omega)
  · rcases Nat.lt_or_ge d 120 with q2 | q2
    · exact use xmet_60 q (by omega)
    · exact use xmet_120 q2 (by omega)
def xcli (c idx : Nat) : Nat × Bool := (List.lookup idx (xclI.getD c [])).getD (0, false)
def xclw (c : Nat) (e : Nat × Nat) : Cond := match (xcli c e.1).2 with
  | true => .methodLinkNest (xcn c) e.1 (xy e.2) "SignBench"
  | false => .methodLink (xcn c) e.1 (xy e.2)
set_option maxRecDepth 200000 in
theorem xt_lk : (List.range 11).map (fun c => (xcalLT.getD c []).map (fun e => lw_tbl[(xcli c e.1).1]?)) = (List.range 11).map (fun c => (xcalLT.getD c []).map (fun e => some (xclw c e))) := by rfl
theorem xcal_ok {c idx d : Nat} (h : xcalL c idx = some d) : Cond.methodLink (xcn c) idx (xy d) ∈ xtb ∨ xmemN (Cond.methodLinkNest (xcn c) idx (xy d) "SignBench") = true := by
  have hc : c < 11 := xT_len h
  have hm := xlk h
  have h1 := congrArg (fun l => l[c]?) xt_lk
  simp only [List.getElem?_map, List.getElem?_range hc, Option.map_some, Option.some.injEq] at h1
  have h2 := List.map_inj_left.mp h1 (idx, d) hm
  unfold xclw at h2
  split at h2
  · refine Or.inr ?_
    unfold xmemN
    simp only [Bool.and_eq_true, decide_eq_true_eq]
    exact ⟨rfl, List.mem_of_getElem? h2⟩
  · exact Or.inl (xpi h2 rfl)
