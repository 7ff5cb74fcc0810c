def xmI : List (Nat × Nat × Nat × Nat) := [(135, 95, 134, 0), (258, 95, 257, 0), (266, 95, 265, 1), (271, 95, 270, 2), (300, 95, 299, 8), (279, 95, 278, 3), (283, 95, 282, 4), (287, 95, 286, 5), (291, 95, 290, 6), (296, 95, 295, 7), (307, 95, 306, 9), (319, 95, 318, 11), (323, 95, 322, 12), (217, 99, 216, 0), (623, 99, 622, 52), (635, 99, 634, 55), (641, 99, 640, 56), (645, 99, 644, 57), (195, 98, 194, 0), (386, 98, 385, 20), (424, 98, 423, 27), (631, 98, 630, 54), (398, 98, 397, 23), (428, 98, 427, 28), (394, 98, 393, 22), (402, 98, 401, 24), (406, 98, 405, 25), (390, 98, 389, 21), (416, 98, 415, 26), (151, 96, 150, 0), (480, 96, 479, 33), (522, 96, 521, 41), (526, 96, 525, 42), (488, 96, 487, 35), (484, 96, 483, 34), (157, 97, 156, 0), (492, 97, 491, 36), (510, 97, 509, 39), (499, 97, 498, 37), (506, 97, 505, 38), (117, 94, 116, 0), (347, 94, 346, 16), (339, 94, 338, 14), (360, 94, 359, 17), (514, 94, 513, 40), (368, 94, 367, 18), (343, 94, 342, 15), (378, 94, 377, 19), (440, 94, 439, 30), (436, 94, 435, 29), (445, 94, 444, 31), (449, 94, 448, 32), (563, 94, 562, 45), (571, 94, 570, 46), (591, 94, 590, 48), (582, 94, 581, 47), (303, 94, 302, 0), (600, 94, 599, 49), (612, 94, 611, 51), (549, 94, 548, 44), (608, 94, 607, 50), (327, 94, 326, 13), (108, 93, 107, 0), (248, 93, 246, 247), (262, 93, 260, 261), (275, 93, 273, 274), (311, 93, 309, 310), (331, 93, 329, 330), (335, 93, 333, 334), (351, 93, 349, 350), (356, 93, 354, 355), (364, 93, 362, 363), (374, 93, 372, 373), (382, 93, 380, 381), (420, 93, 418, 419), (432, 93, 430, 431), (453, 93, 451, 452), (458, 93, 456, 457), (465, 93, 463, 464), (472, 93, 470, 471), (476, 93, 474, 475), (518, 93, 516, 517), (531, 93, 529, 530), (541, 93, 539, 540), (555, 93, 553, 554), (559, 93, 557, 558), (567, 93, 565, 566), (578, 93, 576, 577), (587, 93, 585, 586), (596, 93, 594, 595), (604, 93, 602, 603), (619, 93, 617, 618), (627, 93, 626, 53), (315, 93, 314, 10), (545, 93, 544, 43), (251, 93, 250, 0), (254, 93, 253, 0), (468, 93, 467, 0), (534, 93, 533, 0), (650, 100, 649, 0), (733, 100, 732, 0), (730, 100, 729, 62), (758, 100, 757, 66), (742, 100, 741, 64), (698, 100, 696, 697), (702, 100, 700, 701), (714, 100, 713, 59), (722, 100, 721, 61), (710, 100, 709, 58), (718, 100, 717, 60), (706, 100, 704, 705), (726, 100, 724, 725), (738, 100, 737, 63), (746, 100, 744, 745), (754, 100, 753, 65), (750, 100, 748, 749), (766, 100, 765, 67), (762, 100, 760, 761), (774, 100, 773, 68), (777, 100, 776, 0), (770, 100, 768, 769), (789, 100, 788, 70), (785, 100, 784, 69), (781, 100, 779, 780), (797, 100, 796, 71), (793, 100, 791, 792), (812, 100, 811, 0), (809, 100, 808, 73), (824, 100, 823, 76), (820, 100, 819, 75), (816, 100, 815, 74), (805, 100, 804, 72), (801, 100, 799, 800), (828, 100, 826, 827), (840, 100, 839, 78), (836, 100, 835, 77), (832, 100, 830, 831), (844, 100, 842, 843), (860, 100, 859, 0), (887, 100, 886, 0), (857, 100, 856, 80), (864, 100, 863, 81), (853, 100, 852, 79), (848, 100, 846, 847), (868, 100, 866, 867), (872, 100, 870, 871), (890, 100, 889, 0), (884, 100, 883, 83), (880, 100, 879, 82), (876, 100, 874, 875), (898, 100, 897, 84), (902, 100, 901, 85), (906, 100, 905, 86), (894, 100, 892, 893), (910, 100, 908, 909), (926, 100, 925, 88), (920, 100, 919, 87), (916, 100, 914, 915), (930, 100, 928, 929), (934, 100, 932, 933), (938, 100, 936, 937), (947, 100, 946, 89), (951, 100, 950, 90), (943, 100, 941, 942), (955, 100, 953, 954), (966, 100, 965, 91), (962, 100, 960, 961), (970, 100, 968, 969), (974, 100, 972, 973), (958, 102, 957, 0), (574, 101, 573, 0), (502, 101, 501, 0), (495, 101, 494, 0)]
def xclI : List (List (Nat × (Nat × Bool))) := [[(22, (267, true)), (26, (280, false)), (30, (288, false)), (33, (284, false)), (37, (292, false)), (40, (293, false)), (43, (304, false)), (46, (297, false)), (50, (301, true)), (56, (320, false)), (59, (324, true))], [], [(24, (387, false)), (28, (391, false)), (32, (413, false)), (36, (395, false)), (40, (425, false)), (50, (399, false)), (63, (412, true)), (67, (403, false)), (71, (407, true))], [(21, (155, true)), (32, (481, false)), (36, (511, true)), (40, (485, false)), (44, (489, true)), (48, (523, false)), (55, (527, true)), (58, (507, true))], [(28, (493, false)), (37, (496, false)), (41, (503, false)), (45, (500, false))], [(19, (340, false)), (23, (369, true)), (27, (344, false)), (31, (441, false)), (34, (437, false)), (38, (442, false)), (42, (446, false)), (46, (572, false)), (52, (592, false)), (55, (583, false)), (65, (550, false)), (68, (551, false))], [(15, (115, true)), (22, (133, true)), (29, (149, true)), (36, (193, true)), (43, (215, true)), (48, (249, false)), (52, (255, true)), (56, (263, true)), (60, (268, true)), (64, (276, true)), (68, (312, false)), (72, (316, true)), (80, (252, false)), (84, (336, true)), (88, (352, true)), (91, (357, true)), (94, (365, true)), (98, (370, true)), (102, (375, true)), (105, (383, true)), (109, (421, true)), (113, (433, true)), (116, (454, true)), (125, (466, false)), (129, (477, true)), (133, (519, true)), (137, (532, false)), (145, (542, false)), (148, (546, true)), (152, (560, true)), (156, (568, true)), (159, (579, true)), (162, (588, true)), (165, (597, true)), (169, (605, true)), (173, (609, true)), (176, (620, true)), (179, (624, false)), (182, (628, true)), (185, (642, true)), (189, (632, true)), (193, (638, true))], [(46, (731, false)), (53, (711, false)), (57, (707, false)), (61, (715, false)), (64, (719, false)), (68, (727, false)), (71, (734, false)), (74, (735, false)), (77, (739, false)), (81, (751, false)), (85, (755, false)), (88, (763, false)), (91, (771, false)), (94, (775, false)), (97, (782, false)), (101, (786, false)), (104, (794, false)), (107, (810, false)), (117, (817, false)), (121, (821, false)), (125, (806, false)), (128, (813, false)), (131, (802, false)), (134, (833, false)), (138, (837, false)), (142, (858, false)), (145, (861, false)), (149, (854, false)), (155, (850, false)), (159, (885, false)), (162, (881, false)), (165, (888, false)), (168, (877, false)), (171, (899, false)), (174, (903, false)), (177, (895, false)), (185, (921, false)), (190, (922, false)), (193, (923, false)), (197, (917, false)), (201, (939, false)), (204, (944, false)), (207, (948, false)), (210, (956, false)), (215, (963, false))], [(9, (106, false)), (12, (648, false)), (13, (245, false)), (17, (695, false)), (18, (259, false)), (22, (699, false)), (23, (272, false)), (27, (703, false)), (28, (308, false)), (32, (723, false)), (33, (328, false)), (37, (743, false)), (38, (332, false)), (42, (747, false)), (43, (348, false)), (46, (759, false)), (47, (353, false)), (50, (767, false)), (51, (361, false)), (55, (778, false)), (56, (371, false)), (59, (790, false)), (60, (379, false)), (64, (798, false)), (65, (417, false)), (68, (825, false)), (69, (429, false)), (72, (829, false)), (73, (450, false)), (76, (841, false)), (77, (455, false)), (81, (845, false)), (82, (462, false)), (86, (865, false)), (87, (469, false)), (90, (869, false)), (91, (473, false)), (94, (873, false)), (97, (515, false)), (101, (891, false)), (102, (528, false)), (106, (907, false)), (107, (538, false)), (110, (913, false)), (111, (552, false)), (114, (927, false)), (115, (556, false)), (118, (931, false)), (119, (564, false)), (122, (935, false)), (123, (575, false)), (127, (940, false)), (128, (584, false)), (131, (952, false)), (132, (593, false)), (135, (959, false)), (136, (601, false)), (139, (967, false)), (140, (616, false)), (143, (971, false))], [], []]
/-! ===== calls: what the tables say; words by their places, compared by rfl ===== -/
def xmi (d : Nat) : Nat × Nat × Nat × Nat := xmI.getD d (0, 0, 0, 0)
theorem xpl {α : Type} {N : Nat} {f : Nat → Option α} {g : Nat → α} (h : (List.range N).map f = (List.range N).map (fun d => some (g d))) {d : Nat} (hd : d < N) : f d = some (g d) := by
  have := congrArg (fun l => l[d]?) h
  simpa [List.getElem?_map, List.getElem?_range hd] using this
theorem xpi {w : Cond} {i : Nat} (h : lw_tbl[i]? = some w) (hg : goodWord w = true) : w ∈ xtb := List.mem_filter.mpr ⟨List.mem_of_getElem? h, hg⟩
set_option maxRecDepth 200000 in
theorem xt_code : (List.range 173).map (fun d => lw_tbl[(xmi d).1]?) = (List.range 173).map (fun d => some (.code (xy d) (xby d) (xmaxL d) (xret d))) := by rfl
set_option maxRecDepth 200000 in
theorem xt_ini : (List.range 173).map (fun d => lw_tbl[(xmi d).2.1]?) = (List.range 173).map (fun d => some (.initialized (xy d).cls)) := by rfl
def xw3 (d : Nat) : Cond := match xkd d with
  | 1 => .static (xy d)
  | _ => .instanceMethod (xy d)
set_option maxRecDepth 200000 in
theorem xt_kd : (List.range 173).map (fun d => lw_tbl[(xmi d).2.2.1]?) = (List.range 173).map (fun d => some (xw3 d)) := by rfl
def xs4 (d : Nat) : Option Cond := match xkd d with
  | 0 => lw_tbl[(xmi d).2.2.2]?
  | _ => some (.selects (xy d).cls (xy d) (xy d))
set_option maxRecDepth 200000 in
theorem xt_sel : (List.range 173).map xs4 = (List.range 173).map (fun d => some (.selects (xy d).cls (xy d) (xy d))) := by rfl
def xmetok (d : Nat) : Bool := decide ((xy d).cls ≠ "java/lang/invoke/MethodHandle") && decide ((xy d).cls ≠ "java/lang/invoke/VarHandle") &&
  decide ((parseMethodDescriptor (xy d).desc).map (fun q => q.parameters.length) = some (xnar d)) && plainFor (xy d) && decide ((xy d).cls = xcn (xown d)) && Nat.ble (xmaxL d) 45 &&
  (match xkd d with
   | 0 => Nat.blt (xown d) 8 && Nat.blt 0 (xmaxL d)
   | 1 => true
   | 2 => decide ((xy d).name = "<init>") && Nat.blt (xown d) 8 && Nat.blt 0 (xmaxL d) && decide (xret d = none)
   | _ => false) &&
  (match xrty d with
   | 0 => decide (xret d = none)
   | 1 => decide (xret d = some .int) || decide (xret d = some .boolean)
   | 2 => decide (xret d = some .long)
   | _ => (match xret d with
     | some (.object _) => true
     | _ => false))
set_option maxRecDepth 100000 in
theorem xmet_0 : ((List.range 60).all fun q => xmetok (0 + q)) = true := by decide +kernel
set_option maxRecDepth 100000 in
theorem xmet_60 : ((List.range 60).all fun q => xmetok (60 + q)) = true := by decide +kernel
set_option maxRecDepth 100000 in
theorem xmet_120 : ((List.range 53).all fun q => xmetok (120 + q)) = true := by decide +kernel
theorem xmet_ok {d : Nat} (h : d < xLaw) : xmetok d = true := by
  have h : d < 173 := h
  have use : ∀ {a n : Nat}, ((List.range n).all fun q => xmetok (a + q)) = true → a ≤ d → d < a + n → xmetok d = true := by
    intro a n h h1 h2
    have := List.all_eq_true.mp h (d - a) (List.mem_range.mpr (by omega))
    rwa [Nat.add_sub_cancel' h1] at this
  rcases Nat.lt_or_ge d 60 with q | q
  · exact use xmet_0 (Nat.zero_le _) (by omega)
  · rcases Nat.lt_or_ge d 120 with q2 | q2
    · exact use xmet_60 q (by omega)
    · exact use xmet_120 q2 (by omega)
def xcli (c idx : Nat) : Nat × Bool := (List.lookup idx (xclI.getD c [])).getD (0, false)
def xclw (c : Nat) (e : Nat × Nat) : Cond := match (xcli c e.1).2 with
  | true => .methodLinkNest (xcn c) e.1 (xy e.2) "SignBench"
  | false => .methodLink (xcn c) e.1 (xy e.2)
set_option maxRecDepth 200000 in
theorem xt_lk : (List.range 11).map (fun c => (xcalLT.getD c []).map (fun e => lw_tbl[(xcli c e.1).1]?)) = (List.range 11).map (fun c => (xcalLT.getD c []).map (fun e => some (xclw c e))) := by rfl
theorem xcal_ok {c idx d : Nat} (h : xcalL c idx = some d) : Cond.methodLink (xcn c) idx (xy d) ∈ xtb ∨ xmemN (Cond.methodLinkNest (xcn c) idx (xy d) "SignBench") = true := by
  have hc : c < 11 := xT_len h
  have hm := xlk h
  have h1 := congrArg (fun l => l[c]?) xt_lk
  simp only [List.getElem?_map, List.getElem?_range hc, Option.map_some, Option.some.injEq] at h1
  have h2 := List.map_inj_left.mp h1 (idx, d) hm
  unfold xclw at h2
  split at h2
  · refine Or.inr ?_
    unfold xmemN
    simp only [Bool.and_eq_true, decide_eq_true_eq]
    exact ⟨rfl, List.mem_of_getElem? h2⟩
  · exact Or.inl (xpi h2 rfl)
