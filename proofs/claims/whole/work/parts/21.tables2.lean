/-! the tables over states, by program -/
theorem RT_c {k : Nat} {i : pI} {i2 : pI2} {t : pM} {t2 : pM2} (h : RE i i2) (ht : RT t t2) : RT ((k, i) :: t) ((k, i2) :: t2) := ⟨rfl, h, ht⟩
theorem RT_n : RT [] [] := trivial
theorem RE_p {f : pC → Option pC} {f2 : pC2 → Option pC2} (h : R2 f f2) : RE (.inl f) (.inl f2) := h
theorem RE_q {q : pK ⊕ Option FieldType} : RE (.inr q) (.inr q) := rfl
noncomputable section
def ubX0_count : pM2 := [(0, .inl (ploadk isA 0 1)), (1, .inl (pgetf2 0 3 4)), (4, .inr (.inr (some .int)))]
def ubX0_areFull : pM2 := [(0, .inl (ploadk isA 0 1)), (1, .inl (pgetf2 0 3 4)), (4, .inl (pst (g_k (.int (8))) 6)), (6, .inl (picmp cLt 13 9)), (9, .inl (pst (g_k (.int (1))) 10)), (10, .inl (pst g_id 14)), (13, .inl (pst (g_k (.int (0))) 14)), (14, .inr (.inr (some .boolean)))]
def ubX0_add : pM2 := [(0, .inl (ploadk isA 0 1)), (1, .inl (pgetf2 0 0 4)), (4, .inl (ploadk isA 0 5)), (5, .inl (pgetf2 0 3 8)), (8, .inl (ploadk isI 1 9)), (9, .inr (.inl (120, 3, none))), (12, .inl (ploadk isA 0 13)), (13, .inl (pgetf2 0 1 16)), (16, .inl (ploadk isA 0 17)), (17, .inl (pgetf2 0 3 20)), (20, .inl (ploadk isI 2 21)), (21, .inr (.inl (120, 3, none))), (24, .inl (ploadk isA 0 25)), (25, .inl (pgetf2 0 2 28)), (28, .inl (ploadk isA 0 29)), (29, .inl (pgetf2 0 3 32)), (32, .inl (ploadk isI 3 33)), (33, .inr (.inl (120, 3, none))), (36, .inl (ploadk isA 0 37)), (37, .inl (pst (g_dup) 38)), (38, .inl (pgetf2 0 3 41)), (41, .inl (pst (g_dupx1) 42)), (42, .inl (pst (g_k (.int (1))) 43)), (43, .inl (pst (g_i2 (· + ·)) 44)), (44, .inl (pputf2 0 3 (.int) 47)), (47, .inr (.inr (some .int)))]
def ubX0_keep : pM2 := [(0, .inl (ploadk isA 0 1)), (1, .inl (ploadk isI 1 2)), (2, .inl (pputf2 0 3 (.int) 5)), (5, .inr (.inr none))]
def ubX0_areSo : pM2 := [(0, .inl (pst (g_k (.int (0))) 1)), (1, .inl (pstore isI 5 3)), (3, .inl (pclr [6, 7, 8] (ploadk isI 5 5))), (5, .inl (ploadk isA 0 6)), (6, .inl (pgetf2 0 3 9)), (9, .inl (picmp cGe 96 12)), (12, .inl (ploadk isA 0 13)), (13, .inl (pgetf2 0 0 16)), (16, .inl (ploadk isI 5 18)), (18, .inr (.inl (119, 2, none))), (21, .inl (pstore isI 6 23)), (23, .inl (ploadk isI 6 25)), (25, .inl (ploadk isI 2 26)), (26, .inl (picmp cNe 33 29)), (29, .inl (ploadk isI 3 30)), (30, .inl (pst g_id 39)), (33, .inl (ploadk isA 1 34)), (34, .inl (ploadk isI 6 36)), (36, .inr (.inl (20, 2, some 1))), (39, .inl (pstore isI 7 41)), (41, .inl (ploadk isI 6 43)), (43, .inl (ploadk isI 2 44)), (44, .inl (picmp cNe 52 47)), (47, .inl (ploadk isI 4 49)), (49, .inl (pst g_id 58)), (52, .inl (ploadk isA 1 53)), (53, .inl (ploadk isI 6 55)), (55, .inr (.inl (21, 2, some 1))), (58, .inl (pstore isI 8 60)), (60, .inl (ploadk isI 7 62)), (62, .inl (ploadk isI 8 64)), (64, .inl (ploadk isA 0 65)), (65, .inl (pgetf2 0 1 68)), (68, .inl (ploadk isI 5 70)), (70, .inr (.inl (119, 2, none))), (73, .inr (.inl (30, 3, none))), (76, .inl (ploadk isA 0 77)), (77, .inl (pgetf2 0 2 80)), (80, .inl (ploadk isI 5 82)), (82, .inr (.inl (119, 2, none))), (85, .inl (picmp cEq 90 88)), (88, .inl (pst (g_k (.int (0))) 89)), (89, .inr (.inr (some .boolean))), (90, .inl (piinc 5 (1) 93)), (93, .inl (pst g_id 3)), (96, .inl (pst (g_k (.int (1))) 97)), (97, .inr (.inr (some .boolean)))]
def ubX1_beginBy : pM2 := [(0, .inl (ploadk isA 0 1)), (1, .inl (ploadk isA 1 2)), (2, .inl (pst (g_k (.int (1))) 3)), (3, .inr (.inl (119, 2, none))), (6, .inr (.inl (58, 1, none))), (9, .inl (pputf2 1 3 (.int) 12)), (12, .inl (ploadk isA 0 13)), (13, .inl (ploadk isA 1 14)), (14, .inl (pst (g_k (.int (2))) 15)), (15, .inr (.inl (119, 2, none))), (18, .inr (.inl (58, 1, none))), (21, .inl (pputf2 1 4 (.int) 24)), (24, .inl (pst (g_k (.int (0))) 25)), (25, .inl (pstore isI 3 26)), (26, .inl (pclr [4, 5] (ploadk isI 3 27))), (27, .inl (ploadk isA 0 28)), (28, .inr (.inl (15, 1, some 1))), (31, .inl (picmp cGe 55 34)), (34, .inl (ploadk isA 0 35)), (35, .inl (ploadk isI 3 36)), (36, .inl (ploadk isA 1 37)), (37, .inl (pst (g_k (.int (3))) 38)), (38, .inl (ploadk isI 3 39)), (39, .inl (pst (g_i2 (· + ·)) 40)), (40, .inr (.inl (119, 2, none))), (43, .inr (.inl (58, 1, none))), (46, .inr (.inl (19, 3, some 1))), (49, .inl (piinc 3 (1) 52)), (52, .inl (pst g_id 26)), (55, .inl (pst (g_k (.int (3))) 56)), (56, .inl (ploadk isA 0 57)), (57, .inr (.inl (15, 1, some 1))), (60, .inl (pst (g_i2 (· + ·)) 61)), (61, .inl (pstore isI 3 62)), (62, .inl (ploadk isA 0 63)), (63, .inl (ploadk isI 2 64)), (64, .inl (ploadk isI 3 65)), (65, .inl (pst (g_i2 (· - ·)) 66)), (66, .inl (pst (g_k (.int (3))) 67)), (67, .inl (pst (g_i2 (· - ·)) 68)), (68, .inl (pst (g_k (.int (3))) 69)), (69, .inl (pst (g_idiv (· / ·)) 70)), (70, .inl (pputf2 1 5 (.int) 73)), (73, .inl (pst (g_k (.int (0))) 74)), (74, .inl (pstore isI 4 76)), (76, .inl (pclr [5] (ploadk isI 4 78))), (78, .inl (ploadk isA 0 79)), (79, .inl (pgetf2 1 5 82)), (82, .inl (picmp cGe 136 85)), (85, .inl (ploadk isI 3 86)), (86, .inl (pst (g_k (.int (3))) 87)), (87, .inl (ploadk isI 4 89)), (89, .inl (pst (g_i2 (· * ·)) 90)), (90, .inl (pst (g_i2 (· + ·)) 91)), (91, .inl (pstore isI 5 93)), (93, .inl (ploadk isA 0 94)), (94, .inl (pgetf2 1 1 97)), (97, .inl (ploadk isI 4 99)), (99, .inl (ploadk isA 1 100)), (100, .inl (ploadk isI 5 102)), (102, .inl (pst (g_k (.int (1))) 103)), (103, .inl (pst (g_i2 (· + ·)) 104)), (104, .inr (.inl (119, 2, none))), (107, .inr (.inl (59, 1, none))), (110, .inr (.inl (120, 3, none))), (113, .inl (ploadk isA 0 114)), (114, .inl (ploadk isI 4 116)), (116, .inl (ploadk isA 1 117)), (117, .inl (ploadk isI 5 119)), (119, .inl (pst (g_k (.int (2))) 120)), (120, .inl (pst (g_i2 (· + ·)) 121)), (121, .inr (.inl (119, 2, none))), (124, .inr (.inl (58, 1, none))), (127, .inr (.inl (22, 3, some 1))), (130, .inl (piinc 4 (1) 133)), (133, .inl (pst g_id 76)), (136, .inl (ploadk isA 0 137)), (137, .inl (ploadk isA 1 138)), (138, .inl (ploadk isI 2 139)), (139, .inl (pst (g_k (.int (2))) 140)), (140, .inl (pst (g_i2 (· - ·)) 141)), (141, .inr (.inl (119, 2, none))), (144, .inr (.inl (58, 1, none))), (147, .inl (ploadk isA 0 148)), (148, .inl (pgetf2 1 3 151)), (151, .inl (ploadk isA 1 152)), (152, .inl (ploadk isI 2 153)), (153, .inl (pst (g_k (.int (1))) 154)), (154, .inl (pst (g_i2 (· - ·)) 155)), (155, .inr (.inl (119, 2, none))), (158, .inr (.inl (58, 1, none))), (161, .inl (pst (g_i2 (· * ·)) 162)), (162, .inl (pst (g_i2 (· + ·)) 163)), (163, .inl (pputf2 1 7 (.int) 166)), (166, .inl (ploadk isA 0 167)), (167, .inl (pst (g_k (.int (1))) 168)), (168, .inl (ploadk isA 0 169)), (169, .inl (pgetf2 1 5 172)), (172, .inl (pst (g_i2 shl) 173)), (173, .inl (pst (g_k (.int (1))) 174)), (174, .inl (pst (g_i2 (· - ·)) 175)), (175, .inl (pputf2 1 6 (.int) 178)), (178, .inl (ploadk isA 0 179)), (179, .inl (ploadk isA 0 180)), (180, .inl (ploadk isA 0 181)), (181, .inl (pgetf2 1 7 184)), (184, .inr (.inl (28, 2, some 1))), (187, .inl (pputf2 1 8 (.long) 190)), (190, .inl (ploadk isA 0 191)), (191, .inl (pst (g_k (.int (0))) 192)), (192, .inl (pputf2 1 9 (.int) 195)), (195, .inr (.inr none))]
def ubX1_exists : pM2 := [(0, .inl (ploadk isA 0 1)), (1, .inl (pgetf2 1 3 4)), (4, .inl (pif (fun x => cLe x 0) 11 7)), (7, .inl (pst (g_k (.int (1))) 8)), (8, .inl (pst g_id 12)), (11, .inl (pst (g_k (.int (0))) 12)), (12, .inr (.inr (some .boolean)))]
def ubX1_columns : pM2 := [(0, .inl (ploadk isA 0 1)), (1, .inl (pgetf2 1 3 4)), (4, .inr (.inr (some .int)))]
def ubX1_rows : pM2 := [(0, .inl (ploadk isA 0 1)), (1, .inl (pgetf2 1 4 4)), (4, .inr (.inr (some .int)))]
def ubX1_lookers : pM2 := [(0, .inl (ploadk isA 0 1)), (1, .inl (pgetf2 1 5 4)), (4, .inr (.inr (some .int)))]
def ubX1_place : pM2 := [(0, .inl (ploadk isA 0 1)), (1, .inl (pgetf2 1 7 4)), (4, .inr (.inr (some .int)))]
def ubX1_seenCells : pM2 := [(0, .inl (ploadk isA 0 1)), (1, .inl (pgetf2 1 8 4)), (4, .inr (.inr (some .long)))]
def ubX1_stepsDone : pM2 := [(0, .inl (ploadk isA 0 1)), (1, .inl (pgetf2 1 9 4)), (4, .inr (.inr (some .int)))]
def ubX1_cells : pM2 := [(0, .inl (ploadk isA 0 1)), (1, .inl (pgetf2 1 3 4)), (4, .inl (ploadk isA 0 5)), (5, .inl (pgetf2 1 4 8)), (8, .inl (pst (g_i2 (· * ·)) 9)), (9, .inr (.inr (some .int)))]
def ubX1_isCell : pM2 := [(0, .inl (ploadk isI 1 1)), (1, .inl (pif (fun x => cLt x 0) 16 4)), (4, .inl (ploadk isI 1 5)), (5, .inl (ploadk isA 0 6)), (6, .inr (.inl (15, 1, some 1))), (9, .inl (picmp cGe 16 12)), (12, .inl (pst (g_k (.int (1))) 13)), (13, .inl (pst g_id 17)), (16, .inl (pst (g_k (.int (0))) 17)), (17, .inr (.inr (some .boolean)))]
def ubX1_isLooker : pM2 := [(0, .inl (ploadk isI 1 1)), (1, .inl (pif (fun x => cLt x 0) 16 4)), (4, .inl (ploadk isI 1 5)), (5, .inl (ploadk isA 0 6)), (6, .inl (pgetf2 1 5 9)), (9, .inl (picmp cGe 16 12)), (12, .inl (pst (g_k (.int (1))) 13)), (13, .inl (pst g_id 17)), (16, .inl (pst (g_k (.int (0))) 17)), (17, .inr (.inr (some .boolean)))]
def ubX1_heightOf : pM2 := [(0, .inl (ploadk isA 0 1)), (1, .inl (pgetf2 1 0 4)), (4, .inl (ploadk isI 1 5)), (5, .inr (.inl (119, 2, none))), (8, .inr (.inr (some .int)))]
def ubX1_makeHeight : pM2 := [(0, .inl (ploadk isA 0 1)), (1, .inl (pgetf2 1 0 4)), (4, .inl (ploadk isI 1 5)), (5, .inl (ploadk isI 2 6)), (6, .inr (.inl (120, 3, none))), (9, .inr (.inr none))]
def ubX1_kindOf : pM2 := [(0, .inl (ploadk isA 0 1)), (1, .inl (pgetf2 1 1 4)), (4, .inl (ploadk isI 1 5)), (5, .inr (.inl (119, 2, none))), (8, .inr (.inr (some .int)))]
def ubX1_shortOf : pM2 := [(0, .inl (ploadk isA 0 1)), (1, .inl (pgetf2 1 2 4)), (4, .inl (ploadk isI 1 5)), (5, .inr (.inl (119, 2, none))), (8, .inr (.inr (some .int)))]
def ubX1_makeShort : pM2 := [(0, .inl (ploadk isA 0 1)), (1, .inl (pgetf2 1 2 4)), (4, .inl (ploadk isI 1 5)), (5, .inl (ploadk isI 2 6)), (6, .inr (.inl (120, 3, none))), (9, .inr (.inr none))]
def ubX1_isGone : pM2 := [(0, .inl (ploadk isA 0 1)), (1, .inl (pgetf2 1 6 4)), (4, .inl (ploadk isI 1 5)), (5, .inl (pst (g_i2 shr) 6)), (6, .inl (pst (g_k (.int (1))) 7)), (7, .inl (pst (g_i2 (· &&& ·)) 8)), (8, .inl (pif (fun x => cNe x 0) 15 11)), (11, .inl (pst (g_k (.int (1))) 12)), (12, .inl (pst g_id 16)), (15, .inl (pst (g_k (.int (0))) 16)), (16, .inr (.inr (some .boolean)))]
def ubX1_lookersLeft : pM2 := [(0, .inl (ploadk isA 0 1)), (1, .inl (pgetf2 1 6 4)), (4, .inr (.inl (194, 1, none))), (7, .inr (.inr (some .int)))]
def ubX1_takeOff : pM2 := [(0, .inl (ploadk isA 0 1)), (1, .inl (pst (g_dup) 2)), (2, .inl (pgetf2 1 6 5)), (5, .inl (pst (g_k (.int (1))) 6)), (6, .inl (ploadk isI 1 7)), (7, .inl (pst (g_i2 shl) 8)), (8, .inl (pst (g_k (.int (-1))) 9)), (9, .inl (pst (g_i2 (· ^^^ ·)) 10)), (10, .inl (pst (g_i2 (· &&& ·)) 11)), (11, .inl (pputf2 1 6 (.int) 14)), (14, .inr (.inr none))]
def ubX1_bringBack : pM2 := [(0, .inl (ploadk isA 0 1)), (1, .inl (pst (g_dup) 2)), (2, .inl (pgetf2 1 6 5)), (5, .inl (pst (g_k (.int (1))) 6)), (6, .inl (ploadk isI 1 7)), (7, .inl (pst (g_i2 shl) 8)), (8, .inl (pst (g_i2 (· ||| ·)) 9)), (9, .inl (pputf2 1 6 (.int) 12)), (12, .inl (ploadk isA 0 13)), (13, .inl (pst (g_dup) 14)), (14, .inl (pgetf2 1 8 17)), (17, .inl (ploadk isA 0 18)), (18, .inl (ploadk isA 0 19)), (19, .inl (pgetf2 1 7 22)), (22, .inr (.inl (28, 2, some 1))), (25, .inl (pst (g_l2 (· ||| ·)) 26)), (26, .inl (pputf2 1 8 (.long) 29)), (29, .inr (.inr none))]
def ubX1_moveTo : pM2 := [(0, .inl (ploadk isA 0 1)), (1, .inl (ploadk isI 1 2)), (2, .inl (pputf2 1 7 (.int) 5)), (5, .inl (ploadk isA 0 6)), (6, .inl (pst (g_dup) 7)), (7, .inl (pgetf2 1 8 10)), (10, .inl (ploadk isA 0 11)), (11, .inl (ploadk isA 0 12)), (12, .inl (pgetf2 1 7 15)), (15, .inr (.inl (28, 2, some 1))), (18, .inl (pst (g_l2 (· ||| ·)) 19)), (19, .inl (pputf2 1 8 (.long) 22)), (22, .inl (ploadk isA 0 23)), (23, .inl (pst (g_dup) 24)), (24, .inl (pgetf2 1 9 27)), (27, .inl (pst (g_k (.int (1))) 28)), (28, .inl (pst (g_i2 (· + ·)) 29)), (29, .inl (pputf2 1 9 (.int) 32)), (32, .inr (.inr none))]
def ubX1_seenFrom : pM2 := [(0, .inl (ploadk isA 0 1)), (1, .inl (pgetf2 1 6 4)), (4, .inl (pst (g_i2l) 5)), (5, .inl (ploadk isI 1 6)), (6, .inl (pst (g_ls lshl) 7)), (7, .inr (.inr (some .long)))]
def ubX1_toldOf : pM2 := [(0, .inl (ploadk isA 0 1)), (1, .inl (ploadk isI 1 2)), (2, .inr (.inl (20, 2, some 1))), (5, .inl (ploadk isA 0 6)), (6, .inl (ploadk isI 1 7)), (7, .inr (.inl (21, 2, some 1))), (10, .inl (ploadk isA 0 11)), (11, .inl (ploadk isI 2 12)), (12, .inr (.inl (18, 2, some 1))), (15, .inr (.inl (30, 3, none))), (18, .inr (.inr (some .int)))]
def ubX1_told : pM2 := [(0, .inl (ploadk isI 2 1)), (1, .inl (ploadk isI 1 2)), (2, .inl (pst (g_i2 (· - ·)) 3)), (3, .inl (pst (g_k (.int (0))) 4)), (4, .inl (pst (g_m2 imax) 7)), (7, .inl (pstore isI 3 8)), (8, .inl (ploadk isI 0 9)), (9, .inl (pif (fun x => cNe x 0) 14 12)), (12, .inl (ploadk isI 3 13)), (13, .inr (.inr (some .int))), (14, .inl (ploadk isI 0 15)), (15, .inl (pst (g_k (.int (1))) 16)), (16, .inl (picmp cNe 25 19)), (19, .inl (ploadk isI 3 20)), (20, .inl (pst (g_k (.int (1))) 21)), (21, .inl (pst (g_i2 (· + ·)) 22)), (22, .inl (pst g_id 30)), (25, .inl (pst (g_k (.int (2))) 26)), (26, .inl (ploadk isI 3 27)), (27, .inl (pst (g_k (.int (1))) 28)), (28, .inl (pst (g_i2 (· + ·)) 29)), (29, .inl (pst (g_i2 (· * ·)) 30)), (30, .inr (.inr (some .int)))]
def ubX1_columnOf : pM2 := [(0, .inl (ploadk isA 0 1)), (1, .inl (pgetf2 1 3 4)), (4, .inl (pif (fun x => cLe x 0) 16 7)), (7, .inl (ploadk isI 1 8)), (8, .inl (ploadk isA 0 9)), (9, .inl (pgetf2 1 3 12)), (12, .inl (pst (g_idiv irem) 13)), (13, .inl (pst g_id 17)), (16, .inl (pst (g_k (.int (0))) 17)), (17, .inr (.inr (some .int)))]
def ubX1_rowOf : pM2 := [(0, .inl (ploadk isA 0 1)), (1, .inl (pgetf2 1 3 4)), (4, .inl (pif (fun x => cLe x 0) 16 7)), (7, .inl (ploadk isI 1 8)), (8, .inl (ploadk isA 0 9)), (9, .inl (pgetf2 1 3 12)), (12, .inl (pst (g_idiv (· / ·)) 13)), (13, .inl (pst g_id 17)), (16, .inl (pst (g_k (.int (0))) 17)), (17, .inr (.inr (some .int)))]
def ubX1_isPlace : pM2 := [(0, .inl (ploadk isA 0 1)), (1, .inl (ploadk isI 1 2)), (2, .inr (.inl (16, 2, some 1))), (5, .inl (pif (fun x => cEq x 0) 29 8)), (8, .inl (ploadk isA 0 9)), (9, .inl (ploadk isI 1 10)), (10, .inr (.inl (31, 2, some 1))), (13, .inl (ploadk isA 0 14)), (14, .inl (pgetf2 1 5 17)), (17, .inl (pst (g_i2 (· + ·)) 18)), (18, .inl (ploadk isA 0 19)), (19, .inl (pgetf2 1 3 22)), (22, .inl (picmp cGt 29 25)), (25, .inl (pst (g_k (.int (1))) 26)), (26, .inl (pst g_id 30)), (29, .inl (pst (g_k (.int (0))) 30)), (30, .inr (.inr (some .boolean)))]
def ubX1_nextPlace : pM2 := [(0, .inl (ploadk isI 2 1)), (1, .inl (psw [(0, 32), (1, 52), (2, 78), (3, 104)] 121)), (32, .inl (ploadk isA 0 33)), (33, .inl (ploadk isI 1 34)), (34, .inr (.inl (32, 2, some 1))), (37, .inl (pif (fun x => cLe x 0) 49 40)), (40, .inl (ploadk isI 1 41)), (41, .inl (ploadk isA 0 42)), (42, .inl (pgetf2 1 3 45)), (45, .inl (pst (g_i2 (· - ·)) 46)), (46, .inl (pst g_id 51)), (49, .inl (pst (g_k (.int (-9))) 51)), (51, .inr (.inr (some .int))), (52, .inl (ploadk isA 0 53)), (53, .inl (ploadk isI 1 54)), (54, .inr (.inl (31, 2, some 1))), (57, .inl (ploadk isA 0 58)), (58, .inl (pgetf2 1 5 61)), (61, .inl (pst (g_i2 (· + ·)) 62)), (62, .inl (ploadk isA 0 63)), (63, .inl (pgetf2 1 3 66)), (66, .inl (picmp cGe 75 69)), (69, .inl (ploadk isI 1 70)), (70, .inl (pst (g_k (.int (1))) 71)), (71, .inl (pst (g_i2 (· + ·)) 72)), (72, .inl (pst g_id 77)), (75, .inl (pst (g_k (.int (-9))) 77)), (77, .inr (.inr (some .int))), (78, .inl (ploadk isA 0 79)), (79, .inl (ploadk isI 1 80)), (80, .inr (.inl (32, 2, some 1))), (83, .inl (pst (g_k (.int (1))) 84)), (84, .inl (pst (g_i2 (· + ·)) 85)), (85, .inl (ploadk isA 0 86)), (86, .inl (pgetf2 1 4 89)), (89, .inl (picmp cGe 101 92)), (92, .inl (ploadk isI 1 93)), (93, .inl (ploadk isA 0 94)), (94, .inl (pgetf2 1 3 97)), (97, .inl (pst (g_i2 (· + ·)) 98)), (98, .inl (pst g_id 103)), (101, .inl (pst (g_k (.int (-9))) 103)), (103, .inr (.inr (some .int))), (104, .inl (ploadk isA 0 105)), (105, .inl (ploadk isI 1 106)), (106, .inr (.inl (31, 2, some 1))), (109, .inl (pif (fun x => cLe x 0) 118 112)), (112, .inl (ploadk isI 1 113)), (113, .inl (pst (g_k (.int (1))) 114)), (114, .inl (pst (g_i2 (· - ·)) 115)), (115, .inl (pst g_id 120)), (118, .inl (pst (g_k (.int (-9))) 120)), (120, .inr (.inr (some .int))), (121, .inl (pst (g_k (.int (-9))) 123)), (123, .inr (.inr (some .int)))]
def ubX1_ofVoyage : pM2 := [(0, .inl (ploadk isA 0 1)), (1, .inl (pgetf2 1 7 4)), (4, .inl (pstore isI 4 6)), (6, .inl (pst (g_k (.long 0)) 7)), (7, .inl (pstore isL 5 9)), (9, .inl (pst (g_k (.int (0))) 10)), (10, .inl (pstore isI 7 12)), (12, .inl (pst (g_k (.int (-9))) 14)), (14, .inl (pstore isI 8 16)), (16, .inl (pst (g_k (.int (0))) 17)), (17, .inl (pstore isI 9 19)), (19, .inl (ploadk isI 9 21)), (21, .inl (ploadk isI 2 22)), (22, .inl (picmp cGe 103 25)), (25, .inl (ploadk isA 0 26)), (26, .inl (ploadk isI 4 28)), (28, .inl (ploadk isA 1 29)), (29, .inl (ploadk isI 9 31)), (31, .inr (.inl (119, 2, none))), (34, .inr (.inl (34, 3, some 1))), (37, .inl (pstore isI 4 39)), (39, .inl (ploadk isI 4 41)), (41, .inl (pst (g_k (.int (-9))) 43)), (43, .inl (picmp cNe 62 46)), (46, .inl (ploadk isI 3 47)), (47, .inl (pst (g_k (.int (1))) 48)), (48, .inl (picmp cNe 56 51)), (51, .inl (ploadk isI 9 53)), (53, .inl (pst g_id 61)), (56, .inl (pst (g_k (.int (-100))) 58)), (58, .inl (ploadk isI 9 60)), (60, .inl (pst (g_i2 (· - ·)) 61)), (61, .inr (.inr (some .int))), (62, .inl (ploadk isL 5 64)), (64, .inl (ploadk isA 0 65)), (65, .inl (ploadk isI 4 67)), (67, .inr (.inl (28, 2, some 1))), (70, .inl (pst (g_l2 (· ||| ·)) 71)), (71, .inl (pstore isL 5 73)), (73, .inl (ploadk isI 7 75)), (75, .inl (ploadk isA 0 76)), (76, .inl (ploadk isI 4 78)), (78, .inr (.inl (36, 2, some 1))), (81, .inl (pst (g_i2 (· + ·)) 82)), (82, .inl (pstore isI 7 84)), (84, .inl (ploadk isI 8 86)), (86, .inl (ploadk isA 0 87)), (87, .inl (ploadk isI 4 89)), (89, .inr (.inl (37, 2, some 1))), (92, .inl (pst (g_m2 imax) 95)), (95, .inl (pstore isI 8 97)), (97, .inl (piinc 9 (1) 100)), (100, .inl (pst g_id 19)), (103, .inl (ploadk isI 3 104)), (104, .inl (psw [(0, 140), (1, 164), (2, 155), (3, 158), (4, 161)] 164)), (140, .inl (ploadk isL 5 142)), (142, .inl (ploadk isA 0 143)), (143, .inl (pgetf2 1 8 146)), (146, .inl (pst (g_k (.long (-1))) 149)), (149, .inl (pst (g_l2 (· ^^^ ·)) 150)), (150, .inl (pst (g_l2 (· &&& ·)) 151)), (151, .inr (.inl (195, 1, none))), (154, .inr (.inr (some .int))), (155, .inl (ploadk isI 7 157)), (157, .inr (.inr (some .int))), (158, .inl (ploadk isI 8 160)), (160, .inr (.inr (some .int))), (161, .inl (ploadk isI 4 163)), (163, .inr (.inr (some .int))), (164, .inl (pst (g_k (.int (-9))) 166)), (166, .inr (.inr (some .int)))]
def ubX1_toldTogether : pM2 := [(0, .inl (pst (g_k (.int (0))) 1)), (1, .inl (pstore isI 2 2)), (2, .inl (pst (g_k (.int (0))) 3)), (3, .inl (pstore isI 3 4)), (4, .inl (ploadk isI 3 5)), (5, .inl (ploadk isA 0 6)), (6, .inl (pgetf2 1 5 9)), (9, .inl (picmp cGe 37 12)), (12, .inl (ploadk isA 0 13)), (13, .inl (ploadk isI 3 14)), (14, .inr (.inl (23, 2, some 1))), (17, .inl (pif (fun x => cNe x 0) 31 20)), (20, .inl (ploadk isI 2 21)), (21, .inl (ploadk isA 0 22)), (22, .inl (ploadk isI 3 23)), (23, .inl (ploadk isI 1 24)), (24, .inl (ploadk isI 3 25)), (25, .inl (pst (g_i2 (· + ·)) 26)), (26, .inr (.inl (29, 3, some 1))), (29, .inl (pst (g_i2 (· + ·)) 30)), (30, .inl (pstore isI 2 31)), (31, .inl (piinc 3 (1) 34)), (34, .inl (pst g_id 4)), (37, .inl (ploadk isI 2 38)), (38, .inr (.inr (some .int)))]
def ubX1_mostTold : pM2 := [(0, .inl (pst (g_k (.int (-9))) 2)), (2, .inl (pstore isI 2 3)), (3, .inl (pst (g_k (.int (0))) 4)), (4, .inl (pstore isI 3 5)), (5, .inl (ploadk isI 3 6)), (6, .inl (ploadk isA 0 7)), (7, .inl (pgetf2 1 5 10)), (10, .inl (picmp cGe 40 13)), (13, .inl (ploadk isA 0 14)), (14, .inl (ploadk isI 3 15)), (15, .inr (.inl (23, 2, some 1))), (18, .inl (pif (fun x => cNe x 0) 34 21)), (21, .inl (ploadk isI 2 22)), (22, .inl (ploadk isA 0 23)), (23, .inl (ploadk isI 3 24)), (24, .inl (ploadk isI 1 25)), (25, .inl (ploadk isI 3 26)), (26, .inl (pst (g_i2 (· + ·)) 27)), (27, .inr (.inl (29, 3, some 1))), (30, .inl (pst (g_m2 imax) 33)), (33, .inl (pstore isI 2 34)), (34, .inl (piinc 3 (1) 37)), (37, .inl (pst g_id 5)), (40, .inl (ploadk isI 2 41)), (41, .inr (.inr (some .int)))]
def ubX1_ofWay : pM2 := [(0, .inl (ploadk isA 0 1)), (1, .inl (ploadk isI 1 2)), (2, .inr (.inl (39, 2, some 1))), (5, .inl (pstore isI 3 6)), (6, .inl (ploadk isI 3 7)), (7, .inl (pst (g_k (.int (99))) 9)), (9, .inl (picmp cNe 15 12)), (12, .inl (pst (g_k (.int (-9))) 14)), (14, .inr (.inr (some .int))), (15, .inl (ploadk isA 0 16)), (16, .inl (ploadk isI 1 17)), (17, .inr (.inl (32, 2, some 1))), (20, .inl (ploadk isA 0 21)), (21, .inl (ploadk isA 0 22)), (22, .inl (pgetf2 1 7 25)), (25, .inr (.inl (32, 2, some 1))), (28, .inl (pst (g_i2 (· - ·)) 29)), (29, .inl (pstore isI 4 31)), (31, .inl (ploadk isI 4 33)), (33, .inl (pst (g_i1 (- ·)) 34)), (34, .inl (pst (g_k (.int (0))) 35)), (35, .inl (pst (g_m2 imax) 38)), (38, .inl (pstore isI 5 40)), (40, .inl (ploadk isI 5 42)), (42, .inl (ploadk isI 3 43)), (43, .inl (pst (g_k (.int (0))) 44)), (44, .inl (pst (g_m2 imax) 47)), (47, .inl (pst (g_i2 (· + ·)) 48)), (48, .inl (pstore isI 6 50)), (50, .inl (ploadk isI 6 52)), (52, .inl (ploadk isI 4 54)), (54, .inl (pst (g_k (.int (0))) 55)), (55, .inl (pst (g_m2 imax) 58)), (58, .inl (pst (g_i2 (· + ·)) 59)), (59, .inl (pstore isI 7 61)), (61, .inl (ploadk isI 7 63)), (63, .inl (ploadk isI 3 64)), (64, .inl (pst (g_i1 (- ·)) 65)), (65, .inl (pst (g_k (.int (0))) 66)), (66, .inl (pst (g_m2 imax) 69)), (69, .inl (pst (g_i2 (· + ·)) 70)), (70, .inl (pstore isI 8 72)), (72, .inl (ploadk isI 2 73)), (73, .inl (pif (fun x => cGe x 0) 79 76)), (76, .inl (ploadk isI 8 78)), (78, .inr (.inr (some .int))), (79, .inl (ploadk isI 2 80)), (80, .inl (ploadk isI 5 82)), (82, .inl (picmp cGe 87 85)), (85, .inl (pst (g_k (.int (0))) 86)), (86, .inr (.inr (some .int))), (87, .inl (ploadk isI 2 88)), (88, .inl (ploadk isI 6 90)), (90, .inl (picmp cGe 95 93)), (93, .inl (pst (g_k (.int (1))) 94)), (94, .inr (.inr (some .int))), (95, .inl (ploadk isI 2 96)), (96, .inl (ploadk isI 7 98)), (98, .inl (picmp cGe 103 101)), (101, .inl (pst (g_k (.int (2))) 102)), (102, .inr (.inr (some .int))), (103, .inl (ploadk isI 2 104)), (104, .inl (ploadk isI 8 106)), (106, .inl (picmp cGe 113 109)), (109, .inl (pst (g_k (.int (3))) 110)), (110, .inl (pst g_id 115)), (113, .inl (pst (g_k (.int (-9))) 115)), (115, .inr (.inr (some .int)))]
def ubX1_fewestAcross : pM2 := [(0, .inl (pst (g_k (.int (99))) 2)), (2, .inl (pstore isI 2 3)), (3, .inl (pst (g_k (.int (0))) 4)), (4, .inl (pstore isI 3 5)), (5, .inl (pclr [4, 5] (ploadk isI 3 6))), (6, .inl (ploadk isA 0 7)), (7, .inl (pgetf2 1 5 10)), (10, .inl (picmp cGe 86 13)), (13, .inl (ploadk isA 0 14)), (14, .inl (ploadk isI 1 15)), (15, .inr (.inl (31, 2, some 1))), (18, .inl (ploadk isI 3 19)), (19, .inl (pst (g_i2 (· - ·)) 20)), (20, .inl (pstore isI 4 22)), (22, .inl (ploadk isA 0 23)), (23, .inl (ploadk isI 3 24)), (24, .inr (.inl (23, 2, some 1))), (27, .inl (pif (fun x => cNe x 0) 80 30)), (30, .inl (ploadk isI 4 32)), (32, .inl (pif (fun x => cLt x 0) 80 35)), (35, .inl (ploadk isI 4 37)), (37, .inl (ploadk isA 0 38)), (38, .inl (pgetf2 1 5 41)), (41, .inl (pst (g_i2 (· + ·)) 42)), (42, .inl (ploadk isA 0 43)), (43, .inl (pgetf2 1 3 46)), (46, .inl (picmp cLe 52 49)), (49, .inl (pst g_id 80)), (52, .inl (ploadk isI 4 54)), (54, .inl (ploadk isA 0 55)), (55, .inl (ploadk isA 0 56)), (56, .inl (pgetf2 1 7 59)), (59, .inr (.inl (31, 2, some 1))), (62, .inl (pst (g_i2 (· - ·)) 63)), (63, .inl (pstore isI 5 65)), (65, .inl (ploadk isI 5 67)), (67, .inl (pst (g_m1 iabs) 70)), (70, .inl (ploadk isI 2 71)), (71, .inl (pst (g_m1 iabs) 74)), (74, .inl (picmp cGe 80 77)), (77, .inl (ploadk isI 5 79)), (79, .inl (pstore isI 2 80)), (80, .inl (piinc 3 (1) 83)), (83, .inl (pst g_id 5)), (86, .inl (ploadk isI 2 87)), (87, .inr (.inr (some .int)))]
def ubX1_ofMost : pM2 := [(0, .inl (ploadk isA 0 1)), (1, .inl (ploadk isI 1 2)), (2, .inr (.inl (41, 2, some 1))), (5, .inl (pstore isI 3 6)), (6, .inl (ploadk isI 3 7)), (7, .inl (pst (g_k (.int (-9))) 9)), (9, .inl (picmp cEq 17 12)), (12, .inl (ploadk isI 2 13)), (13, .inl (ploadk isI 1 14)), (14, .inl (picmp cLt 20 17)), (17, .inl (pst (g_k (.int (-9))) 19)), (19, .inr (.inr (some .int))), (20, .inl (ploadk isI 2 21)), (21, .inl (pif (fun x => cGe x 0) 33 24)), (24, .inl (ploadk isA 0 25)), (25, .inl (ploadk isI 3 26)), (26, .inl (ploadk isI 1 27)), (27, .inr (.inl (43, 3, some 1))), (30, .inl (pst g_id 39)), (33, .inl (ploadk isI 3 34)), (34, .inl (ploadk isI 1 35)), (35, .inl (ploadk isI 2 36)), (36, .inr (.inl (42, 3, none))), (39, .inr (.inr (some .int)))]
def ubX1_bestRow : pM2 := [(0, .inl (pst (g_k (.int (-9))) 2)), (2, .inl (pstore isI 2 3)), (3, .inl (pst (g_k (.int (-9))) 5)), (5, .inl (pstore isI 3 6)), (6, .inl (pst (g_k (.int (0))) 7)), (7, .inl (pstore isI 4 9)), (9, .inl (pclr [5] (ploadk isI 4 11))), (11, .inl (pst (g_k (.int (1))) 12)), (12, .inl (pst (g_k (.int (2))) 13)), (13, .inl (ploadk isI 1 14)), (14, .inl (pst (g_i2 (· * ·)) 15)), (15, .inl (pst (g_i2 shl) 16)), (16, .inl (picmp cGe 46 19)), (19, .inl (ploadk isA 0 20)), (20, .inl (ploadk isI 4 22)), (22, .inl (ploadk isI 1 23)), (23, .inr (.inl (43, 3, some 1))), (26, .inl (pstore isI 5 28)), (28, .inl (ploadk isI 5 30)), (30, .inl (ploadk isI 3 31)), (31, .inl (picmp cLe 40 34)), (34, .inl (ploadk isI 4 36)), (36, .inl (pstore isI 2 37)), (37, .inl (ploadk isI 5 39)), (39, .inl (pstore isI 3 40)), (40, .inl (piinc 4 (1) 43)), (43, .inl (pst g_id 9)), (46, .inl (ploadk isI 2 47)), (47, .inr (.inr (some .int)))]
def ubX1_stepOfRow : pM2 := [(0, .inl (ploadk isI 0 1)), (1, .inl (pst (g_k (.int (2))) 2)), (2, .inl (ploadk isI 1 3)), (3, .inl (pst (g_k (.int (1))) 4)), (4, .inl (pst (g_i2 (· - ·)) 5)), (5, .inl (ploadk isI 2 6)), (6, .inl (pst (g_i2 (· - ·)) 7)), (7, .inl (pst (g_i2 (· * ·)) 8)), (8, .inl (pst (g_i2 shr) 9)), (9, .inl (pst (g_k (.int (3))) 10)), (10, .inl (pst (g_i2 (· &&& ·)) 11)), (11, .inr (.inr (some .int)))]
def ubX1_gainOf : pM2 := [(0, .inl (ploadk isA 0 1)), (1, .inl (pgetf2 1 7 4)), (4, .inl (pstore isI 3 5)), (5, .inl (pst (g_k (.long 0)) 6)), (6, .inl (pstore isL 4 8)), (8, .inl (pst (g_k (.int (0))) 9)), (9, .inl (pstore isI 6 11)), (11, .inl (ploadk isI 6 13)), (13, .inl (ploadk isI 2 14)), (14, .inl (picmp cGe 55 17)), (17, .inl (ploadk isA 0 18)), (18, .inl (ploadk isI 3 19)), (19, .inl (ploadk isI 1 20)), (20, .inl (ploadk isI 2 21)), (21, .inl (ploadk isI 6 23)), (23, .inr (.inl (42, 3, none))), (26, .inr (.inl (34, 3, some 1))), (29, .inl (pstore isI 3 30)), (30, .inl (ploadk isI 3 31)), (31, .inl (pst (g_k (.int (-9))) 33)), (33, .inl (picmp cNe 39 36)), (36, .inl (pst (g_k (.int (-9))) 38)), (38, .inr (.inr (some .int))), (39, .inl (ploadk isL 4 41)), (41, .inl (ploadk isA 0 42)), (42, .inl (ploadk isI 3 43)), (43, .inr (.inl (28, 2, some 1))), (46, .inl (pst (g_l2 (· ||| ·)) 47)), (47, .inl (pstore isL 4 49)), (49, .inl (piinc 6 (1) 52)), (52, .inl (pst g_id 11)), (55, .inl (ploadk isL 4 57)), (57, .inl (ploadk isA 0 58)), (58, .inl (pgetf2 1 8 61)), (61, .inl (pst (g_k (.long (-1))) 64)), (64, .inl (pst (g_l2 (· ^^^ ·)) 65)), (65, .inl (pst (g_l2 (· &&& ·)) 66)), (66, .inr (.inl (195, 1, none))), (69, .inr (.inr (some .int)))]
def ubX1_flatWith : pM2 := [(0, .inl (ploadk isA 0 1)), (1, .inl (ploadk isA 0 2)), (2, .inl (ploadk isI 1 3)), (3, .inr (.inl (18, 2, some 1))), (6, .inr (.inl (45, 2, some 1))), (9, .inl (pstore isL 2 10)), (10, .inl (pst (g_k (.long 1)) 11)), (11, .inl (ploadk isI 1 12)), (12, .inl (pst (g_ls lshl) 13)), (13, .inl (pstore isL 4 15)), (15, .inl (pst (g_k (.int (0))) 16)), (16, .inl (pstore isI 6 18)), (18, .inl (pclr [1] (ploadk isI 6 20))), (20, .inl (ploadk isA 0 21)), (21, .inr (.inl (15, 1, some 1))), (24, .inl (picmp cGe 46 27)), (27, .inl (ploadk isL 4 29)), (29, .inl (ploadk isA 0 30)), (30, .inl (ploadk isL 4 32)), (32, .inr (.inl (46, 2, some 1))), (35, .inl (ploadk isL 2 36)), (36, .inl (pst (g_l2 (· &&& ·)) 37)), (37, .inl (pst (g_l2 (· ||| ·)) 38)), (38, .inl (pstore isL 4 40)), (40, .inl (piinc 6 (1) 43)), (43, .inl (pst g_id 18)), (46, .inl (ploadk isL 4 48)), (48, .inr (.inr (some .long)))]
def ubX1_cellsOfHeight : pM2 := [(0, .inl (pst (g_k (.long 0)) 1)), (1, .inl (pstore isL 2 2)), (2, .inl (pst (g_k (.int (0))) 3)), (3, .inl (pstore isI 4 5)), (5, .inl (ploadk isI 4 7)), (7, .inl (ploadk isA 0 8)), (8, .inr (.inl (15, 1, some 1))), (11, .inl (picmp cGe 37 14)), (14, .inl (ploadk isA 0 15)), (15, .inl (ploadk isI 4 17)), (17, .inr (.inl (18, 2, some 1))), (20, .inl (ploadk isI 1 21)), (21, .inl (picmp cNe 31 24)), (24, .inl (ploadk isL 2 25)), (25, .inl (pst (g_k (.long 1)) 26)), (26, .inl (ploadk isI 4 28)), (28, .inl (pst (g_ls lshl) 29)), (29, .inl (pst (g_l2 (· ||| ·)) 30)), (30, .inl (pstore isL 2 31)), (31, .inl (piinc 4 (1) 34)), (34, .inl (pst g_id 5)), (37, .inl (ploadk isL 2 38)), (38, .inr (.inr (some .long)))]
def ubX1_bordering : pM2 := [(0, .inl (ploadk isL 1 1)), (1, .inl (ploadk isA 0 2)), (2, .inl (ploadk isA 0 3)), (3, .inl (pgetf2 1 3 6)), (6, .inl (pst (g_k (.int (1))) 7)), (7, .inl (pst (g_i2 (· - ·)) 8)), (8, .inr (.inl (47, 2, some 1))), (11, .inl (pst (g_k (.long (-1))) 14)), (14, .inl (pst (g_l2 (· ^^^ ·)) 15)), (15, .inl (pst (g_l2 (· &&& ·)) 16)), (16, .inl (pstore isL 3 17)), (17, .inl (ploadk isL 1 18)), (18, .inl (ploadk isA 0 19)), (19, .inl (pst (g_k (.int (0))) 20)), (20, .inr (.inl (47, 2, some 1))), (23, .inl (pst (g_k (.long (-1))) 26)), (26, .inl (pst (g_l2 (· ^^^ ·)) 27)), (27, .inl (pst (g_l2 (· &&& ·)) 28)), (28, .inl (pstore isL 5 30)), (30, .inl (ploadk isL 1 31)), (31, .inl (ploadk isA 0 32)), (32, .inl (pgetf2 1 3 35)), (35, .inl (pst (g_ls lshl) 36)), (36, .inl (ploadk isL 1 37)), (37, .inl (ploadk isA 0 38)), (38, .inl (pgetf2 1 3 41)), (41, .inl (pst (g_ls lushr) 42)), (42, .inl (pst (g_l2 (· ||| ·)) 43)), (43, .inl (ploadk isL 3 44)), (44, .inl (pst (g_k (.int (1))) 45)), (45, .inl (pst (g_ls lshl) 46)), (46, .inl (pst (g_l2 (· ||| ·)) 47)), (47, .inl (ploadk isL 5 49)), (49, .inl (pst (g_k (.int (1))) 50)), (50, .inl (pst (g_ls lushr) 51)), (51, .inl (pst (g_l2 (· ||| ·)) 52)), (52, .inr (.inr (some .long)))]
def ubX1_cellsOfColumn : pM2 := [(0, .inl (pst (g_k (.long 0)) 1)), (1, .inl (pstore isL 2 2)), (2, .inl (pst (g_k (.int (0))) 3)), (3, .inl (pstore isI 4 5)), (5, .inl (ploadk isI 4 7)), (7, .inl (ploadk isA 0 8)), (8, .inl (pgetf2 1 4 11)), (11, .inl (picmp cGe 34 14)), (14, .inl (ploadk isL 2 15)), (15, .inl (pst (g_k (.long 1)) 16)), (16, .inl (ploadk isI 1 17)), (17, .inl (ploadk isA 0 18)), (18, .inl (pgetf2 1 3 21)), (21, .inl (ploadk isI 4 23)), (23, .inl (pst (g_i2 (· * ·)) 24)), (24, .inl (pst (g_i2 (· + ·)) 25)), (25, .inl (pst (g_ls lshl) 26)), (26, .inl (pst (g_l2 (· ||| ·)) 27)), (27, .inl (pstore isL 2 28)), (28, .inl (piinc 4 (1) 31)), (31, .inl (pst g_id 5)), (34, .inl (ploadk isL 2 35)), (35, .inr (.inr (some .long)))]
def ubX1_ofBegins : pM2 := [(0, .inl (pst (g_k (.int (0))) 1)), (1, .inl (pstore isI 5 3)), (3, .inl (pst (g_k (.int (-9))) 5)), (5, .inl (pstore isI 6 7)), (7, .inl (pst (g_k (.int (-9))) 9)), (9, .inl (pstore isI 7 11)), (11, .inl (pst (g_k (.int (0))) 12)), (12, .inl (pstore isI 8 14)), (14, .inl (ploadk isI 8 16)), (16, .inl (ploadk isA 0 17)), (17, .inr (.inl (15, 1, some 1))), (20, .inl (picmp cGe 69 23)), (23, .inl (ploadk isA 0 24)), (24, .inl (ploadk isI 8 26)), (26, .inr (.inl (33, 2, some 1))), (29, .inl (pif (fun x => cEq x 0) 63 32)), (32, .inl (ploadk isA 0 33)), (33, .inl (ploadk isI 8 35)), (35, .inl (ploadk isA 1 36)), (36, .inl (ploadk isI 2 37)), (37, .inl (ploadk isI 3 38)), (38, .inr (.inl (49, 5, some 1))), (41, .inl (pif (fun x => cNe x 0) 47 44)), (44, .inl (pst g_id 63)), (47, .inl (ploadk isI 5 49)), (49, .inl (pif (fun x => cNe x 0) 56 52)), (52, .inl (ploadk isI 8 54)), (54, .inl (pstore isI 6 56)), (56, .inl (ploadk isI 8 58)), (58, .inl (pstore isI 7 60)), (60, .inl (piinc 5 (1) 63)), (63, .inl (piinc 8 (1) 66)), (66, .inl (pst g_id 14)), (69, .inl (ploadk isI 4 71)), (71, .inl (pif (fun x => cNe x 0) 77 74)), (74, .inl (ploadk isI 5 76)), (76, .inr (.inr (some .int))), (77, .inl (ploadk isI 4 79)), (79, .inl (pst (g_k (.int (1))) 80)), (80, .inl (picmp cNe 88 83)), (83, .inl (ploadk isI 6 85)), (85, .inl (pst g_id 90)), (88, .inl (ploadk isI 7 90)), (90, .inr (.inr (some .int)))]
def ubX1_isToldFrom : pM2 := [(0, .inl (ploadk isI 1 1)), (1, .inl (pstore isI 5 3)), (3, .inl (pst (g_k (.int (0))) 4)), (4, .inl (pstore isI 6 6)), (6, .inl (pclr [1] (ploadk isI 6 8))), (8, .inl (ploadk isI 3 9)), (9, .inl (picmp cGe 59 12)), (12, .inl (ploadk isI 6 14)), (14, .inl (pif (fun x => cLe x 0) 27 17)), (17, .inl (ploadk isA 0 18)), (18, .inl (ploadk isI 5 20)), (20, .inl (ploadk isI 4 22)), (22, .inr (.inl (34, 3, some 1))), (25, .inl (pstore isI 5 27)), (27, .inl (ploadk isI 5 29)), (29, .inl (pst (g_k (.int (-9))) 31)), (31, .inl (picmp cEq 51 34)), (34, .inl (ploadk isA 0 35)), (35, .inl (ploadk isI 5 37)), (37, .inl (ploadk isA 2 38)), (38, .inl (ploadk isI 6 40)), (40, .inl (ploadk isA 0 41)), (41, .inl (pgetf2 1 5 44)), (44, .inl (pst (g_i2 (· * ·)) 45)), (45, .inr (.inl (50, 4, some 1))), (48, .inl (pif (fun x => cNe x 0) 53 51)), (51, .inl (pst (g_k (.int (0))) 52)), (52, .inr (.inr (some .boolean))), (53, .inl (piinc 6 (1) 56)), (56, .inl (pst g_id 6)), (59, .inl (pst (g_k (.int (1))) 60)), (60, .inr (.inr (some .boolean)))]
def ubX1_isToldAt : pM2 := [(0, .inl (pst (g_k (.int (0))) 1)), (1, .inl (pstore isI 4 3)), (3, .inl (ploadk isI 4 5)), (5, .inl (ploadk isA 0 6)), (6, .inl (pgetf2 1 5 9)), (9, .inl (picmp cGe 50 12)), (12, .inl (ploadk isA 0 13)), (13, .inl (ploadk isI 4 15)), (15, .inr (.inl (23, 2, some 1))), (18, .inl (pif (fun x => cNe x 0) 44 21)), (21, .inl (ploadk isA 0 22)), (22, .inl (ploadk isI 4 24)), (24, .inl (ploadk isI 1 25)), (25, .inl (ploadk isI 4 27)), (27, .inl (pst (g_i2 (· + ·)) 28)), (28, .inr (.inl (29, 3, some 1))), (31, .inl (ploadk isA 2 32)), (32, .inl (ploadk isI 3 33)), (33, .inl (ploadk isI 4 35)), (35, .inl (pst (g_i2 (· + ·)) 36)), (36, .inr (.inl (119, 2, none))), (39, .inl (picmp cEq 44 42)), (42, .inl (pst (g_k (.int (0))) 43)), (43, .inr (.inr (some .boolean))), (44, .inl (piinc 4 (1) 47)), (47, .inl (pst g_id 3)), (50, .inl (pst (g_k (.int (1))) 51)), (51, .inr (.inr (some .boolean)))]
def ubX1_places : pM2 := [(0, .inl (ploadk isA 0 1)), (1, .inl (pgetf2 1 3 4)), (4, .inl (ploadk isA 0 5)), (5, .inl (pgetf2 1 5 8)), (8, .inl (pst (g_i2 (· - ·)) 9)), (9, .inl (pst (g_k (.int (1))) 10)), (10, .inl (pst (g_i2 (· + ·)) 11)), (11, .inl (ploadk isA 0 12)), (12, .inl (pgetf2 1 4 15)), (15, .inl (pst (g_i2 (· * ·)) 16)), (16, .inr (.inr (some .int)))]
def ubX1_placesWhereTold : pM2 := [(0, .inl (pst (g_k (.int (0))) 1)), (1, .inl (pstore isI 3 2)), (2, .inl (pst (g_k (.int (0))) 3)), (3, .inl (pstore isI 4 5)), (5, .inl (ploadk isI 4 7)), (7, .inl (ploadk isA 0 8)), (8, .inr (.inl (15, 1, some 1))), (11, .inl (picmp cGe 45 14)), (14, .inl (ploadk isA 0 15)), (15, .inl (ploadk isI 4 17)), (17, .inr (.inl (33, 2, some 1))), (20, .inl (pif (fun x => cEq x 0) 39 23)), (23, .inl (ploadk isA 0 24)), (24, .inl (ploadk isI 1 25)), (25, .inl (ploadk isI 4 27)), (27, .inl (ploadk isI 1 28)), (28, .inl (pst (g_i2 (· + ·)) 29)), (29, .inr (.inl (29, 3, some 1))), (32, .inl (ploadk isI 2 33)), (33, .inl (picmp cLt 39 36)), (36, .inl (piinc 3 (1) 39)), (39, .inl (piinc 4 (1) 42)), (42, .inl (pst g_id 5)), (45, .inl (ploadk isI 3 46)), (46, .inr (.inr (some .int)))]
def ubX2_firstFault : pM2 := [(0, .inl (ploadk isA 0 1)), (1, .inl (ploadk isI 1 2)), (2, .inl (pst (g_k (.int (0))) 3)), (3, .inr (.inl (56, 3, none))), (6, .inl (pst (g_k (.int (102))) 8)), (8, .inl (picmp cEq 13 11)), (11, .inl (pst (g_k (.int (0))) 12)), (12, .inr (.inr (some .int))), (13, .inl (ploadk isA 0 14)), (14, .inl (ploadk isI 1 15)), (15, .inl (pst (g_k (.int (1))) 16)), (16, .inr (.inl (56, 3, none))), (19, .inr (.inl (58, 1, none))), (22, .inl (pstore isI 2 23)), (23, .inl (ploadk isI 2 24)), (24, .inr (.inl (57, 1, none))), (27, .inl (pif (fun x => cNe x 0) 32 30)), (30, .inl (pst (g_k (.int (1))) 31)), (31, .inr (.inr (some .int))), (32, .inl (ploadk isA 0 33)), (33, .inl (ploadk isI 1 34)), (34, .inl (pst (g_k (.int (2))) 35)), (35, .inr (.inl (56, 3, none))), (38, .inr (.inl (58, 1, none))), (41, .inl (pstore isI 3 42)), (42, .inl (ploadk isI 3 43)), (43, .inr (.inl (57, 1, none))), (46, .inl (pif (fun x => cNe x 0) 51 49)), (49, .inl (pst (g_k (.int (2))) 50)), (50, .inr (.inr (some .int))), (51, .inl (pst (g_k (.int (3))) 52)), (52, .inl (ploadk isI 2 53)), (53, .inl (ploadk isI 3 54)), (54, .inl (pst (g_i2 (· * ·)) 55)), (55, .inl (pst (g_i2 (· + ·)) 56)), (56, .inl (pstore isI 4 58)), (58, .inl (pst (g_k (.int (3))) 59)), (59, .inl (pstore isI 5 61)), (61, .inl (pclr [2, 3] (ploadk isI 5 63))), (63, .inl (ploadk isI 4 65)), (65, .inl (picmp cGe 90 68)), (68, .inl (ploadk isA 0 69)), (69, .inl (ploadk isI 1 70)), (70, .inl (ploadk isI 5 72)), (72, .inr (.inl (56, 3, none))), (75, .inr (.inl (58, 1, none))), (78, .inl (pif (fun x => cGe x 0) 84 81)), (81, .inl (ploadk isI 5 83)), (83, .inr (.inr (some .int))), (84, .inl (piinc 5 (1) 87)), (87, .inl (pst g_id 61)), (90, .inl (ploadk isA 0 91)), (91, .inl (ploadk isI 1 92)), (92, .inl (ploadk isI 4 94)), (94, .inr (.inl (54, 3, none))), (97, .inr (.inr (some .int)))]
def ubX2_faultInLookers : pM2 := [(0, .inl (ploadk isA 0 1)), (1, .inl (pst (g_k (.int (1))) 2)), (2, .inr (.inl (119, 2, none))), (5, .inr (.inl (58, 1, none))), (8, .inl (pst (g_k (.int (4))) 9)), (9, .inl (pst (g_m2 imin) 12)), (12, .inl (pstore isI 3 13)), (13, .inl (pst (g_k (.int (0))) 14)), (14, .inl (pstore isI 4 16)), (16, .inl (pclr [5, 6] (ploadk isI 4 18))), (18, .inl (ploadk isI 3 19)), (19, .inl (picmp cGt 123 22)), (22, .inl (ploadk isI 2 23)), (23, .inl (pst (g_k (.int (3))) 24)), (24, .inl (ploadk isI 4 26)), (26, .inl (pst (g_i2 (· * ·)) 27)), (27, .inl (pst (g_i2 (· + ·)) 28)), (28, .inl (pstore isI 5 30)), (30, .inl (ploadk isA 0 31)), (31, .inl (ploadk isI 1 32)), (32, .inl (ploadk isI 5 34)), (34, .inr (.inl (56, 3, none))), (37, .inl (pstore isI 6 39)), (39, .inl (ploadk isI 6 41)), (41, .inl (pst (g_k (.int (47))) 43)), (43, .inl (picmp cNe 61 46)), (46, .inl (ploadk isI 4 48)), (48, .inl (pif (fun x => cLe x 0) 61 51)), (51, .inl (ploadk isA 0 52)), (52, .inl (ploadk isI 1 53)), (53, .inl (ploadk isI 5 55)), (55, .inl (ploadk isI 4 57)), (57, .inr (.inl (55, 4, none))), (60, .inr (.inr (some .int))), (61, .inl (ploadk isI 6 63)), (63, .inl (pst (g_k (.int (59))) 65)), (65, .inl (picmp cNe 74 68)), (68, .inl (ploadk isI 4 70)), (70, .inl (ploadk isI 3 71)), (71, .inl (picmp cNe 77 74)), (74, .inl (ploadk isI 5 76)), (76, .inr (.inr (some .int))), (77, .inl (ploadk isA 0 78)), (78, .inl (ploadk isI 1 79)), (79, .inl (ploadk isI 5 81)), (81, .inl (pst (g_k (.int (1))) 82)), (82, .inl (pst (g_i2 (· + ·)) 83)), (83, .inr (.inl (56, 3, none))), (86, .inr (.inl (59, 1, none))), (89, .inl (pif (fun x => cGe x 0) 97 92)), (92, .inl (ploadk isI 5 94)), (94, .inl (pst (g_k (.int (1))) 95)), (95, .inl (pst (g_i2 (· + ·)) 96)), (96, .inr (.inr (some .int))), (97, .inl (ploadk isA 0 98)), (98, .inl (ploadk isI 1 99)), (99, .inl (ploadk isI 5 101)), (101, .inl (pst (g_k (.int (2))) 102)), (102, .inl (pst (g_i2 (· + ·)) 103)), (103, .inr (.inl (56, 3, none))), (106, .inr (.inl (58, 1, none))), (109, .inl (pif (fun x => cGe x 0) 117 112)), (112, .inl (ploadk isI 5 114)), (114, .inl (pst (g_k (.int (2))) 115)), (115, .inl (pst (g_i2 (· + ·)) 116)), (116, .inr (.inr (some .int))), (117, .inl (piinc 4 (1) 120)), (120, .inl (pst g_id 16)), (123, .inl (ploadk isI 2 124)), (124, .inr (.inr (some .int)))]
def ubX2_faultInTail : pM2 := [(0, .inl (ploadk isA 0 1)), (1, .inl (ploadk isI 1 2)), (2, .inl (ploadk isI 2 3)), (3, .inl (pst (g_k (.int (1))) 4)), (4, .inl (pst (g_i2 (· + ·)) 5)), (5, .inr (.inl (56, 3, none))), (8, .inr (.inl (58, 1, none))), (11, .inl (pstore isI 4 13)), (13, .inl (ploadk isI 4 15)), (15, .inl (pif (fun x => cLt x 0) 33 18)), (18, .inl (ploadk isI 4 20)), (20, .inl (ploadk isI 3 21)), (21, .inl (pst (g_i2 (· + ·)) 22)), (22, .inl (ploadk isA 0 23)), (23, .inl (pst (g_k (.int (1))) 24)), (24, .inr (.inl (119, 2, none))), (27, .inr (.inl (58, 1, none))), (30, .inl (picmp cLe 37 33)), (33, .inl (ploadk isI 2 34)), (34, .inl (pst (g_k (.int (1))) 35)), (35, .inl (pst (g_i2 (· + ·)) 36)), (36, .inr (.inr (some .int))), (37, .inl (ploadk isA 0 38)), (38, .inl (ploadk isI 1 39)), (39, .inl (ploadk isI 2 40)), (40, .inl (pst (g_k (.int (2))) 41)), (41, .inl (pst (g_i2 (· + ·)) 42)), (42, .inr (.inl (56, 3, none))), (45, .inr (.inl (58, 1, none))), (48, .inl (pstore isI 5 50)), (50, .inl (ploadk isI 5 52)), (52, .inl (pif (fun x => cLt x 0) 68 55)), (55, .inl (ploadk isI 5 57)), (57, .inl (ploadk isA 0 58)), (58, .inl (pst (g_k (.int (2))) 59)), (59, .inr (.inl (119, 2, none))), (62, .inr (.inl (58, 1, none))), (65, .inl (picmp cLt 72 68)), (68, .inl (ploadk isI 2 69)), (69, .inl (pst (g_k (.int (2))) 70)), (70, .inl (pst (g_i2 (· + ·)) 71)), (71, .inr (.inr (some .int))), (72, .inl (ploadk isI 2 73)), (73, .inl (pst (g_k (.int (3))) 74)), (74, .inl (pst (g_i2 (· + ·)) 75)), (75, .inl (ploadk isI 1 76)), (76, .inl (picmp cNe 83 79)), (79, .inl (pst (g_k (.int (-1))) 80)), (80, .inl (pst g_id 86)), (83, .inl (ploadk isI 2 84)), (84, .inl (pst (g_k (.int (3))) 85)), (85, .inl (pst (g_i2 (· + ·)) 86)), (86, .inr (.inr (some .int)))]
def ubX2_codeAt : pM2 := [(0, .inl (ploadk isI 2 1)), (1, .inl (ploadk isI 1 2)), (2, .inl (picmp cGe 13 5)), (5, .inl (ploadk isA 0 6)), (6, .inl (ploadk isI 2 7)), (7, .inr (.inl (119, 2, none))), (10, .inl (pst g_id 14)), (13, .inl (pst (g_k (.int (-1))) 14)), (14, .inr (.inr (some .int)))]
def ubX2_isEdge : pM2 := [(0, .inl (ploadk isI 0 1)), (1, .inl (pst (g_k (.int (2))) 2)), (2, .inl (pst (g_k (.int (6))) 4)), (4, .inr (.inl (114, 3, none))), (7, .inr (.inr (some .boolean)))]
def ubX2_digitOf : pM2 := [(0, .inl (ploadk isI 0 1)), (1, .inl (pst (g_k (.int (48))) 3)), (3, .inl (pst (g_k (.int (57))) 5)), (5, .inr (.inl (114, 3, none))), (8, .inl (pif (fun x => cEq x 0) 18 11)), (11, .inl (ploadk isI 0 12)), (12, .inl (pst (g_k (.int (48))) 14)), (14, .inl (pst (g_i2 (· - ·)) 15)), (15, .inl (pst g_id 19)), (18, .inl (pst (g_k (.int (-1))) 19)), (19, .inr (.inr (some .int)))]
def ubX2_kindOf : pM2 := [(0, .inl (ploadk isI 0 1)), (1, .inl (psw [(100, 38), (103, 40), (112, 36)] 42)), (36, .inl (pst (g_k (.int (0))) 37)), (37, .inr (.inr (some .int))), (38, .inl (pst (g_k (.int (1))) 39)), (39, .inr (.inr (some .int))), (40, .inl (pst (g_k (.int (2))) 41)), (41, .inr (.inr (some .int))), (42, .inl (pst (g_k (.int (-1))) 43)), (43, .inr (.inr (some .int)))]
def ubX3_hasNothing : pM2 := [(0, .inl (ploadk isA 0 1)), (1, .inl (pgetf2 2 1 4)), (4, .inl (pst (g_k (.int (-1))) 5)), (5, .inl (picmp cNe 12 8)), (8, .inl (pst (g_k (.int (1))) 9)), (9, .inl (pst g_id 13)), (12, .inl (pst (g_k (.int (0))) 13)), (13, .inr (.inr (some .boolean)))]
def ubX3_lane : pM2 := [(0, .inl (ploadk isA 0 1)), (1, .inl (pgetf2 2 2 4)), (4, .inr (.inr (some .int)))]
def ubX3_hasCells : pM2 := [(0, .inl (ploadk isI 1 1)), (1, .inl (pif (fun x => cLt x 0) 22 4)), (4, .inl (ploadk isI 2 5)), (5, .inl (pif (fun x => cLt x 0) 22 8)), (8, .inl (ploadk isI 1 9)), (9, .inl (ploadk isA 0 10)), (10, .inl (pgetf2 2 1 13)), (13, .inl (ploadk isI 2 14)), (14, .inl (pst (g_i2 (· - ·)) 15)), (15, .inl (picmp cGt 22 18)), (18, .inl (pst (g_k (.int (1))) 19)), (19, .inl (pst g_id 23)), (22, .inl (pst (g_k (.int (0))) 23)), (23, .inr (.inr (some .boolean)))]
def ubX3_faultInTaking : pM2 := [(0, .inl (ploadk isA 0 1)), (1, .inr (.inl (61, 1, some 2))), (4, .inl (pif (fun x => cEq x 0) 9 7)), (7, .inl (pst (g_k (.int (1))) 8)), (8, .inr (.inr (some .int))), (9, .inl (ploadk isI 1 10)), (10, .inl (ploadk isA 0 11)), (11, .inl (pgetf2 2 2 14)), (14, .inl (picmp cEq 19 17)), (17, .inl (pst (g_k (.int (2))) 18)), (18, .inr (.inr (some .int))), (19, .inl (ploadk isI 3 20)), (20, .inl (pif (fun x => cGe x 0) 25 23)), (23, .inl (pst (g_k (.int (4))) 24)), (24, .inr (.inr (some .int))), (25, .inl (ploadk isA 0 26)), (26, .inl (ploadk isI 2 27)), (27, .inl (ploadk isI 3 28)), (28, .inr (.inl (63, 3, some 2))), (31, .inl (pif (fun x => cEq x 0) 38 34)), (34, .inl (pst (g_k (.int (0))) 35)), (35, .inl (pst g_id 39)), (38, .inl (pst (g_k (.int (3))) 39)), (39, .inr (.inr (some .int)))]
def ubX3_renew : pM2 := [(0, .inl (ploadk isA 0 1)), (1, .inl (ploadk isI 1 2)), (2, .inl (pputf2 2 2 (.int) 5)), (5, .inl (ploadk isA 0 6)), (6, .inl (ploadk isI 2 7)), (7, .inl (pputf2 2 1 (.int) 10)), (10, .inl (ploadk isA 0 11)), (11, .inl (pgetf2 2 0 14)), (14, .inl (pst (g_k (.int (0))) 15)), (15, .inr (.inl (196, 2, none))), (18, .inr (.inr none))]
def ubX3_clear : pM2 := [(0, .inl (ploadk isA 0 1)), (1, .inl (pst (g_k (.int (-1))) 2)), (2, .inl (pputf2 2 1 (.int) 5)), (5, .inr (.inr none))]
def ubX3_read : pM2 := [(0, .inl (ploadk isA 0 1)), (1, .inl (pgetf2 2 0 4)), (4, .inl (ploadk isI 1 5)), (5, .inr (.inl (119, 2, none))), (8, .inr (.inr (some .int)))]
def ubX3_write : pM2 := [(0, .inl (ploadk isA 0 1)), (1, .inl (pgetf2 2 0 4)), (4, .inl (ploadk isI 1 5)), (5, .inl (ploadk isA 0 6)), (6, .inl (ploadk isI 2 7)), (7, .inr (.inl (69, 2, some 2))), (10, .inr (.inl (120, 3, none))), (13, .inr (.inr none))]
def ubX3_cutToLane : pM2 := [(0, .inl (ploadk isA 0 1)), (1, .inl (pgetf2 2 2 4)), (4, .inl (pif (fun x => cNe x 0) 10 7)), (7, .inl (ploadk isI 1 8)), (8, .inl (pst (g_i1 i2b) 9)), (9, .inr (.inr (some .int))), (10, .inl (ploadk isA 0 11)), (11, .inl (pgetf2 2 2 14)), (14, .inl (pst (g_k (.int (1))) 15)), (15, .inl (picmp cNe 23 18)), (18, .inl (ploadk isI 1 19)), (19, .inl (pst (g_i1 i2s) 20)), (20, .inl (pst g_id 24)), (23, .inl (ploadk isI 1 24)), (24, .inr (.inr (some .int)))]
def ubX4_sea : pM2 := [(0, .inl (ploadk isA 0 1)), (1, .inl (pst (g_k (.int (0))) 2)), (2, .inl (pputf2 3 5 (.int) 5)), (5, .inl (ploadk isA 0 6)), (6, .inl (ploadk isI 1 7)), (7, .inr (.inl (102, 2, some 3))), (10, .inl (pstore isA 5 12)), (12, .inl (ploadk isA 5 14)), (14, .inl (pnull 17 19)), (17, .inl (pst (g_k (.int (-1))) 18)), (18, .inr (.inr (some .int))), (19, .inl (ploadk isI 2 20)), (20, .inr (.inl (115, 1, none))), (23, .inl (pif (fun x => cNe x 0) 29 26)), (26, .inl (pst (g_k (.int (-2))) 28)), (28, .inr (.inr (some .int))), (29, .inl (ploadk isA 0 30)), (30, .inl (ploadk isA 5 32)), (32, .inl (ploadk isI 2 33)), (33, .inl (ploadk isI 3 34)), (34, .inl (ploadk isI 4 36)), (36, .inr (.inl (104, 5, some 3))), (39, .inl (pstore isI 6 41)), (41, .inl (ploadk isI 6 43)), (43, .inl (pif (fun x => cEq x 0) 53 46)), (46, .inl (ploadk isA 0 47)), (47, .inl (ploadk isI 6 49)), (49, .inr (.inl (103, 2, some 3))), (52, .inr (.inr (some .int))), (53, .inl (ploadk isA 0 54)), (54, .inl (pgetf2 3 3 57)), (57, .inl (ploadk isI 4 59)), (59, .inr (.inl (53, 2, none))), (62, .inl (pstore isI 7 64)), (64, .inl (ploadk isI 7 66)), (66, .inl (pst (g_k (.int (-1))) 67)), (67, .inl (picmp cEq 76 70)), (70, .inl (pst (g_k (.int (-100))) 72)), (72, .inl (ploadk isI 7 74)), (74, .inl (pst (g_i2 (· - ·)) 75)), (75, .inr (.inr (some .int))), (76, .inl (ploadk isA 0 77)), (77, .inl (pgetf2 3 1 80)), (80, .inl (ploadk isA 0 81)), (81, .inl (pgetf2 3 3 84)), (84, .inl (ploadk isI 4 86)), (86, .inr (.inl (7, 3, some 1))), (89, .inl (ploadk isA 0 90)), (90, .inl (pgetf2 3 2 93)), (93, .inl (pst (g_k (.int (0))) 94)), (94, .inr (.inl (4, 2, some 0))), (97, .inl (ploadk isA 0 98)), (98, .inl (pgetf2 3 1 101)), (101, .inr (.inl (11, 1, some 1))), (104, .inr (.inr (some .int)))]
def ubX4_ofLooker : pM2 := [(0, .inl (ploadk isA 0 1)), (1, .inl (pgetf2 3 1 4)), (4, .inl (ploadk isI 1 5)), (5, .inr (.inl (17, 2, some 1))), (8, .inl (pif (fun x => cNe x 0) 13 11)), (11, .inl (pst (g_k (.int (-1))) 12)), (12, .inr (.inr (some .int))), (13, .inl (ploadk isI 2 14)), (14, .inl (psw [(0, 48), (1, 57), (2, 66), (3, 83), (4, 93)] 111)), (48, .inl (ploadk isA 0 49)), (49, .inl (pgetf2 3 1 52)), (52, .inl (ploadk isI 1 53)), (53, .inr (.inl (20, 2, some 1))), (56, .inr (.inr (some .int))), (57, .inl (ploadk isA 0 58)), (58, .inl (pgetf2 3 1 61)), (61, .inl (ploadk isI 1 62)), (62, .inr (.inl (21, 2, some 1))), (65, .inr (.inr (some .int))), (66, .inl (ploadk isA 0 67)), (67, .inl (pgetf2 3 1 70)), (70, .inl (ploadk isI 1 71)), (71, .inr (.inl (23, 2, some 1))), (74, .inl (pif (fun x => cEq x 0) 81 77)), (77, .inl (pst (g_k (.int (1))) 78)), (78, .inl (pst g_id 82)), (81, .inl (pst (g_k (.int (0))) 82)), (82, .inr (.inr (some .int))), (83, .inl (ploadk isA 0 84)), (84, .inl (pgetf2 3 1 87)), (87, .inr (.inl (12, 1, some 1))), (90, .inl (ploadk isI 1 91)), (91, .inl (pst (g_i2 (· + ·)) 92)), (92, .inr (.inr (some .int))), (93, .inl (ploadk isA 0 94)), (94, .inl (pgetf2 3 1 97)), (97, .inl (ploadk isI 1 98)), (98, .inl (ploadk isA 0 99)), (99, .inl (pgetf2 3 1 102)), (102, .inr (.inl (12, 1, some 1))), (105, .inl (ploadk isI 1 106)), (106, .inl (pst (g_i2 (· + ·)) 107)), (107, .inr (.inl (29, 3, some 1))), (110, .inr (.inr (some .int))), (111, .inl (pst (g_k (.int (-2))) 113)), (113, .inr (.inr (some .int)))]
def ubX4_height : pM2 := [(0, .inl (ploadk isA 0 1)), (1, .inl (pgetf2 3 1 4)), (4, .inl (ploadk isI 1 5)), (5, .inr (.inl (16, 2, some 1))), (8, .inl (pif (fun x => cEq x 0) 22 11)), (11, .inl (ploadk isA 0 12)), (12, .inl (pgetf2 3 1 15)), (15, .inl (ploadk isI 1 16)), (16, .inr (.inl (18, 2, some 1))), (19, .inl (pst g_id 23)), (22, .inl (pst (g_k (.int (-1))) 23)), (23, .inr (.inr (some .int)))]
def ubX4_heap : pM2 := [(0, .inl (ploadk isA 0 1)), (1, .inl (pgetf2 3 1 4)), (4, .inl (ploadk isI 1 5)), (5, .inr (.inl (16, 2, some 1))), (8, .inl (pif (fun x => cNe x 0) 13 11)), (11, .inl (pst (g_k (.int (-1))) 12)), (12, .inr (.inr (some .int))), (13, .inl (ploadk isI 2 14)), (14, .inr (.inl (117, 1, none))), (17, .inl (pif (fun x => cNe x 0) 23 20)), (20, .inl (pst (g_k (.int (-2))) 22)), (22, .inr (.inr (some .int))), (23, .inl (ploadk isA 0 24)), (24, .inl (pgetf2 3 1 27)), (27, .inl (ploadk isI 1 28)), (28, .inr (.inl (18, 2, some 1))), (31, .inl (pstore isI 3 32)), (32, .inl (ploadk isA 0 33)), (33, .inl (pgetf2 3 1 36)), (36, .inl (ploadk isI 1 37)), (37, .inl (ploadk isI 2 38)), (38, .inr (.inl (19, 3, some 1))), (41, .inl (ploadk isI 3 42)), (42, .inr (.inr (some .int)))]
def ubX4_dim : pM2 := [(0, .inl (ploadk isA 0 1)), (1, .inl (pgetf2 3 1 4)), (4, .inl (ploadk isI 1 5)), (5, .inr (.inl (17, 2, some 1))), (8, .inl (pif (fun x => cNe x 0) 13 11)), (11, .inl (pst (g_k (.int (-1))) 12)), (12, .inr (.inr (some .int))), (13, .inl (ploadk isI 2 14)), (14, .inr (.inl (117, 1, none))), (17, .inl (pif (fun x => cNe x 0) 23 20)), (20, .inl (pst (g_k (.int (-2))) 22)), (22, .inr (.inr (some .int))), (23, .inl (ploadk isA 0 24)), (24, .inl (pgetf2 3 1 27)), (27, .inl (ploadk isI 1 28)), (28, .inr (.inl (21, 2, some 1))), (31, .inl (pstore isI 3 32)), (32, .inl (ploadk isA 0 33)), (33, .inl (pgetf2 3 1 36)), (36, .inl (ploadk isI 1 37)), (37, .inl (ploadk isI 2 38)), (38, .inr (.inl (22, 3, some 1))), (41, .inl (ploadk isI 3 42)), (42, .inr (.inr (some .int)))]
def ubX4_scrape : pM2 := [(0, .inl (ploadk isA 0 1)), (1, .inl (pgetf2 3 1 4)), (4, .inl (ploadk isI 1 5)), (5, .inr (.inl (17, 2, some 1))), (8, .inl (pif (fun x => cNe x 0) 13 11)), (11, .inl (pst (g_k (.int (-1))) 12)), (12, .inr (.inr (some .int))), (13, .inl (ploadk isA 0 14)), (14, .inl (pgetf2 3 1 17)), (17, .inl (ploadk isI 1 18)), (18, .inr (.inl (23, 2, some 1))), (21, .inl (pif (fun x => cEq x 0) 27 24)), (24, .inl (pst (g_k (.int (-3))) 26)), (26, .inr (.inr (some .int))), (27, .inl (ploadk isA 0 28)), (28, .inl (pgetf2 3 1 31)), (31, .inl (ploadk isI 1 32)), (32, .inr (.inl (25, 2, some 1))), (35, .inl (ploadk isA 0 36)), (36, .inl (pgetf2 3 1 39)), (39, .inr (.inl (24, 1, some 1))), (42, .inr (.inr (some .int)))]
def ubX4_grow : pM2 := [(0, .inl (ploadk isA 0 1)), (1, .inl (pgetf2 3 1 4)), (4, .inl (ploadk isI 1 5)), (5, .inr (.inl (17, 2, some 1))), (8, .inl (pif (fun x => cNe x 0) 13 11)), (11, .inl (pst (g_k (.int (-1))) 12)), (12, .inr (.inr (some .int))), (13, .inl (ploadk isA 0 14)), (14, .inl (pgetf2 3 1 17)), (17, .inl (ploadk isI 1 18)), (18, .inr (.inl (23, 2, some 1))), (21, .inl (pif (fun x => cNe x 0) 27 24)), (24, .inl (pst (g_k (.int (-3))) 26)), (26, .inr (.inr (some .int))), (27, .inl (ploadk isA 0 28)), (28, .inl (pgetf2 3 1 31)), (31, .inl (ploadk isI 1 32)), (32, .inr (.inl (26, 2, some 1))), (35, .inl (ploadk isA 0 36)), (36, .inl (pgetf2 3 1 39)), (39, .inr (.inl (24, 1, some 1))), (42, .inr (.inr (some .int)))]
def ubX4_seen : pM2 := [(0, .inl (ploadk isA 0 1)), (1, .inl (pgetf2 3 1 4)), (4, .inr (.inl (8, 1, some 1))), (7, .inl (pif (fun x => cEq x 0) 20 10)), (10, .inl (ploadk isA 0 11)), (11, .inl (pgetf2 3 1 14)), (14, .inr (.inl (13, 1, some 1))), (17, .inl (pst g_id 23)), (20, .inl (pst (g_k (.long (-9223372036854775808))) 23)), (23, .inr (.inr (some .long)))]
def ubX4_step : pM2 := [(0, .inl (ploadk isI 1 1)), (1, .inr (.inl (116, 1, none))), (4, .inl (pif (fun x => cNe x 0) 10 7)), (7, .inl (pst (g_k (.int (-2))) 9)), (9, .inr (.inr (some .int))), (10, .inl (ploadk isA 0 11)), (11, .inl (pgetf2 3 1 14)), (14, .inr (.inl (8, 1, some 1))), (17, .inl (pif (fun x => cNe x 0) 23 20)), (20, .inl (pst (g_k (.int (-3))) 22)), (22, .inr (.inr (some .int))), (23, .inl (ploadk isA 0 24)), (24, .inl (pgetf2 3 1 27)), (27, .inl (ploadk isA 0 28)), (28, .inl (pgetf2 3 1 31)), (31, .inr (.inl (12, 1, some 1))), (34, .inl (ploadk isI 1 35)), (35, .inr (.inl (34, 3, some 1))), (38, .inl (pstore isI 2 39)), (39, .inl (ploadk isI 2 40)), (40, .inl (pst (g_k (.int (-9))) 42)), (42, .inl (picmp cNe 48 45)), (45, .inl (pst (g_k (.int (-3))) 47)), (47, .inr (.inr (some .int))), (48, .inl (ploadk isA 0 49)), (49, .inl (pgetf2 3 1 52)), (52, .inr (.inl (13, 1, some 1))), (55, .inr (.inl (195, 1, none))), (58, .inl (pstore isI 3 59)), (59, .inl (ploadk isA 0 60)), (60, .inl (pgetf2 3 1 63)), (63, .inl (ploadk isI 2 64)), (64, .inr (.inl (27, 2, some 1))), (67, .inl (ploadk isA 0 68)), (68, .inl (pgetf2 3 1 71)), (71, .inr (.inl (13, 1, some 1))), (74, .inr (.inl (195, 1, none))), (77, .inl (ploadk isI 3 78)), (78, .inl (pst (g_i2 (· - ·)) 79)), (79, .inr (.inr (some .int)))]
def ubX4_voyage : pM2 := [(0, .inl (ploadk isA 0 1)), (1, .inl (pst (g_k (.int (0))) 2)), (2, .inl (pputf2 3 5 (.int) 5)), (5, .inl (ploadk isA 0 6)), (6, .inl (ploadk isI 1 7)), (7, .inr (.inl (102, 2, some 3))), (10, .inl (pstore isA 6 12)), (12, .inl (ploadk isA 6 14)), (14, .inl (pnull 17 19)), (17, .inl (pst (g_k (.int (-1))) 18)), (18, .inr (.inr (some .int))), (19, .inl (ploadk isI 2 20)), (20, .inr (.inl (115, 1, none))), (23, .inl (pif (fun x => cEq x 0) 47 26)), (26, .inl (ploadk isI 4 28)), (28, .inl (pst (g_k (.int (0))) 29)), (29, .inl (pst (g_k (.int (40))) 31)), (31, .inr (.inl (114, 3, none))), (34, .inl (pif (fun x => cEq x 0) 47 37)), (37, .inl (ploadk isI 5 39)), (39, .inl (pst (g_k (.int (0))) 40)), (40, .inl (pst (g_k (.int (4))) 41)), (41, .inr (.inl (114, 3, none))), (44, .inl (pif (fun x => cNe x 0) 50 47)), (47, .inl (pst (g_k (.int (-2))) 49)), (49, .inr (.inr (some .int))), (50, .inl (ploadk isA 0 51)), (51, .inl (pgetf2 3 1 54)), (54, .inr (.inl (8, 1, some 1))), (57, .inl (pif (fun x => cNe x 0) 63 60)), (60, .inl (pst (g_k (.int (-3))) 62)), (62, .inr (.inr (some .int))), (63, .inl (ploadk isA 0 64)), (64, .inl (ploadk isA 6 66)), (66, .inl (ploadk isI 2 67)), (67, .inl (ploadk isI 3 68)), (68, .inl (ploadk isI 4 70)), (70, .inr (.inl (104, 5, some 3))), (73, .inl (pstore isI 7 75)), (75, .inl (ploadk isI 7 77)), (77, .inl (pif (fun x => cEq x 0) 87 80)), (80, .inl (ploadk isA 0 81)), (81, .inl (ploadk isI 7 83)), (83, .inr (.inl (103, 2, some 3))), (86, .inr (.inr (some .int))), (87, .inl (pst (g_k (.int (0))) 88)), (88, .inl (pstore isI 8 90)), (90, .inl (pclr [1, 2, 3, 6, 7] (ploadk isI 8 92))), (92, .inl (ploadk isI 4 94)), (94, .inl (picmp cGe 121 97)), (97, .inl (ploadk isA 0 98)), (98, .inl (pgetf2 3 3 101)), (101, .inl (ploadk isI 8 103)), (103, .inr (.inl (119, 2, none))), (106, .inr (.inl (116, 1, none))), (109, .inl (pif (fun x => cNe x 0) 115 112)), (112, .inl (pst (g_k (.int (-2))) 114)), (114, .inr (.inr (some .int))), (115, .inl (piinc 8 (1) 118)), (118, .inl (pst g_id 90)), (121, .inl (ploadk isA 0 122)), (122, .inl (pgetf2 3 1 125)), (125, .inl (ploadk isA 0 126)), (126, .inl (pgetf2 3 3 129)), (129, .inl (ploadk isI 4 131)), (131, .inl (ploadk isI 5 133)), (133, .inr (.inl (35, 4, some 1))), (136, .inr (.inr (some .int)))]
def ubX4_way : pM2 := [(0, .inl (ploadk isA 0 1)), (1, .inl (pgetf2 3 1 4)), (4, .inl (ploadk isI 1 5)), (5, .inr (.inl (16, 2, some 1))), (8, .inl (pif (fun x => cNe x 0) 13 11)), (11, .inl (pst (g_k (.int (-1))) 12)), (12, .inr (.inr (some .int))), (13, .inl (ploadk isI 2 14)), (14, .inl (pst (g_k (.int (-1))) 15)), (15, .inl (pst (g_k (.int (9))) 17)), (17, .inr (.inl (114, 3, none))), (20, .inl (pif (fun x => cNe x 0) 26 23)), (23, .inl (pst (g_k (.int (-2))) 25)), (25, .inr (.inr (some .int))), (26, .inl (ploadk isA 0 27)), (27, .inl (pgetf2 3 1 30)), (30, .inl (ploadk isI 1 31)), (31, .inl (ploadk isI 2 32)), (32, .inr (.inl (38, 3, some 1))), (35, .inr (.inr (some .int)))]
def ubX4_most : pM2 := [(0, .inl (ploadk isI 1 1)), (1, .inl (pst (g_k (.int (1))) 2)), (2, .inl (pst (g_k (.int (5))) 3)), (3, .inr (.inl (114, 3, none))), (6, .inl (pif (fun x => cEq x 0) 18 9)), (9, .inl (ploadk isI 2 10)), (10, .inl (pst (g_k (.int (-1))) 11)), (11, .inl (pst (g_k (.int (4))) 12)), (12, .inr (.inl (114, 3, none))), (15, .inl (pif (fun x => cNe x 0) 21 18)), (18, .inl (pst (g_k (.int (-2))) 20)), (20, .inr (.inr (some .int))), (21, .inl (ploadk isA 0 22)), (22, .inl (pgetf2 3 1 25)), (25, .inr (.inl (8, 1, some 1))), (28, .inl (pif (fun x => cNe x 0) 34 31)), (31, .inl (pst (g_k (.int (-3))) 33)), (33, .inr (.inr (some .int))), (34, .inl (ploadk isA 0 35)), (35, .inl (pgetf2 3 1 38)), (38, .inl (ploadk isI 1 39)), (39, .inl (ploadk isI 2 40)), (40, .inr (.inl (40, 3, some 1))), (43, .inr (.inr (some .int)))]
def ubX4_flat : pM2 := [(0, .inl (ploadk isA 0 1)), (1, .inl (pgetf2 3 1 4)), (4, .inl (ploadk isI 1 5)), (5, .inr (.inl (16, 2, some 1))), (8, .inl (pif (fun x => cEq x 0) 25 11)), (11, .inl (ploadk isA 0 12)), (12, .inl (pgetf2 3 1 15)), (15, .inl (ploadk isI 1 16)), (16, .inr (.inl (44, 2, some 1))), (19, .inr (.inl (195, 1, none))), (22, .inl (pst g_id 26)), (25, .inl (pst (g_k (.int (-1))) 26)), (26, .inr (.inr (some .int)))]
def ubX4_begun : pM2 := [(0, .inl (ploadk isA 0 1)), (1, .inl (pst (g_k (.int (0))) 2)), (2, .inl (pputf2 3 5 (.int) 5)), (5, .inl (ploadk isA 0 6)), (6, .inl (ploadk isI 1 7)), (7, .inr (.inl (102, 2, some 3))), (10, .inl (pstore isA 7 12)), (12, .inl (ploadk isA 7 14)), (14, .inl (pnull 17 19)), (17, .inl (pst (g_k (.int (-1))) 18)), (18, .inr (.inr (some .int))), (19, .inl (ploadk isI 2 20)), (20, .inr (.inl (115, 1, none))), (23, .inl (pif (fun x => cEq x 0) 55 26)), (26, .inl (ploadk isI 4 28)), (28, .inl (pst (g_k (.int (1))) 29)), (29, .inl (pst (g_k (.int (6))) 31)), (31, .inr (.inl (114, 3, none))), (34, .inl (pif (fun x => cEq x 0) 55 37)), (37, .inl (ploadk isI 5 39)), (39, .inr (.inl (116, 1, none))), (42, .inl (pif (fun x => cEq x 0) 55 45)), (45, .inl (ploadk isI 6 47)), (47, .inl (pst (g_k (.int (0))) 48)), (48, .inl (pst (g_k (.int (2))) 49)), (49, .inr (.inl (114, 3, none))), (52, .inl (pif (fun x => cNe x 0) 58 55)), (55, .inl (pst (g_k (.int (-2))) 57)), (57, .inr (.inr (some .int))), (58, .inl (ploadk isA 0 59)), (59, .inl (pgetf2 3 1 62)), (62, .inr (.inl (8, 1, some 1))), (65, .inl (pif (fun x => cNe x 0) 71 68)), (68, .inl (pst (g_k (.int (-3))) 70)), (70, .inr (.inr (some .int))), (71, .inl (ploadk isA 0 72)), (72, .inl (ploadk isA 7 74)), (74, .inl (ploadk isI 2 75)), (75, .inl (ploadk isI 3 76)), (76, .inl (ploadk isI 4 78)), (78, .inl (ploadk isA 0 79)), (79, .inl (pgetf2 3 1 82)), (82, .inr (.inl (11, 1, some 1))), (85, .inl (pst (g_i2 (· * ·)) 86)), (86, .inr (.inl (104, 5, some 3))), (89, .inl (pstore isI 8 91)), (91, .inl (ploadk isI 8 93)), (93, .inl (pif (fun x => cEq x 0) 103 96)), (96, .inl (ploadk isA 0 97)), (97, .inl (ploadk isI 8 99)), (99, .inr (.inl (103, 2, some 3))), (102, .inr (.inr (some .int))), (103, .inl (ploadk isA 0 104)), (104, .inl (pgetf2 3 1 107)), (107, .inl (ploadk isA 0 108)), (108, .inl (pgetf2 3 3 111)), (111, .inl (ploadk isI 4 113)), (113, .inl (ploadk isI 5 115)), (115, .inl (ploadk isI 6 117)), (117, .inr (.inl (48, 5, some 1))), (120, .inr (.inr (some .int)))]
def ubX4_run : pM2 := [(0, .inl (ploadk isA 0 1)), (1, .inl (pst (g_k (.int (0))) 2)), (2, .inl (pputf2 3 5 (.int) 5)), (5, .inl (ploadk isA 0 6)), (6, .inl (ploadk isI 1 7)), (7, .inr (.inl (102, 2, some 3))), (10, .inl (pstore isA 6 12)), (12, .inl (ploadk isA 6 14)), (14, .inl (pnull 17 19)), (17, .inl (pst (g_k (.int (-1))) 18)), (18, .inr (.inr (some .int))), (19, .inl (ploadk isI 2 20)), (20, .inr (.inl (115, 1, none))), (23, .inl (pif (fun x => cEq x 0) 47 26)), (26, .inl (ploadk isI 4 28)), (28, .inl (pst (g_k (.int (1))) 29)), (29, .inl (pst (g_k (.int (40))) 31)), (31, .inr (.inl (114, 3, none))), (34, .inl (pif (fun x => cEq x 0) 47 37)), (37, .inl (ploadk isI 5 39)), (39, .inl (pst (g_k (.int (0))) 40)), (40, .inl (pst (g_k (.int (1))) 41)), (41, .inr (.inl (114, 3, none))), (44, .inl (pif (fun x => cNe x 0) 50 47)), (47, .inl (pst (g_k (.int (-2))) 49)), (49, .inr (.inr (some .int))), (50, .inl (ploadk isA 0 51)), (51, .inl (ploadk isA 6 53)), (53, .inl (ploadk isI 2 54)), (54, .inl (ploadk isI 3 55)), (55, .inl (ploadk isI 4 57)), (57, .inr (.inl (104, 5, some 3))), (60, .inl (pstore isI 7 62)), (62, .inl (ploadk isI 7 64)), (64, .inl (pif (fun x => cEq x 0) 74 67)), (67, .inl (ploadk isA 0 68)), (68, .inl (ploadk isI 7 70)), (70, .inr (.inl (103, 2, some 3))), (73, .inr (.inr (some .int))), (74, .inl (ploadk isA 0 75)), (75, .inl (ploadk isI 4 77)), (77, .inr (.inl (106, 2, some 3))), (80, .inl (pstore isI 8 82)), (82, .inl (ploadk isI 5 84)), (84, .inl (pif (fun x => cNe x 0) 92 87)), (87, .inl (ploadk isI 8 89)), (89, .inl (pst g_id 104)), (92, .inl (ploadk isA 0 93)), (93, .inl (pgetf2 3 3 96)), (96, .inl (ploadk isI 4 98)), (98, .inl (ploadk isI 8 100)), (100, .inl (pst (g_i2 (· - ·)) 101)), (101, .inr (.inl (119, 2, none))), (104, .inr (.inr (some .int)))]
def ubX4_reading : pM2 := [(0, .inl (ploadk isA 0 1)), (1, .inl (pgetf2 3 1 4)), (4, .inl (ploadk isI 1 5)), (5, .inr (.inl (17, 2, some 1))), (8, .inl (pif (fun x => cNe x 0) 13 11)), (11, .inl (pst (g_k (.int (-1))) 12)), (12, .inr (.inr (some .int))), (13, .inl (ploadk isI 2 14)), (14, .inr (.inl (117, 1, none))), (17, .inl (pif (fun x => cEq x 0) 30 20)), (20, .inl (ploadk isI 3 21)), (21, .inl (pst (g_k (.int (0))) 22)), (22, .inl (pst (g_k (.int (20))) 24)), (24, .inr (.inl (114, 3, none))), (27, .inl (pif (fun x => cNe x 0) 33 30)), (30, .inl (pst (g_k (.int (-2))) 32)), (32, .inr (.inr (some .int))), (33, .inl (ploadk isA 0 34)), (34, .inl (pgetf2 3 2 37)), (37, .inr (.inl (2, 1, some 0))), (40, .inl (pif (fun x => cEq x 0) 46 43)), (43, .inl (pst (g_k (.int (-4))) 45)), (45, .inr (.inr (some .int))), (46, .inl (ploadk isA 0 47)), (47, .inl (pgetf2 3 2 50)), (50, .inl (ploadk isI 1 51)), (51, .inl (ploadk isI 2 52)), (52, .inl (ploadk isI 3 53)), (53, .inr (.inl (3, 4, some 0))), (56, .inr (.inr (some .int)))]
def ubX4_back : pM2 := [(0, .inl (ploadk isI 1 1)), (1, .inl (pst (g_k (.int (0))) 2)), (2, .inl (ploadk isA 0 3)), (3, .inl (pgetf2 3 2 6)), (6, .inr (.inl (1, 1, some 0))), (9, .inr (.inl (114, 3, none))), (12, .inl (pif (fun x => cNe x 0) 18 15)), (15, .inl (pst (g_k (.int (-2))) 17)), (17, .inr (.inr (some .int))), (18, .inl (ploadk isA 0 19)), (19, .inl (pgetf2 3 2 22)), (22, .inl (ploadk isA 0 23)), (23, .inl (pgetf2 3 2 26)), (26, .inr (.inl (1, 1, some 0))), (29, .inl (ploadk isI 1 30)), (30, .inl (pst (g_i2 (· - ·)) 31)), (31, .inr (.inl (4, 2, some 0))), (34, .inl (ploadk isA 0 35)), (35, .inl (pgetf2 3 2 38)), (38, .inr (.inl (1, 1, some 0))), (41, .inr (.inr (some .int)))]
def ubX4_shorts : pM2 := [(0, .inl (ploadk isA 0 1)), (1, .inl (pgetf2 3 1 4)), (4, .inl (ploadk isI 1 5)), (5, .inr (.inl (17, 2, some 1))), (8, .inl (pif (fun x => cNe x 0) 13 11)), (11, .inl (pst (g_k (.int (-1))) 12)), (12, .inr (.inr (some .int))), (13, .inl (pst (g_k (.int (0))) 14)), (14, .inl (pstore isI 2 15)), (15, .inl (pst (g_k (.int (0))) 16)), (16, .inl (pstore isI 3 17)), (17, .inl (ploadk isI 3 18)), (18, .inl (pst (g_k (.int (9))) 20)), (20, .inl (picmp cGt 59 23)), (23, .inl (ploadk isA 0 24)), (24, .inl (pgetf2 3 2 27)), (27, .inl (ploadk isA 0 28)), (28, .inl (pgetf2 3 1 31)), (31, .inl (ploadk isI 1 32)), (32, .inl (ploadk isA 0 33)), (33, .inl (pgetf2 3 1 36)), (36, .inl (ploadk isI 1 37)), (37, .inr (.inl (20, 2, some 1))), (40, .inl (ploadk isI 3 41)), (41, .inr (.inl (5, 5, some 0))), (44, .inl (pif (fun x => cEq x 0) 53 47)), (47, .inl (ploadk isI 2 48)), (48, .inl (pst (g_k (.int (1))) 49)), (49, .inl (ploadk isI 3 50)), (50, .inl (pst (g_i2 shl) 51)), (51, .inl (pst (g_i2 (· ||| ·)) 52)), (52, .inl (pstore isI 2 53)), (53, .inl (piinc 3 (1) 56)), (56, .inl (pst g_id 17)), (59, .inl (ploadk isI 2 60)), (60, .inr (.inr (some .int)))]
def ubX4_kinds : pM2 := [(0, .inl (ploadk isA 0 1)), (1, .inl (pgetf2 3 1 4)), (4, .inl (ploadk isI 1 5)), (5, .inr (.inl (17, 2, some 1))), (8, .inl (pif (fun x => cNe x 0) 13 11)), (11, .inl (pst (g_k (.int (-1))) 12)), (12, .inr (.inr (some .int))), (13, .inl (pst (g_k (.int (0))) 14)), (14, .inl (pstore isI 2 15)), (15, .inl (pst (g_k (.int (0))) 16)), (16, .inl (pstore isI 3 17)), (17, .inl (ploadk isI 3 18)), (18, .inl (pst (g_k (.int (2))) 19)), (19, .inl (picmp cGt 58 22)), (22, .inl (ploadk isA 0 23)), (23, .inl (pgetf2 3 2 26)), (26, .inl (ploadk isA 0 27)), (27, .inl (pgetf2 3 1 30)), (30, .inl (ploadk isI 1 31)), (31, .inl (ploadk isI 3 32)), (32, .inl (ploadk isA 0 33)), (33, .inl (pgetf2 3 1 36)), (36, .inl (ploadk isI 1 37)), (37, .inr (.inl (21, 2, some 1))), (40, .inr (.inl (5, 5, some 0))), (43, .inl (pif (fun x => cEq x 0) 52 46)), (46, .inl (ploadk isI 2 47)), (47, .inl (pst (g_k (.int (1))) 48)), (48, .inl (ploadk isI 3 49)), (49, .inl (pst (g_i2 shl) 50)), (50, .inl (pst (g_i2 (· ||| ·)) 51)), (51, .inl (pstore isI 2 52)), (52, .inl (piinc 3 (1) 55)), (55, .inl (pst g_id 17)), (58, .inl (ploadk isI 2 59)), (59, .inr (.inr (some .int)))]
def ubX4_odds : pM2 := [(0, .inl (ploadk isA 0 1)), (1, .inl (pgetf2 3 1 4)), (4, .inl (ploadk isI 1 5)), (5, .inr (.inl (17, 2, some 1))), (8, .inl (pif (fun x => cNe x 0) 15 11)), (11, .inl (pst (g_k (.long (-9223372036854775808))) 14)), (14, .inr (.inr (some .long))), (15, .inl (ploadk isI 2 16)), (16, .inl (pst (g_k (.int (0))) 17)), (17, .inl (pst (g_k (.int (20))) 19)), (19, .inr (.inl (114, 3, none))), (22, .inl (pif (fun x => cEq x 0) 34 25)), (25, .inl (ploadk isI 3 26)), (26, .inl (pst (g_k (.int (0))) 27)), (27, .inl (pst (g_k (.int (1))) 28)), (28, .inr (.inl (114, 3, none))), (31, .inl (pif (fun x => cNe x 0) 38 34)), (34, .inl (pst (g_k (.long (-9223372036854775808))) 37)), (37, .inr (.inr (some .long))), (38, .inl (ploadk isA 0 39)), (39, .inl (pgetf2 3 1 42)), (42, .inl (ploadk isI 1 43)), (43, .inl (ploadk isI 2 44)), (44, .inr (.inl (52, 3, some 1))), (47, .inl (pstore isI 4 49)), (49, .inl (ploadk isA 0 50)), (50, .inl (pgetf2 3 1 53)), (53, .inr (.inl (51, 1, some 1))), (56, .inl (pstore isI 5 58)), (58, .inl (ploadk isI 4 60)), (60, .inl (ploadk isI 5 62)), (62, .inr (.inl (118, 2, none))), (65, .inl (pstore isI 6 67)), (67, .inl (ploadk isI 6 69)), (69, .inl (pif (fun x => cNe x 0) 76 72)), (72, .inl (pst (g_k (.long (-9223372036854775808))) 75)), (75, .inr (.inr (some .long))), (76, .inl (ploadk isI 3 77)), (77, .inl (pif (fun x => cNe x 0) 89 80)), (80, .inl (ploadk isI 4 82)), (82, .inl (ploadk isI 6 84)), (84, .inl (pst (g_idiv (· / ·)) 85)), (85, .inl (pst (g_i2l) 86)), (86, .inl (pst g_id 95)), (89, .inl (ploadk isI 5 91)), (91, .inl (ploadk isI 6 93)), (93, .inl (pst (g_idiv (· / ·)) 94)), (94, .inl (pst (g_i2l) 95)), (95, .inr (.inr (some .long)))]
def ubX4_sheet : pM2 := [(0, .inl (ploadk isA 0 1)), (1, .inl (pst (g_k (.int (0))) 2)), (2, .inl (pputf2 3 5 (.int) 5)), (5, .inl (ploadk isA 0 6)), (6, .inl (ploadk isI 1 7)), (7, .inr (.inl (102, 2, some 3))), (10, .inl (pstore isA 4 12)), (12, .inl (ploadk isA 4 14)), (14, .inl (pnull 17 19)), (17, .inl (pst (g_k (.int (-1))) 18)), (18, .inr (.inr (some .int))), (19, .inl (ploadk isI 2 20)), (20, .inr (.inl (115, 1, none))), (23, .inl (pif (fun x => cEq x 0) 32 26)), (26, .inl (ploadk isI 3 27)), (27, .inl (pst (g_k (.int (60))) 29)), (29, .inl (picmp cLe 35 32)), (32, .inl (pst (g_k (.int (-2))) 34)), (34, .inr (.inr (some .int))), (35, .inl (ploadk isI 3 36)), (36, .inl (pif (fun x => cGe x 0) 45 39)), (39, .inl (ploadk isA 0 40)), (40, .inl (pst (g_k (.int (4))) 41)), (41, .inr (.inl (103, 2, some 3))), (44, .inr (.inr (some .int))), (45, .inl (ploadk isA 4 47)), (47, .inl (ploadk isI 2 48)), (48, .inl (ploadk isI 3 49)), (49, .inr (.inl (65, 3, some 2))), (52, .inl (pst (g_k (.int (1))) 53)), (53, .inr (.inr (some .int)))]
def ubX4_lose : pM2 := [(0, .inl (ploadk isA 0 1)), (1, .inl (ploadk isI 1 2)), (2, .inr (.inl (102, 2, some 3))), (5, .inl (pstore isA 2 6)), (6, .inl (ploadk isA 2 7)), (7, .inl (pnull 10 12)), (10, .inl (pst (g_k (.int (-1))) 11)), (11, .inr (.inr (some .int))), (12, .inl (ploadk isA 2 13)), (13, .inr (.inl (61, 1, some 2))), (16, .inl (pif (fun x => cEq x 0) 21 19)), (19, .inl (pst (g_k (.int (0))) 20)), (20, .inr (.inr (some .int))), (21, .inl (ploadk isA 2 22)), (22, .inr (.inl (66, 1, some 2))), (25, .inl (pst (g_k (.int (1))) 26)), (26, .inr (.inr (some .int)))]
def ubX4_put : pM2 := [(0, .inl (ploadk isA 0 1)), (1, .inl (pst (g_k (.int (0))) 2)), (2, .inl (pputf2 3 5 (.int) 5)), (5, .inl (ploadk isA 0 6)), (6, .inl (ploadk isI 1 7)), (7, .inr (.inl (102, 2, some 3))), (10, .inl (pstore isA 4 12)), (12, .inl (ploadk isA 4 14)), (14, .inl (pnull 17 19)), (17, .inl (pst (g_k (.int (-1))) 18)), (18, .inr (.inr (some .int))), (19, .inl (ploadk isA 4 21)), (21, .inr (.inl (61, 1, some 2))), (24, .inl (pif (fun x => cEq x 0) 33 27)), (27, .inl (ploadk isA 0 28)), (28, .inl (pst (g_k (.int (1))) 29)), (29, .inr (.inl (103, 2, some 3))), (32, .inr (.inr (some .int))), (33, .inl (ploadk isA 4 35)), (35, .inl (ploadk isI 2 36)), (36, .inl (pst (g_k (.int (1))) 37)), (37, .inr (.inl (63, 3, some 2))), (40, .inl (pif (fun x => cNe x 0) 49 43)), (43, .inl (ploadk isA 0 44)), (44, .inl (pst (g_k (.int (3))) 45)), (45, .inr (.inl (103, 2, some 3))), (48, .inr (.inr (some .int))), (49, .inl (ploadk isA 4 51)), (51, .inl (ploadk isI 2 52)), (52, .inl (ploadk isI 3 53)), (53, .inr (.inl (68, 3, some 2))), (56, .inl (pst (g_k (.int (1))) 57)), (57, .inr (.inr (some .int)))]
def ubX4_cell : pM2 := [(0, .inl (ploadk isA 0 1)), (1, .inl (pst (g_k (.int (0))) 2)), (2, .inl (pputf2 3 5 (.int) 5)), (5, .inl (ploadk isA 0 6)), (6, .inl (ploadk isI 1 7)), (7, .inr (.inl (102, 2, some 3))), (10, .inl (pstore isA 4 12)), (12, .inl (ploadk isA 4 14)), (14, .inl (pnull 24 17)), (17, .inl (ploadk isI 3 18)), (18, .inr (.inl (115, 1, none))), (21, .inl (pif (fun x => cNe x 0) 28 24)), (24, .inl (pst (g_k (.long (-9223372036854775808))) 27)), (27, .inr (.inr (some .long))), (28, .inl (ploadk isA 0 29)), (29, .inl (ploadk isA 4 31)), (31, .inl (ploadk isI 3 32)), (32, .inl (ploadk isI 2 33)), (33, .inl (pst (g_k (.int (1))) 34)), (34, .inr (.inl (64, 4, some 2))), (37, .inl (pputf2 3 5 (.int) 40)), (40, .inl (ploadk isA 0 41)), (41, .inl (pgetf2 3 5 44)), (44, .inl (pif (fun x => cNe x 0) 57 47)), (47, .inl (ploadk isA 4 49)), (49, .inl (ploadk isI 2 50)), (50, .inr (.inl (67, 2, some 2))), (53, .inl (pst (g_i2l) 54)), (54, .inl (pst g_id 60)), (57, .inl (pst (g_k (.long (-9223372036854775808))) 60)), (60, .inr (.inr (some .long)))]
def ubX4_copy : pM2 := [(0, .inl (ploadk isA 0 1)), (1, .inl (pst (g_k (.int (0))) 2)), (2, .inl (pputf2 3 5 (.int) 5)), (5, .inl (ploadk isA 0 6)), (6, .inl (ploadk isI 1 7)), (7, .inr (.inl (102, 2, some 3))), (10, .inl (pstore isA 6 12)), (12, .inl (ploadk isA 0 13)), (13, .inl (ploadk isI 3 14)), (14, .inr (.inl (102, 2, some 3))), (17, .inl (pstore isA 7 19)), (19, .inl (ploadk isA 6 21)), (21, .inl (pnull 29 24)), (24, .inl (ploadk isA 7 26)), (26, .inl (pnull 29 31)), (29, .inl (pst (g_k (.int (-1))) 30)), (30, .inr (.inr (some .int))), (31, .inl (ploadk isA 6 33)), (33, .inr (.inl (61, 1, some 2))), (36, .inl (pif (fun x => cNe x 0) 47 39)), (39, .inl (ploadk isA 7 41)), (41, .inr (.inl (61, 1, some 2))), (44, .inl (pif (fun x => cEq x 0) 53 47)), (47, .inl (ploadk isA 0 48)), (48, .inl (pst (g_k (.int (1))) 49)), (49, .inr (.inl (103, 2, some 3))), (52, .inr (.inr (some .int))), (53, .inl (ploadk isA 6 55)), (55, .inr (.inl (62, 1, some 2))), (58, .inl (ploadk isA 7 60)), (60, .inr (.inl (62, 1, some 2))), (63, .inl (picmp cEq 72 66)), (66, .inl (ploadk isA 0 67)), (67, .inl (pst (g_k (.int (2))) 68)), (68, .inr (.inl (103, 2, some 3))), (71, .inr (.inr (some .int))), (72, .inl (ploadk isA 6 74)), (74, .inl (ploadk isI 2 75)), (75, .inl (ploadk isI 5 77)), (77, .inr (.inl (63, 3, some 2))), (80, .inl (pif (fun x => cEq x 0) 95 83)), (83, .inl (ploadk isA 7 85)), (85, .inl (ploadk isI 4 87)), (87, .inl (ploadk isI 5 89)), (89, .inr (.inl (63, 3, some 2))), (92, .inl (pif (fun x => cNe x 0) 101 95)), (95, .inl (ploadk isA 0 96)), (96, .inl (pst (g_k (.int (3))) 97)), (97, .inr (.inl (103, 2, some 3))), (100, .inr (.inr (some .int))), (101, .inl (ploadk isA 0 102)), (102, .inl (pgetf2 3 3 105)), (105, .inl (ploadk isA 6 107)), (107, .inl (ploadk isI 2 108)), (108, .inl (ploadk isI 5 110)), (110, .inr (.inl (105, 4, none))), (113, .inl (pst (g_k (.int (0))) 114)), (114, .inl (pstore isI 8 116)), (116, .inl (pclr [1, 2, 3, 6] (ploadk isI 8 118))), (118, .inl (ploadk isI 5 120)), (120, .inl (picmp cGe 148 123)), (123, .inl (ploadk isA 7 125)), (125, .inl (ploadk isI 4 127)), (127, .inl (ploadk isI 8 129)), (129, .inl (pst (g_i2 (· + ·)) 130)), (130, .inl (ploadk isA 0 131)), (131, .inl (pgetf2 3 3 134)), (134, .inl (ploadk isI 8 136)), (136, .inr (.inl (119, 2, none))), (139, .inr (.inl (68, 3, some 2))), (142, .inl (piinc 8 (1) 145)), (145, .inl (pst g_id 116)), (148, .inl (ploadk isI 5 150)), (150, .inr (.inr (some .int)))]
def ubX4_tell : pM2 := [(0, .inl (ploadk isA 0 1)), (1, .inl (pgetf2 3 1 4)), (4, .inl (ploadk isI 1 5)), (5, .inr (.inl (17, 2, some 1))), (8, .inl (pif (fun x => cNe x 0) 13 11)), (11, .inl (pst (g_k (.int (-1))) 12)), (12, .inr (.inr (some .int))), (13, .inl (ploadk isA 0 14)), (14, .inl (pgetf2 3 1 17)), (17, .inl (ploadk isI 1 18)), (18, .inr (.inl (20, 2, some 1))), (21, .inl (psw [(1, 54), (2, 48)] 60)), (48, .inl (ploadk isA 0 49)), (49, .inl (ploadk isI 1 50)), (50, .inr (.inl (111, 2, some 3))), (53, .inr (.inr (some .int))), (54, .inl (ploadk isA 0 55)), (55, .inl (ploadk isI 1 56)), (56, .inr (.inl (110, 2, some 3))), (59, .inr (.inr (some .int))), (60, .inl (ploadk isA 0 61)), (61, .inl (ploadk isI 1 62)), (62, .inr (.inl (109, 2, some 3))), (65, .inr (.inr (some .int)))]
def ubX4_greet : pM2 := [(0, .inl (ploadk isA 0 1)), (1, .inl (pgetf2 3 1 4)), (4, .inl (ploadk isI 1 5)), (5, .inr (.inl (17, 2, some 1))), (8, .inl (pif (fun x => cNe x 0) 13 11)), (11, .inl (pst (g_k (.int (-1))) 12)), (12, .inr (.inr (some .int))), (13, .inl (ploadk isA 0 14)), (14, .inl (pgetf2 3 1 17)), (17, .inl (ploadk isI 1 18)), (18, .inr (.inl (20, 2, some 1))), (21, .inl (pst (g_k (.int (2))) 22)), (22, .inl (picmp cNe 32 25)), (25, .inl (ploadk isA 0 26)), (26, .inr (.inl (113, 1, some 3))), (29, .inl (pst g_id 37)), (32, .inl (ploadk isA 0 33)), (33, .inl (ploadk isI 1 34)), (34, .inr (.inl (112, 2, some 3))), (37, .inr (.inr (some .int)))]
def ubX4_as : pM2 := [(0, .inl (ploadk isA 0 1)), (1, .inl (pst (g_k (.int (0))) 2)), (2, .inl (pputf2 3 5 (.int) 5)), (5, .inl (ploadk isA 0 6)), (6, .inl (pgetf2 3 1 9)), (9, .inl (ploadk isI 1 10)), (10, .inr (.inl (17, 2, some 1))), (13, .inl (pif (fun x => cNe x 0) 18 16)), (16, .inl (pst (g_k (.int (-1))) 17)), (17, .inr (.inr (some .int))), (18, .inl (ploadk isI 2 19)), (19, .inl (pst (g_k (.int (0))) 20)), (20, .inl (pst (g_k (.int (2))) 21)), (21, .inr (.inl (114, 3, none))), (24, .inl (pif (fun x => cNe x 0) 30 27)), (27, .inl (pst (g_k (.int (-2))) 29)), (29, .inr (.inr (some .int))), (30, .inl (ploadk isA 0 31)), (31, .inl (pgetf2 3 1 34)), (34, .inl (ploadk isI 1 35)), (35, .inr (.inl (20, 2, some 1))), (38, .inl (ploadk isI 2 39)), (39, .inl (picmp cLt 46 42)), (42, .inl (pst (g_k (.int (1))) 43)), (43, .inl (pst g_id 51)), (46, .inl (ploadk isA 0 47)), (47, .inl (pst (g_k (.int (2))) 48)), (48, .inr (.inl (103, 2, some 3))), (51, .inr (.inr (some .int)))]
def ubX4_trace : pM2 := [(0, .inl (ploadk isA 0 1)), (1, .inl (pgetf2 3 4 4)), (4, .inr (.inr (some .int)))]
def ubX4_fault : pM2 := [(0, .inl (ploadk isA 0 1)), (1, .inl (pgetf2 3 5 4)), (4, .inr (.inr (some .int)))]
def ubX4_many : pM2 := [(0, .inl (ploadk isI 1 1)), (1, .inl (psw [(0, 44), (1, 52), (2, 60), (3, 68), (4, 76), (5, 84), (6, 95)] 103)), (44, .inl (ploadk isA 0 45)), (45, .inl (pgetf2 3 1 48)), (48, .inr (.inl (9, 1, some 1))), (51, .inr (.inr (some .int))), (52, .inl (ploadk isA 0 53)), (53, .inl (pgetf2 3 1 56)), (56, .inr (.inl (10, 1, some 1))), (59, .inr (.inr (some .int))), (60, .inl (ploadk isA 0 61)), (61, .inl (pgetf2 3 1 64)), (64, .inr (.inl (11, 1, some 1))), (67, .inr (.inr (some .int))), (68, .inl (ploadk isA 0 69)), (69, .inl (pgetf2 3 1 72)), (72, .inr (.inl (12, 1, some 1))), (75, .inr (.inr (some .int))), (76, .inl (ploadk isA 0 77)), (77, .inl (pgetf2 3 1 80)), (80, .inr (.inl (14, 1, some 1))), (83, .inr (.inr (some .int))), (84, .inl (ploadk isA 0 85)), (85, .inl (pgetf2 3 1 88)), (88, .inr (.inl (13, 1, some 1))), (91, .inr (.inl (195, 1, none))), (94, .inr (.inr (some .int))), (95, .inl (ploadk isA 0 96)), (96, .inl (pgetf2 3 2 99)), (99, .inr (.inl (1, 1, some 0))), (102, .inr (.inr (some .int))), (103, .inl (pst (g_k (.int (-2))) 105)), (105, .inr (.inr (some .int)))]
def ubX4_sheetOf : pM2 := [(0, .inl (ploadk isI 1 1)), (1, .inl (pif (fun x => cLt x 0) 22 4)), (4, .inl (ploadk isI 1 5)), (5, .inl (ploadk isA 0 6)), (6, .inl (pgetf2 3 0 9)), (9, .inl (palen2 10)), (10, .inl (picmp cGe 22 13)), (13, .inl (ploadk isA 0 14)), (14, .inl (pgetf2 3 0 17)), (17, .inl (ploadk isI 1 18)), (18, .inl (paald2 19)), (19, .inl (pst g_id 23)), (22, .inl (pst (g_k .null) 23)), (23, .inr (.inr (some (.object "HullCharts$Sheet"))))]
def ubX4_faulted : pM2 := [(0, .inl (ploadk isA 0 1)), (1, .inl (ploadk isI 1 2)), (2, .inl (pputf2 3 5 (.int) 5)), (5, .inl (pst (g_k (.int (-10))) 7)), (7, .inl (ploadk isI 1 8)), (8, .inl (pst (g_i2 (· - ·)) 9)), (9, .inr (.inr (some .int)))]
def ubX4_take : pM2 := [(0, .inl (ploadk isA 1 1)), (1, .inl (ploadk isI 2 2)), (2, .inl (ploadk isI 3 3)), (3, .inl (ploadk isI 4 5)), (5, .inr (.inl (64, 4, some 2))), (8, .inl (pstore isI 5 10)), (10, .inl (ploadk isI 5 12)), (12, .inl (pif (fun x => cNe x 0) 26 15)), (15, .inl (ploadk isA 0 16)), (16, .inl (pgetf2 3 3 19)), (19, .inl (ploadk isA 1 20)), (20, .inl (ploadk isI 3 21)), (21, .inl (ploadk isI 4 23)), (23, .inr (.inl (105, 4, none))), (26, .inl (ploadk isI 5 28)), (28, .inr (.inr (some .int)))]
def ubX4_readInto : pM2 := [(0, .inl (pst (g_k (.int (0))) 1)), (1, .inl (pstore isI 4 3)), (3, .inl (ploadk isI 4 5)), (5, .inl (ploadk isI 3 6)), (6, .inl (picmp cGe 29 9)), (9, .inl (ploadk isA 0 10)), (10, .inl (ploadk isI 4 12)), (12, .inl (ploadk isA 1 13)), (13, .inl (ploadk isI 2 14)), (14, .inl (ploadk isI 4 16)), (16, .inl (pst (g_i2 (· + ·)) 17)), (17, .inr (.inl (67, 2, some 2))), (20, .inr (.inl (120, 3, none))), (23, .inl (piinc 4 (1) 26)), (26, .inl (pst g_id 3)), (29, .inr (.inr none))]
def ubX4_leastLengthToldAgain : pM2 := [(0, .inl (pst (g_k (.int (1))) 1)), (1, .inl (pstore isI 2 2)), (2, .inl (ploadk isI 2 3)), (3, .inl (ploadk isI 1 4)), (4, .inl (picmp cGe 24 7)), (7, .inl (ploadk isA 0 8)), (8, .inl (ploadk isI 2 9)), (9, .inl (ploadk isI 1 10)), (10, .inr (.inl (107, 3, some 3))), (13, .inl (pif (fun x => cEq x 0) 18 16)), (16, .inl (ploadk isI 2 17)), (17, .inr (.inr (some .int))), (18, .inl (piinc 2 (1) 21)), (21, .inl (pst g_id 2)), (24, .inl (ploadk isI 1 25)), (25, .inr (.inr (some .int)))]
def ubX4_isToldAgain : pM2 := [(0, .inl (ploadk isI 1 1)), (1, .inl (pstore isI 3 2)), (2, .inl (ploadk isI 3 3)), (3, .inl (ploadk isI 2 4)), (4, .inl (picmp cGe 36 7)), (7, .inl (ploadk isA 0 8)), (8, .inl (pgetf2 3 3 11)), (11, .inl (ploadk isI 3 12)), (12, .inr (.inl (119, 2, none))), (15, .inl (ploadk isA 0 16)), (16, .inl (pgetf2 3 3 19)), (19, .inl (ploadk isI 3 20)), (20, .inl (ploadk isI 1 21)), (21, .inl (pst (g_i2 (· - ·)) 22)), (22, .inr (.inl (119, 2, none))), (25, .inl (picmp cEq 30 28)), (28, .inl (pst (g_k (.int (0))) 29)), (29, .inr (.inr (some .boolean))), (30, .inl (piinc 3 (1) 33)), (33, .inl (pst g_id 2)), (36, .inl (pst (g_k (.int (1))) 37)), (37, .inr (.inr (some .boolean)))]
def ubX4_leaveInTrace : pM2 := [(0, .inl (ploadk isA 0 1)), (1, .inl (pst (g_k (.int (31))) 3)), (3, .inl (ploadk isA 0 4)), (4, .inl (pgetf2 3 4 7)), (7, .inl (pst (g_i2 (· * ·)) 8)), (8, .inl (ploadk isI 1 9)), (9, .inl (pst (g_i2 (· + ·)) 10)), (10, .inl (pputf2 3 4 (.int) 13)), (13, .inr (.inr none))]
def ubX4_plainBody : pM2 := [(0, .inl (ploadk isA 0 1)), (1, .inl (pst (g_k (.int (1))) 2)), (2, .inr (.inl (108, 2, some 3))), (5, .inl (ploadk isA 0 6)), (6, .inl (pgetf2 3 1 9)), (9, .inl (ploadk isI 1 10)), (10, .inr (.inl (21, 2, some 1))), (13, .inr (.inr (some .int)))]
def ubX4_deepBody : pM2 := [(0, .inl (ploadk isA 0 1)), (1, .inl (pst (g_k (.int (2))) 2)), (2, .inr (.inl (108, 2, some 3))), (5, .inl (ploadk isA 0 6)), (6, .inl (ploadk isI 1 7)), (7, .inr (.inl (109, 2, some 3))), (10, .inl (pst (g_k (.int (100))) 12)), (12, .inl (pst (g_i2 (· + ·)) 13)), (13, .inr (.inr (some .int)))]
def ubX4_grandBody : pM2 := [(0, .inl (ploadk isA 0 1)), (1, .inl (pst (g_k (.int (3))) 2)), (2, .inr (.inl (108, 2, some 3))), (5, .inl (ploadk isA 0 6)), (6, .inl (ploadk isI 1 7)), (7, .inr (.inl (110, 2, some 3))), (10, .inl (pstore isI 2 11)), (11, .inl (ploadk isI 2 12)), (12, .inl (ploadk isA 0 13)), (13, .inl (ploadk isI 1 14)), (14, .inr (.inl (109, 2, some 3))), (17, .inl (pst (g_i2 (· + ·)) 18)), (18, .inr (.inr (some .int)))]
def ubX4_lentGreetingBody : pM2 := [(0, .inl (ploadk isA 0 1)), (1, .inl (pst (g_k (.int (4))) 2)), (2, .inr (.inl (108, 2, some 3))), (5, .inl (ploadk isI 1 6)), (6, .inr (.inr (some .int)))]
def ubX4_ownGreetingBody : pM2 := [(0, .inl (ploadk isA 0 1)), (1, .inl (pst (g_k (.int (5))) 2)), (2, .inr (.inl (108, 2, some 3))), (5, .inl (pst (g_k (.int (90))) 7)), (7, .inr (.inr (some .int)))]
def ubX4_within : pM2 := [(0, .inl (ploadk isI 0 1)), (1, .inl (ploadk isI 1 2)), (2, .inl (picmp cLt 14 5)), (5, .inl (ploadk isI 0 6)), (6, .inl (ploadk isI 2 7)), (7, .inl (picmp cGt 14 10)), (10, .inl (pst (g_k (.int (1))) 11)), (11, .inl (pst g_id 15)), (14, .inl (pst (g_k (.int (0))) 15)), (15, .inr (.inr (some .boolean)))]
def ubX4_isLane : pM2 := [(0, .inl (ploadk isI 0 1)), (1, .inl (pst (g_k (.int (0))) 2)), (2, .inl (pst (g_k (.int (2))) 3)), (3, .inr (.inl (114, 3, none))), (6, .inr (.inr (some .boolean)))]
def ubX4_isStep : pM2 := [(0, .inl (ploadk isI 0 1)), (1, .inl (pst (g_k (.int (0))) 2)), (2, .inl (pst (g_k (.int (3))) 3)), (3, .inr (.inl (114, 3, none))), (6, .inr (.inr (some .boolean)))]
def ubX4_isDigit : pM2 := [(0, .inl (ploadk isI 0 1)), (1, .inl (pst (g_k (.int (0))) 2)), (2, .inl (pst (g_k (.int (9))) 4)), (4, .inr (.inl (114, 3, none))), (7, .inr (.inr (some .boolean)))]
def ubX4_greatestDivisor : pM2 := [(0, .inl (ploadk isI 1 1)), (1, .inl (pstore isI 2 2)), (2, .inl (ploadk isI 2 3)), (3, .inl (pif (fun x => cLe x 0) 26 6)), (6, .inl (ploadk isI 0 7)), (7, .inl (ploadk isI 2 8)), (8, .inl (pst (g_idiv irem) 9)), (9, .inl (pif (fun x => cNe x 0) 20 12)), (12, .inl (ploadk isI 1 13)), (13, .inl (ploadk isI 2 14)), (14, .inl (pst (g_idiv irem) 15)), (15, .inl (pif (fun x => cNe x 0) 20 18)), (18, .inl (ploadk isI 2 19)), (19, .inr (.inr (some .int))), (20, .inl (piinc 2 (-1) 23)), (23, .inl (pst g_id 2)), (26, .inl (pst (g_k (.int (0))) 27)), (27, .inr (.inr (some .int)))]
def ubX4_numberAt : pM2 := [(0, .inl (ploadk isI 1 1)), (1, .inl (pif (fun x => cLt x 0) 16 4)), (4, .inl (ploadk isI 1 5)), (5, .inl (ploadk isA 0 6)), (6, .inl (palen2 7)), (7, .inl (picmp cGe 16 10)), (10, .inl (ploadk isA 0 11)), (11, .inl (ploadk isI 1 12)), (12, .inl (piald2 13)), (13, .inl (pst g_id 17)), (16, .inl (pst (g_k (.int (0))) 17)), (17, .inr (.inr (some .int)))]
def ubX4_setNumber : pM2 := [(0, .inl (ploadk isI 1 1)), (1, .inl (pif (fun x => cLt x 0) 14 4)), (4, .inl (ploadk isI 1 5)), (5, .inl (ploadk isA 0 6)), (6, .inl (palen2 7)), (7, .inl (picmp cGe 14 10)), (10, .inl (ploadk isA 0 11)), (11, .inl (ploadk isI 1 12)), (12, .inl (ploadk isI 2 13)), (13, .inl (piast2 14)), (14, .inr (.inr none))]
def ubX5_in : pM2 := [(0, .inl (ploadk isL 0 1)), (1, .inl (ploadk isL 2 2)), (2, .inl (pst (g_lcmp) 3)), (3, .inl (pif (fun x => cLt x 0) 17 6)), (6, .inl (ploadk isL 0 7)), (7, .inl (ploadk isL 4 9)), (9, .inl (pst (g_lcmp) 10)), (10, .inl (pif (fun x => cGt x 0) 17 13)), (13, .inl (pst (g_k (.int (1))) 14)), (14, .inl (pst g_id 18)), (17, .inl (pst (g_k (.int (0))) 18)), (18, .inr (.inr (some .boolean)))]
def ubX5_lost : pM2 := [(0, .inl (pst (g_k (.long (-9223372036854775808))) 3)), (3, .inr (.inr (some .long)))]
def ubX5_isIn : pM2 := [(0, .inl (ploadk isI 0 1)), (1, .inl (ploadk isI 1 2)), (2, .inl (pst (g_i2 shr) 3)), (3, .inl (pst (g_k (.int (1))) 4)), (4, .inl (pst (g_i2 (· &&& ·)) 5)), (5, .inl (pst (g_k (.int (1))) 6)), (6, .inl (picmp cNe 13 9)), (9, .inl (pst (g_k (.int (1))) 10)), (10, .inl (pst g_id 14)), (13, .inl (pst (g_k (.int (0))) 14)), (14, .inr (.inr (some .boolean)))]
def ubX5_bits : pM2 := [(0, .inl (pst (g_k (.int (0))) 1)), (1, .inl (pstore isI 2 2)), (2, .inl (ploadk isL 0 3)), (3, .inl (pstore isL 3 4)), (4, .inl (pclr [0, 1] (ploadk isL 3 5))), (5, .inl (pst (g_k (.long 0)) 6)), (6, .inl (pst (g_lcmp) 7)), (7, .inl (pif (fun x => cLe x 0) 33 10)), (10, .inl (ploadk isI 2 11)), (11, .inl (ploadk isL 3 12)), (12, .inl (pst (g_k (.long 1)) 13)), (13, .inl (pst (g_l2 (· &&& ·)) 14)), (14, .inl (pst (g_k (.long 1)) 15)), (15, .inl (pst (g_lcmp) 16)), (16, .inl (pif (fun x => cNe x 0) 23 19)), (19, .inl (pst (g_k (.int (1))) 20)), (20, .inl (pst g_id 24)), (23, .inl (pst (g_k (.int (0))) 24)), (24, .inl (pst (g_i2 (· + ·)) 25)), (25, .inl (pstore isI 2 26)), (26, .inl (ploadk isL 3 27)), (27, .inl (pst (g_k (.int (1))) 28)), (28, .inl (pst (g_ls lshr) 29)), (29, .inl (pstore isL 3 30)), (30, .inl (pst g_id 4)), (33, .inl (ploadk isI 2 34)), (34, .inr (.inr (some .int)))]
def ubX5_share : pM2 := [(0, .inl (ploadk isL 0 1)), (1, .inl (pstore isL 5 3)), (3, .inl (ploadk isL 2 4)), (4, .inl (pstore isL 7 6)), (6, .inl (pclr [9, 10] (ploadk isL 7 8))), (8, .inl (pst (g_k (.long 0)) 9)), (9, .inl (pst (g_lcmp) 10)), (10, .inl (pif (fun x => cEq x 0) 31 13)), (13, .inl (ploadk isL 5 15)), (15, .inl (ploadk isL 7 17)), (17, .inl (pst (g_ldiv lrem) 18)), (18, .inl (pstore isL 9 20)), (20, .inl (ploadk isL 7 22)), (22, .inl (pstore isL 5 24)), (24, .inl (ploadk isL 9 26)), (26, .inl (pstore isL 7 28)), (28, .inl (pst g_id 6)), (31, .inl (ploadk isI 4 33)), (33, .inl (pif (fun x => cNe x 0) 40 36)), (36, .inl (ploadk isL 0 37)), (37, .inl (pst g_id 41)), (40, .inl (ploadk isL 2 41)), (41, .inl (ploadk isL 5 43)), (43, .inl (pst (g_ldiv (· / ·)) 44)), (44, .inr (.inr (some .long)))]
def ubX5_refused : pM2 := [(0, .inl (ploadk isA 0 1)), (1, .inl (pst (g_k (.int (0))) 2)), (2, .inl (pputf2 4 0 (.int) 5)), (5, .inl (ploadk isI 1 6)), (6, .inr (.inr (some .int)))]
def ubX5_failed : pM2 := [(0, .inl (ploadk isA 0 1)), (1, .inl (ploadk isI 1 2)), (2, .inl (pputf2 4 0 (.int) 5)), (5, .inl (pst (g_k (.int (-10))) 7)), (7, .inl (ploadk isI 1 8)), (8, .inl (pst (g_i2 (· - ·)) 9)), (9, .inr (.inr (some .int)))]
def ubX5_failedLong : pM2 := [(0, .inl (ploadk isA 0 1)), (1, .inl (ploadk isI 1 2)), (2, .inl (pputf2 4 0 (.int) 5)), (5, .inr (.inl (123, 0, none))), (8, .inr (.inr (some .long)))]
def ubX5_noLooker : pM2 := [(0, .inl (ploadk isI 1 1)), (1, .inl (pst (g_i2l) 2)), (2, .inl (pst (g_k (.long 0)) 3)), (3, .inl (ploadk isA 0 4)), (4, .inl (pgetf2 4 3 7)), (7, .inl (pst (g_i2l) 8)), (8, .inl (pst (g_k (.long 1)) 9)), (9, .inl (pst (g_l2 (· - ·)) 10)), (10, .inr (.inl (122, 3, none))), (13, .inl (pif (fun x => cNe x 0) 20 16)), (16, .inl (pst (g_k (.int (1))) 17)), (17, .inl (pst g_id 21)), (20, .inl (pst (g_k (.int (0))) 21)), (21, .inr (.inr (some .boolean)))]
def ubX5_noPlace : pM2 := [(0, .inl (ploadk isI 1 1)), (1, .inl (pst (g_i2l) 2)), (2, .inl (pst (g_k (.long 0)) 3)), (3, .inl (ploadk isA 0 4)), (4, .inl (pgetf2 4 1 7)), (7, .inl (ploadk isA 0 8)), (8, .inl (pgetf2 4 2 11)), (11, .inl (pst (g_i2 (· * ·)) 12)), (12, .inl (pst (g_i2l) 13)), (13, .inl (pst (g_k (.long 1)) 14)), (14, .inl (pst (g_l2 (· - ·)) 15)), (15, .inr (.inl (122, 3, none))), (18, .inl (pif (fun x => cNe x 0) 25 21)), (21, .inl (pst (g_k (.int (1))) 22)), (22, .inl (pst g_id 26)), (25, .inl (pst (g_k (.int (0))) 26)), (26, .inr (.inr (some .boolean)))]
def ubX5_codeAt : pM2 := [(0, .inl (ploadk isA 0 1)), (1, .inl (pgetf2 4 12 4)), (4, .inl (ploadk isI 2 5)), (5, .inl (picmp cGe 22 8)), (8, .inl (ploadk isA 0 9)), (9, .inl (pgetf2 4 31 12)), (12, .inl (ploadk isI 1 13)), (13, .inl (ploadk isA 0 14)), (14, .inl (pgetf2 4 12 17)), (17, .inl (pst (g_i2 (· + ·)) 18)), (18, .inl (piald2 19)), (19, .inl (pst g_id 24)), (22, .inl (pst (g_k (.int (-9))) 24)), (24, .inr (.inr (some .int)))]
def ubX5_figure : pM2 := [(0, .inl (ploadk isI 3 1)), (1, .inl (pif (fun x => cGe x 0) 9 4)), (4, .inl (pst (g_k (.int (-9))) 6)), (6, .inl (pst g_id 18)), (9, .inl (ploadk isA 0 10)), (10, .inl (ploadk isI 1 11)), (11, .inl (ploadk isI 2 12)), (12, .inr (.inl (132, 3, some 4))), (15, .inl (pst (g_k (.int (48))) 17)), (17, .inl (pst (g_i2 (· - ·)) 18)), (18, .inl (pstore isI 6 20)), (20, .inl (ploadk isI 6 22)), (22, .inl (pst (g_i2l) 23)), (23, .inl (ploadk isI 4 25)), (25, .inl (pst (g_i2l) 26)), (26, .inl (ploadk isI 5 28)), (28, .inl (pst (g_i2l) 29)), (29, .inr (.inl (122, 3, none))), (32, .inl (pstore isI 7 34)), (34, .inl (ploadk isA 0 35)), (35, .inl (pst (g_dup) 36)), (36, .inl (pgetf2 4 12 39)), (39, .inl (ploadk isI 7 41)), (41, .inl (pif (fun x => cEq x 0) 48 44)), (44, .inl (pst (g_k (.int (1))) 45)), (45, .inl (pst g_id 49)), (48, .inl (pst (g_k (.int (0))) 49)), (49, .inl (pst (g_i2 (· + ·)) 50)), (50, .inl (pputf2 4 12 (.int) 53)), (53, .inl (ploadk isI 7 55)), (55, .inl (pif (fun x => cEq x 0) 63 58)), (58, .inl (ploadk isI 6 60)), (60, .inl (pst g_id 65)), (63, .inl (pst (g_k (.int (-9))) 65)), (65, .inr (.inr (some .int)))]
def ubX5_readsFloor : pM2 := [(0, .inl (ploadk isA 0 1)), (1, .inl (ploadk isA 0 2)), (2, .inl (ploadk isI 1 3)), (3, .inl (ploadk isI 2 4)), (4, .inl (pst (g_k (.int (0))) 5)), (5, .inl (pst (g_k (.int (2))) 6)), (6, .inl (pst (g_k (.int (6))) 8)), (8, .inr (.inl (133, 6, some 4))), (11, .inl (pputf2 4 13 (.int) 14)), (14, .inl (ploadk isA 0 15)), (15, .inl (ploadk isA 0 16)), (16, .inl (ploadk isI 1 17)), (17, .inl (ploadk isI 2 18)), (18, .inl (ploadk isA 0 19)), (19, .inl (pgetf2 4 13 22)), (22, .inl (pst (g_k (.int (2))) 23)), (23, .inl (pst (g_k (.int (6))) 25)), (25, .inr (.inl (133, 6, some 4))), (28, .inl (pputf2 4 14 (.int) 31)), (31, .inl (ploadk isA 0 32)), (32, .inl (pgetf2 4 14 35)), (35, .inl (pif (fun x => cLe x 0) 42 38)), (38, .inl (pst (g_k (.int (1))) 39)), (39, .inl (pst g_id 43)), (42, .inl (pst (g_k (.int (0))) 43)), (43, .inl (pstore isI 3 44)), (44, .inl (pst (g_k (.int (0))) 45)), (45, .inl (pstore isI 4 47)), (47, .inl (ploadk isI 3 48)), (48, .inl (pif (fun x => cEq x 0) 104 51)), (51, .inl (ploadk isI 4 53)), (53, .inl (ploadk isA 0 54)), (54, .inl (pgetf2 4 13 57)), (57, .inl (ploadk isA 0 58)), (58, .inl (pgetf2 4 14 61)), (61, .inl (pst (g_i2 (· * ·)) 62)), (62, .inl (picmp cGe 104 65)), (65, .inl (ploadk isA 0 66)), (66, .inl (pgetf2 4 18 69)), (69, .inl (ploadk isI 4 71)), (71, .inl (ploadk isA 0 72)), (72, .inl (ploadk isI 1 73)), (73, .inl (ploadk isI 2 74)), (74, .inl (pst (g_k (.int (0))) 75)), (75, .inl (pst (g_k (.int (0))) 76)), (76, .inl (pst (g_k (.int (9))) 78)), (78, .inr (.inl (133, 6, some 4))), (81, .inl (piast2 82)), (82, .inl (ploadk isA 0 83)), (83, .inl (pgetf2 4 18 86)), (86, .inl (ploadk isI 4 88)), (88, .inl (piald2 89)), (89, .inl (pif (fun x => cLt x 0) 96 92)), (92, .inl (pst (g_k (.int (1))) 93)), (93, .inl (pst g_id 97)), (96, .inl (pst (g_k (.int (0))) 97)), (97, .inl (pstore isI 3 98)), (98, .inl (piinc 4 (1) 101)), (101, .inl (pst g_id 47)), (104, .inl (ploadk isI 3 105)), (105, .inr (.inr (some .boolean)))]
def ubX5_readsLooker : pM2 := [(0, .inl (ploadk isA 0 1)), (1, .inl (ploadk isI 1 2)), (2, .inl (ploadk isI 2 3)), (3, .inr (.inl (132, 3, some 4))), (6, .inl (pst (g_k (.int (59))) 8)), (8, .inl (picmp cNe 30 11)), (11, .inl (ploadk isA 0 12)), (12, .inl (pgetf2 4 15 15)), (15, .inl (pst (g_k (.int (4))) 16)), (16, .inl (picmp cEq 30 19)), (19, .inl (ploadk isA 0 20)), (20, .inl (pgetf2 4 15 23)), (23, .inl (ploadk isA 0 24)), (24, .inl (pgetf2 4 13 27)), (27, .inl (picmp cNe 32 30)), (30, .inl (pst (g_k (.int (0))) 31)), (31, .inr (.inr (some .boolean))), (32, .inl (ploadk isA 0 33)), (33, .inl (pst (g_dup) 34)), (34, .inl (pgetf2 4 12 37)), (37, .inl (pst (g_k (.int (1))) 38)), (38, .inl (pst (g_i2 (· + ·)) 39)), (39, .inl (pputf2 4 12 (.int) 42)), (42, .inl (ploadk isA 0 43)), (43, .inl (ploadk isI 1 44)), (44, .inl (ploadk isI 2 45)), (45, .inr (.inl (132, 3, some 4))), (48, .inl (pstore isI 3 49)), (49, .inl (ploadk isI 3 50)), (50, .inl (pst (g_k (.int (112))) 52)), (52, .inl (picmp cEq 69 55)), (55, .inl (ploadk isI 3 56)), (56, .inl (pst (g_k (.int (100))) 58)), (58, .inl (picmp cEq 69 61)), (61, .inl (ploadk isI 3 62)), (62, .inl (pst (g_k (.int (103))) 64)), (64, .inl (picmp cEq 69 67)), (67, .inl (pst (g_k (.int (0))) 68)), (68, .inr (.inr (some .boolean))), (69, .inl (ploadk isA 0 70)), (70, .inl (pst (g_dup) 71)), (71, .inl (pgetf2 4 12 74)), (74, .inl (pst (g_k (.int (1))) 75)), (75, .inl (pst (g_i2 (· + ·)) 76)), (76, .inl (pputf2 4 12 (.int) 79)), (79, .inl (ploadk isA 0 80)), (80, .inl (pgetf2 4 19 83)), (83, .inl (ploadk isA 0 84)), (84, .inl (pgetf2 4 15 87)), (87, .inl (ploadk isI 3 88)), (88, .inl (pst (g_k (.int (112))) 90)), (90, .inl (picmp cNe 97 93)), (93, .inl (pst (g_k (.int (0))) 94)), (94, .inl (pst g_id 108)), (97, .inl (ploadk isI 3 98)), (98, .inl (pst (g_k (.int (100))) 100)), (100, .inl (picmp cNe 107 103)), (103, .inl (pst (g_k (.int (1))) 104)), (104, .inl (pst g_id 108)), (107, .inl (pst (g_k (.int (2))) 108)), (108, .inl (piast2 109)), (109, .inl (ploadk isA 0 110)), (110, .inl (pgetf2 4 20 113)), (113, .inl (ploadk isA 0 114)), (114, .inl (pgetf2 4 15 117)), (117, .inl (ploadk isA 0 118)), (118, .inl (ploadk isI 1 119)), (119, .inl (ploadk isI 2 120)), (120, .inl (pst (g_k (.int (0))) 121)), (121, .inl (pst (g_k (.int (0))) 122)), (122, .inl (pst (g_k (.int (9))) 124)), (124, .inr (.inl (133, 6, some 4))), (127, .inl (piast2 128)), (128, .inl (ploadk isA 0 129)), (129, .inl (pst (g_dup) 130)), (130, .inl (pgetf2 4 15 133)), (133, .inl (pst (g_k (.int (1))) 134)), (134, .inl (pst (g_i2 (· + ·)) 135)), (135, .inl (pputf2 4 15 (.int) 138)), (138, .inl (ploadk isA 0 139)), (139, .inl (pgetf2 4 20 142)), (142, .inl (ploadk isA 0 143)), (143, .inl (pgetf2 4 15 146)), (146, .inl (pst (g_k (.int (1))) 147)), (147, .inl (pst (g_i2 (· - ·)) 148)), (148, .inl (piald2 149)), (149, .inl (pif (fun x => cLt x 0) 156 152)), (152, .inl (pst (g_k (.int (1))) 153)), (153, .inl (pst g_id 157)), (156, .inl (pst (g_k (.int (0))) 157)), (157, .inr (.inr (some .boolean)))]
def ubX5_readsSea : pM2 := [(0, .inl (ploadk isA 0 1)), (1, .inl (pst (g_k (.int (0))) 2)), (2, .inl (pputf2 4 12 (.int) 5)), (5, .inl (ploadk isA 0 6)), (6, .inl (pst (g_k (.int (0))) 7)), (7, .inl (pputf2 4 15 (.int) 10)), (10, .inl (ploadk isA 0 11)), (11, .inl (ploadk isI 1 12)), (12, .inl (ploadk isI 2 13)), (13, .inr (.inl (132, 3, some 4))), (16, .inl (pst (g_k (.int (102))) 18)), (18, .inl (picmp cEq 23 21)), (21, .inl (pst (g_k (.int (0))) 22)), (22, .inr (.inr (some .boolean))), (23, .inl (ploadk isA 0 24)), (24, .inl (pst (g_dup) 25)), (25, .inl (pgetf2 4 12 28)), (28, .inl (pst (g_k (.int (1))) 29)), (29, .inl (pst (g_i2 (· + ·)) 30)), (30, .inl (pputf2 4 12 (.int) 33)), (33, .inl (ploadk isA 0 34)), (34, .inl (ploadk isI 1 35)), (35, .inl (ploadk isI 2 36)), (36, .inr (.inl (134, 3, some 4))), (39, .inl (pstore isI 3 40)), (40, .inl (ploadk isI 3 41)), (41, .inl (pif (fun x => cEq x 0) 72 44)), (44, .inl (ploadk isA 0 45)), (45, .inl (pgetf2 4 15 48)), (48, .inl (pif (fun x => cEq x 0) 62 51)), (51, .inl (ploadk isA 0 52)), (52, .inl (ploadk isI 1 53)), (53, .inl (ploadk isI 2 54)), (54, .inr (.inl (132, 3, some 4))), (57, .inl (pst (g_k (.int (47))) 59)), (59, .inl (picmp cEq 72 62)), (62, .inl (ploadk isA 0 63)), (63, .inl (ploadk isI 1 64)), (64, .inl (ploadk isI 2 65)), (65, .inr (.inl (135, 3, some 4))), (68, .inl (pstore isI 3 69)), (69, .inl (pst g_id 40)), (72, .inl (ploadk isI 3 73)), (73, .inl (pif (fun x => cNe x 0) 78 76)), (76, .inl (pst (g_k (.int (0))) 77)), (77, .inr (.inr (some .boolean))), (78, .inl (ploadk isA 0 79)), (79, .inl (pst (g_dup) 80)), (80, .inl (pgetf2 4 12 83)), (83, .inl (pst (g_k (.int (1))) 84)), (84, .inl (pst (g_i2 (· + ·)) 85)), (85, .inl (pputf2 4 12 (.int) 88)), (88, .inl (ploadk isA 0 89)), (89, .inl (ploadk isA 0 90)), (90, .inl (ploadk isI 1 91)), (91, .inl (ploadk isI 2 92)), (92, .inl (pst (g_k (.int (0))) 93)), (93, .inl (pst (g_k (.int (0))) 94)), (94, .inl (ploadk isA 0 95)), (95, .inl (pgetf2 4 13 98)), (98, .inl (ploadk isA 0 99)), (99, .inl (pgetf2 4 15 102)), (102, .inl (pst (g_i2 (· - ·)) 103)), (103, .inr (.inl (133, 6, some 4))), (106, .inl (pputf2 4 16 (.int) 109)), (109, .inl (ploadk isA 0 110)), (110, .inl (ploadk isA 0 111)), (111, .inl (ploadk isI 1 112)), (112, .inl (ploadk isI 2 113)), (113, .inl (ploadk isA 0 114)), (114, .inl (pgetf2 4 16 117)), (117, .inl (pst (g_k (.int (0))) 118)), (118, .inl (ploadk isA 0 119)), (119, .inl (pgetf2 4 14 122)), (122, .inl (pst (g_k (.int (1))) 123)), (123, .inl (pst (g_i2 (· - ·)) 124)), (124, .inr (.inl (133, 6, some 4))), (127, .inl (pputf2 4 17 (.int) 130)), (130, .inl (ploadk isA 0 131)), (131, .inl (pgetf2 4 17 134)), (134, .inl (pif (fun x => cLt x 0) 149 137)), (137, .inl (ploadk isA 0 138)), (138, .inl (pgetf2 4 12 141)), (141, .inl (ploadk isI 2 142)), (142, .inl (picmp cNe 149 145)), (145, .inl (pst (g_k (.int (1))) 146)), (146, .inl (pst g_id 150)), (149, .inl (pst (g_k (.int (0))) 150)), (150, .inr (.inr (some .boolean)))]
def ubX5_cellsBarred : pM2 := [(0, .inl (ploadk isA 0 1)), (1, .inl (pgetf2 4 29 4)), (4, .inl (ploadk isI 1 5)), (5, .inl (piald2 6)), (6, .inl (pif (fun x => cLt x 0) 25 9)), (9, .inl (ploadk isA 0 10)), (10, .inl (pgetf2 4 30 13)), (13, .inl (ploadk isI 1 14)), (14, .inl (piald2 15)), (15, .inl (ploadk isI 2 16)), (16, .inl (picmp cEq 25 19)), (19, .inl (ploadk isA 0 20)), (20, .inl (pst (g_k (.int (2))) 21)), (21, .inr (.inl (128, 2, some 4))), (24, .inr (.inr (some .int))), (25, .inl (ploadk isA 0 26)), (26, .inl (pgetf2 4 29 29)), (29, .inl (ploadk isI 1 30)), (30, .inl (piald2 31)), (31, .inl (pif (fun x => cGe x 0) 40 34)), (34, .inl (ploadk isA 0 35)), (35, .inl (pst (g_k (.int (1))) 36)), (36, .inr (.inl (128, 2, some 4))), (39, .inr (.inr (some .int))), (40, .inl (ploadk isL 4 42)), (42, .inl (pst (g_k (.long 0)) 43)), (43, .inl (pst (g_lcmp) 44)), (44, .inl (pif (fun x => cGe x 0) 53 47)), (47, .inl (ploadk isA 0 48)), (48, .inl (pst (g_k (.int (4))) 49)), (49, .inr (.inl (128, 2, some 4))), (52, .inr (.inr (some .int))), (53, .inl (ploadk isI 3 54)), (54, .inl (ploadk isL 4 56)), (56, .inl (ploadk isA 0 57)), (57, .inl (pgetf2 4 29 60)), (60, .inl (ploadk isI 1 61)), (61, .inl (piald2 62)), (62, .inr (.inl (185, 3, none))), (65, .inl (pif (fun x => cEq x 0) 76 68)), (68, .inl (ploadk isA 0 69)), (69, .inl (pst (g_k (.int (3))) 70)), (70, .inr (.inl (128, 2, some 4))), (73, .inl (pst g_id 77)), (76, .inl (pst (g_k (.int (0))) 77)), (77, .inr (.inr (some .int)))]
def ubX5_sea : pM2 := [(0, .inl (ploadk isI 1 1)), (1, .inr (.inl (179, 1, none))), (4, .inl (pif (fun x => cEq x 0) 13 7)), (7, .inl (ploadk isA 0 8)), (8, .inl (pst (g_k (.int (-1))) 9)), (9, .inr (.inl (127, 2, some 4))), (12, .inr (.inr (some .int))), (13, .inl (ploadk isI 2 14)), (14, .inl (pst (g_i2l) 15)), (15, .inl (pst (g_k (.long 0)) 16)), (16, .inl (pst (g_k (.long (2))) 19)), (19, .inr (.inl (122, 3, none))), (22, .inl (pif (fun x => cNe x 0) 32 25)), (25, .inl (ploadk isA 0 26)), (26, .inl (pst (g_k (.int (-2))) 28)), (28, .inr (.inl (127, 2, some 4))), (31, .inr (.inr (some .int))), (32, .inl (ploadk isA 0 33)), (33, .inl (ploadk isI 1 34)), (34, .inl (ploadk isI 2 35)), (35, .inl (ploadk isI 3 36)), (36, .inl (ploadk isI 4 38)), (38, .inl (pst (g_i2l) 39)), (39, .inr (.inl (137, 5, some 4))), (42, .inl (pstore isI 5 44)), (44, .inl (ploadk isI 5 46)), (46, .inl (pif (fun x => cGe x 0) 52 49)), (49, .inl (ploadk isI 5 51)), (51, .inr (.inr (some .int))), (52, .inl (ploadk isA 0 53)), (53, .inl (pst (g_k (.int (60))) 55)), (55, .inl (ploadk isI 1 56)), (56, .inl (pst (g_i2 (· * ·)) 57)), (57, .inl (ploadk isI 3 58)), (58, .inl (pst (g_i2 (· + ·)) 59)), (59, .inl (ploadk isI 4 61)), (61, .inr (.inl (136, 3, some 4))), (64, .inl (pif (fun x => cNe x 0) 79 67)), (67, .inl (ploadk isA 0 68)), (68, .inl (pst (g_k (.int (-100))) 70)), (70, .inl (ploadk isA 0 71)), (71, .inl (pgetf2 4 12 74)), (74, .inl (pst (g_i2 (· - ·)) 75)), (75, .inr (.inl (127, 2, some 4))), (78, .inr (.inr (some .int))), (79, .inl (ploadk isA 0 80)), (80, .inl (ploadk isA 0 81)), (81, .inl (pgetf2 4 13 84)), (84, .inl (pputf2 4 1 (.int) 87)), (87, .inl (ploadk isA 0 88)), (88, .inl (ploadk isA 0 89)), (89, .inl (pgetf2 4 14 92)), (92, .inl (pputf2 4 2 (.int) 95)), (95, .inl (ploadk isA 0 96)), (96, .inl (ploadk isA 0 97)), (97, .inl (pgetf2 4 15 100)), (100, .inl (pputf2 4 3 (.int) 103)), (103, .inl (ploadk isA 0 104)), (104, .inl (ploadk isA 0 105)), (105, .inl (pgetf2 4 16 108)), (108, .inl (pputf2 4 4 (.int) 111)), (111, .inl (ploadk isA 0 112)), (112, .inl (ploadk isA 0 113)), (113, .inl (pgetf2 4 17 116)), (116, .inl (pputf2 4 5 (.int) 119)), (119, .inl (pst (g_k (.int (0))) 120)), (120, .inl (pstore isI 6 122)), (122, .inl (pclr [1, 2, 3, 4, 5] (ploadk isI 6 124))), (124, .inl (ploadk isA 0 125)), (125, .inl (pgetf2 4 1 128)), (128, .inl (ploadk isA 0 129)), (129, .inl (pgetf2 4 2 132)), (132, .inl (pst (g_i2 (· * ·)) 133)), (133, .inl (picmp cGe 156 136)), (136, .inl (ploadk isA 0 137)), (137, .inl (pgetf2 4 9 140)), (140, .inl (ploadk isI 6 142)), (142, .inl (ploadk isA 0 143)), (143, .inl (pgetf2 4 18 146)), (146, .inl (ploadk isI 6 148)), (148, .inl (piald2 149)), (149, .inl (piast2 150)), (150, .inl (piinc 6 (1) 153)), (153, .inl (pst g_id 122)), (156, .inl (pst (g_k (.int (0))) 157)), (157, .inl (pstore isI 6 159)), (159, .inl (pclr [1, 2, 3, 4, 5] (ploadk isI 6 161))), (161, .inl (ploadk isA 0 162)), (162, .inl (pgetf2 4 3 165)), (165, .inl (picmp cGe 202 168)), (168, .inl (ploadk isA 0 169)), (169, .inl (pgetf2 4 10 172)), (172, .inl (ploadk isI 6 174)), (174, .inl (ploadk isA 0 175)), (175, .inl (pgetf2 4 19 178)), (178, .inl (ploadk isI 6 180)), (180, .inl (piald2 181)), (181, .inl (piast2 182)), (182, .inl (ploadk isA 0 183)), (183, .inl (pgetf2 4 11 186)), (186, .inl (ploadk isI 6 188)), (188, .inl (ploadk isA 0 189)), (189, .inl (pgetf2 4 20 192)), (192, .inl (ploadk isI 6 194)), (194, .inl (piald2 195)), (195, .inl (piast2 196)), (196, .inl (piinc 6 (1) 199)), (199, .inl (pst g_id 159)), (202, .inl (ploadk isA 0 203)), (203, .inl (pst (g_k (.int (0))) 204)), (204, .inl (pputf2 4 6 (.int) 207)), (207, .inl (ploadk isA 0 208)), (208, .inl (pst (g_k (.int (0))) 209)), (209, .inl (pputf2 4 7 (.int) 212)), (212, .inl (ploadk isA 0 213)), (213, .inl (ploadk isA 0 214)), (214, .inr (.inl (141, 1, some 4))), (217, .inl (pputf2 4 8 (.long) 220)), (220, .inl (ploadk isA 0 221)), (221, .inl (pst (g_k (.int (0))) 222)), (222, .inl (pputf2 4 25 (.int) 225)), (225, .inl (ploadk isA 0 226)), (226, .inl (ploadk isA 0 227)), (227, .inl (pgetf2 4 3 230)), (230, .inr (.inl (127, 2, some 4))), (233, .inr (.inr (some .int)))]
def ubX5_placeOf : pM2 := [(0, .inl (ploadk isA 0 1)), (1, .inl (pgetf2 4 1 4)), (4, .inl (ploadk isA 0 5)), (5, .inl (pgetf2 4 5 8)), (8, .inl (pst (g_i2 (· * ·)) 9)), (9, .inl (ploadk isA 0 10)), (10, .inl (pgetf2 4 4 13)), (13, .inl (pst (g_i2 (· + ·)) 14)), (14, .inl (ploadk isI 1 15)), (15, .inl (pst (g_i2 (· + ·)) 16)), (16, .inr (.inr (some .int)))]
def ubX5_tells : pM2 := [(0, .inl (ploadk isI 2 1)), (1, .inl (ploadk isA 0 2)), (2, .inl (pgetf2 4 11 5)), (5, .inl (ploadk isI 1 6)), (6, .inl (piald2 7)), (7, .inl (picmp cLe 21 10)), (10, .inl (ploadk isI 2 11)), (11, .inl (ploadk isA 0 12)), (12, .inl (pgetf2 4 11 15)), (15, .inl (ploadk isI 1 16)), (16, .inl (piald2 17)), (17, .inl (pst (g_i2 (· - ·)) 18)), (18, .inl (pst g_id 22)), (21, .inl (pst (g_k (.int (0))) 22)), (22, .inl (pstore isI 3 23)), (23, .inl (ploadk isA 0 24)), (24, .inl (pgetf2 4 10 27)), (27, .inl (ploadk isI 1 28)), (28, .inl (piald2 29)), (29, .inl (pif (fun x => cNe x 0) 36 32)), (32, .inl (ploadk isI 3 33)), (33, .inl (pst g_id 57)), (36, .inl (ploadk isA 0 37)), (37, .inl (pgetf2 4 10 40)), (40, .inl (ploadk isI 1 41)), (41, .inl (piald2 42)), (42, .inl (pst (g_k (.int (1))) 43)), (43, .inl (picmp cNe 52 46)), (46, .inl (ploadk isI 3 47)), (47, .inl (pst (g_k (.int (1))) 48)), (48, .inl (pst (g_i2 (· + ·)) 49)), (49, .inl (pst g_id 57)), (52, .inl (pst (g_k (.int (2))) 53)), (53, .inl (ploadk isI 3 54)), (54, .inl (pst (g_i2 (· * ·)) 55)), (55, .inl (pst (g_k (.int (2))) 56)), (56, .inl (pst (g_i2 (· + ·)) 57)), (57, .inr (.inr (some .int)))]
def ubX5_over : pM2 := [(0, .inl (pst (g_k (.long 0)) 1)), (1, .inl (pstore isL 1 2)), (2, .inl (pst (g_k (.int (0))) 3)), (3, .inl (pstore isI 3 4)), (4, .inl (ploadk isI 3 5)), (5, .inl (ploadk isA 0 6)), (6, .inl (pgetf2 4 3 9)), (9, .inl (picmp cGe 43 12)), (12, .inl (ploadk isL 1 13)), (13, .inl (ploadk isA 0 14)), (14, .inl (pgetf2 4 7 17)), (17, .inl (ploadk isI 3 18)), (18, .inr (.inl (124, 2, none))), (21, .inl (pif (fun x => cEq x 0) 28 24)), (24, .inl (pst (g_k (.long 0)) 25)), (25, .inl (pst g_id 35)), (28, .inl (pst (g_k (.long 1)) 29)), (29, .inl (ploadk isA 0 30)), (30, .inl (ploadk isI 3 31)), (31, .inr (.inl (139, 2, some 4))), (34, .inl (pst (g_ls lshl) 35)), (35, .inl (pst (g_l2 (· ||| ·)) 36)), (36, .inl (pstore isL 1 37)), (37, .inl (piinc 3 (1) 40)), (40, .inl (pst g_id 4)), (43, .inl (ploadk isL 1 44)), (44, .inr (.inr (some .long)))]
def ubX5_ofLooker : pM2 := [(0, .inl (ploadk isA 0 1)), (1, .inl (ploadk isI 1 2)), (2, .inr (.inl (130, 2, some 4))), (5, .inl (pif (fun x => cEq x 0) 10 8)), (8, .inl (pst (g_k (.int (-1))) 9)), (9, .inr (.inr (some .int))), (10, .inl (ploadk isI 2 11)), (11, .inl (psw [(0, 44), (1, 51), (2, 58), (3, 67), (4, 73)] 89)), (44, .inl (ploadk isA 0 45)), (45, .inl (pgetf2 4 10 48)), (48, .inl (ploadk isI 1 49)), (49, .inl (piald2 50)), (50, .inr (.inr (some .int))), (51, .inl (ploadk isA 0 52)), (52, .inl (pgetf2 4 11 55)), (55, .inl (ploadk isI 1 56)), (56, .inl (piald2 57)), (57, .inr (.inr (some .int))), (58, .inl (ploadk isA 0 59)), (59, .inl (pgetf2 4 7 62)), (62, .inl (ploadk isI 1 63)), (63, .inl (pst (g_i2 shr) 64)), (64, .inl (pst (g_k (.int (1))) 65)), (65, .inl (pst (g_i2 (· &&& ·)) 66)), (66, .inr (.inr (some .int))), (67, .inl (ploadk isA 0 68)), (68, .inl (ploadk isI 1 69)), (69, .inr (.inl (139, 2, some 4))), (72, .inr (.inr (some .int))), (73, .inl (ploadk isA 0 74)), (74, .inl (ploadk isI 1 75)), (75, .inl (ploadk isA 0 76)), (76, .inl (pgetf2 4 9 79)), (79, .inl (ploadk isA 0 80)), (80, .inl (ploadk isI 1 81)), (81, .inr (.inl (139, 2, some 4))), (84, .inl (piald2 85)), (85, .inr (.inl (140, 3, some 4))), (88, .inr (.inr (some .int))), (89, .inl (pst (g_k (.int (-2))) 91)), (91, .inr (.inr (some .int)))]
def ubX5_height : pM2 := [(0, .inl (ploadk isA 0 1)), (1, .inl (ploadk isI 1 2)), (2, .inr (.inl (131, 2, some 4))), (5, .inl (pif (fun x => cEq x 0) 12 8)), (8, .inl (pst (g_k (.int (-1))) 9)), (9, .inl (pst g_id 18)), (12, .inl (ploadk isA 0 13)), (13, .inl (pgetf2 4 9 16)), (16, .inl (ploadk isI 1 17)), (17, .inl (piald2 18)), (18, .inr (.inr (some .int)))]
def ubX5_heap : pM2 := [(0, .inl (ploadk isA 0 1)), (1, .inl (ploadk isI 1 2)), (2, .inr (.inl (131, 2, some 4))), (5, .inl (pif (fun x => cEq x 0) 10 8)), (8, .inl (pst (g_k (.int (-1))) 9)), (9, .inr (.inr (some .int))), (10, .inl (ploadk isI 2 11)), (11, .inl (pst (g_i2l) 12)), (12, .inl (pst (g_k (.long 0)) 13)), (13, .inl (pst (g_k (.long (9))) 16)), (16, .inr (.inl (122, 3, none))), (19, .inl (pif (fun x => cNe x 0) 25 22)), (22, .inl (pst (g_k (.int (-2))) 24)), (24, .inr (.inr (some .int))), (25, .inl (ploadk isA 0 26)), (26, .inl (pgetf2 4 9 29)), (29, .inl (ploadk isI 1 30)), (30, .inl (piald2 31)), (31, .inl (pstore isI 3 32)), (32, .inl (ploadk isA 0 33)), (33, .inl (pgetf2 4 9 36)), (36, .inl (ploadk isI 1 37)), (37, .inl (ploadk isI 2 38)), (38, .inl (piast2 39)), (39, .inl (ploadk isI 3 40)), (40, .inr (.inr (some .int)))]
def ubX5_dim : pM2 := [(0, .inl (ploadk isA 0 1)), (1, .inl (ploadk isI 1 2)), (2, .inr (.inl (130, 2, some 4))), (5, .inl (pif (fun x => cEq x 0) 10 8)), (8, .inl (pst (g_k (.int (-1))) 9)), (9, .inr (.inr (some .int))), (10, .inl (ploadk isI 2 11)), (11, .inl (pst (g_i2l) 12)), (12, .inl (pst (g_k (.long 0)) 13)), (13, .inl (pst (g_k (.long (9))) 16)), (16, .inr (.inl (122, 3, none))), (19, .inl (pif (fun x => cNe x 0) 25 22)), (22, .inl (pst (g_k (.int (-2))) 24)), (24, .inr (.inr (some .int))), (25, .inl (ploadk isA 0 26)), (26, .inl (pgetf2 4 11 29)), (29, .inl (ploadk isI 1 30)), (30, .inl (piald2 31)), (31, .inl (pstore isI 3 32)), (32, .inl (ploadk isA 0 33)), (33, .inl (pgetf2 4 11 36)), (36, .inl (ploadk isI 1 37)), (37, .inl (ploadk isI 2 38)), (38, .inl (piast2 39)), (39, .inl (ploadk isI 3 40)), (40, .inr (.inr (some .int)))]
def ubX5_scrape : pM2 := [(0, .inl (ploadk isA 0 1)), (1, .inl (ploadk isI 1 2)), (2, .inr (.inl (130, 2, some 4))), (5, .inl (pif (fun x => cEq x 0) 10 8)), (8, .inl (pst (g_k (.int (-1))) 9)), (9, .inr (.inr (some .int))), (10, .inl (ploadk isA 0 11)), (11, .inl (pgetf2 4 7 14)), (14, .inl (ploadk isI 1 15)), (15, .inr (.inl (124, 2, none))), (18, .inl (pif (fun x => cEq x 0) 24 21)), (21, .inl (pst (g_k (.int (-3))) 23)), (23, .inr (.inr (some .int))), (24, .inl (ploadk isA 0 25)), (25, .inl (pst (g_dup) 26)), (26, .inl (pgetf2 4 7 29)), (29, .inl (pst (g_k (.int (1))) 30)), (30, .inl (ploadk isI 1 31)), (31, .inl (pst (g_i2 shl) 32)), (32, .inl (pst (g_i2 (· ||| ·)) 33)), (33, .inl (pputf2 4 7 (.int) 36)), (36, .inl (ploadk isA 0 37)), (37, .inl (pgetf2 4 3 40)), (40, .inl (ploadk isA 0 41)), (41, .inl (pgetf2 4 7 44)), (44, .inl (pst (g_i2l) 45)), (45, .inr (.inl (125, 1, none))), (48, .inl (pst (g_i2 (· - ·)) 49)), (49, .inr (.inr (some .int)))]
def ubX5_grow : pM2 := [(0, .inl (ploadk isA 0 1)), (1, .inl (ploadk isI 1 2)), (2, .inr (.inl (130, 2, some 4))), (5, .inl (pif (fun x => cEq x 0) 10 8)), (8, .inl (pst (g_k (.int (-1))) 9)), (9, .inr (.inr (some .int))), (10, .inl (ploadk isA 0 11)), (11, .inl (pgetf2 4 7 14)), (14, .inl (ploadk isI 1 15)), (15, .inr (.inl (124, 2, none))), (18, .inl (pif (fun x => cNe x 0) 24 21)), (21, .inl (pst (g_k (.int (-3))) 23)), (23, .inr (.inr (some .int))), (24, .inl (ploadk isA 0 25)), (25, .inl (pst (g_dup) 26)), (26, .inl (pgetf2 4 7 29)), (29, .inl (pst (g_k (.int (1))) 30)), (30, .inl (ploadk isI 1 31)), (31, .inl (pst (g_i2 shl) 32)), (32, .inl (pst (g_k (.int (-1))) 33)), (33, .inl (pst (g_i2 (· ^^^ ·)) 34)), (34, .inl (pst (g_i2 (· &&& ·)) 35)), (35, .inl (pputf2 4 7 (.int) 38)), (38, .inl (ploadk isA 0 39)), (39, .inl (pst (g_dup) 40)), (40, .inl (pgetf2 4 8 43)), (43, .inl (ploadk isA 0 44)), (44, .inr (.inl (141, 1, some 4))), (47, .inl (pst (g_l2 (· ||| ·)) 48)), (48, .inl (pputf2 4 8 (.long) 51)), (51, .inl (ploadk isA 0 52)), (52, .inl (pgetf2 4 3 55)), (55, .inl (ploadk isA 0 56)), (56, .inl (pgetf2 4 7 59)), (59, .inl (pst (g_i2l) 60)), (60, .inr (.inl (125, 1, none))), (63, .inl (pst (g_i2 (· - ·)) 64)), (64, .inr (.inr (some .int)))]
def ubX5_seen : pM2 := [(0, .inl (ploadk isA 0 1)), (1, .inl (pgetf2 4 3 4)), (4, .inl (pif (fun x => cNe x 0) 13 7)), (7, .inr (.inl (123, 0, none))), (10, .inl (pst g_id 17)), (13, .inl (ploadk isA 0 14)), (14, .inl (pgetf2 4 8 17)), (17, .inr (.inr (some .long)))]
def ubX5_isPlace : pM2 := [(0, .inl (ploadk isI 1 1)), (1, .inl (pst (g_i2l) 2)), (2, .inl (pst (g_k (.long 0)) 3)), (3, .inl (ploadk isA 0 4)), (4, .inl (pgetf2 4 1 7)), (7, .inl (ploadk isA 0 8)), (8, .inl (pgetf2 4 3 11)), (11, .inl (pst (g_i2 (· - ·)) 12)), (12, .inl (pst (g_i2l) 13)), (13, .inr (.inl (122, 3, none))), (16, .inl (pif (fun x => cEq x 0) 39 19)), (19, .inl (ploadk isI 2 20)), (20, .inl (pst (g_i2l) 21)), (21, .inl (pst (g_k (.long 0)) 22)), (22, .inl (ploadk isA 0 23)), (23, .inl (pgetf2 4 2 26)), (26, .inl (pst (g_i2l) 27)), (27, .inl (pst (g_k (.long 1)) 28)), (28, .inl (pst (g_l2 (· - ·)) 29)), (29, .inr (.inl (122, 3, none))), (32, .inl (pif (fun x => cEq x 0) 39 35)), (35, .inl (pst (g_k (.int (1))) 36)), (36, .inl (pst g_id 40)), (39, .inl (pst (g_k (.int (0))) 40)), (40, .inr (.inr (some .boolean)))]
def ubX5_columnBy : pM2 := [(0, .inl (ploadk isI 0 1)), (1, .inl (pst (g_k (.int (1))) 2)), (2, .inl (picmp cNe 9 5)), (5, .inl (pst (g_k (.int (1))) 6)), (6, .inl (pst g_id 19)), (9, .inl (ploadk isI 0 10)), (10, .inl (pst (g_k (.int (3))) 11)), (11, .inl (picmp cNe 18 14)), (14, .inl (pst (g_k (.int (-1))) 15)), (15, .inl (pst g_id 19)), (18, .inl (pst (g_k (.int (0))) 19)), (19, .inr (.inr (some .int)))]
def ubX5_rowBy : pM2 := [(0, .inl (ploadk isI 0 1)), (1, .inl (pif (fun x => cNe x 0) 8 4)), (4, .inl (pst (g_k (.int (-1))) 5)), (5, .inl (pst g_id 18)), (8, .inl (ploadk isI 0 9)), (9, .inl (pst (g_k (.int (2))) 10)), (10, .inl (picmp cNe 17 13)), (13, .inl (pst (g_k (.int (1))) 14)), (14, .inl (pst g_id 18)), (17, .inl (pst (g_k (.int (0))) 18)), (18, .inr (.inr (some .int)))]
def ubX5_steps : pM2 := [(0, .inl (ploadk isA 0 1)), (1, .inl (pgetf2 4 4 4)), (4, .inl (ploadk isI 1 5)), (5, .inr (.inl (150, 1, none))), (8, .inl (pst (g_i2 (· + ·)) 9)), (9, .inl (pstore isI 2 10)), (10, .inl (ploadk isA 0 11)), (11, .inl (pgetf2 4 5 14)), (14, .inl (ploadk isI 1 15)), (15, .inr (.inl (151, 1, none))), (18, .inl (pst (g_i2 (· + ·)) 19)), (19, .inl (pstore isI 3 20)), (20, .inl (ploadk isA 0 21)), (21, .inl (ploadk isI 2 22)), (22, .inl (ploadk isI 3 23)), (23, .inr (.inl (149, 3, some 4))), (26, .inl (pif (fun x => cNe x 0) 31 29)), (29, .inl (pst (g_k (.int (0))) 30)), (30, .inr (.inr (some .boolean))), (31, .inl (ploadk isA 0 32)), (32, .inl (ploadk isI 2 33)), (33, .inl (pputf2 4 4 (.int) 36)), (36, .inl (ploadk isA 0 37)), (37, .inl (ploadk isI 3 38)), (38, .inl (pputf2 4 5 (.int) 41)), (41, .inl (ploadk isA 0 42)), (42, .inl (pst (g_dup) 43)), (43, .inl (pgetf2 4 8 46)), (46, .inl (ploadk isA 0 47)), (47, .inr (.inl (141, 1, some 4))), (50, .inl (pst (g_l2 (· ||| ·)) 51)), (51, .inl (pputf2 4 8 (.long) 54)), (54, .inl (pst (g_k (.int (1))) 55)), (55, .inr (.inr (some .boolean)))]
def ubX5_step : pM2 := [(0, .inl (ploadk isI 1 1)), (1, .inl (pst (g_i2l) 2)), (2, .inl (pst (g_k (.long 0)) 3)), (3, .inl (pst (g_k (.long (3))) 6)), (6, .inr (.inl (122, 3, none))), (9, .inl (pif (fun x => cNe x 0) 15 12)), (12, .inl (pst (g_k (.int (-2))) 14)), (14, .inr (.inr (some .int))), (15, .inl (ploadk isA 0 16)), (16, .inl (pgetf2 4 8 19)), (19, .inr (.inl (125, 1, none))), (22, .inl (pstore isI 2 23)), (23, .inl (ploadk isA 0 24)), (24, .inl (pgetf2 4 3 27)), (27, .inl (pif (fun x => cEq x 0) 38 30)), (30, .inl (ploadk isA 0 31)), (31, .inl (ploadk isI 1 32)), (32, .inr (.inl (152, 2, some 4))), (35, .inl (pif (fun x => cNe x 0) 41 38)), (38, .inl (pst (g_k (.int (-3))) 40)), (40, .inr (.inr (some .int))), (41, .inl (ploadk isA 0 42)), (42, .inl (pst (g_dup) 43)), (43, .inl (pgetf2 4 6 46)), (46, .inl (pst (g_k (.int (1))) 47)), (47, .inl (pst (g_i2 (· + ·)) 48)), (48, .inl (pputf2 4 6 (.int) 51)), (51, .inl (ploadk isA 0 52)), (52, .inl (pgetf2 4 8 55)), (55, .inr (.inl (125, 1, none))), (58, .inl (ploadk isI 2 59)), (59, .inl (pst (g_i2 (· - ·)) 60)), (60, .inr (.inr (some .int)))]
def ubX5_keepAll : pM2 := [(0, .inl (ploadk isA 0 1)), (1, .inl (ploadk isA 0 2)), (2, .inl (pgetf2 4 4 5)), (5, .inl (pputf2 4 21 (.int) 8)), (8, .inl (ploadk isA 0 9)), (9, .inl (ploadk isA 0 10)), (10, .inl (pgetf2 4 5 13)), (13, .inl (pputf2 4 22 (.int) 16)), (16, .inl (ploadk isA 0 17)), (17, .inl (ploadk isA 0 18)), (18, .inl (pgetf2 4 8 21)), (21, .inl (pputf2 4 23 (.long) 24)), (24, .inr (.inr none))]
def ubX5_bringBack : pM2 := [(0, .inl (ploadk isA 0 1)), (1, .inl (ploadk isA 0 2)), (2, .inl (pgetf2 4 21 5)), (5, .inl (pputf2 4 4 (.int) 8)), (8, .inl (ploadk isA 0 9)), (9, .inl (ploadk isA 0 10)), (10, .inl (pgetf2 4 22 13)), (13, .inl (pputf2 4 5 (.int) 16)), (16, .inl (ploadk isA 0 17)), (17, .inl (ploadk isA 0 18)), (18, .inl (pgetf2 4 23 21)), (21, .inl (pputf2 4 8 (.long) 24)), (24, .inr (.inr none))]
def ubX5_voyageBy : pM2 := [(0, .inl (pst (g_k (.int (-9))) 2)), (2, .inl (pstore isI 4 4)), (4, .inl (pst (g_k (.int (0))) 5)), (5, .inl (pstore isI 5 7)), (7, .inl (pst (g_k (.int (-9))) 9)), (9, .inl (pstore isI 6 11)), (11, .inl (pst (g_k (.int (0))) 12)), (12, .inl (pstore isI 7 14)), (14, .inl (pclr [8, 9] (ploadk isI 7 16))), (16, .inl (ploadk isI 2 17)), (17, .inl (picmp cGe 142 20)), (20, .inl (ploadk isI 4 22)), (22, .inl (pif (fun x => cGe x 0) 142 25)), (25, .inl (ploadk isA 0 26)), (26, .inl (ploadk isA 0 27)), (27, .inl (pgetf2 4 31 30)), (30, .inl (ploadk isI 1 31)), (31, .inl (ploadk isI 7 33)), (33, .inl (pst (g_i2 (· + ·)) 34)), (34, .inl (piald2 35)), (35, .inr (.inl (152, 2, some 4))), (38, .inl (pif (fun x => cEq x 0) 46 41)), (41, .inl (pst (g_k (.int (-9))) 43)), (43, .inl (pst g_id 48)), (46, .inl (ploadk isI 7 48)), (48, .inl (pstore isI 4 50)), (50, .inl (pst (g_k (.int (0))) 51)), (51, .inl (pstore isI 8 53)), (53, .inl (pclr [9] (ploadk isI 8 55))), (55, .inl (ploadk isA 0 56)), (56, .inl (pgetf2 4 3 59)), (59, .inl (picmp cGe 136 62)), (62, .inl (ploadk isA 0 63)), (63, .inl (pgetf2 4 7 66)), (66, .inl (ploadk isI 8 68)), (68, .inr (.inl (124, 2, none))), (71, .inl (pif (fun x => cEq x 0) 79 74)), (74, .inl (pst (g_k (.int (-9))) 76)), (76, .inl (pst g_id 96)), (79, .inl (ploadk isA 0 80)), (80, .inl (ploadk isI 8 82)), (82, .inl (ploadk isA 0 83)), (83, .inl (pgetf2 4 9 86)), (86, .inl (ploadk isA 0 87)), (87, .inl (ploadk isI 8 89)), (89, .inr (.inl (139, 2, some 4))), (92, .inl (piald2 93)), (93, .inr (.inl (140, 3, some 4))), (96, .inl (pstore isI 9 98)), (98, .inl (ploadk isI 5 100)), (100, .inl (ploadk isI 9 102)), (102, .inl (pif (fun x => cGe x 0) 109 105)), (105, .inl (pst (g_k (.int (0))) 106)), (106, .inl (pst g_id 111)), (109, .inl (ploadk isI 9 111)), (111, .inl (pst (g_i2 (· + ·)) 112)), (112, .inl (pstore isI 5 114)), (114, .inl (ploadk isI 9 116)), (116, .inl (ploadk isI 6 118)), (118, .inl (picmp cLe 126 121)), (121, .inl (ploadk isI 9 123)), (123, .inl (pst g_id 128)), (126, .inl (ploadk isI 6 128)), (128, .inl (pstore isI 6 130)), (130, .inl (piinc 8 (1) 133)), (133, .inl (pst g_id 53)), (136, .inl (piinc 7 (1) 139)), (139, .inl (pst g_id 14)), (142, .inl (ploadk isI 3 143)), (143, .inl (pst (g_k (.int (1))) 144)), (144, .inl (picmp cNe 150 147)), (147, .inl (ploadk isI 4 149)), (149, .inr (.inr (some .int))), (150, .inl (ploadk isI 4 152)), (152, .inl (pif (fun x => cLt x 0) 161 155)), (155, .inl (pst (g_k (.int (-100))) 157)), (157, .inl (ploadk isI 4 159)), (159, .inl (pst (g_i2 (· - ·)) 160)), (160, .inr (.inr (some .int))), (161, .inl (ploadk isI 3 162)), (162, .inl (pif (fun x => cNe x 0) 183 165)), (165, .inl (ploadk isA 0 166)), (166, .inl (pgetf2 4 8 169)), (169, .inr (.inl (125, 1, none))), (172, .inl (ploadk isA 0 173)), (173, .inl (pgetf2 4 23 176)), (176, .inr (.inl (125, 1, none))), (179, .inl (pst (g_i2 (· - ·)) 180)), (180, .inl (pst g_id 208)), (183, .inl (ploadk isI 3 184)), (184, .inl (pst (g_k (.int (2))) 185)), (185, .inl (picmp cNe 193 188)), (188, .inl (ploadk isI 5 190)), (190, .inl (pst g_id 208)), (193, .inl (ploadk isI 3 194)), (194, .inl (pst (g_k (.int (3))) 195)), (195, .inl (picmp cNe 203 198)), (198, .inl (ploadk isI 6 200)), (200, .inl (pst g_id 208)), (203, .inl (ploadk isA 0 204)), (204, .inl (pst (g_k (.int (0))) 205)), (205, .inr (.inl (139, 2, some 4))), (208, .inr (.inr (some .int)))]
def ubX5_voyage : pM2 := [(0, .inl (ploadk isI 1 1)), (1, .inr (.inl (179, 1, none))), (4, .inl (pif (fun x => cEq x 0) 13 7)), (7, .inl (ploadk isA 0 8)), (8, .inl (pst (g_k (.int (-1))) 9)), (9, .inr (.inl (127, 2, some 4))), (12, .inr (.inr (some .int))), (13, .inl (ploadk isI 2 14)), (14, .inl (pst (g_i2l) 15)), (15, .inl (pst (g_k (.long 0)) 16)), (16, .inl (pst (g_k (.long (2))) 19)), (19, .inr (.inl (122, 3, none))), (22, .inl (pif (fun x => cEq x 0) 51 25)), (25, .inl (ploadk isI 4 27)), (27, .inl (pst (g_i2l) 28)), (28, .inl (pst (g_k (.long 0)) 29)), (29, .inl (pst (g_k (.long (40))) 32)), (32, .inr (.inl (122, 3, none))), (35, .inl (pif (fun x => cEq x 0) 51 38)), (38, .inl (ploadk isI 5 40)), (40, .inl (pst (g_i2l) 41)), (41, .inl (pst (g_k (.long 0)) 42)), (42, .inl (pst (g_k (.long (4))) 45)), (45, .inr (.inl (122, 3, none))), (48, .inl (pif (fun x => cNe x 0) 58 51)), (51, .inl (ploadk isA 0 52)), (52, .inl (pst (g_k (.int (-2))) 54)), (54, .inr (.inl (127, 2, some 4))), (57, .inr (.inr (some .int))), (58, .inl (ploadk isA 0 59)), (59, .inl (pgetf2 4 3 62)), (62, .inl (pif (fun x => cNe x 0) 72 65)), (65, .inl (ploadk isA 0 66)), (66, .inl (pst (g_k (.int (-3))) 68)), (68, .inr (.inl (127, 2, some 4))), (71, .inr (.inr (some .int))), (72, .inl (ploadk isA 0 73)), (73, .inl (ploadk isI 1 74)), (74, .inl (ploadk isI 2 75)), (75, .inl (ploadk isI 3 76)), (76, .inl (ploadk isI 4 78)), (78, .inl (pst (g_i2l) 79)), (79, .inr (.inl (137, 5, some 4))), (82, .inl (pstore isI 6 84)), (84, .inl (ploadk isI 6 86)), (86, .inl (pif (fun x => cGe x 0) 92 89)), (89, .inl (ploadk isI 6 91)), (91, .inr (.inr (some .int))), (92, .inl (pst (g_k (.int (0))) 93)), (93, .inl (pstore isI 7 95)), (95, .inl (pclr [2, 6] (ploadk isI 7 97))), (97, .inl (ploadk isI 4 99)), (99, .inl (picmp cGe 140 102)), (102, .inl (ploadk isA 0 103)), (103, .inl (pgetf2 4 31 106)), (106, .inl (pst (g_k (.int (60))) 108)), (108, .inl (ploadk isI 1 109)), (109, .inl (pst (g_i2 (· * ·)) 110)), (110, .inl (ploadk isI 3 111)), (111, .inl (pst (g_i2 (· + ·)) 112)), (112, .inl (ploadk isI 7 114)), (114, .inl (pst (g_i2 (· + ·)) 115)), (115, .inl (piald2 116)), (116, .inl (pst (g_i2l) 117)), (117, .inl (pst (g_k (.long 0)) 118)), (118, .inl (pst (g_k (.long (3))) 121)), (121, .inr (.inl (122, 3, none))), (124, .inl (pif (fun x => cNe x 0) 134 127)), (127, .inl (ploadk isA 0 128)), (128, .inl (pst (g_k (.int (-2))) 130)), (130, .inr (.inl (127, 2, some 4))), (133, .inr (.inr (some .int))), (134, .inl (piinc 7 (1) 137)), (137, .inl (pst g_id 95)), (140, .inl (ploadk isA 0 141)), (141, .inr (.inl (154, 1, some 4))), (144, .inl (ploadk isA 0 145)), (145, .inl (pst (g_k (.int (60))) 147)), (147, .inl (ploadk isI 1 148)), (148, .inl (pst (g_i2 (· * ·)) 149)), (149, .inl (ploadk isI 3 150)), (150, .inl (pst (g_i2 (· + ·)) 151)), (151, .inl (ploadk isI 4 153)), (153, .inl (ploadk isI 5 155)), (155, .inr (.inl (156, 4, some 4))), (158, .inl (pstore isI 7 160)), (160, .inl (ploadk isA 0 161)), (161, .inr (.inl (155, 1, some 4))), (164, .inl (ploadk isA 0 165)), (165, .inl (ploadk isI 7 167)), (167, .inr (.inl (127, 2, some 4))), (170, .inr (.inr (some .int)))]
def ubX5_isOver : pM2 := [(0, .inl (pst (g_k (.int (0))) 1)), (1, .inl (pstore isI 4 3)), (3, .inl (pst (g_k (.int (0))) 4)), (4, .inl (pstore isI 5 6)), (6, .inl (ploadk isI 5 8)), (8, .inl (ploadk isA 0 9)), (9, .inl (pgetf2 4 3 12)), (12, .inl (picmp cGe 60 15)), (15, .inl (ploadk isI 4 17)), (17, .inl (pif (fun x => cNe x 0) 47 20)), (20, .inl (ploadk isA 0 21)), (21, .inl (pgetf2 4 7 24)), (24, .inl (ploadk isI 5 26)), (26, .inr (.inl (124, 2, none))), (29, .inl (pif (fun x => cNe x 0) 51 32)), (32, .inl (ploadk isA 0 33)), (33, .inl (pgetf2 4 1 36)), (36, .inl (ploadk isI 2 37)), (37, .inl (pst (g_i2 (· * ·)) 38)), (38, .inl (ploadk isI 1 39)), (39, .inl (pst (g_i2 (· + ·)) 40)), (40, .inl (ploadk isI 5 42)), (42, .inl (pst (g_i2 (· + ·)) 43)), (43, .inl (ploadk isI 3 44)), (44, .inl (picmp cNe 51 47)), (47, .inl (pst (g_k (.int (1))) 48)), (48, .inl (pst g_id 52)), (51, .inl (pst (g_k (.int (0))) 52)), (52, .inl (pstore isI 4 54)), (54, .inl (piinc 5 (1) 57)), (57, .inl (pst g_id 6)), (60, .inl (ploadk isI 4 62)), (62, .inr (.inr (some .boolean)))]
def ubX5_farAt : pM2 := [(0, .inl (ploadk isA 0 1)), (1, .inl (ploadk isI 1 2)), (2, .inl (ploadk isI 2 3)), (3, .inr (.inl (149, 3, some 4))), (6, .inl (pif (fun x => cEq x 0) 25 9)), (9, .inl (ploadk isA 0 10)), (10, .inl (pgetf2 4 24 13)), (13, .inl (ploadk isA 0 14)), (14, .inl (pgetf2 4 1 17)), (17, .inl (ploadk isI 2 18)), (18, .inl (pst (g_i2 (· * ·)) 19)), (19, .inl (ploadk isI 1 20)), (20, .inl (pst (g_i2 (· + ·)) 21)), (21, .inl (piald2 22)), (22, .inl (pst g_id 27)), (25, .inl (pst (g_k (.int (-9))) 27)), (27, .inr (.inr (some .int)))]
def ubX5_isBeside : pM2 := [(0, .inl (pst (g_k (.int (0))) 1)), (1, .inl (pstore isI 4 3)), (3, .inl (pst (g_k (.int (0))) 4)), (4, .inl (pstore isI 5 6)), (6, .inl (ploadk isI 5 8)), (8, .inl (pst (g_k (.int (4))) 9)), (9, .inl (picmp cGe 52 12)), (12, .inl (ploadk isI 4 14)), (14, .inl (pif (fun x => cNe x 0) 39 17)), (17, .inl (ploadk isA 0 18)), (18, .inl (ploadk isI 1 19)), (19, .inl (ploadk isI 5 21)), (21, .inr (.inl (150, 1, none))), (24, .inl (pst (g_i2 (· + ·)) 25)), (25, .inl (ploadk isI 2 26)), (26, .inl (ploadk isI 5 28)), (28, .inr (.inl (151, 1, none))), (31, .inl (pst (g_i2 (· + ·)) 32)), (32, .inr (.inl (159, 3, some 4))), (35, .inl (ploadk isI 3 36)), (36, .inl (picmp cNe 43 39)), (39, .inl (pst (g_k (.int (1))) 40)), (40, .inl (pst g_id 44)), (43, .inl (pst (g_k (.int (0))) 44)), (44, .inl (pstore isI 4 46)), (46, .inl (piinc 5 (1) 49)), (49, .inl (pst g_id 6)), (52, .inl (ploadk isI 4 54)), (54, .inr (.inr (some .boolean)))]
def ubX5_measures : pM2 := [(0, .inl (pst (g_k (.int (0))) 1)), (1, .inl (pstore isI 2 2)), (2, .inl (pclr [3, 4, 5] (ploadk isI 2 3))), (3, .inl (pst (g_k (.int (36))) 5)), (5, .inl (picmp cGe 126 8)), (8, .inl (pst (g_k (.int (0))) 9)), (9, .inl (pstore isI 3 10)), (10, .inl (pclr [4, 5] (ploadk isI 3 11))), (11, .inl (ploadk isA 0 12)), (12, .inl (pgetf2 4 2 15)), (15, .inl (picmp cGe 120 18)), (18, .inl (pst (g_k (.int (0))) 19)), (19, .inl (pstore isI 4 21)), (21, .inl (pclr [5] (ploadk isI 4 23))), (23, .inl (ploadk isA 0 24)), (24, .inl (pgetf2 4 1 27)), (27, .inl (ploadk isA 0 28)), (28, .inl (pgetf2 4 3 31)), (31, .inl (pst (g_i2 (· - ·)) 32)), (32, .inl (picmp cGt 114 35)), (35, .inl (ploadk isA 0 36)), (36, .inl (pgetf2 4 1 39)), (39, .inl (ploadk isI 3 40)), (40, .inl (pst (g_i2 (· * ·)) 41)), (41, .inl (ploadk isI 4 43)), (43, .inl (pst (g_i2 (· + ·)) 44)), (44, .inl (pstore isI 5 46)), (46, .inl (ploadk isI 2 47)), (47, .inl (pif (fun x => cNe x 0) 77 50)), (50, .inl (ploadk isA 0 51)), (51, .inl (pgetf2 4 24 54)), (54, .inl (ploadk isI 5 56)), (56, .inl (ploadk isA 0 57)), (57, .inl (ploadk isI 4 59)), (59, .inl (ploadk isI 3 60)), (60, .inl (ploadk isI 1 61)), (61, .inr (.inl (158, 4, some 4))), (64, .inl (pif (fun x => cEq x 0) 71 67)), (67, .inl (pst (g_k (.int (0))) 68)), (68, .inl (pst g_id 73)), (71, .inl (pst (g_k (.int (-9))) 73)), (73, .inl (piast2 74)), (74, .inl (pst g_id 108)), (77, .inl (ploadk isA 0 78)), (78, .inl (pgetf2 4 24 81)), (81, .inl (ploadk isI 5 83)), (83, .inl (piald2 84)), (84, .inl (pif (fun x => cGe x 0) 108 87)), (87, .inl (ploadk isA 0 88)), (88, .inl (ploadk isI 4 90)), (90, .inl (ploadk isI 3 91)), (91, .inl (ploadk isI 2 92)), (92, .inl (pst (g_k (.int (1))) 93)), (93, .inl (pst (g_i2 (· - ·)) 94)), (94, .inr (.inl (160, 4, some 4))), (97, .inl (pif (fun x => cEq x 0) 108 100)), (100, .inl (ploadk isA 0 101)), (101, .inl (pgetf2 4 24 104)), (104, .inl (ploadk isI 5 106)), (106, .inl (ploadk isI 2 107)), (107, .inl (piast2 108)), (108, .inl (piinc 4 (1) 111)), (111, .inl (pst g_id 21)), (114, .inl (piinc 3 (1) 117)), (117, .inl (pst g_id 10)), (120, .inl (piinc 2 (1) 123)), (123, .inl (pst g_id 2)), (126, .inr (.inr none))]
def ubX5_wayStep : pM2 := [(0, .inl (ploadk isA 0 1)), (1, .inl (pgetf2 4 4 4)), (4, .inl (pstore isI 2 5)), (5, .inl (ploadk isA 0 6)), (6, .inl (pgetf2 4 5 9)), (9, .inl (pstore isI 3 10)), (10, .inl (pst (g_k (.int (-9))) 12)), (12, .inl (pstore isI 4 14)), (14, .inl (pst (g_k (.int (0))) 15)), (15, .inl (pstore isI 5 17)), (17, .inl (pclr [6, 7] (ploadk isI 5 19))), (19, .inl (ploadk isI 1 20)), (20, .inl (picmp cGt 105 23)), (23, .inl (ploadk isA 0 24)), (24, .inl (ploadk isI 2 25)), (25, .inl (ploadk isI 3 26)), (26, .inr (.inl (159, 3, some 4))), (29, .inl (pstore isI 6 31)), (31, .inl (pst (g_k (.int (-9))) 33)), (33, .inl (pstore isI 4 35)), (35, .inl (pst (g_k (.int (3))) 36)), (36, .inl (pstore isI 7 38)), (38, .inl (ploadk isI 7 40)), (40, .inl (pif (fun x => cLt x 0) 83 43)), (43, .inl (ploadk isA 0 44)), (44, .inl (ploadk isI 2 45)), (45, .inl (ploadk isI 7 47)), (47, .inr (.inl (150, 1, none))), (50, .inl (pst (g_i2 (· + ·)) 51)), (51, .inl (ploadk isI 3 52)), (52, .inl (ploadk isI 7 54)), (54, .inr (.inl (151, 1, none))), (57, .inl (pst (g_i2 (· + ·)) 58)), (58, .inr (.inl (159, 3, some 4))), (61, .inl (ploadk isI 6 63)), (63, .inl (pst (g_k (.int (1))) 64)), (64, .inl (pst (g_i2 (· - ·)) 65)), (65, .inl (picmp cNe 73 68)), (68, .inl (ploadk isI 7 70)), (70, .inl (pst g_id 75)), (73, .inl (ploadk isI 4 75)), (75, .inl (pstore isI 4 77)), (77, .inl (piinc 7 (-1) 80)), (80, .inl (pst g_id 38)), (83, .inl (ploadk isI 2 84)), (84, .inl (ploadk isI 4 86)), (86, .inr (.inl (150, 1, none))), (89, .inl (pst (g_i2 (· + ·)) 90)), (90, .inl (pstore isI 2 91)), (91, .inl (ploadk isI 3 92)), (92, .inl (ploadk isI 4 94)), (94, .inr (.inl (151, 1, none))), (97, .inl (pst (g_i2 (· + ·)) 98)), (98, .inl (pstore isI 3 99)), (99, .inl (piinc 5 (1) 102)), (102, .inl (pst g_id 17)), (105, .inl (ploadk isI 4 107)), (107, .inr (.inr (some .int)))]
def ubX5_way : pM2 := [(0, .inl (ploadk isA 0 1)), (1, .inl (ploadk isI 1 2)), (2, .inr (.inl (131, 2, some 4))), (5, .inl (pif (fun x => cEq x 0) 10 8)), (8, .inl (pst (g_k (.int (-1))) 9)), (9, .inr (.inr (some .int))), (10, .inl (ploadk isI 2 11)), (11, .inl (pst (g_i2l) 12)), (12, .inl (pst (g_k (.long (-1))) 15)), (15, .inl (pst (g_k (.long (9))) 18)), (18, .inr (.inl (122, 3, none))), (21, .inl (pif (fun x => cNe x 0) 27 24)), (24, .inl (pst (g_k (.int (-2))) 26)), (26, .inr (.inr (some .int))), (27, .inl (ploadk isA 0 28)), (28, .inl (ploadk isI 1 29)), (29, .inr (.inl (161, 2, some 4))), (32, .inl (ploadk isA 0 33)), (33, .inl (ploadk isA 0 34)), (34, .inl (pgetf2 4 4 37)), (37, .inl (ploadk isA 0 38)), (38, .inl (pgetf2 4 5 41)), (41, .inr (.inl (159, 3, some 4))), (44, .inl (pstore isI 3 45)), (45, .inl (ploadk isI 3 46)), (46, .inl (pif (fun x => cLt x 0) 53 49)), (49, .inl (ploadk isI 2 50)), (50, .inl (pif (fun x => cGe x 0) 57 53)), (53, .inl (ploadk isI 3 54)), (54, .inl (pst g_id 72)), (57, .inl (ploadk isI 2 58)), (58, .inl (ploadk isI 3 59)), (59, .inl (picmp cGe 70 62)), (62, .inl (ploadk isA 0 63)), (63, .inl (ploadk isI 2 64)), (64, .inr (.inl (162, 2, some 4))), (67, .inl (pst g_id 72)), (70, .inl (pst (g_k (.int (-9))) 72)), (72, .inr (.inr (some .int)))]
def ubX5_seenBy : pM2 := [(0, .inl (pst (g_k (.int (1))) 1)), (1, .inl (pstore isI 3 2)), (2, .inl (ploadk isI 2 3)), (3, .inl (pst (g_k (.int (1))) 4)), (4, .inl (pst (g_i2 (· - ·)) 5)), (5, .inl (pstore isI 4 7)), (7, .inl (pclr [2] (ploadk isI 4 9))), (9, .inl (pif (fun x => cLt x 0) 35 12)), (12, .inl (ploadk isI 3 13)), (13, .inl (pif (fun x => cEq x 0) 35 16)), (16, .inl (ploadk isA 0 17)), (17, .inl (ploadk isI 1 18)), (18, .inl (pst (g_k (.int (2))) 19)), (19, .inl (ploadk isI 4 21)), (21, .inl (pst (g_i2 (· * ·)) 22)), (22, .inl (pst (g_i2 shr) 23)), (23, .inl (pst (g_k (.int (3))) 24)), (24, .inl (pst (g_i2 (· &&& ·)) 25)), (25, .inr (.inl (152, 2, some 4))), (28, .inl (pstore isI 3 29)), (29, .inl (piinc 4 (-1) 32)), (32, .inl (pst g_id 7)), (35, .inl (ploadk isI 3 36)), (36, .inl (pif (fun x => cEq x 0) 57 39)), (39, .inl (ploadk isA 0 40)), (40, .inl (pgetf2 4 8 43)), (43, .inr (.inl (125, 1, none))), (46, .inl (ploadk isA 0 47)), (47, .inl (pgetf2 4 23 50)), (50, .inr (.inl (125, 1, none))), (53, .inl (pst (g_i2 (· - ·)) 54)), (54, .inl (pst g_id 59)), (57, .inl (pst (g_k (.int (-9))) 59)), (59, .inl (pstore isI 4 61)), (61, .inl (ploadk isA 0 62)), (62, .inr (.inl (155, 1, some 4))), (65, .inl (ploadk isI 4 67)), (67, .inr (.inr (some .int)))]
def ubX5_most : pM2 := [(0, .inl (ploadk isI 1 1)), (1, .inl (pst (g_i2l) 2)), (2, .inl (pst (g_k (.long 1)) 3)), (3, .inl (pst (g_k (.long (5))) 6)), (6, .inr (.inl (122, 3, none))), (9, .inl (pif (fun x => cEq x 0) 26 12)), (12, .inl (ploadk isI 2 13)), (13, .inl (pst (g_i2l) 14)), (14, .inl (pst (g_k (.long (-1))) 17)), (17, .inl (pst (g_k (.long (4))) 20)), (20, .inr (.inl (122, 3, none))), (23, .inl (pif (fun x => cNe x 0) 29 26)), (26, .inl (pst (g_k (.int (-2))) 28)), (28, .inr (.inr (some .int))), (29, .inl (ploadk isA 0 30)), (30, .inl (pgetf2 4 3 33)), (33, .inl (pif (fun x => cNe x 0) 39 36)), (36, .inl (pst (g_k (.int (-3))) 38)), (38, .inr (.inr (some .int))), (39, .inl (ploadk isA 0 40)), (40, .inr (.inl (154, 1, some 4))), (43, .inl (pst (g_k (.int (-9))) 45)), (45, .inl (pstore isI 3 46)), (46, .inl (pst (g_k (.int (-9))) 48)), (48, .inl (pstore isI 4 50)), (50, .inl (pst (g_k (.int (0))) 51)), (51, .inl (pstore isI 5 53)), (53, .inl (pclr [6] (ploadk isI 5 55))), (55, .inl (pst (g_k (.int (1))) 56)), (56, .inl (pst (g_k (.int (2))) 57)), (57, .inl (ploadk isI 1 58)), (58, .inl (pst (g_i2 (· * ·)) 59)), (59, .inl (pst (g_i2 shl) 60)), (60, .inl (picmp cGe 108 63)), (63, .inl (ploadk isA 0 64)), (64, .inl (ploadk isI 5 66)), (66, .inl (ploadk isI 1 67)), (67, .inr (.inl (164, 3, some 4))), (70, .inl (pstore isI 6 72)), (72, .inl (ploadk isI 6 74)), (74, .inl (ploadk isI 4 76)), (76, .inl (picmp cLe 84 79)), (79, .inl (ploadk isI 5 81)), (81, .inl (pst g_id 85)), (84, .inl (ploadk isI 3 85)), (85, .inl (pstore isI 3 86)), (86, .inl (ploadk isI 6 88)), (88, .inl (ploadk isI 4 90)), (90, .inl (picmp cLe 98 93)), (93, .inl (ploadk isI 6 95)), (95, .inl (pst g_id 100)), (98, .inl (ploadk isI 4 100)), (100, .inl (pstore isI 4 102)), (102, .inl (piinc 5 (1) 105)), (105, .inl (pst g_id 53)), (108, .inl (ploadk isI 2 109)), (109, .inl (pif (fun x => cLt x 0) 116 112)), (112, .inl (ploadk isI 3 113)), (113, .inl (pif (fun x => cGe x 0) 121 116)), (116, .inl (ploadk isI 4 118)), (118, .inl (pst g_id 142)), (121, .inl (ploadk isI 2 122)), (122, .inl (ploadk isI 1 123)), (123, .inl (picmp cGe 140 126)), (126, .inl (ploadk isI 3 127)), (127, .inl (pst (g_k (.int (2))) 128)), (128, .inl (ploadk isI 1 129)), (129, .inl (pst (g_k (.int (1))) 130)), (130, .inl (pst (g_i2 (· - ·)) 131)), (131, .inl (ploadk isI 2 132)), (132, .inl (pst (g_i2 (· - ·)) 133)), (133, .inl (pst (g_i2 (· * ·)) 134)), (134, .inl (pst (g_i2 shr) 135)), (135, .inl (pst (g_k (.int (3))) 136)), (136, .inl (pst (g_i2 (· &&& ·)) 137)), (137, .inl (pst g_id 142)), (140, .inl (pst (g_k (.int (-9))) 142)), (142, .inr (.inr (some .int)))]
def ubX5_areBeside : pM2 := [(0, .inl (ploadk isI 1 1)), (1, .inl (ploadk isA 0 2)), (2, .inl (pgetf2 4 1 5)), (5, .inl (pst (g_idiv irem) 6)), (6, .inl (ploadk isI 2 7)), (7, .inl (ploadk isA 0 8)), (8, .inl (pgetf2 4 1 11)), (11, .inl (pst (g_idiv irem) 12)), (12, .inl (pst (g_i2 (· - ·)) 13)), (13, .inl (pstore isI 3 14)), (14, .inl (ploadk isI 1 15)), (15, .inl (ploadk isA 0 16)), (16, .inl (pgetf2 4 1 19)), (19, .inl (pst (g_idiv (· / ·)) 20)), (20, .inl (ploadk isI 2 21)), (21, .inl (ploadk isA 0 22)), (22, .inl (pgetf2 4 1 25)), (25, .inl (pst (g_idiv (· / ·)) 26)), (26, .inl (pst (g_i2 (· - ·)) 27)), (27, .inl (pstore isI 4 29)), (29, .inl (ploadk isI 3 30)), (30, .inl (ploadk isI 3 31)), (31, .inl (pst (g_i2 (· * ·)) 32)), (32, .inl (ploadk isI 4 34)), (34, .inl (ploadk isI 4 36)), (36, .inl (pst (g_i2 (· * ·)) 37)), (37, .inl (pst (g_i2 (· + ·)) 38)), (38, .inl (pst (g_k (.int (1))) 39)), (39, .inl (picmp cNe 46 42)), (42, .inl (pst (g_k (.int (1))) 43)), (43, .inl (pst g_id 47)), (46, .inl (pst (g_k (.int (0))) 47)), (47, .inr (.inr (some .boolean)))]
def ubX5_flat : pM2 := [(0, .inl (ploadk isA 0 1)), (1, .inl (ploadk isI 1 2)), (2, .inr (.inl (131, 2, some 4))), (5, .inl (pif (fun x => cEq x 0) 10 8)), (8, .inl (pst (g_k (.int (-1))) 9)), (9, .inr (.inr (some .int))), (10, .inl (pst (g_k (.long 1)) 11)), (11, .inl (ploadk isI 1 12)), (12, .inl (pst (g_ls lshl) 13)), (13, .inl (pstore isL 2 14)), (14, .inl (pst (g_k (.int (0))) 15)), (15, .inl (pstore isI 4 17)), (17, .inl (pclr [5, 6, 7] (ploadk isI 4 19))), (19, .inl (ploadk isA 0 20)), (20, .inl (pgetf2 4 1 23)), (23, .inl (ploadk isA 0 24)), (24, .inl (pgetf2 4 2 27)), (27, .inl (pst (g_i2 (· * ·)) 28)), (28, .inl (picmp cGe 144 31)), (31, .inl (pst (g_k (.int (0))) 32)), (32, .inl (pstore isI 5 34)), (34, .inl (pclr [6, 7] (ploadk isI 5 36))), (36, .inl (ploadk isA 0 37)), (37, .inl (pgetf2 4 1 40)), (40, .inl (ploadk isA 0 41)), (41, .inl (pgetf2 4 2 44)), (44, .inl (pst (g_i2 (· * ·)) 45)), (45, .inl (picmp cGe 138 48)), (48, .inl (pst (g_k (.int (0))) 49)), (49, .inl (pstore isI 6 51)), (51, .inl (pclr [7] (ploadk isI 6 53))), (53, .inl (ploadk isA 0 54)), (54, .inl (pgetf2 4 1 57)), (57, .inl (ploadk isA 0 58)), (58, .inl (pgetf2 4 2 61)), (61, .inl (pst (g_i2 (· * ·)) 62)), (62, .inl (picmp cGe 132 65)), (65, .inl (ploadk isL 2 66)), (66, .inl (ploadk isI 5 68)), (68, .inl (pst (g_ls lshr) 69)), (69, .inl (pst (g_k (.long 1)) 70)), (70, .inl (pst (g_l2 (· &&& ·)) 71)), (71, .inl (pst (g_k (.long 1)) 72)), (72, .inl (pst (g_lcmp) 73)), (73, .inl (pif (fun x => cNe x 0) 107 76)), (76, .inl (ploadk isA 0 77)), (77, .inl (ploadk isI 5 79)), (79, .inl (ploadk isI 6 81)), (81, .inr (.inl (166, 3, some 4))), (84, .inl (pif (fun x => cEq x 0) 107 87)), (87, .inl (ploadk isA 0 88)), (88, .inl (pgetf2 4 9 91)), (91, .inl (ploadk isI 6 93)), (93, .inl (piald2 94)), (94, .inl (ploadk isA 0 95)), (95, .inl (pgetf2 4 9 98)), (98, .inl (ploadk isI 1 99)), (99, .inl (piald2 100)), (100, .inl (picmp cNe 107 103)), (103, .inl (pst (g_k (.int (1))) 104)), (104, .inl (pst g_id 108)), (107, .inl (pst (g_k (.int (0))) 108)), (108, .inl (pstore isI 7 110)), (110, .inl (ploadk isL 2 111)), (111, .inl (ploadk isI 7 113)), (113, .inl (pif (fun x => cEq x 0) 123 116)), (116, .inl (pst (g_k (.long 1)) 117)), (117, .inl (ploadk isI 6 119)), (119, .inl (pst (g_ls lshl) 120)), (120, .inl (pst g_id 124)), (123, .inl (pst (g_k (.long 0)) 124)), (124, .inl (pst (g_l2 (· ||| ·)) 125)), (125, .inl (pstore isL 2 126)), (126, .inl (piinc 6 (1) 129)), (129, .inl (pst g_id 51)), (132, .inl (piinc 5 (1) 135)), (135, .inl (pst g_id 34)), (138, .inl (piinc 4 (1) 141)), (141, .inl (pst g_id 17)), (144, .inl (ploadk isL 2 145)), (145, .inr (.inl (125, 1, none))), (148, .inr (.inr (some .int)))]
def ubX5_begins : pM2 := [(0, .inl (pst (g_k (.int (1))) 1)), (1, .inl (pstore isI 6 3)), (3, .inl (pst (g_k (.int (0))) 4)), (4, .inl (pstore isI 7 6)), (6, .inl (pclr [8, 9, 10] (ploadk isI 7 8))), (8, .inl (ploadk isI 2 9)), (9, .inl (picmp cGe 143 12)), (12, .inl (ploadk isI 6 14)), (14, .inl (pif (fun x => cEq x 0) 143 17)), (17, .inl (ploadk isI 4 19)), (19, .inl (ploadk isI 7 21)), (21, .inl (ploadk isI 3 22)), (22, .inr (.inl (150, 1, none))), (25, .inl (pst (g_i2 (· * ·)) 26)), (26, .inl (pst (g_i2 (· + ·)) 27)), (27, .inl (pstore isI 8 29)), (29, .inl (ploadk isI 5 31)), (31, .inl (ploadk isI 7 33)), (33, .inl (ploadk isI 3 34)), (34, .inr (.inl (151, 1, none))), (37, .inl (pst (g_i2 (· * ·)) 38)), (38, .inl (pst (g_i2 (· + ·)) 39)), (39, .inl (pstore isI 9 41)), (41, .inl (ploadk isA 0 42)), (42, .inl (ploadk isI 8 44)), (44, .inl (ploadk isI 9 46)), (46, .inr (.inl (149, 3, some 4))), (49, .inl (pstore isI 6 51)), (51, .inl (pst (g_k (.int (0))) 52)), (52, .inl (pstore isI 10 54)), (54, .inl (ploadk isI 10 56)), (56, .inl (ploadk isA 0 57)), (57, .inl (pgetf2 4 3 60)), (60, .inl (picmp cGe 137 63)), (63, .inl (ploadk isI 6 65)), (65, .inl (pif (fun x => cEq x 0) 137 68)), (68, .inl (ploadk isA 0 69)), (69, .inl (pgetf2 4 7 72)), (72, .inl (ploadk isI 10 74)), (74, .inr (.inl (124, 2, none))), (77, .inl (pif (fun x => cNe x 0) 124 80)), (80, .inl (ploadk isA 0 81)), (81, .inl (ploadk isI 10 83)), (83, .inl (ploadk isA 0 84)), (84, .inl (pgetf2 4 9 87)), (87, .inl (ploadk isA 0 88)), (88, .inl (pgetf2 4 1 91)), (91, .inl (ploadk isI 9 93)), (93, .inl (pst (g_i2 (· * ·)) 94)), (94, .inl (ploadk isI 8 96)), (96, .inl (pst (g_i2 (· + ·)) 97)), (97, .inl (ploadk isI 10 99)), (99, .inl (pst (g_i2 (· + ·)) 100)), (100, .inl (piald2 101)), (101, .inr (.inl (140, 3, some 4))), (104, .inl (ploadk isA 0 105)), (105, .inl (pgetf2 4 31 108)), (108, .inl (ploadk isI 1 109)), (109, .inl (ploadk isA 0 110)), (110, .inl (pgetf2 4 3 113)), (113, .inl (ploadk isI 7 115)), (115, .inl (pst (g_i2 (· * ·)) 116)), (116, .inl (pst (g_i2 (· + ·)) 117)), (117, .inl (ploadk isI 10 119)), (119, .inl (pst (g_i2 (· + ·)) 120)), (120, .inl (piald2 121)), (121, .inl (picmp cNe 128 124)), (124, .inl (pst (g_k (.int (1))) 125)), (125, .inl (pst g_id 129)), (128, .inl (pst (g_k (.int (0))) 129)), (129, .inl (pstore isI 6 131)), (131, .inl (piinc 10 (1) 134)), (134, .inl (pst g_id 54)), (137, .inl (piinc 7 (1) 140)), (140, .inl (pst g_id 6)), (143, .inl (ploadk isI 6 145)), (145, .inr (.inr (some .boolean)))]
def ubX5_begunBy : pM2 := [(0, .inl (pst (g_k (.int (0))) 1)), (1, .inl (pstore isI 5 3)), (3, .inl (pst (g_k (.int (-9))) 5)), (5, .inl (pstore isI 6 7)), (7, .inl (pst (g_k (.int (-9))) 9)), (9, .inl (pstore isI 7 11)), (11, .inl (pst (g_k (.int (0))) 12)), (12, .inl (pstore isI 8 14)), (14, .inl (pclr [9] (ploadk isI 8 16))), (16, .inl (ploadk isA 0 17)), (17, .inl (pgetf2 4 2 20)), (20, .inl (picmp cGe 103 23)), (23, .inl (pst (g_k (.int (0))) 24)), (24, .inl (pstore isI 9 26)), (26, .inl (ploadk isI 9 28)), (28, .inl (ploadk isA 0 29)), (29, .inl (pgetf2 4 1 32)), (32, .inl (ploadk isA 0 33)), (33, .inl (pgetf2 4 3 36)), (36, .inl (pst (g_i2 (· - ·)) 37)), (37, .inl (picmp cGt 97 40)), (40, .inl (ploadk isA 0 41)), (41, .inl (ploadk isI 1 42)), (42, .inl (ploadk isI 2 43)), (43, .inl (ploadk isI 3 44)), (44, .inl (ploadk isI 9 46)), (46, .inl (ploadk isI 8 48)), (48, .inr (.inl (168, 6, some 4))), (51, .inl (pif (fun x => cEq x 0) 91 54)), (54, .inl (piinc 5 (1) 57)), (57, .inl (ploadk isI 6 59)), (59, .inl (pif (fun x => cGe x 0) 75 62)), (62, .inl (ploadk isA 0 63)), (63, .inl (pgetf2 4 1 66)), (66, .inl (ploadk isI 8 68)), (68, .inl (pst (g_i2 (· * ·)) 69)), (69, .inl (ploadk isI 9 71)), (71, .inl (pst (g_i2 (· + ·)) 72)), (72, .inl (pst g_id 77)), (75, .inl (ploadk isI 6 77)), (77, .inl (pstore isI 6 79)), (79, .inl (ploadk isA 0 80)), (80, .inl (pgetf2 4 1 83)), (83, .inl (ploadk isI 8 85)), (85, .inl (pst (g_i2 (· * ·)) 86)), (86, .inl (ploadk isI 9 88)), (88, .inl (pst (g_i2 (· + ·)) 89)), (89, .inl (pstore isI 7 91)), (91, .inl (piinc 9 (1) 94)), (94, .inl (pst g_id 26)), (97, .inl (piinc 8 (1) 100)), (100, .inl (pst g_id 14)), (103, .inl (ploadk isI 4 105)), (105, .inl (pif (fun x => cNe x 0) 113 108)), (108, .inl (ploadk isI 5 110)), (110, .inl (pst g_id 126)), (113, .inl (ploadk isI 4 115)), (115, .inl (pst (g_k (.int (1))) 116)), (116, .inl (picmp cNe 124 119)), (119, .inl (ploadk isI 6 121)), (121, .inl (pst g_id 126)), (124, .inl (ploadk isI 7 126)), (126, .inr (.inr (some .int)))]
def ubX5_begun : pM2 := [(0, .inl (ploadk isI 1 1)), (1, .inr (.inl (179, 1, none))), (4, .inl (pif (fun x => cEq x 0) 13 7)), (7, .inl (ploadk isA 0 8)), (8, .inl (pst (g_k (.int (-1))) 9)), (9, .inr (.inl (127, 2, some 4))), (12, .inr (.inr (some .int))), (13, .inl (ploadk isI 2 14)), (14, .inl (pst (g_i2l) 15)), (15, .inl (pst (g_k (.long 0)) 16)), (16, .inl (pst (g_k (.long (2))) 19)), (19, .inr (.inl (122, 3, none))), (22, .inl (pif (fun x => cEq x 0) 64 25)), (25, .inl (ploadk isI 4 27)), (27, .inl (pst (g_i2l) 28)), (28, .inl (pst (g_k (.long 1)) 29)), (29, .inl (pst (g_k (.long (6))) 32)), (32, .inr (.inl (122, 3, none))), (35, .inl (pif (fun x => cEq x 0) 64 38)), (38, .inl (ploadk isI 5 40)), (40, .inl (pst (g_i2l) 41)), (41, .inl (pst (g_k (.long 0)) 42)), (42, .inl (pst (g_k (.long (3))) 45)), (45, .inr (.inl (122, 3, none))), (48, .inl (pif (fun x => cEq x 0) 64 51)), (51, .inl (ploadk isI 6 53)), (53, .inl (pst (g_i2l) 54)), (54, .inl (pst (g_k (.long 0)) 55)), (55, .inl (pst (g_k (.long (2))) 58)), (58, .inr (.inl (122, 3, none))), (61, .inl (pif (fun x => cNe x 0) 71 64)), (64, .inl (ploadk isA 0 65)), (65, .inl (pst (g_k (.int (-2))) 67)), (67, .inr (.inl (127, 2, some 4))), (70, .inr (.inr (some .int))), (71, .inl (ploadk isA 0 72)), (72, .inl (pgetf2 4 3 75)), (75, .inl (pif (fun x => cNe x 0) 85 78)), (78, .inl (ploadk isA 0 79)), (79, .inl (pst (g_k (.int (-3))) 81)), (81, .inr (.inl (127, 2, some 4))), (84, .inr (.inr (some .int))), (85, .inl (ploadk isA 0 86)), (86, .inl (ploadk isI 1 87)), (87, .inl (ploadk isI 2 88)), (88, .inl (ploadk isI 3 89)), (89, .inl (ploadk isI 4 91)), (91, .inl (ploadk isA 0 92)), (92, .inl (pgetf2 4 3 95)), (95, .inl (pst (g_i2 (· * ·)) 96)), (96, .inl (pst (g_i2l) 97)), (97, .inr (.inl (137, 5, some 4))), (100, .inl (pstore isI 7 102)), (102, .inl (ploadk isI 7 104)), (104, .inl (pif (fun x => cGe x 0) 112 107)), (107, .inl (ploadk isI 7 109)), (109, .inl (pst g_id 132)), (112, .inl (ploadk isA 0 113)), (113, .inl (ploadk isA 0 114)), (114, .inl (pst (g_k (.int (60))) 116)), (116, .inl (ploadk isI 1 117)), (117, .inl (pst (g_i2 (· * ·)) 118)), (118, .inl (ploadk isI 3 119)), (119, .inl (pst (g_i2 (· + ·)) 120)), (120, .inl (ploadk isI 4 122)), (122, .inl (ploadk isI 5 124)), (124, .inl (ploadk isI 6 126)), (126, .inr (.inl (169, 5, some 4))), (129, .inr (.inl (127, 2, some 4))), (132, .inr (.inr (some .int)))]
def ubX5_goesOn : pM2 := [(0, .inl (pst (g_k (.int (1))) 1)), (1, .inl (pstore isI 4 3)), (3, .inl (ploadk isI 3 4)), (4, .inl (pstore isI 5 6)), (6, .inl (ploadk isI 5 8)), (8, .inl (ploadk isI 2 9)), (9, .inl (picmp cGe 53 12)), (12, .inl (ploadk isI 4 14)), (14, .inl (pif (fun x => cEq x 0) 44 17)), (17, .inl (ploadk isA 0 18)), (18, .inl (pgetf2 4 31 21)), (21, .inl (ploadk isI 1 22)), (22, .inl (ploadk isI 5 24)), (24, .inl (pst (g_i2 (· + ·)) 25)), (25, .inl (piald2 26)), (26, .inl (ploadk isA 0 27)), (27, .inl (pgetf2 4 31 30)), (30, .inl (ploadk isI 1 31)), (31, .inl (ploadk isI 5 33)), (33, .inl (pst (g_i2 (· + ·)) 34)), (34, .inl (ploadk isI 3 35)), (35, .inl (pst (g_i2 (· - ·)) 36)), (36, .inl (piald2 37)), (37, .inl (picmp cNe 44 40)), (40, .inl (pst (g_k (.int (1))) 41)), (41, .inl (pst g_id 45)), (44, .inl (pst (g_k (.int (0))) 45)), (45, .inl (pstore isI 4 47)), (47, .inl (piinc 5 (1) 50)), (50, .inl (pst g_id 6)), (53, .inl (ploadk isI 4 55)), (55, .inr (.inr (some .boolean)))]
def ubX5_run : pM2 := [(0, .inl (ploadk isI 1 1)), (1, .inr (.inl (179, 1, none))), (4, .inl (pif (fun x => cEq x 0) 13 7)), (7, .inl (ploadk isA 0 8)), (8, .inl (pst (g_k (.int (-1))) 9)), (9, .inr (.inl (127, 2, some 4))), (12, .inr (.inr (some .int))), (13, .inl (ploadk isI 2 14)), (14, .inl (pst (g_i2l) 15)), (15, .inl (pst (g_k (.long 0)) 16)), (16, .inl (pst (g_k (.long (2))) 19)), (19, .inr (.inl (122, 3, none))), (22, .inl (pif (fun x => cEq x 0) 49 25)), (25, .inl (ploadk isI 4 27)), (27, .inl (pst (g_i2l) 28)), (28, .inl (pst (g_k (.long 1)) 29)), (29, .inl (pst (g_k (.long (40))) 32)), (32, .inr (.inl (122, 3, none))), (35, .inl (pif (fun x => cEq x 0) 49 38)), (38, .inl (ploadk isI 5 40)), (40, .inl (pst (g_i2l) 41)), (41, .inl (pst (g_k (.long 0)) 42)), (42, .inl (pst (g_k (.long 1)) 43)), (43, .inr (.inl (122, 3, none))), (46, .inl (pif (fun x => cNe x 0) 56 49)), (49, .inl (ploadk isA 0 50)), (50, .inl (pst (g_k (.int (-2))) 52)), (52, .inr (.inl (127, 2, some 4))), (55, .inr (.inr (some .int))), (56, .inl (ploadk isA 0 57)), (57, .inl (ploadk isI 1 58)), (58, .inl (ploadk isI 2 59)), (59, .inl (ploadk isI 3 60)), (60, .inl (ploadk isI 4 62)), (62, .inl (pst (g_i2l) 63)), (63, .inr (.inl (137, 5, some 4))), (66, .inl (pstore isI 6 68)), (68, .inl (ploadk isI 6 70)), (70, .inl (pif (fun x => cGe x 0) 76 73)), (73, .inl (ploadk isI 6 75)), (75, .inr (.inr (some .int))), (76, .inl (pst (g_k (.int (1))) 77)), (77, .inl (pstore isI 7 79)), (79, .inl (pclr [2, 6] (ploadk isA 0 80))), (80, .inl (pst (g_k (.int (60))) 82)), (82, .inl (ploadk isI 1 83)), (83, .inl (pst (g_i2 (· * ·)) 84)), (84, .inl (ploadk isI 3 85)), (85, .inl (pst (g_i2 (· + ·)) 86)), (86, .inl (ploadk isI 4 88)), (88, .inl (ploadk isI 7 90)), (90, .inr (.inl (171, 4, some 4))), (93, .inl (pif (fun x => cNe x 0) 102 96)), (96, .inl (piinc 7 (1) 99)), (99, .inl (pst g_id 79)), (102, .inl (ploadk isA 0 103)), (103, .inl (ploadk isI 5 105)), (105, .inl (pif (fun x => cNe x 0) 113 108)), (108, .inl (ploadk isI 7 110)), (110, .inl (pst g_id 130)), (113, .inl (ploadk isA 0 114)), (114, .inl (pgetf2 4 31 117)), (117, .inl (pst (g_k (.int (60))) 119)), (119, .inl (ploadk isI 1 120)), (120, .inl (pst (g_i2 (· * ·)) 121)), (121, .inl (ploadk isI 3 122)), (122, .inl (pst (g_i2 (· + ·)) 123)), (123, .inl (ploadk isI 4 125)), (125, .inl (pst (g_i2 (· + ·)) 126)), (126, .inl (ploadk isI 7 128)), (128, .inl (pst (g_i2 (· - ·)) 129)), (129, .inl (piald2 130)), (130, .inr (.inl (127, 2, some 4))), (133, .inr (.inr (some .int)))]
def ubX5_reading : pM2 := [(0, .inl (ploadk isA 0 1)), (1, .inl (ploadk isI 1 2)), (2, .inr (.inl (130, 2, some 4))), (5, .inl (pif (fun x => cEq x 0) 10 8)), (8, .inl (pst (g_k (.int (-1))) 9)), (9, .inr (.inr (some .int))), (10, .inl (ploadk isI 2 11)), (11, .inl (pst (g_i2l) 12)), (12, .inl (pst (g_k (.long 0)) 13)), (13, .inl (pst (g_k (.long (9))) 16)), (16, .inr (.inl (122, 3, none))), (19, .inl (pif (fun x => cEq x 0) 34 22)), (22, .inl (ploadk isI 3 23)), (23, .inl (pst (g_i2l) 24)), (24, .inl (pst (g_k (.long 0)) 25)), (25, .inl (pst (g_k (.long (20))) 28)), (28, .inr (.inl (122, 3, none))), (31, .inl (pif (fun x => cNe x 0) 37 34)), (34, .inl (pst (g_k (.int (-2))) 36)), (36, .inr (.inr (some .int))), (37, .inl (ploadk isA 0 38)), (38, .inl (pgetf2 4 25 41)), (41, .inl (pst (g_k (.int (8))) 43)), (43, .inl (picmp cNe 49 46)), (46, .inl (pst (g_k (.int (-4))) 48)), (48, .inr (.inr (some .int))), (49, .inl (ploadk isA 0 50)), (50, .inl (pgetf2 4 26 53)), (53, .inl (ploadk isA 0 54)), (54, .inl (pgetf2 4 25 57)), (57, .inl (ploadk isI 1 58)), (58, .inl (piast2 59)), (59, .inl (ploadk isA 0 60)), (60, .inl (pgetf2 4 27 63)), (63, .inl (ploadk isA 0 64)), (64, .inl (pgetf2 4 25 67)), (67, .inl (ploadk isI 2 68)), (68, .inl (piast2 69)), (69, .inl (ploadk isA 0 70)), (70, .inl (pgetf2 4 28 73)), (73, .inl (ploadk isA 0 74)), (74, .inl (pgetf2 4 25 77)), (77, .inl (ploadk isI 3 78)), (78, .inl (piast2 79)), (79, .inl (ploadk isA 0 80)), (80, .inl (pst (g_dup) 81)), (81, .inl (pgetf2 4 25 84)), (84, .inl (pst (g_k (.int (1))) 85)), (85, .inl (pst (g_i2 (· + ·)) 86)), (86, .inl (pputf2 4 25 (.int) 89)), (89, .inl (ploadk isA 0 90)), (90, .inl (pgetf2 4 25 93)), (93, .inl (pst (g_k (.int (1))) 94)), (94, .inl (pst (g_i2 (· - ·)) 95)), (95, .inr (.inr (some .int)))]
def ubX5_back : pM2 := [(0, .inl (ploadk isI 1 1)), (1, .inl (pst (g_i2l) 2)), (2, .inl (pst (g_k (.long 0)) 3)), (3, .inl (ploadk isA 0 4)), (4, .inl (pgetf2 4 25 7)), (7, .inl (pst (g_i2l) 8)), (8, .inr (.inl (122, 3, none))), (11, .inl (pif (fun x => cNe x 0) 17 14)), (14, .inl (pst (g_k (.int (-2))) 16)), (16, .inr (.inr (some .int))), (17, .inl (ploadk isA 0 18)), (18, .inl (pst (g_dup) 19)), (19, .inl (pgetf2 4 25 22)), (22, .inl (ploadk isI 1 23)), (23, .inl (pst (g_i2 (· - ·)) 24)), (24, .inl (pputf2 4 25 (.int) 27)), (27, .inl (ploadk isA 0 28)), (28, .inl (pgetf2 4 25 31)), (31, .inr (.inr (some .int)))]
def ubX5_areSo : pM2 := [(0, .inl (pst (g_k (.int (1))) 1)), (1, .inl (pstore isI 1 2)), (2, .inl (pst (g_k (.int (0))) 3)), (3, .inl (pstore isI 2 4)), (4, .inl (ploadk isI 2 5)), (5, .inl (ploadk isA 0 6)), (6, .inl (pgetf2 4 25 9)), (9, .inl (picmp cGe 53 12)), (12, .inl (ploadk isI 1 13)), (13, .inl (pif (fun x => cEq x 0) 45 16)), (16, .inl (ploadk isA 0 17)), (17, .inl (ploadk isA 0 18)), (18, .inl (pgetf2 4 26 21)), (21, .inl (ploadk isI 2 22)), (22, .inl (piald2 23)), (23, .inl (ploadk isA 0 24)), (24, .inl (pgetf2 4 27 27)), (27, .inl (ploadk isI 2 28)), (28, .inl (piald2 29)), (29, .inr (.inl (140, 3, some 4))), (32, .inl (ploadk isA 0 33)), (33, .inl (pgetf2 4 28 36)), (36, .inl (ploadk isI 2 37)), (37, .inl (piald2 38)), (38, .inl (picmp cNe 45 41)), (41, .inl (pst (g_k (.int (1))) 42)), (42, .inl (pst g_id 46)), (45, .inl (pst (g_k (.int (0))) 46)), (46, .inl (pstore isI 1 47)), (47, .inl (piinc 2 (1) 50)), (50, .inl (pst g_id 4)), (53, .inl (ploadk isI 1 54)), (54, .inr (.inr (some .boolean)))]
def ubX5_shorts : pM2 := [(0, .inl (ploadk isA 0 1)), (1, .inl (ploadk isI 1 2)), (2, .inr (.inl (130, 2, some 4))), (5, .inl (pif (fun x => cEq x 0) 10 8)), (8, .inl (pst (g_k (.int (-1))) 9)), (9, .inr (.inr (some .int))), (10, .inl (ploadk isA 0 11)), (11, .inl (pgetf2 4 11 14)), (14, .inl (ploadk isI 1 15)), (15, .inl (piald2 16)), (16, .inl (pstore isI 2 17)), (17, .inl (pst (g_k (.int (0))) 18)), (18, .inl (pstore isI 3 19)), (19, .inl (pst (g_k (.int (0))) 20)), (20, .inl (pstore isI 4 22)), (22, .inl (ploadk isI 4 24)), (24, .inl (pst (g_k (.int (10))) 26)), (26, .inl (picmp cGe 61 29)), (29, .inl (ploadk isA 0 30)), (30, .inl (pgetf2 4 11 33)), (33, .inl (ploadk isI 1 34)), (34, .inl (ploadk isI 4 36)), (36, .inl (piast2 37)), (37, .inl (ploadk isI 3 38)), (38, .inl (ploadk isA 0 39)), (39, .inr (.inl (175, 1, some 4))), (42, .inl (pif (fun x => cEq x 0) 52 45)), (45, .inl (pst (g_k (.int (1))) 46)), (46, .inl (ploadk isI 4 48)), (48, .inl (pst (g_i2 shl) 49)), (49, .inl (pst g_id 53)), (52, .inl (pst (g_k (.int (0))) 53)), (53, .inl (pst (g_i2 (· ||| ·)) 54)), (54, .inl (pstore isI 3 55)), (55, .inl (piinc 4 (1) 58)), (58, .inl (pst g_id 22)), (61, .inl (ploadk isA 0 62)), (62, .inl (pgetf2 4 11 65)), (65, .inl (ploadk isI 1 66)), (66, .inl (ploadk isI 2 67)), (67, .inl (piast2 68)), (68, .inl (ploadk isI 3 69)), (69, .inr (.inr (some .int)))]
def ubX5_kinds : pM2 := [(0, .inl (ploadk isA 0 1)), (1, .inl (ploadk isI 1 2)), (2, .inr (.inl (130, 2, some 4))), (5, .inl (pif (fun x => cEq x 0) 10 8)), (8, .inl (pst (g_k (.int (-1))) 9)), (9, .inr (.inr (some .int))), (10, .inl (ploadk isA 0 11)), (11, .inl (pgetf2 4 10 14)), (14, .inl (ploadk isI 1 15)), (15, .inl (piald2 16)), (16, .inl (pstore isI 2 17)), (17, .inl (pst (g_k (.int (0))) 18)), (18, .inl (pstore isI 3 19)), (19, .inl (pst (g_k (.int (0))) 20)), (20, .inl (pstore isI 4 22)), (22, .inl (ploadk isI 4 24)), (24, .inl (pst (g_k (.int (3))) 25)), (25, .inl (picmp cGe 60 28)), (28, .inl (ploadk isA 0 29)), (29, .inl (pgetf2 4 10 32)), (32, .inl (ploadk isI 1 33)), (33, .inl (ploadk isI 4 35)), (35, .inl (piast2 36)), (36, .inl (ploadk isI 3 37)), (37, .inl (ploadk isA 0 38)), (38, .inr (.inl (175, 1, some 4))), (41, .inl (pif (fun x => cEq x 0) 51 44)), (44, .inl (pst (g_k (.int (1))) 45)), (45, .inl (ploadk isI 4 47)), (47, .inl (pst (g_i2 shl) 48)), (48, .inl (pst g_id 52)), (51, .inl (pst (g_k (.int (0))) 52)), (52, .inl (pst (g_i2 (· ||| ·)) 53)), (53, .inl (pstore isI 3 54)), (54, .inl (piinc 4 (1) 57)), (57, .inl (pst g_id 22)), (60, .inl (ploadk isA 0 61)), (61, .inl (pgetf2 4 10 64)), (64, .inl (ploadk isI 1 65)), (65, .inl (ploadk isI 2 66)), (66, .inl (piast2 67)), (67, .inl (ploadk isI 3 68)), (68, .inr (.inr (some .int)))]
def ubX5_odds : pM2 := [(0, .inl (ploadk isA 0 1)), (1, .inl (ploadk isI 1 2)), (2, .inr (.inl (130, 2, some 4))), (5, .inl (pif (fun x => cNe x 0) 30 8)), (8, .inl (ploadk isI 2 9)), (9, .inl (pst (g_i2l) 10)), (10, .inl (pst (g_k (.long 0)) 11)), (11, .inl (pst (g_k (.long (20))) 14)), (14, .inr (.inl (122, 3, none))), (17, .inl (pif (fun x => cEq x 0) 30 20)), (20, .inl (ploadk isI 3 21)), (21, .inl (pst (g_i2l) 22)), (22, .inl (pst (g_k (.long 0)) 23)), (23, .inl (pst (g_k (.long 1)) 24)), (24, .inr (.inl (122, 3, none))), (27, .inl (pif (fun x => cNe x 0) 34 30)), (30, .inr (.inl (123, 0, none))), (33, .inr (.inr (some .long))), (34, .inl (pst (g_k (.long 0)) 35)), (35, .inl (pstore isL 4 37)), (37, .inl (pst (g_k (.int (0))) 38)), (38, .inl (pstore isI 6 40)), (40, .inl (pclr [7] (ploadk isI 6 42))), (42, .inl (ploadk isA 0 43)), (43, .inl (pgetf2 4 2 46)), (46, .inl (picmp cGe 114 49)), (49, .inl (pst (g_k (.int (0))) 50)), (50, .inl (pstore isI 7 52)), (52, .inl (ploadk isI 7 54)), (54, .inl (ploadk isA 0 55)), (55, .inl (pgetf2 4 1 58)), (58, .inl (ploadk isA 0 59)), (59, .inl (pgetf2 4 3 62)), (62, .inl (pst (g_i2 (· - ·)) 63)), (63, .inl (picmp cGt 108 66)), (66, .inl (ploadk isL 4 68)), (68, .inl (ploadk isA 0 69)), (69, .inl (ploadk isI 1 70)), (70, .inl (ploadk isA 0 71)), (71, .inl (pgetf2 4 9 74)), (74, .inl (ploadk isA 0 75)), (75, .inl (pgetf2 4 1 78)), (78, .inl (ploadk isI 6 80)), (80, .inl (pst (g_i2 (· * ·)) 81)), (81, .inl (ploadk isI 7 83)), (83, .inl (pst (g_i2 (· + ·)) 84)), (84, .inl (ploadk isI 1 85)), (85, .inl (pst (g_i2 (· + ·)) 86)), (86, .inl (piald2 87)), (87, .inr (.inl (140, 3, some 4))), (90, .inl (ploadk isI 2 91)), (91, .inl (picmp cLt 98 94)), (94, .inl (pst (g_k (.long 1)) 95)), (95, .inl (pst g_id 99)), (98, .inl (pst (g_k (.long 0)) 99)), (99, .inl (pst (g_l2 (· + ·)) 100)), (100, .inl (pstore isL 4 102)), (102, .inl (piinc 7 (1) 105)), (105, .inl (pst g_id 52)), (108, .inl (piinc 6 (1) 111)), (111, .inl (pst g_id 40)), (114, .inl (ploadk isL 4 116)), (116, .inl (ploadk isA 0 117)), (117, .inl (pgetf2 4 1 120)), (120, .inl (ploadk isA 0 121)), (121, .inl (pgetf2 4 3 124)), (124, .inl (pst (g_i2 (· - ·)) 125)), (125, .inl (pst (g_i2l) 126)), (126, .inl (pst (g_k (.long 1)) 127)), (127, .inl (pst (g_l2 (· + ·)) 128)), (128, .inl (ploadk isA 0 129)), (129, .inl (pgetf2 4 2 132)), (132, .inl (pst (g_i2l) 133)), (133, .inl (pst (g_l2 (· * ·)) 134)), (134, .inl (ploadk isI 3 135)), (135, .inr (.inl (126, 3, none))), (138, .inr (.inr (some .long)))]
def ubX5_noSheet : pM2 := [(0, .inl (ploadk isI 0 1)), (1, .inl (pst (g_i2l) 2)), (2, .inl (pst (g_k (.long 0)) 3)), (3, .inl (pst (g_k (.long (3))) 6)), (6, .inr (.inl (122, 3, none))), (9, .inl (pif (fun x => cNe x 0) 16 12)), (12, .inl (pst (g_k (.int (1))) 13)), (13, .inl (pst g_id 17)), (16, .inl (pst (g_k (.int (0))) 17)), (17, .inr (.inr (some .boolean)))]
def ubX5_sheet : pM2 := [(0, .inl (ploadk isI 1 1)), (1, .inr (.inl (179, 1, none))), (4, .inl (pif (fun x => cEq x 0) 13 7)), (7, .inl (ploadk isA 0 8)), (8, .inl (pst (g_k (.int (-1))) 9)), (9, .inr (.inl (127, 2, some 4))), (12, .inr (.inr (some .int))), (13, .inl (ploadk isI 2 14)), (14, .inl (pst (g_i2l) 15)), (15, .inl (pst (g_k (.long 0)) 16)), (16, .inl (pst (g_k (.long (2))) 19)), (19, .inr (.inl (122, 3, none))), (22, .inl (pif (fun x => cEq x 0) 31 25)), (25, .inl (ploadk isI 3 26)), (26, .inl (pst (g_k (.int (60))) 28)), (28, .inl (picmp cLe 38 31)), (31, .inl (ploadk isA 0 32)), (32, .inl (pst (g_k (.int (-2))) 34)), (34, .inr (.inl (127, 2, some 4))), (37, .inr (.inr (some .int))), (38, .inl (ploadk isI 3 39)), (39, .inl (pif (fun x => cGe x 0) 48 42)), (42, .inl (ploadk isA 0 43)), (43, .inl (pst (g_k (.int (4))) 44)), (44, .inr (.inl (128, 2, some 4))), (47, .inr (.inr (some .int))), (48, .inl (ploadk isA 0 49)), (49, .inl (pgetf2 4 29 52)), (52, .inl (ploadk isI 1 53)), (53, .inl (ploadk isI 3 54)), (54, .inl (piast2 55)), (55, .inl (ploadk isA 0 56)), (56, .inl (pgetf2 4 30 59)), (59, .inl (ploadk isI 1 60)), (60, .inl (ploadk isI 2 61)), (61, .inl (piast2 62)), (62, .inl (pst (g_k (.int (0))) 63)), (63, .inl (pstore isI 4 65)), (65, .inl (pclr [2] (ploadk isI 4 67))), (67, .inl (ploadk isI 3 68)), (68, .inl (picmp cGe 90 71)), (71, .inl (ploadk isA 0 72)), (72, .inl (pgetf2 4 31 75)), (75, .inl (pst (g_k (.int (60))) 77)), (77, .inl (ploadk isI 1 78)), (78, .inl (pst (g_i2 (· * ·)) 79)), (79, .inl (ploadk isI 4 81)), (81, .inl (pst (g_i2 (· + ·)) 82)), (82, .inl (pst (g_k (.int (0))) 83)), (83, .inl (piast2 84)), (84, .inl (piinc 4 (1) 87)), (87, .inl (pst g_id 65)), (90, .inl (ploadk isA 0 91)), (91, .inl (pst (g_k (.int (1))) 92)), (92, .inr (.inl (127, 2, some 4))), (95, .inr (.inr (some .int)))]
def ubX5_lose : pM2 := [(0, .inl (ploadk isI 1 1)), (1, .inr (.inl (179, 1, none))), (4, .inl (pif (fun x => cEq x 0) 9 7)), (7, .inl (pst (g_k (.int (-1))) 8)), (8, .inr (.inr (some .int))), (9, .inl (ploadk isA 0 10)), (10, .inl (pgetf2 4 29 13)), (13, .inl (ploadk isI 1 14)), (14, .inl (piald2 15)), (15, .inl (pif (fun x => cGe x 0) 22 18)), (18, .inl (pst (g_k (.int (0))) 19)), (19, .inl (pst g_id 23)), (22, .inl (pst (g_k (.int (1))) 23)), (23, .inl (pstore isI 2 24)), (24, .inl (ploadk isA 0 25)), (25, .inl (pgetf2 4 29 28)), (28, .inl (ploadk isI 1 29)), (29, .inl (pst (g_k (.int (-1))) 30)), (30, .inl (piast2 31)), (31, .inl (ploadk isI 2 32)), (32, .inr (.inr (some .int)))]
def ubX5_noCell : pM2 := [(0, .inl (ploadk isA 0 1)), (1, .inl (pgetf2 4 29 4)), (4, .inl (ploadk isI 1 5)), (5, .inl (piald2 6)), (6, .inl (pif (fun x => cGe x 0) 13 9)), (9, .inl (pst (g_k (.int (1))) 10)), (10, .inl (pst g_id 36)), (13, .inl (ploadk isI 2 14)), (14, .inl (pst (g_i2l) 15)), (15, .inl (pst (g_k (.long 0)) 16)), (16, .inl (ploadk isA 0 17)), (17, .inl (pgetf2 4 29 20)), (20, .inl (ploadk isI 1 21)), (21, .inl (piald2 22)), (22, .inl (pst (g_i2l) 23)), (23, .inl (pst (g_k (.long 1)) 24)), (24, .inl (pst (g_l2 (· - ·)) 25)), (25, .inr (.inl (122, 3, none))), (28, .inl (pif (fun x => cEq x 0) 35 31)), (31, .inl (pst (g_k (.int (0))) 32)), (32, .inl (pst g_id 36)), (35, .inl (pst (g_k (.int (3))) 36)), (36, .inr (.inr (some .int)))]
def ubX5_put : pM2 := [(0, .inl (ploadk isI 1 1)), (1, .inr (.inl (179, 1, none))), (4, .inl (pif (fun x => cEq x 0) 13 7)), (7, .inl (ploadk isA 0 8)), (8, .inl (pst (g_k (.int (-1))) 9)), (9, .inr (.inl (127, 2, some 4))), (12, .inr (.inr (some .int))), (13, .inl (ploadk isA 0 14)), (14, .inl (ploadk isI 1 15)), (15, .inl (ploadk isI 2 16)), (16, .inr (.inl (182, 3, some 4))), (19, .inl (pif (fun x => cLe x 0) 33 22)), (22, .inl (ploadk isA 0 23)), (23, .inl (ploadk isA 0 24)), (24, .inl (ploadk isI 1 25)), (25, .inl (ploadk isI 2 26)), (26, .inr (.inl (182, 3, some 4))), (29, .inr (.inl (128, 2, some 4))), (32, .inr (.inr (some .int))), (33, .inl (ploadk isA 0 34)), (34, .inl (pgetf2 4 31 37)), (37, .inl (pst (g_k (.int (60))) 39)), (39, .inl (ploadk isI 1 40)), (40, .inl (pst (g_i2 (· * ·)) 41)), (41, .inl (ploadk isI 2 42)), (42, .inl (pst (g_i2 (· + ·)) 43)), (43, .inl (ploadk isA 0 44)), (44, .inl (pgetf2 4 30 47)), (47, .inl (ploadk isI 1 48)), (48, .inl (piald2 49)), (49, .inl (pif (fun x => cNe x 0) 57 52)), (52, .inl (ploadk isI 3 53)), (53, .inl (pst (g_i1 i2b) 54)), (54, .inl (pst g_id 73)), (57, .inl (ploadk isA 0 58)), (58, .inl (pgetf2 4 30 61)), (61, .inl (ploadk isI 1 62)), (62, .inl (piald2 63)), (63, .inl (pst (g_k (.int (1))) 64)), (64, .inl (picmp cNe 72 67)), (67, .inl (ploadk isI 3 68)), (68, .inl (pst (g_i1 i2s) 69)), (69, .inl (pst g_id 73)), (72, .inl (ploadk isI 3 73)), (73, .inl (piast2 74)), (74, .inl (ploadk isA 0 75)), (75, .inl (pst (g_k (.int (1))) 76)), (76, .inr (.inl (127, 2, some 4))), (79, .inr (.inr (some .int)))]
def ubX5_cell : pM2 := [(0, .inl (ploadk isA 0 1)), (1, .inl (pst (g_k (.int (0))) 2)), (2, .inl (pputf2 4 0 (.int) 5)), (5, .inl (ploadk isI 1 6)), (6, .inr (.inl (179, 1, none))), (9, .inl (pif (fun x => cNe x 0) 24 12)), (12, .inl (ploadk isI 3 13)), (13, .inl (pst (g_i2l) 14)), (14, .inl (pst (g_k (.long 0)) 15)), (15, .inl (pst (g_k (.long (2))) 18)), (18, .inr (.inl (122, 3, none))), (21, .inl (pif (fun x => cNe x 0) 28 24)), (24, .inr (.inl (123, 0, none))), (27, .inr (.inr (some .long))), (28, .inl (ploadk isA 0 29)), (29, .inl (pgetf2 4 29 32)), (32, .inl (ploadk isI 1 33)), (33, .inl (piald2 34)), (34, .inl (pif (fun x => cLt x 0) 53 37)), (37, .inl (ploadk isA 0 38)), (38, .inl (pgetf2 4 30 41)), (41, .inl (ploadk isI 1 42)), (42, .inl (piald2 43)), (43, .inl (ploadk isI 3 44)), (44, .inl (picmp cEq 53 47)), (47, .inl (ploadk isA 0 48)), (48, .inl (pst (g_k (.int (2))) 49)), (49, .inr (.inl (129, 2, some 4))), (52, .inr (.inr (some .long))), (53, .inl (ploadk isA 0 54)), (54, .inl (ploadk isI 1 55)), (55, .inl (ploadk isI 2 56)), (56, .inr (.inl (182, 3, some 4))), (59, .inl (pif (fun x => cLe x 0) 75 62)), (62, .inl (ploadk isA 0 63)), (63, .inl (ploadk isA 0 64)), (64, .inl (ploadk isI 1 65)), (65, .inl (ploadk isI 2 66)), (66, .inr (.inl (182, 3, some 4))), (69, .inr (.inl (129, 2, some 4))), (72, .inl (pst g_id 87)), (75, .inl (ploadk isA 0 76)), (76, .inl (pgetf2 4 31 79)), (79, .inl (pst (g_k (.int (60))) 81)), (81, .inl (ploadk isI 1 82)), (82, .inl (pst (g_i2 (· * ·)) 83)), (83, .inl (ploadk isI 2 84)), (84, .inl (pst (g_i2 (· + ·)) 85)), (85, .inl (piald2 86)), (86, .inl (pst (g_i2l) 87)), (87, .inr (.inr (some .long)))]
def ubX5_isBeyond : pM2 := [(0, .inl (ploadk isI 0 1)), (1, .inl (pif (fun x => cLt x 0) 20 4)), (4, .inl (ploadk isL 1 5)), (5, .inl (pst (g_k (.long 0)) 6)), (6, .inl (pst (g_lcmp) 7)), (7, .inl (pif (fun x => cLt x 0) 20 10)), (10, .inl (ploadk isI 0 11)), (11, .inl (pst (g_i2l) 12)), (12, .inl (ploadk isL 1 13)), (13, .inl (pst (g_l2 (· + ·)) 14)), (14, .inl (ploadk isI 3 15)), (15, .inl (pst (g_i2l) 16)), (16, .inl (pst (g_lcmp) 17)), (17, .inl (pif (fun x => cLe x 0) 24 20)), (20, .inl (pst (g_k (.int (1))) 21)), (21, .inl (pst g_id 25)), (24, .inl (pst (g_k (.int (0))) 25)), (25, .inr (.inr (some .boolean)))]
def ubX5_copy : pM2 := [(0, .inl (ploadk isI 1 1)), (1, .inr (.inl (179, 1, none))), (4, .inl (pif (fun x => cNe x 0) 14 7)), (7, .inl (ploadk isI 3 8)), (8, .inr (.inl (179, 1, none))), (11, .inl (pif (fun x => cEq x 0) 20 14)), (14, .inl (ploadk isA 0 15)), (15, .inl (pst (g_k (.int (-1))) 16)), (16, .inr (.inl (127, 2, some 4))), (19, .inr (.inr (some .int))), (20, .inl (ploadk isA 0 21)), (21, .inl (pgetf2 4 29 24)), (24, .inl (ploadk isI 1 25)), (25, .inl (piald2 26)), (26, .inl (pif (fun x => cLt x 0) 38 29)), (29, .inl (ploadk isA 0 30)), (30, .inl (pgetf2 4 29 33)), (33, .inl (ploadk isI 3 34)), (34, .inl (piald2 35)), (35, .inl (pif (fun x => cGe x 0) 44 38)), (38, .inl (ploadk isA 0 39)), (39, .inl (pst (g_k (.int (1))) 40)), (40, .inr (.inl (128, 2, some 4))), (43, .inr (.inr (some .int))), (44, .inl (ploadk isA 0 45)), (45, .inl (pgetf2 4 30 48)), (48, .inl (ploadk isI 1 49)), (49, .inl (piald2 50)), (50, .inl (ploadk isA 0 51)), (51, .inl (pgetf2 4 30 54)), (54, .inl (ploadk isI 3 55)), (55, .inl (piald2 56)), (56, .inl (picmp cEq 65 59)), (59, .inl (ploadk isA 0 60)), (60, .inl (pst (g_k (.int (2))) 61)), (61, .inr (.inl (128, 2, some 4))), (64, .inr (.inr (some .int))), (65, .inl (ploadk isI 2 66)), (66, .inl (ploadk isI 5 68)), (68, .inl (pst (g_i2l) 69)), (69, .inl (ploadk isA 0 70)), (70, .inl (pgetf2 4 29 73)), (73, .inl (ploadk isI 1 74)), (74, .inl (piald2 75)), (75, .inr (.inl (185, 3, none))), (78, .inl (pif (fun x => cNe x 0) 98 81)), (81, .inl (ploadk isI 4 83)), (83, .inl (ploadk isI 5 85)), (85, .inl (pst (g_i2l) 86)), (86, .inl (ploadk isA 0 87)), (87, .inl (pgetf2 4 29 90)), (90, .inl (ploadk isI 3 91)), (91, .inl (piald2 92)), (92, .inr (.inl (185, 3, none))), (95, .inl (pif (fun x => cEq x 0) 104 98)), (98, .inl (ploadk isA 0 99)), (99, .inl (pst (g_k (.int (3))) 100)), (100, .inr (.inl (128, 2, some 4))), (103, .inr (.inr (some .int))), (104, .inl (pst (g_k (.int (0))) 105)), (105, .inl (pstore isI 6 107)), (107, .inl (ploadk isI 6 109)), (109, .inl (ploadk isI 5 111)), (111, .inl (picmp cGe 141 114)), (114, .inl (ploadk isA 0 115)), (115, .inl (pgetf2 4 32 118)), (118, .inl (ploadk isI 6 120)), (120, .inl (ploadk isA 0 121)), (121, .inl (pgetf2 4 31 124)), (124, .inl (pst (g_k (.int (60))) 126)), (126, .inl (ploadk isI 1 127)), (127, .inl (pst (g_i2 (· * ·)) 128)), (128, .inl (ploadk isI 2 129)), (129, .inl (pst (g_i2 (· + ·)) 130)), (130, .inl (ploadk isI 6 132)), (132, .inl (pst (g_i2 (· + ·)) 133)), (133, .inl (piald2 134)), (134, .inl (piast2 135)), (135, .inl (piinc 6 (1) 138)), (138, .inl (pst g_id 107)), (141, .inl (pst (g_k (.int (0))) 142)), (142, .inl (pstore isI 6 144)), (144, .inl (pclr [1, 2] (ploadk isI 6 146))), (146, .inl (ploadk isI 5 148)), (148, .inl (picmp cGe 179 151)), (151, .inl (ploadk isA 0 152)), (152, .inl (pgetf2 4 31 155)), (155, .inl (pst (g_k (.int (60))) 157)), (157, .inl (ploadk isI 3 158)), (158, .inl (pst (g_i2 (· * ·)) 159)), (159, .inl (ploadk isI 4 161)), (161, .inl (pst (g_i2 (· + ·)) 162)), (162, .inl (ploadk isI 6 164)), (164, .inl (pst (g_i2 (· + ·)) 165)), (165, .inl (ploadk isA 0 166)), (166, .inl (pgetf2 4 32 169)), (169, .inl (ploadk isI 6 171)), (171, .inl (piald2 172)), (172, .inl (piast2 173)), (173, .inl (piinc 6 (1) 176)), (176, .inl (pst g_id 144)), (179, .inl (ploadk isA 0 180)), (180, .inl (ploadk isI 5 182)), (182, .inr (.inl (127, 2, some 4))), (185, .inr (.inr (some .int)))]
def ubX5_traced : pM2 := [(0, .inl (ploadk isA 0 1)), (1, .inl (pst (g_k (.int (31))) 3)), (3, .inl (ploadk isA 0 4)), (4, .inl (pgetf2 4 33 7)), (7, .inl (pst (g_i2 (· * ·)) 8)), (8, .inl (ploadk isI 1 9)), (9, .inl (pst (g_i2 (· + ·)) 10)), (10, .inl (pputf2 4 33 (.int) 13)), (13, .inr (.inr none))]
def ubX5_tell : pM2 := [(0, .inl (ploadk isA 0 1)), (1, .inl (ploadk isI 1 2)), (2, .inr (.inl (130, 2, some 4))), (5, .inl (pif (fun x => cEq x 0) 10 8)), (8, .inl (pst (g_k (.int (-1))) 9)), (9, .inr (.inr (some .int))), (10, .inl (ploadk isA 0 11)), (11, .inl (pgetf2 4 10 14)), (14, .inl (ploadk isI 1 15)), (15, .inl (piald2 16)), (16, .inl (pstore isI 2 17)), (17, .inl (ploadk isI 2 18)), (18, .inl (pst (g_k (.int (2))) 19)), (19, .inl (picmp cNe 27 22)), (22, .inl (ploadk isA 0 23)), (23, .inl (pst (g_k (.int (3))) 24)), (24, .inr (.inl (187, 2, some 4))), (27, .inl (ploadk isI 2 28)), (28, .inl (pif (fun x => cLe x 0) 36 31)), (31, .inl (ploadk isA 0 32)), (32, .inl (pst (g_k (.int (2))) 33)), (33, .inr (.inl (187, 2, some 4))), (36, .inl (ploadk isA 0 37)), (37, .inl (pst (g_k (.int (1))) 38)), (38, .inr (.inl (187, 2, some 4))), (41, .inl (ploadk isI 2 42)), (42, .inl (pst (g_k (.int (2))) 43)), (43, .inl (picmp cNe 51 46)), (46, .inl (ploadk isA 0 47)), (47, .inl (pst (g_k (.int (1))) 48)), (48, .inr (.inl (187, 2, some 4))), (51, .inl (ploadk isA 0 52)), (52, .inl (pgetf2 4 11 55)), (55, .inl (ploadk isI 1 56)), (56, .inl (piald2 57)), (57, .inl (pstore isI 3 58)), (58, .inl (ploadk isI 2 59)), (59, .inl (pif (fun x => cNe x 0) 66 62)), (62, .inl (ploadk isI 3 63)), (63, .inl (pst g_id 84)), (66, .inl (ploadk isI 2 67)), (67, .inl (pst (g_k (.int (1))) 68)), (68, .inl (picmp cNe 78 71)), (71, .inl (ploadk isI 3 72)), (72, .inl (pst (g_k (.int (100))) 74)), (74, .inl (pst (g_i2 (· + ·)) 75)), (75, .inl (pst g_id 84)), (78, .inl (pst (g_k (.int (2))) 79)), (79, .inl (ploadk isI 3 80)), (80, .inl (pst (g_i2 (· * ·)) 81)), (81, .inl (pst (g_k (.int (100))) 83)), (83, .inl (pst (g_i2 (· + ·)) 84)), (84, .inr (.inr (some .int)))]
def ubX5_greet : pM2 := [(0, .inl (ploadk isA 0 1)), (1, .inl (ploadk isI 1 2)), (2, .inr (.inl (130, 2, some 4))), (5, .inl (pif (fun x => cEq x 0) 10 8)), (8, .inl (pst (g_k (.int (-1))) 9)), (9, .inr (.inr (some .int))), (10, .inl (ploadk isA 0 11)), (11, .inl (ploadk isA 0 12)), (12, .inl (pgetf2 4 10 15)), (15, .inl (ploadk isI 1 16)), (16, .inl (piald2 17)), (17, .inl (pst (g_k (.int (2))) 18)), (18, .inl (picmp cNe 25 21)), (21, .inl (pst (g_k (.int (5))) 22)), (22, .inl (pst g_id 26)), (25, .inl (pst (g_k (.int (4))) 26)), (26, .inr (.inl (187, 2, some 4))), (29, .inl (ploadk isA 0 30)), (30, .inl (pgetf2 4 10 33)), (33, .inl (ploadk isI 1 34)), (34, .inl (piald2 35)), (35, .inl (pst (g_k (.int (2))) 36)), (36, .inl (picmp cNe 44 39)), (39, .inl (pst (g_k (.int (90))) 41)), (41, .inl (pst g_id 45)), (44, .inl (ploadk isI 1 45)), (45, .inr (.inr (some .int)))]
def ubX5_as : pM2 := [(0, .inl (ploadk isA 0 1)), (1, .inl (ploadk isI 1 2)), (2, .inr (.inl (130, 2, some 4))), (5, .inl (pif (fun x => cEq x 0) 14 8)), (8, .inl (ploadk isA 0 9)), (9, .inl (pst (g_k (.int (-1))) 10)), (10, .inr (.inl (127, 2, some 4))), (13, .inr (.inr (some .int))), (14, .inl (ploadk isI 2 15)), (15, .inl (pst (g_i2l) 16)), (16, .inl (pst (g_k (.long 0)) 17)), (17, .inl (pst (g_k (.long (2))) 20)), (20, .inr (.inl (122, 3, none))), (23, .inl (pif (fun x => cNe x 0) 33 26)), (26, .inl (ploadk isA 0 27)), (27, .inl (pst (g_k (.int (-2))) 29)), (29, .inr (.inl (127, 2, some 4))), (32, .inr (.inr (some .int))), (33, .inl (ploadk isA 0 34)), (34, .inl (pgetf2 4 10 37)), (37, .inl (ploadk isI 1 38)), (38, .inl (piald2 39)), (39, .inl (ploadk isI 2 40)), (40, .inl (picmp cLt 51 43)), (43, .inl (ploadk isA 0 44)), (44, .inl (pst (g_k (.int (1))) 45)), (45, .inr (.inl (127, 2, some 4))), (48, .inl (pst g_id 56)), (51, .inl (ploadk isA 0 52)), (52, .inl (pst (g_k (.int (2))) 53)), (53, .inr (.inl (128, 2, some 4))), (56, .inr (.inr (some .int)))]
def ubX5_trace : pM2 := [(0, .inl (ploadk isA 0 1)), (1, .inl (pgetf2 4 33 4)), (4, .inr (.inr (some .int)))]
def ubX5_fault : pM2 := [(0, .inl (ploadk isA 0 1)), (1, .inl (pgetf2 4 0 4)), (4, .inr (.inr (some .int)))]
def ubX5_many : pM2 := [(0, .inl (ploadk isI 1 1)), (1, .inl (psw [(0, 44), (1, 49), (2, 54), (3, 59), (4, 65), (5, 70), (6, 78)] 83)), (44, .inl (ploadk isA 0 45)), (45, .inl (pgetf2 4 1 48)), (48, .inr (.inr (some .int))), (49, .inl (ploadk isA 0 50)), (50, .inl (pgetf2 4 2 53)), (53, .inr (.inr (some .int))), (54, .inl (ploadk isA 0 55)), (55, .inl (pgetf2 4 3 58)), (58, .inr (.inr (some .int))), (59, .inl (ploadk isA 0 60)), (60, .inl (pst (g_k (.int (0))) 61)), (61, .inr (.inl (139, 2, some 4))), (64, .inr (.inr (some .int))), (65, .inl (ploadk isA 0 66)), (66, .inl (pgetf2 4 6 69)), (69, .inr (.inr (some .int))), (70, .inl (ploadk isA 0 71)), (71, .inl (pgetf2 4 8 74)), (74, .inr (.inl (125, 1, none))), (77, .inr (.inr (some .int))), (78, .inl (ploadk isA 0 79)), (79, .inl (pgetf2 4 25 82)), (82, .inr (.inr (some .int))), (83, .inl (pst (g_k (.int (-2))) 85)), (85, .inr (.inr (some .int)))]
def ubJ6_bitCount_0f7a4 : pM2 := [(0, .inl (ploadk isI 0 1)), (1, .inl (ploadk isI 0 2)), (2, .inl (pst (g_k (.int (1))) 3)), (3, .inl (pst (g_i2 ushr) 4)), (4, .inl (pst (g_k (.int (1431655765))) 7)), (7, .inl (pst (g_i2 (· &&& ·)) 8)), (8, .inl (pst (g_i2 (· - ·)) 9)), (9, .inl (pstore isI 0 10)), (10, .inl (ploadk isI 0 11)), (11, .inl (pst (g_k (.int (858993459))) 14)), (14, .inl (pst (g_i2 (· &&& ·)) 15)), (15, .inl (ploadk isI 0 16)), (16, .inl (pst (g_k (.int (2))) 17)), (17, .inl (pst (g_i2 ushr) 18)), (18, .inl (pst (g_k (.int (858993459))) 21)), (21, .inl (pst (g_i2 (· &&& ·)) 22)), (22, .inl (pst (g_i2 (· + ·)) 23)), (23, .inl (pstore isI 0 24)), (24, .inl (ploadk isI 0 25)), (25, .inl (ploadk isI 0 26)), (26, .inl (pst (g_k (.int (4))) 27)), (27, .inl (pst (g_i2 ushr) 28)), (28, .inl (pst (g_i2 (· + ·)) 29)), (29, .inl (pst (g_k (.int (252645135))) 32)), (32, .inl (pst (g_i2 (· &&& ·)) 33)), (33, .inl (pstore isI 0 34)), (34, .inl (ploadk isI 0 35)), (35, .inl (ploadk isI 0 36)), (36, .inl (pst (g_k (.int (8))) 38)), (38, .inl (pst (g_i2 ushr) 39)), (39, .inl (pst (g_i2 (· + ·)) 40)), (40, .inl (pstore isI 0 41)), (41, .inl (ploadk isI 0 42)), (42, .inl (ploadk isI 0 43)), (43, .inl (pst (g_k (.int (16))) 45)), (45, .inl (pst (g_i2 ushr) 46)), (46, .inl (pst (g_i2 (· + ·)) 47)), (47, .inl (pstore isI 0 48)), (48, .inl (ploadk isI 0 49)), (49, .inl (pst (g_k (.int (63))) 51)), (51, .inl (pst (g_i2 (· &&& ·)) 52)), (52, .inr (.inr (some .int)))]
def ubJ13_bitCount_95d88 : pM2 := [(0, .inl (ploadk isL 0 1)), (1, .inl (ploadk isL 0 2)), (2, .inl (pst (g_k (.int (1))) 3)), (3, .inl (pst (g_ls lushr) 4)), (4, .inl (pst (g_k (.long (6148914691236517205))) 7)), (7, .inl (pst (g_l2 (· &&& ·)) 8)), (8, .inl (pst (g_l2 (· - ·)) 9)), (9, .inl (pstore isL 0 10)), (10, .inl (ploadk isL 0 11)), (11, .inl (pst (g_k (.long (3689348814741910323))) 14)), (14, .inl (pst (g_l2 (· &&& ·)) 15)), (15, .inl (ploadk isL 0 16)), (16, .inl (pst (g_k (.int (2))) 17)), (17, .inl (pst (g_ls lushr) 18)), (18, .inl (pst (g_k (.long (3689348814741910323))) 21)), (21, .inl (pst (g_l2 (· &&& ·)) 22)), (22, .inl (pst (g_l2 (· + ·)) 23)), (23, .inl (pstore isL 0 24)), (24, .inl (ploadk isL 0 25)), (25, .inl (ploadk isL 0 26)), (26, .inl (pst (g_k (.int (4))) 27)), (27, .inl (pst (g_ls lushr) 28)), (28, .inl (pst (g_l2 (· + ·)) 29)), (29, .inl (pst (g_k (.long (1085102592571150095))) 32)), (32, .inl (pst (g_l2 (· &&& ·)) 33)), (33, .inl (pstore isL 0 34)), (34, .inl (ploadk isL 0 35)), (35, .inl (ploadk isL 0 36)), (36, .inl (pst (g_k (.int (8))) 38)), (38, .inl (pst (g_ls lushr) 39)), (39, .inl (pst (g_l2 (· + ·)) 40)), (40, .inl (pstore isL 0 41)), (41, .inl (ploadk isL 0 42)), (42, .inl (ploadk isL 0 43)), (43, .inl (pst (g_k (.int (16))) 45)), (45, .inl (pst (g_ls lushr) 46)), (46, .inl (pst (g_l2 (· + ·)) 47)), (47, .inl (pstore isL 0 48)), (48, .inl (ploadk isL 0 49)), (49, .inl (ploadk isL 0 50)), (50, .inl (pst (g_k (.int (32))) 52)), (52, .inl (pst (g_ls lushr) 53)), (53, .inl (pst (g_l2 (· + ·)) 54)), (54, .inl (pstore isL 0 55)), (55, .inl (ploadk isL 0 56)), (56, .inl (pst (g_l2i) 57)), (57, .inl (pst (g_k (.int (127))) 59)), (59, .inl (pst (g_i2 (· &&& ·)) 60)), (60, .inr (.inr (some .int)))]
def ubJ7_fill_53178 : pM2 := [(0, .inl (pst (g_k (.int (0))) 1)), (1, .inl (pstore isI 2 2)), (2, .inl (ploadk isA 0 3)), (3, .inl (palen2 4)), (4, .inl (pstore isI 3 5)), (5, .inl (ploadk isI 2 6)), (6, .inl (ploadk isI 3 7)), (7, .inl (picmp cGe 20 10)), (10, .inl (ploadk isA 0 11)), (11, .inl (ploadk isI 2 12)), (12, .inl (ploadk isI 1 13)), (13, .inl (piast2 14)), (14, .inl (piinc 2 (1) 17)), (17, .inl (pst g_id 5)), (20, .inr (.inr none))]
def pT2l : List (Option (Nat × Bool × pM2)) := [none, some (1, false, ubX0_count), some (1, false, ubX0_areFull), some (4, false, ubX0_add), some (2, false, ubX0_keep), some (9, false, ubX0_areSo), none, some (6, false, ubX1_beginBy), some (1, false, ubX1_exists), some (1, false, ubX1_columns), some (1, false, ubX1_rows), some (1, false, ubX1_lookers), some (1, false, ubX1_place), some (1, false, ubX1_seenCells), some (1, false, ubX1_stepsDone), some (1, false, ubX1_cells), some (2, false, ubX1_isCell), some (2, false, ubX1_isLooker), some (2, false, ubX1_heightOf), some (3, false, ubX1_makeHeight), some (2, false, ubX1_kindOf), some (2, false, ubX1_shortOf), some (3, false, ubX1_makeShort), some (2, false, ubX1_isGone), some (1, false, ubX1_lookersLeft), some (2, false, ubX1_takeOff), some (2, false, ubX1_bringBack), some (2, false, ubX1_moveTo), some (2, false, ubX1_seenFrom), some (3, false, ubX1_toldOf), some (4, true, ubX1_told), some (2, false, ubX1_columnOf), some (2, false, ubX1_rowOf), some (2, false, ubX1_isPlace), some (3, false, ubX1_nextPlace), some (10, true, ubX1_ofVoyage), some (4, false, ubX1_toldTogether), some (4, true, ubX1_mostTold), some (9, true, ubX1_ofWay), some (6, true, ubX1_fewestAcross), some (4, false, ubX1_ofMost), some (6, false, ubX1_bestRow), some (3, false, ubX1_stepOfRow), some (7, false, ubX1_gainOf), some (7, false, ubX1_flatWith), some (5, false, ubX1_cellsOfHeight), some (7, false, ubX1_bordering), some (5, false, ubX1_cellsOfColumn), some (9, false, ubX1_ofBegins), some (7, false, ubX1_isToldFrom), some (5, false, ubX1_isToldAt), some (1, false, ubX1_places), some (5, false, ubX1_placesWhereTold), some (6, false, ubX2_firstFault), some (7, true, ubX2_faultInLookers), some (6, false, ubX2_faultInTail), some (3, false, ubX2_codeAt), some (1, false, ubX2_isEdge), some (1, false, ubX2_digitOf), some (1, false, ubX2_kindOf), none, some (1, false, ubX3_hasNothing), some (1, false, ubX3_lane), some (3, false, ubX3_hasCells), some (4, false, ubX3_faultInTaking), some (3, false, ubX3_renew), some (1, false, ubX3_clear), some (2, false, ubX3_read), some (3, false, ubX3_write), some (2, false, ubX3_cutToLane), none, some (8, false, ubX4_sea), some (3, false, ubX4_ofLooker), some (2, false, ubX4_height), some (4, false, ubX4_heap), some (4, false, ubX4_dim), some (2, false, ubX4_scrape), some (2, false, ubX4_grow), some (1, false, ubX4_seen), some (4, false, ubX4_step), some (9, false, ubX4_voyage), some (3, false, ubX4_way), some (3, false, ubX4_most), some (2, false, ubX4_flat), some (9, false, ubX4_begun), some (9, false, ubX4_run), some (4, false, ubX4_reading), some (2, false, ubX4_back), some (4, false, ubX4_shorts), some (4, false, ubX4_kinds), some (7, false, ubX4_odds), some (5, false, ubX4_sheet), some (3, false, ubX4_lose), some (5, false, ubX4_put), some (5, false, ubX4_cell), some (9, false, ubX4_copy), some (2, false, ubX4_tell), some (2, false, ubX4_greet), some (3, false, ubX4_as), some (1, false, ubX4_trace), some (1, false, ubX4_fault), some (2, false, ubX4_many), some (2, false, ubX4_sheetOf), some (2, false, ubX4_faulted), some (6, false, ubX4_take), some (5, false, ubX4_readInto), some (3, false, ubX4_leastLengthToldAgain), some (4, false, ubX4_isToldAgain), some (2, false, ubX4_leaveInTrace), some (2, false, ubX4_plainBody), some (2, false, ubX4_deepBody), some (3, false, ubX4_grandBody), some (2, false, ubX4_lentGreetingBody), some (1, false, ubX4_ownGreetingBody), some (3, false, ubX4_within), some (1, false, ubX4_isLane), some (1, false, ubX4_isStep), some (1, false, ubX4_isDigit), some (3, false, ubX4_greatestDivisor), some (2, false, ubX4_numberAt), some (3, false, ubX4_setNumber), none, some (6, false, ubX5_in), some (0, false, ubX5_lost), some (2, false, ubX5_isIn), some (5, false, ubX5_bits), some (11, false, ubX5_share), some (2, false, ubX5_refused), some (2, false, ubX5_failed), some (2, false, ubX5_failedLong), some (2, false, ubX5_noLooker), some (2, false, ubX5_noPlace), some (3, false, ubX5_codeAt), some (8, false, ubX5_figure), some (5, false, ubX5_readsFloor), some (4, false, ubX5_readsLooker), some (4, false, ubX5_readsSea), some (6, false, ubX5_cellsBarred), some (7, false, ubX5_sea), some (2, false, ubX5_placeOf), some (4, false, ubX5_tells), some (4, false, ubX5_over), some (3, false, ubX5_ofLooker), some (2, false, ubX5_height), some (4, false, ubX5_heap), some (4, false, ubX5_dim), some (2, false, ubX5_scrape), some (2, false, ubX5_grow), some (1, false, ubX5_seen), some (3, false, ubX5_isPlace), some (1, false, ubX5_columnBy), some (1, false, ubX5_rowBy), some (4, false, ubX5_steps), some (3, false, ubX5_step), some (1, false, ubX5_keepAll), some (1, false, ubX5_bringBack), some (10, false, ubX5_voyageBy), some (8, false, ubX5_voyage), some (6, false, ubX5_isOver), some (3, false, ubX5_farAt), some (6, false, ubX5_isBeside), some (6, false, ubX5_measures), some (8, false, ubX5_wayStep), some (4, false, ubX5_way), some (5, false, ubX5_seenBy), some (7, false, ubX5_most), some (5, false, ubX5_areBeside), some (8, false, ubX5_flat), some (11, false, ubX5_begins), some (10, false, ubX5_begunBy), some (8, false, ubX5_begun), some (6, false, ubX5_goesOn), some (8, false, ubX5_run), some (4, false, ubX5_reading), some (2, false, ubX5_back), some (3, false, ubX5_areSo), some (5, false, ubX5_shorts), some (5, false, ubX5_kinds), some (8, false, ubX5_odds), some (1, false, ubX5_noSheet), some (5, false, ubX5_sheet), some (3, false, ubX5_lose), some (3, false, ubX5_noCell), some (4, false, ubX5_put), some (4, false, ubX5_cell), some (4, false, ubX5_isBeyond), some (7, false, ubX5_copy), some (2, false, ubX5_traced), some (4, false, ubX5_tell), some (2, false, ubX5_greet), some (3, false, ubX5_as), some (1, false, ubX5_trace), some (1, false, ubX5_fault), some (2, false, ubX5_many), some (1, false, ubJ6_bitCount_0f7a4), some (2, false, ubJ13_bitCount_95d88), some (4, false, ubJ7_fill_53178)]
def pT2 : pTab2 := fun j => (pT2l[j]?).join
def pDl : List (Nat × Nat) := [(1, 21), (0, 0), (0, 0), (1, 22), (0, 0), (2, 44), (1, 21), (2, 44), (0, 0), (0, 0), (0, 0), (0, 0), (0, 0), (0, 0), (0, 0), (0, 0), (1, 20), (0, 0), (1, 21), (1, 22), (1, 21), (1, 21), (1, 22), (0, 0), (1, 20), (0, 0), (1, 21), (1, 21), (0, 0), (2, 44), (1, 21), (0, 0), (0, 0), (2, 41), (1, 21), (4, 89), (3, 66), (3, 66), (2, 46), (1, 21), (4, 94), (3, 69), (0, 0), (2, 43), (3, 66), (2, 42), (1, 24), (0, 0), (5, 116), (4, 90), (3, 66), (0, 0), (3, 66), (4, 94), (3, 68), (2, 43), (1, 21), (1, 22), (1, 22), (0, 0), (1, 21), (0, 0), (0, 0), (0, 0), (1, 22), (1, 23), (0, 0), (1, 21), (1, 22), (0, 0), (2, 41), (5, 119), (3, 66), (2, 42), (2, 44), (2, 44), (2, 40), (2, 42), (1, 20), (2, 43), (5, 118), (3, 74), (5, 117), (4, 92), (6, 144), (4, 91), (2, 45), (1, 22), (3, 72), (3, 72), (4, 90), (2, 45), (1, 21), (2, 44), (2, 45), (3, 66), (5, 106), (2, 42), (2, 42), (0, 0), (0, 0), (1, 21), (0, 0), (0, 0), (3, 66), (2, 42), (2, 44), (1, 21), (0, 0), (2, 42), (3, 63), (4, 84), (1, 21), (1, 21), (0, 0), (1, 22), (1, 22), (1, 22), (0, 0), (0, 0), (0, 0), (1, 21), (0, 0), (0, 0), (0, 0), (0, 0), (0, 0), (0, 0), (0, 0), (1, 19), (1, 25), (1, 25), (0, 0), (1, 25), (2, 52), (2, 52), (3, 76), (1, 23), (4, 99), (0, 0), (0, 0), (1, 21), (2, 46), (2, 46), (2, 46), (2, 46), (2, 46), (2, 46), (1, 19), (1, 25), (0, 0), (0, 0), (2, 47), (3, 70), (0, 0), (0, 0), (3, 70), (4, 99), (1, 21), (2, 47), (3, 69), (4, 94), (3, 69), (5, 119), (3, 70), (4, 94), (0, 0), (2, 46), (2, 47), (3, 77), (4, 106), (0, 0), (2, 48), (2, 46), (1, 25), (1, 23), (2, 46), (2, 46), (2, 46), (1, 25), (2, 45), (2, 45), (1, 25), (2, 47), (2, 47), (0, 0), (2, 45), (0, 0), (2, 46), (2, 46), (2, 46), (0, 0), (0, 0), (1, 24), (0, 0), (0, 0), (0, 0)]
def pD (j : Nat) : Nat × Nat := pDl.getD j (0, 0)
def ubL_0 (L : Nat) (xs : Nat → Int32) : pM2 := [(0, .inl (fun _ => none)), (3, .inl (pst (g_dup) 4)), (4, .inr (.inl (70, 1, some 3))), (7, .inl (pstore isA 1 8)), (8, .inl (fun _ => none)), (11, .inl (pst (g_dup) 12)), (12, .inr (.inl (121, 1, some 4))), (15, .inl (pstore isA 2 16)), (16, .inl (pst (g_k (.int (0))) 17)), (17, .inl (pstore isI 3 18)), (18, .inl (ploadk isI 3 19)), (19, .inl (ploadk isA 0 20)), (20, .inl (pslen L 21)), (21, .inl (pst (g_k (.int (7))) 23)), (23, .inl (pst (g_i2 (· - ·)) 24)), (24, .inl (picmp cGt 1226 27)), (27, .inl (ploadk isA 0 28)), (28, .inl (ploadk isI 3 29)), (29, .inl (psld L xs 30)), (30, .inl (pst (g_k (.int (31))) 32)), (32, .inl (pst (g_i2 (· &&& ·)) 33)), (33, .inl (psw [(0, 172), (1, 225), (2, 258), (3, 281), (4, 314), (5, 347), (6, 370), (7, 393), (8, 407), (9, 430), (10, 493), (11, 526), (12, 559), (13, 582), (14, 657), (15, 720), (16, 763), (17, 786), (18, 809), (19, 832), (20, 876), (21, 919), (22, 942), (23, 985), (24, 1029), (25, 1092), (26, 1115), (27, 1138), (28, 1171), (29, 1184), (30, 1197)] 1220)), (172, .inl (ploadk isA 1 173)), (173, .inl (ploadk isA 0 174)), (174, .inl (ploadk isI 3 175)), (175, .inl (pst (g_k (.int (1))) 176)), (176, .inl (pst (g_i2 (· + ·)) 177)), (177, .inl (psld L xs 178)), (178, .inl (ploadk isA 0 179)), (179, .inl (ploadk isI 3 180)), (180, .inl (pst (g_k (.int (2))) 181)), (181, .inl (pst (g_i2 (· + ·)) 182)), (182, .inl (psld L xs 183)), (183, .inl (ploadk isA 0 184)), (184, .inl (ploadk isI 3 185)), (185, .inl (pst (g_k (.int (3))) 186)), (186, .inl (pst (g_i2 (· + ·)) 187)), (187, .inl (psld L xs 188)), (188, .inl (ploadk isA 0 189)), (189, .inl (ploadk isI 3 190)), (190, .inl (pst (g_k (.int (4))) 191)), (191, .inl (pst (g_i2 (· + ·)) 192)), (192, .inl (psld L xs 193)), (193, .inr (.inl (71, 5, some 3))), (196, .inl (ploadk isA 2 197)), (197, .inl (ploadk isA 0 198)), (198, .inl (ploadk isI 3 199)), (199, .inl (pst (g_k (.int (1))) 200)), (200, .inl (pst (g_i2 (· + ·)) 201)), (201, .inl (psld L xs 202)), (202, .inl (ploadk isA 0 203)), (203, .inl (ploadk isI 3 204)), (204, .inl (pst (g_k (.int (2))) 205)), (205, .inl (pst (g_i2 (· + ·)) 206)), (206, .inl (psld L xs 207)), (207, .inl (ploadk isA 0 208)), (208, .inl (ploadk isI 3 209)), (209, .inl (pst (g_k (.int (3))) 210)), (210, .inl (pst (g_i2 (· + ·)) 211)), (211, .inl (psld L xs 212))]
def ubL_1 (L : Nat) (xs : Nat → Int32) : pM2 := [(212, .inl (ploadk isA 0 213)), (213, .inl (ploadk isI 3 214)), (214, .inl (pst (g_k (.int (4))) 215)), (215, .inl (pst (g_i2 (· + ·)) 216)), (216, .inl (psld L xs 217)), (217, .inr (.inl (138, 5, some 4))), (220, .inl (picmp cEq 1220 223)), (223, .inl (pst (g_k (.int (0))) 224)), (224, .inr (.inr (some .boolean))), (225, .inl (ploadk isA 1 226)), (226, .inl (ploadk isA 0 227)), (227, .inl (ploadk isI 3 228)), (228, .inl (pst (g_k (.int (1))) 229)), (229, .inl (pst (g_i2 (· + ·)) 230)), (230, .inl (psld L xs 231)), (231, .inl (ploadk isA 0 232)), (232, .inl (ploadk isI 3 233)), (233, .inl (pst (g_k (.int (2))) 234)), (234, .inl (pst (g_i2 (· + ·)) 235)), (235, .inl (psld L xs 236)), (236, .inr (.inl (72, 3, some 3))), (239, .inl (ploadk isA 2 240)), (240, .inl (ploadk isA 0 241)), (241, .inl (ploadk isI 3 242)), (242, .inl (pst (g_k (.int (1))) 243)), (243, .inl (pst (g_i2 (· + ·)) 244)), (244, .inl (psld L xs 245)), (245, .inl (ploadk isA 0 246)), (246, .inl (ploadk isI 3 247)), (247, .inl (pst (g_k (.int (2))) 248)), (248, .inl (pst (g_i2 (· + ·)) 249)), (249, .inl (psld L xs 250)), (250, .inr (.inl (142, 3, some 4))), (253, .inl (picmp cEq 1220 256)), (256, .inl (pst (g_k (.int (0))) 257)), (257, .inr (.inr (some .boolean))), (258, .inl (ploadk isA 1 259)), (259, .inl (ploadk isA 0 260)), (260, .inl (ploadk isI 3 261)), (261, .inl (pst (g_k (.int (1))) 262)), (262, .inl (pst (g_i2 (· + ·)) 263)), (263, .inl (psld L xs 264)), (264, .inr (.inl (73, 2, some 3))), (267, .inl (ploadk isA 2 268)), (268, .inl (ploadk isA 0 269)), (269, .inl (ploadk isI 3 270)), (270, .inl (pst (g_k (.int (1))) 271)), (271, .inl (pst (g_i2 (· + ·)) 272)), (272, .inl (psld L xs 273)), (273, .inr (.inl (143, 2, some 4))), (276, .inl (picmp cEq 1220 279)), (279, .inl (pst (g_k (.int (0))) 280)), (280, .inr (.inr (some .boolean))), (281, .inl (ploadk isA 1 282)), (282, .inl (ploadk isA 0 283)), (283, .inl (ploadk isI 3 284)), (284, .inl (pst (g_k (.int (1))) 285)), (285, .inl (pst (g_i2 (· + ·)) 286)), (286, .inl (psld L xs 287)), (287, .inl (ploadk isA 0 288))]
def ubL_2 (L : Nat) (xs : Nat → Int32) : pM2 := [(288, .inl (ploadk isI 3 289)), (289, .inl (pst (g_k (.int (2))) 290)), (290, .inl (pst (g_i2 (· + ·)) 291)), (291, .inl (psld L xs 292)), (292, .inr (.inl (74, 3, some 3))), (295, .inl (ploadk isA 2 296)), (296, .inl (ploadk isA 0 297)), (297, .inl (ploadk isI 3 298)), (298, .inl (pst (g_k (.int (1))) 299)), (299, .inl (pst (g_i2 (· + ·)) 300)), (300, .inl (psld L xs 301)), (301, .inl (ploadk isA 0 302)), (302, .inl (ploadk isI 3 303)), (303, .inl (pst (g_k (.int (2))) 304)), (304, .inl (pst (g_i2 (· + ·)) 305)), (305, .inl (psld L xs 306)), (306, .inr (.inl (144, 3, some 4))), (309, .inl (picmp cEq 1220 312)), (312, .inl (pst (g_k (.int (0))) 313)), (313, .inr (.inr (some .boolean))), (314, .inl (ploadk isA 1 315)), (315, .inl (ploadk isA 0 316)), (316, .inl (ploadk isI 3 317)), (317, .inl (pst (g_k (.int (1))) 318)), (318, .inl (pst (g_i2 (· + ·)) 319)), (319, .inl (psld L xs 320)), (320, .inl (ploadk isA 0 321)), (321, .inl (ploadk isI 3 322)), (322, .inl (pst (g_k (.int (2))) 323)), (323, .inl (pst (g_i2 (· + ·)) 324)), (324, .inl (psld L xs 325)), (325, .inr (.inl (75, 3, some 3))), (328, .inl (ploadk isA 2 329)), (329, .inl (ploadk isA 0 330)), (330, .inl (ploadk isI 3 331)), (331, .inl (pst (g_k (.int (1))) 332)), (332, .inl (pst (g_i2 (· + ·)) 333)), (333, .inl (psld L xs 334)), (334, .inl (ploadk isA 0 335)), (335, .inl (ploadk isI 3 336)), (336, .inl (pst (g_k (.int (2))) 337)), (337, .inl (pst (g_i2 (· + ·)) 338)), (338, .inl (psld L xs 339)), (339, .inr (.inl (145, 3, some 4))), (342, .inl (picmp cEq 1220 345)), (345, .inl (pst (g_k (.int (0))) 346)), (346, .inr (.inr (some .boolean))), (347, .inl (ploadk isA 1 348)), (348, .inl (ploadk isA 0 349)), (349, .inl (ploadk isI 3 350)), (350, .inl (pst (g_k (.int (1))) 351)), (351, .inl (pst (g_i2 (· + ·)) 352)), (352, .inl (psld L xs 353)), (353, .inr (.inl (76, 2, some 3))), (356, .inl (ploadk isA 2 357)), (357, .inl (ploadk isA 0 358)), (358, .inl (ploadk isI 3 359)), (359, .inl (pst (g_k (.int (1))) 360)), (360, .inl (pst (g_i2 (· + ·)) 361)), (361, .inl (psld L xs 362))]
def ubL_3 (L : Nat) (xs : Nat → Int32) : pM2 := [(362, .inr (.inl (146, 2, some 4))), (365, .inl (picmp cEq 1220 368)), (368, .inl (pst (g_k (.int (0))) 369)), (369, .inr (.inr (some .boolean))), (370, .inl (ploadk isA 1 371)), (371, .inl (ploadk isA 0 372)), (372, .inl (ploadk isI 3 373)), (373, .inl (pst (g_k (.int (1))) 374)), (374, .inl (pst (g_i2 (· + ·)) 375)), (375, .inl (psld L xs 376)), (376, .inr (.inl (77, 2, some 3))), (379, .inl (ploadk isA 2 380)), (380, .inl (ploadk isA 0 381)), (381, .inl (ploadk isI 3 382)), (382, .inl (pst (g_k (.int (1))) 383)), (383, .inl (pst (g_i2 (· + ·)) 384)), (384, .inl (psld L xs 385)), (385, .inr (.inl (147, 2, some 4))), (388, .inl (picmp cEq 1220 391)), (391, .inl (pst (g_k (.int (0))) 392)), (392, .inr (.inr (some .boolean))), (393, .inl (ploadk isA 1 394)), (394, .inr (.inl (78, 1, some 3))), (397, .inl (ploadk isA 2 398)), (398, .inr (.inl (148, 1, some 4))), (401, .inl (pst (g_lcmp) 402)), (402, .inl (pif (fun x => cEq x 0) 1220 405)), (405, .inl (pst (g_k (.int (0))) 406)), (406, .inr (.inr (some .boolean))), (407, .inl (ploadk isA 1 408)), (408, .inl (ploadk isA 0 409)), (409, .inl (ploadk isI 3 410)), (410, .inl (pst (g_k (.int (1))) 411)), (411, .inl (pst (g_i2 (· + ·)) 412)), (412, .inl (psld L xs 413)), (413, .inr (.inl (79, 2, some 3))), (416, .inl (ploadk isA 2 417)), (417, .inl (ploadk isA 0 418)), (418, .inl (ploadk isI 3 419)), (419, .inl (pst (g_k (.int (1))) 420)), (420, .inl (pst (g_i2 (· + ·)) 421)), (421, .inl (psld L xs 422)), (422, .inr (.inl (153, 2, some 4))), (425, .inl (picmp cEq 1220 428)), (428, .inl (pst (g_k (.int (0))) 429)), (429, .inr (.inr (some .boolean))), (430, .inl (ploadk isA 1 431)), (431, .inl (ploadk isA 0 432)), (432, .inl (ploadk isI 3 433)), (433, .inl (pst (g_k (.int (1))) 434)), (434, .inl (pst (g_i2 (· + ·)) 435)), (435, .inl (psld L xs 436)), (436, .inl (ploadk isA 0 437)), (437, .inl (ploadk isI 3 438)), (438, .inl (pst (g_k (.int (2))) 439)), (439, .inl (pst (g_i2 (· + ·)) 440)), (440, .inl (psld L xs 441)), (441, .inl (ploadk isA 0 442)), (442, .inl (ploadk isI 3 443)), (443, .inl (pst (g_k (.int (3))) 444))]
def ubL_4 (L : Nat) (xs : Nat → Int32) : pM2 := [(444, .inl (pst (g_i2 (· + ·)) 445)), (445, .inl (psld L xs 446)), (446, .inl (ploadk isA 0 447)), (447, .inl (ploadk isI 3 448)), (448, .inl (pst (g_k (.int (4))) 449)), (449, .inl (pst (g_i2 (· + ·)) 450)), (450, .inl (psld L xs 451)), (451, .inl (ploadk isA 0 452)), (452, .inl (ploadk isI 3 453)), (453, .inl (pst (g_k (.int (5))) 454)), (454, .inl (pst (g_i2 (· + ·)) 455)), (455, .inl (psld L xs 456)), (456, .inr (.inl (80, 6, some 3))), (459, .inl (ploadk isA 2 460)), (460, .inl (ploadk isA 0 461)), (461, .inl (ploadk isI 3 462)), (462, .inl (pst (g_k (.int (1))) 463)), (463, .inl (pst (g_i2 (· + ·)) 464)), (464, .inl (psld L xs 465)), (465, .inl (ploadk isA 0 466)), (466, .inl (ploadk isI 3 467)), (467, .inl (pst (g_k (.int (2))) 468)), (468, .inl (pst (g_i2 (· + ·)) 469)), (469, .inl (psld L xs 470)), (470, .inl (ploadk isA 0 471)), (471, .inl (ploadk isI 3 472)), (472, .inl (pst (g_k (.int (3))) 473)), (473, .inl (pst (g_i2 (· + ·)) 474)), (474, .inl (psld L xs 475)), (475, .inl (ploadk isA 0 476)), (476, .inl (ploadk isI 3 477)), (477, .inl (pst (g_k (.int (4))) 478)), (478, .inl (pst (g_i2 (· + ·)) 479)), (479, .inl (psld L xs 480)), (480, .inl (ploadk isA 0 481)), (481, .inl (ploadk isI 3 482)), (482, .inl (pst (g_k (.int (5))) 483)), (483, .inl (pst (g_i2 (· + ·)) 484)), (484, .inl (psld L xs 485)), (485, .inr (.inl (157, 6, some 4))), (488, .inl (picmp cEq 1220 491)), (491, .inl (pst (g_k (.int (0))) 492)), (492, .inr (.inr (some .boolean))), (493, .inl (ploadk isA 1 494)), (494, .inl (ploadk isA 0 495)), (495, .inl (ploadk isI 3 496)), (496, .inl (pst (g_k (.int (1))) 497)), (497, .inl (pst (g_i2 (· + ·)) 498)), (498, .inl (psld L xs 499)), (499, .inl (ploadk isA 0 500)), (500, .inl (ploadk isI 3 501)), (501, .inl (pst (g_k (.int (2))) 502)), (502, .inl (pst (g_i2 (· + ·)) 503)), (503, .inl (psld L xs 504)), (504, .inr (.inl (81, 3, some 3))), (507, .inl (ploadk isA 2 508)), (508, .inl (ploadk isA 0 509)), (509, .inl (ploadk isI 3 510)), (510, .inl (pst (g_k (.int (1))) 511)), (511, .inl (pst (g_i2 (· + ·)) 512))]
def ubL_5 (L : Nat) (xs : Nat → Int32) : pM2 := [(512, .inl (psld L xs 513)), (513, .inl (ploadk isA 0 514)), (514, .inl (ploadk isI 3 515)), (515, .inl (pst (g_k (.int (2))) 516)), (516, .inl (pst (g_i2 (· + ·)) 517)), (517, .inl (psld L xs 518)), (518, .inr (.inl (163, 3, some 4))), (521, .inl (picmp cEq 1220 524)), (524, .inl (pst (g_k (.int (0))) 525)), (525, .inr (.inr (some .boolean))), (526, .inl (ploadk isA 1 527)), (527, .inl (ploadk isA 0 528)), (528, .inl (ploadk isI 3 529)), (529, .inl (pst (g_k (.int (1))) 530)), (530, .inl (pst (g_i2 (· + ·)) 531)), (531, .inl (psld L xs 532)), (532, .inl (ploadk isA 0 533)), (533, .inl (ploadk isI 3 534)), (534, .inl (pst (g_k (.int (2))) 535)), (535, .inl (pst (g_i2 (· + ·)) 536)), (536, .inl (psld L xs 537)), (537, .inr (.inl (82, 3, some 3))), (540, .inl (ploadk isA 2 541)), (541, .inl (ploadk isA 0 542)), (542, .inl (ploadk isI 3 543)), (543, .inl (pst (g_k (.int (1))) 544)), (544, .inl (pst (g_i2 (· + ·)) 545)), (545, .inl (psld L xs 546)), (546, .inl (ploadk isA 0 547)), (547, .inl (ploadk isI 3 548)), (548, .inl (pst (g_k (.int (2))) 549)), (549, .inl (pst (g_i2 (· + ·)) 550)), (550, .inl (psld L xs 551)), (551, .inr (.inl (165, 3, some 4))), (554, .inl (picmp cEq 1220 557)), (557, .inl (pst (g_k (.int (0))) 558)), (558, .inr (.inr (some .boolean))), (559, .inl (ploadk isA 1 560)), (560, .inl (ploadk isA 0 561)), (561, .inl (ploadk isI 3 562)), (562, .inl (pst (g_k (.int (1))) 563)), (563, .inl (pst (g_i2 (· + ·)) 564)), (564, .inl (psld L xs 565)), (565, .inr (.inl (83, 2, some 3))), (568, .inl (ploadk isA 2 569)), (569, .inl (ploadk isA 0 570)), (570, .inl (ploadk isI 3 571)), (571, .inl (pst (g_k (.int (1))) 572)), (572, .inl (pst (g_i2 (· + ·)) 573)), (573, .inl (psld L xs 574)), (574, .inr (.inl (167, 2, some 4))), (577, .inl (picmp cEq 1220 580)), (580, .inl (pst (g_k (.int (0))) 581)), (581, .inr (.inr (some .boolean))), (582, .inl (ploadk isA 1 583)), (583, .inl (ploadk isA 0 584)), (584, .inl (ploadk isI 3 585)), (585, .inl (pst (g_k (.int (1))) 586)), (586, .inl (pst (g_i2 (· + ·)) 587)), (587, .inl (psld L xs 588))]
def ubL_6 (L : Nat) (xs : Nat → Int32) : pM2 := [(588, .inl (ploadk isA 0 589)), (589, .inl (ploadk isI 3 590)), (590, .inl (pst (g_k (.int (2))) 591)), (591, .inl (pst (g_i2 (· + ·)) 592)), (592, .inl (psld L xs 593)), (593, .inl (ploadk isA 0 594)), (594, .inl (ploadk isI 3 595)), (595, .inl (pst (g_k (.int (3))) 596)), (596, .inl (pst (g_i2 (· + ·)) 597)), (597, .inl (psld L xs 598)), (598, .inl (ploadk isA 0 599)), (599, .inl (ploadk isI 3 600)), (600, .inl (pst (g_k (.int (4))) 601)), (601, .inl (pst (g_i2 (· + ·)) 602)), (602, .inl (psld L xs 603)), (603, .inl (ploadk isA 0 604)), (604, .inl (ploadk isI 3 605)), (605, .inl (pst (g_k (.int (5))) 606)), (606, .inl (pst (g_i2 (· + ·)) 607)), (607, .inl (psld L xs 608)), (608, .inl (ploadk isA 0 609)), (609, .inl (ploadk isI 3 610)), (610, .inl (pst (g_k (.int (6))) 612)), (612, .inl (pst (g_i2 (· + ·)) 613)), (613, .inl (psld L xs 614)), (614, .inr (.inl (84, 7, some 3))), (617, .inl (ploadk isA 2 618)), (618, .inl (ploadk isA 0 619)), (619, .inl (ploadk isI 3 620)), (620, .inl (pst (g_k (.int (1))) 621)), (621, .inl (pst (g_i2 (· + ·)) 622)), (622, .inl (psld L xs 623)), (623, .inl (ploadk isA 0 624)), (624, .inl (ploadk isI 3 625)), (625, .inl (pst (g_k (.int (2))) 626)), (626, .inl (pst (g_i2 (· + ·)) 627)), (627, .inl (psld L xs 628)), (628, .inl (ploadk isA 0 629)), (629, .inl (ploadk isI 3 630)), (630, .inl (pst (g_k (.int (3))) 631)), (631, .inl (pst (g_i2 (· + ·)) 632)), (632, .inl (psld L xs 633)), (633, .inl (ploadk isA 0 634)), (634, .inl (ploadk isI 3 635)), (635, .inl (pst (g_k (.int (4))) 636)), (636, .inl (pst (g_i2 (· + ·)) 637)), (637, .inl (psld L xs 638)), (638, .inl (ploadk isA 0 639)), (639, .inl (ploadk isI 3 640)), (640, .inl (pst (g_k (.int (5))) 641)), (641, .inl (pst (g_i2 (· + ·)) 642)), (642, .inl (psld L xs 643)), (643, .inl (ploadk isA 0 644)), (644, .inl (ploadk isI 3 645)), (645, .inl (pst (g_k (.int (6))) 647)), (647, .inl (pst (g_i2 (· + ·)) 648)), (648, .inl (psld L xs 649)), (649, .inr (.inl (170, 7, some 4))), (652, .inl (picmp cEq 1220 655)), (655, .inl (pst (g_k (.int (0))) 656))]
def ubL_7 (L : Nat) (xs : Nat → Int32) : pM2 := [(656, .inr (.inr (some .boolean))), (657, .inl (ploadk isA 1 658)), (658, .inl (ploadk isA 0 659)), (659, .inl (ploadk isI 3 660)), (660, .inl (pst (g_k (.int (1))) 661)), (661, .inl (pst (g_i2 (· + ·)) 662)), (662, .inl (psld L xs 663)), (663, .inl (ploadk isA 0 664)), (664, .inl (ploadk isI 3 665)), (665, .inl (pst (g_k (.int (2))) 666)), (666, .inl (pst (g_i2 (· + ·)) 667)), (667, .inl (psld L xs 668)), (668, .inl (ploadk isA 0 669)), (669, .inl (ploadk isI 3 670)), (670, .inl (pst (g_k (.int (3))) 671)), (671, .inl (pst (g_i2 (· + ·)) 672)), (672, .inl (psld L xs 673)), (673, .inl (ploadk isA 0 674)), (674, .inl (ploadk isI 3 675)), (675, .inl (pst (g_k (.int (4))) 676)), (676, .inl (pst (g_i2 (· + ·)) 677)), (677, .inl (psld L xs 678)), (678, .inl (ploadk isA 0 679)), (679, .inl (ploadk isI 3 680)), (680, .inl (pst (g_k (.int (5))) 681)), (681, .inl (pst (g_i2 (· + ·)) 682)), (682, .inl (psld L xs 683)), (683, .inr (.inl (85, 6, some 3))), (686, .inl (ploadk isA 2 687)), (687, .inl (ploadk isA 0 688)), (688, .inl (ploadk isI 3 689)), (689, .inl (pst (g_k (.int (1))) 690)), (690, .inl (pst (g_i2 (· + ·)) 691)), (691, .inl (psld L xs 692)), (692, .inl (ploadk isA 0 693)), (693, .inl (ploadk isI 3 694)), (694, .inl (pst (g_k (.int (2))) 695)), (695, .inl (pst (g_i2 (· + ·)) 696)), (696, .inl (psld L xs 697)), (697, .inl (ploadk isA 0 698)), (698, .inl (ploadk isI 3 699)), (699, .inl (pst (g_k (.int (3))) 700)), (700, .inl (pst (g_i2 (· + ·)) 701)), (701, .inl (psld L xs 702)), (702, .inl (ploadk isA 0 703)), (703, .inl (ploadk isI 3 704)), (704, .inl (pst (g_k (.int (4))) 705)), (705, .inl (pst (g_i2 (· + ·)) 706)), (706, .inl (psld L xs 707)), (707, .inl (ploadk isA 0 708)), (708, .inl (ploadk isI 3 709)), (709, .inl (pst (g_k (.int (5))) 710)), (710, .inl (pst (g_i2 (· + ·)) 711)), (711, .inl (psld L xs 712)), (712, .inr (.inl (172, 6, some 4))), (715, .inl (picmp cEq 1220 718)), (718, .inl (pst (g_k (.int (0))) 719)), (719, .inr (.inr (some .boolean))), (720, .inl (ploadk isA 1 721)), (721, .inl (ploadk isA 0 722))]
def ubL_8 (L : Nat) (xs : Nat → Int32) : pM2 := [(722, .inl (ploadk isI 3 723)), (723, .inl (pst (g_k (.int (1))) 724)), (724, .inl (pst (g_i2 (· + ·)) 725)), (725, .inl (psld L xs 726)), (726, .inl (ploadk isA 0 727)), (727, .inl (ploadk isI 3 728)), (728, .inl (pst (g_k (.int (2))) 729)), (729, .inl (pst (g_i2 (· + ·)) 730)), (730, .inl (psld L xs 731)), (731, .inl (ploadk isA 0 732)), (732, .inl (ploadk isI 3 733)), (733, .inl (pst (g_k (.int (3))) 734)), (734, .inl (pst (g_i2 (· + ·)) 735)), (735, .inl (psld L xs 736)), (736, .inr (.inl (86, 4, some 3))), (739, .inl (ploadk isA 2 740)), (740, .inl (ploadk isA 0 741)), (741, .inl (ploadk isI 3 742)), (742, .inl (pst (g_k (.int (1))) 743)), (743, .inl (pst (g_i2 (· + ·)) 744)), (744, .inl (psld L xs 745)), (745, .inl (ploadk isA 0 746)), (746, .inl (ploadk isI 3 747)), (747, .inl (pst (g_k (.int (2))) 748)), (748, .inl (pst (g_i2 (· + ·)) 749)), (749, .inl (psld L xs 750)), (750, .inl (ploadk isA 0 751)), (751, .inl (ploadk isI 3 752)), (752, .inl (pst (g_k (.int (3))) 753)), (753, .inl (pst (g_i2 (· + ·)) 754)), (754, .inl (psld L xs 755)), (755, .inr (.inl (173, 4, some 4))), (758, .inl (picmp cEq 1220 761)), (761, .inl (pst (g_k (.int (0))) 762)), (762, .inr (.inr (some .boolean))), (763, .inl (ploadk isA 1 764)), (764, .inl (ploadk isA 0 765)), (765, .inl (ploadk isI 3 766)), (766, .inl (pst (g_k (.int (1))) 767)), (767, .inl (pst (g_i2 (· + ·)) 768)), (768, .inl (psld L xs 769)), (769, .inr (.inl (87, 2, some 3))), (772, .inl (ploadk isA 2 773)), (773, .inl (ploadk isA 0 774)), (774, .inl (ploadk isI 3 775)), (775, .inl (pst (g_k (.int (1))) 776)), (776, .inl (pst (g_i2 (· + ·)) 777)), (777, .inl (psld L xs 778)), (778, .inr (.inl (174, 2, some 4))), (781, .inl (picmp cEq 1220 784)), (784, .inl (pst (g_k (.int (0))) 785)), (785, .inr (.inr (some .boolean))), (786, .inl (ploadk isA 1 787)), (787, .inl (ploadk isA 0 788)), (788, .inl (ploadk isI 3 789)), (789, .inl (pst (g_k (.int (1))) 790)), (790, .inl (pst (g_i2 (· + ·)) 791)), (791, .inl (psld L xs 792)), (792, .inr (.inl (88, 2, some 3))), (795, .inl (ploadk isA 2 796))]
def ubL_9 (L : Nat) (xs : Nat → Int32) : pM2 := [(796, .inl (ploadk isA 0 797)), (797, .inl (ploadk isI 3 798)), (798, .inl (pst (g_k (.int (1))) 799)), (799, .inl (pst (g_i2 (· + ·)) 800)), (800, .inl (psld L xs 801)), (801, .inr (.inl (176, 2, some 4))), (804, .inl (picmp cEq 1220 807)), (807, .inl (pst (g_k (.int (0))) 808)), (808, .inr (.inr (some .boolean))), (809, .inl (ploadk isA 1 810)), (810, .inl (ploadk isA 0 811)), (811, .inl (ploadk isI 3 812)), (812, .inl (pst (g_k (.int (1))) 813)), (813, .inl (pst (g_i2 (· + ·)) 814)), (814, .inl (psld L xs 815)), (815, .inr (.inl (89, 2, some 3))), (818, .inl (ploadk isA 2 819)), (819, .inl (ploadk isA 0 820)), (820, .inl (ploadk isI 3 821)), (821, .inl (pst (g_k (.int (1))) 822)), (822, .inl (pst (g_i2 (· + ·)) 823)), (823, .inl (psld L xs 824)), (824, .inr (.inl (177, 2, some 4))), (827, .inl (picmp cEq 1220 830)), (830, .inl (pst (g_k (.int (0))) 831)), (831, .inr (.inr (some .boolean))), (832, .inl (ploadk isA 1 833)), (833, .inl (ploadk isA 0 834)), (834, .inl (ploadk isI 3 835)), (835, .inl (pst (g_k (.int (1))) 836)), (836, .inl (pst (g_i2 (· + ·)) 837)), (837, .inl (psld L xs 838)), (838, .inl (ploadk isA 0 839)), (839, .inl (ploadk isI 3 840)), (840, .inl (pst (g_k (.int (2))) 841)), (841, .inl (pst (g_i2 (· + ·)) 842)), (842, .inl (psld L xs 843)), (843, .inl (ploadk isA 0 844)), (844, .inl (ploadk isI 3 845)), (845, .inl (pst (g_k (.int (3))) 846)), (846, .inl (pst (g_i2 (· + ·)) 847)), (847, .inl (psld L xs 848)), (848, .inr (.inl (90, 4, some 3))), (851, .inl (ploadk isA 2 852)), (852, .inl (ploadk isA 0 853)), (853, .inl (ploadk isI 3 854)), (854, .inl (pst (g_k (.int (1))) 855)), (855, .inl (pst (g_i2 (· + ·)) 856)), (856, .inl (psld L xs 857)), (857, .inl (ploadk isA 0 858)), (858, .inl (ploadk isI 3 859)), (859, .inl (pst (g_k (.int (2))) 860)), (860, .inl (pst (g_i2 (· + ·)) 861)), (861, .inl (psld L xs 862)), (862, .inl (ploadk isA 0 863)), (863, .inl (ploadk isI 3 864)), (864, .inl (pst (g_k (.int (3))) 865)), (865, .inl (pst (g_i2 (· + ·)) 866)), (866, .inl (psld L xs 867)), (867, .inr (.inl (178, 4, some 4)))]
def ubL_10 (L : Nat) (xs : Nat → Int32) : pM2 := [(870, .inl (pst (g_lcmp) 871)), (871, .inl (pif (fun x => cEq x 0) 1220 874)), (874, .inl (pst (g_k (.int (0))) 875)), (875, .inr (.inr (some .boolean))), (876, .inl (ploadk isA 1 877)), (877, .inl (ploadk isA 0 878)), (878, .inl (ploadk isI 3 879)), (879, .inl (pst (g_k (.int (1))) 880)), (880, .inl (pst (g_i2 (· + ·)) 881)), (881, .inl (psld L xs 882)), (882, .inl (ploadk isA 0 883)), (883, .inl (ploadk isI 3 884)), (884, .inl (pst (g_k (.int (2))) 885)), (885, .inl (pst (g_i2 (· + ·)) 886)), (886, .inl (psld L xs 887)), (887, .inl (ploadk isA 0 888)), (888, .inl (ploadk isI 3 889)), (889, .inl (pst (g_k (.int (3))) 890)), (890, .inl (pst (g_i2 (· + ·)) 891)), (891, .inl (psld L xs 892)), (892, .inr (.inl (91, 4, some 3))), (895, .inl (ploadk isA 2 896)), (896, .inl (ploadk isA 0 897)), (897, .inl (ploadk isI 3 898)), (898, .inl (pst (g_k (.int (1))) 899)), (899, .inl (pst (g_i2 (· + ·)) 900)), (900, .inl (psld L xs 901)), (901, .inl (ploadk isA 0 902)), (902, .inl (ploadk isI 3 903)), (903, .inl (pst (g_k (.int (2))) 904)), (904, .inl (pst (g_i2 (· + ·)) 905)), (905, .inl (psld L xs 906)), (906, .inl (ploadk isA 0 907)), (907, .inl (ploadk isI 3 908)), (908, .inl (pst (g_k (.int (3))) 909)), (909, .inl (pst (g_i2 (· + ·)) 910)), (910, .inl (psld L xs 911)), (911, .inr (.inl (180, 4, some 4))), (914, .inl (picmp cEq 1220 917)), (917, .inl (pst (g_k (.int (0))) 918)), (918, .inr (.inr (some .boolean))), (919, .inl (ploadk isA 1 920)), (920, .inl (ploadk isA 0 921)), (921, .inl (ploadk isI 3 922)), (922, .inl (pst (g_k (.int (1))) 923)), (923, .inl (pst (g_i2 (· + ·)) 924)), (924, .inl (psld L xs 925)), (925, .inr (.inl (92, 2, some 3))), (928, .inl (ploadk isA 2 929)), (929, .inl (ploadk isA 0 930)), (930, .inl (ploadk isI 3 931)), (931, .inl (pst (g_k (.int (1))) 932)), (932, .inl (pst (g_i2 (· + ·)) 933)), (933, .inl (psld L xs 934)), (934, .inr (.inl (181, 2, some 4))), (937, .inl (picmp cEq 1220 940)), (940, .inl (pst (g_k (.int (0))) 941)), (941, .inr (.inr (some .boolean))), (942, .inl (ploadk isA 1 943)), (943, .inl (ploadk isA 0 944))]
def ubL_11 (L : Nat) (xs : Nat → Int32) : pM2 := [(944, .inl (ploadk isI 3 945)), (945, .inl (pst (g_k (.int (1))) 946)), (946, .inl (pst (g_i2 (· + ·)) 947)), (947, .inl (psld L xs 948)), (948, .inl (ploadk isA 0 949)), (949, .inl (ploadk isI 3 950)), (950, .inl (pst (g_k (.int (2))) 951)), (951, .inl (pst (g_i2 (· + ·)) 952)), (952, .inl (psld L xs 953)), (953, .inl (ploadk isA 0 954)), (954, .inl (ploadk isI 3 955)), (955, .inl (pst (g_k (.int (3))) 956)), (956, .inl (pst (g_i2 (· + ·)) 957)), (957, .inl (psld L xs 958)), (958, .inr (.inl (93, 4, some 3))), (961, .inl (ploadk isA 2 962)), (962, .inl (ploadk isA 0 963)), (963, .inl (ploadk isI 3 964)), (964, .inl (pst (g_k (.int (1))) 965)), (965, .inl (pst (g_i2 (· + ·)) 966)), (966, .inl (psld L xs 967)), (967, .inl (ploadk isA 0 968)), (968, .inl (ploadk isI 3 969)), (969, .inl (pst (g_k (.int (2))) 970)), (970, .inl (pst (g_i2 (· + ·)) 971)), (971, .inl (psld L xs 972)), (972, .inl (ploadk isA 0 973)), (973, .inl (ploadk isI 3 974)), (974, .inl (pst (g_k (.int (3))) 975)), (975, .inl (pst (g_i2 (· + ·)) 976)), (976, .inl (psld L xs 977)), (977, .inr (.inl (183, 4, some 4))), (980, .inl (picmp cEq 1220 983)), (983, .inl (pst (g_k (.int (0))) 984)), (984, .inr (.inr (some .boolean))), (985, .inl (ploadk isA 1 986)), (986, .inl (ploadk isA 0 987)), (987, .inl (ploadk isI 3 988)), (988, .inl (pst (g_k (.int (1))) 989)), (989, .inl (pst (g_i2 (· + ·)) 990)), (990, .inl (psld L xs 991)), (991, .inl (ploadk isA 0 992)), (992, .inl (ploadk isI 3 993)), (993, .inl (pst (g_k (.int (2))) 994)), (994, .inl (pst (g_i2 (· + ·)) 995)), (995, .inl (psld L xs 996)), (996, .inl (ploadk isA 0 997)), (997, .inl (ploadk isI 3 998)), (998, .inl (pst (g_k (.int (3))) 999)), (999, .inl (pst (g_i2 (· + ·)) 1000)), (1000, .inl (psld L xs 1001)), (1001, .inr (.inl (94, 4, some 3))), (1004, .inl (ploadk isA 2 1005)), (1005, .inl (ploadk isA 0 1006)), (1006, .inl (ploadk isI 3 1007)), (1007, .inl (pst (g_k (.int (1))) 1008)), (1008, .inl (pst (g_i2 (· + ·)) 1009)), (1009, .inl (psld L xs 1010)), (1010, .inl (ploadk isA 0 1011)), (1011, .inl (ploadk isI 3 1012))]
def ubL_12 (L : Nat) (xs : Nat → Int32) : pM2 := [(1012, .inl (pst (g_k (.int (2))) 1013)), (1013, .inl (pst (g_i2 (· + ·)) 1014)), (1014, .inl (psld L xs 1015)), (1015, .inl (ploadk isA 0 1016)), (1016, .inl (ploadk isI 3 1017)), (1017, .inl (pst (g_k (.int (3))) 1018)), (1018, .inl (pst (g_i2 (· + ·)) 1019)), (1019, .inl (psld L xs 1020)), (1020, .inr (.inl (184, 4, some 4))), (1023, .inl (pst (g_lcmp) 1024)), (1024, .inl (pif (fun x => cEq x 0) 1220 1027)), (1027, .inl (pst (g_k (.int (0))) 1028)), (1028, .inr (.inr (some .boolean))), (1029, .inl (ploadk isA 1 1030)), (1030, .inl (ploadk isA 0 1031)), (1031, .inl (ploadk isI 3 1032)), (1032, .inl (pst (g_k (.int (1))) 1033)), (1033, .inl (pst (g_i2 (· + ·)) 1034)), (1034, .inl (psld L xs 1035)), (1035, .inl (ploadk isA 0 1036)), (1036, .inl (ploadk isI 3 1037)), (1037, .inl (pst (g_k (.int (2))) 1038)), (1038, .inl (pst (g_i2 (· + ·)) 1039)), (1039, .inl (psld L xs 1040)), (1040, .inl (ploadk isA 0 1041)), (1041, .inl (ploadk isI 3 1042)), (1042, .inl (pst (g_k (.int (3))) 1043)), (1043, .inl (pst (g_i2 (· + ·)) 1044)), (1044, .inl (psld L xs 1045)), (1045, .inl (ploadk isA 0 1046)), (1046, .inl (ploadk isI 3 1047)), (1047, .inl (pst (g_k (.int (4))) 1048)), (1048, .inl (pst (g_i2 (· + ·)) 1049)), (1049, .inl (psld L xs 1050)), (1050, .inl (ploadk isA 0 1051)), (1051, .inl (ploadk isI 3 1052)), (1052, .inl (pst (g_k (.int (5))) 1053)), (1053, .inl (pst (g_i2 (· + ·)) 1054)), (1054, .inl (psld L xs 1055)), (1055, .inr (.inl (95, 6, some 3))), (1058, .inl (ploadk isA 2 1059)), (1059, .inl (ploadk isA 0 1060)), (1060, .inl (ploadk isI 3 1061)), (1061, .inl (pst (g_k (.int (1))) 1062)), (1062, .inl (pst (g_i2 (· + ·)) 1063)), (1063, .inl (psld L xs 1064)), (1064, .inl (ploadk isA 0 1065)), (1065, .inl (ploadk isI 3 1066)), (1066, .inl (pst (g_k (.int (2))) 1067)), (1067, .inl (pst (g_i2 (· + ·)) 1068)), (1068, .inl (psld L xs 1069)), (1069, .inl (ploadk isA 0 1070)), (1070, .inl (ploadk isI 3 1071)), (1071, .inl (pst (g_k (.int (3))) 1072)), (1072, .inl (pst (g_i2 (· + ·)) 1073)), (1073, .inl (psld L xs 1074)), (1074, .inl (ploadk isA 0 1075)), (1075, .inl (ploadk isI 3 1076)), (1076, .inl (pst (g_k (.int (4))) 1077)), (1077, .inl (pst (g_i2 (· + ·)) 1078))]
def ubL_13 (L : Nat) (xs : Nat → Int32) : pM2 := [(1078, .inl (psld L xs 1079)), (1079, .inl (ploadk isA 0 1080)), (1080, .inl (ploadk isI 3 1081)), (1081, .inl (pst (g_k (.int (5))) 1082)), (1082, .inl (pst (g_i2 (· + ·)) 1083)), (1083, .inl (psld L xs 1084)), (1084, .inr (.inl (186, 6, some 4))), (1087, .inl (picmp cEq 1220 1090)), (1090, .inl (pst (g_k (.int (0))) 1091)), (1091, .inr (.inr (some .boolean))), (1092, .inl (ploadk isA 1 1093)), (1093, .inl (ploadk isA 0 1094)), (1094, .inl (ploadk isI 3 1095)), (1095, .inl (pst (g_k (.int (1))) 1096)), (1096, .inl (pst (g_i2 (· + ·)) 1097)), (1097, .inl (psld L xs 1098)), (1098, .inr (.inl (96, 2, some 3))), (1101, .inl (ploadk isA 2 1102)), (1102, .inl (ploadk isA 0 1103)), (1103, .inl (ploadk isI 3 1104)), (1104, .inl (pst (g_k (.int (1))) 1105)), (1105, .inl (pst (g_i2 (· + ·)) 1106)), (1106, .inl (psld L xs 1107)), (1107, .inr (.inl (188, 2, some 4))), (1110, .inl (picmp cEq 1220 1113)), (1113, .inl (pst (g_k (.int (0))) 1114)), (1114, .inr (.inr (some .boolean))), (1115, .inl (ploadk isA 1 1116)), (1116, .inl (ploadk isA 0 1117)), (1117, .inl (ploadk isI 3 1118)), (1118, .inl (pst (g_k (.int (1))) 1119)), (1119, .inl (pst (g_i2 (· + ·)) 1120)), (1120, .inl (psld L xs 1121)), (1121, .inr (.inl (97, 2, some 3))), (1124, .inl (ploadk isA 2 1125)), (1125, .inl (ploadk isA 0 1126)), (1126, .inl (ploadk isI 3 1127)), (1127, .inl (pst (g_k (.int (1))) 1128)), (1128, .inl (pst (g_i2 (· + ·)) 1129)), (1129, .inl (psld L xs 1130)), (1130, .inr (.inl (189, 2, some 4))), (1133, .inl (picmp cEq 1220 1136)), (1136, .inl (pst (g_k (.int (0))) 1137)), (1137, .inr (.inr (some .boolean))), (1138, .inl (ploadk isA 1 1139)), (1139, .inl (ploadk isA 0 1140)), (1140, .inl (ploadk isI 3 1141)), (1141, .inl (pst (g_k (.int (1))) 1142)), (1142, .inl (pst (g_i2 (· + ·)) 1143)), (1143, .inl (psld L xs 1144)), (1144, .inl (ploadk isA 0 1145)), (1145, .inl (ploadk isI 3 1146)), (1146, .inl (pst (g_k (.int (2))) 1147)), (1147, .inl (pst (g_i2 (· + ·)) 1148)), (1148, .inl (psld L xs 1149)), (1149, .inr (.inl (98, 3, some 3))), (1152, .inl (ploadk isA 2 1153)), (1153, .inl (ploadk isA 0 1154)), (1154, .inl (ploadk isI 3 1155)), (1155, .inl (pst (g_k (.int (1))) 1156))]
def ubL_14 (L : Nat) (xs : Nat → Int32) : pM2 := [(1156, .inl (pst (g_i2 (· + ·)) 1157)), (1157, .inl (psld L xs 1158)), (1158, .inl (ploadk isA 0 1159)), (1159, .inl (ploadk isI 3 1160)), (1160, .inl (pst (g_k (.int (2))) 1161)), (1161, .inl (pst (g_i2 (· + ·)) 1162)), (1162, .inl (psld L xs 1163)), (1163, .inr (.inl (190, 3, some 4))), (1166, .inl (picmp cEq 1220 1169)), (1169, .inl (pst (g_k (.int (0))) 1170)), (1170, .inr (.inr (some .boolean))), (1171, .inl (ploadk isA 1 1172)), (1172, .inr (.inl (99, 1, some 3))), (1175, .inl (ploadk isA 2 1176)), (1176, .inr (.inl (191, 1, some 4))), (1179, .inl (picmp cEq 1220 1182)), (1182, .inl (pst (g_k (.int (0))) 1183)), (1183, .inr (.inr (some .boolean))), (1184, .inl (ploadk isA 1 1185)), (1185, .inr (.inl (100, 1, some 3))), (1188, .inl (ploadk isA 2 1189)), (1189, .inr (.inl (192, 1, some 4))), (1192, .inl (picmp cEq 1220 1195)), (1195, .inl (pst (g_k (.int (0))) 1196)), (1196, .inr (.inr (some .boolean))), (1197, .inl (ploadk isA 1 1198)), (1198, .inl (ploadk isA 0 1199)), (1199, .inl (ploadk isI 3 1200)), (1200, .inl (pst (g_k (.int (1))) 1201)), (1201, .inl (pst (g_i2 (· + ·)) 1202)), (1202, .inl (psld L xs 1203)), (1203, .inr (.inl (101, 2, some 3))), (1206, .inl (ploadk isA 2 1207)), (1207, .inl (ploadk isA 0 1208)), (1208, .inl (ploadk isI 3 1209)), (1209, .inl (pst (g_k (.int (1))) 1210)), (1210, .inl (pst (g_i2 (· + ·)) 1211)), (1211, .inl (psld L xs 1212)), (1212, .inr (.inl (193, 2, some 4))), (1215, .inl (picmp cEq 1220 1218)), (1218, .inl (pst (g_k (.int (0))) 1219)), (1219, .inr (.inr (some .boolean))), (1220, .inl (piinc 3 (7) 1223)), (1223, .inl (pst g_id 18)), (1226, .inl (pst (g_k (.int (1))) 1227)), (1227, .inr (.inr (some .boolean)))]
def ubL (L : Nat) (xs : Nat → Int32) : pM2 := ubL_0 L xs ++ (ubL_1 L xs ++ (ubL_2 L xs ++ (ubL_3 L xs ++ (ubL_4 L xs ++ (ubL_5 L xs ++ (ubL_6 L xs ++ (ubL_7 L xs ++ (ubL_8 L xs ++ (ubL_9 L xs ++ (ubL_10 L xs ++ (ubL_11 L xs ++ (ubL_12 L xs ++ (ubL_13 L xs ++ (ubL_14 L xs))))))))))))))
end
set_option maxRecDepth 20000 in
theorem rtX0_count : RT tbX0_count ubX0_count :=
  RT_c (RE_p (r2_load _ _ _)) <|
  RT_c (RE_p (r2_getf _ _ _)) <|
  RT_c (RE_q) <|
  RT_n
set_option maxRecDepth 20000 in
theorem rtX0_areFull : RT tbX0_areFull ubX0_areFull :=
  RT_c (RE_p (r2_load _ _ _)) <|
  RT_c (RE_p (r2_getf _ _ _)) <|
  RT_c (RE_p (r2_st _ _)) <|
  RT_c (RE_p (r2_icmp _ _ _)) <|
  RT_c (RE_p (r2_st _ _)) <|
  RT_c (RE_p (r2_st _ _)) <|
  RT_c (RE_p (r2_st _ _)) <|
  RT_c (RE_q) <|
  RT_n
set_option maxRecDepth 20000 in
theorem rtX0_add : RT tbX0_add ubX0_add :=
  RT_c (RE_p (r2_load _ _ _)) <|
  RT_c (RE_p (r2_getf _ _ _)) <|
  RT_c (RE_p (r2_load _ _ _)) <|
  RT_c (RE_p (r2_getf _ _ _)) <|
  RT_c (RE_p (r2_load _ _ _)) <|
  RT_c (RE_q) <|
  RT_c (RE_p (r2_load _ _ _)) <|
  RT_c (RE_p (r2_getf _ _ _)) <|
  RT_c (RE_p (r2_load _ _ _)) <|
  RT_c (RE_p (r2_getf _ _ _)) <|
  RT_c (RE_p (r2_load _ _ _)) <|
  RT_c (RE_q) <|
  RT_c (RE_p (r2_load _ _ _)) <|
  RT_c (RE_p (r2_getf _ _ _)) <|
  RT_c (RE_p (r2_load _ _ _)) <|
  RT_c (RE_p (r2_getf _ _ _)) <|
  RT_c (RE_p (r2_load _ _ _)) <|
  RT_c (RE_q) <|
  RT_c (RE_p (r2_load _ _ _)) <|
  RT_c (RE_p (r2_st _ _)) <|
  RT_c (RE_p (r2_getf _ _ _)) <|
  RT_c (RE_p (r2_st _ _)) <|
  RT_c (RE_p (r2_st _ _)) <|
  RT_c (RE_p (r2_st _ _)) <|
  RT_c (RE_p (r2_putf _ _ _ _)) <|
  RT_c (RE_q) <|
  RT_n
set_option maxRecDepth 20000 in
theorem rtX0_keep : RT tbX0_keep ubX0_keep :=
  RT_c (RE_p (r2_load _ _ _)) <|
  RT_c (RE_p (r2_load _ _ _)) <|
  RT_c (RE_p (r2_putf _ _ _ _)) <|
  RT_c (RE_q) <|
  RT_n
set_option maxRecDepth 20000 in
theorem rtX0_areSo : RT tbX0_areSo ubX0_areSo :=
  RT_c (RE_p (r2_st _ _)) <|
  RT_c (RE_p (r2_store _ _ _)) <|
  RT_c (RE_p (r2_clr _ (r2_load _ _ _))) <|
  RT_c (RE_p (r2_load _ _ _)) <|
  RT_c (RE_p (r2_getf _ _ _)) <|
  RT_c (RE_p (r2_icmp _ _ _)) <|
  RT_c (RE_p (r2_load _ _ _)) <|
  RT_c (RE_p (r2_getf _ _ _)) <|
  RT_c (RE_p (r2_load _ _ _)) <|
  RT_c (RE_q) <|
  RT_c (RE_p (r2_store _ _ _)) <|
  RT_c (RE_p (r2_load _ _ _)) <|
  RT_c (RE_p (r2_load _ _ _)) <|
  RT_c (RE_p (r2_icmp _ _ _)) <|
  RT_c (RE_p (r2_load _ _ _)) <|
  RT_c (RE_p (r2_st _ _)) <|
  RT_c (RE_p (r2_load _ _ _)) <|
  RT_c (RE_p (r2_load _ _ _)) <|
  RT_c (RE_q) <|
  RT_c (RE_p (r2_store _ _ _)) <|
  RT_c (RE_p (r2_load _ _ _)) <|
  RT_c (RE_p (r2_load _ _ _)) <|
  RT_c (RE_p (r2_icmp _ _ _)) <|
  RT_c (RE_p (r2_load _ _ _)) <|
  RT_c (RE_p (r2_st _ _)) <|
  RT_c (RE_p (r2_load _ _ _)) <|
  RT_c (RE_p (r2_load _ _ _)) <|
  RT_c (RE_q) <|
  RT_c (RE_p (r2_store _ _ _)) <|
  RT_c (RE_p (r2_load _ _ _)) <|
  RT_c (RE_p (r2_load _ _ _)) <|
  RT_c (RE_p (r2_load _ _ _)) <|
  RT_c (RE_p (r2_getf _ _ _)) <|
  RT_c (RE_p (r2_load _ _ _)) <|
  RT_c (RE_q) <|
  RT_c (RE_q) <|
  RT_c (RE_p (r2_load _ _ _)) <|
  RT_c (RE_p (r2_getf _ _ _)) <|
  RT_c (RE_p (r2_load _ _ _)) <|
  RT_c (RE_q) <|
  RT_c (RE_p (r2_icmp _ _ _)) <|
  RT_c (RE_p (r2_st _ _)) <|
  RT_c (RE_q) <|
  RT_c (RE_p (r2_iinc _ _ _)) <|
  RT_c (RE_p (r2_st _ _)) <|
  RT_c (RE_p (r2_st _ _)) <|
  RT_c (RE_q) <|
  RT_n
set_option maxRecDepth 20000 in
theorem rtX1_beginBy : RT tbX1_beginBy ubX1_beginBy :=
  RT_c (RE_p (r2_load _ _ _)) <|
  RT_c (RE_p (r2_load _ _ _)) <|
  RT_c (RE_p (r2_st _ _)) <|
  RT_c (RE_q) <|
  RT_c (RE_q) <|
  RT_c (RE_p (r2_putf _ _ _ _)) <|
  RT_c (RE_p (r2_load _ _ _)) <|
  RT_c (RE_p (r2_load _ _ _)) <|
  RT_c (RE_p (r2_st _ _)) <|
  RT_c (RE_q) <|
  RT_c (RE_q) <|
  RT_c (RE_p (r2_putf _ _ _ _)) <|
  RT_c (RE_p (r2_st _ _)) <|
  RT_c (RE_p (r2_store _ _ _)) <|
  RT_c (RE_p (r2_clr _ (r2_load _ _ _))) <|
  RT_c (RE_p (r2_load _ _ _)) <|
  RT_c (RE_q) <|
  RT_c (RE_p (r2_icmp _ _ _)) <|
  RT_c (RE_p (r2_load _ _ _)) <|
  RT_c (RE_p (r2_load _ _ _)) <|
  RT_c (RE_p (r2_load _ _ _)) <|
  RT_c (RE_p (r2_st _ _)) <|
  RT_c (RE_p (r2_load _ _ _)) <|
  RT_c (RE_p (r2_st _ _)) <|
  RT_c (RE_q) <|
  RT_c (RE_q) <|
  RT_c (RE_q) <|
  RT_c (RE_p (r2_iinc _ _ _)) <|
  RT_c (RE_p (r2_st _ _)) <|
  RT_c (RE_p (r2_st _ _)) <|
  RT_c (RE_p (r2_load _ _ _)) <|
  RT_c (RE_q) <|
  RT_c (RE_p (r2_st _ _)) <|
  RT_c (RE_p (r2_store _ _ _)) <|
  RT_c (RE_p (r2_load _ _ _)) <|
  RT_c (RE_p (r2_load _ _ _)) <|
  RT_c (RE_p (r2_load _ _ _)) <|
  RT_c (RE_p (r2_st _ _)) <|
  RT_c (RE_p (r2_st _ _)) <|
  RT_c (RE_p (r2_st _ _)) <|
  RT_c (RE_p (r2_st _ _)) <|
  RT_c (RE_p (r2_st _ _)) <|
  RT_c (RE_p (r2_putf _ _ _ _)) <|
  RT_c (RE_p (r2_st _ _)) <|
  RT_c (RE_p (r2_store _ _ _)) <|
  RT_c (RE_p (r2_clr _ (r2_load _ _ _))) <|
  RT_c (RE_p (r2_load _ _ _)) <|
  RT_c (RE_p (r2_getf _ _ _)) <|
  RT_c (RE_p (r2_icmp _ _ _)) <|
  RT_c (RE_p (r2_load _ _ _)) <|
  RT_c (RE_p (r2_st _ _)) <|
  RT_c (RE_p (r2_load _ _ _)) <|
  RT_c (RE_p (r2_st _ _)) <|
  RT_c (RE_p (r2_st _ _)) <|
  RT_c (RE_p (r2_store _ _ _)) <|
  RT_c (RE_p (r2_load _ _ _)) <|
  RT_c (RE_p (r2_getf _ _ _)) <|
  RT_c (RE_p (r2_load _ _ _)) <|
  RT_c (RE_p (r2_load _ _ _)) <|
  RT_c (RE_p (r2_load _ _ _)) <|
  RT_c (RE_p (r2_st _ _)) <|
  RT_c (RE_p (r2_st _ _)) <|
  RT_c (RE_q) <|
  RT_c (RE_q) <|
  RT_c (RE_q) <|
  RT_c (RE_p (r2_load _ _ _)) <|
  RT_c (RE_p (r2_load _ _ _)) <|
  RT_c (RE_p (r2_load _ _ _)) <|
  RT_c (RE_p (r2_load _ _ _)) <|
  RT_c (RE_p (r2_st _ _)) <|
  RT_c (RE_p (r2_st _ _)) <|
  RT_c (RE_q) <|
  RT_c (RE_q) <|
  RT_c (RE_q) <|
  RT_c (RE_p (r2_iinc _ _ _)) <|
  RT_c (RE_p (r2_st _ _)) <|
  RT_c (RE_p (r2_load _ _ _)) <|
  RT_c (RE_p (r2_load _ _ _)) <|
  RT_c (RE_p (r2_load _ _ _)) <|
  RT_c (RE_p (r2_st _ _)) <|
  RT_c (RE_p (r2_st _ _)) <|
  RT_c (RE_q) <|
  RT_c (RE_q) <|
  RT_c (RE_p (r2_load _ _ _)) <|
  RT_c (RE_p (r2_getf _ _ _)) <|
  RT_c (RE_p (r2_load _ _ _)) <|
  RT_c (RE_p (r2_load _ _ _)) <|
  RT_c (RE_p (r2_st _ _)) <|
  RT_c (RE_p (r2_st _ _)) <|
  RT_c (RE_q) <|
  RT_c (RE_q) <|
  RT_c (RE_p (r2_st _ _)) <|
  RT_c (RE_p (r2_st _ _)) <|
  RT_c (RE_p (r2_putf _ _ _ _)) <|
  RT_c (RE_p (r2_load _ _ _)) <|
  RT_c (RE_p (r2_st _ _)) <|
  RT_c (RE_p (r2_load _ _ _)) <|
  RT_c (RE_p (r2_getf _ _ _)) <|
  RT_c (RE_p (r2_st _ _)) <|
  RT_c (RE_p (r2_st _ _)) <|
  RT_c (RE_p (r2_st _ _)) <|
  RT_c (RE_p (r2_putf _ _ _ _)) <|
  RT_c (RE_p (r2_load _ _ _)) <|
  RT_c (RE_p (r2_load _ _ _)) <|
  RT_c (RE_p (r2_load _ _ _)) <|
  RT_c (RE_p (r2_getf _ _ _)) <|
  RT_c (RE_q) <|
  RT_c (RE_p (r2_putf _ _ _ _)) <|
  RT_c (RE_p (r2_load _ _ _)) <|
  RT_c (RE_p (r2_st _ _)) <|
  RT_c (RE_p (r2_putf _ _ _ _)) <|
  RT_c (RE_q) <|
  RT_n
set_option maxRecDepth 20000 in
theorem rtX1_exists : RT tbX1_exists ubX1_exists :=
  RT_c (RE_p (r2_load _ _ _)) <|
  RT_c (RE_p (r2_getf _ _ _)) <|
  RT_c (RE_p (r2_if _ _ _)) <|
  RT_c (RE_p (r2_st _ _)) <|
  RT_c (RE_p (r2_st _ _)) <|
  RT_c (RE_p (r2_st _ _)) <|
  RT_c (RE_q) <|
  RT_n
set_option maxRecDepth 20000 in
theorem rtX1_columns : RT tbX1_columns ubX1_columns :=
  RT_c (RE_p (r2_load _ _ _)) <|
  RT_c (RE_p (r2_getf _ _ _)) <|
  RT_c (RE_q) <|
  RT_n
set_option maxRecDepth 20000 in
theorem rtX1_rows : RT tbX1_rows ubX1_rows :=
  RT_c (RE_p (r2_load _ _ _)) <|
  RT_c (RE_p (r2_getf _ _ _)) <|
  RT_c (RE_q) <|
  RT_n
set_option maxRecDepth 20000 in
theorem rtX1_lookers : RT tbX1_lookers ubX1_lookers :=
  RT_c (RE_p (r2_load _ _ _)) <|
  RT_c (RE_p (r2_getf _ _ _)) <|
  RT_c (RE_q) <|
  RT_n
set_option maxRecDepth 20000 in
theorem rtX1_place : RT tbX1_place ubX1_place :=
  RT_c (RE_p (r2_load _ _ _)) <|
  RT_c (RE_p (r2_getf _ _ _)) <|
  RT_c (RE_q) <|
  RT_n
set_option maxRecDepth 20000 in
theorem rtX1_seenCells : RT tbX1_seenCells ubX1_seenCells :=
  RT_c (RE_p (r2_load _ _ _)) <|
  RT_c (RE_p (r2_getf _ _ _)) <|
  RT_c (RE_q) <|
  RT_n
set_option maxRecDepth 20000 in
theorem rtX1_stepsDone : RT tbX1_stepsDone ubX1_stepsDone :=
  RT_c (RE_p (r2_load _ _ _)) <|
  RT_c (RE_p (r2_getf _ _ _)) <|
  RT_c (RE_q) <|
  RT_n
set_option maxRecDepth 20000 in
theorem rtX1_cells : RT tbX1_cells ubX1_cells :=
  RT_c (RE_p (r2_load _ _ _)) <|
  RT_c (RE_p (r2_getf _ _ _)) <|
  RT_c (RE_p (r2_load _ _ _)) <|
  RT_c (RE_p (r2_getf _ _ _)) <|
  RT_c (RE_p (r2_st _ _)) <|
  RT_c (RE_q) <|
  RT_n
set_option maxRecDepth 20000 in
theorem rtX1_isCell : RT tbX1_isCell ubX1_isCell :=
  RT_c (RE_p (r2_load _ _ _)) <|
  RT_c (RE_p (r2_if _ _ _)) <|
  RT_c (RE_p (r2_load _ _ _)) <|
  RT_c (RE_p (r2_load _ _ _)) <|
  RT_c (RE_q) <|
  RT_c (RE_p (r2_icmp _ _ _)) <|
  RT_c (RE_p (r2_st _ _)) <|
  RT_c (RE_p (r2_st _ _)) <|
  RT_c (RE_p (r2_st _ _)) <|
  RT_c (RE_q) <|
  RT_n
set_option maxRecDepth 20000 in
theorem rtX1_isLooker : RT tbX1_isLooker ubX1_isLooker :=
  RT_c (RE_p (r2_load _ _ _)) <|
  RT_c (RE_p (r2_if _ _ _)) <|
  RT_c (RE_p (r2_load _ _ _)) <|
  RT_c (RE_p (r2_load _ _ _)) <|
  RT_c (RE_p (r2_getf _ _ _)) <|
  RT_c (RE_p (r2_icmp _ _ _)) <|
  RT_c (RE_p (r2_st _ _)) <|
  RT_c (RE_p (r2_st _ _)) <|
  RT_c (RE_p (r2_st _ _)) <|
  RT_c (RE_q) <|
  RT_n
set_option maxRecDepth 20000 in
theorem rtX1_heightOf : RT tbX1_heightOf ubX1_heightOf :=
  RT_c (RE_p (r2_load _ _ _)) <|
  RT_c (RE_p (r2_getf _ _ _)) <|
  RT_c (RE_p (r2_load _ _ _)) <|
  RT_c (RE_q) <|
  RT_c (RE_q) <|
  RT_n
set_option maxRecDepth 20000 in
theorem rtX1_makeHeight : RT tbX1_makeHeight ubX1_makeHeight :=
  RT_c (RE_p (r2_load _ _ _)) <|
  RT_c (RE_p (r2_getf _ _ _)) <|
  RT_c (RE_p (r2_load _ _ _)) <|
  RT_c (RE_p (r2_load _ _ _)) <|
  RT_c (RE_q) <|
  RT_c (RE_q) <|
  RT_n
set_option maxRecDepth 20000 in
theorem rtX1_kindOf : RT tbX1_kindOf ubX1_kindOf :=
  RT_c (RE_p (r2_load _ _ _)) <|
  RT_c (RE_p (r2_getf _ _ _)) <|
  RT_c (RE_p (r2_load _ _ _)) <|
  RT_c (RE_q) <|
  RT_c (RE_q) <|
  RT_n
set_option maxRecDepth 20000 in
theorem rtX1_shortOf : RT tbX1_shortOf ubX1_shortOf :=
  RT_c (RE_p (r2_load _ _ _)) <|
  RT_c (RE_p (r2_getf _ _ _)) <|
  RT_c (RE_p (r2_load _ _ _)) <|
  RT_c (RE_q) <|
  RT_c (RE_q) <|
  RT_n
set_option maxRecDepth 20000 in
theorem rtX1_makeShort : RT tbX1_makeShort ubX1_makeShort :=
  RT_c (RE_p (r2_load _ _ _)) <|
  RT_c (RE_p (r2_getf _ _ _)) <|
  RT_c (RE_p (r2_load _ _ _)) <|
  RT_c (RE_p (r2_load _ _ _)) <|
  RT_c (RE_q) <|
  RT_c (RE_q) <|
  RT_n
set_option maxRecDepth 20000 in
theorem rtX1_isGone : RT tbX1_isGone ubX1_isGone :=
  RT_c (RE_p (r2_load _ _ _)) <|
  RT_c (RE_p (r2_getf _ _ _)) <|
  RT_c (RE_p (r2_load _ _ _)) <|
  RT_c (RE_p (r2_st _ _)) <|
  RT_c (RE_p (r2_st _ _)) <|
  RT_c (RE_p (r2_st _ _)) <|
  RT_c (RE_p (r2_if _ _ _)) <|
  RT_c (RE_p (r2_st _ _)) <|
  RT_c (RE_p (r2_st _ _)) <|
  RT_c (RE_p (r2_st _ _)) <|
  RT_c (RE_q) <|
  RT_n
set_option maxRecDepth 20000 in
theorem rtX1_lookersLeft : RT tbX1_lookersLeft ubX1_lookersLeft :=
  RT_c (RE_p (r2_load _ _ _)) <|
  RT_c (RE_p (r2_getf _ _ _)) <|
  RT_c (RE_q) <|
  RT_c (RE_q) <|
  RT_n
set_option maxRecDepth 20000 in
theorem rtX1_takeOff : RT tbX1_takeOff ubX1_takeOff :=
  RT_c (RE_p (r2_load _ _ _)) <|
  RT_c (RE_p (r2_st _ _)) <|
  RT_c (RE_p (r2_getf _ _ _)) <|
  RT_c (RE_p (r2_st _ _)) <|
  RT_c (RE_p (r2_load _ _ _)) <|
  RT_c (RE_p (r2_st _ _)) <|
  RT_c (RE_p (r2_st _ _)) <|
  RT_c (RE_p (r2_st _ _)) <|
  RT_c (RE_p (r2_st _ _)) <|
  RT_c (RE_p (r2_putf _ _ _ _)) <|
  RT_c (RE_q) <|
  RT_n
set_option maxRecDepth 20000 in
theorem rtX1_bringBack : RT tbX1_bringBack ubX1_bringBack :=
  RT_c (RE_p (r2_load _ _ _)) <|
  RT_c (RE_p (r2_st _ _)) <|
  RT_c (RE_p (r2_getf _ _ _)) <|
  RT_c (RE_p (r2_st _ _)) <|
  RT_c (RE_p (r2_load _ _ _)) <|
  RT_c (RE_p (r2_st _ _)) <|
  RT_c (RE_p (r2_st _ _)) <|
  RT_c (RE_p (r2_putf _ _ _ _)) <|
  RT_c (RE_p (r2_load _ _ _)) <|
  RT_c (RE_p (r2_st _ _)) <|
  RT_c (RE_p (r2_getf _ _ _)) <|
  RT_c (RE_p (r2_load _ _ _)) <|
  RT_c (RE_p (r2_load _ _ _)) <|
  RT_c (RE_p (r2_getf _ _ _)) <|
  RT_c (RE_q) <|
  RT_c (RE_p (r2_st _ _)) <|
  RT_c (RE_p (r2_putf _ _ _ _)) <|
  RT_c (RE_q) <|
  RT_n
set_option maxRecDepth 20000 in
theorem rtX1_moveTo : RT tbX1_moveTo ubX1_moveTo :=
  RT_c (RE_p (r2_load _ _ _)) <|
  RT_c (RE_p (r2_load _ _ _)) <|
  RT_c (RE_p (r2_putf _ _ _ _)) <|
  RT_c (RE_p (r2_load _ _ _)) <|
  RT_c (RE_p (r2_st _ _)) <|
  RT_c (RE_p (r2_getf _ _ _)) <|
  RT_c (RE_p (r2_load _ _ _)) <|
  RT_c (RE_p (r2_load _ _ _)) <|
  RT_c (RE_p (r2_getf _ _ _)) <|
  RT_c (RE_q) <|
  RT_c (RE_p (r2_st _ _)) <|
  RT_c (RE_p (r2_putf _ _ _ _)) <|
  RT_c (RE_p (r2_load _ _ _)) <|
  RT_c (RE_p (r2_st _ _)) <|
  RT_c (RE_p (r2_getf _ _ _)) <|
  RT_c (RE_p (r2_st _ _)) <|
  RT_c (RE_p (r2_st _ _)) <|
  RT_c (RE_p (r2_putf _ _ _ _)) <|
  RT_c (RE_q) <|
  RT_n
set_option maxRecDepth 20000 in
theorem rtX1_seenFrom : RT tbX1_seenFrom ubX1_seenFrom :=
  RT_c (RE_p (r2_load _ _ _)) <|
  RT_c (RE_p (r2_getf _ _ _)) <|
  RT_c (RE_p (r2_st _ _)) <|
  RT_c (RE_p (r2_load _ _ _)) <|
  RT_c (RE_p (r2_st _ _)) <|
  RT_c (RE_q) <|
  RT_n
set_option maxRecDepth 20000 in
theorem rtX1_toldOf : RT tbX1_toldOf ubX1_toldOf :=
  RT_c (RE_p (r2_load _ _ _)) <|
  RT_c (RE_p (r2_load _ _ _)) <|
  RT_c (RE_q) <|
  RT_c (RE_p (r2_load _ _ _)) <|
  RT_c (RE_p (r2_load _ _ _)) <|
  RT_c (RE_q) <|
  RT_c (RE_p (r2_load _ _ _)) <|
  RT_c (RE_p (r2_load _ _ _)) <|
  RT_c (RE_q) <|
  RT_c (RE_q) <|
  RT_c (RE_q) <|
  RT_n
set_option maxRecDepth 20000 in
theorem rtX1_told : RT tbX1_told ubX1_told :=
  RT_c (RE_p (r2_load _ _ _)) <|
  RT_c (RE_p (r2_load _ _ _)) <|
  RT_c (RE_p (r2_st _ _)) <|
  RT_c (RE_p (r2_st _ _)) <|
  RT_c (RE_p (r2_st _ _)) <|
  RT_c (RE_p (r2_store _ _ _)) <|
  RT_c (RE_p (r2_load _ _ _)) <|
  RT_c (RE_p (r2_if _ _ _)) <|
  RT_c (RE_p (r2_load _ _ _)) <|
  RT_c (RE_q) <|
  RT_c (RE_p (r2_load _ _ _)) <|
  RT_c (RE_p (r2_st _ _)) <|
  RT_c (RE_p (r2_icmp _ _ _)) <|
  RT_c (RE_p (r2_load _ _ _)) <|
  RT_c (RE_p (r2_st _ _)) <|
  RT_c (RE_p (r2_st _ _)) <|
  RT_c (RE_p (r2_st _ _)) <|
  RT_c (RE_p (r2_st _ _)) <|
  RT_c (RE_p (r2_load _ _ _)) <|
  RT_c (RE_p (r2_st _ _)) <|
  RT_c (RE_p (r2_st _ _)) <|
  RT_c (RE_p (r2_st _ _)) <|
  RT_c (RE_q) <|
  RT_n
set_option maxRecDepth 20000 in
theorem rtX1_columnOf : RT tbX1_columnOf ubX1_columnOf :=
  RT_c (RE_p (r2_load _ _ _)) <|
  RT_c (RE_p (r2_getf _ _ _)) <|
  RT_c (RE_p (r2_if _ _ _)) <|
  RT_c (RE_p (r2_load _ _ _)) <|
  RT_c (RE_p (r2_load _ _ _)) <|
  RT_c (RE_p (r2_getf _ _ _)) <|
  RT_c (RE_p (r2_st _ _)) <|
  RT_c (RE_p (r2_st _ _)) <|
  RT_c (RE_p (r2_st _ _)) <|
  RT_c (RE_q) <|
  RT_n
set_option maxRecDepth 20000 in
theorem rtX1_rowOf : RT tbX1_rowOf ubX1_rowOf :=
  RT_c (RE_p (r2_load _ _ _)) <|
  RT_c (RE_p (r2_getf _ _ _)) <|
  RT_c (RE_p (r2_if _ _ _)) <|
  RT_c (RE_p (r2_load _ _ _)) <|
  RT_c (RE_p (r2_load _ _ _)) <|
  RT_c (RE_p (r2_getf _ _ _)) <|
  RT_c (RE_p (r2_st _ _)) <|
  RT_c (RE_p (r2_st _ _)) <|
  RT_c (RE_p (r2_st _ _)) <|
  RT_c (RE_q) <|
  RT_n
set_option maxRecDepth 20000 in
theorem rtX1_isPlace : RT tbX1_isPlace ubX1_isPlace :=
  RT_c (RE_p (r2_load _ _ _)) <|
  RT_c (RE_p (r2_load _ _ _)) <|
  RT_c (RE_q) <|
  RT_c (RE_p (r2_if _ _ _)) <|
  RT_c (RE_p (r2_load _ _ _)) <|
  RT_c (RE_p (r2_load _ _ _)) <|
  RT_c (RE_q) <|
  RT_c (RE_p (r2_load _ _ _)) <|
  RT_c (RE_p (r2_getf _ _ _)) <|
  RT_c (RE_p (r2_st _ _)) <|
  RT_c (RE_p (r2_load _ _ _)) <|
  RT_c (RE_p (r2_getf _ _ _)) <|
  RT_c (RE_p (r2_icmp _ _ _)) <|
  RT_c (RE_p (r2_st _ _)) <|
  RT_c (RE_p (r2_st _ _)) <|
  RT_c (RE_p (r2_st _ _)) <|
  RT_c (RE_q) <|
  RT_n
set_option maxRecDepth 20000 in
theorem rtX1_nextPlace : RT tbX1_nextPlace ubX1_nextPlace :=
  RT_c (RE_p (r2_load _ _ _)) <|
  RT_c (RE_p (r2_sw _ _)) <|
  RT_c (RE_p (r2_load _ _ _)) <|
  RT_c (RE_p (r2_load _ _ _)) <|
  RT_c (RE_q) <|
  RT_c (RE_p (r2_if _ _ _)) <|
  RT_c (RE_p (r2_load _ _ _)) <|
  RT_c (RE_p (r2_load _ _ _)) <|
  RT_c (RE_p (r2_getf _ _ _)) <|
  RT_c (RE_p (r2_st _ _)) <|
  RT_c (RE_p (r2_st _ _)) <|
  RT_c (RE_p (r2_st _ _)) <|
  RT_c (RE_q) <|
  RT_c (RE_p (r2_load _ _ _)) <|
  RT_c (RE_p (r2_load _ _ _)) <|
  RT_c (RE_q) <|
  RT_c (RE_p (r2_load _ _ _)) <|
  RT_c (RE_p (r2_getf _ _ _)) <|
  RT_c (RE_p (r2_st _ _)) <|
  RT_c (RE_p (r2_load _ _ _)) <|
  RT_c (RE_p (r2_getf _ _ _)) <|
  RT_c (RE_p (r2_icmp _ _ _)) <|
  RT_c (RE_p (r2_load _ _ _)) <|
  RT_c (RE_p (r2_st _ _)) <|
  RT_c (RE_p (r2_st _ _)) <|
  RT_c (RE_p (r2_st _ _)) <|
  RT_c (RE_p (r2_st _ _)) <|
  RT_c (RE_q) <|
  RT_c (RE_p (r2_load _ _ _)) <|
  RT_c (RE_p (r2_load _ _ _)) <|
  RT_c (RE_q) <|
  RT_c (RE_p (r2_st _ _)) <|
  RT_c (RE_p (r2_st _ _)) <|
  RT_c (RE_p (r2_load _ _ _)) <|
  RT_c (RE_p (r2_getf _ _ _)) <|
  RT_c (RE_p (r2_icmp _ _ _)) <|
  RT_c (RE_p (r2_load _ _ _)) <|
  RT_c (RE_p (r2_load _ _ _)) <|
  RT_c (RE_p (r2_getf _ _ _)) <|
  RT_c (RE_p (r2_st _ _)) <|
  RT_c (RE_p (r2_st _ _)) <|
  RT_c (RE_p (r2_st _ _)) <|
  RT_c (RE_q) <|
  RT_c (RE_p (r2_load _ _ _)) <|
  RT_c (RE_p (r2_load _ _ _)) <|
  RT_c (RE_q) <|
  RT_c (RE_p (r2_if _ _ _)) <|
  RT_c (RE_p (r2_load _ _ _)) <|
  RT_c (RE_p (r2_st _ _)) <|
  RT_c (RE_p (r2_st _ _)) <|
  RT_c (RE_p (r2_st _ _)) <|
  RT_c (RE_p (r2_st _ _)) <|
  RT_c (RE_q) <|
  RT_c (RE_p (r2_st _ _)) <|
  RT_c (RE_q) <|
  RT_n
set_option maxRecDepth 20000 in
theorem rtX1_ofVoyage : RT tbX1_ofVoyage ubX1_ofVoyage :=
  RT_c (RE_p (r2_load _ _ _)) <|
  RT_c (RE_p (r2_getf _ _ _)) <|
  RT_c (RE_p (r2_store _ _ _)) <|
  RT_c (RE_p (r2_st _ _)) <|
  RT_c (RE_p (r2_store _ _ _)) <|
  RT_c (RE_p (r2_st _ _)) <|
  RT_c (RE_p (r2_store _ _ _)) <|
  RT_c (RE_p (r2_st _ _)) <|
  RT_c (RE_p (r2_store _ _ _)) <|
  RT_c (RE_p (r2_st _ _)) <|
  RT_c (RE_p (r2_store _ _ _)) <|
  RT_c (RE_p (r2_load _ _ _)) <|
  RT_c (RE_p (r2_load _ _ _)) <|
  RT_c (RE_p (r2_icmp _ _ _)) <|
  RT_c (RE_p (r2_load _ _ _)) <|
  RT_c (RE_p (r2_load _ _ _)) <|
  RT_c (RE_p (r2_load _ _ _)) <|
  RT_c (RE_p (r2_load _ _ _)) <|
  RT_c (RE_q) <|
  RT_c (RE_q) <|
  RT_c (RE_p (r2_store _ _ _)) <|
  RT_c (RE_p (r2_load _ _ _)) <|
  RT_c (RE_p (r2_st _ _)) <|
  RT_c (RE_p (r2_icmp _ _ _)) <|
  RT_c (RE_p (r2_load _ _ _)) <|
  RT_c (RE_p (r2_st _ _)) <|
  RT_c (RE_p (r2_icmp _ _ _)) <|
  RT_c (RE_p (r2_load _ _ _)) <|
  RT_c (RE_p (r2_st _ _)) <|
  RT_c (RE_p (r2_st _ _)) <|
  RT_c (RE_p (r2_load _ _ _)) <|
  RT_c (RE_p (r2_st _ _)) <|
  RT_c (RE_q) <|
  RT_c (RE_p (r2_load _ _ _)) <|
  RT_c (RE_p (r2_load _ _ _)) <|
  RT_c (RE_p (r2_load _ _ _)) <|
  RT_c (RE_q) <|
  RT_c (RE_p (r2_st _ _)) <|
  RT_c (RE_p (r2_store _ _ _)) <|
  RT_c (RE_p (r2_load _ _ _)) <|
  RT_c (RE_p (r2_load _ _ _)) <|
  RT_c (RE_p (r2_load _ _ _)) <|
  RT_c (RE_q) <|
  RT_c (RE_p (r2_st _ _)) <|
  RT_c (RE_p (r2_store _ _ _)) <|
  RT_c (RE_p (r2_load _ _ _)) <|
  RT_c (RE_p (r2_load _ _ _)) <|
  RT_c (RE_p (r2_load _ _ _)) <|
  RT_c (RE_q) <|
  RT_c (RE_p (r2_st _ _)) <|
  RT_c (RE_p (r2_store _ _ _)) <|
  RT_c (RE_p (r2_iinc _ _ _)) <|
  RT_c (RE_p (r2_st _ _)) <|
  RT_c (RE_p (r2_load _ _ _)) <|
  RT_c (RE_p (r2_sw _ _)) <|
  RT_c (RE_p (r2_load _ _ _)) <|
  RT_c (RE_p (r2_load _ _ _)) <|
  RT_c (RE_p (r2_getf _ _ _)) <|
  RT_c (RE_p (r2_st _ _)) <|
  RT_c (RE_p (r2_st _ _)) <|
  RT_c (RE_p (r2_st _ _)) <|
  RT_c (RE_q) <|
  RT_c (RE_q) <|
  RT_c (RE_p (r2_load _ _ _)) <|
  RT_c (RE_q) <|
  RT_c (RE_p (r2_load _ _ _)) <|
  RT_c (RE_q) <|
  RT_c (RE_p (r2_load _ _ _)) <|
  RT_c (RE_q) <|
  RT_c (RE_p (r2_st _ _)) <|
  RT_c (RE_q) <|
  RT_n
set_option maxRecDepth 20000 in
theorem rtX1_toldTogether : RT tbX1_toldTogether ubX1_toldTogether :=
  RT_c (RE_p (r2_st _ _)) <|
  RT_c (RE_p (r2_store _ _ _)) <|
  RT_c (RE_p (r2_st _ _)) <|
  RT_c (RE_p (r2_store _ _ _)) <|
  RT_c (RE_p (r2_load _ _ _)) <|
  RT_c (RE_p (r2_load _ _ _)) <|
  RT_c (RE_p (r2_getf _ _ _)) <|
  RT_c (RE_p (r2_icmp _ _ _)) <|
  RT_c (RE_p (r2_load _ _ _)) <|
  RT_c (RE_p (r2_load _ _ _)) <|
  RT_c (RE_q) <|
  RT_c (RE_p (r2_if _ _ _)) <|
  RT_c (RE_p (r2_load _ _ _)) <|
  RT_c (RE_p (r2_load _ _ _)) <|
  RT_c (RE_p (r2_load _ _ _)) <|
  RT_c (RE_p (r2_load _ _ _)) <|
  RT_c (RE_p (r2_load _ _ _)) <|
  RT_c (RE_p (r2_st _ _)) <|
  RT_c (RE_q) <|
  RT_c (RE_p (r2_st _ _)) <|
  RT_c (RE_p (r2_store _ _ _)) <|
  RT_c (RE_p (r2_iinc _ _ _)) <|
  RT_c (RE_p (r2_st _ _)) <|
  RT_c (RE_p (r2_load _ _ _)) <|
  RT_c (RE_q) <|
  RT_n
set_option maxRecDepth 20000 in
theorem rtX1_mostTold : RT tbX1_mostTold ubX1_mostTold :=
  RT_c (RE_p (r2_st _ _)) <|
  RT_c (RE_p (r2_store _ _ _)) <|
  RT_c (RE_p (r2_st _ _)) <|
  RT_c (RE_p (r2_store _ _ _)) <|
  RT_c (RE_p (r2_load _ _ _)) <|
  RT_c (RE_p (r2_load _ _ _)) <|
  RT_c (RE_p (r2_getf _ _ _)) <|
  RT_c (RE_p (r2_icmp _ _ _)) <|
  RT_c (RE_p (r2_load _ _ _)) <|
  RT_c (RE_p (r2_load _ _ _)) <|
  RT_c (RE_q) <|
  RT_c (RE_p (r2_if _ _ _)) <|
  RT_c (RE_p (r2_load _ _ _)) <|
  RT_c (RE_p (r2_load _ _ _)) <|
  RT_c (RE_p (r2_load _ _ _)) <|
  RT_c (RE_p (r2_load _ _ _)) <|
  RT_c (RE_p (r2_load _ _ _)) <|
  RT_c (RE_p (r2_st _ _)) <|
  RT_c (RE_q) <|
  RT_c (RE_p (r2_st _ _)) <|
  RT_c (RE_p (r2_store _ _ _)) <|
  RT_c (RE_p (r2_iinc _ _ _)) <|
  RT_c (RE_p (r2_st _ _)) <|
  RT_c (RE_p (r2_load _ _ _)) <|
  RT_c (RE_q) <|
  RT_n
set_option maxRecDepth 20000 in
theorem rtX1_ofWay : RT tbX1_ofWay ubX1_ofWay :=
  RT_c (RE_p (r2_load _ _ _)) <|
  RT_c (RE_p (r2_load _ _ _)) <|
  RT_c (RE_q) <|
  RT_c (RE_p (r2_store _ _ _)) <|
  RT_c (RE_p (r2_load _ _ _)) <|
  RT_c (RE_p (r2_st _ _)) <|
  RT_c (RE_p (r2_icmp _ _ _)) <|
  RT_c (RE_p (r2_st _ _)) <|
  RT_c (RE_q) <|
  RT_c (RE_p (r2_load _ _ _)) <|
  RT_c (RE_p (r2_load _ _ _)) <|
  RT_c (RE_q) <|
  RT_c (RE_p (r2_load _ _ _)) <|
  RT_c (RE_p (r2_load _ _ _)) <|
  RT_c (RE_p (r2_getf _ _ _)) <|
  RT_c (RE_q) <|
  RT_c (RE_p (r2_st _ _)) <|
  RT_c (RE_p (r2_store _ _ _)) <|
  RT_c (RE_p (r2_load _ _ _)) <|
  RT_c (RE_p (r2_st _ _)) <|
  RT_c (RE_p (r2_st _ _)) <|
  RT_c (RE_p (r2_st _ _)) <|
  RT_c (RE_p (r2_store _ _ _)) <|
  RT_c (RE_p (r2_load _ _ _)) <|
  RT_c (RE_p (r2_load _ _ _)) <|
  RT_c (RE_p (r2_st _ _)) <|
  RT_c (RE_p (r2_st _ _)) <|
  RT_c (RE_p (r2_st _ _)) <|
  RT_c (RE_p (r2_store _ _ _)) <|
  RT_c (RE_p (r2_load _ _ _)) <|
  RT_c (RE_p (r2_load _ _ _)) <|
  RT_c (RE_p (r2_st _ _)) <|
  RT_c (RE_p (r2_st _ _)) <|
  RT_c (RE_p (r2_st _ _)) <|
  RT_c (RE_p (r2_store _ _ _)) <|
  RT_c (RE_p (r2_load _ _ _)) <|
  RT_c (RE_p (r2_load _ _ _)) <|
  RT_c (RE_p (r2_st _ _)) <|
  RT_c (RE_p (r2_st _ _)) <|
  RT_c (RE_p (r2_st _ _)) <|
  RT_c (RE_p (r2_st _ _)) <|
  RT_c (RE_p (r2_store _ _ _)) <|
  RT_c (RE_p (r2_load _ _ _)) <|
  RT_c (RE_p (r2_if _ _ _)) <|
  RT_c (RE_p (r2_load _ _ _)) <|
  RT_c (RE_q) <|
  RT_c (RE_p (r2_load _ _ _)) <|
  RT_c (RE_p (r2_load _ _ _)) <|
  RT_c (RE_p (r2_icmp _ _ _)) <|
  RT_c (RE_p (r2_st _ _)) <|
  RT_c (RE_q) <|
  RT_c (RE_p (r2_load _ _ _)) <|
  RT_c (RE_p (r2_load _ _ _)) <|
  RT_c (RE_p (r2_icmp _ _ _)) <|
  RT_c (RE_p (r2_st _ _)) <|
  RT_c (RE_q) <|
  RT_c (RE_p (r2_load _ _ _)) <|
  RT_c (RE_p (r2_load _ _ _)) <|
  RT_c (RE_p (r2_icmp _ _ _)) <|
  RT_c (RE_p (r2_st _ _)) <|
  RT_c (RE_q) <|
  RT_c (RE_p (r2_load _ _ _)) <|
  RT_c (RE_p (r2_load _ _ _)) <|
  RT_c (RE_p (r2_icmp _ _ _)) <|
  RT_c (RE_p (r2_st _ _)) <|
  RT_c (RE_p (r2_st _ _)) <|
  RT_c (RE_p (r2_st _ _)) <|
  RT_c (RE_q) <|
  RT_n
set_option maxRecDepth 20000 in
theorem rtX1_fewestAcross : RT tbX1_fewestAcross ubX1_fewestAcross :=
  RT_c (RE_p (r2_st _ _)) <|
  RT_c (RE_p (r2_store _ _ _)) <|
  RT_c (RE_p (r2_st _ _)) <|
  RT_c (RE_p (r2_store _ _ _)) <|
  RT_c (RE_p (r2_clr _ (r2_load _ _ _))) <|
  RT_c (RE_p (r2_load _ _ _)) <|
  RT_c (RE_p (r2_getf _ _ _)) <|
  RT_c (RE_p (r2_icmp _ _ _)) <|
  RT_c (RE_p (r2_load _ _ _)) <|
  RT_c (RE_p (r2_load _ _ _)) <|
  RT_c (RE_q) <|
  RT_c (RE_p (r2_load _ _ _)) <|
  RT_c (RE_p (r2_st _ _)) <|
  RT_c (RE_p (r2_store _ _ _)) <|
  RT_c (RE_p (r2_load _ _ _)) <|
  RT_c (RE_p (r2_load _ _ _)) <|
  RT_c (RE_q) <|
  RT_c (RE_p (r2_if _ _ _)) <|
  RT_c (RE_p (r2_load _ _ _)) <|
  RT_c (RE_p (r2_if _ _ _)) <|
  RT_c (RE_p (r2_load _ _ _)) <|
  RT_c (RE_p (r2_load _ _ _)) <|
  RT_c (RE_p (r2_getf _ _ _)) <|
  RT_c (RE_p (r2_st _ _)) <|
  RT_c (RE_p (r2_load _ _ _)) <|
  RT_c (RE_p (r2_getf _ _ _)) <|
  RT_c (RE_p (r2_icmp _ _ _)) <|
  RT_c (RE_p (r2_st _ _)) <|
  RT_c (RE_p (r2_load _ _ _)) <|
  RT_c (RE_p (r2_load _ _ _)) <|
  RT_c (RE_p (r2_load _ _ _)) <|
  RT_c (RE_p (r2_getf _ _ _)) <|
  RT_c (RE_q) <|
  RT_c (RE_p (r2_st _ _)) <|
  RT_c (RE_p (r2_store _ _ _)) <|
  RT_c (RE_p (r2_load _ _ _)) <|
  RT_c (RE_p (r2_st _ _)) <|
  RT_c (RE_p (r2_load _ _ _)) <|
  RT_c (RE_p (r2_st _ _)) <|
  RT_c (RE_p (r2_icmp _ _ _)) <|
  RT_c (RE_p (r2_load _ _ _)) <|
  RT_c (RE_p (r2_store _ _ _)) <|
  RT_c (RE_p (r2_iinc _ _ _)) <|
  RT_c (RE_p (r2_st _ _)) <|
  RT_c (RE_p (r2_load _ _ _)) <|
  RT_c (RE_q) <|
  RT_n
set_option maxRecDepth 20000 in
theorem rtX1_ofMost : RT tbX1_ofMost ubX1_ofMost :=
  RT_c (RE_p (r2_load _ _ _)) <|
  RT_c (RE_p (r2_load _ _ _)) <|
  RT_c (RE_q) <|
  RT_c (RE_p (r2_store _ _ _)) <|
  RT_c (RE_p (r2_load _ _ _)) <|
  RT_c (RE_p (r2_st _ _)) <|
  RT_c (RE_p (r2_icmp _ _ _)) <|
  RT_c (RE_p (r2_load _ _ _)) <|
  RT_c (RE_p (r2_load _ _ _)) <|
  RT_c (RE_p (r2_icmp _ _ _)) <|
  RT_c (RE_p (r2_st _ _)) <|
  RT_c (RE_q) <|
  RT_c (RE_p (r2_load _ _ _)) <|
  RT_c (RE_p (r2_if _ _ _)) <|
  RT_c (RE_p (r2_load _ _ _)) <|
  RT_c (RE_p (r2_load _ _ _)) <|
  RT_c (RE_p (r2_load _ _ _)) <|
  RT_c (RE_q) <|
  RT_c (RE_p (r2_st _ _)) <|
  RT_c (RE_p (r2_load _ _ _)) <|
  RT_c (RE_p (r2_load _ _ _)) <|
  RT_c (RE_p (r2_load _ _ _)) <|
  RT_c (RE_q) <|
  RT_c (RE_q) <|
  RT_n
set_option maxRecDepth 20000 in
theorem rtX1_bestRow : RT tbX1_bestRow ubX1_bestRow :=
  RT_c (RE_p (r2_st _ _)) <|
  RT_c (RE_p (r2_store _ _ _)) <|
  RT_c (RE_p (r2_st _ _)) <|
  RT_c (RE_p (r2_store _ _ _)) <|
  RT_c (RE_p (r2_st _ _)) <|
  RT_c (RE_p (r2_store _ _ _)) <|
  RT_c (RE_p (r2_clr _ (r2_load _ _ _))) <|
  RT_c (RE_p (r2_st _ _)) <|
  RT_c (RE_p (r2_st _ _)) <|
  RT_c (RE_p (r2_load _ _ _)) <|
  RT_c (RE_p (r2_st _ _)) <|
  RT_c (RE_p (r2_st _ _)) <|
  RT_c (RE_p (r2_icmp _ _ _)) <|
  RT_c (RE_p (r2_load _ _ _)) <|
  RT_c (RE_p (r2_load _ _ _)) <|
  RT_c (RE_p (r2_load _ _ _)) <|
  RT_c (RE_q) <|
  RT_c (RE_p (r2_store _ _ _)) <|
  RT_c (RE_p (r2_load _ _ _)) <|
  RT_c (RE_p (r2_load _ _ _)) <|
  RT_c (RE_p (r2_icmp _ _ _)) <|
  RT_c (RE_p (r2_load _ _ _)) <|
  RT_c (RE_p (r2_store _ _ _)) <|
  RT_c (RE_p (r2_load _ _ _)) <|
  RT_c (RE_p (r2_store _ _ _)) <|
  RT_c (RE_p (r2_iinc _ _ _)) <|
  RT_c (RE_p (r2_st _ _)) <|
  RT_c (RE_p (r2_load _ _ _)) <|
  RT_c (RE_q) <|
  RT_n
set_option maxRecDepth 20000 in
theorem rtX1_stepOfRow : RT tbX1_stepOfRow ubX1_stepOfRow :=
  RT_c (RE_p (r2_load _ _ _)) <|
  RT_c (RE_p (r2_st _ _)) <|
  RT_c (RE_p (r2_load _ _ _)) <|
  RT_c (RE_p (r2_st _ _)) <|
  RT_c (RE_p (r2_st _ _)) <|
  RT_c (RE_p (r2_load _ _ _)) <|
  RT_c (RE_p (r2_st _ _)) <|
  RT_c (RE_p (r2_st _ _)) <|
  RT_c (RE_p (r2_st _ _)) <|
  RT_c (RE_p (r2_st _ _)) <|
  RT_c (RE_p (r2_st _ _)) <|
  RT_c (RE_q) <|
  RT_n
set_option maxRecDepth 20000 in
theorem rtX1_gainOf : RT tbX1_gainOf ubX1_gainOf :=
  RT_c (RE_p (r2_load _ _ _)) <|
  RT_c (RE_p (r2_getf _ _ _)) <|
  RT_c (RE_p (r2_store _ _ _)) <|
  RT_c (RE_p (r2_st _ _)) <|
  RT_c (RE_p (r2_store _ _ _)) <|
  RT_c (RE_p (r2_st _ _)) <|
  RT_c (RE_p (r2_store _ _ _)) <|
  RT_c (RE_p (r2_load _ _ _)) <|
  RT_c (RE_p (r2_load _ _ _)) <|
  RT_c (RE_p (r2_icmp _ _ _)) <|
  RT_c (RE_p (r2_load _ _ _)) <|
  RT_c (RE_p (r2_load _ _ _)) <|
  RT_c (RE_p (r2_load _ _ _)) <|
  RT_c (RE_p (r2_load _ _ _)) <|
  RT_c (RE_p (r2_load _ _ _)) <|
  RT_c (RE_q) <|
  RT_c (RE_q) <|
  RT_c (RE_p (r2_store _ _ _)) <|
  RT_c (RE_p (r2_load _ _ _)) <|
  RT_c (RE_p (r2_st _ _)) <|
  RT_c (RE_p (r2_icmp _ _ _)) <|
  RT_c (RE_p (r2_st _ _)) <|
  RT_c (RE_q) <|
  RT_c (RE_p (r2_load _ _ _)) <|
  RT_c (RE_p (r2_load _ _ _)) <|
  RT_c (RE_p (r2_load _ _ _)) <|
  RT_c (RE_q) <|
  RT_c (RE_p (r2_st _ _)) <|
  RT_c (RE_p (r2_store _ _ _)) <|
  RT_c (RE_p (r2_iinc _ _ _)) <|
  RT_c (RE_p (r2_st _ _)) <|
  RT_c (RE_p (r2_load _ _ _)) <|
  RT_c (RE_p (r2_load _ _ _)) <|
  RT_c (RE_p (r2_getf _ _ _)) <|
  RT_c (RE_p (r2_st _ _)) <|
  RT_c (RE_p (r2_st _ _)) <|
  RT_c (RE_p (r2_st _ _)) <|
  RT_c (RE_q) <|
  RT_c (RE_q) <|
  RT_n
set_option maxRecDepth 20000 in
theorem rtX1_flatWith : RT tbX1_flatWith ubX1_flatWith :=
  RT_c (RE_p (r2_load _ _ _)) <|
  RT_c (RE_p (r2_load _ _ _)) <|
  RT_c (RE_p (r2_load _ _ _)) <|
  RT_c (RE_q) <|
  RT_c (RE_q) <|
  RT_c (RE_p (r2_store _ _ _)) <|
  RT_c (RE_p (r2_st _ _)) <|
  RT_c (RE_p (r2_load _ _ _)) <|
  RT_c (RE_p (r2_st _ _)) <|
  RT_c (RE_p (r2_store _ _ _)) <|
  RT_c (RE_p (r2_st _ _)) <|
  RT_c (RE_p (r2_store _ _ _)) <|
  RT_c (RE_p (r2_clr _ (r2_load _ _ _))) <|
  RT_c (RE_p (r2_load _ _ _)) <|
  RT_c (RE_q) <|
  RT_c (RE_p (r2_icmp _ _ _)) <|
  RT_c (RE_p (r2_load _ _ _)) <|
  RT_c (RE_p (r2_load _ _ _)) <|
  RT_c (RE_p (r2_load _ _ _)) <|
  RT_c (RE_q) <|
  RT_c (RE_p (r2_load _ _ _)) <|
  RT_c (RE_p (r2_st _ _)) <|
  RT_c (RE_p (r2_st _ _)) <|
  RT_c (RE_p (r2_store _ _ _)) <|
  RT_c (RE_p (r2_iinc _ _ _)) <|
  RT_c (RE_p (r2_st _ _)) <|
  RT_c (RE_p (r2_load _ _ _)) <|
  RT_c (RE_q) <|
  RT_n
set_option maxRecDepth 20000 in
theorem rtX1_cellsOfHeight : RT tbX1_cellsOfHeight ubX1_cellsOfHeight :=
  RT_c (RE_p (r2_st _ _)) <|
  RT_c (RE_p (r2_store _ _ _)) <|
  RT_c (RE_p (r2_st _ _)) <|
  RT_c (RE_p (r2_store _ _ _)) <|
  RT_c (RE_p (r2_load _ _ _)) <|
  RT_c (RE_p (r2_load _ _ _)) <|
  RT_c (RE_q) <|
  RT_c (RE_p (r2_icmp _ _ _)) <|
  RT_c (RE_p (r2_load _ _ _)) <|
  RT_c (RE_p (r2_load _ _ _)) <|
  RT_c (RE_q) <|
  RT_c (RE_p (r2_load _ _ _)) <|
  RT_c (RE_p (r2_icmp _ _ _)) <|
  RT_c (RE_p (r2_load _ _ _)) <|
  RT_c (RE_p (r2_st _ _)) <|
  RT_c (RE_p (r2_load _ _ _)) <|
  RT_c (RE_p (r2_st _ _)) <|
  RT_c (RE_p (r2_st _ _)) <|
  RT_c (RE_p (r2_store _ _ _)) <|
  RT_c (RE_p (r2_iinc _ _ _)) <|
  RT_c (RE_p (r2_st _ _)) <|
  RT_c (RE_p (r2_load _ _ _)) <|
  RT_c (RE_q) <|
  RT_n
set_option maxRecDepth 20000 in
theorem rtX1_bordering : RT tbX1_bordering ubX1_bordering :=
  RT_c (RE_p (r2_load _ _ _)) <|
  RT_c (RE_p (r2_load _ _ _)) <|
  RT_c (RE_p (r2_load _ _ _)) <|
  RT_c (RE_p (r2_getf _ _ _)) <|
  RT_c (RE_p (r2_st _ _)) <|
  RT_c (RE_p (r2_st _ _)) <|
  RT_c (RE_q) <|
  RT_c (RE_p (r2_st _ _)) <|
  RT_c (RE_p (r2_st _ _)) <|
  RT_c (RE_p (r2_st _ _)) <|
  RT_c (RE_p (r2_store _ _ _)) <|
  RT_c (RE_p (r2_load _ _ _)) <|
  RT_c (RE_p (r2_load _ _ _)) <|
  RT_c (RE_p (r2_st _ _)) <|
  RT_c (RE_q) <|
  RT_c (RE_p (r2_st _ _)) <|
  RT_c (RE_p (r2_st _ _)) <|
  RT_c (RE_p (r2_st _ _)) <|
  RT_c (RE_p (r2_store _ _ _)) <|
  RT_c (RE_p (r2_load _ _ _)) <|
  RT_c (RE_p (r2_load _ _ _)) <|
  RT_c (RE_p (r2_getf _ _ _)) <|
  RT_c (RE_p (r2_st _ _)) <|
  RT_c (RE_p (r2_load _ _ _)) <|
  RT_c (RE_p (r2_load _ _ _)) <|
  RT_c (RE_p (r2_getf _ _ _)) <|
  RT_c (RE_p (r2_st _ _)) <|
  RT_c (RE_p (r2_st _ _)) <|
  RT_c (RE_p (r2_load _ _ _)) <|
  RT_c (RE_p (r2_st _ _)) <|
  RT_c (RE_p (r2_st _ _)) <|
  RT_c (RE_p (r2_st _ _)) <|
  RT_c (RE_p (r2_load _ _ _)) <|
  RT_c (RE_p (r2_st _ _)) <|
  RT_c (RE_p (r2_st _ _)) <|
  RT_c (RE_p (r2_st _ _)) <|
  RT_c (RE_q) <|
  RT_n
set_option maxRecDepth 20000 in
theorem rtX1_cellsOfColumn : RT tbX1_cellsOfColumn ubX1_cellsOfColumn :=
  RT_c (RE_p (r2_st _ _)) <|
  RT_c (RE_p (r2_store _ _ _)) <|
  RT_c (RE_p (r2_st _ _)) <|
  RT_c (RE_p (r2_store _ _ _)) <|
  RT_c (RE_p (r2_load _ _ _)) <|
  RT_c (RE_p (r2_load _ _ _)) <|
  RT_c (RE_p (r2_getf _ _ _)) <|
  RT_c (RE_p (r2_icmp _ _ _)) <|
  RT_c (RE_p (r2_load _ _ _)) <|
  RT_c (RE_p (r2_st _ _)) <|
  RT_c (RE_p (r2_load _ _ _)) <|
  RT_c (RE_p (r2_load _ _ _)) <|
  RT_c (RE_p (r2_getf _ _ _)) <|
  RT_c (RE_p (r2_load _ _ _)) <|
  RT_c (RE_p (r2_st _ _)) <|
  RT_c (RE_p (r2_st _ _)) <|
  RT_c (RE_p (r2_st _ _)) <|
  RT_c (RE_p (r2_st _ _)) <|
  RT_c (RE_p (r2_store _ _ _)) <|
  RT_c (RE_p (r2_iinc _ _ _)) <|
  RT_c (RE_p (r2_st _ _)) <|
  RT_c (RE_p (r2_load _ _ _)) <|
  RT_c (RE_q) <|
  RT_n
set_option maxRecDepth 20000 in
theorem rtX1_ofBegins : RT tbX1_ofBegins ubX1_ofBegins :=
  RT_c (RE_p (r2_st _ _)) <|
  RT_c (RE_p (r2_store _ _ _)) <|
  RT_c (RE_p (r2_st _ _)) <|
  RT_c (RE_p (r2_store _ _ _)) <|
  RT_c (RE_p (r2_st _ _)) <|
  RT_c (RE_p (r2_store _ _ _)) <|
  RT_c (RE_p (r2_st _ _)) <|
  RT_c (RE_p (r2_store _ _ _)) <|
  RT_c (RE_p (r2_load _ _ _)) <|
  RT_c (RE_p (r2_load _ _ _)) <|
  RT_c (RE_q) <|
  RT_c (RE_p (r2_icmp _ _ _)) <|
  RT_c (RE_p (r2_load _ _ _)) <|
  RT_c (RE_p (r2_load _ _ _)) <|
  RT_c (RE_q) <|
  RT_c (RE_p (r2_if _ _ _)) <|
  RT_c (RE_p (r2_load _ _ _)) <|
  RT_c (RE_p (r2_load _ _ _)) <|
  RT_c (RE_p (r2_load _ _ _)) <|
  RT_c (RE_p (r2_load _ _ _)) <|
  RT_c (RE_p (r2_load _ _ _)) <|
  RT_c (RE_q) <|
  RT_c (RE_p (r2_if _ _ _)) <|
  RT_c (RE_p (r2_st _ _)) <|
  RT_c (RE_p (r2_load _ _ _)) <|
  RT_c (RE_p (r2_if _ _ _)) <|
  RT_c (RE_p (r2_load _ _ _)) <|
  RT_c (RE_p (r2_store _ _ _)) <|
  RT_c (RE_p (r2_load _ _ _)) <|
  RT_c (RE_p (r2_store _ _ _)) <|
  RT_c (RE_p (r2_iinc _ _ _)) <|
  RT_c (RE_p (r2_iinc _ _ _)) <|
  RT_c (RE_p (r2_st _ _)) <|
  RT_c (RE_p (r2_load _ _ _)) <|
  RT_c (RE_p (r2_if _ _ _)) <|
  RT_c (RE_p (r2_load _ _ _)) <|
  RT_c (RE_q) <|
  RT_c (RE_p (r2_load _ _ _)) <|
  RT_c (RE_p (r2_st _ _)) <|
  RT_c (RE_p (r2_icmp _ _ _)) <|
  RT_c (RE_p (r2_load _ _ _)) <|
  RT_c (RE_p (r2_st _ _)) <|
  RT_c (RE_p (r2_load _ _ _)) <|
  RT_c (RE_q) <|
  RT_n
set_option maxRecDepth 20000 in
theorem rtX1_isToldFrom : RT tbX1_isToldFrom ubX1_isToldFrom :=
  RT_c (RE_p (r2_load _ _ _)) <|
  RT_c (RE_p (r2_store _ _ _)) <|
  RT_c (RE_p (r2_st _ _)) <|
  RT_c (RE_p (r2_store _ _ _)) <|
  RT_c (RE_p (r2_clr _ (r2_load _ _ _))) <|
  RT_c (RE_p (r2_load _ _ _)) <|
  RT_c (RE_p (r2_icmp _ _ _)) <|
  RT_c (RE_p (r2_load _ _ _)) <|
  RT_c (RE_p (r2_if _ _ _)) <|
  RT_c (RE_p (r2_load _ _ _)) <|
  RT_c (RE_p (r2_load _ _ _)) <|
  RT_c (RE_p (r2_load _ _ _)) <|
  RT_c (RE_q) <|
  RT_c (RE_p (r2_store _ _ _)) <|
  RT_c (RE_p (r2_load _ _ _)) <|
  RT_c (RE_p (r2_st _ _)) <|
  RT_c (RE_p (r2_icmp _ _ _)) <|
  RT_c (RE_p (r2_load _ _ _)) <|
  RT_c (RE_p (r2_load _ _ _)) <|
  RT_c (RE_p (r2_load _ _ _)) <|
  RT_c (RE_p (r2_load _ _ _)) <|
  RT_c (RE_p (r2_load _ _ _)) <|
  RT_c (RE_p (r2_getf _ _ _)) <|
  RT_c (RE_p (r2_st _ _)) <|
  RT_c (RE_q) <|
  RT_c (RE_p (r2_if _ _ _)) <|
  RT_c (RE_p (r2_st _ _)) <|
  RT_c (RE_q) <|
  RT_c (RE_p (r2_iinc _ _ _)) <|
  RT_c (RE_p (r2_st _ _)) <|
  RT_c (RE_p (r2_st _ _)) <|
  RT_c (RE_q) <|
  RT_n
set_option maxRecDepth 20000 in
theorem rtX1_isToldAt : RT tbX1_isToldAt ubX1_isToldAt :=
  RT_c (RE_p (r2_st _ _)) <|
  RT_c (RE_p (r2_store _ _ _)) <|
  RT_c (RE_p (r2_load _ _ _)) <|
  RT_c (RE_p (r2_load _ _ _)) <|
  RT_c (RE_p (r2_getf _ _ _)) <|
  RT_c (RE_p (r2_icmp _ _ _)) <|
  RT_c (RE_p (r2_load _ _ _)) <|
  RT_c (RE_p (r2_load _ _ _)) <|
  RT_c (RE_q) <|
  RT_c (RE_p (r2_if _ _ _)) <|
  RT_c (RE_p (r2_load _ _ _)) <|
  RT_c (RE_p (r2_load _ _ _)) <|
  RT_c (RE_p (r2_load _ _ _)) <|
  RT_c (RE_p (r2_load _ _ _)) <|
  RT_c (RE_p (r2_st _ _)) <|
  RT_c (RE_q) <|
  RT_c (RE_p (r2_load _ _ _)) <|
  RT_c (RE_p (r2_load _ _ _)) <|
  RT_c (RE_p (r2_load _ _ _)) <|
  RT_c (RE_p (r2_st _ _)) <|
  RT_c (RE_q) <|
  RT_c (RE_p (r2_icmp _ _ _)) <|
  RT_c (RE_p (r2_st _ _)) <|
  RT_c (RE_q) <|
  RT_c (RE_p (r2_iinc _ _ _)) <|
  RT_c (RE_p (r2_st _ _)) <|
  RT_c (RE_p (r2_st _ _)) <|
  RT_c (RE_q) <|
  RT_n
set_option maxRecDepth 20000 in
theorem rtX1_places : RT tbX1_places ubX1_places :=
  RT_c (RE_p (r2_load _ _ _)) <|
  RT_c (RE_p (r2_getf _ _ _)) <|
  RT_c (RE_p (r2_load _ _ _)) <|
  RT_c (RE_p (r2_getf _ _ _)) <|
  RT_c (RE_p (r2_st _ _)) <|
  RT_c (RE_p (r2_st _ _)) <|
  RT_c (RE_p (r2_st _ _)) <|
  RT_c (RE_p (r2_load _ _ _)) <|
  RT_c (RE_p (r2_getf _ _ _)) <|
  RT_c (RE_p (r2_st _ _)) <|
  RT_c (RE_q) <|
  RT_n
set_option maxRecDepth 20000 in
theorem rtX1_placesWhereTold : RT tbX1_placesWhereTold ubX1_placesWhereTold :=
  RT_c (RE_p (r2_st _ _)) <|
  RT_c (RE_p (r2_store _ _ _)) <|
  RT_c (RE_p (r2_st _ _)) <|
  RT_c (RE_p (r2_store _ _ _)) <|
  RT_c (RE_p (r2_load _ _ _)) <|
  RT_c (RE_p (r2_load _ _ _)) <|
  RT_c (RE_q) <|
  RT_c (RE_p (r2_icmp _ _ _)) <|
  RT_c (RE_p (r2_load _ _ _)) <|
  RT_c (RE_p (r2_load _ _ _)) <|
  RT_c (RE_q) <|
  RT_c (RE_p (r2_if _ _ _)) <|
  RT_c (RE_p (r2_load _ _ _)) <|
  RT_c (RE_p (r2_load _ _ _)) <|
  RT_c (RE_p (r2_load _ _ _)) <|
  RT_c (RE_p (r2_load _ _ _)) <|
  RT_c (RE_p (r2_st _ _)) <|
  RT_c (RE_q) <|
  RT_c (RE_p (r2_load _ _ _)) <|
  RT_c (RE_p (r2_icmp _ _ _)) <|
  RT_c (RE_p (r2_iinc _ _ _)) <|
  RT_c (RE_p (r2_iinc _ _ _)) <|
  RT_c (RE_p (r2_st _ _)) <|
  RT_c (RE_p (r2_load _ _ _)) <|
  RT_c (RE_q) <|
  RT_n
set_option maxRecDepth 20000 in
theorem rtX2_firstFault : RT tbX2_firstFault ubX2_firstFault :=
  RT_c (RE_p (r2_load _ _ _)) <|
  RT_c (RE_p (r2_load _ _ _)) <|
  RT_c (RE_p (r2_st _ _)) <|
  RT_c (RE_q) <|
  RT_c (RE_p (r2_st _ _)) <|
  RT_c (RE_p (r2_icmp _ _ _)) <|
  RT_c (RE_p (r2_st _ _)) <|
  RT_c (RE_q) <|
  RT_c (RE_p (r2_load _ _ _)) <|
  RT_c (RE_p (r2_load _ _ _)) <|
  RT_c (RE_p (r2_st _ _)) <|
  RT_c (RE_q) <|
  RT_c (RE_q) <|
  RT_c (RE_p (r2_store _ _ _)) <|
  RT_c (RE_p (r2_load _ _ _)) <|
  RT_c (RE_q) <|
  RT_c (RE_p (r2_if _ _ _)) <|
  RT_c (RE_p (r2_st _ _)) <|
  RT_c (RE_q) <|
  RT_c (RE_p (r2_load _ _ _)) <|
  RT_c (RE_p (r2_load _ _ _)) <|
  RT_c (RE_p (r2_st _ _)) <|
  RT_c (RE_q) <|
  RT_c (RE_q) <|
  RT_c (RE_p (r2_store _ _ _)) <|
  RT_c (RE_p (r2_load _ _ _)) <|
  RT_c (RE_q) <|
  RT_c (RE_p (r2_if _ _ _)) <|
  RT_c (RE_p (r2_st _ _)) <|
  RT_c (RE_q) <|
  RT_c (RE_p (r2_st _ _)) <|
  RT_c (RE_p (r2_load _ _ _)) <|
  RT_c (RE_p (r2_load _ _ _)) <|
  RT_c (RE_p (r2_st _ _)) <|
  RT_c (RE_p (r2_st _ _)) <|
  RT_c (RE_p (r2_store _ _ _)) <|
  RT_c (RE_p (r2_st _ _)) <|
  RT_c (RE_p (r2_store _ _ _)) <|
  RT_c (RE_p (r2_clr _ (r2_load _ _ _))) <|
  RT_c (RE_p (r2_load _ _ _)) <|
  RT_c (RE_p (r2_icmp _ _ _)) <|
  RT_c (RE_p (r2_load _ _ _)) <|
  RT_c (RE_p (r2_load _ _ _)) <|
  RT_c (RE_p (r2_load _ _ _)) <|
  RT_c (RE_q) <|
  RT_c (RE_q) <|
  RT_c (RE_p (r2_if _ _ _)) <|
  RT_c (RE_p (r2_load _ _ _)) <|
  RT_c (RE_q) <|
  RT_c (RE_p (r2_iinc _ _ _)) <|
  RT_c (RE_p (r2_st _ _)) <|
  RT_c (RE_p (r2_load _ _ _)) <|
  RT_c (RE_p (r2_load _ _ _)) <|
  RT_c (RE_p (r2_load _ _ _)) <|
  RT_c (RE_q) <|
  RT_c (RE_q) <|
  RT_n
set_option maxRecDepth 20000 in
theorem rtX2_faultInLookers : RT tbX2_faultInLookers ubX2_faultInLookers :=
  RT_c (RE_p (r2_load _ _ _)) <|
  RT_c (RE_p (r2_st _ _)) <|
  RT_c (RE_q) <|
  RT_c (RE_q) <|
  RT_c (RE_p (r2_st _ _)) <|
  RT_c (RE_p (r2_st _ _)) <|
  RT_c (RE_p (r2_store _ _ _)) <|
  RT_c (RE_p (r2_st _ _)) <|
  RT_c (RE_p (r2_store _ _ _)) <|
  RT_c (RE_p (r2_clr _ (r2_load _ _ _))) <|
  RT_c (RE_p (r2_load _ _ _)) <|
  RT_c (RE_p (r2_icmp _ _ _)) <|
  RT_c (RE_p (r2_load _ _ _)) <|
  RT_c (RE_p (r2_st _ _)) <|
  RT_c (RE_p (r2_load _ _ _)) <|
  RT_c (RE_p (r2_st _ _)) <|
  RT_c (RE_p (r2_st _ _)) <|
  RT_c (RE_p (r2_store _ _ _)) <|
  RT_c (RE_p (r2_load _ _ _)) <|
  RT_c (RE_p (r2_load _ _ _)) <|
  RT_c (RE_p (r2_load _ _ _)) <|
  RT_c (RE_q) <|
  RT_c (RE_p (r2_store _ _ _)) <|
  RT_c (RE_p (r2_load _ _ _)) <|
  RT_c (RE_p (r2_st _ _)) <|
  RT_c (RE_p (r2_icmp _ _ _)) <|
  RT_c (RE_p (r2_load _ _ _)) <|
  RT_c (RE_p (r2_if _ _ _)) <|
  RT_c (RE_p (r2_load _ _ _)) <|
  RT_c (RE_p (r2_load _ _ _)) <|
  RT_c (RE_p (r2_load _ _ _)) <|
  RT_c (RE_p (r2_load _ _ _)) <|
  RT_c (RE_q) <|
  RT_c (RE_q) <|
  RT_c (RE_p (r2_load _ _ _)) <|
  RT_c (RE_p (r2_st _ _)) <|
  RT_c (RE_p (r2_icmp _ _ _)) <|
  RT_c (RE_p (r2_load _ _ _)) <|
  RT_c (RE_p (r2_load _ _ _)) <|
  RT_c (RE_p (r2_icmp _ _ _)) <|
  RT_c (RE_p (r2_load _ _ _)) <|
  RT_c (RE_q) <|
  RT_c (RE_p (r2_load _ _ _)) <|
  RT_c (RE_p (r2_load _ _ _)) <|
  RT_c (RE_p (r2_load _ _ _)) <|
  RT_c (RE_p (r2_st _ _)) <|
  RT_c (RE_p (r2_st _ _)) <|
  RT_c (RE_q) <|
  RT_c (RE_q) <|
  RT_c (RE_p (r2_if _ _ _)) <|
  RT_c (RE_p (r2_load _ _ _)) <|
  RT_c (RE_p (r2_st _ _)) <|
  RT_c (RE_p (r2_st _ _)) <|
  RT_c (RE_q) <|
  RT_c (RE_p (r2_load _ _ _)) <|
  RT_c (RE_p (r2_load _ _ _)) <|
  RT_c (RE_p (r2_load _ _ _)) <|
  RT_c (RE_p (r2_st _ _)) <|
  RT_c (RE_p (r2_st _ _)) <|
  RT_c (RE_q) <|
  RT_c (RE_q) <|
  RT_c (RE_p (r2_if _ _ _)) <|
  RT_c (RE_p (r2_load _ _ _)) <|
  RT_c (RE_p (r2_st _ _)) <|
  RT_c (RE_p (r2_st _ _)) <|
  RT_c (RE_q) <|
  RT_c (RE_p (r2_iinc _ _ _)) <|
  RT_c (RE_p (r2_st _ _)) <|
  RT_c (RE_p (r2_load _ _ _)) <|
  RT_c (RE_q) <|
  RT_n
set_option maxRecDepth 20000 in
theorem rtX2_faultInTail : RT tbX2_faultInTail ubX2_faultInTail :=
  RT_c (RE_p (r2_load _ _ _)) <|
  RT_c (RE_p (r2_load _ _ _)) <|
  RT_c (RE_p (r2_load _ _ _)) <|
  RT_c (RE_p (r2_st _ _)) <|
  RT_c (RE_p (r2_st _ _)) <|
  RT_c (RE_q) <|
  RT_c (RE_q) <|
  RT_c (RE_p (r2_store _ _ _)) <|
  RT_c (RE_p (r2_load _ _ _)) <|
  RT_c (RE_p (r2_if _ _ _)) <|
  RT_c (RE_p (r2_load _ _ _)) <|
  RT_c (RE_p (r2_load _ _ _)) <|
  RT_c (RE_p (r2_st _ _)) <|
  RT_c (RE_p (r2_load _ _ _)) <|
  RT_c (RE_p (r2_st _ _)) <|
  RT_c (RE_q) <|
  RT_c (RE_q) <|
  RT_c (RE_p (r2_icmp _ _ _)) <|
  RT_c (RE_p (r2_load _ _ _)) <|
  RT_c (RE_p (r2_st _ _)) <|
  RT_c (RE_p (r2_st _ _)) <|
  RT_c (RE_q) <|
  RT_c (RE_p (r2_load _ _ _)) <|
  RT_c (RE_p (r2_load _ _ _)) <|
  RT_c (RE_p (r2_load _ _ _)) <|
  RT_c (RE_p (r2_st _ _)) <|
  RT_c (RE_p (r2_st _ _)) <|
  RT_c (RE_q) <|
  RT_c (RE_q) <|
  RT_c (RE_p (r2_store _ _ _)) <|
  RT_c (RE_p (r2_load _ _ _)) <|
  RT_c (RE_p (r2_if _ _ _)) <|
  RT_c (RE_p (r2_load _ _ _)) <|
  RT_c (RE_p (r2_load _ _ _)) <|
  RT_c (RE_p (r2_st _ _)) <|
  RT_c (RE_q) <|
  RT_c (RE_q) <|
  RT_c (RE_p (r2_icmp _ _ _)) <|
  RT_c (RE_p (r2_load _ _ _)) <|
  RT_c (RE_p (r2_st _ _)) <|
  RT_c (RE_p (r2_st _ _)) <|
  RT_c (RE_q) <|
  RT_c (RE_p (r2_load _ _ _)) <|
  RT_c (RE_p (r2_st _ _)) <|
  RT_c (RE_p (r2_st _ _)) <|
  RT_c (RE_p (r2_load _ _ _)) <|
  RT_c (RE_p (r2_icmp _ _ _)) <|
  RT_c (RE_p (r2_st _ _)) <|
  RT_c (RE_p (r2_st _ _)) <|
  RT_c (RE_p (r2_load _ _ _)) <|
  RT_c (RE_p (r2_st _ _)) <|
  RT_c (RE_p (r2_st _ _)) <|
  RT_c (RE_q) <|
  RT_n
set_option maxRecDepth 20000 in
theorem rtX2_codeAt : RT tbX2_codeAt ubX2_codeAt :=
  RT_c (RE_p (r2_load _ _ _)) <|
  RT_c (RE_p (r2_load _ _ _)) <|
  RT_c (RE_p (r2_icmp _ _ _)) <|
  RT_c (RE_p (r2_load _ _ _)) <|
  RT_c (RE_p (r2_load _ _ _)) <|
  RT_c (RE_q) <|
  RT_c (RE_p (r2_st _ _)) <|
  RT_c (RE_p (r2_st _ _)) <|
  RT_c (RE_q) <|
  RT_n
set_option maxRecDepth 20000 in
theorem rtX2_isEdge : RT tbX2_isEdge ubX2_isEdge :=
  RT_c (RE_p (r2_load _ _ _)) <|
  RT_c (RE_p (r2_st _ _)) <|
  RT_c (RE_p (r2_st _ _)) <|
  RT_c (RE_q) <|
  RT_c (RE_q) <|
  RT_n
set_option maxRecDepth 20000 in
theorem rtX2_digitOf : RT tbX2_digitOf ubX2_digitOf :=
  RT_c (RE_p (r2_load _ _ _)) <|
  RT_c (RE_p (r2_st _ _)) <|
  RT_c (RE_p (r2_st _ _)) <|
  RT_c (RE_q) <|
  RT_c (RE_p (r2_if _ _ _)) <|
  RT_c (RE_p (r2_load _ _ _)) <|
  RT_c (RE_p (r2_st _ _)) <|
  RT_c (RE_p (r2_st _ _)) <|
  RT_c (RE_p (r2_st _ _)) <|
  RT_c (RE_p (r2_st _ _)) <|
  RT_c (RE_q) <|
  RT_n
set_option maxRecDepth 20000 in
theorem rtX2_kindOf : RT tbX2_kindOf ubX2_kindOf :=
  RT_c (RE_p (r2_load _ _ _)) <|
  RT_c (RE_p (r2_sw _ _)) <|
  RT_c (RE_p (r2_st _ _)) <|
  RT_c (RE_q) <|
  RT_c (RE_p (r2_st _ _)) <|
  RT_c (RE_q) <|
  RT_c (RE_p (r2_st _ _)) <|
  RT_c (RE_q) <|
  RT_c (RE_p (r2_st _ _)) <|
  RT_c (RE_q) <|
  RT_n
set_option maxRecDepth 20000 in
theorem rtX3_hasNothing : RT tbX3_hasNothing ubX3_hasNothing :=
  RT_c (RE_p (r2_load _ _ _)) <|
  RT_c (RE_p (r2_getf _ _ _)) <|
  RT_c (RE_p (r2_st _ _)) <|
  RT_c (RE_p (r2_icmp _ _ _)) <|
  RT_c (RE_p (r2_st _ _)) <|
  RT_c (RE_p (r2_st _ _)) <|
  RT_c (RE_p (r2_st _ _)) <|
  RT_c (RE_q) <|
  RT_n
set_option maxRecDepth 20000 in
theorem rtX3_lane : RT tbX3_lane ubX3_lane :=
  RT_c (RE_p (r2_load _ _ _)) <|
  RT_c (RE_p (r2_getf _ _ _)) <|
  RT_c (RE_q) <|
  RT_n
set_option maxRecDepth 20000 in
theorem rtX3_hasCells : RT tbX3_hasCells ubX3_hasCells :=
  RT_c (RE_p (r2_load _ _ _)) <|
  RT_c (RE_p (r2_if _ _ _)) <|
  RT_c (RE_p (r2_load _ _ _)) <|
  RT_c (RE_p (r2_if _ _ _)) <|
  RT_c (RE_p (r2_load _ _ _)) <|
  RT_c (RE_p (r2_load _ _ _)) <|
  RT_c (RE_p (r2_getf _ _ _)) <|
  RT_c (RE_p (r2_load _ _ _)) <|
  RT_c (RE_p (r2_st _ _)) <|
  RT_c (RE_p (r2_icmp _ _ _)) <|
  RT_c (RE_p (r2_st _ _)) <|
  RT_c (RE_p (r2_st _ _)) <|
  RT_c (RE_p (r2_st _ _)) <|
  RT_c (RE_q) <|
  RT_n
set_option maxRecDepth 20000 in
theorem rtX3_faultInTaking : RT tbX3_faultInTaking ubX3_faultInTaking :=
  RT_c (RE_p (r2_load _ _ _)) <|
  RT_c (RE_q) <|
  RT_c (RE_p (r2_if _ _ _)) <|
  RT_c (RE_p (r2_st _ _)) <|
  RT_c (RE_q) <|
  RT_c (RE_p (r2_load _ _ _)) <|
  RT_c (RE_p (r2_load _ _ _)) <|
  RT_c (RE_p (r2_getf _ _ _)) <|
  RT_c (RE_p (r2_icmp _ _ _)) <|
  RT_c (RE_p (r2_st _ _)) <|
  RT_c (RE_q) <|
  RT_c (RE_p (r2_load _ _ _)) <|
  RT_c (RE_p (r2_if _ _ _)) <|
  RT_c (RE_p (r2_st _ _)) <|
  RT_c (RE_q) <|
  RT_c (RE_p (r2_load _ _ _)) <|
  RT_c (RE_p (r2_load _ _ _)) <|
  RT_c (RE_p (r2_load _ _ _)) <|
  RT_c (RE_q) <|
  RT_c (RE_p (r2_if _ _ _)) <|
  RT_c (RE_p (r2_st _ _)) <|
  RT_c (RE_p (r2_st _ _)) <|
  RT_c (RE_p (r2_st _ _)) <|
  RT_c (RE_q) <|
  RT_n
set_option maxRecDepth 20000 in
theorem rtX3_renew : RT tbX3_renew ubX3_renew :=
  RT_c (RE_p (r2_load _ _ _)) <|
  RT_c (RE_p (r2_load _ _ _)) <|
  RT_c (RE_p (r2_putf _ _ _ _)) <|
  RT_c (RE_p (r2_load _ _ _)) <|
  RT_c (RE_p (r2_load _ _ _)) <|
  RT_c (RE_p (r2_putf _ _ _ _)) <|
  RT_c (RE_p (r2_load _ _ _)) <|
  RT_c (RE_p (r2_getf _ _ _)) <|
  RT_c (RE_p (r2_st _ _)) <|
  RT_c (RE_q) <|
  RT_c (RE_q) <|
  RT_n
set_option maxRecDepth 20000 in
theorem rtX3_clear : RT tbX3_clear ubX3_clear :=
  RT_c (RE_p (r2_load _ _ _)) <|
  RT_c (RE_p (r2_st _ _)) <|
  RT_c (RE_p (r2_putf _ _ _ _)) <|
  RT_c (RE_q) <|
  RT_n
set_option maxRecDepth 20000 in
theorem rtX3_read : RT tbX3_read ubX3_read :=
  RT_c (RE_p (r2_load _ _ _)) <|
  RT_c (RE_p (r2_getf _ _ _)) <|
  RT_c (RE_p (r2_load _ _ _)) <|
  RT_c (RE_q) <|
  RT_c (RE_q) <|
  RT_n
set_option maxRecDepth 20000 in
theorem rtX3_write : RT tbX3_write ubX3_write :=
  RT_c (RE_p (r2_load _ _ _)) <|
  RT_c (RE_p (r2_getf _ _ _)) <|
  RT_c (RE_p (r2_load _ _ _)) <|
  RT_c (RE_p (r2_load _ _ _)) <|
  RT_c (RE_p (r2_load _ _ _)) <|
  RT_c (RE_q) <|
  RT_c (RE_q) <|
  RT_c (RE_q) <|
  RT_n
set_option maxRecDepth 20000 in
theorem rtX3_cutToLane : RT tbX3_cutToLane ubX3_cutToLane :=
  RT_c (RE_p (r2_load _ _ _)) <|
  RT_c (RE_p (r2_getf _ _ _)) <|
  RT_c (RE_p (r2_if _ _ _)) <|
  RT_c (RE_p (r2_load _ _ _)) <|
  RT_c (RE_p (r2_st _ _)) <|
  RT_c (RE_q) <|
  RT_c (RE_p (r2_load _ _ _)) <|
  RT_c (RE_p (r2_getf _ _ _)) <|
  RT_c (RE_p (r2_st _ _)) <|
  RT_c (RE_p (r2_icmp _ _ _)) <|
  RT_c (RE_p (r2_load _ _ _)) <|
  RT_c (RE_p (r2_st _ _)) <|
  RT_c (RE_p (r2_st _ _)) <|
  RT_c (RE_p (r2_load _ _ _)) <|
  RT_c (RE_q) <|
  RT_n
set_option maxRecDepth 20000 in
theorem rtX4_sea : RT tbX4_sea ubX4_sea :=
  RT_c (RE_p (r2_load _ _ _)) <|
  RT_c (RE_p (r2_st _ _)) <|
  RT_c (RE_p (r2_putf _ _ _ _)) <|
  RT_c (RE_p (r2_load _ _ _)) <|
  RT_c (RE_p (r2_load _ _ _)) <|
  RT_c (RE_q) <|
  RT_c (RE_p (r2_store _ _ _)) <|
  RT_c (RE_p (r2_load _ _ _)) <|
  RT_c (RE_p (r2_null _ _)) <|
  RT_c (RE_p (r2_st _ _)) <|
  RT_c (RE_q) <|
  RT_c (RE_p (r2_load _ _ _)) <|
  RT_c (RE_q) <|
  RT_c (RE_p (r2_if _ _ _)) <|
  RT_c (RE_p (r2_st _ _)) <|
  RT_c (RE_q) <|
  RT_c (RE_p (r2_load _ _ _)) <|
  RT_c (RE_p (r2_load _ _ _)) <|
  RT_c (RE_p (r2_load _ _ _)) <|
  RT_c (RE_p (r2_load _ _ _)) <|
  RT_c (RE_p (r2_load _ _ _)) <|
  RT_c (RE_q) <|
  RT_c (RE_p (r2_store _ _ _)) <|
  RT_c (RE_p (r2_load _ _ _)) <|
  RT_c (RE_p (r2_if _ _ _)) <|
  RT_c (RE_p (r2_load _ _ _)) <|
  RT_c (RE_p (r2_load _ _ _)) <|
  RT_c (RE_q) <|
  RT_c (RE_q) <|
  RT_c (RE_p (r2_load _ _ _)) <|
  RT_c (RE_p (r2_getf _ _ _)) <|
  RT_c (RE_p (r2_load _ _ _)) <|
  RT_c (RE_q) <|
  RT_c (RE_p (r2_store _ _ _)) <|
  RT_c (RE_p (r2_load _ _ _)) <|
  RT_c (RE_p (r2_st _ _)) <|
  RT_c (RE_p (r2_icmp _ _ _)) <|
  RT_c (RE_p (r2_st _ _)) <|
  RT_c (RE_p (r2_load _ _ _)) <|
  RT_c (RE_p (r2_st _ _)) <|
  RT_c (RE_q) <|
  RT_c (RE_p (r2_load _ _ _)) <|
  RT_c (RE_p (r2_getf _ _ _)) <|
  RT_c (RE_p (r2_load _ _ _)) <|
  RT_c (RE_p (r2_getf _ _ _)) <|
  RT_c (RE_p (r2_load _ _ _)) <|
  RT_c (RE_q) <|
  RT_c (RE_p (r2_load _ _ _)) <|
  RT_c (RE_p (r2_getf _ _ _)) <|
  RT_c (RE_p (r2_st _ _)) <|
  RT_c (RE_q) <|
  RT_c (RE_p (r2_load _ _ _)) <|
  RT_c (RE_p (r2_getf _ _ _)) <|
  RT_c (RE_q) <|
  RT_c (RE_q) <|
  RT_n
set_option maxRecDepth 20000 in
theorem rtX4_ofLooker : RT tbX4_ofLooker ubX4_ofLooker :=
  RT_c (RE_p (r2_load _ _ _)) <|
  RT_c (RE_p (r2_getf _ _ _)) <|
  RT_c (RE_p (r2_load _ _ _)) <|
  RT_c (RE_q) <|
  RT_c (RE_p (r2_if _ _ _)) <|
  RT_c (RE_p (r2_st _ _)) <|
  RT_c (RE_q) <|
  RT_c (RE_p (r2_load _ _ _)) <|
  RT_c (RE_p (r2_sw _ _)) <|
  RT_c (RE_p (r2_load _ _ _)) <|
  RT_c (RE_p (r2_getf _ _ _)) <|
  RT_c (RE_p (r2_load _ _ _)) <|
  RT_c (RE_q) <|
  RT_c (RE_q) <|
  RT_c (RE_p (r2_load _ _ _)) <|
  RT_c (RE_p (r2_getf _ _ _)) <|
  RT_c (RE_p (r2_load _ _ _)) <|
  RT_c (RE_q) <|
  RT_c (RE_q) <|
  RT_c (RE_p (r2_load _ _ _)) <|
  RT_c (RE_p (r2_getf _ _ _)) <|
  RT_c (RE_p (r2_load _ _ _)) <|
  RT_c (RE_q) <|
  RT_c (RE_p (r2_if _ _ _)) <|
  RT_c (RE_p (r2_st _ _)) <|
  RT_c (RE_p (r2_st _ _)) <|
  RT_c (RE_p (r2_st _ _)) <|
  RT_c (RE_q) <|
  RT_c (RE_p (r2_load _ _ _)) <|
  RT_c (RE_p (r2_getf _ _ _)) <|
  RT_c (RE_q) <|
  RT_c (RE_p (r2_load _ _ _)) <|
  RT_c (RE_p (r2_st _ _)) <|
  RT_c (RE_q) <|
  RT_c (RE_p (r2_load _ _ _)) <|
  RT_c (RE_p (r2_getf _ _ _)) <|
  RT_c (RE_p (r2_load _ _ _)) <|
  RT_c (RE_p (r2_load _ _ _)) <|
  RT_c (RE_p (r2_getf _ _ _)) <|
  RT_c (RE_q) <|
  RT_c (RE_p (r2_load _ _ _)) <|
  RT_c (RE_p (r2_st _ _)) <|
  RT_c (RE_q) <|
  RT_c (RE_q) <|
  RT_c (RE_p (r2_st _ _)) <|
  RT_c (RE_q) <|
  RT_n
set_option maxRecDepth 20000 in
theorem rtX4_height : RT tbX4_height ubX4_height :=
  RT_c (RE_p (r2_load _ _ _)) <|
  RT_c (RE_p (r2_getf _ _ _)) <|
  RT_c (RE_p (r2_load _ _ _)) <|
  RT_c (RE_q) <|
  RT_c (RE_p (r2_if _ _ _)) <|
  RT_c (RE_p (r2_load _ _ _)) <|
  RT_c (RE_p (r2_getf _ _ _)) <|
  RT_c (RE_p (r2_load _ _ _)) <|
  RT_c (RE_q) <|
  RT_c (RE_p (r2_st _ _)) <|
  RT_c (RE_p (r2_st _ _)) <|
  RT_c (RE_q) <|
  RT_n
set_option maxRecDepth 20000 in
theorem rtX4_heap : RT tbX4_heap ubX4_heap :=
  RT_c (RE_p (r2_load _ _ _)) <|
  RT_c (RE_p (r2_getf _ _ _)) <|
  RT_c (RE_p (r2_load _ _ _)) <|
  RT_c (RE_q) <|
  RT_c (RE_p (r2_if _ _ _)) <|
  RT_c (RE_p (r2_st _ _)) <|
  RT_c (RE_q) <|
  RT_c (RE_p (r2_load _ _ _)) <|
  RT_c (RE_q) <|
  RT_c (RE_p (r2_if _ _ _)) <|
  RT_c (RE_p (r2_st _ _)) <|
  RT_c (RE_q) <|
  RT_c (RE_p (r2_load _ _ _)) <|
  RT_c (RE_p (r2_getf _ _ _)) <|
  RT_c (RE_p (r2_load _ _ _)) <|
  RT_c (RE_q) <|
  RT_c (RE_p (r2_store _ _ _)) <|
  RT_c (RE_p (r2_load _ _ _)) <|
  RT_c (RE_p (r2_getf _ _ _)) <|
  RT_c (RE_p (r2_load _ _ _)) <|
  RT_c (RE_p (r2_load _ _ _)) <|
  RT_c (RE_q) <|
  RT_c (RE_p (r2_load _ _ _)) <|
  RT_c (RE_q) <|
  RT_n
set_option maxRecDepth 20000 in
theorem rtX4_dim : RT tbX4_dim ubX4_dim :=
  RT_c (RE_p (r2_load _ _ _)) <|
  RT_c (RE_p (r2_getf _ _ _)) <|
  RT_c (RE_p (r2_load _ _ _)) <|
  RT_c (RE_q) <|
  RT_c (RE_p (r2_if _ _ _)) <|
  RT_c (RE_p (r2_st _ _)) <|
  RT_c (RE_q) <|
  RT_c (RE_p (r2_load _ _ _)) <|
  RT_c (RE_q) <|
  RT_c (RE_p (r2_if _ _ _)) <|
  RT_c (RE_p (r2_st _ _)) <|
  RT_c (RE_q) <|
  RT_c (RE_p (r2_load _ _ _)) <|
  RT_c (RE_p (r2_getf _ _ _)) <|
  RT_c (RE_p (r2_load _ _ _)) <|
  RT_c (RE_q) <|
  RT_c (RE_p (r2_store _ _ _)) <|
  RT_c (RE_p (r2_load _ _ _)) <|
  RT_c (RE_p (r2_getf _ _ _)) <|
  RT_c (RE_p (r2_load _ _ _)) <|
  RT_c (RE_p (r2_load _ _ _)) <|
  RT_c (RE_q) <|
  RT_c (RE_p (r2_load _ _ _)) <|
  RT_c (RE_q) <|
  RT_n
set_option maxRecDepth 20000 in
theorem rtX4_scrape : RT tbX4_scrape ubX4_scrape :=
  RT_c (RE_p (r2_load _ _ _)) <|
  RT_c (RE_p (r2_getf _ _ _)) <|
  RT_c (RE_p (r2_load _ _ _)) <|
  RT_c (RE_q) <|
  RT_c (RE_p (r2_if _ _ _)) <|
  RT_c (RE_p (r2_st _ _)) <|
  RT_c (RE_q) <|
  RT_c (RE_p (r2_load _ _ _)) <|
  RT_c (RE_p (r2_getf _ _ _)) <|
  RT_c (RE_p (r2_load _ _ _)) <|
  RT_c (RE_q) <|
  RT_c (RE_p (r2_if _ _ _)) <|
  RT_c (RE_p (r2_st _ _)) <|
  RT_c (RE_q) <|
  RT_c (RE_p (r2_load _ _ _)) <|
  RT_c (RE_p (r2_getf _ _ _)) <|
  RT_c (RE_p (r2_load _ _ _)) <|
  RT_c (RE_q) <|
  RT_c (RE_p (r2_load _ _ _)) <|
  RT_c (RE_p (r2_getf _ _ _)) <|
  RT_c (RE_q) <|
  RT_c (RE_q) <|
  RT_n
set_option maxRecDepth 20000 in
theorem rtX4_grow : RT tbX4_grow ubX4_grow :=
  RT_c (RE_p (r2_load _ _ _)) <|
  RT_c (RE_p (r2_getf _ _ _)) <|
  RT_c (RE_p (r2_load _ _ _)) <|
  RT_c (RE_q) <|
  RT_c (RE_p (r2_if _ _ _)) <|
  RT_c (RE_p (r2_st _ _)) <|
  RT_c (RE_q) <|
  RT_c (RE_p (r2_load _ _ _)) <|
  RT_c (RE_p (r2_getf _ _ _)) <|
  RT_c (RE_p (r2_load _ _ _)) <|
  RT_c (RE_q) <|
  RT_c (RE_p (r2_if _ _ _)) <|
  RT_c (RE_p (r2_st _ _)) <|
  RT_c (RE_q) <|
  RT_c (RE_p (r2_load _ _ _)) <|
  RT_c (RE_p (r2_getf _ _ _)) <|
  RT_c (RE_p (r2_load _ _ _)) <|
  RT_c (RE_q) <|
  RT_c (RE_p (r2_load _ _ _)) <|
  RT_c (RE_p (r2_getf _ _ _)) <|
  RT_c (RE_q) <|
  RT_c (RE_q) <|
  RT_n
set_option maxRecDepth 20000 in
theorem rtX4_seen : RT tbX4_seen ubX4_seen :=
  RT_c (RE_p (r2_load _ _ _)) <|
  RT_c (RE_p (r2_getf _ _ _)) <|
  RT_c (RE_q) <|
  RT_c (RE_p (r2_if _ _ _)) <|
  RT_c (RE_p (r2_load _ _ _)) <|
  RT_c (RE_p (r2_getf _ _ _)) <|
  RT_c (RE_q) <|
  RT_c (RE_p (r2_st _ _)) <|
  RT_c (RE_p (r2_st _ _)) <|
  RT_c (RE_q) <|
  RT_n
set_option maxRecDepth 20000 in
theorem rtX4_step : RT tbX4_step ubX4_step :=
  RT_c (RE_p (r2_load _ _ _)) <|
  RT_c (RE_q) <|
  RT_c (RE_p (r2_if _ _ _)) <|
  RT_c (RE_p (r2_st _ _)) <|
  RT_c (RE_q) <|
  RT_c (RE_p (r2_load _ _ _)) <|
  RT_c (RE_p (r2_getf _ _ _)) <|
  RT_c (RE_q) <|
  RT_c (RE_p (r2_if _ _ _)) <|
  RT_c (RE_p (r2_st _ _)) <|
  RT_c (RE_q) <|
  RT_c (RE_p (r2_load _ _ _)) <|
  RT_c (RE_p (r2_getf _ _ _)) <|
  RT_c (RE_p (r2_load _ _ _)) <|
  RT_c (RE_p (r2_getf _ _ _)) <|
  RT_c (RE_q) <|
  RT_c (RE_p (r2_load _ _ _)) <|
  RT_c (RE_q) <|
  RT_c (RE_p (r2_store _ _ _)) <|
  RT_c (RE_p (r2_load _ _ _)) <|
  RT_c (RE_p (r2_st _ _)) <|
  RT_c (RE_p (r2_icmp _ _ _)) <|
  RT_c (RE_p (r2_st _ _)) <|
  RT_c (RE_q) <|
  RT_c (RE_p (r2_load _ _ _)) <|
  RT_c (RE_p (r2_getf _ _ _)) <|
  RT_c (RE_q) <|
  RT_c (RE_q) <|
  RT_c (RE_p (r2_store _ _ _)) <|
  RT_c (RE_p (r2_load _ _ _)) <|
  RT_c (RE_p (r2_getf _ _ _)) <|
  RT_c (RE_p (r2_load _ _ _)) <|
  RT_c (RE_q) <|
  RT_c (RE_p (r2_load _ _ _)) <|
  RT_c (RE_p (r2_getf _ _ _)) <|
  RT_c (RE_q) <|
  RT_c (RE_q) <|
  RT_c (RE_p (r2_load _ _ _)) <|
  RT_c (RE_p (r2_st _ _)) <|
  RT_c (RE_q) <|
  RT_n
set_option maxRecDepth 20000 in
theorem rtX4_voyage : RT tbX4_voyage ubX4_voyage :=
  RT_c (RE_p (r2_load _ _ _)) <|
  RT_c (RE_p (r2_st _ _)) <|
  RT_c (RE_p (r2_putf _ _ _ _)) <|
  RT_c (RE_p (r2_load _ _ _)) <|
  RT_c (RE_p (r2_load _ _ _)) <|
  RT_c (RE_q) <|
  RT_c (RE_p (r2_store _ _ _)) <|
  RT_c (RE_p (r2_load _ _ _)) <|
  RT_c (RE_p (r2_null _ _)) <|
  RT_c (RE_p (r2_st _ _)) <|
  RT_c (RE_q) <|
  RT_c (RE_p (r2_load _ _ _)) <|
  RT_c (RE_q) <|
  RT_c (RE_p (r2_if _ _ _)) <|
  RT_c (RE_p (r2_load _ _ _)) <|
  RT_c (RE_p (r2_st _ _)) <|
  RT_c (RE_p (r2_st _ _)) <|
  RT_c (RE_q) <|
  RT_c (RE_p (r2_if _ _ _)) <|
  RT_c (RE_p (r2_load _ _ _)) <|
  RT_c (RE_p (r2_st _ _)) <|
  RT_c (RE_p (r2_st _ _)) <|
  RT_c (RE_q) <|
  RT_c (RE_p (r2_if _ _ _)) <|
  RT_c (RE_p (r2_st _ _)) <|
  RT_c (RE_q) <|
  RT_c (RE_p (r2_load _ _ _)) <|
  RT_c (RE_p (r2_getf _ _ _)) <|
  RT_c (RE_q) <|
  RT_c (RE_p (r2_if _ _ _)) <|
  RT_c (RE_p (r2_st _ _)) <|
  RT_c (RE_q) <|
  RT_c (RE_p (r2_load _ _ _)) <|
  RT_c (RE_p (r2_load _ _ _)) <|
  RT_c (RE_p (r2_load _ _ _)) <|
  RT_c (RE_p (r2_load _ _ _)) <|
  RT_c (RE_p (r2_load _ _ _)) <|
  RT_c (RE_q) <|
  RT_c (RE_p (r2_store _ _ _)) <|
  RT_c (RE_p (r2_load _ _ _)) <|
  RT_c (RE_p (r2_if _ _ _)) <|
  RT_c (RE_p (r2_load _ _ _)) <|
  RT_c (RE_p (r2_load _ _ _)) <|
  RT_c (RE_q) <|
  RT_c (RE_q) <|
  RT_c (RE_p (r2_st _ _)) <|
  RT_c (RE_p (r2_store _ _ _)) <|
  RT_c (RE_p (r2_clr _ (r2_load _ _ _))) <|
  RT_c (RE_p (r2_load _ _ _)) <|
  RT_c (RE_p (r2_icmp _ _ _)) <|
  RT_c (RE_p (r2_load _ _ _)) <|
  RT_c (RE_p (r2_getf _ _ _)) <|
  RT_c (RE_p (r2_load _ _ _)) <|
  RT_c (RE_q) <|
  RT_c (RE_q) <|
  RT_c (RE_p (r2_if _ _ _)) <|
  RT_c (RE_p (r2_st _ _)) <|
  RT_c (RE_q) <|
  RT_c (RE_p (r2_iinc _ _ _)) <|
  RT_c (RE_p (r2_st _ _)) <|
  RT_c (RE_p (r2_load _ _ _)) <|
  RT_c (RE_p (r2_getf _ _ _)) <|
  RT_c (RE_p (r2_load _ _ _)) <|
  RT_c (RE_p (r2_getf _ _ _)) <|
  RT_c (RE_p (r2_load _ _ _)) <|
  RT_c (RE_p (r2_load _ _ _)) <|
  RT_c (RE_q) <|
  RT_c (RE_q) <|
  RT_n
set_option maxRecDepth 20000 in
theorem rtX4_way : RT tbX4_way ubX4_way :=
  RT_c (RE_p (r2_load _ _ _)) <|
  RT_c (RE_p (r2_getf _ _ _)) <|
  RT_c (RE_p (r2_load _ _ _)) <|
  RT_c (RE_q) <|
  RT_c (RE_p (r2_if _ _ _)) <|
  RT_c (RE_p (r2_st _ _)) <|
  RT_c (RE_q) <|
  RT_c (RE_p (r2_load _ _ _)) <|
  RT_c (RE_p (r2_st _ _)) <|
  RT_c (RE_p (r2_st _ _)) <|
  RT_c (RE_q) <|
  RT_c (RE_p (r2_if _ _ _)) <|
  RT_c (RE_p (r2_st _ _)) <|
  RT_c (RE_q) <|
  RT_c (RE_p (r2_load _ _ _)) <|
  RT_c (RE_p (r2_getf _ _ _)) <|
  RT_c (RE_p (r2_load _ _ _)) <|
  RT_c (RE_p (r2_load _ _ _)) <|
  RT_c (RE_q) <|
  RT_c (RE_q) <|
  RT_n
set_option maxRecDepth 20000 in
theorem rtX4_most : RT tbX4_most ubX4_most :=
  RT_c (RE_p (r2_load _ _ _)) <|
  RT_c (RE_p (r2_st _ _)) <|
  RT_c (RE_p (r2_st _ _)) <|
  RT_c (RE_q) <|
  RT_c (RE_p (r2_if _ _ _)) <|
  RT_c (RE_p (r2_load _ _ _)) <|
  RT_c (RE_p (r2_st _ _)) <|
  RT_c (RE_p (r2_st _ _)) <|
  RT_c (RE_q) <|
  RT_c (RE_p (r2_if _ _ _)) <|
  RT_c (RE_p (r2_st _ _)) <|
  RT_c (RE_q) <|
  RT_c (RE_p (r2_load _ _ _)) <|
  RT_c (RE_p (r2_getf _ _ _)) <|
  RT_c (RE_q) <|
  RT_c (RE_p (r2_if _ _ _)) <|
  RT_c (RE_p (r2_st _ _)) <|
  RT_c (RE_q) <|
  RT_c (RE_p (r2_load _ _ _)) <|
  RT_c (RE_p (r2_getf _ _ _)) <|
  RT_c (RE_p (r2_load _ _ _)) <|
  RT_c (RE_p (r2_load _ _ _)) <|
  RT_c (RE_q) <|
  RT_c (RE_q) <|
  RT_n
set_option maxRecDepth 20000 in
theorem rtX4_flat : RT tbX4_flat ubX4_flat :=
  RT_c (RE_p (r2_load _ _ _)) <|
  RT_c (RE_p (r2_getf _ _ _)) <|
  RT_c (RE_p (r2_load _ _ _)) <|
  RT_c (RE_q) <|
  RT_c (RE_p (r2_if _ _ _)) <|
  RT_c (RE_p (r2_load _ _ _)) <|
  RT_c (RE_p (r2_getf _ _ _)) <|
  RT_c (RE_p (r2_load _ _ _)) <|
  RT_c (RE_q) <|
  RT_c (RE_q) <|
  RT_c (RE_p (r2_st _ _)) <|
  RT_c (RE_p (r2_st _ _)) <|
  RT_c (RE_q) <|
  RT_n
set_option maxRecDepth 20000 in
theorem rtX4_begun : RT tbX4_begun ubX4_begun :=
  RT_c (RE_p (r2_load _ _ _)) <|
  RT_c (RE_p (r2_st _ _)) <|
  RT_c (RE_p (r2_putf _ _ _ _)) <|
  RT_c (RE_p (r2_load _ _ _)) <|
  RT_c (RE_p (r2_load _ _ _)) <|
  RT_c (RE_q) <|
  RT_c (RE_p (r2_store _ _ _)) <|
  RT_c (RE_p (r2_load _ _ _)) <|
  RT_c (RE_p (r2_null _ _)) <|
  RT_c (RE_p (r2_st _ _)) <|
  RT_c (RE_q) <|
  RT_c (RE_p (r2_load _ _ _)) <|
  RT_c (RE_q) <|
  RT_c (RE_p (r2_if _ _ _)) <|
  RT_c (RE_p (r2_load _ _ _)) <|
  RT_c (RE_p (r2_st _ _)) <|
  RT_c (RE_p (r2_st _ _)) <|
  RT_c (RE_q) <|
  RT_c (RE_p (r2_if _ _ _)) <|
  RT_c (RE_p (r2_load _ _ _)) <|
  RT_c (RE_q) <|
  RT_c (RE_p (r2_if _ _ _)) <|
  RT_c (RE_p (r2_load _ _ _)) <|
  RT_c (RE_p (r2_st _ _)) <|
  RT_c (RE_p (r2_st _ _)) <|
  RT_c (RE_q) <|
  RT_c (RE_p (r2_if _ _ _)) <|
  RT_c (RE_p (r2_st _ _)) <|
  RT_c (RE_q) <|
  RT_c (RE_p (r2_load _ _ _)) <|
  RT_c (RE_p (r2_getf _ _ _)) <|
  RT_c (RE_q) <|
  RT_c (RE_p (r2_if _ _ _)) <|
  RT_c (RE_p (r2_st _ _)) <|
  RT_c (RE_q) <|
  RT_c (RE_p (r2_load _ _ _)) <|
  RT_c (RE_p (r2_load _ _ _)) <|
  RT_c (RE_p (r2_load _ _ _)) <|
  RT_c (RE_p (r2_load _ _ _)) <|
  RT_c (RE_p (r2_load _ _ _)) <|
  RT_c (RE_p (r2_load _ _ _)) <|
  RT_c (RE_p (r2_getf _ _ _)) <|
  RT_c (RE_q) <|
  RT_c (RE_p (r2_st _ _)) <|
  RT_c (RE_q) <|
  RT_c (RE_p (r2_store _ _ _)) <|
  RT_c (RE_p (r2_load _ _ _)) <|
  RT_c (RE_p (r2_if _ _ _)) <|
  RT_c (RE_p (r2_load _ _ _)) <|
  RT_c (RE_p (r2_load _ _ _)) <|
  RT_c (RE_q) <|
  RT_c (RE_q) <|
  RT_c (RE_p (r2_load _ _ _)) <|
  RT_c (RE_p (r2_getf _ _ _)) <|
  RT_c (RE_p (r2_load _ _ _)) <|
  RT_c (RE_p (r2_getf _ _ _)) <|
  RT_c (RE_p (r2_load _ _ _)) <|
  RT_c (RE_p (r2_load _ _ _)) <|
  RT_c (RE_p (r2_load _ _ _)) <|
  RT_c (RE_q) <|
  RT_c (RE_q) <|
  RT_n
set_option maxRecDepth 20000 in
theorem rtX4_run : RT tbX4_run ubX4_run :=
  RT_c (RE_p (r2_load _ _ _)) <|
  RT_c (RE_p (r2_st _ _)) <|
  RT_c (RE_p (r2_putf _ _ _ _)) <|
  RT_c (RE_p (r2_load _ _ _)) <|
  RT_c (RE_p (r2_load _ _ _)) <|
  RT_c (RE_q) <|
  RT_c (RE_p (r2_store _ _ _)) <|
  RT_c (RE_p (r2_load _ _ _)) <|
  RT_c (RE_p (r2_null _ _)) <|
  RT_c (RE_p (r2_st _ _)) <|
  RT_c (RE_q) <|
  RT_c (RE_p (r2_load _ _ _)) <|
  RT_c (RE_q) <|
  RT_c (RE_p (r2_if _ _ _)) <|
  RT_c (RE_p (r2_load _ _ _)) <|
  RT_c (RE_p (r2_st _ _)) <|
  RT_c (RE_p (r2_st _ _)) <|
  RT_c (RE_q) <|
  RT_c (RE_p (r2_if _ _ _)) <|
  RT_c (RE_p (r2_load _ _ _)) <|
  RT_c (RE_p (r2_st _ _)) <|
  RT_c (RE_p (r2_st _ _)) <|
  RT_c (RE_q) <|
  RT_c (RE_p (r2_if _ _ _)) <|
  RT_c (RE_p (r2_st _ _)) <|
  RT_c (RE_q) <|
  RT_c (RE_p (r2_load _ _ _)) <|
  RT_c (RE_p (r2_load _ _ _)) <|
  RT_c (RE_p (r2_load _ _ _)) <|
  RT_c (RE_p (r2_load _ _ _)) <|
  RT_c (RE_p (r2_load _ _ _)) <|
  RT_c (RE_q) <|
  RT_c (RE_p (r2_store _ _ _)) <|
  RT_c (RE_p (r2_load _ _ _)) <|
  RT_c (RE_p (r2_if _ _ _)) <|
  RT_c (RE_p (r2_load _ _ _)) <|
  RT_c (RE_p (r2_load _ _ _)) <|
  RT_c (RE_q) <|
  RT_c (RE_q) <|
  RT_c (RE_p (r2_load _ _ _)) <|
  RT_c (RE_p (r2_load _ _ _)) <|
  RT_c (RE_q) <|
  RT_c (RE_p (r2_store _ _ _)) <|
  RT_c (RE_p (r2_load _ _ _)) <|
  RT_c (RE_p (r2_if _ _ _)) <|
  RT_c (RE_p (r2_load _ _ _)) <|
  RT_c (RE_p (r2_st _ _)) <|
  RT_c (RE_p (r2_load _ _ _)) <|
  RT_c (RE_p (r2_getf _ _ _)) <|
  RT_c (RE_p (r2_load _ _ _)) <|
  RT_c (RE_p (r2_load _ _ _)) <|
  RT_c (RE_p (r2_st _ _)) <|
  RT_c (RE_q) <|
  RT_c (RE_q) <|
  RT_n
set_option maxRecDepth 20000 in
theorem rtX4_reading : RT tbX4_reading ubX4_reading :=
  RT_c (RE_p (r2_load _ _ _)) <|
  RT_c (RE_p (r2_getf _ _ _)) <|
  RT_c (RE_p (r2_load _ _ _)) <|
  RT_c (RE_q) <|
  RT_c (RE_p (r2_if _ _ _)) <|
  RT_c (RE_p (r2_st _ _)) <|
  RT_c (RE_q) <|
  RT_c (RE_p (r2_load _ _ _)) <|
  RT_c (RE_q) <|
  RT_c (RE_p (r2_if _ _ _)) <|
  RT_c (RE_p (r2_load _ _ _)) <|
  RT_c (RE_p (r2_st _ _)) <|
  RT_c (RE_p (r2_st _ _)) <|
  RT_c (RE_q) <|
  RT_c (RE_p (r2_if _ _ _)) <|
  RT_c (RE_p (r2_st _ _)) <|
  RT_c (RE_q) <|
  RT_c (RE_p (r2_load _ _ _)) <|
  RT_c (RE_p (r2_getf _ _ _)) <|
  RT_c (RE_q) <|
  RT_c (RE_p (r2_if _ _ _)) <|
  RT_c (RE_p (r2_st _ _)) <|
  RT_c (RE_q) <|
  RT_c (RE_p (r2_load _ _ _)) <|
  RT_c (RE_p (r2_getf _ _ _)) <|
  RT_c (RE_p (r2_load _ _ _)) <|
  RT_c (RE_p (r2_load _ _ _)) <|
  RT_c (RE_p (r2_load _ _ _)) <|
  RT_c (RE_q) <|
  RT_c (RE_q) <|
  RT_n
set_option maxRecDepth 20000 in
theorem rtX4_back : RT tbX4_back ubX4_back :=
  RT_c (RE_p (r2_load _ _ _)) <|
  RT_c (RE_p (r2_st _ _)) <|
  RT_c (RE_p (r2_load _ _ _)) <|
  RT_c (RE_p (r2_getf _ _ _)) <|
  RT_c (RE_q) <|
  RT_c (RE_q) <|
  RT_c (RE_p (r2_if _ _ _)) <|
  RT_c (RE_p (r2_st _ _)) <|
  RT_c (RE_q) <|
  RT_c (RE_p (r2_load _ _ _)) <|
  RT_c (RE_p (r2_getf _ _ _)) <|
  RT_c (RE_p (r2_load _ _ _)) <|
  RT_c (RE_p (r2_getf _ _ _)) <|
  RT_c (RE_q) <|
  RT_c (RE_p (r2_load _ _ _)) <|
  RT_c (RE_p (r2_st _ _)) <|
  RT_c (RE_q) <|
  RT_c (RE_p (r2_load _ _ _)) <|
  RT_c (RE_p (r2_getf _ _ _)) <|
  RT_c (RE_q) <|
  RT_c (RE_q) <|
  RT_n
set_option maxRecDepth 20000 in
theorem rtX4_shorts : RT tbX4_shorts ubX4_shorts :=
  RT_c (RE_p (r2_load _ _ _)) <|
  RT_c (RE_p (r2_getf _ _ _)) <|
  RT_c (RE_p (r2_load _ _ _)) <|
  RT_c (RE_q) <|
  RT_c (RE_p (r2_if _ _ _)) <|
  RT_c (RE_p (r2_st _ _)) <|
  RT_c (RE_q) <|
  RT_c (RE_p (r2_st _ _)) <|
  RT_c (RE_p (r2_store _ _ _)) <|
  RT_c (RE_p (r2_st _ _)) <|
  RT_c (RE_p (r2_store _ _ _)) <|
  RT_c (RE_p (r2_load _ _ _)) <|
  RT_c (RE_p (r2_st _ _)) <|
  RT_c (RE_p (r2_icmp _ _ _)) <|
  RT_c (RE_p (r2_load _ _ _)) <|
  RT_c (RE_p (r2_getf _ _ _)) <|
  RT_c (RE_p (r2_load _ _ _)) <|
  RT_c (RE_p (r2_getf _ _ _)) <|
  RT_c (RE_p (r2_load _ _ _)) <|
  RT_c (RE_p (r2_load _ _ _)) <|
  RT_c (RE_p (r2_getf _ _ _)) <|
  RT_c (RE_p (r2_load _ _ _)) <|
  RT_c (RE_q) <|
  RT_c (RE_p (r2_load _ _ _)) <|
  RT_c (RE_q) <|
  RT_c (RE_p (r2_if _ _ _)) <|
  RT_c (RE_p (r2_load _ _ _)) <|
  RT_c (RE_p (r2_st _ _)) <|
  RT_c (RE_p (r2_load _ _ _)) <|
  RT_c (RE_p (r2_st _ _)) <|
  RT_c (RE_p (r2_st _ _)) <|
  RT_c (RE_p (r2_store _ _ _)) <|
  RT_c (RE_p (r2_iinc _ _ _)) <|
  RT_c (RE_p (r2_st _ _)) <|
  RT_c (RE_p (r2_load _ _ _)) <|
  RT_c (RE_q) <|
  RT_n
set_option maxRecDepth 20000 in
theorem rtX4_kinds : RT tbX4_kinds ubX4_kinds :=
  RT_c (RE_p (r2_load _ _ _)) <|
  RT_c (RE_p (r2_getf _ _ _)) <|
  RT_c (RE_p (r2_load _ _ _)) <|
  RT_c (RE_q) <|
  RT_c (RE_p (r2_if _ _ _)) <|
  RT_c (RE_p (r2_st _ _)) <|
  RT_c (RE_q) <|
  RT_c (RE_p (r2_st _ _)) <|
  RT_c (RE_p (r2_store _ _ _)) <|
  RT_c (RE_p (r2_st _ _)) <|
  RT_c (RE_p (r2_store _ _ _)) <|
  RT_c (RE_p (r2_load _ _ _)) <|
  RT_c (RE_p (r2_st _ _)) <|
  RT_c (RE_p (r2_icmp _ _ _)) <|
  RT_c (RE_p (r2_load _ _ _)) <|
  RT_c (RE_p (r2_getf _ _ _)) <|
  RT_c (RE_p (r2_load _ _ _)) <|
  RT_c (RE_p (r2_getf _ _ _)) <|
  RT_c (RE_p (r2_load _ _ _)) <|
  RT_c (RE_p (r2_load _ _ _)) <|
  RT_c (RE_p (r2_load _ _ _)) <|
  RT_c (RE_p (r2_getf _ _ _)) <|
  RT_c (RE_p (r2_load _ _ _)) <|
  RT_c (RE_q) <|
  RT_c (RE_q) <|
  RT_c (RE_p (r2_if _ _ _)) <|
  RT_c (RE_p (r2_load _ _ _)) <|
  RT_c (RE_p (r2_st _ _)) <|
  RT_c (RE_p (r2_load _ _ _)) <|
  RT_c (RE_p (r2_st _ _)) <|
  RT_c (RE_p (r2_st _ _)) <|
  RT_c (RE_p (r2_store _ _ _)) <|
  RT_c (RE_p (r2_iinc _ _ _)) <|
  RT_c (RE_p (r2_st _ _)) <|
  RT_c (RE_p (r2_load _ _ _)) <|
  RT_c (RE_q) <|
  RT_n
set_option maxRecDepth 20000 in
theorem rtX4_odds : RT tbX4_odds ubX4_odds :=
  RT_c (RE_p (r2_load _ _ _)) <|
  RT_c (RE_p (r2_getf _ _ _)) <|
  RT_c (RE_p (r2_load _ _ _)) <|
  RT_c (RE_q) <|
  RT_c (RE_p (r2_if _ _ _)) <|
  RT_c (RE_p (r2_st _ _)) <|
  RT_c (RE_q) <|
  RT_c (RE_p (r2_load _ _ _)) <|
  RT_c (RE_p (r2_st _ _)) <|
  RT_c (RE_p (r2_st _ _)) <|
  RT_c (RE_q) <|
  RT_c (RE_p (r2_if _ _ _)) <|
  RT_c (RE_p (r2_load _ _ _)) <|
  RT_c (RE_p (r2_st _ _)) <|
  RT_c (RE_p (r2_st _ _)) <|
  RT_c (RE_q) <|
  RT_c (RE_p (r2_if _ _ _)) <|
  RT_c (RE_p (r2_st _ _)) <|
  RT_c (RE_q) <|
  RT_c (RE_p (r2_load _ _ _)) <|
  RT_c (RE_p (r2_getf _ _ _)) <|
  RT_c (RE_p (r2_load _ _ _)) <|
  RT_c (RE_p (r2_load _ _ _)) <|
  RT_c (RE_q) <|
  RT_c (RE_p (r2_store _ _ _)) <|
  RT_c (RE_p (r2_load _ _ _)) <|
  RT_c (RE_p (r2_getf _ _ _)) <|
  RT_c (RE_q) <|
  RT_c (RE_p (r2_store _ _ _)) <|
  RT_c (RE_p (r2_load _ _ _)) <|
  RT_c (RE_p (r2_load _ _ _)) <|
  RT_c (RE_q) <|
  RT_c (RE_p (r2_store _ _ _)) <|
  RT_c (RE_p (r2_load _ _ _)) <|
  RT_c (RE_p (r2_if _ _ _)) <|
  RT_c (RE_p (r2_st _ _)) <|
  RT_c (RE_q) <|
  RT_c (RE_p (r2_load _ _ _)) <|
  RT_c (RE_p (r2_if _ _ _)) <|
  RT_c (RE_p (r2_load _ _ _)) <|
  RT_c (RE_p (r2_load _ _ _)) <|
  RT_c (RE_p (r2_st _ _)) <|
  RT_c (RE_p (r2_st _ _)) <|
  RT_c (RE_p (r2_st _ _)) <|
  RT_c (RE_p (r2_load _ _ _)) <|
  RT_c (RE_p (r2_load _ _ _)) <|
  RT_c (RE_p (r2_st _ _)) <|
  RT_c (RE_p (r2_st _ _)) <|
  RT_c (RE_q) <|
  RT_n
set_option maxRecDepth 20000 in
theorem rtX4_sheet : RT tbX4_sheet ubX4_sheet :=
  RT_c (RE_p (r2_load _ _ _)) <|
  RT_c (RE_p (r2_st _ _)) <|
  RT_c (RE_p (r2_putf _ _ _ _)) <|
  RT_c (RE_p (r2_load _ _ _)) <|
  RT_c (RE_p (r2_load _ _ _)) <|
  RT_c (RE_q) <|
  RT_c (RE_p (r2_store _ _ _)) <|
  RT_c (RE_p (r2_load _ _ _)) <|
  RT_c (RE_p (r2_null _ _)) <|
  RT_c (RE_p (r2_st _ _)) <|
  RT_c (RE_q) <|
  RT_c (RE_p (r2_load _ _ _)) <|
  RT_c (RE_q) <|
  RT_c (RE_p (r2_if _ _ _)) <|
  RT_c (RE_p (r2_load _ _ _)) <|
  RT_c (RE_p (r2_st _ _)) <|
  RT_c (RE_p (r2_icmp _ _ _)) <|
  RT_c (RE_p (r2_st _ _)) <|
  RT_c (RE_q) <|
  RT_c (RE_p (r2_load _ _ _)) <|
  RT_c (RE_p (r2_if _ _ _)) <|
  RT_c (RE_p (r2_load _ _ _)) <|
  RT_c (RE_p (r2_st _ _)) <|
  RT_c (RE_q) <|
  RT_c (RE_q) <|
  RT_c (RE_p (r2_load _ _ _)) <|
  RT_c (RE_p (r2_load _ _ _)) <|
  RT_c (RE_p (r2_load _ _ _)) <|
  RT_c (RE_q) <|
  RT_c (RE_p (r2_st _ _)) <|
  RT_c (RE_q) <|
  RT_n
set_option maxRecDepth 20000 in
theorem rtX4_lose : RT tbX4_lose ubX4_lose :=
  RT_c (RE_p (r2_load _ _ _)) <|
  RT_c (RE_p (r2_load _ _ _)) <|
  RT_c (RE_q) <|
  RT_c (RE_p (r2_store _ _ _)) <|
  RT_c (RE_p (r2_load _ _ _)) <|
  RT_c (RE_p (r2_null _ _)) <|
  RT_c (RE_p (r2_st _ _)) <|
  RT_c (RE_q) <|
  RT_c (RE_p (r2_load _ _ _)) <|
  RT_c (RE_q) <|
  RT_c (RE_p (r2_if _ _ _)) <|
  RT_c (RE_p (r2_st _ _)) <|
  RT_c (RE_q) <|
  RT_c (RE_p (r2_load _ _ _)) <|
  RT_c (RE_q) <|
  RT_c (RE_p (r2_st _ _)) <|
  RT_c (RE_q) <|
  RT_n
set_option maxRecDepth 20000 in
theorem rtX4_put : RT tbX4_put ubX4_put :=
  RT_c (RE_p (r2_load _ _ _)) <|
  RT_c (RE_p (r2_st _ _)) <|
  RT_c (RE_p (r2_putf _ _ _ _)) <|
  RT_c (RE_p (r2_load _ _ _)) <|
  RT_c (RE_p (r2_load _ _ _)) <|
  RT_c (RE_q) <|
  RT_c (RE_p (r2_store _ _ _)) <|
  RT_c (RE_p (r2_load _ _ _)) <|
  RT_c (RE_p (r2_null _ _)) <|
  RT_c (RE_p (r2_st _ _)) <|
  RT_c (RE_q) <|
  RT_c (RE_p (r2_load _ _ _)) <|
  RT_c (RE_q) <|
  RT_c (RE_p (r2_if _ _ _)) <|
  RT_c (RE_p (r2_load _ _ _)) <|
  RT_c (RE_p (r2_st _ _)) <|
  RT_c (RE_q) <|
  RT_c (RE_q) <|
  RT_c (RE_p (r2_load _ _ _)) <|
  RT_c (RE_p (r2_load _ _ _)) <|
  RT_c (RE_p (r2_st _ _)) <|
  RT_c (RE_q) <|
  RT_c (RE_p (r2_if _ _ _)) <|
  RT_c (RE_p (r2_load _ _ _)) <|
  RT_c (RE_p (r2_st _ _)) <|
  RT_c (RE_q) <|
  RT_c (RE_q) <|
  RT_c (RE_p (r2_load _ _ _)) <|
  RT_c (RE_p (r2_load _ _ _)) <|
  RT_c (RE_p (r2_load _ _ _)) <|
  RT_c (RE_q) <|
  RT_c (RE_p (r2_st _ _)) <|
  RT_c (RE_q) <|
  RT_n
set_option maxRecDepth 20000 in
theorem rtX4_cell : RT tbX4_cell ubX4_cell :=
  RT_c (RE_p (r2_load _ _ _)) <|
  RT_c (RE_p (r2_st _ _)) <|
  RT_c (RE_p (r2_putf _ _ _ _)) <|
  RT_c (RE_p (r2_load _ _ _)) <|
  RT_c (RE_p (r2_load _ _ _)) <|
  RT_c (RE_q) <|
  RT_c (RE_p (r2_store _ _ _)) <|
  RT_c (RE_p (r2_load _ _ _)) <|
  RT_c (RE_p (r2_null _ _)) <|
  RT_c (RE_p (r2_load _ _ _)) <|
  RT_c (RE_q) <|
  RT_c (RE_p (r2_if _ _ _)) <|
  RT_c (RE_p (r2_st _ _)) <|
  RT_c (RE_q) <|
  RT_c (RE_p (r2_load _ _ _)) <|
  RT_c (RE_p (r2_load _ _ _)) <|
  RT_c (RE_p (r2_load _ _ _)) <|
  RT_c (RE_p (r2_load _ _ _)) <|
  RT_c (RE_p (r2_st _ _)) <|
  RT_c (RE_q) <|
  RT_c (RE_p (r2_putf _ _ _ _)) <|
  RT_c (RE_p (r2_load _ _ _)) <|
  RT_c (RE_p (r2_getf _ _ _)) <|
  RT_c (RE_p (r2_if _ _ _)) <|
  RT_c (RE_p (r2_load _ _ _)) <|
  RT_c (RE_p (r2_load _ _ _)) <|
  RT_c (RE_q) <|
  RT_c (RE_p (r2_st _ _)) <|
  RT_c (RE_p (r2_st _ _)) <|
  RT_c (RE_p (r2_st _ _)) <|
  RT_c (RE_q) <|
  RT_n
set_option maxRecDepth 20000 in
theorem rtX4_copy : RT tbX4_copy ubX4_copy :=
  RT_c (RE_p (r2_load _ _ _)) <|
  RT_c (RE_p (r2_st _ _)) <|
  RT_c (RE_p (r2_putf _ _ _ _)) <|
  RT_c (RE_p (r2_load _ _ _)) <|
  RT_c (RE_p (r2_load _ _ _)) <|
  RT_c (RE_q) <|
  RT_c (RE_p (r2_store _ _ _)) <|
  RT_c (RE_p (r2_load _ _ _)) <|
  RT_c (RE_p (r2_load _ _ _)) <|
  RT_c (RE_q) <|
  RT_c (RE_p (r2_store _ _ _)) <|
  RT_c (RE_p (r2_load _ _ _)) <|
  RT_c (RE_p (r2_null _ _)) <|
  RT_c (RE_p (r2_load _ _ _)) <|
  RT_c (RE_p (r2_null _ _)) <|
  RT_c (RE_p (r2_st _ _)) <|
  RT_c (RE_q) <|
  RT_c (RE_p (r2_load _ _ _)) <|
  RT_c (RE_q) <|
  RT_c (RE_p (r2_if _ _ _)) <|
  RT_c (RE_p (r2_load _ _ _)) <|
  RT_c (RE_q) <|
  RT_c (RE_p (r2_if _ _ _)) <|
  RT_c (RE_p (r2_load _ _ _)) <|
  RT_c (RE_p (r2_st _ _)) <|
  RT_c (RE_q) <|
  RT_c (RE_q) <|
  RT_c (RE_p (r2_load _ _ _)) <|
  RT_c (RE_q) <|
  RT_c (RE_p (r2_load _ _ _)) <|
  RT_c (RE_q) <|
  RT_c (RE_p (r2_icmp _ _ _)) <|
  RT_c (RE_p (r2_load _ _ _)) <|
  RT_c (RE_p (r2_st _ _)) <|
  RT_c (RE_q) <|
  RT_c (RE_q) <|
  RT_c (RE_p (r2_load _ _ _)) <|
  RT_c (RE_p (r2_load _ _ _)) <|
  RT_c (RE_p (r2_load _ _ _)) <|
  RT_c (RE_q) <|
  RT_c (RE_p (r2_if _ _ _)) <|
  RT_c (RE_p (r2_load _ _ _)) <|
  RT_c (RE_p (r2_load _ _ _)) <|
  RT_c (RE_p (r2_load _ _ _)) <|
  RT_c (RE_q) <|
  RT_c (RE_p (r2_if _ _ _)) <|
  RT_c (RE_p (r2_load _ _ _)) <|
  RT_c (RE_p (r2_st _ _)) <|
  RT_c (RE_q) <|
  RT_c (RE_q) <|
  RT_c (RE_p (r2_load _ _ _)) <|
  RT_c (RE_p (r2_getf _ _ _)) <|
  RT_c (RE_p (r2_load _ _ _)) <|
  RT_c (RE_p (r2_load _ _ _)) <|
  RT_c (RE_p (r2_load _ _ _)) <|
  RT_c (RE_q) <|
  RT_c (RE_p (r2_st _ _)) <|
  RT_c (RE_p (r2_store _ _ _)) <|
  RT_c (RE_p (r2_clr _ (r2_load _ _ _))) <|
  RT_c (RE_p (r2_load _ _ _)) <|
  RT_c (RE_p (r2_icmp _ _ _)) <|
  RT_c (RE_p (r2_load _ _ _)) <|
  RT_c (RE_p (r2_load _ _ _)) <|
  RT_c (RE_p (r2_load _ _ _)) <|
  RT_c (RE_p (r2_st _ _)) <|
  RT_c (RE_p (r2_load _ _ _)) <|
  RT_c (RE_p (r2_getf _ _ _)) <|
  RT_c (RE_p (r2_load _ _ _)) <|
  RT_c (RE_q) <|
  RT_c (RE_q) <|
  RT_c (RE_p (r2_iinc _ _ _)) <|
  RT_c (RE_p (r2_st _ _)) <|
  RT_c (RE_p (r2_load _ _ _)) <|
  RT_c (RE_q) <|
  RT_n
set_option maxRecDepth 20000 in
theorem rtX4_tell : RT tbX4_tell ubX4_tell :=
  RT_c (RE_p (r2_load _ _ _)) <|
  RT_c (RE_p (r2_getf _ _ _)) <|
  RT_c (RE_p (r2_load _ _ _)) <|
  RT_c (RE_q) <|
  RT_c (RE_p (r2_if _ _ _)) <|
  RT_c (RE_p (r2_st _ _)) <|
  RT_c (RE_q) <|
  RT_c (RE_p (r2_load _ _ _)) <|
  RT_c (RE_p (r2_getf _ _ _)) <|
  RT_c (RE_p (r2_load _ _ _)) <|
  RT_c (RE_q) <|
  RT_c (RE_p (r2_sw _ _)) <|
  RT_c (RE_p (r2_load _ _ _)) <|
  RT_c (RE_p (r2_load _ _ _)) <|
  RT_c (RE_q) <|
  RT_c (RE_q) <|
  RT_c (RE_p (r2_load _ _ _)) <|
  RT_c (RE_p (r2_load _ _ _)) <|
  RT_c (RE_q) <|
  RT_c (RE_q) <|
  RT_c (RE_p (r2_load _ _ _)) <|
  RT_c (RE_p (r2_load _ _ _)) <|
  RT_c (RE_q) <|
  RT_c (RE_q) <|
  RT_n
set_option maxRecDepth 20000 in
theorem rtX4_greet : RT tbX4_greet ubX4_greet :=
  RT_c (RE_p (r2_load _ _ _)) <|
  RT_c (RE_p (r2_getf _ _ _)) <|
  RT_c (RE_p (r2_load _ _ _)) <|
  RT_c (RE_q) <|
  RT_c (RE_p (r2_if _ _ _)) <|
  RT_c (RE_p (r2_st _ _)) <|
  RT_c (RE_q) <|
  RT_c (RE_p (r2_load _ _ _)) <|
  RT_c (RE_p (r2_getf _ _ _)) <|
  RT_c (RE_p (r2_load _ _ _)) <|
  RT_c (RE_q) <|
  RT_c (RE_p (r2_st _ _)) <|
  RT_c (RE_p (r2_icmp _ _ _)) <|
  RT_c (RE_p (r2_load _ _ _)) <|
  RT_c (RE_q) <|
  RT_c (RE_p (r2_st _ _)) <|
  RT_c (RE_p (r2_load _ _ _)) <|
  RT_c (RE_p (r2_load _ _ _)) <|
  RT_c (RE_q) <|
  RT_c (RE_q) <|
  RT_n
set_option maxRecDepth 20000 in
theorem rtX4_as : RT tbX4_as ubX4_as :=
  RT_c (RE_p (r2_load _ _ _)) <|
  RT_c (RE_p (r2_st _ _)) <|
  RT_c (RE_p (r2_putf _ _ _ _)) <|
  RT_c (RE_p (r2_load _ _ _)) <|
  RT_c (RE_p (r2_getf _ _ _)) <|
  RT_c (RE_p (r2_load _ _ _)) <|
  RT_c (RE_q) <|
  RT_c (RE_p (r2_if _ _ _)) <|
  RT_c (RE_p (r2_st _ _)) <|
  RT_c (RE_q) <|
  RT_c (RE_p (r2_load _ _ _)) <|
  RT_c (RE_p (r2_st _ _)) <|
  RT_c (RE_p (r2_st _ _)) <|
  RT_c (RE_q) <|
  RT_c (RE_p (r2_if _ _ _)) <|
  RT_c (RE_p (r2_st _ _)) <|
  RT_c (RE_q) <|
  RT_c (RE_p (r2_load _ _ _)) <|
  RT_c (RE_p (r2_getf _ _ _)) <|
  RT_c (RE_p (r2_load _ _ _)) <|
  RT_c (RE_q) <|
  RT_c (RE_p (r2_load _ _ _)) <|
  RT_c (RE_p (r2_icmp _ _ _)) <|
  RT_c (RE_p (r2_st _ _)) <|
  RT_c (RE_p (r2_st _ _)) <|
  RT_c (RE_p (r2_load _ _ _)) <|
  RT_c (RE_p (r2_st _ _)) <|
  RT_c (RE_q) <|
  RT_c (RE_q) <|
  RT_n
set_option maxRecDepth 20000 in
theorem rtX4_trace : RT tbX4_trace ubX4_trace :=
  RT_c (RE_p (r2_load _ _ _)) <|
  RT_c (RE_p (r2_getf _ _ _)) <|
  RT_c (RE_q) <|
  RT_n
set_option maxRecDepth 20000 in
theorem rtX4_fault : RT tbX4_fault ubX4_fault :=
  RT_c (RE_p (r2_load _ _ _)) <|
  RT_c (RE_p (r2_getf _ _ _)) <|
  RT_c (RE_q) <|
  RT_n
set_option maxRecDepth 20000 in
theorem rtX4_many : RT tbX4_many ubX4_many :=
  RT_c (RE_p (r2_load _ _ _)) <|
  RT_c (RE_p (r2_sw _ _)) <|
  RT_c (RE_p (r2_load _ _ _)) <|
  RT_c (RE_p (r2_getf _ _ _)) <|
  RT_c (RE_q) <|
  RT_c (RE_q) <|
  RT_c (RE_p (r2_load _ _ _)) <|
  RT_c (RE_p (r2_getf _ _ _)) <|
  RT_c (RE_q) <|
  RT_c (RE_q) <|
  RT_c (RE_p (r2_load _ _ _)) <|
  RT_c (RE_p (r2_getf _ _ _)) <|
  RT_c (RE_q) <|
  RT_c (RE_q) <|
  RT_c (RE_p (r2_load _ _ _)) <|
  RT_c (RE_p (r2_getf _ _ _)) <|
  RT_c (RE_q) <|
  RT_c (RE_q) <|
  RT_c (RE_p (r2_load _ _ _)) <|
  RT_c (RE_p (r2_getf _ _ _)) <|
  RT_c (RE_q) <|
  RT_c (RE_q) <|
  RT_c (RE_p (r2_load _ _ _)) <|
  RT_c (RE_p (r2_getf _ _ _)) <|
  RT_c (RE_q) <|
  RT_c (RE_q) <|
  RT_c (RE_q) <|
  RT_c (RE_p (r2_load _ _ _)) <|
  RT_c (RE_p (r2_getf _ _ _)) <|
  RT_c (RE_q) <|
  RT_c (RE_q) <|
  RT_c (RE_p (r2_st _ _)) <|
  RT_c (RE_q) <|
  RT_n
set_option maxRecDepth 20000 in
theorem rtX4_sheetOf : RT tbX4_sheetOf ubX4_sheetOf :=
  RT_c (RE_p (r2_load _ _ _)) <|
  RT_c (RE_p (r2_if _ _ _)) <|
  RT_c (RE_p (r2_load _ _ _)) <|
  RT_c (RE_p (r2_load _ _ _)) <|
  RT_c (RE_p (r2_getf _ _ _)) <|
  RT_c (RE_p (r2_alen _)) <|
  RT_c (RE_p (r2_icmp _ _ _)) <|
  RT_c (RE_p (r2_load _ _ _)) <|
  RT_c (RE_p (r2_getf _ _ _)) <|
  RT_c (RE_p (r2_load _ _ _)) <|
  RT_c (RE_p (r2_aald _)) <|
  RT_c (RE_p (r2_st _ _)) <|
  RT_c (RE_p (r2_st _ _)) <|
  RT_c (RE_q) <|
  RT_n
set_option maxRecDepth 20000 in
theorem rtX4_faulted : RT tbX4_faulted ubX4_faulted :=
  RT_c (RE_p (r2_load _ _ _)) <|
  RT_c (RE_p (r2_load _ _ _)) <|
  RT_c (RE_p (r2_putf _ _ _ _)) <|
  RT_c (RE_p (r2_st _ _)) <|
  RT_c (RE_p (r2_load _ _ _)) <|
  RT_c (RE_p (r2_st _ _)) <|
  RT_c (RE_q) <|
  RT_n
set_option maxRecDepth 20000 in
theorem rtX4_take : RT tbX4_take ubX4_take :=
  RT_c (RE_p (r2_load _ _ _)) <|
  RT_c (RE_p (r2_load _ _ _)) <|
  RT_c (RE_p (r2_load _ _ _)) <|
  RT_c (RE_p (r2_load _ _ _)) <|
  RT_c (RE_q) <|
  RT_c (RE_p (r2_store _ _ _)) <|
  RT_c (RE_p (r2_load _ _ _)) <|
  RT_c (RE_p (r2_if _ _ _)) <|
  RT_c (RE_p (r2_load _ _ _)) <|
  RT_c (RE_p (r2_getf _ _ _)) <|
  RT_c (RE_p (r2_load _ _ _)) <|
  RT_c (RE_p (r2_load _ _ _)) <|
  RT_c (RE_p (r2_load _ _ _)) <|
  RT_c (RE_q) <|
  RT_c (RE_p (r2_load _ _ _)) <|
  RT_c (RE_q) <|
  RT_n
set_option maxRecDepth 20000 in
theorem rtX4_readInto : RT tbX4_readInto ubX4_readInto :=
  RT_c (RE_p (r2_st _ _)) <|
  RT_c (RE_p (r2_store _ _ _)) <|
  RT_c (RE_p (r2_load _ _ _)) <|
  RT_c (RE_p (r2_load _ _ _)) <|
  RT_c (RE_p (r2_icmp _ _ _)) <|
  RT_c (RE_p (r2_load _ _ _)) <|
  RT_c (RE_p (r2_load _ _ _)) <|
  RT_c (RE_p (r2_load _ _ _)) <|
  RT_c (RE_p (r2_load _ _ _)) <|
  RT_c (RE_p (r2_load _ _ _)) <|
  RT_c (RE_p (r2_st _ _)) <|
  RT_c (RE_q) <|
  RT_c (RE_q) <|
  RT_c (RE_p (r2_iinc _ _ _)) <|
  RT_c (RE_p (r2_st _ _)) <|
  RT_c (RE_q) <|
  RT_n
set_option maxRecDepth 20000 in
theorem rtX4_leastLengthToldAgain : RT tbX4_leastLengthToldAgain ubX4_leastLengthToldAgain :=
  RT_c (RE_p (r2_st _ _)) <|
  RT_c (RE_p (r2_store _ _ _)) <|
  RT_c (RE_p (r2_load _ _ _)) <|
  RT_c (RE_p (r2_load _ _ _)) <|
  RT_c (RE_p (r2_icmp _ _ _)) <|
  RT_c (RE_p (r2_load _ _ _)) <|
  RT_c (RE_p (r2_load _ _ _)) <|
  RT_c (RE_p (r2_load _ _ _)) <|
  RT_c (RE_q) <|
  RT_c (RE_p (r2_if _ _ _)) <|
  RT_c (RE_p (r2_load _ _ _)) <|
  RT_c (RE_q) <|
  RT_c (RE_p (r2_iinc _ _ _)) <|
  RT_c (RE_p (r2_st _ _)) <|
  RT_c (RE_p (r2_load _ _ _)) <|
  RT_c (RE_q) <|
  RT_n
set_option maxRecDepth 20000 in
theorem rtX4_isToldAgain : RT tbX4_isToldAgain ubX4_isToldAgain :=
  RT_c (RE_p (r2_load _ _ _)) <|
  RT_c (RE_p (r2_store _ _ _)) <|
  RT_c (RE_p (r2_load _ _ _)) <|
  RT_c (RE_p (r2_load _ _ _)) <|
  RT_c (RE_p (r2_icmp _ _ _)) <|
  RT_c (RE_p (r2_load _ _ _)) <|
  RT_c (RE_p (r2_getf _ _ _)) <|
  RT_c (RE_p (r2_load _ _ _)) <|
  RT_c (RE_q) <|
  RT_c (RE_p (r2_load _ _ _)) <|
  RT_c (RE_p (r2_getf _ _ _)) <|
  RT_c (RE_p (r2_load _ _ _)) <|
  RT_c (RE_p (r2_load _ _ _)) <|
  RT_c (RE_p (r2_st _ _)) <|
  RT_c (RE_q) <|
  RT_c (RE_p (r2_icmp _ _ _)) <|
  RT_c (RE_p (r2_st _ _)) <|
  RT_c (RE_q) <|
  RT_c (RE_p (r2_iinc _ _ _)) <|
  RT_c (RE_p (r2_st _ _)) <|
  RT_c (RE_p (r2_st _ _)) <|
  RT_c (RE_q) <|
  RT_n
set_option maxRecDepth 20000 in
theorem rtX4_leaveInTrace : RT tbX4_leaveInTrace ubX4_leaveInTrace :=
  RT_c (RE_p (r2_load _ _ _)) <|
  RT_c (RE_p (r2_st _ _)) <|
  RT_c (RE_p (r2_load _ _ _)) <|
  RT_c (RE_p (r2_getf _ _ _)) <|
  RT_c (RE_p (r2_st _ _)) <|
  RT_c (RE_p (r2_load _ _ _)) <|
  RT_c (RE_p (r2_st _ _)) <|
  RT_c (RE_p (r2_putf _ _ _ _)) <|
  RT_c (RE_q) <|
  RT_n
set_option maxRecDepth 20000 in
theorem rtX4_plainBody : RT tbX4_plainBody ubX4_plainBody :=
  RT_c (RE_p (r2_load _ _ _)) <|
  RT_c (RE_p (r2_st _ _)) <|
  RT_c (RE_q) <|
  RT_c (RE_p (r2_load _ _ _)) <|
  RT_c (RE_p (r2_getf _ _ _)) <|
  RT_c (RE_p (r2_load _ _ _)) <|
  RT_c (RE_q) <|
  RT_c (RE_q) <|
  RT_n
set_option maxRecDepth 20000 in
theorem rtX4_deepBody : RT tbX4_deepBody ubX4_deepBody :=
  RT_c (RE_p (r2_load _ _ _)) <|
  RT_c (RE_p (r2_st _ _)) <|
  RT_c (RE_q) <|
  RT_c (RE_p (r2_load _ _ _)) <|
  RT_c (RE_p (r2_load _ _ _)) <|
  RT_c (RE_q) <|
  RT_c (RE_p (r2_st _ _)) <|
  RT_c (RE_p (r2_st _ _)) <|
  RT_c (RE_q) <|
  RT_n
set_option maxRecDepth 20000 in
theorem rtX4_grandBody : RT tbX4_grandBody ubX4_grandBody :=
  RT_c (RE_p (r2_load _ _ _)) <|
  RT_c (RE_p (r2_st _ _)) <|
  RT_c (RE_q) <|
  RT_c (RE_p (r2_load _ _ _)) <|
  RT_c (RE_p (r2_load _ _ _)) <|
  RT_c (RE_q) <|
  RT_c (RE_p (r2_store _ _ _)) <|
  RT_c (RE_p (r2_load _ _ _)) <|
  RT_c (RE_p (r2_load _ _ _)) <|
  RT_c (RE_p (r2_load _ _ _)) <|
  RT_c (RE_q) <|
  RT_c (RE_p (r2_st _ _)) <|
  RT_c (RE_q) <|
  RT_n
set_option maxRecDepth 20000 in
theorem rtX4_lentGreetingBody : RT tbX4_lentGreetingBody ubX4_lentGreetingBody :=
  RT_c (RE_p (r2_load _ _ _)) <|
  RT_c (RE_p (r2_st _ _)) <|
  RT_c (RE_q) <|
  RT_c (RE_p (r2_load _ _ _)) <|
  RT_c (RE_q) <|
  RT_n
set_option maxRecDepth 20000 in
theorem rtX4_ownGreetingBody : RT tbX4_ownGreetingBody ubX4_ownGreetingBody :=
  RT_c (RE_p (r2_load _ _ _)) <|
  RT_c (RE_p (r2_st _ _)) <|
  RT_c (RE_q) <|
  RT_c (RE_p (r2_st _ _)) <|
  RT_c (RE_q) <|
  RT_n
set_option maxRecDepth 20000 in
theorem rtX4_within : RT tbX4_within ubX4_within :=
  RT_c (RE_p (r2_load _ _ _)) <|
  RT_c (RE_p (r2_load _ _ _)) <|
  RT_c (RE_p (r2_icmp _ _ _)) <|
  RT_c (RE_p (r2_load _ _ _)) <|
  RT_c (RE_p (r2_load _ _ _)) <|
  RT_c (RE_p (r2_icmp _ _ _)) <|
  RT_c (RE_p (r2_st _ _)) <|
  RT_c (RE_p (r2_st _ _)) <|
  RT_c (RE_p (r2_st _ _)) <|
  RT_c (RE_q) <|
  RT_n
set_option maxRecDepth 20000 in
theorem rtX4_isLane : RT tbX4_isLane ubX4_isLane :=
  RT_c (RE_p (r2_load _ _ _)) <|
  RT_c (RE_p (r2_st _ _)) <|
  RT_c (RE_p (r2_st _ _)) <|
  RT_c (RE_q) <|
  RT_c (RE_q) <|
  RT_n
set_option maxRecDepth 20000 in
theorem rtX4_isStep : RT tbX4_isStep ubX4_isStep :=
  RT_c (RE_p (r2_load _ _ _)) <|
  RT_c (RE_p (r2_st _ _)) <|
  RT_c (RE_p (r2_st _ _)) <|
  RT_c (RE_q) <|
  RT_c (RE_q) <|
  RT_n
set_option maxRecDepth 20000 in
theorem rtX4_isDigit : RT tbX4_isDigit ubX4_isDigit :=
  RT_c (RE_p (r2_load _ _ _)) <|
  RT_c (RE_p (r2_st _ _)) <|
  RT_c (RE_p (r2_st _ _)) <|
  RT_c (RE_q) <|
  RT_c (RE_q) <|
  RT_n
set_option maxRecDepth 20000 in
theorem rtX4_greatestDivisor : RT tbX4_greatestDivisor ubX4_greatestDivisor :=
  RT_c (RE_p (r2_load _ _ _)) <|
  RT_c (RE_p (r2_store _ _ _)) <|
  RT_c (RE_p (r2_load _ _ _)) <|
  RT_c (RE_p (r2_if _ _ _)) <|
  RT_c (RE_p (r2_load _ _ _)) <|
  RT_c (RE_p (r2_load _ _ _)) <|
  RT_c (RE_p (r2_st _ _)) <|
  RT_c (RE_p (r2_if _ _ _)) <|
  RT_c (RE_p (r2_load _ _ _)) <|
  RT_c (RE_p (r2_load _ _ _)) <|
  RT_c (RE_p (r2_st _ _)) <|
  RT_c (RE_p (r2_if _ _ _)) <|
  RT_c (RE_p (r2_load _ _ _)) <|
  RT_c (RE_q) <|
  RT_c (RE_p (r2_iinc _ _ _)) <|
  RT_c (RE_p (r2_st _ _)) <|
  RT_c (RE_p (r2_st _ _)) <|
  RT_c (RE_q) <|
  RT_n
set_option maxRecDepth 20000 in
theorem rtX4_numberAt : RT tbX4_numberAt ubX4_numberAt :=
  RT_c (RE_p (r2_load _ _ _)) <|
  RT_c (RE_p (r2_if _ _ _)) <|
  RT_c (RE_p (r2_load _ _ _)) <|
  RT_c (RE_p (r2_load _ _ _)) <|
  RT_c (RE_p (r2_alen _)) <|
  RT_c (RE_p (r2_icmp _ _ _)) <|
  RT_c (RE_p (r2_load _ _ _)) <|
  RT_c (RE_p (r2_load _ _ _)) <|
  RT_c (RE_p (r2_iald _)) <|
  RT_c (RE_p (r2_st _ _)) <|
  RT_c (RE_p (r2_st _ _)) <|
  RT_c (RE_q) <|
  RT_n
set_option maxRecDepth 20000 in
theorem rtX4_setNumber : RT tbX4_setNumber ubX4_setNumber :=
  RT_c (RE_p (r2_load _ _ _)) <|
  RT_c (RE_p (r2_if _ _ _)) <|
  RT_c (RE_p (r2_load _ _ _)) <|
  RT_c (RE_p (r2_load _ _ _)) <|
  RT_c (RE_p (r2_alen _)) <|
  RT_c (RE_p (r2_icmp _ _ _)) <|
  RT_c (RE_p (r2_load _ _ _)) <|
  RT_c (RE_p (r2_load _ _ _)) <|
  RT_c (RE_p (r2_load _ _ _)) <|
  RT_c (RE_p (r2_iast _)) <|
  RT_c (RE_q) <|
  RT_n
set_option maxRecDepth 20000 in
theorem rtX5_in : RT tbX5_in ubX5_in :=
  RT_c (RE_p (r2_load _ _ _)) <|
  RT_c (RE_p (r2_load _ _ _)) <|
  RT_c (RE_p (r2_st _ _)) <|
  RT_c (RE_p (r2_if _ _ _)) <|
  RT_c (RE_p (r2_load _ _ _)) <|
  RT_c (RE_p (r2_load _ _ _)) <|
  RT_c (RE_p (r2_st _ _)) <|
  RT_c (RE_p (r2_if _ _ _)) <|
  RT_c (RE_p (r2_st _ _)) <|
  RT_c (RE_p (r2_st _ _)) <|
  RT_c (RE_p (r2_st _ _)) <|
  RT_c (RE_q) <|
  RT_n
set_option maxRecDepth 20000 in
theorem rtX5_lost : RT tbX5_lost ubX5_lost :=
  RT_c (RE_p (r2_st _ _)) <|
  RT_c (RE_q) <|
  RT_n
set_option maxRecDepth 20000 in
theorem rtX5_isIn : RT tbX5_isIn ubX5_isIn :=
  RT_c (RE_p (r2_load _ _ _)) <|
  RT_c (RE_p (r2_load _ _ _)) <|
  RT_c (RE_p (r2_st _ _)) <|
  RT_c (RE_p (r2_st _ _)) <|
  RT_c (RE_p (r2_st _ _)) <|
  RT_c (RE_p (r2_st _ _)) <|
  RT_c (RE_p (r2_icmp _ _ _)) <|
  RT_c (RE_p (r2_st _ _)) <|
  RT_c (RE_p (r2_st _ _)) <|
  RT_c (RE_p (r2_st _ _)) <|
  RT_c (RE_q) <|
  RT_n
set_option maxRecDepth 20000 in
theorem rtX5_bits : RT tbX5_bits ubX5_bits :=
  RT_c (RE_p (r2_st _ _)) <|
  RT_c (RE_p (r2_store _ _ _)) <|
  RT_c (RE_p (r2_load _ _ _)) <|
  RT_c (RE_p (r2_store _ _ _)) <|
  RT_c (RE_p (r2_clr _ (r2_load _ _ _))) <|
  RT_c (RE_p (r2_st _ _)) <|
  RT_c (RE_p (r2_st _ _)) <|
  RT_c (RE_p (r2_if _ _ _)) <|
  RT_c (RE_p (r2_load _ _ _)) <|
  RT_c (RE_p (r2_load _ _ _)) <|
  RT_c (RE_p (r2_st _ _)) <|
  RT_c (RE_p (r2_st _ _)) <|
  RT_c (RE_p (r2_st _ _)) <|
  RT_c (RE_p (r2_st _ _)) <|
  RT_c (RE_p (r2_if _ _ _)) <|
  RT_c (RE_p (r2_st _ _)) <|
  RT_c (RE_p (r2_st _ _)) <|
  RT_c (RE_p (r2_st _ _)) <|
  RT_c (RE_p (r2_st _ _)) <|
  RT_c (RE_p (r2_store _ _ _)) <|
  RT_c (RE_p (r2_load _ _ _)) <|
  RT_c (RE_p (r2_st _ _)) <|
  RT_c (RE_p (r2_st _ _)) <|
  RT_c (RE_p (r2_store _ _ _)) <|
  RT_c (RE_p (r2_st _ _)) <|
  RT_c (RE_p (r2_load _ _ _)) <|
  RT_c (RE_q) <|
  RT_n
set_option maxRecDepth 20000 in
theorem rtX5_share : RT tbX5_share ubX5_share :=
  RT_c (RE_p (r2_load _ _ _)) <|
  RT_c (RE_p (r2_store _ _ _)) <|
  RT_c (RE_p (r2_load _ _ _)) <|
  RT_c (RE_p (r2_store _ _ _)) <|
  RT_c (RE_p (r2_clr _ (r2_load _ _ _))) <|
  RT_c (RE_p (r2_st _ _)) <|
  RT_c (RE_p (r2_st _ _)) <|
  RT_c (RE_p (r2_if _ _ _)) <|
  RT_c (RE_p (r2_load _ _ _)) <|
  RT_c (RE_p (r2_load _ _ _)) <|
  RT_c (RE_p (r2_st _ _)) <|
  RT_c (RE_p (r2_store _ _ _)) <|
  RT_c (RE_p (r2_load _ _ _)) <|
  RT_c (RE_p (r2_store _ _ _)) <|
  RT_c (RE_p (r2_load _ _ _)) <|
  RT_c (RE_p (r2_store _ _ _)) <|
  RT_c (RE_p (r2_st _ _)) <|
  RT_c (RE_p (r2_load _ _ _)) <|
  RT_c (RE_p (r2_if _ _ _)) <|
  RT_c (RE_p (r2_load _ _ _)) <|
  RT_c (RE_p (r2_st _ _)) <|
  RT_c (RE_p (r2_load _ _ _)) <|
  RT_c (RE_p (r2_load _ _ _)) <|
  RT_c (RE_p (r2_st _ _)) <|
  RT_c (RE_q) <|
  RT_n
set_option maxRecDepth 20000 in
theorem rtX5_refused : RT tbX5_refused ubX5_refused :=
  RT_c (RE_p (r2_load _ _ _)) <|
  RT_c (RE_p (r2_st _ _)) <|
  RT_c (RE_p (r2_putf _ _ _ _)) <|
  RT_c (RE_p (r2_load _ _ _)) <|
  RT_c (RE_q) <|
  RT_n
set_option maxRecDepth 20000 in
theorem rtX5_failed : RT tbX5_failed ubX5_failed :=
  RT_c (RE_p (r2_load _ _ _)) <|
  RT_c (RE_p (r2_load _ _ _)) <|
  RT_c (RE_p (r2_putf _ _ _ _)) <|
  RT_c (RE_p (r2_st _ _)) <|
  RT_c (RE_p (r2_load _ _ _)) <|
  RT_c (RE_p (r2_st _ _)) <|
  RT_c (RE_q) <|
  RT_n
set_option maxRecDepth 20000 in
theorem rtX5_failedLong : RT tbX5_failedLong ubX5_failedLong :=
  RT_c (RE_p (r2_load _ _ _)) <|
  RT_c (RE_p (r2_load _ _ _)) <|
  RT_c (RE_p (r2_putf _ _ _ _)) <|
  RT_c (RE_q) <|
  RT_c (RE_q) <|
  RT_n
set_option maxRecDepth 20000 in
theorem rtX5_noLooker : RT tbX5_noLooker ubX5_noLooker :=
  RT_c (RE_p (r2_load _ _ _)) <|
  RT_c (RE_p (r2_st _ _)) <|
  RT_c (RE_p (r2_st _ _)) <|
  RT_c (RE_p (r2_load _ _ _)) <|
  RT_c (RE_p (r2_getf _ _ _)) <|
  RT_c (RE_p (r2_st _ _)) <|
  RT_c (RE_p (r2_st _ _)) <|
  RT_c (RE_p (r2_st _ _)) <|
  RT_c (RE_q) <|
  RT_c (RE_p (r2_if _ _ _)) <|
  RT_c (RE_p (r2_st _ _)) <|
  RT_c (RE_p (r2_st _ _)) <|
  RT_c (RE_p (r2_st _ _)) <|
  RT_c (RE_q) <|
  RT_n
set_option maxRecDepth 20000 in
theorem rtX5_noPlace : RT tbX5_noPlace ubX5_noPlace :=
  RT_c (RE_p (r2_load _ _ _)) <|
  RT_c (RE_p (r2_st _ _)) <|
  RT_c (RE_p (r2_st _ _)) <|
  RT_c (RE_p (r2_load _ _ _)) <|
  RT_c (RE_p (r2_getf _ _ _)) <|
  RT_c (RE_p (r2_load _ _ _)) <|
  RT_c (RE_p (r2_getf _ _ _)) <|
  RT_c (RE_p (r2_st _ _)) <|
  RT_c (RE_p (r2_st _ _)) <|
  RT_c (RE_p (r2_st _ _)) <|
  RT_c (RE_p (r2_st _ _)) <|
  RT_c (RE_q) <|
  RT_c (RE_p (r2_if _ _ _)) <|
  RT_c (RE_p (r2_st _ _)) <|
  RT_c (RE_p (r2_st _ _)) <|
  RT_c (RE_p (r2_st _ _)) <|
  RT_c (RE_q) <|
  RT_n
set_option maxRecDepth 20000 in
theorem rtX5_codeAt : RT tbX5_codeAt ubX5_codeAt :=
  RT_c (RE_p (r2_load _ _ _)) <|
  RT_c (RE_p (r2_getf _ _ _)) <|
  RT_c (RE_p (r2_load _ _ _)) <|
  RT_c (RE_p (r2_icmp _ _ _)) <|
  RT_c (RE_p (r2_load _ _ _)) <|
  RT_c (RE_p (r2_getf _ _ _)) <|
  RT_c (RE_p (r2_load _ _ _)) <|
  RT_c (RE_p (r2_load _ _ _)) <|
  RT_c (RE_p (r2_getf _ _ _)) <|
  RT_c (RE_p (r2_st _ _)) <|
  RT_c (RE_p (r2_iald _)) <|
  RT_c (RE_p (r2_st _ _)) <|
  RT_c (RE_p (r2_st _ _)) <|
  RT_c (RE_q) <|
  RT_n
set_option maxRecDepth 20000 in
theorem rtX5_figure : RT tbX5_figure ubX5_figure :=
  RT_c (RE_p (r2_load _ _ _)) <|
  RT_c (RE_p (r2_if _ _ _)) <|
  RT_c (RE_p (r2_st _ _)) <|
  RT_c (RE_p (r2_st _ _)) <|
  RT_c (RE_p (r2_load _ _ _)) <|
  RT_c (RE_p (r2_load _ _ _)) <|
  RT_c (RE_p (r2_load _ _ _)) <|
  RT_c (RE_q) <|
  RT_c (RE_p (r2_st _ _)) <|
  RT_c (RE_p (r2_st _ _)) <|
  RT_c (RE_p (r2_store _ _ _)) <|
  RT_c (RE_p (r2_load _ _ _)) <|
  RT_c (RE_p (r2_st _ _)) <|
  RT_c (RE_p (r2_load _ _ _)) <|
  RT_c (RE_p (r2_st _ _)) <|
  RT_c (RE_p (r2_load _ _ _)) <|
  RT_c (RE_p (r2_st _ _)) <|
  RT_c (RE_q) <|
  RT_c (RE_p (r2_store _ _ _)) <|
  RT_c (RE_p (r2_load _ _ _)) <|
  RT_c (RE_p (r2_st _ _)) <|
  RT_c (RE_p (r2_getf _ _ _)) <|
  RT_c (RE_p (r2_load _ _ _)) <|
  RT_c (RE_p (r2_if _ _ _)) <|
  RT_c (RE_p (r2_st _ _)) <|
  RT_c (RE_p (r2_st _ _)) <|
  RT_c (RE_p (r2_st _ _)) <|
  RT_c (RE_p (r2_st _ _)) <|
  RT_c (RE_p (r2_putf _ _ _ _)) <|
  RT_c (RE_p (r2_load _ _ _)) <|
  RT_c (RE_p (r2_if _ _ _)) <|
  RT_c (RE_p (r2_load _ _ _)) <|
  RT_c (RE_p (r2_st _ _)) <|
  RT_c (RE_p (r2_st _ _)) <|
  RT_c (RE_q) <|
  RT_n
set_option maxRecDepth 20000 in
theorem rtX5_readsFloor : RT tbX5_readsFloor ubX5_readsFloor :=
  RT_c (RE_p (r2_load _ _ _)) <|
  RT_c (RE_p (r2_load _ _ _)) <|
  RT_c (RE_p (r2_load _ _ _)) <|
  RT_c (RE_p (r2_load _ _ _)) <|
  RT_c (RE_p (r2_st _ _)) <|
  RT_c (RE_p (r2_st _ _)) <|
  RT_c (RE_p (r2_st _ _)) <|
  RT_c (RE_q) <|
  RT_c (RE_p (r2_putf _ _ _ _)) <|
  RT_c (RE_p (r2_load _ _ _)) <|
  RT_c (RE_p (r2_load _ _ _)) <|
  RT_c (RE_p (r2_load _ _ _)) <|
  RT_c (RE_p (r2_load _ _ _)) <|
  RT_c (RE_p (r2_load _ _ _)) <|
  RT_c (RE_p (r2_getf _ _ _)) <|
  RT_c (RE_p (r2_st _ _)) <|
  RT_c (RE_p (r2_st _ _)) <|
  RT_c (RE_q) <|
  RT_c (RE_p (r2_putf _ _ _ _)) <|
  RT_c (RE_p (r2_load _ _ _)) <|
  RT_c (RE_p (r2_getf _ _ _)) <|
  RT_c (RE_p (r2_if _ _ _)) <|
  RT_c (RE_p (r2_st _ _)) <|
  RT_c (RE_p (r2_st _ _)) <|
  RT_c (RE_p (r2_st _ _)) <|
  RT_c (RE_p (r2_store _ _ _)) <|
  RT_c (RE_p (r2_st _ _)) <|
  RT_c (RE_p (r2_store _ _ _)) <|
  RT_c (RE_p (r2_load _ _ _)) <|
  RT_c (RE_p (r2_if _ _ _)) <|
  RT_c (RE_p (r2_load _ _ _)) <|
  RT_c (RE_p (r2_load _ _ _)) <|
  RT_c (RE_p (r2_getf _ _ _)) <|
  RT_c (RE_p (r2_load _ _ _)) <|
  RT_c (RE_p (r2_getf _ _ _)) <|
  RT_c (RE_p (r2_st _ _)) <|
  RT_c (RE_p (r2_icmp _ _ _)) <|
  RT_c (RE_p (r2_load _ _ _)) <|
  RT_c (RE_p (r2_getf _ _ _)) <|
  RT_c (RE_p (r2_load _ _ _)) <|
  RT_c (RE_p (r2_load _ _ _)) <|
  RT_c (RE_p (r2_load _ _ _)) <|
  RT_c (RE_p (r2_load _ _ _)) <|
  RT_c (RE_p (r2_st _ _)) <|
  RT_c (RE_p (r2_st _ _)) <|
  RT_c (RE_p (r2_st _ _)) <|
  RT_c (RE_q) <|
  RT_c (RE_p (r2_iast _)) <|
  RT_c (RE_p (r2_load _ _ _)) <|
  RT_c (RE_p (r2_getf _ _ _)) <|
  RT_c (RE_p (r2_load _ _ _)) <|
  RT_c (RE_p (r2_iald _)) <|
  RT_c (RE_p (r2_if _ _ _)) <|
  RT_c (RE_p (r2_st _ _)) <|
  RT_c (RE_p (r2_st _ _)) <|
  RT_c (RE_p (r2_st _ _)) <|
  RT_c (RE_p (r2_store _ _ _)) <|
  RT_c (RE_p (r2_iinc _ _ _)) <|
  RT_c (RE_p (r2_st _ _)) <|
  RT_c (RE_p (r2_load _ _ _)) <|
  RT_c (RE_q) <|
  RT_n
set_option maxRecDepth 20000 in
theorem rtX5_readsLooker : RT tbX5_readsLooker ubX5_readsLooker :=
  RT_c (RE_p (r2_load _ _ _)) <|
  RT_c (RE_p (r2_load _ _ _)) <|
  RT_c (RE_p (r2_load _ _ _)) <|
  RT_c (RE_q) <|
  RT_c (RE_p (r2_st _ _)) <|
  RT_c (RE_p (r2_icmp _ _ _)) <|
  RT_c (RE_p (r2_load _ _ _)) <|
  RT_c (RE_p (r2_getf _ _ _)) <|
  RT_c (RE_p (r2_st _ _)) <|
  RT_c (RE_p (r2_icmp _ _ _)) <|
  RT_c (RE_p (r2_load _ _ _)) <|
  RT_c (RE_p (r2_getf _ _ _)) <|
  RT_c (RE_p (r2_load _ _ _)) <|
  RT_c (RE_p (r2_getf _ _ _)) <|
  RT_c (RE_p (r2_icmp _ _ _)) <|
  RT_c (RE_p (r2_st _ _)) <|
  RT_c (RE_q) <|
  RT_c (RE_p (r2_load _ _ _)) <|
  RT_c (RE_p (r2_st _ _)) <|
  RT_c (RE_p (r2_getf _ _ _)) <|
  RT_c (RE_p (r2_st _ _)) <|
  RT_c (RE_p (r2_st _ _)) <|
  RT_c (RE_p (r2_putf _ _ _ _)) <|
  RT_c (RE_p (r2_load _ _ _)) <|
  RT_c (RE_p (r2_load _ _ _)) <|
  RT_c (RE_p (r2_load _ _ _)) <|
  RT_c (RE_q) <|
  RT_c (RE_p (r2_store _ _ _)) <|
  RT_c (RE_p (r2_load _ _ _)) <|
  RT_c (RE_p (r2_st _ _)) <|
  RT_c (RE_p (r2_icmp _ _ _)) <|
  RT_c (RE_p (r2_load _ _ _)) <|
  RT_c (RE_p (r2_st _ _)) <|
  RT_c (RE_p (r2_icmp _ _ _)) <|
  RT_c (RE_p (r2_load _ _ _)) <|
  RT_c (RE_p (r2_st _ _)) <|
  RT_c (RE_p (r2_icmp _ _ _)) <|
  RT_c (RE_p (r2_st _ _)) <|
  RT_c (RE_q) <|
  RT_c (RE_p (r2_load _ _ _)) <|
  RT_c (RE_p (r2_st _ _)) <|
  RT_c (RE_p (r2_getf _ _ _)) <|
  RT_c (RE_p (r2_st _ _)) <|
  RT_c (RE_p (r2_st _ _)) <|
  RT_c (RE_p (r2_putf _ _ _ _)) <|
  RT_c (RE_p (r2_load _ _ _)) <|
  RT_c (RE_p (r2_getf _ _ _)) <|
  RT_c (RE_p (r2_load _ _ _)) <|
  RT_c (RE_p (r2_getf _ _ _)) <|
  RT_c (RE_p (r2_load _ _ _)) <|
  RT_c (RE_p (r2_st _ _)) <|
  RT_c (RE_p (r2_icmp _ _ _)) <|
  RT_c (RE_p (r2_st _ _)) <|
  RT_c (RE_p (r2_st _ _)) <|
  RT_c (RE_p (r2_load _ _ _)) <|
  RT_c (RE_p (r2_st _ _)) <|
  RT_c (RE_p (r2_icmp _ _ _)) <|
  RT_c (RE_p (r2_st _ _)) <|
  RT_c (RE_p (r2_st _ _)) <|
  RT_c (RE_p (r2_st _ _)) <|
  RT_c (RE_p (r2_iast _)) <|
  RT_c (RE_p (r2_load _ _ _)) <|
  RT_c (RE_p (r2_getf _ _ _)) <|
  RT_c (RE_p (r2_load _ _ _)) <|
  RT_c (RE_p (r2_getf _ _ _)) <|
  RT_c (RE_p (r2_load _ _ _)) <|
  RT_c (RE_p (r2_load _ _ _)) <|
  RT_c (RE_p (r2_load _ _ _)) <|
  RT_c (RE_p (r2_st _ _)) <|
  RT_c (RE_p (r2_st _ _)) <|
  RT_c (RE_p (r2_st _ _)) <|
  RT_c (RE_q) <|
  RT_c (RE_p (r2_iast _)) <|
  RT_c (RE_p (r2_load _ _ _)) <|
  RT_c (RE_p (r2_st _ _)) <|
  RT_c (RE_p (r2_getf _ _ _)) <|
  RT_c (RE_p (r2_st _ _)) <|
  RT_c (RE_p (r2_st _ _)) <|
  RT_c (RE_p (r2_putf _ _ _ _)) <|
  RT_c (RE_p (r2_load _ _ _)) <|
  RT_c (RE_p (r2_getf _ _ _)) <|
  RT_c (RE_p (r2_load _ _ _)) <|
  RT_c (RE_p (r2_getf _ _ _)) <|
  RT_c (RE_p (r2_st _ _)) <|
  RT_c (RE_p (r2_st _ _)) <|
  RT_c (RE_p (r2_iald _)) <|
  RT_c (RE_p (r2_if _ _ _)) <|
  RT_c (RE_p (r2_st _ _)) <|
  RT_c (RE_p (r2_st _ _)) <|
  RT_c (RE_p (r2_st _ _)) <|
  RT_c (RE_q) <|
  RT_n
set_option maxRecDepth 20000 in
theorem rtX5_readsSea : RT tbX5_readsSea ubX5_readsSea :=
  RT_c (RE_p (r2_load _ _ _)) <|
  RT_c (RE_p (r2_st _ _)) <|
  RT_c (RE_p (r2_putf _ _ _ _)) <|
  RT_c (RE_p (r2_load _ _ _)) <|
  RT_c (RE_p (r2_st _ _)) <|
  RT_c (RE_p (r2_putf _ _ _ _)) <|
  RT_c (RE_p (r2_load _ _ _)) <|
  RT_c (RE_p (r2_load _ _ _)) <|
  RT_c (RE_p (r2_load _ _ _)) <|
  RT_c (RE_q) <|
  RT_c (RE_p (r2_st _ _)) <|
  RT_c (RE_p (r2_icmp _ _ _)) <|
  RT_c (RE_p (r2_st _ _)) <|
  RT_c (RE_q) <|
  RT_c (RE_p (r2_load _ _ _)) <|
  RT_c (RE_p (r2_st _ _)) <|
  RT_c (RE_p (r2_getf _ _ _)) <|
  RT_c (RE_p (r2_st _ _)) <|
  RT_c (RE_p (r2_st _ _)) <|
  RT_c (RE_p (r2_putf _ _ _ _)) <|
  RT_c (RE_p (r2_load _ _ _)) <|
  RT_c (RE_p (r2_load _ _ _)) <|
  RT_c (RE_p (r2_load _ _ _)) <|
  RT_c (RE_q) <|
  RT_c (RE_p (r2_store _ _ _)) <|
  RT_c (RE_p (r2_load _ _ _)) <|
  RT_c (RE_p (r2_if _ _ _)) <|
  RT_c (RE_p (r2_load _ _ _)) <|
  RT_c (RE_p (r2_getf _ _ _)) <|
  RT_c (RE_p (r2_if _ _ _)) <|
  RT_c (RE_p (r2_load _ _ _)) <|
  RT_c (RE_p (r2_load _ _ _)) <|
  RT_c (RE_p (r2_load _ _ _)) <|
  RT_c (RE_q) <|
  RT_c (RE_p (r2_st _ _)) <|
  RT_c (RE_p (r2_icmp _ _ _)) <|
  RT_c (RE_p (r2_load _ _ _)) <|
  RT_c (RE_p (r2_load _ _ _)) <|
  RT_c (RE_p (r2_load _ _ _)) <|
  RT_c (RE_q) <|
  RT_c (RE_p (r2_store _ _ _)) <|
  RT_c (RE_p (r2_st _ _)) <|
  RT_c (RE_p (r2_load _ _ _)) <|
  RT_c (RE_p (r2_if _ _ _)) <|
  RT_c (RE_p (r2_st _ _)) <|
  RT_c (RE_q) <|
  RT_c (RE_p (r2_load _ _ _)) <|
  RT_c (RE_p (r2_st _ _)) <|
  RT_c (RE_p (r2_getf _ _ _)) <|
  RT_c (RE_p (r2_st _ _)) <|
  RT_c (RE_p (r2_st _ _)) <|
  RT_c (RE_p (r2_putf _ _ _ _)) <|
  RT_c (RE_p (r2_load _ _ _)) <|
  RT_c (RE_p (r2_load _ _ _)) <|
  RT_c (RE_p (r2_load _ _ _)) <|
  RT_c (RE_p (r2_load _ _ _)) <|
  RT_c (RE_p (r2_st _ _)) <|
  RT_c (RE_p (r2_st _ _)) <|
  RT_c (RE_p (r2_load _ _ _)) <|
  RT_c (RE_p (r2_getf _ _ _)) <|
  RT_c (RE_p (r2_load _ _ _)) <|
  RT_c (RE_p (r2_getf _ _ _)) <|
  RT_c (RE_p (r2_st _ _)) <|
  RT_c (RE_q) <|
  RT_c (RE_p (r2_putf _ _ _ _)) <|
  RT_c (RE_p (r2_load _ _ _)) <|
  RT_c (RE_p (r2_load _ _ _)) <|
  RT_c (RE_p (r2_load _ _ _)) <|
  RT_c (RE_p (r2_load _ _ _)) <|
  RT_c (RE_p (r2_load _ _ _)) <|
  RT_c (RE_p (r2_getf _ _ _)) <|
  RT_c (RE_p (r2_st _ _)) <|
  RT_c (RE_p (r2_load _ _ _)) <|
  RT_c (RE_p (r2_getf _ _ _)) <|
  RT_c (RE_p (r2_st _ _)) <|
  RT_c (RE_p (r2_st _ _)) <|
  RT_c (RE_q) <|
  RT_c (RE_p (r2_putf _ _ _ _)) <|
  RT_c (RE_p (r2_load _ _ _)) <|
  RT_c (RE_p (r2_getf _ _ _)) <|
  RT_c (RE_p (r2_if _ _ _)) <|
  RT_c (RE_p (r2_load _ _ _)) <|
  RT_c (RE_p (r2_getf _ _ _)) <|
  RT_c (RE_p (r2_load _ _ _)) <|
  RT_c (RE_p (r2_icmp _ _ _)) <|
  RT_c (RE_p (r2_st _ _)) <|
  RT_c (RE_p (r2_st _ _)) <|
  RT_c (RE_p (r2_st _ _)) <|
  RT_c (RE_q) <|
  RT_n
set_option maxRecDepth 20000 in
theorem rtX5_cellsBarred : RT tbX5_cellsBarred ubX5_cellsBarred :=
  RT_c (RE_p (r2_load _ _ _)) <|
  RT_c (RE_p (r2_getf _ _ _)) <|
  RT_c (RE_p (r2_load _ _ _)) <|
  RT_c (RE_p (r2_iald _)) <|
  RT_c (RE_p (r2_if _ _ _)) <|
  RT_c (RE_p (r2_load _ _ _)) <|
  RT_c (RE_p (r2_getf _ _ _)) <|
  RT_c (RE_p (r2_load _ _ _)) <|
  RT_c (RE_p (r2_iald _)) <|
  RT_c (RE_p (r2_load _ _ _)) <|
  RT_c (RE_p (r2_icmp _ _ _)) <|
  RT_c (RE_p (r2_load _ _ _)) <|
  RT_c (RE_p (r2_st _ _)) <|
  RT_c (RE_q) <|
  RT_c (RE_q) <|
  RT_c (RE_p (r2_load _ _ _)) <|
  RT_c (RE_p (r2_getf _ _ _)) <|
  RT_c (RE_p (r2_load _ _ _)) <|
  RT_c (RE_p (r2_iald _)) <|
  RT_c (RE_p (r2_if _ _ _)) <|
  RT_c (RE_p (r2_load _ _ _)) <|
  RT_c (RE_p (r2_st _ _)) <|
  RT_c (RE_q) <|
  RT_c (RE_q) <|
  RT_c (RE_p (r2_load _ _ _)) <|
  RT_c (RE_p (r2_st _ _)) <|
  RT_c (RE_p (r2_st _ _)) <|
  RT_c (RE_p (r2_if _ _ _)) <|
  RT_c (RE_p (r2_load _ _ _)) <|
  RT_c (RE_p (r2_st _ _)) <|
  RT_c (RE_q) <|
  RT_c (RE_q) <|
  RT_c (RE_p (r2_load _ _ _)) <|
  RT_c (RE_p (r2_load _ _ _)) <|
  RT_c (RE_p (r2_load _ _ _)) <|
  RT_c (RE_p (r2_getf _ _ _)) <|
  RT_c (RE_p (r2_load _ _ _)) <|
  RT_c (RE_p (r2_iald _)) <|
  RT_c (RE_q) <|
  RT_c (RE_p (r2_if _ _ _)) <|
  RT_c (RE_p (r2_load _ _ _)) <|
  RT_c (RE_p (r2_st _ _)) <|
  RT_c (RE_q) <|
  RT_c (RE_p (r2_st _ _)) <|
  RT_c (RE_p (r2_st _ _)) <|
  RT_c (RE_q) <|
  RT_n
set_option maxRecDepth 20000 in
theorem rtX5_sea : RT tbX5_sea ubX5_sea :=
  RT_c (RE_p (r2_load _ _ _)) <|
  RT_c (RE_q) <|
  RT_c (RE_p (r2_if _ _ _)) <|
  RT_c (RE_p (r2_load _ _ _)) <|
  RT_c (RE_p (r2_st _ _)) <|
  RT_c (RE_q) <|
  RT_c (RE_q) <|
  RT_c (RE_p (r2_load _ _ _)) <|
  RT_c (RE_p (r2_st _ _)) <|
  RT_c (RE_p (r2_st _ _)) <|
  RT_c (RE_p (r2_st _ _)) <|
  RT_c (RE_q) <|
  RT_c (RE_p (r2_if _ _ _)) <|
  RT_c (RE_p (r2_load _ _ _)) <|
  RT_c (RE_p (r2_st _ _)) <|
  RT_c (RE_q) <|
  RT_c (RE_q) <|
  RT_c (RE_p (r2_load _ _ _)) <|
  RT_c (RE_p (r2_load _ _ _)) <|
  RT_c (RE_p (r2_load _ _ _)) <|
  RT_c (RE_p (r2_load _ _ _)) <|
  RT_c (RE_p (r2_load _ _ _)) <|
  RT_c (RE_p (r2_st _ _)) <|
  RT_c (RE_q) <|
  RT_c (RE_p (r2_store _ _ _)) <|
  RT_c (RE_p (r2_load _ _ _)) <|
  RT_c (RE_p (r2_if _ _ _)) <|
  RT_c (RE_p (r2_load _ _ _)) <|
  RT_c (RE_q) <|
  RT_c (RE_p (r2_load _ _ _)) <|
  RT_c (RE_p (r2_st _ _)) <|
  RT_c (RE_p (r2_load _ _ _)) <|
  RT_c (RE_p (r2_st _ _)) <|
  RT_c (RE_p (r2_load _ _ _)) <|
  RT_c (RE_p (r2_st _ _)) <|
  RT_c (RE_p (r2_load _ _ _)) <|
  RT_c (RE_q) <|
  RT_c (RE_p (r2_if _ _ _)) <|
  RT_c (RE_p (r2_load _ _ _)) <|
  RT_c (RE_p (r2_st _ _)) <|
  RT_c (RE_p (r2_load _ _ _)) <|
  RT_c (RE_p (r2_getf _ _ _)) <|
  RT_c (RE_p (r2_st _ _)) <|
  RT_c (RE_q) <|
  RT_c (RE_q) <|
  RT_c (RE_p (r2_load _ _ _)) <|
  RT_c (RE_p (r2_load _ _ _)) <|
  RT_c (RE_p (r2_getf _ _ _)) <|
  RT_c (RE_p (r2_putf _ _ _ _)) <|
  RT_c (RE_p (r2_load _ _ _)) <|
  RT_c (RE_p (r2_load _ _ _)) <|
  RT_c (RE_p (r2_getf _ _ _)) <|
  RT_c (RE_p (r2_putf _ _ _ _)) <|
  RT_c (RE_p (r2_load _ _ _)) <|
  RT_c (RE_p (r2_load _ _ _)) <|
  RT_c (RE_p (r2_getf _ _ _)) <|
  RT_c (RE_p (r2_putf _ _ _ _)) <|
  RT_c (RE_p (r2_load _ _ _)) <|
  RT_c (RE_p (r2_load _ _ _)) <|
  RT_c (RE_p (r2_getf _ _ _)) <|
  RT_c (RE_p (r2_putf _ _ _ _)) <|
  RT_c (RE_p (r2_load _ _ _)) <|
  RT_c (RE_p (r2_load _ _ _)) <|
  RT_c (RE_p (r2_getf _ _ _)) <|
  RT_c (RE_p (r2_putf _ _ _ _)) <|
  RT_c (RE_p (r2_st _ _)) <|
  RT_c (RE_p (r2_store _ _ _)) <|
  RT_c (RE_p (r2_clr _ (r2_load _ _ _))) <|
  RT_c (RE_p (r2_load _ _ _)) <|
  RT_c (RE_p (r2_getf _ _ _)) <|
  RT_c (RE_p (r2_load _ _ _)) <|
  RT_c (RE_p (r2_getf _ _ _)) <|
  RT_c (RE_p (r2_st _ _)) <|
  RT_c (RE_p (r2_icmp _ _ _)) <|
  RT_c (RE_p (r2_load _ _ _)) <|
  RT_c (RE_p (r2_getf _ _ _)) <|
  RT_c (RE_p (r2_load _ _ _)) <|
  RT_c (RE_p (r2_load _ _ _)) <|
  RT_c (RE_p (r2_getf _ _ _)) <|
  RT_c (RE_p (r2_load _ _ _)) <|
  RT_c (RE_p (r2_iald _)) <|
  RT_c (RE_p (r2_iast _)) <|
  RT_c (RE_p (r2_iinc _ _ _)) <|
  RT_c (RE_p (r2_st _ _)) <|
  RT_c (RE_p (r2_st _ _)) <|
  RT_c (RE_p (r2_store _ _ _)) <|
  RT_c (RE_p (r2_clr _ (r2_load _ _ _))) <|
  RT_c (RE_p (r2_load _ _ _)) <|
  RT_c (RE_p (r2_getf _ _ _)) <|
  RT_c (RE_p (r2_icmp _ _ _)) <|
  RT_c (RE_p (r2_load _ _ _)) <|
  RT_c (RE_p (r2_getf _ _ _)) <|
  RT_c (RE_p (r2_load _ _ _)) <|
  RT_c (RE_p (r2_load _ _ _)) <|
  RT_c (RE_p (r2_getf _ _ _)) <|
  RT_c (RE_p (r2_load _ _ _)) <|
  RT_c (RE_p (r2_iald _)) <|
  RT_c (RE_p (r2_iast _)) <|
  RT_c (RE_p (r2_load _ _ _)) <|
  RT_c (RE_p (r2_getf _ _ _)) <|
  RT_c (RE_p (r2_load _ _ _)) <|
  RT_c (RE_p (r2_load _ _ _)) <|
  RT_c (RE_p (r2_getf _ _ _)) <|
  RT_c (RE_p (r2_load _ _ _)) <|
  RT_c (RE_p (r2_iald _)) <|
  RT_c (RE_p (r2_iast _)) <|
  RT_c (RE_p (r2_iinc _ _ _)) <|
  RT_c (RE_p (r2_st _ _)) <|
  RT_c (RE_p (r2_load _ _ _)) <|
  RT_c (RE_p (r2_st _ _)) <|
  RT_c (RE_p (r2_putf _ _ _ _)) <|
  RT_c (RE_p (r2_load _ _ _)) <|
  RT_c (RE_p (r2_st _ _)) <|
  RT_c (RE_p (r2_putf _ _ _ _)) <|
  RT_c (RE_p (r2_load _ _ _)) <|
  RT_c (RE_p (r2_load _ _ _)) <|
  RT_c (RE_q) <|
  RT_c (RE_p (r2_putf _ _ _ _)) <|
  RT_c (RE_p (r2_load _ _ _)) <|
  RT_c (RE_p (r2_st _ _)) <|
  RT_c (RE_p (r2_putf _ _ _ _)) <|
  RT_c (RE_p (r2_load _ _ _)) <|
  RT_c (RE_p (r2_load _ _ _)) <|
  RT_c (RE_p (r2_getf _ _ _)) <|
  RT_c (RE_q) <|
  RT_c (RE_q) <|
  RT_n
set_option maxRecDepth 20000 in
theorem rtX5_placeOf : RT tbX5_placeOf ubX5_placeOf :=
  RT_c (RE_p (r2_load _ _ _)) <|
  RT_c (RE_p (r2_getf _ _ _)) <|
  RT_c (RE_p (r2_load _ _ _)) <|
  RT_c (RE_p (r2_getf _ _ _)) <|
  RT_c (RE_p (r2_st _ _)) <|
  RT_c (RE_p (r2_load _ _ _)) <|
  RT_c (RE_p (r2_getf _ _ _)) <|
  RT_c (RE_p (r2_st _ _)) <|
  RT_c (RE_p (r2_load _ _ _)) <|
  RT_c (RE_p (r2_st _ _)) <|
  RT_c (RE_q) <|
  RT_n
set_option maxRecDepth 20000 in
theorem rtX5_tells : RT tbX5_tells ubX5_tells :=
  RT_c (RE_p (r2_load _ _ _)) <|
  RT_c (RE_p (r2_load _ _ _)) <|
  RT_c (RE_p (r2_getf _ _ _)) <|
  RT_c (RE_p (r2_load _ _ _)) <|
  RT_c (RE_p (r2_iald _)) <|
  RT_c (RE_p (r2_icmp _ _ _)) <|
  RT_c (RE_p (r2_load _ _ _)) <|
  RT_c (RE_p (r2_load _ _ _)) <|
  RT_c (RE_p (r2_getf _ _ _)) <|
  RT_c (RE_p (r2_load _ _ _)) <|
  RT_c (RE_p (r2_iald _)) <|
  RT_c (RE_p (r2_st _ _)) <|
  RT_c (RE_p (r2_st _ _)) <|
  RT_c (RE_p (r2_st _ _)) <|
  RT_c (RE_p (r2_store _ _ _)) <|
  RT_c (RE_p (r2_load _ _ _)) <|
  RT_c (RE_p (r2_getf _ _ _)) <|
  RT_c (RE_p (r2_load _ _ _)) <|
  RT_c (RE_p (r2_iald _)) <|
  RT_c (RE_p (r2_if _ _ _)) <|
  RT_c (RE_p (r2_load _ _ _)) <|
  RT_c (RE_p (r2_st _ _)) <|
  RT_c (RE_p (r2_load _ _ _)) <|
  RT_c (RE_p (r2_getf _ _ _)) <|
  RT_c (RE_p (r2_load _ _ _)) <|
  RT_c (RE_p (r2_iald _)) <|
  RT_c (RE_p (r2_st _ _)) <|
  RT_c (RE_p (r2_icmp _ _ _)) <|
  RT_c (RE_p (r2_load _ _ _)) <|
  RT_c (RE_p (r2_st _ _)) <|
  RT_c (RE_p (r2_st _ _)) <|
  RT_c (RE_p (r2_st _ _)) <|
  RT_c (RE_p (r2_st _ _)) <|
  RT_c (RE_p (r2_load _ _ _)) <|
  RT_c (RE_p (r2_st _ _)) <|
  RT_c (RE_p (r2_st _ _)) <|
  RT_c (RE_p (r2_st _ _)) <|
  RT_c (RE_q) <|
  RT_n
set_option maxRecDepth 20000 in
theorem rtX5_over : RT tbX5_over ubX5_over :=
  RT_c (RE_p (r2_st _ _)) <|
  RT_c (RE_p (r2_store _ _ _)) <|
  RT_c (RE_p (r2_st _ _)) <|
  RT_c (RE_p (r2_store _ _ _)) <|
  RT_c (RE_p (r2_load _ _ _)) <|
  RT_c (RE_p (r2_load _ _ _)) <|
  RT_c (RE_p (r2_getf _ _ _)) <|
  RT_c (RE_p (r2_icmp _ _ _)) <|
  RT_c (RE_p (r2_load _ _ _)) <|
  RT_c (RE_p (r2_load _ _ _)) <|
  RT_c (RE_p (r2_getf _ _ _)) <|
  RT_c (RE_p (r2_load _ _ _)) <|
  RT_c (RE_q) <|
  RT_c (RE_p (r2_if _ _ _)) <|
  RT_c (RE_p (r2_st _ _)) <|
  RT_c (RE_p (r2_st _ _)) <|
  RT_c (RE_p (r2_st _ _)) <|
  RT_c (RE_p (r2_load _ _ _)) <|
  RT_c (RE_p (r2_load _ _ _)) <|
  RT_c (RE_q) <|
  RT_c (RE_p (r2_st _ _)) <|
  RT_c (RE_p (r2_st _ _)) <|
  RT_c (RE_p (r2_store _ _ _)) <|
  RT_c (RE_p (r2_iinc _ _ _)) <|
  RT_c (RE_p (r2_st _ _)) <|
  RT_c (RE_p (r2_load _ _ _)) <|
  RT_c (RE_q) <|
  RT_n
set_option maxRecDepth 20000 in
theorem rtX5_ofLooker : RT tbX5_ofLooker ubX5_ofLooker :=
  RT_c (RE_p (r2_load _ _ _)) <|
  RT_c (RE_p (r2_load _ _ _)) <|
  RT_c (RE_q) <|
  RT_c (RE_p (r2_if _ _ _)) <|
  RT_c (RE_p (r2_st _ _)) <|
  RT_c (RE_q) <|
  RT_c (RE_p (r2_load _ _ _)) <|
  RT_c (RE_p (r2_sw _ _)) <|
  RT_c (RE_p (r2_load _ _ _)) <|
  RT_c (RE_p (r2_getf _ _ _)) <|
  RT_c (RE_p (r2_load _ _ _)) <|
  RT_c (RE_p (r2_iald _)) <|
  RT_c (RE_q) <|
  RT_c (RE_p (r2_load _ _ _)) <|
  RT_c (RE_p (r2_getf _ _ _)) <|
  RT_c (RE_p (r2_load _ _ _)) <|
  RT_c (RE_p (r2_iald _)) <|
  RT_c (RE_q) <|
  RT_c (RE_p (r2_load _ _ _)) <|
  RT_c (RE_p (r2_getf _ _ _)) <|
  RT_c (RE_p (r2_load _ _ _)) <|
  RT_c (RE_p (r2_st _ _)) <|
  RT_c (RE_p (r2_st _ _)) <|
  RT_c (RE_p (r2_st _ _)) <|
  RT_c (RE_q) <|
  RT_c (RE_p (r2_load _ _ _)) <|
  RT_c (RE_p (r2_load _ _ _)) <|
  RT_c (RE_q) <|
  RT_c (RE_q) <|
  RT_c (RE_p (r2_load _ _ _)) <|
  RT_c (RE_p (r2_load _ _ _)) <|
  RT_c (RE_p (r2_load _ _ _)) <|
  RT_c (RE_p (r2_getf _ _ _)) <|
  RT_c (RE_p (r2_load _ _ _)) <|
  RT_c (RE_p (r2_load _ _ _)) <|
  RT_c (RE_q) <|
  RT_c (RE_p (r2_iald _)) <|
  RT_c (RE_q) <|
  RT_c (RE_q) <|
  RT_c (RE_p (r2_st _ _)) <|
  RT_c (RE_q) <|
  RT_n
set_option maxRecDepth 20000 in
theorem rtX5_height : RT tbX5_height ubX5_height :=
  RT_c (RE_p (r2_load _ _ _)) <|
  RT_c (RE_p (r2_load _ _ _)) <|
  RT_c (RE_q) <|
  RT_c (RE_p (r2_if _ _ _)) <|
  RT_c (RE_p (r2_st _ _)) <|
  RT_c (RE_p (r2_st _ _)) <|
  RT_c (RE_p (r2_load _ _ _)) <|
  RT_c (RE_p (r2_getf _ _ _)) <|
  RT_c (RE_p (r2_load _ _ _)) <|
  RT_c (RE_p (r2_iald _)) <|
  RT_c (RE_q) <|
  RT_n
set_option maxRecDepth 20000 in
theorem rtX5_heap : RT tbX5_heap ubX5_heap :=
  RT_c (RE_p (r2_load _ _ _)) <|
  RT_c (RE_p (r2_load _ _ _)) <|
  RT_c (RE_q) <|
  RT_c (RE_p (r2_if _ _ _)) <|
  RT_c (RE_p (r2_st _ _)) <|
  RT_c (RE_q) <|
  RT_c (RE_p (r2_load _ _ _)) <|
  RT_c (RE_p (r2_st _ _)) <|
  RT_c (RE_p (r2_st _ _)) <|
  RT_c (RE_p (r2_st _ _)) <|
  RT_c (RE_q) <|
  RT_c (RE_p (r2_if _ _ _)) <|
  RT_c (RE_p (r2_st _ _)) <|
  RT_c (RE_q) <|
  RT_c (RE_p (r2_load _ _ _)) <|
  RT_c (RE_p (r2_getf _ _ _)) <|
  RT_c (RE_p (r2_load _ _ _)) <|
  RT_c (RE_p (r2_iald _)) <|
  RT_c (RE_p (r2_store _ _ _)) <|
  RT_c (RE_p (r2_load _ _ _)) <|
  RT_c (RE_p (r2_getf _ _ _)) <|
  RT_c (RE_p (r2_load _ _ _)) <|
  RT_c (RE_p (r2_load _ _ _)) <|
  RT_c (RE_p (r2_iast _)) <|
  RT_c (RE_p (r2_load _ _ _)) <|
  RT_c (RE_q) <|
  RT_n
set_option maxRecDepth 20000 in
theorem rtX5_dim : RT tbX5_dim ubX5_dim :=
  RT_c (RE_p (r2_load _ _ _)) <|
  RT_c (RE_p (r2_load _ _ _)) <|
  RT_c (RE_q) <|
  RT_c (RE_p (r2_if _ _ _)) <|
  RT_c (RE_p (r2_st _ _)) <|
  RT_c (RE_q) <|
  RT_c (RE_p (r2_load _ _ _)) <|
  RT_c (RE_p (r2_st _ _)) <|
  RT_c (RE_p (r2_st _ _)) <|
  RT_c (RE_p (r2_st _ _)) <|
  RT_c (RE_q) <|
  RT_c (RE_p (r2_if _ _ _)) <|
  RT_c (RE_p (r2_st _ _)) <|
  RT_c (RE_q) <|
  RT_c (RE_p (r2_load _ _ _)) <|
  RT_c (RE_p (r2_getf _ _ _)) <|
  RT_c (RE_p (r2_load _ _ _)) <|
  RT_c (RE_p (r2_iald _)) <|
  RT_c (RE_p (r2_store _ _ _)) <|
  RT_c (RE_p (r2_load _ _ _)) <|
  RT_c (RE_p (r2_getf _ _ _)) <|
  RT_c (RE_p (r2_load _ _ _)) <|
  RT_c (RE_p (r2_load _ _ _)) <|
  RT_c (RE_p (r2_iast _)) <|
  RT_c (RE_p (r2_load _ _ _)) <|
  RT_c (RE_q) <|
  RT_n
set_option maxRecDepth 20000 in
theorem rtX5_scrape : RT tbX5_scrape ubX5_scrape :=
  RT_c (RE_p (r2_load _ _ _)) <|
  RT_c (RE_p (r2_load _ _ _)) <|
  RT_c (RE_q) <|
  RT_c (RE_p (r2_if _ _ _)) <|
  RT_c (RE_p (r2_st _ _)) <|
  RT_c (RE_q) <|
  RT_c (RE_p (r2_load _ _ _)) <|
  RT_c (RE_p (r2_getf _ _ _)) <|
  RT_c (RE_p (r2_load _ _ _)) <|
  RT_c (RE_q) <|
  RT_c (RE_p (r2_if _ _ _)) <|
  RT_c (RE_p (r2_st _ _)) <|
  RT_c (RE_q) <|
  RT_c (RE_p (r2_load _ _ _)) <|
  RT_c (RE_p (r2_st _ _)) <|
  RT_c (RE_p (r2_getf _ _ _)) <|
  RT_c (RE_p (r2_st _ _)) <|
  RT_c (RE_p (r2_load _ _ _)) <|
  RT_c (RE_p (r2_st _ _)) <|
  RT_c (RE_p (r2_st _ _)) <|
  RT_c (RE_p (r2_putf _ _ _ _)) <|
  RT_c (RE_p (r2_load _ _ _)) <|
  RT_c (RE_p (r2_getf _ _ _)) <|
  RT_c (RE_p (r2_load _ _ _)) <|
  RT_c (RE_p (r2_getf _ _ _)) <|
  RT_c (RE_p (r2_st _ _)) <|
  RT_c (RE_q) <|
  RT_c (RE_p (r2_st _ _)) <|
  RT_c (RE_q) <|
  RT_n
set_option maxRecDepth 20000 in
theorem rtX5_grow : RT tbX5_grow ubX5_grow :=
  RT_c (RE_p (r2_load _ _ _)) <|
  RT_c (RE_p (r2_load _ _ _)) <|
  RT_c (RE_q) <|
  RT_c (RE_p (r2_if _ _ _)) <|
  RT_c (RE_p (r2_st _ _)) <|
  RT_c (RE_q) <|
  RT_c (RE_p (r2_load _ _ _)) <|
  RT_c (RE_p (r2_getf _ _ _)) <|
  RT_c (RE_p (r2_load _ _ _)) <|
  RT_c (RE_q) <|
  RT_c (RE_p (r2_if _ _ _)) <|
  RT_c (RE_p (r2_st _ _)) <|
  RT_c (RE_q) <|
  RT_c (RE_p (r2_load _ _ _)) <|
  RT_c (RE_p (r2_st _ _)) <|
  RT_c (RE_p (r2_getf _ _ _)) <|
  RT_c (RE_p (r2_st _ _)) <|
  RT_c (RE_p (r2_load _ _ _)) <|
  RT_c (RE_p (r2_st _ _)) <|
  RT_c (RE_p (r2_st _ _)) <|
  RT_c (RE_p (r2_st _ _)) <|
  RT_c (RE_p (r2_st _ _)) <|
  RT_c (RE_p (r2_putf _ _ _ _)) <|
  RT_c (RE_p (r2_load _ _ _)) <|
  RT_c (RE_p (r2_st _ _)) <|
  RT_c (RE_p (r2_getf _ _ _)) <|
  RT_c (RE_p (r2_load _ _ _)) <|
  RT_c (RE_q) <|
  RT_c (RE_p (r2_st _ _)) <|
  RT_c (RE_p (r2_putf _ _ _ _)) <|
  RT_c (RE_p (r2_load _ _ _)) <|
  RT_c (RE_p (r2_getf _ _ _)) <|
  RT_c (RE_p (r2_load _ _ _)) <|
  RT_c (RE_p (r2_getf _ _ _)) <|
  RT_c (RE_p (r2_st _ _)) <|
  RT_c (RE_q) <|
  RT_c (RE_p (r2_st _ _)) <|
  RT_c (RE_q) <|
  RT_n
set_option maxRecDepth 20000 in
theorem rtX5_seen : RT tbX5_seen ubX5_seen :=
  RT_c (RE_p (r2_load _ _ _)) <|
  RT_c (RE_p (r2_getf _ _ _)) <|
  RT_c (RE_p (r2_if _ _ _)) <|
  RT_c (RE_q) <|
  RT_c (RE_p (r2_st _ _)) <|
  RT_c (RE_p (r2_load _ _ _)) <|
  RT_c (RE_p (r2_getf _ _ _)) <|
  RT_c (RE_q) <|
  RT_n
set_option maxRecDepth 20000 in
theorem rtX5_isPlace : RT tbX5_isPlace ubX5_isPlace :=
  RT_c (RE_p (r2_load _ _ _)) <|
  RT_c (RE_p (r2_st _ _)) <|
  RT_c (RE_p (r2_st _ _)) <|
  RT_c (RE_p (r2_load _ _ _)) <|
  RT_c (RE_p (r2_getf _ _ _)) <|
  RT_c (RE_p (r2_load _ _ _)) <|
  RT_c (RE_p (r2_getf _ _ _)) <|
  RT_c (RE_p (r2_st _ _)) <|
  RT_c (RE_p (r2_st _ _)) <|
  RT_c (RE_q) <|
  RT_c (RE_p (r2_if _ _ _)) <|
  RT_c (RE_p (r2_load _ _ _)) <|
  RT_c (RE_p (r2_st _ _)) <|
  RT_c (RE_p (r2_st _ _)) <|
  RT_c (RE_p (r2_load _ _ _)) <|
  RT_c (RE_p (r2_getf _ _ _)) <|
  RT_c (RE_p (r2_st _ _)) <|
  RT_c (RE_p (r2_st _ _)) <|
  RT_c (RE_p (r2_st _ _)) <|
  RT_c (RE_q) <|
  RT_c (RE_p (r2_if _ _ _)) <|
  RT_c (RE_p (r2_st _ _)) <|
  RT_c (RE_p (r2_st _ _)) <|
  RT_c (RE_p (r2_st _ _)) <|
  RT_c (RE_q) <|
  RT_n
set_option maxRecDepth 20000 in
theorem rtX5_columnBy : RT tbX5_columnBy ubX5_columnBy :=
  RT_c (RE_p (r2_load _ _ _)) <|
  RT_c (RE_p (r2_st _ _)) <|
  RT_c (RE_p (r2_icmp _ _ _)) <|
  RT_c (RE_p (r2_st _ _)) <|
  RT_c (RE_p (r2_st _ _)) <|
  RT_c (RE_p (r2_load _ _ _)) <|
  RT_c (RE_p (r2_st _ _)) <|
  RT_c (RE_p (r2_icmp _ _ _)) <|
  RT_c (RE_p (r2_st _ _)) <|
  RT_c (RE_p (r2_st _ _)) <|
  RT_c (RE_p (r2_st _ _)) <|
  RT_c (RE_q) <|
  RT_n
set_option maxRecDepth 20000 in
theorem rtX5_rowBy : RT tbX5_rowBy ubX5_rowBy :=
  RT_c (RE_p (r2_load _ _ _)) <|
  RT_c (RE_p (r2_if _ _ _)) <|
  RT_c (RE_p (r2_st _ _)) <|
  RT_c (RE_p (r2_st _ _)) <|
  RT_c (RE_p (r2_load _ _ _)) <|
  RT_c (RE_p (r2_st _ _)) <|
  RT_c (RE_p (r2_icmp _ _ _)) <|
  RT_c (RE_p (r2_st _ _)) <|
  RT_c (RE_p (r2_st _ _)) <|
  RT_c (RE_p (r2_st _ _)) <|
  RT_c (RE_q) <|
  RT_n
set_option maxRecDepth 20000 in
theorem rtX5_steps : RT tbX5_steps ubX5_steps :=
  RT_c (RE_p (r2_load _ _ _)) <|
  RT_c (RE_p (r2_getf _ _ _)) <|
  RT_c (RE_p (r2_load _ _ _)) <|
  RT_c (RE_q) <|
  RT_c (RE_p (r2_st _ _)) <|
  RT_c (RE_p (r2_store _ _ _)) <|
  RT_c (RE_p (r2_load _ _ _)) <|
  RT_c (RE_p (r2_getf _ _ _)) <|
  RT_c (RE_p (r2_load _ _ _)) <|
  RT_c (RE_q) <|
  RT_c (RE_p (r2_st _ _)) <|
  RT_c (RE_p (r2_store _ _ _)) <|
  RT_c (RE_p (r2_load _ _ _)) <|
  RT_c (RE_p (r2_load _ _ _)) <|
  RT_c (RE_p (r2_load _ _ _)) <|
  RT_c (RE_q) <|
  RT_c (RE_p (r2_if _ _ _)) <|
  RT_c (RE_p (r2_st _ _)) <|
  RT_c (RE_q) <|
  RT_c (RE_p (r2_load _ _ _)) <|
  RT_c (RE_p (r2_load _ _ _)) <|
  RT_c (RE_p (r2_putf _ _ _ _)) <|
  RT_c (RE_p (r2_load _ _ _)) <|
  RT_c (RE_p (r2_load _ _ _)) <|
  RT_c (RE_p (r2_putf _ _ _ _)) <|
  RT_c (RE_p (r2_load _ _ _)) <|
  RT_c (RE_p (r2_st _ _)) <|
  RT_c (RE_p (r2_getf _ _ _)) <|
  RT_c (RE_p (r2_load _ _ _)) <|
  RT_c (RE_q) <|
  RT_c (RE_p (r2_st _ _)) <|
  RT_c (RE_p (r2_putf _ _ _ _)) <|
  RT_c (RE_p (r2_st _ _)) <|
  RT_c (RE_q) <|
  RT_n
set_option maxRecDepth 20000 in
theorem rtX5_step : RT tbX5_step ubX5_step :=
  RT_c (RE_p (r2_load _ _ _)) <|
  RT_c (RE_p (r2_st _ _)) <|
  RT_c (RE_p (r2_st _ _)) <|
  RT_c (RE_p (r2_st _ _)) <|
  RT_c (RE_q) <|
  RT_c (RE_p (r2_if _ _ _)) <|
  RT_c (RE_p (r2_st _ _)) <|
  RT_c (RE_q) <|
  RT_c (RE_p (r2_load _ _ _)) <|
  RT_c (RE_p (r2_getf _ _ _)) <|
  RT_c (RE_q) <|
  RT_c (RE_p (r2_store _ _ _)) <|
  RT_c (RE_p (r2_load _ _ _)) <|
  RT_c (RE_p (r2_getf _ _ _)) <|
  RT_c (RE_p (r2_if _ _ _)) <|
  RT_c (RE_p (r2_load _ _ _)) <|
  RT_c (RE_p (r2_load _ _ _)) <|
  RT_c (RE_q) <|
  RT_c (RE_p (r2_if _ _ _)) <|
  RT_c (RE_p (r2_st _ _)) <|
  RT_c (RE_q) <|
  RT_c (RE_p (r2_load _ _ _)) <|
  RT_c (RE_p (r2_st _ _)) <|
  RT_c (RE_p (r2_getf _ _ _)) <|
  RT_c (RE_p (r2_st _ _)) <|
  RT_c (RE_p (r2_st _ _)) <|
  RT_c (RE_p (r2_putf _ _ _ _)) <|
  RT_c (RE_p (r2_load _ _ _)) <|
  RT_c (RE_p (r2_getf _ _ _)) <|
  RT_c (RE_q) <|
  RT_c (RE_p (r2_load _ _ _)) <|
  RT_c (RE_p (r2_st _ _)) <|
  RT_c (RE_q) <|
  RT_n
set_option maxRecDepth 20000 in
theorem rtX5_keepAll : RT tbX5_keepAll ubX5_keepAll :=
  RT_c (RE_p (r2_load _ _ _)) <|
  RT_c (RE_p (r2_load _ _ _)) <|
  RT_c (RE_p (r2_getf _ _ _)) <|
  RT_c (RE_p (r2_putf _ _ _ _)) <|
  RT_c (RE_p (r2_load _ _ _)) <|
  RT_c (RE_p (r2_load _ _ _)) <|
  RT_c (RE_p (r2_getf _ _ _)) <|
  RT_c (RE_p (r2_putf _ _ _ _)) <|
  RT_c (RE_p (r2_load _ _ _)) <|
  RT_c (RE_p (r2_load _ _ _)) <|
  RT_c (RE_p (r2_getf _ _ _)) <|
  RT_c (RE_p (r2_putf _ _ _ _)) <|
  RT_c (RE_q) <|
  RT_n
set_option maxRecDepth 20000 in
theorem rtX5_bringBack : RT tbX5_bringBack ubX5_bringBack :=
  RT_c (RE_p (r2_load _ _ _)) <|
  RT_c (RE_p (r2_load _ _ _)) <|
  RT_c (RE_p (r2_getf _ _ _)) <|
  RT_c (RE_p (r2_putf _ _ _ _)) <|
  RT_c (RE_p (r2_load _ _ _)) <|
  RT_c (RE_p (r2_load _ _ _)) <|
  RT_c (RE_p (r2_getf _ _ _)) <|
  RT_c (RE_p (r2_putf _ _ _ _)) <|
  RT_c (RE_p (r2_load _ _ _)) <|
  RT_c (RE_p (r2_load _ _ _)) <|
  RT_c (RE_p (r2_getf _ _ _)) <|
  RT_c (RE_p (r2_putf _ _ _ _)) <|
  RT_c (RE_q) <|
  RT_n
set_option maxRecDepth 20000 in
theorem rtX5_voyageBy : RT tbX5_voyageBy ubX5_voyageBy :=
  RT_c (RE_p (r2_st _ _)) <|
  RT_c (RE_p (r2_store _ _ _)) <|
  RT_c (RE_p (r2_st _ _)) <|
  RT_c (RE_p (r2_store _ _ _)) <|
  RT_c (RE_p (r2_st _ _)) <|
  RT_c (RE_p (r2_store _ _ _)) <|
  RT_c (RE_p (r2_st _ _)) <|
  RT_c (RE_p (r2_store _ _ _)) <|
  RT_c (RE_p (r2_clr _ (r2_load _ _ _))) <|
  RT_c (RE_p (r2_load _ _ _)) <|
  RT_c (RE_p (r2_icmp _ _ _)) <|
  RT_c (RE_p (r2_load _ _ _)) <|
  RT_c (RE_p (r2_if _ _ _)) <|
  RT_c (RE_p (r2_load _ _ _)) <|
  RT_c (RE_p (r2_load _ _ _)) <|
  RT_c (RE_p (r2_getf _ _ _)) <|
  RT_c (RE_p (r2_load _ _ _)) <|
  RT_c (RE_p (r2_load _ _ _)) <|
  RT_c (RE_p (r2_st _ _)) <|
  RT_c (RE_p (r2_iald _)) <|
  RT_c (RE_q) <|
  RT_c (RE_p (r2_if _ _ _)) <|
  RT_c (RE_p (r2_st _ _)) <|
  RT_c (RE_p (r2_st _ _)) <|
  RT_c (RE_p (r2_load _ _ _)) <|
  RT_c (RE_p (r2_store _ _ _)) <|
  RT_c (RE_p (r2_st _ _)) <|
  RT_c (RE_p (r2_store _ _ _)) <|
  RT_c (RE_p (r2_clr _ (r2_load _ _ _))) <|
  RT_c (RE_p (r2_load _ _ _)) <|
  RT_c (RE_p (r2_getf _ _ _)) <|
  RT_c (RE_p (r2_icmp _ _ _)) <|
  RT_c (RE_p (r2_load _ _ _)) <|
  RT_c (RE_p (r2_getf _ _ _)) <|
  RT_c (RE_p (r2_load _ _ _)) <|
  RT_c (RE_q) <|
  RT_c (RE_p (r2_if _ _ _)) <|
  RT_c (RE_p (r2_st _ _)) <|
  RT_c (RE_p (r2_st _ _)) <|
  RT_c (RE_p (r2_load _ _ _)) <|
  RT_c (RE_p (r2_load _ _ _)) <|
  RT_c (RE_p (r2_load _ _ _)) <|
  RT_c (RE_p (r2_getf _ _ _)) <|
  RT_c (RE_p (r2_load _ _ _)) <|
  RT_c (RE_p (r2_load _ _ _)) <|
  RT_c (RE_q) <|
  RT_c (RE_p (r2_iald _)) <|
  RT_c (RE_q) <|
  RT_c (RE_p (r2_store _ _ _)) <|
  RT_c (RE_p (r2_load _ _ _)) <|
  RT_c (RE_p (r2_load _ _ _)) <|
  RT_c (RE_p (r2_if _ _ _)) <|
  RT_c (RE_p (r2_st _ _)) <|
  RT_c (RE_p (r2_st _ _)) <|
  RT_c (RE_p (r2_load _ _ _)) <|
  RT_c (RE_p (r2_st _ _)) <|
  RT_c (RE_p (r2_store _ _ _)) <|
  RT_c (RE_p (r2_load _ _ _)) <|
  RT_c (RE_p (r2_load _ _ _)) <|
  RT_c (RE_p (r2_icmp _ _ _)) <|
  RT_c (RE_p (r2_load _ _ _)) <|
  RT_c (RE_p (r2_st _ _)) <|
  RT_c (RE_p (r2_load _ _ _)) <|
  RT_c (RE_p (r2_store _ _ _)) <|
  RT_c (RE_p (r2_iinc _ _ _)) <|
  RT_c (RE_p (r2_st _ _)) <|
  RT_c (RE_p (r2_iinc _ _ _)) <|
  RT_c (RE_p (r2_st _ _)) <|
  RT_c (RE_p (r2_load _ _ _)) <|
  RT_c (RE_p (r2_st _ _)) <|
  RT_c (RE_p (r2_icmp _ _ _)) <|
  RT_c (RE_p (r2_load _ _ _)) <|
  RT_c (RE_q) <|
  RT_c (RE_p (r2_load _ _ _)) <|
  RT_c (RE_p (r2_if _ _ _)) <|
  RT_c (RE_p (r2_st _ _)) <|
  RT_c (RE_p (r2_load _ _ _)) <|
  RT_c (RE_p (r2_st _ _)) <|
  RT_c (RE_q) <|
  RT_c (RE_p (r2_load _ _ _)) <|
  RT_c (RE_p (r2_if _ _ _)) <|
  RT_c (RE_p (r2_load _ _ _)) <|
  RT_c (RE_p (r2_getf _ _ _)) <|
  RT_c (RE_q) <|
  RT_c (RE_p (r2_load _ _ _)) <|
  RT_c (RE_p (r2_getf _ _ _)) <|
  RT_c (RE_q) <|
  RT_c (RE_p (r2_st _ _)) <|
  RT_c (RE_p (r2_st _ _)) <|
  RT_c (RE_p (r2_load _ _ _)) <|
  RT_c (RE_p (r2_st _ _)) <|
  RT_c (RE_p (r2_icmp _ _ _)) <|
  RT_c (RE_p (r2_load _ _ _)) <|
  RT_c (RE_p (r2_st _ _)) <|
  RT_c (RE_p (r2_load _ _ _)) <|
  RT_c (RE_p (r2_st _ _)) <|
  RT_c (RE_p (r2_icmp _ _ _)) <|
  RT_c (RE_p (r2_load _ _ _)) <|
  RT_c (RE_p (r2_st _ _)) <|
  RT_c (RE_p (r2_load _ _ _)) <|
  RT_c (RE_p (r2_st _ _)) <|
  RT_c (RE_q) <|
  RT_c (RE_q) <|
  RT_n
set_option maxRecDepth 20000 in
theorem rtX5_voyage : RT tbX5_voyage ubX5_voyage :=
  RT_c (RE_p (r2_load _ _ _)) <|
  RT_c (RE_q) <|
  RT_c (RE_p (r2_if _ _ _)) <|
  RT_c (RE_p (r2_load _ _ _)) <|
  RT_c (RE_p (r2_st _ _)) <|
  RT_c (RE_q) <|
  RT_c (RE_q) <|
  RT_c (RE_p (r2_load _ _ _)) <|
  RT_c (RE_p (r2_st _ _)) <|
  RT_c (RE_p (r2_st _ _)) <|
  RT_c (RE_p (r2_st _ _)) <|
  RT_c (RE_q) <|
  RT_c (RE_p (r2_if _ _ _)) <|
  RT_c (RE_p (r2_load _ _ _)) <|
  RT_c (RE_p (r2_st _ _)) <|
  RT_c (RE_p (r2_st _ _)) <|
  RT_c (RE_p (r2_st _ _)) <|
  RT_c (RE_q) <|
  RT_c (RE_p (r2_if _ _ _)) <|
  RT_c (RE_p (r2_load _ _ _)) <|
  RT_c (RE_p (r2_st _ _)) <|
  RT_c (RE_p (r2_st _ _)) <|
  RT_c (RE_p (r2_st _ _)) <|
  RT_c (RE_q) <|
  RT_c (RE_p (r2_if _ _ _)) <|
  RT_c (RE_p (r2_load _ _ _)) <|
  RT_c (RE_p (r2_st _ _)) <|
  RT_c (RE_q) <|
  RT_c (RE_q) <|
  RT_c (RE_p (r2_load _ _ _)) <|
  RT_c (RE_p (r2_getf _ _ _)) <|
  RT_c (RE_p (r2_if _ _ _)) <|
  RT_c (RE_p (r2_load _ _ _)) <|
  RT_c (RE_p (r2_st _ _)) <|
  RT_c (RE_q) <|
  RT_c (RE_q) <|
  RT_c (RE_p (r2_load _ _ _)) <|
  RT_c (RE_p (r2_load _ _ _)) <|
  RT_c (RE_p (r2_load _ _ _)) <|
  RT_c (RE_p (r2_load _ _ _)) <|
  RT_c (RE_p (r2_load _ _ _)) <|
  RT_c (RE_p (r2_st _ _)) <|
  RT_c (RE_q) <|
  RT_c (RE_p (r2_store _ _ _)) <|
  RT_c (RE_p (r2_load _ _ _)) <|
  RT_c (RE_p (r2_if _ _ _)) <|
  RT_c (RE_p (r2_load _ _ _)) <|
  RT_c (RE_q) <|
  RT_c (RE_p (r2_st _ _)) <|
  RT_c (RE_p (r2_store _ _ _)) <|
  RT_c (RE_p (r2_clr _ (r2_load _ _ _))) <|
  RT_c (RE_p (r2_load _ _ _)) <|
  RT_c (RE_p (r2_icmp _ _ _)) <|
  RT_c (RE_p (r2_load _ _ _)) <|
  RT_c (RE_p (r2_getf _ _ _)) <|
  RT_c (RE_p (r2_st _ _)) <|
  RT_c (RE_p (r2_load _ _ _)) <|
  RT_c (RE_p (r2_st _ _)) <|
  RT_c (RE_p (r2_load _ _ _)) <|
  RT_c (RE_p (r2_st _ _)) <|
  RT_c (RE_p (r2_load _ _ _)) <|
  RT_c (RE_p (r2_st _ _)) <|
  RT_c (RE_p (r2_iald _)) <|
  RT_c (RE_p (r2_st _ _)) <|
  RT_c (RE_p (r2_st _ _)) <|
  RT_c (RE_p (r2_st _ _)) <|
  RT_c (RE_q) <|
  RT_c (RE_p (r2_if _ _ _)) <|
  RT_c (RE_p (r2_load _ _ _)) <|
  RT_c (RE_p (r2_st _ _)) <|
  RT_c (RE_q) <|
  RT_c (RE_q) <|
  RT_c (RE_p (r2_iinc _ _ _)) <|
  RT_c (RE_p (r2_st _ _)) <|
  RT_c (RE_p (r2_load _ _ _)) <|
  RT_c (RE_q) <|
  RT_c (RE_p (r2_load _ _ _)) <|
  RT_c (RE_p (r2_st _ _)) <|
  RT_c (RE_p (r2_load _ _ _)) <|
  RT_c (RE_p (r2_st _ _)) <|
  RT_c (RE_p (r2_load _ _ _)) <|
  RT_c (RE_p (r2_st _ _)) <|
  RT_c (RE_p (r2_load _ _ _)) <|
  RT_c (RE_p (r2_load _ _ _)) <|
  RT_c (RE_q) <|
  RT_c (RE_p (r2_store _ _ _)) <|
  RT_c (RE_p (r2_load _ _ _)) <|
  RT_c (RE_q) <|
  RT_c (RE_p (r2_load _ _ _)) <|
  RT_c (RE_p (r2_load _ _ _)) <|
  RT_c (RE_q) <|
  RT_c (RE_q) <|
  RT_n
set_option maxRecDepth 20000 in
theorem rtX5_isOver : RT tbX5_isOver ubX5_isOver :=
  RT_c (RE_p (r2_st _ _)) <|
  RT_c (RE_p (r2_store _ _ _)) <|
  RT_c (RE_p (r2_st _ _)) <|
  RT_c (RE_p (r2_store _ _ _)) <|
  RT_c (RE_p (r2_load _ _ _)) <|
  RT_c (RE_p (r2_load _ _ _)) <|
  RT_c (RE_p (r2_getf _ _ _)) <|
  RT_c (RE_p (r2_icmp _ _ _)) <|
  RT_c (RE_p (r2_load _ _ _)) <|
  RT_c (RE_p (r2_if _ _ _)) <|
  RT_c (RE_p (r2_load _ _ _)) <|
  RT_c (RE_p (r2_getf _ _ _)) <|
  RT_c (RE_p (r2_load _ _ _)) <|
  RT_c (RE_q) <|
  RT_c (RE_p (r2_if _ _ _)) <|
  RT_c (RE_p (r2_load _ _ _)) <|
  RT_c (RE_p (r2_getf _ _ _)) <|
  RT_c (RE_p (r2_load _ _ _)) <|
  RT_c (RE_p (r2_st _ _)) <|
  RT_c (RE_p (r2_load _ _ _)) <|
  RT_c (RE_p (r2_st _ _)) <|
  RT_c (RE_p (r2_load _ _ _)) <|
  RT_c (RE_p (r2_st _ _)) <|
  RT_c (RE_p (r2_load _ _ _)) <|
  RT_c (RE_p (r2_icmp _ _ _)) <|
  RT_c (RE_p (r2_st _ _)) <|
  RT_c (RE_p (r2_st _ _)) <|
  RT_c (RE_p (r2_st _ _)) <|
  RT_c (RE_p (r2_store _ _ _)) <|
  RT_c (RE_p (r2_iinc _ _ _)) <|
  RT_c (RE_p (r2_st _ _)) <|
  RT_c (RE_p (r2_load _ _ _)) <|
  RT_c (RE_q) <|
  RT_n
set_option maxRecDepth 20000 in
theorem rtX5_farAt : RT tbX5_farAt ubX5_farAt :=
  RT_c (RE_p (r2_load _ _ _)) <|
  RT_c (RE_p (r2_load _ _ _)) <|
  RT_c (RE_p (r2_load _ _ _)) <|
  RT_c (RE_q) <|
  RT_c (RE_p (r2_if _ _ _)) <|
  RT_c (RE_p (r2_load _ _ _)) <|
  RT_c (RE_p (r2_getf _ _ _)) <|
  RT_c (RE_p (r2_load _ _ _)) <|
  RT_c (RE_p (r2_getf _ _ _)) <|
  RT_c (RE_p (r2_load _ _ _)) <|
  RT_c (RE_p (r2_st _ _)) <|
  RT_c (RE_p (r2_load _ _ _)) <|
  RT_c (RE_p (r2_st _ _)) <|
  RT_c (RE_p (r2_iald _)) <|
  RT_c (RE_p (r2_st _ _)) <|
  RT_c (RE_p (r2_st _ _)) <|
  RT_c (RE_q) <|
  RT_n
set_option maxRecDepth 20000 in
theorem rtX5_isBeside : RT tbX5_isBeside ubX5_isBeside :=
  RT_c (RE_p (r2_st _ _)) <|
  RT_c (RE_p (r2_store _ _ _)) <|
  RT_c (RE_p (r2_st _ _)) <|
  RT_c (RE_p (r2_store _ _ _)) <|
  RT_c (RE_p (r2_load _ _ _)) <|
  RT_c (RE_p (r2_st _ _)) <|
  RT_c (RE_p (r2_icmp _ _ _)) <|
  RT_c (RE_p (r2_load _ _ _)) <|
  RT_c (RE_p (r2_if _ _ _)) <|
  RT_c (RE_p (r2_load _ _ _)) <|
  RT_c (RE_p (r2_load _ _ _)) <|
  RT_c (RE_p (r2_load _ _ _)) <|
  RT_c (RE_q) <|
  RT_c (RE_p (r2_st _ _)) <|
  RT_c (RE_p (r2_load _ _ _)) <|
  RT_c (RE_p (r2_load _ _ _)) <|
  RT_c (RE_q) <|
  RT_c (RE_p (r2_st _ _)) <|
  RT_c (RE_q) <|
  RT_c (RE_p (r2_load _ _ _)) <|
  RT_c (RE_p (r2_icmp _ _ _)) <|
  RT_c (RE_p (r2_st _ _)) <|
  RT_c (RE_p (r2_st _ _)) <|
  RT_c (RE_p (r2_st _ _)) <|
  RT_c (RE_p (r2_store _ _ _)) <|
  RT_c (RE_p (r2_iinc _ _ _)) <|
  RT_c (RE_p (r2_st _ _)) <|
  RT_c (RE_p (r2_load _ _ _)) <|
  RT_c (RE_q) <|
  RT_n
set_option maxRecDepth 20000 in
theorem rtX5_measures : RT tbX5_measures ubX5_measures :=
  RT_c (RE_p (r2_st _ _)) <|
  RT_c (RE_p (r2_store _ _ _)) <|
  RT_c (RE_p (r2_clr _ (r2_load _ _ _))) <|
  RT_c (RE_p (r2_st _ _)) <|
  RT_c (RE_p (r2_icmp _ _ _)) <|
  RT_c (RE_p (r2_st _ _)) <|
  RT_c (RE_p (r2_store _ _ _)) <|
  RT_c (RE_p (r2_clr _ (r2_load _ _ _))) <|
  RT_c (RE_p (r2_load _ _ _)) <|
  RT_c (RE_p (r2_getf _ _ _)) <|
  RT_c (RE_p (r2_icmp _ _ _)) <|
  RT_c (RE_p (r2_st _ _)) <|
  RT_c (RE_p (r2_store _ _ _)) <|
  RT_c (RE_p (r2_clr _ (r2_load _ _ _))) <|
  RT_c (RE_p (r2_load _ _ _)) <|
  RT_c (RE_p (r2_getf _ _ _)) <|
  RT_c (RE_p (r2_load _ _ _)) <|
  RT_c (RE_p (r2_getf _ _ _)) <|
  RT_c (RE_p (r2_st _ _)) <|
  RT_c (RE_p (r2_icmp _ _ _)) <|
  RT_c (RE_p (r2_load _ _ _)) <|
  RT_c (RE_p (r2_getf _ _ _)) <|
  RT_c (RE_p (r2_load _ _ _)) <|
  RT_c (RE_p (r2_st _ _)) <|
  RT_c (RE_p (r2_load _ _ _)) <|
  RT_c (RE_p (r2_st _ _)) <|
  RT_c (RE_p (r2_store _ _ _)) <|
  RT_c (RE_p (r2_load _ _ _)) <|
  RT_c (RE_p (r2_if _ _ _)) <|
  RT_c (RE_p (r2_load _ _ _)) <|
  RT_c (RE_p (r2_getf _ _ _)) <|
  RT_c (RE_p (r2_load _ _ _)) <|
  RT_c (RE_p (r2_load _ _ _)) <|
  RT_c (RE_p (r2_load _ _ _)) <|
  RT_c (RE_p (r2_load _ _ _)) <|
  RT_c (RE_p (r2_load _ _ _)) <|
  RT_c (RE_q) <|
  RT_c (RE_p (r2_if _ _ _)) <|
  RT_c (RE_p (r2_st _ _)) <|
  RT_c (RE_p (r2_st _ _)) <|
  RT_c (RE_p (r2_st _ _)) <|
  RT_c (RE_p (r2_iast _)) <|
  RT_c (RE_p (r2_st _ _)) <|
  RT_c (RE_p (r2_load _ _ _)) <|
  RT_c (RE_p (r2_getf _ _ _)) <|
  RT_c (RE_p (r2_load _ _ _)) <|
  RT_c (RE_p (r2_iald _)) <|
  RT_c (RE_p (r2_if _ _ _)) <|
  RT_c (RE_p (r2_load _ _ _)) <|
  RT_c (RE_p (r2_load _ _ _)) <|
  RT_c (RE_p (r2_load _ _ _)) <|
  RT_c (RE_p (r2_load _ _ _)) <|
  RT_c (RE_p (r2_st _ _)) <|
  RT_c (RE_p (r2_st _ _)) <|
  RT_c (RE_q) <|
  RT_c (RE_p (r2_if _ _ _)) <|
  RT_c (RE_p (r2_load _ _ _)) <|
  RT_c (RE_p (r2_getf _ _ _)) <|
  RT_c (RE_p (r2_load _ _ _)) <|
  RT_c (RE_p (r2_load _ _ _)) <|
  RT_c (RE_p (r2_iast _)) <|
  RT_c (RE_p (r2_iinc _ _ _)) <|
  RT_c (RE_p (r2_st _ _)) <|
  RT_c (RE_p (r2_iinc _ _ _)) <|
  RT_c (RE_p (r2_st _ _)) <|
  RT_c (RE_p (r2_iinc _ _ _)) <|
  RT_c (RE_p (r2_st _ _)) <|
  RT_c (RE_q) <|
  RT_n
set_option maxRecDepth 20000 in
theorem rtX5_wayStep : RT tbX5_wayStep ubX5_wayStep :=
  RT_c (RE_p (r2_load _ _ _)) <|
  RT_c (RE_p (r2_getf _ _ _)) <|
  RT_c (RE_p (r2_store _ _ _)) <|
  RT_c (RE_p (r2_load _ _ _)) <|
  RT_c (RE_p (r2_getf _ _ _)) <|
  RT_c (RE_p (r2_store _ _ _)) <|
  RT_c (RE_p (r2_st _ _)) <|
  RT_c (RE_p (r2_store _ _ _)) <|
  RT_c (RE_p (r2_st _ _)) <|
  RT_c (RE_p (r2_store _ _ _)) <|
  RT_c (RE_p (r2_clr _ (r2_load _ _ _))) <|
  RT_c (RE_p (r2_load _ _ _)) <|
  RT_c (RE_p (r2_icmp _ _ _)) <|
  RT_c (RE_p (r2_load _ _ _)) <|
  RT_c (RE_p (r2_load _ _ _)) <|
  RT_c (RE_p (r2_load _ _ _)) <|
  RT_c (RE_q) <|
  RT_c (RE_p (r2_store _ _ _)) <|
  RT_c (RE_p (r2_st _ _)) <|
  RT_c (RE_p (r2_store _ _ _)) <|
  RT_c (RE_p (r2_st _ _)) <|
  RT_c (RE_p (r2_store _ _ _)) <|
  RT_c (RE_p (r2_load _ _ _)) <|
  RT_c (RE_p (r2_if _ _ _)) <|
  RT_c (RE_p (r2_load _ _ _)) <|
  RT_c (RE_p (r2_load _ _ _)) <|
  RT_c (RE_p (r2_load _ _ _)) <|
  RT_c (RE_q) <|
  RT_c (RE_p (r2_st _ _)) <|
  RT_c (RE_p (r2_load _ _ _)) <|
  RT_c (RE_p (r2_load _ _ _)) <|
  RT_c (RE_q) <|
  RT_c (RE_p (r2_st _ _)) <|
  RT_c (RE_q) <|
  RT_c (RE_p (r2_load _ _ _)) <|
  RT_c (RE_p (r2_st _ _)) <|
  RT_c (RE_p (r2_st _ _)) <|
  RT_c (RE_p (r2_icmp _ _ _)) <|
  RT_c (RE_p (r2_load _ _ _)) <|
  RT_c (RE_p (r2_st _ _)) <|
  RT_c (RE_p (r2_load _ _ _)) <|
  RT_c (RE_p (r2_store _ _ _)) <|
  RT_c (RE_p (r2_iinc _ _ _)) <|
  RT_c (RE_p (r2_st _ _)) <|
  RT_c (RE_p (r2_load _ _ _)) <|
  RT_c (RE_p (r2_load _ _ _)) <|
  RT_c (RE_q) <|
  RT_c (RE_p (r2_st _ _)) <|
  RT_c (RE_p (r2_store _ _ _)) <|
  RT_c (RE_p (r2_load _ _ _)) <|
  RT_c (RE_p (r2_load _ _ _)) <|
  RT_c (RE_q) <|
  RT_c (RE_p (r2_st _ _)) <|
  RT_c (RE_p (r2_store _ _ _)) <|
  RT_c (RE_p (r2_iinc _ _ _)) <|
  RT_c (RE_p (r2_st _ _)) <|
  RT_c (RE_p (r2_load _ _ _)) <|
  RT_c (RE_q) <|
  RT_n
set_option maxRecDepth 20000 in
theorem rtX5_way : RT tbX5_way ubX5_way :=
  RT_c (RE_p (r2_load _ _ _)) <|
  RT_c (RE_p (r2_load _ _ _)) <|
  RT_c (RE_q) <|
  RT_c (RE_p (r2_if _ _ _)) <|
  RT_c (RE_p (r2_st _ _)) <|
  RT_c (RE_q) <|
  RT_c (RE_p (r2_load _ _ _)) <|
  RT_c (RE_p (r2_st _ _)) <|
  RT_c (RE_p (r2_st _ _)) <|
  RT_c (RE_p (r2_st _ _)) <|
  RT_c (RE_q) <|
  RT_c (RE_p (r2_if _ _ _)) <|
  RT_c (RE_p (r2_st _ _)) <|
  RT_c (RE_q) <|
  RT_c (RE_p (r2_load _ _ _)) <|
  RT_c (RE_p (r2_load _ _ _)) <|
  RT_c (RE_q) <|
  RT_c (RE_p (r2_load _ _ _)) <|
  RT_c (RE_p (r2_load _ _ _)) <|
  RT_c (RE_p (r2_getf _ _ _)) <|
  RT_c (RE_p (r2_load _ _ _)) <|
  RT_c (RE_p (r2_getf _ _ _)) <|
  RT_c (RE_q) <|
  RT_c (RE_p (r2_store _ _ _)) <|
  RT_c (RE_p (r2_load _ _ _)) <|
  RT_c (RE_p (r2_if _ _ _)) <|
  RT_c (RE_p (r2_load _ _ _)) <|
  RT_c (RE_p (r2_if _ _ _)) <|
  RT_c (RE_p (r2_load _ _ _)) <|
  RT_c (RE_p (r2_st _ _)) <|
  RT_c (RE_p (r2_load _ _ _)) <|
  RT_c (RE_p (r2_load _ _ _)) <|
  RT_c (RE_p (r2_icmp _ _ _)) <|
  RT_c (RE_p (r2_load _ _ _)) <|
  RT_c (RE_p (r2_load _ _ _)) <|
  RT_c (RE_q) <|
  RT_c (RE_p (r2_st _ _)) <|
  RT_c (RE_p (r2_st _ _)) <|
  RT_c (RE_q) <|
  RT_n
set_option maxRecDepth 20000 in
theorem rtX5_seenBy : RT tbX5_seenBy ubX5_seenBy :=
  RT_c (RE_p (r2_st _ _)) <|
  RT_c (RE_p (r2_store _ _ _)) <|
  RT_c (RE_p (r2_load _ _ _)) <|
  RT_c (RE_p (r2_st _ _)) <|
  RT_c (RE_p (r2_st _ _)) <|
  RT_c (RE_p (r2_store _ _ _)) <|
  RT_c (RE_p (r2_clr _ (r2_load _ _ _))) <|
  RT_c (RE_p (r2_if _ _ _)) <|
  RT_c (RE_p (r2_load _ _ _)) <|
  RT_c (RE_p (r2_if _ _ _)) <|
  RT_c (RE_p (r2_load _ _ _)) <|
  RT_c (RE_p (r2_load _ _ _)) <|
  RT_c (RE_p (r2_st _ _)) <|
  RT_c (RE_p (r2_load _ _ _)) <|
  RT_c (RE_p (r2_st _ _)) <|
  RT_c (RE_p (r2_st _ _)) <|
  RT_c (RE_p (r2_st _ _)) <|
  RT_c (RE_p (r2_st _ _)) <|
  RT_c (RE_q) <|
  RT_c (RE_p (r2_store _ _ _)) <|
  RT_c (RE_p (r2_iinc _ _ _)) <|
  RT_c (RE_p (r2_st _ _)) <|
  RT_c (RE_p (r2_load _ _ _)) <|
  RT_c (RE_p (r2_if _ _ _)) <|
  RT_c (RE_p (r2_load _ _ _)) <|
  RT_c (RE_p (r2_getf _ _ _)) <|
  RT_c (RE_q) <|
  RT_c (RE_p (r2_load _ _ _)) <|
  RT_c (RE_p (r2_getf _ _ _)) <|
  RT_c (RE_q) <|
  RT_c (RE_p (r2_st _ _)) <|
  RT_c (RE_p (r2_st _ _)) <|
  RT_c (RE_p (r2_st _ _)) <|
  RT_c (RE_p (r2_store _ _ _)) <|
  RT_c (RE_p (r2_load _ _ _)) <|
  RT_c (RE_q) <|
  RT_c (RE_p (r2_load _ _ _)) <|
  RT_c (RE_q) <|
  RT_n
set_option maxRecDepth 20000 in
theorem rtX5_most : RT tbX5_most ubX5_most :=
  RT_c (RE_p (r2_load _ _ _)) <|
  RT_c (RE_p (r2_st _ _)) <|
  RT_c (RE_p (r2_st _ _)) <|
  RT_c (RE_p (r2_st _ _)) <|
  RT_c (RE_q) <|
  RT_c (RE_p (r2_if _ _ _)) <|
  RT_c (RE_p (r2_load _ _ _)) <|
  RT_c (RE_p (r2_st _ _)) <|
  RT_c (RE_p (r2_st _ _)) <|
  RT_c (RE_p (r2_st _ _)) <|
  RT_c (RE_q) <|
  RT_c (RE_p (r2_if _ _ _)) <|
  RT_c (RE_p (r2_st _ _)) <|
  RT_c (RE_q) <|
  RT_c (RE_p (r2_load _ _ _)) <|
  RT_c (RE_p (r2_getf _ _ _)) <|
  RT_c (RE_p (r2_if _ _ _)) <|
  RT_c (RE_p (r2_st _ _)) <|
  RT_c (RE_q) <|
  RT_c (RE_p (r2_load _ _ _)) <|
  RT_c (RE_q) <|
  RT_c (RE_p (r2_st _ _)) <|
  RT_c (RE_p (r2_store _ _ _)) <|
  RT_c (RE_p (r2_st _ _)) <|
  RT_c (RE_p (r2_store _ _ _)) <|
  RT_c (RE_p (r2_st _ _)) <|
  RT_c (RE_p (r2_store _ _ _)) <|
  RT_c (RE_p (r2_clr _ (r2_load _ _ _))) <|
  RT_c (RE_p (r2_st _ _)) <|
  RT_c (RE_p (r2_st _ _)) <|
  RT_c (RE_p (r2_load _ _ _)) <|
  RT_c (RE_p (r2_st _ _)) <|
  RT_c (RE_p (r2_st _ _)) <|
  RT_c (RE_p (r2_icmp _ _ _)) <|
  RT_c (RE_p (r2_load _ _ _)) <|
  RT_c (RE_p (r2_load _ _ _)) <|
  RT_c (RE_p (r2_load _ _ _)) <|
  RT_c (RE_q) <|
  RT_c (RE_p (r2_store _ _ _)) <|
  RT_c (RE_p (r2_load _ _ _)) <|
  RT_c (RE_p (r2_load _ _ _)) <|
  RT_c (RE_p (r2_icmp _ _ _)) <|
  RT_c (RE_p (r2_load _ _ _)) <|
  RT_c (RE_p (r2_st _ _)) <|
  RT_c (RE_p (r2_load _ _ _)) <|
  RT_c (RE_p (r2_store _ _ _)) <|
  RT_c (RE_p (r2_load _ _ _)) <|
  RT_c (RE_p (r2_load _ _ _)) <|
  RT_c (RE_p (r2_icmp _ _ _)) <|
  RT_c (RE_p (r2_load _ _ _)) <|
  RT_c (RE_p (r2_st _ _)) <|
  RT_c (RE_p (r2_load _ _ _)) <|
  RT_c (RE_p (r2_store _ _ _)) <|
  RT_c (RE_p (r2_iinc _ _ _)) <|
  RT_c (RE_p (r2_st _ _)) <|
  RT_c (RE_p (r2_load _ _ _)) <|
  RT_c (RE_p (r2_if _ _ _)) <|
  RT_c (RE_p (r2_load _ _ _)) <|
  RT_c (RE_p (r2_if _ _ _)) <|
  RT_c (RE_p (r2_load _ _ _)) <|
  RT_c (RE_p (r2_st _ _)) <|
  RT_c (RE_p (r2_load _ _ _)) <|
  RT_c (RE_p (r2_load _ _ _)) <|
  RT_c (RE_p (r2_icmp _ _ _)) <|
  RT_c (RE_p (r2_load _ _ _)) <|
  RT_c (RE_p (r2_st _ _)) <|
  RT_c (RE_p (r2_load _ _ _)) <|
  RT_c (RE_p (r2_st _ _)) <|
  RT_c (RE_p (r2_st _ _)) <|
  RT_c (RE_p (r2_load _ _ _)) <|
  RT_c (RE_p (r2_st _ _)) <|
  RT_c (RE_p (r2_st _ _)) <|
  RT_c (RE_p (r2_st _ _)) <|
  RT_c (RE_p (r2_st _ _)) <|
  RT_c (RE_p (r2_st _ _)) <|
  RT_c (RE_p (r2_st _ _)) <|
  RT_c (RE_p (r2_st _ _)) <|
  RT_c (RE_q) <|
  RT_n
set_option maxRecDepth 20000 in
theorem rtX5_areBeside : RT tbX5_areBeside ubX5_areBeside :=
  RT_c (RE_p (r2_load _ _ _)) <|
  RT_c (RE_p (r2_load _ _ _)) <|
  RT_c (RE_p (r2_getf _ _ _)) <|
  RT_c (RE_p (r2_st _ _)) <|
  RT_c (RE_p (r2_load _ _ _)) <|
  RT_c (RE_p (r2_load _ _ _)) <|
  RT_c (RE_p (r2_getf _ _ _)) <|
  RT_c (RE_p (r2_st _ _)) <|
  RT_c (RE_p (r2_st _ _)) <|
  RT_c (RE_p (r2_store _ _ _)) <|
  RT_c (RE_p (r2_load _ _ _)) <|
  RT_c (RE_p (r2_load _ _ _)) <|
  RT_c (RE_p (r2_getf _ _ _)) <|
  RT_c (RE_p (r2_st _ _)) <|
  RT_c (RE_p (r2_load _ _ _)) <|
  RT_c (RE_p (r2_load _ _ _)) <|
  RT_c (RE_p (r2_getf _ _ _)) <|
  RT_c (RE_p (r2_st _ _)) <|
  RT_c (RE_p (r2_st _ _)) <|
  RT_c (RE_p (r2_store _ _ _)) <|
  RT_c (RE_p (r2_load _ _ _)) <|
  RT_c (RE_p (r2_load _ _ _)) <|
  RT_c (RE_p (r2_st _ _)) <|
  RT_c (RE_p (r2_load _ _ _)) <|
  RT_c (RE_p (r2_load _ _ _)) <|
  RT_c (RE_p (r2_st _ _)) <|
  RT_c (RE_p (r2_st _ _)) <|
  RT_c (RE_p (r2_st _ _)) <|
  RT_c (RE_p (r2_icmp _ _ _)) <|
  RT_c (RE_p (r2_st _ _)) <|
  RT_c (RE_p (r2_st _ _)) <|
  RT_c (RE_p (r2_st _ _)) <|
  RT_c (RE_q) <|
  RT_n
set_option maxRecDepth 20000 in
theorem rtX5_flat : RT tbX5_flat ubX5_flat :=
  RT_c (RE_p (r2_load _ _ _)) <|
  RT_c (RE_p (r2_load _ _ _)) <|
  RT_c (RE_q) <|
  RT_c (RE_p (r2_if _ _ _)) <|
  RT_c (RE_p (r2_st _ _)) <|
  RT_c (RE_q) <|
  RT_c (RE_p (r2_st _ _)) <|
  RT_c (RE_p (r2_load _ _ _)) <|
  RT_c (RE_p (r2_st _ _)) <|
  RT_c (RE_p (r2_store _ _ _)) <|
  RT_c (RE_p (r2_st _ _)) <|
  RT_c (RE_p (r2_store _ _ _)) <|
  RT_c (RE_p (r2_clr _ (r2_load _ _ _))) <|
  RT_c (RE_p (r2_load _ _ _)) <|
  RT_c (RE_p (r2_getf _ _ _)) <|
  RT_c (RE_p (r2_load _ _ _)) <|
  RT_c (RE_p (r2_getf _ _ _)) <|
  RT_c (RE_p (r2_st _ _)) <|
  RT_c (RE_p (r2_icmp _ _ _)) <|
  RT_c (RE_p (r2_st _ _)) <|
  RT_c (RE_p (r2_store _ _ _)) <|
  RT_c (RE_p (r2_clr _ (r2_load _ _ _))) <|
  RT_c (RE_p (r2_load _ _ _)) <|
  RT_c (RE_p (r2_getf _ _ _)) <|
  RT_c (RE_p (r2_load _ _ _)) <|
  RT_c (RE_p (r2_getf _ _ _)) <|
  RT_c (RE_p (r2_st _ _)) <|
  RT_c (RE_p (r2_icmp _ _ _)) <|
  RT_c (RE_p (r2_st _ _)) <|
  RT_c (RE_p (r2_store _ _ _)) <|
  RT_c (RE_p (r2_clr _ (r2_load _ _ _))) <|
  RT_c (RE_p (r2_load _ _ _)) <|
  RT_c (RE_p (r2_getf _ _ _)) <|
  RT_c (RE_p (r2_load _ _ _)) <|
  RT_c (RE_p (r2_getf _ _ _)) <|
  RT_c (RE_p (r2_st _ _)) <|
  RT_c (RE_p (r2_icmp _ _ _)) <|
  RT_c (RE_p (r2_load _ _ _)) <|
  RT_c (RE_p (r2_load _ _ _)) <|
  RT_c (RE_p (r2_st _ _)) <|
  RT_c (RE_p (r2_st _ _)) <|
  RT_c (RE_p (r2_st _ _)) <|
  RT_c (RE_p (r2_st _ _)) <|
  RT_c (RE_p (r2_st _ _)) <|
  RT_c (RE_p (r2_if _ _ _)) <|
  RT_c (RE_p (r2_load _ _ _)) <|
  RT_c (RE_p (r2_load _ _ _)) <|
  RT_c (RE_p (r2_load _ _ _)) <|
  RT_c (RE_q) <|
  RT_c (RE_p (r2_if _ _ _)) <|
  RT_c (RE_p (r2_load _ _ _)) <|
  RT_c (RE_p (r2_getf _ _ _)) <|
  RT_c (RE_p (r2_load _ _ _)) <|
  RT_c (RE_p (r2_iald _)) <|
  RT_c (RE_p (r2_load _ _ _)) <|
  RT_c (RE_p (r2_getf _ _ _)) <|
  RT_c (RE_p (r2_load _ _ _)) <|
  RT_c (RE_p (r2_iald _)) <|
  RT_c (RE_p (r2_icmp _ _ _)) <|
  RT_c (RE_p (r2_st _ _)) <|
  RT_c (RE_p (r2_st _ _)) <|
  RT_c (RE_p (r2_st _ _)) <|
  RT_c (RE_p (r2_store _ _ _)) <|
  RT_c (RE_p (r2_load _ _ _)) <|
  RT_c (RE_p (r2_load _ _ _)) <|
  RT_c (RE_p (r2_if _ _ _)) <|
  RT_c (RE_p (r2_st _ _)) <|
  RT_c (RE_p (r2_load _ _ _)) <|
  RT_c (RE_p (r2_st _ _)) <|
  RT_c (RE_p (r2_st _ _)) <|
  RT_c (RE_p (r2_st _ _)) <|
  RT_c (RE_p (r2_st _ _)) <|
  RT_c (RE_p (r2_store _ _ _)) <|
  RT_c (RE_p (r2_iinc _ _ _)) <|
  RT_c (RE_p (r2_st _ _)) <|
  RT_c (RE_p (r2_iinc _ _ _)) <|
  RT_c (RE_p (r2_st _ _)) <|
  RT_c (RE_p (r2_iinc _ _ _)) <|
  RT_c (RE_p (r2_st _ _)) <|
  RT_c (RE_p (r2_load _ _ _)) <|
  RT_c (RE_q) <|
  RT_c (RE_q) <|
  RT_n
set_option maxRecDepth 20000 in
theorem rtX5_begins : RT tbX5_begins ubX5_begins :=
  RT_c (RE_p (r2_st _ _)) <|
  RT_c (RE_p (r2_store _ _ _)) <|
  RT_c (RE_p (r2_st _ _)) <|
  RT_c (RE_p (r2_store _ _ _)) <|
  RT_c (RE_p (r2_clr _ (r2_load _ _ _))) <|
  RT_c (RE_p (r2_load _ _ _)) <|
  RT_c (RE_p (r2_icmp _ _ _)) <|
  RT_c (RE_p (r2_load _ _ _)) <|
  RT_c (RE_p (r2_if _ _ _)) <|
  RT_c (RE_p (r2_load _ _ _)) <|
  RT_c (RE_p (r2_load _ _ _)) <|
  RT_c (RE_p (r2_load _ _ _)) <|
  RT_c (RE_q) <|
  RT_c (RE_p (r2_st _ _)) <|
  RT_c (RE_p (r2_st _ _)) <|
  RT_c (RE_p (r2_store _ _ _)) <|
  RT_c (RE_p (r2_load _ _ _)) <|
  RT_c (RE_p (r2_load _ _ _)) <|
  RT_c (RE_p (r2_load _ _ _)) <|
  RT_c (RE_q) <|
  RT_c (RE_p (r2_st _ _)) <|
  RT_c (RE_p (r2_st _ _)) <|
  RT_c (RE_p (r2_store _ _ _)) <|
  RT_c (RE_p (r2_load _ _ _)) <|
  RT_c (RE_p (r2_load _ _ _)) <|
  RT_c (RE_p (r2_load _ _ _)) <|
  RT_c (RE_q) <|
  RT_c (RE_p (r2_store _ _ _)) <|
  RT_c (RE_p (r2_st _ _)) <|
  RT_c (RE_p (r2_store _ _ _)) <|
  RT_c (RE_p (r2_load _ _ _)) <|
  RT_c (RE_p (r2_load _ _ _)) <|
  RT_c (RE_p (r2_getf _ _ _)) <|
  RT_c (RE_p (r2_icmp _ _ _)) <|
  RT_c (RE_p (r2_load _ _ _)) <|
  RT_c (RE_p (r2_if _ _ _)) <|
  RT_c (RE_p (r2_load _ _ _)) <|
  RT_c (RE_p (r2_getf _ _ _)) <|
  RT_c (RE_p (r2_load _ _ _)) <|
  RT_c (RE_q) <|
  RT_c (RE_p (r2_if _ _ _)) <|
  RT_c (RE_p (r2_load _ _ _)) <|
  RT_c (RE_p (r2_load _ _ _)) <|
  RT_c (RE_p (r2_load _ _ _)) <|
  RT_c (RE_p (r2_getf _ _ _)) <|
  RT_c (RE_p (r2_load _ _ _)) <|
  RT_c (RE_p (r2_getf _ _ _)) <|
  RT_c (RE_p (r2_load _ _ _)) <|
  RT_c (RE_p (r2_st _ _)) <|
  RT_c (RE_p (r2_load _ _ _)) <|
  RT_c (RE_p (r2_st _ _)) <|
  RT_c (RE_p (r2_load _ _ _)) <|
  RT_c (RE_p (r2_st _ _)) <|
  RT_c (RE_p (r2_iald _)) <|
  RT_c (RE_q) <|
  RT_c (RE_p (r2_load _ _ _)) <|
  RT_c (RE_p (r2_getf _ _ _)) <|
  RT_c (RE_p (r2_load _ _ _)) <|
  RT_c (RE_p (r2_load _ _ _)) <|
  RT_c (RE_p (r2_getf _ _ _)) <|
  RT_c (RE_p (r2_load _ _ _)) <|
  RT_c (RE_p (r2_st _ _)) <|
  RT_c (RE_p (r2_st _ _)) <|
  RT_c (RE_p (r2_load _ _ _)) <|
  RT_c (RE_p (r2_st _ _)) <|
  RT_c (RE_p (r2_iald _)) <|
  RT_c (RE_p (r2_icmp _ _ _)) <|
  RT_c (RE_p (r2_st _ _)) <|
  RT_c (RE_p (r2_st _ _)) <|
  RT_c (RE_p (r2_st _ _)) <|
  RT_c (RE_p (r2_store _ _ _)) <|
  RT_c (RE_p (r2_iinc _ _ _)) <|
  RT_c (RE_p (r2_st _ _)) <|
  RT_c (RE_p (r2_iinc _ _ _)) <|
  RT_c (RE_p (r2_st _ _)) <|
  RT_c (RE_p (r2_load _ _ _)) <|
  RT_c (RE_q) <|
  RT_n
set_option maxRecDepth 20000 in
theorem rtX5_begunBy : RT tbX5_begunBy ubX5_begunBy :=
  RT_c (RE_p (r2_st _ _)) <|
  RT_c (RE_p (r2_store _ _ _)) <|
  RT_c (RE_p (r2_st _ _)) <|
  RT_c (RE_p (r2_store _ _ _)) <|
  RT_c (RE_p (r2_st _ _)) <|
  RT_c (RE_p (r2_store _ _ _)) <|
  RT_c (RE_p (r2_st _ _)) <|
  RT_c (RE_p (r2_store _ _ _)) <|
  RT_c (RE_p (r2_clr _ (r2_load _ _ _))) <|
  RT_c (RE_p (r2_load _ _ _)) <|
  RT_c (RE_p (r2_getf _ _ _)) <|
  RT_c (RE_p (r2_icmp _ _ _)) <|
  RT_c (RE_p (r2_st _ _)) <|
  RT_c (RE_p (r2_store _ _ _)) <|
  RT_c (RE_p (r2_load _ _ _)) <|
  RT_c (RE_p (r2_load _ _ _)) <|
  RT_c (RE_p (r2_getf _ _ _)) <|
  RT_c (RE_p (r2_load _ _ _)) <|
  RT_c (RE_p (r2_getf _ _ _)) <|
  RT_c (RE_p (r2_st _ _)) <|
  RT_c (RE_p (r2_icmp _ _ _)) <|
  RT_c (RE_p (r2_load _ _ _)) <|
  RT_c (RE_p (r2_load _ _ _)) <|
  RT_c (RE_p (r2_load _ _ _)) <|
  RT_c (RE_p (r2_load _ _ _)) <|
  RT_c (RE_p (r2_load _ _ _)) <|
  RT_c (RE_p (r2_load _ _ _)) <|
  RT_c (RE_q) <|
  RT_c (RE_p (r2_if _ _ _)) <|
  RT_c (RE_p (r2_iinc _ _ _)) <|
  RT_c (RE_p (r2_load _ _ _)) <|
  RT_c (RE_p (r2_if _ _ _)) <|
  RT_c (RE_p (r2_load _ _ _)) <|
  RT_c (RE_p (r2_getf _ _ _)) <|
  RT_c (RE_p (r2_load _ _ _)) <|
  RT_c (RE_p (r2_st _ _)) <|
  RT_c (RE_p (r2_load _ _ _)) <|
  RT_c (RE_p (r2_st _ _)) <|
  RT_c (RE_p (r2_st _ _)) <|
  RT_c (RE_p (r2_load _ _ _)) <|
  RT_c (RE_p (r2_store _ _ _)) <|
  RT_c (RE_p (r2_load _ _ _)) <|
  RT_c (RE_p (r2_getf _ _ _)) <|
  RT_c (RE_p (r2_load _ _ _)) <|
  RT_c (RE_p (r2_st _ _)) <|
  RT_c (RE_p (r2_load _ _ _)) <|
  RT_c (RE_p (r2_st _ _)) <|
  RT_c (RE_p (r2_store _ _ _)) <|
  RT_c (RE_p (r2_iinc _ _ _)) <|
  RT_c (RE_p (r2_st _ _)) <|
  RT_c (RE_p (r2_iinc _ _ _)) <|
  RT_c (RE_p (r2_st _ _)) <|
  RT_c (RE_p (r2_load _ _ _)) <|
  RT_c (RE_p (r2_if _ _ _)) <|
  RT_c (RE_p (r2_load _ _ _)) <|
  RT_c (RE_p (r2_st _ _)) <|
  RT_c (RE_p (r2_load _ _ _)) <|
  RT_c (RE_p (r2_st _ _)) <|
  RT_c (RE_p (r2_icmp _ _ _)) <|
  RT_c (RE_p (r2_load _ _ _)) <|
  RT_c (RE_p (r2_st _ _)) <|
  RT_c (RE_p (r2_load _ _ _)) <|
  RT_c (RE_q) <|
  RT_n
set_option maxRecDepth 20000 in
theorem rtX5_begun : RT tbX5_begun ubX5_begun :=
  RT_c (RE_p (r2_load _ _ _)) <|
  RT_c (RE_q) <|
  RT_c (RE_p (r2_if _ _ _)) <|
  RT_c (RE_p (r2_load _ _ _)) <|
  RT_c (RE_p (r2_st _ _)) <|
  RT_c (RE_q) <|
  RT_c (RE_q) <|
  RT_c (RE_p (r2_load _ _ _)) <|
  RT_c (RE_p (r2_st _ _)) <|
  RT_c (RE_p (r2_st _ _)) <|
  RT_c (RE_p (r2_st _ _)) <|
  RT_c (RE_q) <|
  RT_c (RE_p (r2_if _ _ _)) <|
  RT_c (RE_p (r2_load _ _ _)) <|
  RT_c (RE_p (r2_st _ _)) <|
  RT_c (RE_p (r2_st _ _)) <|
  RT_c (RE_p (r2_st _ _)) <|
  RT_c (RE_q) <|
  RT_c (RE_p (r2_if _ _ _)) <|
  RT_c (RE_p (r2_load _ _ _)) <|
  RT_c (RE_p (r2_st _ _)) <|
  RT_c (RE_p (r2_st _ _)) <|
  RT_c (RE_p (r2_st _ _)) <|
  RT_c (RE_q) <|
  RT_c (RE_p (r2_if _ _ _)) <|
  RT_c (RE_p (r2_load _ _ _)) <|
  RT_c (RE_p (r2_st _ _)) <|
  RT_c (RE_p (r2_st _ _)) <|
  RT_c (RE_p (r2_st _ _)) <|
  RT_c (RE_q) <|
  RT_c (RE_p (r2_if _ _ _)) <|
  RT_c (RE_p (r2_load _ _ _)) <|
  RT_c (RE_p (r2_st _ _)) <|
  RT_c (RE_q) <|
  RT_c (RE_q) <|
  RT_c (RE_p (r2_load _ _ _)) <|
  RT_c (RE_p (r2_getf _ _ _)) <|
  RT_c (RE_p (r2_if _ _ _)) <|
  RT_c (RE_p (r2_load _ _ _)) <|
  RT_c (RE_p (r2_st _ _)) <|
  RT_c (RE_q) <|
  RT_c (RE_q) <|
  RT_c (RE_p (r2_load _ _ _)) <|
  RT_c (RE_p (r2_load _ _ _)) <|
  RT_c (RE_p (r2_load _ _ _)) <|
  RT_c (RE_p (r2_load _ _ _)) <|
  RT_c (RE_p (r2_load _ _ _)) <|
  RT_c (RE_p (r2_load _ _ _)) <|
  RT_c (RE_p (r2_getf _ _ _)) <|
  RT_c (RE_p (r2_st _ _)) <|
  RT_c (RE_p (r2_st _ _)) <|
  RT_c (RE_q) <|
  RT_c (RE_p (r2_store _ _ _)) <|
  RT_c (RE_p (r2_load _ _ _)) <|
  RT_c (RE_p (r2_if _ _ _)) <|
  RT_c (RE_p (r2_load _ _ _)) <|
  RT_c (RE_p (r2_st _ _)) <|
  RT_c (RE_p (r2_load _ _ _)) <|
  RT_c (RE_p (r2_load _ _ _)) <|
  RT_c (RE_p (r2_st _ _)) <|
  RT_c (RE_p (r2_load _ _ _)) <|
  RT_c (RE_p (r2_st _ _)) <|
  RT_c (RE_p (r2_load _ _ _)) <|
  RT_c (RE_p (r2_st _ _)) <|
  RT_c (RE_p (r2_load _ _ _)) <|
  RT_c (RE_p (r2_load _ _ _)) <|
  RT_c (RE_p (r2_load _ _ _)) <|
  RT_c (RE_q) <|
  RT_c (RE_q) <|
  RT_c (RE_q) <|
  RT_n
set_option maxRecDepth 20000 in
theorem rtX5_goesOn : RT tbX5_goesOn ubX5_goesOn :=
  RT_c (RE_p (r2_st _ _)) <|
  RT_c (RE_p (r2_store _ _ _)) <|
  RT_c (RE_p (r2_load _ _ _)) <|
  RT_c (RE_p (r2_store _ _ _)) <|
  RT_c (RE_p (r2_load _ _ _)) <|
  RT_c (RE_p (r2_load _ _ _)) <|
  RT_c (RE_p (r2_icmp _ _ _)) <|
  RT_c (RE_p (r2_load _ _ _)) <|
  RT_c (RE_p (r2_if _ _ _)) <|
  RT_c (RE_p (r2_load _ _ _)) <|
  RT_c (RE_p (r2_getf _ _ _)) <|
  RT_c (RE_p (r2_load _ _ _)) <|
  RT_c (RE_p (r2_load _ _ _)) <|
  RT_c (RE_p (r2_st _ _)) <|
  RT_c (RE_p (r2_iald _)) <|
  RT_c (RE_p (r2_load _ _ _)) <|
  RT_c (RE_p (r2_getf _ _ _)) <|
  RT_c (RE_p (r2_load _ _ _)) <|
  RT_c (RE_p (r2_load _ _ _)) <|
  RT_c (RE_p (r2_st _ _)) <|
  RT_c (RE_p (r2_load _ _ _)) <|
  RT_c (RE_p (r2_st _ _)) <|
  RT_c (RE_p (r2_iald _)) <|
  RT_c (RE_p (r2_icmp _ _ _)) <|
  RT_c (RE_p (r2_st _ _)) <|
  RT_c (RE_p (r2_st _ _)) <|
  RT_c (RE_p (r2_st _ _)) <|
  RT_c (RE_p (r2_store _ _ _)) <|
  RT_c (RE_p (r2_iinc _ _ _)) <|
  RT_c (RE_p (r2_st _ _)) <|
  RT_c (RE_p (r2_load _ _ _)) <|
  RT_c (RE_q) <|
  RT_n
set_option maxRecDepth 20000 in
theorem rtX5_run : RT tbX5_run ubX5_run :=
  RT_c (RE_p (r2_load _ _ _)) <|
  RT_c (RE_q) <|
  RT_c (RE_p (r2_if _ _ _)) <|
  RT_c (RE_p (r2_load _ _ _)) <|
  RT_c (RE_p (r2_st _ _)) <|
  RT_c (RE_q) <|
  RT_c (RE_q) <|
  RT_c (RE_p (r2_load _ _ _)) <|
  RT_c (RE_p (r2_st _ _)) <|
  RT_c (RE_p (r2_st _ _)) <|
  RT_c (RE_p (r2_st _ _)) <|
  RT_c (RE_q) <|
  RT_c (RE_p (r2_if _ _ _)) <|
  RT_c (RE_p (r2_load _ _ _)) <|
  RT_c (RE_p (r2_st _ _)) <|
  RT_c (RE_p (r2_st _ _)) <|
  RT_c (RE_p (r2_st _ _)) <|
  RT_c (RE_q) <|
  RT_c (RE_p (r2_if _ _ _)) <|
  RT_c (RE_p (r2_load _ _ _)) <|
  RT_c (RE_p (r2_st _ _)) <|
  RT_c (RE_p (r2_st _ _)) <|
  RT_c (RE_p (r2_st _ _)) <|
  RT_c (RE_q) <|
  RT_c (RE_p (r2_if _ _ _)) <|
  RT_c (RE_p (r2_load _ _ _)) <|
  RT_c (RE_p (r2_st _ _)) <|
  RT_c (RE_q) <|
  RT_c (RE_q) <|
  RT_c (RE_p (r2_load _ _ _)) <|
  RT_c (RE_p (r2_load _ _ _)) <|
  RT_c (RE_p (r2_load _ _ _)) <|
  RT_c (RE_p (r2_load _ _ _)) <|
  RT_c (RE_p (r2_load _ _ _)) <|
  RT_c (RE_p (r2_st _ _)) <|
  RT_c (RE_q) <|
  RT_c (RE_p (r2_store _ _ _)) <|
  RT_c (RE_p (r2_load _ _ _)) <|
  RT_c (RE_p (r2_if _ _ _)) <|
  RT_c (RE_p (r2_load _ _ _)) <|
  RT_c (RE_q) <|
  RT_c (RE_p (r2_st _ _)) <|
  RT_c (RE_p (r2_store _ _ _)) <|
  RT_c (RE_p (r2_clr _ (r2_load _ _ _))) <|
  RT_c (RE_p (r2_st _ _)) <|
  RT_c (RE_p (r2_load _ _ _)) <|
  RT_c (RE_p (r2_st _ _)) <|
  RT_c (RE_p (r2_load _ _ _)) <|
  RT_c (RE_p (r2_st _ _)) <|
  RT_c (RE_p (r2_load _ _ _)) <|
  RT_c (RE_p (r2_load _ _ _)) <|
  RT_c (RE_q) <|
  RT_c (RE_p (r2_if _ _ _)) <|
  RT_c (RE_p (r2_iinc _ _ _)) <|
  RT_c (RE_p (r2_st _ _)) <|
  RT_c (RE_p (r2_load _ _ _)) <|
  RT_c (RE_p (r2_load _ _ _)) <|
  RT_c (RE_p (r2_if _ _ _)) <|
  RT_c (RE_p (r2_load _ _ _)) <|
  RT_c (RE_p (r2_st _ _)) <|
  RT_c (RE_p (r2_load _ _ _)) <|
  RT_c (RE_p (r2_getf _ _ _)) <|
  RT_c (RE_p (r2_st _ _)) <|
  RT_c (RE_p (r2_load _ _ _)) <|
  RT_c (RE_p (r2_st _ _)) <|
  RT_c (RE_p (r2_load _ _ _)) <|
  RT_c (RE_p (r2_st _ _)) <|
  RT_c (RE_p (r2_load _ _ _)) <|
  RT_c (RE_p (r2_st _ _)) <|
  RT_c (RE_p (r2_load _ _ _)) <|
  RT_c (RE_p (r2_st _ _)) <|
  RT_c (RE_p (r2_iald _)) <|
  RT_c (RE_q) <|
  RT_c (RE_q) <|
  RT_n
set_option maxRecDepth 20000 in
theorem rtX5_reading : RT tbX5_reading ubX5_reading :=
  RT_c (RE_p (r2_load _ _ _)) <|
  RT_c (RE_p (r2_load _ _ _)) <|
  RT_c (RE_q) <|
  RT_c (RE_p (r2_if _ _ _)) <|
  RT_c (RE_p (r2_st _ _)) <|
  RT_c (RE_q) <|
  RT_c (RE_p (r2_load _ _ _)) <|
  RT_c (RE_p (r2_st _ _)) <|
  RT_c (RE_p (r2_st _ _)) <|
  RT_c (RE_p (r2_st _ _)) <|
  RT_c (RE_q) <|
  RT_c (RE_p (r2_if _ _ _)) <|
  RT_c (RE_p (r2_load _ _ _)) <|
  RT_c (RE_p (r2_st _ _)) <|
  RT_c (RE_p (r2_st _ _)) <|
  RT_c (RE_p (r2_st _ _)) <|
  RT_c (RE_q) <|
  RT_c (RE_p (r2_if _ _ _)) <|
  RT_c (RE_p (r2_st _ _)) <|
  RT_c (RE_q) <|
  RT_c (RE_p (r2_load _ _ _)) <|
  RT_c (RE_p (r2_getf _ _ _)) <|
  RT_c (RE_p (r2_st _ _)) <|
  RT_c (RE_p (r2_icmp _ _ _)) <|
  RT_c (RE_p (r2_st _ _)) <|
  RT_c (RE_q) <|
  RT_c (RE_p (r2_load _ _ _)) <|
  RT_c (RE_p (r2_getf _ _ _)) <|
  RT_c (RE_p (r2_load _ _ _)) <|
  RT_c (RE_p (r2_getf _ _ _)) <|
  RT_c (RE_p (r2_load _ _ _)) <|
  RT_c (RE_p (r2_iast _)) <|
  RT_c (RE_p (r2_load _ _ _)) <|
  RT_c (RE_p (r2_getf _ _ _)) <|
  RT_c (RE_p (r2_load _ _ _)) <|
  RT_c (RE_p (r2_getf _ _ _)) <|
  RT_c (RE_p (r2_load _ _ _)) <|
  RT_c (RE_p (r2_iast _)) <|
  RT_c (RE_p (r2_load _ _ _)) <|
  RT_c (RE_p (r2_getf _ _ _)) <|
  RT_c (RE_p (r2_load _ _ _)) <|
  RT_c (RE_p (r2_getf _ _ _)) <|
  RT_c (RE_p (r2_load _ _ _)) <|
  RT_c (RE_p (r2_iast _)) <|
  RT_c (RE_p (r2_load _ _ _)) <|
  RT_c (RE_p (r2_st _ _)) <|
  RT_c (RE_p (r2_getf _ _ _)) <|
  RT_c (RE_p (r2_st _ _)) <|
  RT_c (RE_p (r2_st _ _)) <|
  RT_c (RE_p (r2_putf _ _ _ _)) <|
  RT_c (RE_p (r2_load _ _ _)) <|
  RT_c (RE_p (r2_getf _ _ _)) <|
  RT_c (RE_p (r2_st _ _)) <|
  RT_c (RE_p (r2_st _ _)) <|
  RT_c (RE_q) <|
  RT_n
set_option maxRecDepth 20000 in
theorem rtX5_back : RT tbX5_back ubX5_back :=
  RT_c (RE_p (r2_load _ _ _)) <|
  RT_c (RE_p (r2_st _ _)) <|
  RT_c (RE_p (r2_st _ _)) <|
  RT_c (RE_p (r2_load _ _ _)) <|
  RT_c (RE_p (r2_getf _ _ _)) <|
  RT_c (RE_p (r2_st _ _)) <|
  RT_c (RE_q) <|
  RT_c (RE_p (r2_if _ _ _)) <|
  RT_c (RE_p (r2_st _ _)) <|
  RT_c (RE_q) <|
  RT_c (RE_p (r2_load _ _ _)) <|
  RT_c (RE_p (r2_st _ _)) <|
  RT_c (RE_p (r2_getf _ _ _)) <|
  RT_c (RE_p (r2_load _ _ _)) <|
  RT_c (RE_p (r2_st _ _)) <|
  RT_c (RE_p (r2_putf _ _ _ _)) <|
  RT_c (RE_p (r2_load _ _ _)) <|
  RT_c (RE_p (r2_getf _ _ _)) <|
  RT_c (RE_q) <|
  RT_n
set_option maxRecDepth 20000 in
theorem rtX5_areSo : RT tbX5_areSo ubX5_areSo :=
  RT_c (RE_p (r2_st _ _)) <|
  RT_c (RE_p (r2_store _ _ _)) <|
  RT_c (RE_p (r2_st _ _)) <|
  RT_c (RE_p (r2_store _ _ _)) <|
  RT_c (RE_p (r2_load _ _ _)) <|
  RT_c (RE_p (r2_load _ _ _)) <|
  RT_c (RE_p (r2_getf _ _ _)) <|
  RT_c (RE_p (r2_icmp _ _ _)) <|
  RT_c (RE_p (r2_load _ _ _)) <|
  RT_c (RE_p (r2_if _ _ _)) <|
  RT_c (RE_p (r2_load _ _ _)) <|
  RT_c (RE_p (r2_load _ _ _)) <|
  RT_c (RE_p (r2_getf _ _ _)) <|
  RT_c (RE_p (r2_load _ _ _)) <|
  RT_c (RE_p (r2_iald _)) <|
  RT_c (RE_p (r2_load _ _ _)) <|
  RT_c (RE_p (r2_getf _ _ _)) <|
  RT_c (RE_p (r2_load _ _ _)) <|
  RT_c (RE_p (r2_iald _)) <|
  RT_c (RE_q) <|
  RT_c (RE_p (r2_load _ _ _)) <|
  RT_c (RE_p (r2_getf _ _ _)) <|
  RT_c (RE_p (r2_load _ _ _)) <|
  RT_c (RE_p (r2_iald _)) <|
  RT_c (RE_p (r2_icmp _ _ _)) <|
  RT_c (RE_p (r2_st _ _)) <|
  RT_c (RE_p (r2_st _ _)) <|
  RT_c (RE_p (r2_st _ _)) <|
  RT_c (RE_p (r2_store _ _ _)) <|
  RT_c (RE_p (r2_iinc _ _ _)) <|
  RT_c (RE_p (r2_st _ _)) <|
  RT_c (RE_p (r2_load _ _ _)) <|
  RT_c (RE_q) <|
  RT_n
set_option maxRecDepth 20000 in
theorem rtX5_shorts : RT tbX5_shorts ubX5_shorts :=
  RT_c (RE_p (r2_load _ _ _)) <|
  RT_c (RE_p (r2_load _ _ _)) <|
  RT_c (RE_q) <|
  RT_c (RE_p (r2_if _ _ _)) <|
  RT_c (RE_p (r2_st _ _)) <|
  RT_c (RE_q) <|
  RT_c (RE_p (r2_load _ _ _)) <|
  RT_c (RE_p (r2_getf _ _ _)) <|
  RT_c (RE_p (r2_load _ _ _)) <|
  RT_c (RE_p (r2_iald _)) <|
  RT_c (RE_p (r2_store _ _ _)) <|
  RT_c (RE_p (r2_st _ _)) <|
  RT_c (RE_p (r2_store _ _ _)) <|
  RT_c (RE_p (r2_st _ _)) <|
  RT_c (RE_p (r2_store _ _ _)) <|
  RT_c (RE_p (r2_load _ _ _)) <|
  RT_c (RE_p (r2_st _ _)) <|
  RT_c (RE_p (r2_icmp _ _ _)) <|
  RT_c (RE_p (r2_load _ _ _)) <|
  RT_c (RE_p (r2_getf _ _ _)) <|
  RT_c (RE_p (r2_load _ _ _)) <|
  RT_c (RE_p (r2_load _ _ _)) <|
  RT_c (RE_p (r2_iast _)) <|
  RT_c (RE_p (r2_load _ _ _)) <|
  RT_c (RE_p (r2_load _ _ _)) <|
  RT_c (RE_q) <|
  RT_c (RE_p (r2_if _ _ _)) <|
  RT_c (RE_p (r2_st _ _)) <|
  RT_c (RE_p (r2_load _ _ _)) <|
  RT_c (RE_p (r2_st _ _)) <|
  RT_c (RE_p (r2_st _ _)) <|
  RT_c (RE_p (r2_st _ _)) <|
  RT_c (RE_p (r2_st _ _)) <|
  RT_c (RE_p (r2_store _ _ _)) <|
  RT_c (RE_p (r2_iinc _ _ _)) <|
  RT_c (RE_p (r2_st _ _)) <|
  RT_c (RE_p (r2_load _ _ _)) <|
  RT_c (RE_p (r2_getf _ _ _)) <|
  RT_c (RE_p (r2_load _ _ _)) <|
  RT_c (RE_p (r2_load _ _ _)) <|
  RT_c (RE_p (r2_iast _)) <|
  RT_c (RE_p (r2_load _ _ _)) <|
  RT_c (RE_q) <|
  RT_n
set_option maxRecDepth 20000 in
theorem rtX5_kinds : RT tbX5_kinds ubX5_kinds :=
  RT_c (RE_p (r2_load _ _ _)) <|
  RT_c (RE_p (r2_load _ _ _)) <|
  RT_c (RE_q) <|
  RT_c (RE_p (r2_if _ _ _)) <|
  RT_c (RE_p (r2_st _ _)) <|
  RT_c (RE_q) <|
  RT_c (RE_p (r2_load _ _ _)) <|
  RT_c (RE_p (r2_getf _ _ _)) <|
  RT_c (RE_p (r2_load _ _ _)) <|
  RT_c (RE_p (r2_iald _)) <|
  RT_c (RE_p (r2_store _ _ _)) <|
  RT_c (RE_p (r2_st _ _)) <|
  RT_c (RE_p (r2_store _ _ _)) <|
  RT_c (RE_p (r2_st _ _)) <|
  RT_c (RE_p (r2_store _ _ _)) <|
  RT_c (RE_p (r2_load _ _ _)) <|
  RT_c (RE_p (r2_st _ _)) <|
  RT_c (RE_p (r2_icmp _ _ _)) <|
  RT_c (RE_p (r2_load _ _ _)) <|
  RT_c (RE_p (r2_getf _ _ _)) <|
  RT_c (RE_p (r2_load _ _ _)) <|
  RT_c (RE_p (r2_load _ _ _)) <|
  RT_c (RE_p (r2_iast _)) <|
  RT_c (RE_p (r2_load _ _ _)) <|
  RT_c (RE_p (r2_load _ _ _)) <|
  RT_c (RE_q) <|
  RT_c (RE_p (r2_if _ _ _)) <|
  RT_c (RE_p (r2_st _ _)) <|
  RT_c (RE_p (r2_load _ _ _)) <|
  RT_c (RE_p (r2_st _ _)) <|
  RT_c (RE_p (r2_st _ _)) <|
  RT_c (RE_p (r2_st _ _)) <|
  RT_c (RE_p (r2_st _ _)) <|
  RT_c (RE_p (r2_store _ _ _)) <|
  RT_c (RE_p (r2_iinc _ _ _)) <|
  RT_c (RE_p (r2_st _ _)) <|
  RT_c (RE_p (r2_load _ _ _)) <|
  RT_c (RE_p (r2_getf _ _ _)) <|
  RT_c (RE_p (r2_load _ _ _)) <|
  RT_c (RE_p (r2_load _ _ _)) <|
  RT_c (RE_p (r2_iast _)) <|
  RT_c (RE_p (r2_load _ _ _)) <|
  RT_c (RE_q) <|
  RT_n
set_option maxRecDepth 20000 in
theorem rtX5_odds : RT tbX5_odds ubX5_odds :=
  RT_c (RE_p (r2_load _ _ _)) <|
  RT_c (RE_p (r2_load _ _ _)) <|
  RT_c (RE_q) <|
  RT_c (RE_p (r2_if _ _ _)) <|
  RT_c (RE_p (r2_load _ _ _)) <|
  RT_c (RE_p (r2_st _ _)) <|
  RT_c (RE_p (r2_st _ _)) <|
  RT_c (RE_p (r2_st _ _)) <|
  RT_c (RE_q) <|
  RT_c (RE_p (r2_if _ _ _)) <|
  RT_c (RE_p (r2_load _ _ _)) <|
  RT_c (RE_p (r2_st _ _)) <|
  RT_c (RE_p (r2_st _ _)) <|
  RT_c (RE_p (r2_st _ _)) <|
  RT_c (RE_q) <|
  RT_c (RE_p (r2_if _ _ _)) <|
  RT_c (RE_q) <|
  RT_c (RE_q) <|
  RT_c (RE_p (r2_st _ _)) <|
  RT_c (RE_p (r2_store _ _ _)) <|
  RT_c (RE_p (r2_st _ _)) <|
  RT_c (RE_p (r2_store _ _ _)) <|
  RT_c (RE_p (r2_clr _ (r2_load _ _ _))) <|
  RT_c (RE_p (r2_load _ _ _)) <|
  RT_c (RE_p (r2_getf _ _ _)) <|
  RT_c (RE_p (r2_icmp _ _ _)) <|
  RT_c (RE_p (r2_st _ _)) <|
  RT_c (RE_p (r2_store _ _ _)) <|
  RT_c (RE_p (r2_load _ _ _)) <|
  RT_c (RE_p (r2_load _ _ _)) <|
  RT_c (RE_p (r2_getf _ _ _)) <|
  RT_c (RE_p (r2_load _ _ _)) <|
  RT_c (RE_p (r2_getf _ _ _)) <|
  RT_c (RE_p (r2_st _ _)) <|
  RT_c (RE_p (r2_icmp _ _ _)) <|
  RT_c (RE_p (r2_load _ _ _)) <|
  RT_c (RE_p (r2_load _ _ _)) <|
  RT_c (RE_p (r2_load _ _ _)) <|
  RT_c (RE_p (r2_load _ _ _)) <|
  RT_c (RE_p (r2_getf _ _ _)) <|
  RT_c (RE_p (r2_load _ _ _)) <|
  RT_c (RE_p (r2_getf _ _ _)) <|
  RT_c (RE_p (r2_load _ _ _)) <|
  RT_c (RE_p (r2_st _ _)) <|
  RT_c (RE_p (r2_load _ _ _)) <|
  RT_c (RE_p (r2_st _ _)) <|
  RT_c (RE_p (r2_load _ _ _)) <|
  RT_c (RE_p (r2_st _ _)) <|
  RT_c (RE_p (r2_iald _)) <|
  RT_c (RE_q) <|
  RT_c (RE_p (r2_load _ _ _)) <|
  RT_c (RE_p (r2_icmp _ _ _)) <|
  RT_c (RE_p (r2_st _ _)) <|
  RT_c (RE_p (r2_st _ _)) <|
  RT_c (RE_p (r2_st _ _)) <|
  RT_c (RE_p (r2_st _ _)) <|
  RT_c (RE_p (r2_store _ _ _)) <|
  RT_c (RE_p (r2_iinc _ _ _)) <|
  RT_c (RE_p (r2_st _ _)) <|
  RT_c (RE_p (r2_iinc _ _ _)) <|
  RT_c (RE_p (r2_st _ _)) <|
  RT_c (RE_p (r2_load _ _ _)) <|
  RT_c (RE_p (r2_load _ _ _)) <|
  RT_c (RE_p (r2_getf _ _ _)) <|
  RT_c (RE_p (r2_load _ _ _)) <|
  RT_c (RE_p (r2_getf _ _ _)) <|
  RT_c (RE_p (r2_st _ _)) <|
  RT_c (RE_p (r2_st _ _)) <|
  RT_c (RE_p (r2_st _ _)) <|
  RT_c (RE_p (r2_st _ _)) <|
  RT_c (RE_p (r2_load _ _ _)) <|
  RT_c (RE_p (r2_getf _ _ _)) <|
  RT_c (RE_p (r2_st _ _)) <|
  RT_c (RE_p (r2_st _ _)) <|
  RT_c (RE_p (r2_load _ _ _)) <|
  RT_c (RE_q) <|
  RT_c (RE_q) <|
  RT_n
set_option maxRecDepth 20000 in
theorem rtX5_noSheet : RT tbX5_noSheet ubX5_noSheet :=
  RT_c (RE_p (r2_load _ _ _)) <|
  RT_c (RE_p (r2_st _ _)) <|
  RT_c (RE_p (r2_st _ _)) <|
  RT_c (RE_p (r2_st _ _)) <|
  RT_c (RE_q) <|
  RT_c (RE_p (r2_if _ _ _)) <|
  RT_c (RE_p (r2_st _ _)) <|
  RT_c (RE_p (r2_st _ _)) <|
  RT_c (RE_p (r2_st _ _)) <|
  RT_c (RE_q) <|
  RT_n
set_option maxRecDepth 20000 in
theorem rtX5_sheet : RT tbX5_sheet ubX5_sheet :=
  RT_c (RE_p (r2_load _ _ _)) <|
  RT_c (RE_q) <|
  RT_c (RE_p (r2_if _ _ _)) <|
  RT_c (RE_p (r2_load _ _ _)) <|
  RT_c (RE_p (r2_st _ _)) <|
  RT_c (RE_q) <|
  RT_c (RE_q) <|
  RT_c (RE_p (r2_load _ _ _)) <|
  RT_c (RE_p (r2_st _ _)) <|
  RT_c (RE_p (r2_st _ _)) <|
  RT_c (RE_p (r2_st _ _)) <|
  RT_c (RE_q) <|
  RT_c (RE_p (r2_if _ _ _)) <|
  RT_c (RE_p (r2_load _ _ _)) <|
  RT_c (RE_p (r2_st _ _)) <|
  RT_c (RE_p (r2_icmp _ _ _)) <|
  RT_c (RE_p (r2_load _ _ _)) <|
  RT_c (RE_p (r2_st _ _)) <|
  RT_c (RE_q) <|
  RT_c (RE_q) <|
  RT_c (RE_p (r2_load _ _ _)) <|
  RT_c (RE_p (r2_if _ _ _)) <|
  RT_c (RE_p (r2_load _ _ _)) <|
  RT_c (RE_p (r2_st _ _)) <|
  RT_c (RE_q) <|
  RT_c (RE_q) <|
  RT_c (RE_p (r2_load _ _ _)) <|
  RT_c (RE_p (r2_getf _ _ _)) <|
  RT_c (RE_p (r2_load _ _ _)) <|
  RT_c (RE_p (r2_load _ _ _)) <|
  RT_c (RE_p (r2_iast _)) <|
  RT_c (RE_p (r2_load _ _ _)) <|
  RT_c (RE_p (r2_getf _ _ _)) <|
  RT_c (RE_p (r2_load _ _ _)) <|
  RT_c (RE_p (r2_load _ _ _)) <|
  RT_c (RE_p (r2_iast _)) <|
  RT_c (RE_p (r2_st _ _)) <|
  RT_c (RE_p (r2_store _ _ _)) <|
  RT_c (RE_p (r2_clr _ (r2_load _ _ _))) <|
  RT_c (RE_p (r2_load _ _ _)) <|
  RT_c (RE_p (r2_icmp _ _ _)) <|
  RT_c (RE_p (r2_load _ _ _)) <|
  RT_c (RE_p (r2_getf _ _ _)) <|
  RT_c (RE_p (r2_st _ _)) <|
  RT_c (RE_p (r2_load _ _ _)) <|
  RT_c (RE_p (r2_st _ _)) <|
  RT_c (RE_p (r2_load _ _ _)) <|
  RT_c (RE_p (r2_st _ _)) <|
  RT_c (RE_p (r2_st _ _)) <|
  RT_c (RE_p (r2_iast _)) <|
  RT_c (RE_p (r2_iinc _ _ _)) <|
  RT_c (RE_p (r2_st _ _)) <|
  RT_c (RE_p (r2_load _ _ _)) <|
  RT_c (RE_p (r2_st _ _)) <|
  RT_c (RE_q) <|
  RT_c (RE_q) <|
  RT_n
set_option maxRecDepth 20000 in
theorem rtX5_lose : RT tbX5_lose ubX5_lose :=
  RT_c (RE_p (r2_load _ _ _)) <|
  RT_c (RE_q) <|
  RT_c (RE_p (r2_if _ _ _)) <|
  RT_c (RE_p (r2_st _ _)) <|
  RT_c (RE_q) <|
  RT_c (RE_p (r2_load _ _ _)) <|
  RT_c (RE_p (r2_getf _ _ _)) <|
  RT_c (RE_p (r2_load _ _ _)) <|
  RT_c (RE_p (r2_iald _)) <|
  RT_c (RE_p (r2_if _ _ _)) <|
  RT_c (RE_p (r2_st _ _)) <|
  RT_c (RE_p (r2_st _ _)) <|
  RT_c (RE_p (r2_st _ _)) <|
  RT_c (RE_p (r2_store _ _ _)) <|
  RT_c (RE_p (r2_load _ _ _)) <|
  RT_c (RE_p (r2_getf _ _ _)) <|
  RT_c (RE_p (r2_load _ _ _)) <|
  RT_c (RE_p (r2_st _ _)) <|
  RT_c (RE_p (r2_iast _)) <|
  RT_c (RE_p (r2_load _ _ _)) <|
  RT_c (RE_q) <|
  RT_n
set_option maxRecDepth 20000 in
theorem rtX5_noCell : RT tbX5_noCell ubX5_noCell :=
  RT_c (RE_p (r2_load _ _ _)) <|
  RT_c (RE_p (r2_getf _ _ _)) <|
  RT_c (RE_p (r2_load _ _ _)) <|
  RT_c (RE_p (r2_iald _)) <|
  RT_c (RE_p (r2_if _ _ _)) <|
  RT_c (RE_p (r2_st _ _)) <|
  RT_c (RE_p (r2_st _ _)) <|
  RT_c (RE_p (r2_load _ _ _)) <|
  RT_c (RE_p (r2_st _ _)) <|
  RT_c (RE_p (r2_st _ _)) <|
  RT_c (RE_p (r2_load _ _ _)) <|
  RT_c (RE_p (r2_getf _ _ _)) <|
  RT_c (RE_p (r2_load _ _ _)) <|
  RT_c (RE_p (r2_iald _)) <|
  RT_c (RE_p (r2_st _ _)) <|
  RT_c (RE_p (r2_st _ _)) <|
  RT_c (RE_p (r2_st _ _)) <|
  RT_c (RE_q) <|
  RT_c (RE_p (r2_if _ _ _)) <|
  RT_c (RE_p (r2_st _ _)) <|
  RT_c (RE_p (r2_st _ _)) <|
  RT_c (RE_p (r2_st _ _)) <|
  RT_c (RE_q) <|
  RT_n
set_option maxRecDepth 20000 in
theorem rtX5_put : RT tbX5_put ubX5_put :=
  RT_c (RE_p (r2_load _ _ _)) <|
  RT_c (RE_q) <|
  RT_c (RE_p (r2_if _ _ _)) <|
  RT_c (RE_p (r2_load _ _ _)) <|
  RT_c (RE_p (r2_st _ _)) <|
  RT_c (RE_q) <|
  RT_c (RE_q) <|
  RT_c (RE_p (r2_load _ _ _)) <|
  RT_c (RE_p (r2_load _ _ _)) <|
  RT_c (RE_p (r2_load _ _ _)) <|
  RT_c (RE_q) <|
  RT_c (RE_p (r2_if _ _ _)) <|
  RT_c (RE_p (r2_load _ _ _)) <|
  RT_c (RE_p (r2_load _ _ _)) <|
  RT_c (RE_p (r2_load _ _ _)) <|
  RT_c (RE_p (r2_load _ _ _)) <|
  RT_c (RE_q) <|
  RT_c (RE_q) <|
  RT_c (RE_q) <|
  RT_c (RE_p (r2_load _ _ _)) <|
  RT_c (RE_p (r2_getf _ _ _)) <|
  RT_c (RE_p (r2_st _ _)) <|
  RT_c (RE_p (r2_load _ _ _)) <|
  RT_c (RE_p (r2_st _ _)) <|
  RT_c (RE_p (r2_load _ _ _)) <|
  RT_c (RE_p (r2_st _ _)) <|
  RT_c (RE_p (r2_load _ _ _)) <|
  RT_c (RE_p (r2_getf _ _ _)) <|
  RT_c (RE_p (r2_load _ _ _)) <|
  RT_c (RE_p (r2_iald _)) <|
  RT_c (RE_p (r2_if _ _ _)) <|
  RT_c (RE_p (r2_load _ _ _)) <|
  RT_c (RE_p (r2_st _ _)) <|
  RT_c (RE_p (r2_st _ _)) <|
  RT_c (RE_p (r2_load _ _ _)) <|
  RT_c (RE_p (r2_getf _ _ _)) <|
  RT_c (RE_p (r2_load _ _ _)) <|
  RT_c (RE_p (r2_iald _)) <|
  RT_c (RE_p (r2_st _ _)) <|
  RT_c (RE_p (r2_icmp _ _ _)) <|
  RT_c (RE_p (r2_load _ _ _)) <|
  RT_c (RE_p (r2_st _ _)) <|
  RT_c (RE_p (r2_st _ _)) <|
  RT_c (RE_p (r2_load _ _ _)) <|
  RT_c (RE_p (r2_iast _)) <|
  RT_c (RE_p (r2_load _ _ _)) <|
  RT_c (RE_p (r2_st _ _)) <|
  RT_c (RE_q) <|
  RT_c (RE_q) <|
  RT_n
set_option maxRecDepth 20000 in
theorem rtX5_cell : RT tbX5_cell ubX5_cell :=
  RT_c (RE_p (r2_load _ _ _)) <|
  RT_c (RE_p (r2_st _ _)) <|
  RT_c (RE_p (r2_putf _ _ _ _)) <|
  RT_c (RE_p (r2_load _ _ _)) <|
  RT_c (RE_q) <|
  RT_c (RE_p (r2_if _ _ _)) <|
  RT_c (RE_p (r2_load _ _ _)) <|
  RT_c (RE_p (r2_st _ _)) <|
  RT_c (RE_p (r2_st _ _)) <|
  RT_c (RE_p (r2_st _ _)) <|
  RT_c (RE_q) <|
  RT_c (RE_p (r2_if _ _ _)) <|
  RT_c (RE_q) <|
  RT_c (RE_q) <|
  RT_c (RE_p (r2_load _ _ _)) <|
  RT_c (RE_p (r2_getf _ _ _)) <|
  RT_c (RE_p (r2_load _ _ _)) <|
  RT_c (RE_p (r2_iald _)) <|
  RT_c (RE_p (r2_if _ _ _)) <|
  RT_c (RE_p (r2_load _ _ _)) <|
  RT_c (RE_p (r2_getf _ _ _)) <|
  RT_c (RE_p (r2_load _ _ _)) <|
  RT_c (RE_p (r2_iald _)) <|
  RT_c (RE_p (r2_load _ _ _)) <|
  RT_c (RE_p (r2_icmp _ _ _)) <|
  RT_c (RE_p (r2_load _ _ _)) <|
  RT_c (RE_p (r2_st _ _)) <|
  RT_c (RE_q) <|
  RT_c (RE_q) <|
  RT_c (RE_p (r2_load _ _ _)) <|
  RT_c (RE_p (r2_load _ _ _)) <|
  RT_c (RE_p (r2_load _ _ _)) <|
  RT_c (RE_q) <|
  RT_c (RE_p (r2_if _ _ _)) <|
  RT_c (RE_p (r2_load _ _ _)) <|
  RT_c (RE_p (r2_load _ _ _)) <|
  RT_c (RE_p (r2_load _ _ _)) <|
  RT_c (RE_p (r2_load _ _ _)) <|
  RT_c (RE_q) <|
  RT_c (RE_q) <|
  RT_c (RE_p (r2_st _ _)) <|
  RT_c (RE_p (r2_load _ _ _)) <|
  RT_c (RE_p (r2_getf _ _ _)) <|
  RT_c (RE_p (r2_st _ _)) <|
  RT_c (RE_p (r2_load _ _ _)) <|
  RT_c (RE_p (r2_st _ _)) <|
  RT_c (RE_p (r2_load _ _ _)) <|
  RT_c (RE_p (r2_st _ _)) <|
  RT_c (RE_p (r2_iald _)) <|
  RT_c (RE_p (r2_st _ _)) <|
  RT_c (RE_q) <|
  RT_n
set_option maxRecDepth 20000 in
theorem rtX5_isBeyond : RT tbX5_isBeyond ubX5_isBeyond :=
  RT_c (RE_p (r2_load _ _ _)) <|
  RT_c (RE_p (r2_if _ _ _)) <|
  RT_c (RE_p (r2_load _ _ _)) <|
  RT_c (RE_p (r2_st _ _)) <|
  RT_c (RE_p (r2_st _ _)) <|
  RT_c (RE_p (r2_if _ _ _)) <|
  RT_c (RE_p (r2_load _ _ _)) <|
  RT_c (RE_p (r2_st _ _)) <|
  RT_c (RE_p (r2_load _ _ _)) <|
  RT_c (RE_p (r2_st _ _)) <|
  RT_c (RE_p (r2_load _ _ _)) <|
  RT_c (RE_p (r2_st _ _)) <|
  RT_c (RE_p (r2_st _ _)) <|
  RT_c (RE_p (r2_if _ _ _)) <|
  RT_c (RE_p (r2_st _ _)) <|
  RT_c (RE_p (r2_st _ _)) <|
  RT_c (RE_p (r2_st _ _)) <|
  RT_c (RE_q) <|
  RT_n
set_option maxRecDepth 20000 in
theorem rtX5_copy : RT tbX5_copy ubX5_copy :=
  RT_c (RE_p (r2_load _ _ _)) <|
  RT_c (RE_q) <|
  RT_c (RE_p (r2_if _ _ _)) <|
  RT_c (RE_p (r2_load _ _ _)) <|
  RT_c (RE_q) <|
  RT_c (RE_p (r2_if _ _ _)) <|
  RT_c (RE_p (r2_load _ _ _)) <|
  RT_c (RE_p (r2_st _ _)) <|
  RT_c (RE_q) <|
  RT_c (RE_q) <|
  RT_c (RE_p (r2_load _ _ _)) <|
  RT_c (RE_p (r2_getf _ _ _)) <|
  RT_c (RE_p (r2_load _ _ _)) <|
  RT_c (RE_p (r2_iald _)) <|
  RT_c (RE_p (r2_if _ _ _)) <|
  RT_c (RE_p (r2_load _ _ _)) <|
  RT_c (RE_p (r2_getf _ _ _)) <|
  RT_c (RE_p (r2_load _ _ _)) <|
  RT_c (RE_p (r2_iald _)) <|
  RT_c (RE_p (r2_if _ _ _)) <|
  RT_c (RE_p (r2_load _ _ _)) <|
  RT_c (RE_p (r2_st _ _)) <|
  RT_c (RE_q) <|
  RT_c (RE_q) <|
  RT_c (RE_p (r2_load _ _ _)) <|
  RT_c (RE_p (r2_getf _ _ _)) <|
  RT_c (RE_p (r2_load _ _ _)) <|
  RT_c (RE_p (r2_iald _)) <|
  RT_c (RE_p (r2_load _ _ _)) <|
  RT_c (RE_p (r2_getf _ _ _)) <|
  RT_c (RE_p (r2_load _ _ _)) <|
  RT_c (RE_p (r2_iald _)) <|
  RT_c (RE_p (r2_icmp _ _ _)) <|
  RT_c (RE_p (r2_load _ _ _)) <|
  RT_c (RE_p (r2_st _ _)) <|
  RT_c (RE_q) <|
  RT_c (RE_q) <|
  RT_c (RE_p (r2_load _ _ _)) <|
  RT_c (RE_p (r2_load _ _ _)) <|
  RT_c (RE_p (r2_st _ _)) <|
  RT_c (RE_p (r2_load _ _ _)) <|
  RT_c (RE_p (r2_getf _ _ _)) <|
  RT_c (RE_p (r2_load _ _ _)) <|
  RT_c (RE_p (r2_iald _)) <|
  RT_c (RE_q) <|
  RT_c (RE_p (r2_if _ _ _)) <|
  RT_c (RE_p (r2_load _ _ _)) <|
  RT_c (RE_p (r2_load _ _ _)) <|
  RT_c (RE_p (r2_st _ _)) <|
  RT_c (RE_p (r2_load _ _ _)) <|
  RT_c (RE_p (r2_getf _ _ _)) <|
  RT_c (RE_p (r2_load _ _ _)) <|
  RT_c (RE_p (r2_iald _)) <|
  RT_c (RE_q) <|
  RT_c (RE_p (r2_if _ _ _)) <|
  RT_c (RE_p (r2_load _ _ _)) <|
  RT_c (RE_p (r2_st _ _)) <|
  RT_c (RE_q) <|
  RT_c (RE_q) <|
  RT_c (RE_p (r2_st _ _)) <|
  RT_c (RE_p (r2_store _ _ _)) <|
  RT_c (RE_p (r2_load _ _ _)) <|
  RT_c (RE_p (r2_load _ _ _)) <|
  RT_c (RE_p (r2_icmp _ _ _)) <|
  RT_c (RE_p (r2_load _ _ _)) <|
  RT_c (RE_p (r2_getf _ _ _)) <|
  RT_c (RE_p (r2_load _ _ _)) <|
  RT_c (RE_p (r2_load _ _ _)) <|
  RT_c (RE_p (r2_getf _ _ _)) <|
  RT_c (RE_p (r2_st _ _)) <|
  RT_c (RE_p (r2_load _ _ _)) <|
  RT_c (RE_p (r2_st _ _)) <|
  RT_c (RE_p (r2_load _ _ _)) <|
  RT_c (RE_p (r2_st _ _)) <|
  RT_c (RE_p (r2_load _ _ _)) <|
  RT_c (RE_p (r2_st _ _)) <|
  RT_c (RE_p (r2_iald _)) <|
  RT_c (RE_p (r2_iast _)) <|
  RT_c (RE_p (r2_iinc _ _ _)) <|
  RT_c (RE_p (r2_st _ _)) <|
  RT_c (RE_p (r2_st _ _)) <|
  RT_c (RE_p (r2_store _ _ _)) <|
  RT_c (RE_p (r2_clr _ (r2_load _ _ _))) <|
  RT_c (RE_p (r2_load _ _ _)) <|
  RT_c (RE_p (r2_icmp _ _ _)) <|
  RT_c (RE_p (r2_load _ _ _)) <|
  RT_c (RE_p (r2_getf _ _ _)) <|
  RT_c (RE_p (r2_st _ _)) <|
  RT_c (RE_p (r2_load _ _ _)) <|
  RT_c (RE_p (r2_st _ _)) <|
  RT_c (RE_p (r2_load _ _ _)) <|
  RT_c (RE_p (r2_st _ _)) <|
  RT_c (RE_p (r2_load _ _ _)) <|
  RT_c (RE_p (r2_st _ _)) <|
  RT_c (RE_p (r2_load _ _ _)) <|
  RT_c (RE_p (r2_getf _ _ _)) <|
  RT_c (RE_p (r2_load _ _ _)) <|
  RT_c (RE_p (r2_iald _)) <|
  RT_c (RE_p (r2_iast _)) <|
  RT_c (RE_p (r2_iinc _ _ _)) <|
  RT_c (RE_p (r2_st _ _)) <|
  RT_c (RE_p (r2_load _ _ _)) <|
  RT_c (RE_p (r2_load _ _ _)) <|
  RT_c (RE_q) <|
  RT_c (RE_q) <|
  RT_n
set_option maxRecDepth 20000 in
theorem rtX5_traced : RT tbX5_traced ubX5_traced :=
  RT_c (RE_p (r2_load _ _ _)) <|
  RT_c (RE_p (r2_st _ _)) <|
  RT_c (RE_p (r2_load _ _ _)) <|
  RT_c (RE_p (r2_getf _ _ _)) <|
  RT_c (RE_p (r2_st _ _)) <|
  RT_c (RE_p (r2_load _ _ _)) <|
  RT_c (RE_p (r2_st _ _)) <|
  RT_c (RE_p (r2_putf _ _ _ _)) <|
  RT_c (RE_q) <|
  RT_n
set_option maxRecDepth 20000 in
theorem rtX5_tell : RT tbX5_tell ubX5_tell :=
  RT_c (RE_p (r2_load _ _ _)) <|
  RT_c (RE_p (r2_load _ _ _)) <|
  RT_c (RE_q) <|
  RT_c (RE_p (r2_if _ _ _)) <|
  RT_c (RE_p (r2_st _ _)) <|
  RT_c (RE_q) <|
  RT_c (RE_p (r2_load _ _ _)) <|
  RT_c (RE_p (r2_getf _ _ _)) <|
  RT_c (RE_p (r2_load _ _ _)) <|
  RT_c (RE_p (r2_iald _)) <|
  RT_c (RE_p (r2_store _ _ _)) <|
  RT_c (RE_p (r2_load _ _ _)) <|
  RT_c (RE_p (r2_st _ _)) <|
  RT_c (RE_p (r2_icmp _ _ _)) <|
  RT_c (RE_p (r2_load _ _ _)) <|
  RT_c (RE_p (r2_st _ _)) <|
  RT_c (RE_q) <|
  RT_c (RE_p (r2_load _ _ _)) <|
  RT_c (RE_p (r2_if _ _ _)) <|
  RT_c (RE_p (r2_load _ _ _)) <|
  RT_c (RE_p (r2_st _ _)) <|
  RT_c (RE_q) <|
  RT_c (RE_p (r2_load _ _ _)) <|
  RT_c (RE_p (r2_st _ _)) <|
  RT_c (RE_q) <|
  RT_c (RE_p (r2_load _ _ _)) <|
  RT_c (RE_p (r2_st _ _)) <|
  RT_c (RE_p (r2_icmp _ _ _)) <|
  RT_c (RE_p (r2_load _ _ _)) <|
  RT_c (RE_p (r2_st _ _)) <|
  RT_c (RE_q) <|
  RT_c (RE_p (r2_load _ _ _)) <|
  RT_c (RE_p (r2_getf _ _ _)) <|
  RT_c (RE_p (r2_load _ _ _)) <|
  RT_c (RE_p (r2_iald _)) <|
  RT_c (RE_p (r2_store _ _ _)) <|
  RT_c (RE_p (r2_load _ _ _)) <|
  RT_c (RE_p (r2_if _ _ _)) <|
  RT_c (RE_p (r2_load _ _ _)) <|
  RT_c (RE_p (r2_st _ _)) <|
  RT_c (RE_p (r2_load _ _ _)) <|
  RT_c (RE_p (r2_st _ _)) <|
  RT_c (RE_p (r2_icmp _ _ _)) <|
  RT_c (RE_p (r2_load _ _ _)) <|
  RT_c (RE_p (r2_st _ _)) <|
  RT_c (RE_p (r2_st _ _)) <|
  RT_c (RE_p (r2_st _ _)) <|
  RT_c (RE_p (r2_st _ _)) <|
  RT_c (RE_p (r2_load _ _ _)) <|
  RT_c (RE_p (r2_st _ _)) <|
  RT_c (RE_p (r2_st _ _)) <|
  RT_c (RE_p (r2_st _ _)) <|
  RT_c (RE_q) <|
  RT_n
set_option maxRecDepth 20000 in
theorem rtX5_greet : RT tbX5_greet ubX5_greet :=
  RT_c (RE_p (r2_load _ _ _)) <|
  RT_c (RE_p (r2_load _ _ _)) <|
  RT_c (RE_q) <|
  RT_c (RE_p (r2_if _ _ _)) <|
  RT_c (RE_p (r2_st _ _)) <|
  RT_c (RE_q) <|
  RT_c (RE_p (r2_load _ _ _)) <|
  RT_c (RE_p (r2_load _ _ _)) <|
  RT_c (RE_p (r2_getf _ _ _)) <|
  RT_c (RE_p (r2_load _ _ _)) <|
  RT_c (RE_p (r2_iald _)) <|
  RT_c (RE_p (r2_st _ _)) <|
  RT_c (RE_p (r2_icmp _ _ _)) <|
  RT_c (RE_p (r2_st _ _)) <|
  RT_c (RE_p (r2_st _ _)) <|
  RT_c (RE_p (r2_st _ _)) <|
  RT_c (RE_q) <|
  RT_c (RE_p (r2_load _ _ _)) <|
  RT_c (RE_p (r2_getf _ _ _)) <|
  RT_c (RE_p (r2_load _ _ _)) <|
  RT_c (RE_p (r2_iald _)) <|
  RT_c (RE_p (r2_st _ _)) <|
  RT_c (RE_p (r2_icmp _ _ _)) <|
  RT_c (RE_p (r2_st _ _)) <|
  RT_c (RE_p (r2_st _ _)) <|
  RT_c (RE_p (r2_load _ _ _)) <|
  RT_c (RE_q) <|
  RT_n
set_option maxRecDepth 20000 in
theorem rtX5_as : RT tbX5_as ubX5_as :=
  RT_c (RE_p (r2_load _ _ _)) <|
  RT_c (RE_p (r2_load _ _ _)) <|
  RT_c (RE_q) <|
  RT_c (RE_p (r2_if _ _ _)) <|
  RT_c (RE_p (r2_load _ _ _)) <|
  RT_c (RE_p (r2_st _ _)) <|
  RT_c (RE_q) <|
  RT_c (RE_q) <|
  RT_c (RE_p (r2_load _ _ _)) <|
  RT_c (RE_p (r2_st _ _)) <|
  RT_c (RE_p (r2_st _ _)) <|
  RT_c (RE_p (r2_st _ _)) <|
  RT_c (RE_q) <|
  RT_c (RE_p (r2_if _ _ _)) <|
  RT_c (RE_p (r2_load _ _ _)) <|
  RT_c (RE_p (r2_st _ _)) <|
  RT_c (RE_q) <|
  RT_c (RE_q) <|
  RT_c (RE_p (r2_load _ _ _)) <|
  RT_c (RE_p (r2_getf _ _ _)) <|
  RT_c (RE_p (r2_load _ _ _)) <|
  RT_c (RE_p (r2_iald _)) <|
  RT_c (RE_p (r2_load _ _ _)) <|
  RT_c (RE_p (r2_icmp _ _ _)) <|
  RT_c (RE_p (r2_load _ _ _)) <|
  RT_c (RE_p (r2_st _ _)) <|
  RT_c (RE_q) <|
  RT_c (RE_p (r2_st _ _)) <|
  RT_c (RE_p (r2_load _ _ _)) <|
  RT_c (RE_p (r2_st _ _)) <|
  RT_c (RE_q) <|
  RT_c (RE_q) <|
  RT_n
set_option maxRecDepth 20000 in
theorem rtX5_trace : RT tbX5_trace ubX5_trace :=
  RT_c (RE_p (r2_load _ _ _)) <|
  RT_c (RE_p (r2_getf _ _ _)) <|
  RT_c (RE_q) <|
  RT_n
set_option maxRecDepth 20000 in
theorem rtX5_fault : RT tbX5_fault ubX5_fault :=
  RT_c (RE_p (r2_load _ _ _)) <|
  RT_c (RE_p (r2_getf _ _ _)) <|
  RT_c (RE_q) <|
  RT_n
set_option maxRecDepth 20000 in
theorem rtX5_many : RT tbX5_many ubX5_many :=
  RT_c (RE_p (r2_load _ _ _)) <|
  RT_c (RE_p (r2_sw _ _)) <|
  RT_c (RE_p (r2_load _ _ _)) <|
  RT_c (RE_p (r2_getf _ _ _)) <|
  RT_c (RE_q) <|
  RT_c (RE_p (r2_load _ _ _)) <|
  RT_c (RE_p (r2_getf _ _ _)) <|
  RT_c (RE_q) <|
  RT_c (RE_p (r2_load _ _ _)) <|
  RT_c (RE_p (r2_getf _ _ _)) <|
  RT_c (RE_q) <|
  RT_c (RE_p (r2_load _ _ _)) <|
  RT_c (RE_p (r2_st _ _)) <|
  RT_c (RE_q) <|
  RT_c (RE_q) <|
  RT_c (RE_p (r2_load _ _ _)) <|
  RT_c (RE_p (r2_getf _ _ _)) <|
  RT_c (RE_q) <|
  RT_c (RE_p (r2_load _ _ _)) <|
  RT_c (RE_p (r2_getf _ _ _)) <|
  RT_c (RE_q) <|
  RT_c (RE_q) <|
  RT_c (RE_p (r2_load _ _ _)) <|
  RT_c (RE_p (r2_getf _ _ _)) <|
  RT_c (RE_q) <|
  RT_c (RE_p (r2_st _ _)) <|
  RT_c (RE_q) <|
  RT_n
set_option maxRecDepth 20000 in
theorem rtJ6_bitCount_0f7a4 : RT tbJ6_bitCount_0f7a4 ubJ6_bitCount_0f7a4 :=
  RT_c (RE_p (r2_load _ _ _)) <|
  RT_c (RE_p (r2_load _ _ _)) <|
  RT_c (RE_p (r2_st _ _)) <|
  RT_c (RE_p (r2_st _ _)) <|
  RT_c (RE_p (r2_st _ _)) <|
  RT_c (RE_p (r2_st _ _)) <|
  RT_c (RE_p (r2_st _ _)) <|
  RT_c (RE_p (r2_store _ _ _)) <|
  RT_c (RE_p (r2_load _ _ _)) <|
  RT_c (RE_p (r2_st _ _)) <|
  RT_c (RE_p (r2_st _ _)) <|
  RT_c (RE_p (r2_load _ _ _)) <|
  RT_c (RE_p (r2_st _ _)) <|
  RT_c (RE_p (r2_st _ _)) <|
  RT_c (RE_p (r2_st _ _)) <|
  RT_c (RE_p (r2_st _ _)) <|
  RT_c (RE_p (r2_st _ _)) <|
  RT_c (RE_p (r2_store _ _ _)) <|
  RT_c (RE_p (r2_load _ _ _)) <|
  RT_c (RE_p (r2_load _ _ _)) <|
  RT_c (RE_p (r2_st _ _)) <|
  RT_c (RE_p (r2_st _ _)) <|
  RT_c (RE_p (r2_st _ _)) <|
  RT_c (RE_p (r2_st _ _)) <|
  RT_c (RE_p (r2_st _ _)) <|
  RT_c (RE_p (r2_store _ _ _)) <|
  RT_c (RE_p (r2_load _ _ _)) <|
  RT_c (RE_p (r2_load _ _ _)) <|
  RT_c (RE_p (r2_st _ _)) <|
  RT_c (RE_p (r2_st _ _)) <|
  RT_c (RE_p (r2_st _ _)) <|
  RT_c (RE_p (r2_store _ _ _)) <|
  RT_c (RE_p (r2_load _ _ _)) <|
  RT_c (RE_p (r2_load _ _ _)) <|
  RT_c (RE_p (r2_st _ _)) <|
  RT_c (RE_p (r2_st _ _)) <|
  RT_c (RE_p (r2_st _ _)) <|
  RT_c (RE_p (r2_store _ _ _)) <|
  RT_c (RE_p (r2_load _ _ _)) <|
  RT_c (RE_p (r2_st _ _)) <|
  RT_c (RE_p (r2_st _ _)) <|
  RT_c (RE_q) <|
  RT_n
set_option maxRecDepth 20000 in
theorem rtJ13_bitCount_95d88 : RT tbJ13_bitCount_95d88 ubJ13_bitCount_95d88 :=
  RT_c (RE_p (r2_load _ _ _)) <|
  RT_c (RE_p (r2_load _ _ _)) <|
  RT_c (RE_p (r2_st _ _)) <|
  RT_c (RE_p (r2_st _ _)) <|
  RT_c (RE_p (r2_st _ _)) <|
  RT_c (RE_p (r2_st _ _)) <|
  RT_c (RE_p (r2_st _ _)) <|
  RT_c (RE_p (r2_store _ _ _)) <|
  RT_c (RE_p (r2_load _ _ _)) <|
  RT_c (RE_p (r2_st _ _)) <|
  RT_c (RE_p (r2_st _ _)) <|
  RT_c (RE_p (r2_load _ _ _)) <|
  RT_c (RE_p (r2_st _ _)) <|
  RT_c (RE_p (r2_st _ _)) <|
  RT_c (RE_p (r2_st _ _)) <|
  RT_c (RE_p (r2_st _ _)) <|
  RT_c (RE_p (r2_st _ _)) <|
  RT_c (RE_p (r2_store _ _ _)) <|
  RT_c (RE_p (r2_load _ _ _)) <|
  RT_c (RE_p (r2_load _ _ _)) <|
  RT_c (RE_p (r2_st _ _)) <|
  RT_c (RE_p (r2_st _ _)) <|
  RT_c (RE_p (r2_st _ _)) <|
  RT_c (RE_p (r2_st _ _)) <|
  RT_c (RE_p (r2_st _ _)) <|
  RT_c (RE_p (r2_store _ _ _)) <|
  RT_c (RE_p (r2_load _ _ _)) <|
  RT_c (RE_p (r2_load _ _ _)) <|
  RT_c (RE_p (r2_st _ _)) <|
  RT_c (RE_p (r2_st _ _)) <|
  RT_c (RE_p (r2_st _ _)) <|
  RT_c (RE_p (r2_store _ _ _)) <|
  RT_c (RE_p (r2_load _ _ _)) <|
  RT_c (RE_p (r2_load _ _ _)) <|
  RT_c (RE_p (r2_st _ _)) <|
  RT_c (RE_p (r2_st _ _)) <|
  RT_c (RE_p (r2_st _ _)) <|
  RT_c (RE_p (r2_store _ _ _)) <|
  RT_c (RE_p (r2_load _ _ _)) <|
  RT_c (RE_p (r2_load _ _ _)) <|
  RT_c (RE_p (r2_st _ _)) <|
  RT_c (RE_p (r2_st _ _)) <|
  RT_c (RE_p (r2_st _ _)) <|
  RT_c (RE_p (r2_store _ _ _)) <|
  RT_c (RE_p (r2_load _ _ _)) <|
  RT_c (RE_p (r2_st _ _)) <|
  RT_c (RE_p (r2_st _ _)) <|
  RT_c (RE_p (r2_st _ _)) <|
  RT_c (RE_q) <|
  RT_n
set_option maxRecDepth 20000 in
theorem rtJ7_fill_53178 : RT tbJ7_fill_53178 ubJ7_fill_53178 :=
  RT_c (RE_p (r2_st _ _)) <|
  RT_c (RE_p (r2_store _ _ _)) <|
  RT_c (RE_p (r2_load _ _ _)) <|
  RT_c (RE_p (r2_alen _)) <|
  RT_c (RE_p (r2_store _ _ _)) <|
  RT_c (RE_p (r2_load _ _ _)) <|
  RT_c (RE_p (r2_load _ _ _)) <|
  RT_c (RE_p (r2_icmp _ _ _)) <|
  RT_c (RE_p (r2_load _ _ _)) <|
  RT_c (RE_p (r2_load _ _ _)) <|
  RT_c (RE_p (r2_load _ _ _)) <|
  RT_c (RE_p (r2_iast _)) <|
  RT_c (RE_p (r2_iinc _ _ _)) <|
  RT_c (RE_p (r2_st _ _)) <|
  RT_c (RE_q) <|
  RT_n
set_option maxRecDepth 20000 in
theorem rtL_0 (L : Nat) (xs : Nat → Int32) : RT (tbL_0 L xs) (ubL_0 L xs) :=
  RT_c (RE_p (fun _ _ _ _ _ _ _ _ h => by cases h)) <|
  RT_c (RE_p (r2_st _ _)) <|
  RT_c (RE_q) <|
  RT_c (RE_p (r2_store _ _ _)) <|
  RT_c (RE_p (fun _ _ _ _ _ _ _ _ h => by cases h)) <|
  RT_c (RE_p (r2_st _ _)) <|
  RT_c (RE_q) <|
  RT_c (RE_p (r2_store _ _ _)) <|
  RT_c (RE_p (r2_st _ _)) <|
  RT_c (RE_p (r2_store _ _ _)) <|
  RT_c (RE_p (r2_load _ _ _)) <|
  RT_c (RE_p (r2_load _ _ _)) <|
  RT_c (RE_p (r2_slen _ _)) <|
  RT_c (RE_p (r2_st _ _)) <|
  RT_c (RE_p (r2_st _ _)) <|
  RT_c (RE_p (r2_icmp _ _ _)) <|
  RT_c (RE_p (r2_load _ _ _)) <|
  RT_c (RE_p (r2_load _ _ _)) <|
  RT_c (RE_p (r2_sld _ _ _)) <|
  RT_c (RE_p (r2_st _ _)) <|
  RT_c (RE_p (r2_st _ _)) <|
  RT_c (RE_p (r2_sw _ _)) <|
  RT_c (RE_p (r2_load _ _ _)) <|
  RT_c (RE_p (r2_load _ _ _)) <|
  RT_c (RE_p (r2_load _ _ _)) <|
  RT_c (RE_p (r2_st _ _)) <|
  RT_c (RE_p (r2_st _ _)) <|
  RT_c (RE_p (r2_sld _ _ _)) <|
  RT_c (RE_p (r2_load _ _ _)) <|
  RT_c (RE_p (r2_load _ _ _)) <|
  RT_c (RE_p (r2_st _ _)) <|
  RT_c (RE_p (r2_st _ _)) <|
  RT_c (RE_p (r2_sld _ _ _)) <|
  RT_c (RE_p (r2_load _ _ _)) <|
  RT_c (RE_p (r2_load _ _ _)) <|
  RT_c (RE_p (r2_st _ _)) <|
  RT_c (RE_p (r2_st _ _)) <|
  RT_c (RE_p (r2_sld _ _ _)) <|
  RT_c (RE_p (r2_load _ _ _)) <|
  RT_c (RE_p (r2_load _ _ _)) <|
  RT_c (RE_p (r2_st _ _)) <|
  RT_c (RE_p (r2_st _ _)) <|
  RT_c (RE_p (r2_sld _ _ _)) <|
  RT_c (RE_q) <|
  RT_c (RE_p (r2_load _ _ _)) <|
  RT_c (RE_p (r2_load _ _ _)) <|
  RT_c (RE_p (r2_load _ _ _)) <|
  RT_c (RE_p (r2_st _ _)) <|
  RT_c (RE_p (r2_st _ _)) <|
  RT_c (RE_p (r2_sld _ _ _)) <|
  RT_c (RE_p (r2_load _ _ _)) <|
  RT_c (RE_p (r2_load _ _ _)) <|
  RT_c (RE_p (r2_st _ _)) <|
  RT_c (RE_p (r2_st _ _)) <|
  RT_c (RE_p (r2_sld _ _ _)) <|
  RT_c (RE_p (r2_load _ _ _)) <|
  RT_c (RE_p (r2_load _ _ _)) <|
  RT_c (RE_p (r2_st _ _)) <|
  RT_c (RE_p (r2_st _ _)) <|
  RT_c (RE_p (r2_sld _ _ _)) <|
  RT_n
set_option maxRecDepth 20000 in
theorem rtL_1 (L : Nat) (xs : Nat → Int32) : RT (tbL_1 L xs) (ubL_1 L xs) :=
  RT_c (RE_p (r2_load _ _ _)) <|
  RT_c (RE_p (r2_load _ _ _)) <|
  RT_c (RE_p (r2_st _ _)) <|
  RT_c (RE_p (r2_st _ _)) <|
  RT_c (RE_p (r2_sld _ _ _)) <|
  RT_c (RE_q) <|
  RT_c (RE_p (r2_icmp _ _ _)) <|
  RT_c (RE_p (r2_st _ _)) <|
  RT_c (RE_q) <|
  RT_c (RE_p (r2_load _ _ _)) <|
  RT_c (RE_p (r2_load _ _ _)) <|
  RT_c (RE_p (r2_load _ _ _)) <|
  RT_c (RE_p (r2_st _ _)) <|
  RT_c (RE_p (r2_st _ _)) <|
  RT_c (RE_p (r2_sld _ _ _)) <|
  RT_c (RE_p (r2_load _ _ _)) <|
  RT_c (RE_p (r2_load _ _ _)) <|
  RT_c (RE_p (r2_st _ _)) <|
  RT_c (RE_p (r2_st _ _)) <|
  RT_c (RE_p (r2_sld _ _ _)) <|
  RT_c (RE_q) <|
  RT_c (RE_p (r2_load _ _ _)) <|
  RT_c (RE_p (r2_load _ _ _)) <|
  RT_c (RE_p (r2_load _ _ _)) <|
  RT_c (RE_p (r2_st _ _)) <|
  RT_c (RE_p (r2_st _ _)) <|
  RT_c (RE_p (r2_sld _ _ _)) <|
  RT_c (RE_p (r2_load _ _ _)) <|
  RT_c (RE_p (r2_load _ _ _)) <|
  RT_c (RE_p (r2_st _ _)) <|
  RT_c (RE_p (r2_st _ _)) <|
  RT_c (RE_p (r2_sld _ _ _)) <|
  RT_c (RE_q) <|
  RT_c (RE_p (r2_icmp _ _ _)) <|
  RT_c (RE_p (r2_st _ _)) <|
  RT_c (RE_q) <|
  RT_c (RE_p (r2_load _ _ _)) <|
  RT_c (RE_p (r2_load _ _ _)) <|
  RT_c (RE_p (r2_load _ _ _)) <|
  RT_c (RE_p (r2_st _ _)) <|
  RT_c (RE_p (r2_st _ _)) <|
  RT_c (RE_p (r2_sld _ _ _)) <|
  RT_c (RE_q) <|
  RT_c (RE_p (r2_load _ _ _)) <|
  RT_c (RE_p (r2_load _ _ _)) <|
  RT_c (RE_p (r2_load _ _ _)) <|
  RT_c (RE_p (r2_st _ _)) <|
  RT_c (RE_p (r2_st _ _)) <|
  RT_c (RE_p (r2_sld _ _ _)) <|
  RT_c (RE_q) <|
  RT_c (RE_p (r2_icmp _ _ _)) <|
  RT_c (RE_p (r2_st _ _)) <|
  RT_c (RE_q) <|
  RT_c (RE_p (r2_load _ _ _)) <|
  RT_c (RE_p (r2_load _ _ _)) <|
  RT_c (RE_p (r2_load _ _ _)) <|
  RT_c (RE_p (r2_st _ _)) <|
  RT_c (RE_p (r2_st _ _)) <|
  RT_c (RE_p (r2_sld _ _ _)) <|
  RT_c (RE_p (r2_load _ _ _)) <|
  RT_n
set_option maxRecDepth 20000 in
theorem rtL_2 (L : Nat) (xs : Nat → Int32) : RT (tbL_2 L xs) (ubL_2 L xs) :=
  RT_c (RE_p (r2_load _ _ _)) <|
  RT_c (RE_p (r2_st _ _)) <|
  RT_c (RE_p (r2_st _ _)) <|
  RT_c (RE_p (r2_sld _ _ _)) <|
  RT_c (RE_q) <|
  RT_c (RE_p (r2_load _ _ _)) <|
  RT_c (RE_p (r2_load _ _ _)) <|
  RT_c (RE_p (r2_load _ _ _)) <|
  RT_c (RE_p (r2_st _ _)) <|
  RT_c (RE_p (r2_st _ _)) <|
  RT_c (RE_p (r2_sld _ _ _)) <|
  RT_c (RE_p (r2_load _ _ _)) <|
  RT_c (RE_p (r2_load _ _ _)) <|
  RT_c (RE_p (r2_st _ _)) <|
  RT_c (RE_p (r2_st _ _)) <|
  RT_c (RE_p (r2_sld _ _ _)) <|
  RT_c (RE_q) <|
  RT_c (RE_p (r2_icmp _ _ _)) <|
  RT_c (RE_p (r2_st _ _)) <|
  RT_c (RE_q) <|
  RT_c (RE_p (r2_load _ _ _)) <|
  RT_c (RE_p (r2_load _ _ _)) <|
  RT_c (RE_p (r2_load _ _ _)) <|
  RT_c (RE_p (r2_st _ _)) <|
  RT_c (RE_p (r2_st _ _)) <|
  RT_c (RE_p (r2_sld _ _ _)) <|
  RT_c (RE_p (r2_load _ _ _)) <|
  RT_c (RE_p (r2_load _ _ _)) <|
  RT_c (RE_p (r2_st _ _)) <|
  RT_c (RE_p (r2_st _ _)) <|
  RT_c (RE_p (r2_sld _ _ _)) <|
  RT_c (RE_q) <|
  RT_c (RE_p (r2_load _ _ _)) <|
  RT_c (RE_p (r2_load _ _ _)) <|
  RT_c (RE_p (r2_load _ _ _)) <|
  RT_c (RE_p (r2_st _ _)) <|
  RT_c (RE_p (r2_st _ _)) <|
  RT_c (RE_p (r2_sld _ _ _)) <|
  RT_c (RE_p (r2_load _ _ _)) <|
  RT_c (RE_p (r2_load _ _ _)) <|
  RT_c (RE_p (r2_st _ _)) <|
  RT_c (RE_p (r2_st _ _)) <|
  RT_c (RE_p (r2_sld _ _ _)) <|
  RT_c (RE_q) <|
  RT_c (RE_p (r2_icmp _ _ _)) <|
  RT_c (RE_p (r2_st _ _)) <|
  RT_c (RE_q) <|
  RT_c (RE_p (r2_load _ _ _)) <|
  RT_c (RE_p (r2_load _ _ _)) <|
  RT_c (RE_p (r2_load _ _ _)) <|
  RT_c (RE_p (r2_st _ _)) <|
  RT_c (RE_p (r2_st _ _)) <|
  RT_c (RE_p (r2_sld _ _ _)) <|
  RT_c (RE_q) <|
  RT_c (RE_p (r2_load _ _ _)) <|
  RT_c (RE_p (r2_load _ _ _)) <|
  RT_c (RE_p (r2_load _ _ _)) <|
  RT_c (RE_p (r2_st _ _)) <|
  RT_c (RE_p (r2_st _ _)) <|
  RT_c (RE_p (r2_sld _ _ _)) <|
  RT_n
set_option maxRecDepth 20000 in
theorem rtL_3 (L : Nat) (xs : Nat → Int32) : RT (tbL_3 L xs) (ubL_3 L xs) :=
  RT_c (RE_q) <|
  RT_c (RE_p (r2_icmp _ _ _)) <|
  RT_c (RE_p (r2_st _ _)) <|
  RT_c (RE_q) <|
  RT_c (RE_p (r2_load _ _ _)) <|
  RT_c (RE_p (r2_load _ _ _)) <|
  RT_c (RE_p (r2_load _ _ _)) <|
  RT_c (RE_p (r2_st _ _)) <|
  RT_c (RE_p (r2_st _ _)) <|
  RT_c (RE_p (r2_sld _ _ _)) <|
  RT_c (RE_q) <|
  RT_c (RE_p (r2_load _ _ _)) <|
  RT_c (RE_p (r2_load _ _ _)) <|
  RT_c (RE_p (r2_load _ _ _)) <|
  RT_c (RE_p (r2_st _ _)) <|
  RT_c (RE_p (r2_st _ _)) <|
  RT_c (RE_p (r2_sld _ _ _)) <|
  RT_c (RE_q) <|
  RT_c (RE_p (r2_icmp _ _ _)) <|
  RT_c (RE_p (r2_st _ _)) <|
  RT_c (RE_q) <|
  RT_c (RE_p (r2_load _ _ _)) <|
  RT_c (RE_q) <|
  RT_c (RE_p (r2_load _ _ _)) <|
  RT_c (RE_q) <|
  RT_c (RE_p (r2_st _ _)) <|
  RT_c (RE_p (r2_if _ _ _)) <|
  RT_c (RE_p (r2_st _ _)) <|
  RT_c (RE_q) <|
  RT_c (RE_p (r2_load _ _ _)) <|
  RT_c (RE_p (r2_load _ _ _)) <|
  RT_c (RE_p (r2_load _ _ _)) <|
  RT_c (RE_p (r2_st _ _)) <|
  RT_c (RE_p (r2_st _ _)) <|
  RT_c (RE_p (r2_sld _ _ _)) <|
  RT_c (RE_q) <|
  RT_c (RE_p (r2_load _ _ _)) <|
  RT_c (RE_p (r2_load _ _ _)) <|
  RT_c (RE_p (r2_load _ _ _)) <|
  RT_c (RE_p (r2_st _ _)) <|
  RT_c (RE_p (r2_st _ _)) <|
  RT_c (RE_p (r2_sld _ _ _)) <|
  RT_c (RE_q) <|
  RT_c (RE_p (r2_icmp _ _ _)) <|
  RT_c (RE_p (r2_st _ _)) <|
  RT_c (RE_q) <|
  RT_c (RE_p (r2_load _ _ _)) <|
  RT_c (RE_p (r2_load _ _ _)) <|
  RT_c (RE_p (r2_load _ _ _)) <|
  RT_c (RE_p (r2_st _ _)) <|
  RT_c (RE_p (r2_st _ _)) <|
  RT_c (RE_p (r2_sld _ _ _)) <|
  RT_c (RE_p (r2_load _ _ _)) <|
  RT_c (RE_p (r2_load _ _ _)) <|
  RT_c (RE_p (r2_st _ _)) <|
  RT_c (RE_p (r2_st _ _)) <|
  RT_c (RE_p (r2_sld _ _ _)) <|
  RT_c (RE_p (r2_load _ _ _)) <|
  RT_c (RE_p (r2_load _ _ _)) <|
  RT_c (RE_p (r2_st _ _)) <|
  RT_n
set_option maxRecDepth 20000 in
theorem rtL_4 (L : Nat) (xs : Nat → Int32) : RT (tbL_4 L xs) (ubL_4 L xs) :=
  RT_c (RE_p (r2_st _ _)) <|
  RT_c (RE_p (r2_sld _ _ _)) <|
  RT_c (RE_p (r2_load _ _ _)) <|
  RT_c (RE_p (r2_load _ _ _)) <|
  RT_c (RE_p (r2_st _ _)) <|
  RT_c (RE_p (r2_st _ _)) <|
  RT_c (RE_p (r2_sld _ _ _)) <|
  RT_c (RE_p (r2_load _ _ _)) <|
  RT_c (RE_p (r2_load _ _ _)) <|
  RT_c (RE_p (r2_st _ _)) <|
  RT_c (RE_p (r2_st _ _)) <|
  RT_c (RE_p (r2_sld _ _ _)) <|
  RT_c (RE_q) <|
  RT_c (RE_p (r2_load _ _ _)) <|
  RT_c (RE_p (r2_load _ _ _)) <|
  RT_c (RE_p (r2_load _ _ _)) <|
  RT_c (RE_p (r2_st _ _)) <|
  RT_c (RE_p (r2_st _ _)) <|
  RT_c (RE_p (r2_sld _ _ _)) <|
  RT_c (RE_p (r2_load _ _ _)) <|
  RT_c (RE_p (r2_load _ _ _)) <|
  RT_c (RE_p (r2_st _ _)) <|
  RT_c (RE_p (r2_st _ _)) <|
  RT_c (RE_p (r2_sld _ _ _)) <|
  RT_c (RE_p (r2_load _ _ _)) <|
  RT_c (RE_p (r2_load _ _ _)) <|
  RT_c (RE_p (r2_st _ _)) <|
  RT_c (RE_p (r2_st _ _)) <|
  RT_c (RE_p (r2_sld _ _ _)) <|
  RT_c (RE_p (r2_load _ _ _)) <|
  RT_c (RE_p (r2_load _ _ _)) <|
  RT_c (RE_p (r2_st _ _)) <|
  RT_c (RE_p (r2_st _ _)) <|
  RT_c (RE_p (r2_sld _ _ _)) <|
  RT_c (RE_p (r2_load _ _ _)) <|
  RT_c (RE_p (r2_load _ _ _)) <|
  RT_c (RE_p (r2_st _ _)) <|
  RT_c (RE_p (r2_st _ _)) <|
  RT_c (RE_p (r2_sld _ _ _)) <|
  RT_c (RE_q) <|
  RT_c (RE_p (r2_icmp _ _ _)) <|
  RT_c (RE_p (r2_st _ _)) <|
  RT_c (RE_q) <|
  RT_c (RE_p (r2_load _ _ _)) <|
  RT_c (RE_p (r2_load _ _ _)) <|
  RT_c (RE_p (r2_load _ _ _)) <|
  RT_c (RE_p (r2_st _ _)) <|
  RT_c (RE_p (r2_st _ _)) <|
  RT_c (RE_p (r2_sld _ _ _)) <|
  RT_c (RE_p (r2_load _ _ _)) <|
  RT_c (RE_p (r2_load _ _ _)) <|
  RT_c (RE_p (r2_st _ _)) <|
  RT_c (RE_p (r2_st _ _)) <|
  RT_c (RE_p (r2_sld _ _ _)) <|
  RT_c (RE_q) <|
  RT_c (RE_p (r2_load _ _ _)) <|
  RT_c (RE_p (r2_load _ _ _)) <|
  RT_c (RE_p (r2_load _ _ _)) <|
  RT_c (RE_p (r2_st _ _)) <|
  RT_c (RE_p (r2_st _ _)) <|
  RT_n
set_option maxRecDepth 20000 in
theorem rtL_5 (L : Nat) (xs : Nat → Int32) : RT (tbL_5 L xs) (ubL_5 L xs) :=
  RT_c (RE_p (r2_sld _ _ _)) <|
  RT_c (RE_p (r2_load _ _ _)) <|
  RT_c (RE_p (r2_load _ _ _)) <|
  RT_c (RE_p (r2_st _ _)) <|
  RT_c (RE_p (r2_st _ _)) <|
  RT_c (RE_p (r2_sld _ _ _)) <|
  RT_c (RE_q) <|
  RT_c (RE_p (r2_icmp _ _ _)) <|
  RT_c (RE_p (r2_st _ _)) <|
  RT_c (RE_q) <|
  RT_c (RE_p (r2_load _ _ _)) <|
  RT_c (RE_p (r2_load _ _ _)) <|
  RT_c (RE_p (r2_load _ _ _)) <|
  RT_c (RE_p (r2_st _ _)) <|
  RT_c (RE_p (r2_st _ _)) <|
  RT_c (RE_p (r2_sld _ _ _)) <|
  RT_c (RE_p (r2_load _ _ _)) <|
  RT_c (RE_p (r2_load _ _ _)) <|
  RT_c (RE_p (r2_st _ _)) <|
  RT_c (RE_p (r2_st _ _)) <|
  RT_c (RE_p (r2_sld _ _ _)) <|
  RT_c (RE_q) <|
  RT_c (RE_p (r2_load _ _ _)) <|
  RT_c (RE_p (r2_load _ _ _)) <|
  RT_c (RE_p (r2_load _ _ _)) <|
  RT_c (RE_p (r2_st _ _)) <|
  RT_c (RE_p (r2_st _ _)) <|
  RT_c (RE_p (r2_sld _ _ _)) <|
  RT_c (RE_p (r2_load _ _ _)) <|
  RT_c (RE_p (r2_load _ _ _)) <|
  RT_c (RE_p (r2_st _ _)) <|
  RT_c (RE_p (r2_st _ _)) <|
  RT_c (RE_p (r2_sld _ _ _)) <|
  RT_c (RE_q) <|
  RT_c (RE_p (r2_icmp _ _ _)) <|
  RT_c (RE_p (r2_st _ _)) <|
  RT_c (RE_q) <|
  RT_c (RE_p (r2_load _ _ _)) <|
  RT_c (RE_p (r2_load _ _ _)) <|
  RT_c (RE_p (r2_load _ _ _)) <|
  RT_c (RE_p (r2_st _ _)) <|
  RT_c (RE_p (r2_st _ _)) <|
  RT_c (RE_p (r2_sld _ _ _)) <|
  RT_c (RE_q) <|
  RT_c (RE_p (r2_load _ _ _)) <|
  RT_c (RE_p (r2_load _ _ _)) <|
  RT_c (RE_p (r2_load _ _ _)) <|
  RT_c (RE_p (r2_st _ _)) <|
  RT_c (RE_p (r2_st _ _)) <|
  RT_c (RE_p (r2_sld _ _ _)) <|
  RT_c (RE_q) <|
  RT_c (RE_p (r2_icmp _ _ _)) <|
  RT_c (RE_p (r2_st _ _)) <|
  RT_c (RE_q) <|
  RT_c (RE_p (r2_load _ _ _)) <|
  RT_c (RE_p (r2_load _ _ _)) <|
  RT_c (RE_p (r2_load _ _ _)) <|
  RT_c (RE_p (r2_st _ _)) <|
  RT_c (RE_p (r2_st _ _)) <|
  RT_c (RE_p (r2_sld _ _ _)) <|
  RT_n
set_option maxRecDepth 20000 in
theorem rtL_6 (L : Nat) (xs : Nat → Int32) : RT (tbL_6 L xs) (ubL_6 L xs) :=
  RT_c (RE_p (r2_load _ _ _)) <|
  RT_c (RE_p (r2_load _ _ _)) <|
  RT_c (RE_p (r2_st _ _)) <|
  RT_c (RE_p (r2_st _ _)) <|
  RT_c (RE_p (r2_sld _ _ _)) <|
  RT_c (RE_p (r2_load _ _ _)) <|
  RT_c (RE_p (r2_load _ _ _)) <|
  RT_c (RE_p (r2_st _ _)) <|
  RT_c (RE_p (r2_st _ _)) <|
  RT_c (RE_p (r2_sld _ _ _)) <|
  RT_c (RE_p (r2_load _ _ _)) <|
  RT_c (RE_p (r2_load _ _ _)) <|
  RT_c (RE_p (r2_st _ _)) <|
  RT_c (RE_p (r2_st _ _)) <|
  RT_c (RE_p (r2_sld _ _ _)) <|
  RT_c (RE_p (r2_load _ _ _)) <|
  RT_c (RE_p (r2_load _ _ _)) <|
  RT_c (RE_p (r2_st _ _)) <|
  RT_c (RE_p (r2_st _ _)) <|
  RT_c (RE_p (r2_sld _ _ _)) <|
  RT_c (RE_p (r2_load _ _ _)) <|
  RT_c (RE_p (r2_load _ _ _)) <|
  RT_c (RE_p (r2_st _ _)) <|
  RT_c (RE_p (r2_st _ _)) <|
  RT_c (RE_p (r2_sld _ _ _)) <|
  RT_c (RE_q) <|
  RT_c (RE_p (r2_load _ _ _)) <|
  RT_c (RE_p (r2_load _ _ _)) <|
  RT_c (RE_p (r2_load _ _ _)) <|
  RT_c (RE_p (r2_st _ _)) <|
  RT_c (RE_p (r2_st _ _)) <|
  RT_c (RE_p (r2_sld _ _ _)) <|
  RT_c (RE_p (r2_load _ _ _)) <|
  RT_c (RE_p (r2_load _ _ _)) <|
  RT_c (RE_p (r2_st _ _)) <|
  RT_c (RE_p (r2_st _ _)) <|
  RT_c (RE_p (r2_sld _ _ _)) <|
  RT_c (RE_p (r2_load _ _ _)) <|
  RT_c (RE_p (r2_load _ _ _)) <|
  RT_c (RE_p (r2_st _ _)) <|
  RT_c (RE_p (r2_st _ _)) <|
  RT_c (RE_p (r2_sld _ _ _)) <|
  RT_c (RE_p (r2_load _ _ _)) <|
  RT_c (RE_p (r2_load _ _ _)) <|
  RT_c (RE_p (r2_st _ _)) <|
  RT_c (RE_p (r2_st _ _)) <|
  RT_c (RE_p (r2_sld _ _ _)) <|
  RT_c (RE_p (r2_load _ _ _)) <|
  RT_c (RE_p (r2_load _ _ _)) <|
  RT_c (RE_p (r2_st _ _)) <|
  RT_c (RE_p (r2_st _ _)) <|
  RT_c (RE_p (r2_sld _ _ _)) <|
  RT_c (RE_p (r2_load _ _ _)) <|
  RT_c (RE_p (r2_load _ _ _)) <|
  RT_c (RE_p (r2_st _ _)) <|
  RT_c (RE_p (r2_st _ _)) <|
  RT_c (RE_p (r2_sld _ _ _)) <|
  RT_c (RE_q) <|
  RT_c (RE_p (r2_icmp _ _ _)) <|
  RT_c (RE_p (r2_st _ _)) <|
  RT_n
set_option maxRecDepth 20000 in
theorem rtL_7 (L : Nat) (xs : Nat → Int32) : RT (tbL_7 L xs) (ubL_7 L xs) :=
  RT_c (RE_q) <|
  RT_c (RE_p (r2_load _ _ _)) <|
  RT_c (RE_p (r2_load _ _ _)) <|
  RT_c (RE_p (r2_load _ _ _)) <|
  RT_c (RE_p (r2_st _ _)) <|
  RT_c (RE_p (r2_st _ _)) <|
  RT_c (RE_p (r2_sld _ _ _)) <|
  RT_c (RE_p (r2_load _ _ _)) <|
  RT_c (RE_p (r2_load _ _ _)) <|
  RT_c (RE_p (r2_st _ _)) <|
  RT_c (RE_p (r2_st _ _)) <|
  RT_c (RE_p (r2_sld _ _ _)) <|
  RT_c (RE_p (r2_load _ _ _)) <|
  RT_c (RE_p (r2_load _ _ _)) <|
  RT_c (RE_p (r2_st _ _)) <|
  RT_c (RE_p (r2_st _ _)) <|
  RT_c (RE_p (r2_sld _ _ _)) <|
  RT_c (RE_p (r2_load _ _ _)) <|
  RT_c (RE_p (r2_load _ _ _)) <|
  RT_c (RE_p (r2_st _ _)) <|
  RT_c (RE_p (r2_st _ _)) <|
  RT_c (RE_p (r2_sld _ _ _)) <|
  RT_c (RE_p (r2_load _ _ _)) <|
  RT_c (RE_p (r2_load _ _ _)) <|
  RT_c (RE_p (r2_st _ _)) <|
  RT_c (RE_p (r2_st _ _)) <|
  RT_c (RE_p (r2_sld _ _ _)) <|
  RT_c (RE_q) <|
  RT_c (RE_p (r2_load _ _ _)) <|
  RT_c (RE_p (r2_load _ _ _)) <|
  RT_c (RE_p (r2_load _ _ _)) <|
  RT_c (RE_p (r2_st _ _)) <|
  RT_c (RE_p (r2_st _ _)) <|
  RT_c (RE_p (r2_sld _ _ _)) <|
  RT_c (RE_p (r2_load _ _ _)) <|
  RT_c (RE_p (r2_load _ _ _)) <|
  RT_c (RE_p (r2_st _ _)) <|
  RT_c (RE_p (r2_st _ _)) <|
  RT_c (RE_p (r2_sld _ _ _)) <|
  RT_c (RE_p (r2_load _ _ _)) <|
  RT_c (RE_p (r2_load _ _ _)) <|
  RT_c (RE_p (r2_st _ _)) <|
  RT_c (RE_p (r2_st _ _)) <|
  RT_c (RE_p (r2_sld _ _ _)) <|
  RT_c (RE_p (r2_load _ _ _)) <|
  RT_c (RE_p (r2_load _ _ _)) <|
  RT_c (RE_p (r2_st _ _)) <|
  RT_c (RE_p (r2_st _ _)) <|
  RT_c (RE_p (r2_sld _ _ _)) <|
  RT_c (RE_p (r2_load _ _ _)) <|
  RT_c (RE_p (r2_load _ _ _)) <|
  RT_c (RE_p (r2_st _ _)) <|
  RT_c (RE_p (r2_st _ _)) <|
  RT_c (RE_p (r2_sld _ _ _)) <|
  RT_c (RE_q) <|
  RT_c (RE_p (r2_icmp _ _ _)) <|
  RT_c (RE_p (r2_st _ _)) <|
  RT_c (RE_q) <|
  RT_c (RE_p (r2_load _ _ _)) <|
  RT_c (RE_p (r2_load _ _ _)) <|
  RT_n
set_option maxRecDepth 20000 in
theorem rtL_8 (L : Nat) (xs : Nat → Int32) : RT (tbL_8 L xs) (ubL_8 L xs) :=
  RT_c (RE_p (r2_load _ _ _)) <|
  RT_c (RE_p (r2_st _ _)) <|
  RT_c (RE_p (r2_st _ _)) <|
  RT_c (RE_p (r2_sld _ _ _)) <|
  RT_c (RE_p (r2_load _ _ _)) <|
  RT_c (RE_p (r2_load _ _ _)) <|
  RT_c (RE_p (r2_st _ _)) <|
  RT_c (RE_p (r2_st _ _)) <|
  RT_c (RE_p (r2_sld _ _ _)) <|
  RT_c (RE_p (r2_load _ _ _)) <|
  RT_c (RE_p (r2_load _ _ _)) <|
  RT_c (RE_p (r2_st _ _)) <|
  RT_c (RE_p (r2_st _ _)) <|
  RT_c (RE_p (r2_sld _ _ _)) <|
  RT_c (RE_q) <|
  RT_c (RE_p (r2_load _ _ _)) <|
  RT_c (RE_p (r2_load _ _ _)) <|
  RT_c (RE_p (r2_load _ _ _)) <|
  RT_c (RE_p (r2_st _ _)) <|
  RT_c (RE_p (r2_st _ _)) <|
  RT_c (RE_p (r2_sld _ _ _)) <|
  RT_c (RE_p (r2_load _ _ _)) <|
  RT_c (RE_p (r2_load _ _ _)) <|
  RT_c (RE_p (r2_st _ _)) <|
  RT_c (RE_p (r2_st _ _)) <|
  RT_c (RE_p (r2_sld _ _ _)) <|
  RT_c (RE_p (r2_load _ _ _)) <|
  RT_c (RE_p (r2_load _ _ _)) <|
  RT_c (RE_p (r2_st _ _)) <|
  RT_c (RE_p (r2_st _ _)) <|
  RT_c (RE_p (r2_sld _ _ _)) <|
  RT_c (RE_q) <|
  RT_c (RE_p (r2_icmp _ _ _)) <|
  RT_c (RE_p (r2_st _ _)) <|
  RT_c (RE_q) <|
  RT_c (RE_p (r2_load _ _ _)) <|
  RT_c (RE_p (r2_load _ _ _)) <|
  RT_c (RE_p (r2_load _ _ _)) <|
  RT_c (RE_p (r2_st _ _)) <|
  RT_c (RE_p (r2_st _ _)) <|
  RT_c (RE_p (r2_sld _ _ _)) <|
  RT_c (RE_q) <|
  RT_c (RE_p (r2_load _ _ _)) <|
  RT_c (RE_p (r2_load _ _ _)) <|
  RT_c (RE_p (r2_load _ _ _)) <|
  RT_c (RE_p (r2_st _ _)) <|
  RT_c (RE_p (r2_st _ _)) <|
  RT_c (RE_p (r2_sld _ _ _)) <|
  RT_c (RE_q) <|
  RT_c (RE_p (r2_icmp _ _ _)) <|
  RT_c (RE_p (r2_st _ _)) <|
  RT_c (RE_q) <|
  RT_c (RE_p (r2_load _ _ _)) <|
  RT_c (RE_p (r2_load _ _ _)) <|
  RT_c (RE_p (r2_load _ _ _)) <|
  RT_c (RE_p (r2_st _ _)) <|
  RT_c (RE_p (r2_st _ _)) <|
  RT_c (RE_p (r2_sld _ _ _)) <|
  RT_c (RE_q) <|
  RT_c (RE_p (r2_load _ _ _)) <|
  RT_n
set_option maxRecDepth 20000 in
theorem rtL_9 (L : Nat) (xs : Nat → Int32) : RT (tbL_9 L xs) (ubL_9 L xs) :=
  RT_c (RE_p (r2_load _ _ _)) <|
  RT_c (RE_p (r2_load _ _ _)) <|
  RT_c (RE_p (r2_st _ _)) <|
  RT_c (RE_p (r2_st _ _)) <|
  RT_c (RE_p (r2_sld _ _ _)) <|
  RT_c (RE_q) <|
  RT_c (RE_p (r2_icmp _ _ _)) <|
  RT_c (RE_p (r2_st _ _)) <|
  RT_c (RE_q) <|
  RT_c (RE_p (r2_load _ _ _)) <|
  RT_c (RE_p (r2_load _ _ _)) <|
  RT_c (RE_p (r2_load _ _ _)) <|
  RT_c (RE_p (r2_st _ _)) <|
  RT_c (RE_p (r2_st _ _)) <|
  RT_c (RE_p (r2_sld _ _ _)) <|
  RT_c (RE_q) <|
  RT_c (RE_p (r2_load _ _ _)) <|
  RT_c (RE_p (r2_load _ _ _)) <|
  RT_c (RE_p (r2_load _ _ _)) <|
  RT_c (RE_p (r2_st _ _)) <|
  RT_c (RE_p (r2_st _ _)) <|
  RT_c (RE_p (r2_sld _ _ _)) <|
  RT_c (RE_q) <|
  RT_c (RE_p (r2_icmp _ _ _)) <|
  RT_c (RE_p (r2_st _ _)) <|
  RT_c (RE_q) <|
  RT_c (RE_p (r2_load _ _ _)) <|
  RT_c (RE_p (r2_load _ _ _)) <|
  RT_c (RE_p (r2_load _ _ _)) <|
  RT_c (RE_p (r2_st _ _)) <|
  RT_c (RE_p (r2_st _ _)) <|
  RT_c (RE_p (r2_sld _ _ _)) <|
  RT_c (RE_p (r2_load _ _ _)) <|
  RT_c (RE_p (r2_load _ _ _)) <|
  RT_c (RE_p (r2_st _ _)) <|
  RT_c (RE_p (r2_st _ _)) <|
  RT_c (RE_p (r2_sld _ _ _)) <|
  RT_c (RE_p (r2_load _ _ _)) <|
  RT_c (RE_p (r2_load _ _ _)) <|
  RT_c (RE_p (r2_st _ _)) <|
  RT_c (RE_p (r2_st _ _)) <|
  RT_c (RE_p (r2_sld _ _ _)) <|
  RT_c (RE_q) <|
  RT_c (RE_p (r2_load _ _ _)) <|
  RT_c (RE_p (r2_load _ _ _)) <|
  RT_c (RE_p (r2_load _ _ _)) <|
  RT_c (RE_p (r2_st _ _)) <|
  RT_c (RE_p (r2_st _ _)) <|
  RT_c (RE_p (r2_sld _ _ _)) <|
  RT_c (RE_p (r2_load _ _ _)) <|
  RT_c (RE_p (r2_load _ _ _)) <|
  RT_c (RE_p (r2_st _ _)) <|
  RT_c (RE_p (r2_st _ _)) <|
  RT_c (RE_p (r2_sld _ _ _)) <|
  RT_c (RE_p (r2_load _ _ _)) <|
  RT_c (RE_p (r2_load _ _ _)) <|
  RT_c (RE_p (r2_st _ _)) <|
  RT_c (RE_p (r2_st _ _)) <|
  RT_c (RE_p (r2_sld _ _ _)) <|
  RT_c (RE_q) <|
  RT_n
set_option maxRecDepth 20000 in
theorem rtL_10 (L : Nat) (xs : Nat → Int32) : RT (tbL_10 L xs) (ubL_10 L xs) :=
  RT_c (RE_p (r2_st _ _)) <|
  RT_c (RE_p (r2_if _ _ _)) <|
  RT_c (RE_p (r2_st _ _)) <|
  RT_c (RE_q) <|
  RT_c (RE_p (r2_load _ _ _)) <|
  RT_c (RE_p (r2_load _ _ _)) <|
  RT_c (RE_p (r2_load _ _ _)) <|
  RT_c (RE_p (r2_st _ _)) <|
  RT_c (RE_p (r2_st _ _)) <|
  RT_c (RE_p (r2_sld _ _ _)) <|
  RT_c (RE_p (r2_load _ _ _)) <|
  RT_c (RE_p (r2_load _ _ _)) <|
  RT_c (RE_p (r2_st _ _)) <|
  RT_c (RE_p (r2_st _ _)) <|
  RT_c (RE_p (r2_sld _ _ _)) <|
  RT_c (RE_p (r2_load _ _ _)) <|
  RT_c (RE_p (r2_load _ _ _)) <|
  RT_c (RE_p (r2_st _ _)) <|
  RT_c (RE_p (r2_st _ _)) <|
  RT_c (RE_p (r2_sld _ _ _)) <|
  RT_c (RE_q) <|
  RT_c (RE_p (r2_load _ _ _)) <|
  RT_c (RE_p (r2_load _ _ _)) <|
  RT_c (RE_p (r2_load _ _ _)) <|
  RT_c (RE_p (r2_st _ _)) <|
  RT_c (RE_p (r2_st _ _)) <|
  RT_c (RE_p (r2_sld _ _ _)) <|
  RT_c (RE_p (r2_load _ _ _)) <|
  RT_c (RE_p (r2_load _ _ _)) <|
  RT_c (RE_p (r2_st _ _)) <|
  RT_c (RE_p (r2_st _ _)) <|
  RT_c (RE_p (r2_sld _ _ _)) <|
  RT_c (RE_p (r2_load _ _ _)) <|
  RT_c (RE_p (r2_load _ _ _)) <|
  RT_c (RE_p (r2_st _ _)) <|
  RT_c (RE_p (r2_st _ _)) <|
  RT_c (RE_p (r2_sld _ _ _)) <|
  RT_c (RE_q) <|
  RT_c (RE_p (r2_icmp _ _ _)) <|
  RT_c (RE_p (r2_st _ _)) <|
  RT_c (RE_q) <|
  RT_c (RE_p (r2_load _ _ _)) <|
  RT_c (RE_p (r2_load _ _ _)) <|
  RT_c (RE_p (r2_load _ _ _)) <|
  RT_c (RE_p (r2_st _ _)) <|
  RT_c (RE_p (r2_st _ _)) <|
  RT_c (RE_p (r2_sld _ _ _)) <|
  RT_c (RE_q) <|
  RT_c (RE_p (r2_load _ _ _)) <|
  RT_c (RE_p (r2_load _ _ _)) <|
  RT_c (RE_p (r2_load _ _ _)) <|
  RT_c (RE_p (r2_st _ _)) <|
  RT_c (RE_p (r2_st _ _)) <|
  RT_c (RE_p (r2_sld _ _ _)) <|
  RT_c (RE_q) <|
  RT_c (RE_p (r2_icmp _ _ _)) <|
  RT_c (RE_p (r2_st _ _)) <|
  RT_c (RE_q) <|
  RT_c (RE_p (r2_load _ _ _)) <|
  RT_c (RE_p (r2_load _ _ _)) <|
  RT_n
set_option maxRecDepth 20000 in
theorem rtL_11 (L : Nat) (xs : Nat → Int32) : RT (tbL_11 L xs) (ubL_11 L xs) :=
  RT_c (RE_p (r2_load _ _ _)) <|
  RT_c (RE_p (r2_st _ _)) <|
  RT_c (RE_p (r2_st _ _)) <|
  RT_c (RE_p (r2_sld _ _ _)) <|
  RT_c (RE_p (r2_load _ _ _)) <|
  RT_c (RE_p (r2_load _ _ _)) <|
  RT_c (RE_p (r2_st _ _)) <|
  RT_c (RE_p (r2_st _ _)) <|
  RT_c (RE_p (r2_sld _ _ _)) <|
  RT_c (RE_p (r2_load _ _ _)) <|
  RT_c (RE_p (r2_load _ _ _)) <|
  RT_c (RE_p (r2_st _ _)) <|
  RT_c (RE_p (r2_st _ _)) <|
  RT_c (RE_p (r2_sld _ _ _)) <|
  RT_c (RE_q) <|
  RT_c (RE_p (r2_load _ _ _)) <|
  RT_c (RE_p (r2_load _ _ _)) <|
  RT_c (RE_p (r2_load _ _ _)) <|
  RT_c (RE_p (r2_st _ _)) <|
  RT_c (RE_p (r2_st _ _)) <|
  RT_c (RE_p (r2_sld _ _ _)) <|
  RT_c (RE_p (r2_load _ _ _)) <|
  RT_c (RE_p (r2_load _ _ _)) <|
  RT_c (RE_p (r2_st _ _)) <|
  RT_c (RE_p (r2_st _ _)) <|
  RT_c (RE_p (r2_sld _ _ _)) <|
  RT_c (RE_p (r2_load _ _ _)) <|
  RT_c (RE_p (r2_load _ _ _)) <|
  RT_c (RE_p (r2_st _ _)) <|
  RT_c (RE_p (r2_st _ _)) <|
  RT_c (RE_p (r2_sld _ _ _)) <|
  RT_c (RE_q) <|
  RT_c (RE_p (r2_icmp _ _ _)) <|
  RT_c (RE_p (r2_st _ _)) <|
  RT_c (RE_q) <|
  RT_c (RE_p (r2_load _ _ _)) <|
  RT_c (RE_p (r2_load _ _ _)) <|
  RT_c (RE_p (r2_load _ _ _)) <|
  RT_c (RE_p (r2_st _ _)) <|
  RT_c (RE_p (r2_st _ _)) <|
  RT_c (RE_p (r2_sld _ _ _)) <|
  RT_c (RE_p (r2_load _ _ _)) <|
  RT_c (RE_p (r2_load _ _ _)) <|
  RT_c (RE_p (r2_st _ _)) <|
  RT_c (RE_p (r2_st _ _)) <|
  RT_c (RE_p (r2_sld _ _ _)) <|
  RT_c (RE_p (r2_load _ _ _)) <|
  RT_c (RE_p (r2_load _ _ _)) <|
  RT_c (RE_p (r2_st _ _)) <|
  RT_c (RE_p (r2_st _ _)) <|
  RT_c (RE_p (r2_sld _ _ _)) <|
  RT_c (RE_q) <|
  RT_c (RE_p (r2_load _ _ _)) <|
  RT_c (RE_p (r2_load _ _ _)) <|
  RT_c (RE_p (r2_load _ _ _)) <|
  RT_c (RE_p (r2_st _ _)) <|
  RT_c (RE_p (r2_st _ _)) <|
  RT_c (RE_p (r2_sld _ _ _)) <|
  RT_c (RE_p (r2_load _ _ _)) <|
  RT_c (RE_p (r2_load _ _ _)) <|
  RT_n
set_option maxRecDepth 20000 in
theorem rtL_12 (L : Nat) (xs : Nat → Int32) : RT (tbL_12 L xs) (ubL_12 L xs) :=
  RT_c (RE_p (r2_st _ _)) <|
  RT_c (RE_p (r2_st _ _)) <|
  RT_c (RE_p (r2_sld _ _ _)) <|
  RT_c (RE_p (r2_load _ _ _)) <|
  RT_c (RE_p (r2_load _ _ _)) <|
  RT_c (RE_p (r2_st _ _)) <|
  RT_c (RE_p (r2_st _ _)) <|
  RT_c (RE_p (r2_sld _ _ _)) <|
  RT_c (RE_q) <|
  RT_c (RE_p (r2_st _ _)) <|
  RT_c (RE_p (r2_if _ _ _)) <|
  RT_c (RE_p (r2_st _ _)) <|
  RT_c (RE_q) <|
  RT_c (RE_p (r2_load _ _ _)) <|
  RT_c (RE_p (r2_load _ _ _)) <|
  RT_c (RE_p (r2_load _ _ _)) <|
  RT_c (RE_p (r2_st _ _)) <|
  RT_c (RE_p (r2_st _ _)) <|
  RT_c (RE_p (r2_sld _ _ _)) <|
  RT_c (RE_p (r2_load _ _ _)) <|
  RT_c (RE_p (r2_load _ _ _)) <|
  RT_c (RE_p (r2_st _ _)) <|
  RT_c (RE_p (r2_st _ _)) <|
  RT_c (RE_p (r2_sld _ _ _)) <|
  RT_c (RE_p (r2_load _ _ _)) <|
  RT_c (RE_p (r2_load _ _ _)) <|
  RT_c (RE_p (r2_st _ _)) <|
  RT_c (RE_p (r2_st _ _)) <|
  RT_c (RE_p (r2_sld _ _ _)) <|
  RT_c (RE_p (r2_load _ _ _)) <|
  RT_c (RE_p (r2_load _ _ _)) <|
  RT_c (RE_p (r2_st _ _)) <|
  RT_c (RE_p (r2_st _ _)) <|
  RT_c (RE_p (r2_sld _ _ _)) <|
  RT_c (RE_p (r2_load _ _ _)) <|
  RT_c (RE_p (r2_load _ _ _)) <|
  RT_c (RE_p (r2_st _ _)) <|
  RT_c (RE_p (r2_st _ _)) <|
  RT_c (RE_p (r2_sld _ _ _)) <|
  RT_c (RE_q) <|
  RT_c (RE_p (r2_load _ _ _)) <|
  RT_c (RE_p (r2_load _ _ _)) <|
  RT_c (RE_p (r2_load _ _ _)) <|
  RT_c (RE_p (r2_st _ _)) <|
  RT_c (RE_p (r2_st _ _)) <|
  RT_c (RE_p (r2_sld _ _ _)) <|
  RT_c (RE_p (r2_load _ _ _)) <|
  RT_c (RE_p (r2_load _ _ _)) <|
  RT_c (RE_p (r2_st _ _)) <|
  RT_c (RE_p (r2_st _ _)) <|
  RT_c (RE_p (r2_sld _ _ _)) <|
  RT_c (RE_p (r2_load _ _ _)) <|
  RT_c (RE_p (r2_load _ _ _)) <|
  RT_c (RE_p (r2_st _ _)) <|
  RT_c (RE_p (r2_st _ _)) <|
  RT_c (RE_p (r2_sld _ _ _)) <|
  RT_c (RE_p (r2_load _ _ _)) <|
  RT_c (RE_p (r2_load _ _ _)) <|
  RT_c (RE_p (r2_st _ _)) <|
  RT_c (RE_p (r2_st _ _)) <|
  RT_n
set_option maxRecDepth 20000 in
theorem rtL_13 (L : Nat) (xs : Nat → Int32) : RT (tbL_13 L xs) (ubL_13 L xs) :=
  RT_c (RE_p (r2_sld _ _ _)) <|
  RT_c (RE_p (r2_load _ _ _)) <|
  RT_c (RE_p (r2_load _ _ _)) <|
  RT_c (RE_p (r2_st _ _)) <|
  RT_c (RE_p (r2_st _ _)) <|
  RT_c (RE_p (r2_sld _ _ _)) <|
  RT_c (RE_q) <|
  RT_c (RE_p (r2_icmp _ _ _)) <|
  RT_c (RE_p (r2_st _ _)) <|
  RT_c (RE_q) <|
  RT_c (RE_p (r2_load _ _ _)) <|
  RT_c (RE_p (r2_load _ _ _)) <|
  RT_c (RE_p (r2_load _ _ _)) <|
  RT_c (RE_p (r2_st _ _)) <|
  RT_c (RE_p (r2_st _ _)) <|
  RT_c (RE_p (r2_sld _ _ _)) <|
  RT_c (RE_q) <|
  RT_c (RE_p (r2_load _ _ _)) <|
  RT_c (RE_p (r2_load _ _ _)) <|
  RT_c (RE_p (r2_load _ _ _)) <|
  RT_c (RE_p (r2_st _ _)) <|
  RT_c (RE_p (r2_st _ _)) <|
  RT_c (RE_p (r2_sld _ _ _)) <|
  RT_c (RE_q) <|
  RT_c (RE_p (r2_icmp _ _ _)) <|
  RT_c (RE_p (r2_st _ _)) <|
  RT_c (RE_q) <|
  RT_c (RE_p (r2_load _ _ _)) <|
  RT_c (RE_p (r2_load _ _ _)) <|
  RT_c (RE_p (r2_load _ _ _)) <|
  RT_c (RE_p (r2_st _ _)) <|
  RT_c (RE_p (r2_st _ _)) <|
  RT_c (RE_p (r2_sld _ _ _)) <|
  RT_c (RE_q) <|
  RT_c (RE_p (r2_load _ _ _)) <|
  RT_c (RE_p (r2_load _ _ _)) <|
  RT_c (RE_p (r2_load _ _ _)) <|
  RT_c (RE_p (r2_st _ _)) <|
  RT_c (RE_p (r2_st _ _)) <|
  RT_c (RE_p (r2_sld _ _ _)) <|
  RT_c (RE_q) <|
  RT_c (RE_p (r2_icmp _ _ _)) <|
  RT_c (RE_p (r2_st _ _)) <|
  RT_c (RE_q) <|
  RT_c (RE_p (r2_load _ _ _)) <|
  RT_c (RE_p (r2_load _ _ _)) <|
  RT_c (RE_p (r2_load _ _ _)) <|
  RT_c (RE_p (r2_st _ _)) <|
  RT_c (RE_p (r2_st _ _)) <|
  RT_c (RE_p (r2_sld _ _ _)) <|
  RT_c (RE_p (r2_load _ _ _)) <|
  RT_c (RE_p (r2_load _ _ _)) <|
  RT_c (RE_p (r2_st _ _)) <|
  RT_c (RE_p (r2_st _ _)) <|
  RT_c (RE_p (r2_sld _ _ _)) <|
  RT_c (RE_q) <|
  RT_c (RE_p (r2_load _ _ _)) <|
  RT_c (RE_p (r2_load _ _ _)) <|
  RT_c (RE_p (r2_load _ _ _)) <|
  RT_c (RE_p (r2_st _ _)) <|
  RT_n
set_option maxRecDepth 20000 in
theorem rtL_14 (L : Nat) (xs : Nat → Int32) : RT (tbL_14 L xs) (ubL_14 L xs) :=
  RT_c (RE_p (r2_st _ _)) <|
  RT_c (RE_p (r2_sld _ _ _)) <|
  RT_c (RE_p (r2_load _ _ _)) <|
  RT_c (RE_p (r2_load _ _ _)) <|
  RT_c (RE_p (r2_st _ _)) <|
  RT_c (RE_p (r2_st _ _)) <|
  RT_c (RE_p (r2_sld _ _ _)) <|
  RT_c (RE_q) <|
  RT_c (RE_p (r2_icmp _ _ _)) <|
  RT_c (RE_p (r2_st _ _)) <|
  RT_c (RE_q) <|
  RT_c (RE_p (r2_load _ _ _)) <|
  RT_c (RE_q) <|
  RT_c (RE_p (r2_load _ _ _)) <|
  RT_c (RE_q) <|
  RT_c (RE_p (r2_icmp _ _ _)) <|
  RT_c (RE_p (r2_st _ _)) <|
  RT_c (RE_q) <|
  RT_c (RE_p (r2_load _ _ _)) <|
  RT_c (RE_q) <|
  RT_c (RE_p (r2_load _ _ _)) <|
  RT_c (RE_q) <|
  RT_c (RE_p (r2_icmp _ _ _)) <|
  RT_c (RE_p (r2_st _ _)) <|
  RT_c (RE_q) <|
  RT_c (RE_p (r2_load _ _ _)) <|
  RT_c (RE_p (r2_load _ _ _)) <|
  RT_c (RE_p (r2_load _ _ _)) <|
  RT_c (RE_p (r2_st _ _)) <|
  RT_c (RE_p (r2_st _ _)) <|
  RT_c (RE_p (r2_sld _ _ _)) <|
  RT_c (RE_q) <|
  RT_c (RE_p (r2_load _ _ _)) <|
  RT_c (RE_p (r2_load _ _ _)) <|
  RT_c (RE_p (r2_load _ _ _)) <|
  RT_c (RE_p (r2_st _ _)) <|
  RT_c (RE_p (r2_st _ _)) <|
  RT_c (RE_p (r2_sld _ _ _)) <|
  RT_c (RE_q) <|
  RT_c (RE_p (r2_icmp _ _ _)) <|
  RT_c (RE_p (r2_st _ _)) <|
  RT_c (RE_q) <|
  RT_c (RE_p (r2_iinc _ _ _)) <|
  RT_c (RE_p (r2_st _ _)) <|
  RT_c (RE_p (r2_st _ _)) <|
  RT_c (RE_q) <|
  RT_n
theorem rtL (L : Nat) (xs : Nat → Int32) : RT (tbL L xs) (ubL L xs) := RT_app (rtL_0 L xs) (RT_app (rtL_1 L xs) (RT_app (rtL_2 L xs) (RT_app (rtL_3 L xs) (RT_app (rtL_4 L xs) (RT_app (rtL_5 L xs) (RT_app (rtL_6 L xs) (RT_app (rtL_7 L xs) (RT_app (rtL_8 L xs) (RT_app (rtL_9 L xs) (RT_app (rtL_10 L xs) (RT_app (rtL_11 L xs) (RT_app (rtL_12 L xs) (RT_app (rtL_13 L xs) (rtL_14 L xs))))))))))))))
def xRT (j : Nat) : Prop := ∀ M2, pT2 j = some M2 → ∃ t, pT j = some (M2.1, M2.2.1, t) ∧ RT t M2.2.2
theorem rj_0 : xRT 0 := fun M h => by cases h
theorem uD_0 : pD 0 = (1, 21) := rfl
theorem uT_1 : pT2 1 = some (1, false, ubX0_count) := rfl
theorem rj_1 : xRT 1 := fun M h => by
  cases (uT_1.symm.trans h)
  exact ⟨tbX0_count, pT_1, rtX0_count⟩
theorem uD_1 : pD 1 = (0, 0) := rfl
theorem uT_2 : pT2 2 = some (1, false, ubX0_areFull) := rfl
theorem rj_2 : xRT 2 := fun M h => by
  cases (uT_2.symm.trans h)
  exact ⟨tbX0_areFull, pT_2, rtX0_areFull⟩
theorem uD_2 : pD 2 = (0, 0) := rfl
theorem uT_3 : pT2 3 = some (4, false, ubX0_add) := rfl
theorem rj_3 : xRT 3 := fun M h => by
  cases (uT_3.symm.trans h)
  exact ⟨tbX0_add, pT_3, rtX0_add⟩
theorem uD_3 : pD 3 = (1, 22) := rfl
theorem uT_4 : pT2 4 = some (2, false, ubX0_keep) := rfl
theorem rj_4 : xRT 4 := fun M h => by
  cases (uT_4.symm.trans h)
  exact ⟨tbX0_keep, pT_4, rtX0_keep⟩
theorem uD_4 : pD 4 = (0, 0) := rfl
theorem uT_5 : pT2 5 = some (9, false, ubX0_areSo) := rfl
theorem rj_5 : xRT 5 := fun M h => by
  cases (uT_5.symm.trans h)
  exact ⟨tbX0_areSo, pT_5, rtX0_areSo⟩
theorem uD_5 : pD 5 = (2, 44) := rfl
theorem rj_6 : xRT 6 := fun M h => by cases h
theorem uD_6 : pD 6 = (1, 21) := rfl
theorem uT_7 : pT2 7 = some (6, false, ubX1_beginBy) := rfl
theorem rj_7 : xRT 7 := fun M h => by
  cases (uT_7.symm.trans h)
  exact ⟨tbX1_beginBy, pT_7, rtX1_beginBy⟩
theorem uD_7 : pD 7 = (2, 44) := rfl
theorem uT_8 : pT2 8 = some (1, false, ubX1_exists) := rfl
theorem rj_8 : xRT 8 := fun M h => by
  cases (uT_8.symm.trans h)
  exact ⟨tbX1_exists, pT_8, rtX1_exists⟩
theorem uD_8 : pD 8 = (0, 0) := rfl
theorem uT_9 : pT2 9 = some (1, false, ubX1_columns) := rfl
theorem rj_9 : xRT 9 := fun M h => by
  cases (uT_9.symm.trans h)
  exact ⟨tbX1_columns, pT_9, rtX1_columns⟩
theorem uD_9 : pD 9 = (0, 0) := rfl
theorem uT_10 : pT2 10 = some (1, false, ubX1_rows) := rfl
theorem rj_10 : xRT 10 := fun M h => by
  cases (uT_10.symm.trans h)
  exact ⟨tbX1_rows, pT_10, rtX1_rows⟩
theorem uD_10 : pD 10 = (0, 0) := rfl
theorem uT_11 : pT2 11 = some (1, false, ubX1_lookers) := rfl
theorem rj_11 : xRT 11 := fun M h => by
  cases (uT_11.symm.trans h)
  exact ⟨tbX1_lookers, pT_11, rtX1_lookers⟩
theorem uD_11 : pD 11 = (0, 0) := rfl
theorem uT_12 : pT2 12 = some (1, false, ubX1_place) := rfl
theorem rj_12 : xRT 12 := fun M h => by
  cases (uT_12.symm.trans h)
  exact ⟨tbX1_place, pT_12, rtX1_place⟩
theorem uD_12 : pD 12 = (0, 0) := rfl
theorem uT_13 : pT2 13 = some (1, false, ubX1_seenCells) := rfl
theorem rj_13 : xRT 13 := fun M h => by
  cases (uT_13.symm.trans h)
  exact ⟨tbX1_seenCells, pT_13, rtX1_seenCells⟩
theorem uD_13 : pD 13 = (0, 0) := rfl
theorem uT_14 : pT2 14 = some (1, false, ubX1_stepsDone) := rfl
theorem rj_14 : xRT 14 := fun M h => by
  cases (uT_14.symm.trans h)
  exact ⟨tbX1_stepsDone, pT_14, rtX1_stepsDone⟩
theorem uD_14 : pD 14 = (0, 0) := rfl
theorem uT_15 : pT2 15 = some (1, false, ubX1_cells) := rfl
theorem rj_15 : xRT 15 := fun M h => by
  cases (uT_15.symm.trans h)
  exact ⟨tbX1_cells, pT_15, rtX1_cells⟩
theorem uD_15 : pD 15 = (0, 0) := rfl
theorem uT_16 : pT2 16 = some (2, false, ubX1_isCell) := rfl
theorem rj_16 : xRT 16 := fun M h => by
  cases (uT_16.symm.trans h)
  exact ⟨tbX1_isCell, pT_16, rtX1_isCell⟩
theorem uD_16 : pD 16 = (1, 20) := rfl
theorem uT_17 : pT2 17 = some (2, false, ubX1_isLooker) := rfl
theorem rj_17 : xRT 17 := fun M h => by
  cases (uT_17.symm.trans h)
  exact ⟨tbX1_isLooker, pT_17, rtX1_isLooker⟩
theorem uD_17 : pD 17 = (0, 0) := rfl
theorem uT_18 : pT2 18 = some (2, false, ubX1_heightOf) := rfl
theorem rj_18 : xRT 18 := fun M h => by
  cases (uT_18.symm.trans h)
  exact ⟨tbX1_heightOf, pT_18, rtX1_heightOf⟩
theorem uD_18 : pD 18 = (1, 21) := rfl
theorem uT_19 : pT2 19 = some (3, false, ubX1_makeHeight) := rfl
theorem rj_19 : xRT 19 := fun M h => by
  cases (uT_19.symm.trans h)
  exact ⟨tbX1_makeHeight, pT_19, rtX1_makeHeight⟩
theorem uD_19 : pD 19 = (1, 22) := rfl
theorem uT_20 : pT2 20 = some (2, false, ubX1_kindOf) := rfl
theorem rj_20 : xRT 20 := fun M h => by
  cases (uT_20.symm.trans h)
  exact ⟨tbX1_kindOf, pT_20, rtX1_kindOf⟩
theorem uD_20 : pD 20 = (1, 21) := rfl
theorem uT_21 : pT2 21 = some (2, false, ubX1_shortOf) := rfl
theorem rj_21 : xRT 21 := fun M h => by
  cases (uT_21.symm.trans h)
  exact ⟨tbX1_shortOf, pT_21, rtX1_shortOf⟩
theorem uD_21 : pD 21 = (1, 21) := rfl
theorem uT_22 : pT2 22 = some (3, false, ubX1_makeShort) := rfl
theorem rj_22 : xRT 22 := fun M h => by
  cases (uT_22.symm.trans h)
  exact ⟨tbX1_makeShort, pT_22, rtX1_makeShort⟩
theorem uD_22 : pD 22 = (1, 22) := rfl
theorem uT_23 : pT2 23 = some (2, false, ubX1_isGone) := rfl
theorem rj_23 : xRT 23 := fun M h => by
  cases (uT_23.symm.trans h)
  exact ⟨tbX1_isGone, pT_23, rtX1_isGone⟩
theorem uD_23 : pD 23 = (0, 0) := rfl
theorem uT_24 : pT2 24 = some (1, false, ubX1_lookersLeft) := rfl
theorem rj_24 : xRT 24 := fun M h => by
  cases (uT_24.symm.trans h)
  exact ⟨tbX1_lookersLeft, pT_24, rtX1_lookersLeft⟩
theorem uD_24 : pD 24 = (1, 20) := rfl
theorem uT_25 : pT2 25 = some (2, false, ubX1_takeOff) := rfl
theorem rj_25 : xRT 25 := fun M h => by
  cases (uT_25.symm.trans h)
  exact ⟨tbX1_takeOff, pT_25, rtX1_takeOff⟩
theorem uD_25 : pD 25 = (0, 0) := rfl
theorem uT_26 : pT2 26 = some (2, false, ubX1_bringBack) := rfl
theorem rj_26 : xRT 26 := fun M h => by
  cases (uT_26.symm.trans h)
  exact ⟨tbX1_bringBack, pT_26, rtX1_bringBack⟩
theorem uD_26 : pD 26 = (1, 21) := rfl
theorem uT_27 : pT2 27 = some (2, false, ubX1_moveTo) := rfl
theorem rj_27 : xRT 27 := fun M h => by
  cases (uT_27.symm.trans h)
  exact ⟨tbX1_moveTo, pT_27, rtX1_moveTo⟩
theorem uD_27 : pD 27 = (1, 21) := rfl
theorem uT_28 : pT2 28 = some (2, false, ubX1_seenFrom) := rfl
theorem rj_28 : xRT 28 := fun M h => by
  cases (uT_28.symm.trans h)
  exact ⟨tbX1_seenFrom, pT_28, rtX1_seenFrom⟩
theorem uD_28 : pD 28 = (0, 0) := rfl
theorem uT_29 : pT2 29 = some (3, false, ubX1_toldOf) := rfl
theorem rj_29 : xRT 29 := fun M h => by
  cases (uT_29.symm.trans h)
  exact ⟨tbX1_toldOf, pT_29, rtX1_toldOf⟩
theorem uD_29 : pD 29 = (2, 44) := rfl
theorem uT_30 : pT2 30 = some (4, true, ubX1_told) := rfl
theorem rj_30 : xRT 30 := fun M h => by
  cases (uT_30.symm.trans h)
  exact ⟨tbX1_told, pT_30, rtX1_told⟩
theorem uD_30 : pD 30 = (1, 21) := rfl
theorem uT_31 : pT2 31 = some (2, false, ubX1_columnOf) := rfl
theorem rj_31 : xRT 31 := fun M h => by
  cases (uT_31.symm.trans h)
  exact ⟨tbX1_columnOf, pT_31, rtX1_columnOf⟩
theorem uD_31 : pD 31 = (0, 0) := rfl
theorem uT_32 : pT2 32 = some (2, false, ubX1_rowOf) := rfl
theorem rj_32 : xRT 32 := fun M h => by
  cases (uT_32.symm.trans h)
  exact ⟨tbX1_rowOf, pT_32, rtX1_rowOf⟩
theorem uD_32 : pD 32 = (0, 0) := rfl
theorem uT_33 : pT2 33 = some (2, false, ubX1_isPlace) := rfl
theorem rj_33 : xRT 33 := fun M h => by
  cases (uT_33.symm.trans h)
  exact ⟨tbX1_isPlace, pT_33, rtX1_isPlace⟩
theorem uD_33 : pD 33 = (2, 41) := rfl
theorem uT_34 : pT2 34 = some (3, false, ubX1_nextPlace) := rfl
theorem rj_34 : xRT 34 := fun M h => by
  cases (uT_34.symm.trans h)
  exact ⟨tbX1_nextPlace, pT_34, rtX1_nextPlace⟩
theorem uD_34 : pD 34 = (1, 21) := rfl
theorem uT_35 : pT2 35 = some (10, true, ubX1_ofVoyage) := rfl
theorem rj_35 : xRT 35 := fun M h => by
  cases (uT_35.symm.trans h)
  exact ⟨tbX1_ofVoyage, pT_35, rtX1_ofVoyage⟩
theorem uD_35 : pD 35 = (4, 89) := rfl
theorem uT_36 : pT2 36 = some (4, false, ubX1_toldTogether) := rfl
theorem rj_36 : xRT 36 := fun M h => by
  cases (uT_36.symm.trans h)
  exact ⟨tbX1_toldTogether, pT_36, rtX1_toldTogether⟩
theorem uD_36 : pD 36 = (3, 66) := rfl
theorem uT_37 : pT2 37 = some (4, true, ubX1_mostTold) := rfl
theorem rj_37 : xRT 37 := fun M h => by
  cases (uT_37.symm.trans h)
  exact ⟨tbX1_mostTold, pT_37, rtX1_mostTold⟩
theorem uD_37 : pD 37 = (3, 66) := rfl
theorem uT_38 : pT2 38 = some (9, true, ubX1_ofWay) := rfl
theorem rj_38 : xRT 38 := fun M h => by
  cases (uT_38.symm.trans h)
  exact ⟨tbX1_ofWay, pT_38, rtX1_ofWay⟩
theorem uD_38 : pD 38 = (2, 46) := rfl
theorem uT_39 : pT2 39 = some (6, true, ubX1_fewestAcross) := rfl
theorem rj_39 : xRT 39 := fun M h => by
  cases (uT_39.symm.trans h)
  exact ⟨tbX1_fewestAcross, pT_39, rtX1_fewestAcross⟩
theorem uD_39 : pD 39 = (1, 21) := rfl
theorem uT_40 : pT2 40 = some (4, false, ubX1_ofMost) := rfl
theorem rj_40 : xRT 40 := fun M h => by
  cases (uT_40.symm.trans h)
  exact ⟨tbX1_ofMost, pT_40, rtX1_ofMost⟩
theorem uD_40 : pD 40 = (4, 94) := rfl
theorem uT_41 : pT2 41 = some (6, false, ubX1_bestRow) := rfl
theorem rj_41 : xRT 41 := fun M h => by
  cases (uT_41.symm.trans h)
  exact ⟨tbX1_bestRow, pT_41, rtX1_bestRow⟩
theorem uD_41 : pD 41 = (3, 69) := rfl
theorem uT_42 : pT2 42 = some (3, false, ubX1_stepOfRow) := rfl
theorem rj_42 : xRT 42 := fun M h => by
  cases (uT_42.symm.trans h)
  exact ⟨tbX1_stepOfRow, pT_42, rtX1_stepOfRow⟩
theorem uD_42 : pD 42 = (0, 0) := rfl
theorem uT_43 : pT2 43 = some (7, false, ubX1_gainOf) := rfl
theorem rj_43 : xRT 43 := fun M h => by
  cases (uT_43.symm.trans h)
  exact ⟨tbX1_gainOf, pT_43, rtX1_gainOf⟩
theorem uD_43 : pD 43 = (2, 43) := rfl
theorem uT_44 : pT2 44 = some (7, false, ubX1_flatWith) := rfl
theorem rj_44 : xRT 44 := fun M h => by
  cases (uT_44.symm.trans h)
  exact ⟨tbX1_flatWith, pT_44, rtX1_flatWith⟩
theorem uD_44 : pD 44 = (3, 66) := rfl
theorem uT_45 : pT2 45 = some (5, false, ubX1_cellsOfHeight) := rfl
theorem rj_45 : xRT 45 := fun M h => by
  cases (uT_45.symm.trans h)
  exact ⟨tbX1_cellsOfHeight, pT_45, rtX1_cellsOfHeight⟩
theorem uD_45 : pD 45 = (2, 42) := rfl
theorem uT_46 : pT2 46 = some (7, false, ubX1_bordering) := rfl
theorem rj_46 : xRT 46 := fun M h => by
  cases (uT_46.symm.trans h)
  exact ⟨tbX1_bordering, pT_46, rtX1_bordering⟩
theorem uD_46 : pD 46 = (1, 24) := rfl
theorem uT_47 : pT2 47 = some (5, false, ubX1_cellsOfColumn) := rfl
theorem rj_47 : xRT 47 := fun M h => by
  cases (uT_47.symm.trans h)
  exact ⟨tbX1_cellsOfColumn, pT_47, rtX1_cellsOfColumn⟩
theorem uD_47 : pD 47 = (0, 0) := rfl
theorem uT_48 : pT2 48 = some (9, false, ubX1_ofBegins) := rfl
theorem rj_48 : xRT 48 := fun M h => by
  cases (uT_48.symm.trans h)
  exact ⟨tbX1_ofBegins, pT_48, rtX1_ofBegins⟩
theorem uD_48 : pD 48 = (5, 116) := rfl
theorem uT_49 : pT2 49 = some (7, false, ubX1_isToldFrom) := rfl
theorem rj_49 : xRT 49 := fun M h => by
  cases (uT_49.symm.trans h)
  exact ⟨tbX1_isToldFrom, pT_49, rtX1_isToldFrom⟩
theorem uD_49 : pD 49 = (4, 90) := rfl
theorem uT_50 : pT2 50 = some (5, false, ubX1_isToldAt) := rfl
theorem rj_50 : xRT 50 := fun M h => by
  cases (uT_50.symm.trans h)
  exact ⟨tbX1_isToldAt, pT_50, rtX1_isToldAt⟩
theorem uD_50 : pD 50 = (3, 66) := rfl
theorem uT_51 : pT2 51 = some (1, false, ubX1_places) := rfl
theorem rj_51 : xRT 51 := fun M h => by
  cases (uT_51.symm.trans h)
  exact ⟨tbX1_places, pT_51, rtX1_places⟩
theorem uD_51 : pD 51 = (0, 0) := rfl
theorem uT_52 : pT2 52 = some (5, false, ubX1_placesWhereTold) := rfl
theorem rj_52 : xRT 52 := fun M h => by
  cases (uT_52.symm.trans h)
  exact ⟨tbX1_placesWhereTold, pT_52, rtX1_placesWhereTold⟩
theorem uD_52 : pD 52 = (3, 66) := rfl
theorem uT_53 : pT2 53 = some (6, false, ubX2_firstFault) := rfl
theorem rj_53 : xRT 53 := fun M h => by
  cases (uT_53.symm.trans h)
  exact ⟨tbX2_firstFault, pT_53, rtX2_firstFault⟩
theorem uD_53 : pD 53 = (4, 94) := rfl
theorem uT_54 : pT2 54 = some (7, true, ubX2_faultInLookers) := rfl
theorem rj_54 : xRT 54 := fun M h => by
  cases (uT_54.symm.trans h)
  exact ⟨tbX2_faultInLookers, pT_54, rtX2_faultInLookers⟩
theorem uD_54 : pD 54 = (3, 68) := rfl
theorem uT_55 : pT2 55 = some (6, false, ubX2_faultInTail) := rfl
theorem rj_55 : xRT 55 := fun M h => by
  cases (uT_55.symm.trans h)
  exact ⟨tbX2_faultInTail, pT_55, rtX2_faultInTail⟩
theorem uD_55 : pD 55 = (2, 43) := rfl
theorem uT_56 : pT2 56 = some (3, false, ubX2_codeAt) := rfl
theorem rj_56 : xRT 56 := fun M h => by
  cases (uT_56.symm.trans h)
  exact ⟨tbX2_codeAt, pT_56, rtX2_codeAt⟩
theorem uD_56 : pD 56 = (1, 21) := rfl
theorem uT_57 : pT2 57 = some (1, false, ubX2_isEdge) := rfl
theorem rj_57 : xRT 57 := fun M h => by
  cases (uT_57.symm.trans h)
  exact ⟨tbX2_isEdge, pT_57, rtX2_isEdge⟩
theorem uD_57 : pD 57 = (1, 22) := rfl
theorem uT_58 : pT2 58 = some (1, false, ubX2_digitOf) := rfl
theorem rj_58 : xRT 58 := fun M h => by
  cases (uT_58.symm.trans h)
  exact ⟨tbX2_digitOf, pT_58, rtX2_digitOf⟩
theorem uD_58 : pD 58 = (1, 22) := rfl
theorem uT_59 : pT2 59 = some (1, false, ubX2_kindOf) := rfl
theorem rj_59 : xRT 59 := fun M h => by
  cases (uT_59.symm.trans h)
  exact ⟨tbX2_kindOf, pT_59, rtX2_kindOf⟩
theorem uD_59 : pD 59 = (0, 0) := rfl
theorem rj_60 : xRT 60 := fun M h => by cases h
theorem uD_60 : pD 60 = (1, 21) := rfl
theorem uT_61 : pT2 61 = some (1, false, ubX3_hasNothing) := rfl
theorem rj_61 : xRT 61 := fun M h => by
  cases (uT_61.symm.trans h)
  exact ⟨tbX3_hasNothing, pT_61, rtX3_hasNothing⟩
theorem uD_61 : pD 61 = (0, 0) := rfl
theorem uT_62 : pT2 62 = some (1, false, ubX3_lane) := rfl
theorem rj_62 : xRT 62 := fun M h => by
  cases (uT_62.symm.trans h)
  exact ⟨tbX3_lane, pT_62, rtX3_lane⟩
theorem uD_62 : pD 62 = (0, 0) := rfl
theorem uT_63 : pT2 63 = some (3, false, ubX3_hasCells) := rfl
theorem rj_63 : xRT 63 := fun M h => by
  cases (uT_63.symm.trans h)
  exact ⟨tbX3_hasCells, pT_63, rtX3_hasCells⟩
theorem uD_63 : pD 63 = (0, 0) := rfl
theorem uT_64 : pT2 64 = some (4, false, ubX3_faultInTaking) := rfl
theorem rj_64 : xRT 64 := fun M h => by
  cases (uT_64.symm.trans h)
  exact ⟨tbX3_faultInTaking, pT_64, rtX3_faultInTaking⟩
theorem uD_64 : pD 64 = (1, 22) := rfl
theorem uT_65 : pT2 65 = some (3, false, ubX3_renew) := rfl
theorem rj_65 : xRT 65 := fun M h => by
  cases (uT_65.symm.trans h)
  exact ⟨tbX3_renew, pT_65, rtX3_renew⟩
theorem uD_65 : pD 65 = (1, 23) := rfl
theorem uT_66 : pT2 66 = some (1, false, ubX3_clear) := rfl
theorem rj_66 : xRT 66 := fun M h => by
  cases (uT_66.symm.trans h)
  exact ⟨tbX3_clear, pT_66, rtX3_clear⟩
theorem uD_66 : pD 66 = (0, 0) := rfl
theorem uT_67 : pT2 67 = some (2, false, ubX3_read) := rfl
theorem rj_67 : xRT 67 := fun M h => by
  cases (uT_67.symm.trans h)
  exact ⟨tbX3_read, pT_67, rtX3_read⟩
theorem uD_67 : pD 67 = (1, 21) := rfl
theorem uT_68 : pT2 68 = some (3, false, ubX3_write) := rfl
theorem rj_68 : xRT 68 := fun M h => by
  cases (uT_68.symm.trans h)
  exact ⟨tbX3_write, pT_68, rtX3_write⟩
theorem uD_68 : pD 68 = (1, 22) := rfl
theorem uT_69 : pT2 69 = some (2, false, ubX3_cutToLane) := rfl
theorem rj_69 : xRT 69 := fun M h => by
  cases (uT_69.symm.trans h)
  exact ⟨tbX3_cutToLane, pT_69, rtX3_cutToLane⟩
theorem uD_69 : pD 69 = (0, 0) := rfl
theorem rj_70 : xRT 70 := fun M h => by cases h
theorem uD_70 : pD 70 = (2, 41) := rfl
theorem uT_71 : pT2 71 = some (8, false, ubX4_sea) := rfl
theorem rj_71 : xRT 71 := fun M h => by
  cases (uT_71.symm.trans h)
  exact ⟨tbX4_sea, pT_71, rtX4_sea⟩
theorem uD_71 : pD 71 = (5, 119) := rfl
theorem uT_72 : pT2 72 = some (3, false, ubX4_ofLooker) := rfl
theorem rj_72 : xRT 72 := fun M h => by
  cases (uT_72.symm.trans h)
  exact ⟨tbX4_ofLooker, pT_72, rtX4_ofLooker⟩
theorem uD_72 : pD 72 = (3, 66) := rfl
theorem uT_73 : pT2 73 = some (2, false, ubX4_height) := rfl
theorem rj_73 : xRT 73 := fun M h => by
  cases (uT_73.symm.trans h)
  exact ⟨tbX4_height, pT_73, rtX4_height⟩
theorem uD_73 : pD 73 = (2, 42) := rfl
theorem uT_74 : pT2 74 = some (4, false, ubX4_heap) := rfl
theorem rj_74 : xRT 74 := fun M h => by
  cases (uT_74.symm.trans h)
  exact ⟨tbX4_heap, pT_74, rtX4_heap⟩
theorem uD_74 : pD 74 = (2, 44) := rfl
theorem uT_75 : pT2 75 = some (4, false, ubX4_dim) := rfl
theorem rj_75 : xRT 75 := fun M h => by
  cases (uT_75.symm.trans h)
  exact ⟨tbX4_dim, pT_75, rtX4_dim⟩
theorem uD_75 : pD 75 = (2, 44) := rfl
theorem uT_76 : pT2 76 = some (2, false, ubX4_scrape) := rfl
theorem rj_76 : xRT 76 := fun M h => by
  cases (uT_76.symm.trans h)
  exact ⟨tbX4_scrape, pT_76, rtX4_scrape⟩
theorem uD_76 : pD 76 = (2, 40) := rfl
theorem uT_77 : pT2 77 = some (2, false, ubX4_grow) := rfl
theorem rj_77 : xRT 77 := fun M h => by
  cases (uT_77.symm.trans h)
  exact ⟨tbX4_grow, pT_77, rtX4_grow⟩
theorem uD_77 : pD 77 = (2, 42) := rfl
theorem uT_78 : pT2 78 = some (1, false, ubX4_seen) := rfl
theorem rj_78 : xRT 78 := fun M h => by
  cases (uT_78.symm.trans h)
  exact ⟨tbX4_seen, pT_78, rtX4_seen⟩
theorem uD_78 : pD 78 = (1, 20) := rfl
theorem uT_79 : pT2 79 = some (4, false, ubX4_step) := rfl
theorem rj_79 : xRT 79 := fun M h => by
  cases (uT_79.symm.trans h)
  exact ⟨tbX4_step, pT_79, rtX4_step⟩
theorem uD_79 : pD 79 = (2, 43) := rfl
theorem uT_80 : pT2 80 = some (9, false, ubX4_voyage) := rfl
theorem rj_80 : xRT 80 := fun M h => by
  cases (uT_80.symm.trans h)
  exact ⟨tbX4_voyage, pT_80, rtX4_voyage⟩
theorem uD_80 : pD 80 = (5, 118) := rfl
theorem uT_81 : pT2 81 = some (3, false, ubX4_way) := rfl
theorem rj_81 : xRT 81 := fun M h => by
  cases (uT_81.symm.trans h)
  exact ⟨tbX4_way, pT_81, rtX4_way⟩
theorem uD_81 : pD 81 = (3, 74) := rfl
theorem uT_82 : pT2 82 = some (3, false, ubX4_most) := rfl
theorem rj_82 : xRT 82 := fun M h => by
  cases (uT_82.symm.trans h)
  exact ⟨tbX4_most, pT_82, rtX4_most⟩
theorem uD_82 : pD 82 = (5, 117) := rfl
theorem uT_83 : pT2 83 = some (2, false, ubX4_flat) := rfl
theorem rj_83 : xRT 83 := fun M h => by
  cases (uT_83.symm.trans h)
  exact ⟨tbX4_flat, pT_83, rtX4_flat⟩
theorem uD_83 : pD 83 = (4, 92) := rfl
theorem uT_84 : pT2 84 = some (9, false, ubX4_begun) := rfl
theorem rj_84 : xRT 84 := fun M h => by
  cases (uT_84.symm.trans h)
  exact ⟨tbX4_begun, pT_84, rtX4_begun⟩
theorem uD_84 : pD 84 = (6, 144) := rfl
theorem uT_85 : pT2 85 = some (9, false, ubX4_run) := rfl
theorem rj_85 : xRT 85 := fun M h => by
  cases (uT_85.symm.trans h)
  exact ⟨tbX4_run, pT_85, rtX4_run⟩
theorem uD_85 : pD 85 = (4, 91) := rfl
theorem uT_86 : pT2 86 = some (4, false, ubX4_reading) := rfl
theorem rj_86 : xRT 86 := fun M h => by
  cases (uT_86.symm.trans h)
  exact ⟨tbX4_reading, pT_86, rtX4_reading⟩
theorem uD_86 : pD 86 = (2, 45) := rfl
theorem uT_87 : pT2 87 = some (2, false, ubX4_back) := rfl
theorem rj_87 : xRT 87 := fun M h => by
  cases (uT_87.symm.trans h)
  exact ⟨tbX4_back, pT_87, rtX4_back⟩
theorem uD_87 : pD 87 = (1, 22) := rfl
theorem uT_88 : pT2 88 = some (4, false, ubX4_shorts) := rfl
theorem rj_88 : xRT 88 := fun M h => by
  cases (uT_88.symm.trans h)
  exact ⟨tbX4_shorts, pT_88, rtX4_shorts⟩
theorem uD_88 : pD 88 = (3, 72) := rfl
theorem uT_89 : pT2 89 = some (4, false, ubX4_kinds) := rfl
theorem rj_89 : xRT 89 := fun M h => by
  cases (uT_89.symm.trans h)
  exact ⟨tbX4_kinds, pT_89, rtX4_kinds⟩
theorem uD_89 : pD 89 = (3, 72) := rfl
theorem uT_90 : pT2 90 = some (7, false, ubX4_odds) := rfl
theorem rj_90 : xRT 90 := fun M h => by
  cases (uT_90.symm.trans h)
  exact ⟨tbX4_odds, pT_90, rtX4_odds⟩
theorem uD_90 : pD 90 = (4, 90) := rfl
theorem uT_91 : pT2 91 = some (5, false, ubX4_sheet) := rfl
theorem rj_91 : xRT 91 := fun M h => by
  cases (uT_91.symm.trans h)
  exact ⟨tbX4_sheet, pT_91, rtX4_sheet⟩
theorem uD_91 : pD 91 = (2, 45) := rfl
theorem uT_92 : pT2 92 = some (3, false, ubX4_lose) := rfl
theorem rj_92 : xRT 92 := fun M h => by
  cases (uT_92.symm.trans h)
  exact ⟨tbX4_lose, pT_92, rtX4_lose⟩
theorem uD_92 : pD 92 = (1, 21) := rfl
theorem uT_93 : pT2 93 = some (5, false, ubX4_put) := rfl
theorem rj_93 : xRT 93 := fun M h => by
  cases (uT_93.symm.trans h)
  exact ⟨tbX4_put, pT_93, rtX4_put⟩
theorem uD_93 : pD 93 = (2, 44) := rfl
theorem uT_94 : pT2 94 = some (5, false, ubX4_cell) := rfl
theorem rj_94 : xRT 94 := fun M h => by
  cases (uT_94.symm.trans h)
  exact ⟨tbX4_cell, pT_94, rtX4_cell⟩
theorem uD_94 : pD 94 = (2, 45) := rfl
theorem uT_95 : pT2 95 = some (9, false, ubX4_copy) := rfl
theorem rj_95 : xRT 95 := fun M h => by
  cases (uT_95.symm.trans h)
  exact ⟨tbX4_copy, pT_95, rtX4_copy⟩
theorem uD_95 : pD 95 = (3, 66) := rfl
theorem uT_96 : pT2 96 = some (2, false, ubX4_tell) := rfl
theorem rj_96 : xRT 96 := fun M h => by
  cases (uT_96.symm.trans h)
  exact ⟨tbX4_tell, pT_96, rtX4_tell⟩
theorem uD_96 : pD 96 = (5, 106) := rfl
theorem uT_97 : pT2 97 = some (2, false, ubX4_greet) := rfl
theorem rj_97 : xRT 97 := fun M h => by
  cases (uT_97.symm.trans h)
  exact ⟨tbX4_greet, pT_97, rtX4_greet⟩
theorem uD_97 : pD 97 = (2, 42) := rfl
theorem uT_98 : pT2 98 = some (3, false, ubX4_as) := rfl
theorem rj_98 : xRT 98 := fun M h => by
  cases (uT_98.symm.trans h)
  exact ⟨tbX4_as, pT_98, rtX4_as⟩
theorem uD_98 : pD 98 = (2, 42) := rfl
theorem uT_99 : pT2 99 = some (1, false, ubX4_trace) := rfl
theorem rj_99 : xRT 99 := fun M h => by
  cases (uT_99.symm.trans h)
  exact ⟨tbX4_trace, pT_99, rtX4_trace⟩
theorem uD_99 : pD 99 = (0, 0) := rfl
theorem uT_100 : pT2 100 = some (1, false, ubX4_fault) := rfl
theorem rj_100 : xRT 100 := fun M h => by
  cases (uT_100.symm.trans h)
  exact ⟨tbX4_fault, pT_100, rtX4_fault⟩
theorem uD_100 : pD 100 = (0, 0) := rfl
theorem uT_101 : pT2 101 = some (2, false, ubX4_many) := rfl
theorem rj_101 : xRT 101 := fun M h => by
  cases (uT_101.symm.trans h)
  exact ⟨tbX4_many, pT_101, rtX4_many⟩
theorem uD_101 : pD 101 = (1, 21) := rfl
theorem uT_102 : pT2 102 = some (2, false, ubX4_sheetOf) := rfl
theorem rj_102 : xRT 102 := fun M h => by
  cases (uT_102.symm.trans h)
  exact ⟨tbX4_sheetOf, pT_102, rtX4_sheetOf⟩
theorem uD_102 : pD 102 = (0, 0) := rfl
theorem uT_103 : pT2 103 = some (2, false, ubX4_faulted) := rfl
theorem rj_103 : xRT 103 := fun M h => by
  cases (uT_103.symm.trans h)
  exact ⟨tbX4_faulted, pT_103, rtX4_faulted⟩
theorem uD_103 : pD 103 = (0, 0) := rfl
theorem uT_104 : pT2 104 = some (6, false, ubX4_take) := rfl
theorem rj_104 : xRT 104 := fun M h => by
  cases (uT_104.symm.trans h)
  exact ⟨tbX4_take, pT_104, rtX4_take⟩
theorem uD_104 : pD 104 = (3, 66) := rfl
theorem uT_105 : pT2 105 = some (5, false, ubX4_readInto) := rfl
theorem rj_105 : xRT 105 := fun M h => by
  cases (uT_105.symm.trans h)
  exact ⟨tbX4_readInto, pT_105, rtX4_readInto⟩
theorem uD_105 : pD 105 = (2, 42) := rfl
theorem uT_106 : pT2 106 = some (3, false, ubX4_leastLengthToldAgain) := rfl
theorem rj_106 : xRT 106 := fun M h => by
  cases (uT_106.symm.trans h)
  exact ⟨tbX4_leastLengthToldAgain, pT_106, rtX4_leastLengthToldAgain⟩
theorem uD_106 : pD 106 = (2, 44) := rfl
theorem uT_107 : pT2 107 = some (4, false, ubX4_isToldAgain) := rfl
theorem rj_107 : xRT 107 := fun M h => by
  cases (uT_107.symm.trans h)
  exact ⟨tbX4_isToldAgain, pT_107, rtX4_isToldAgain⟩
theorem uD_107 : pD 107 = (1, 21) := rfl
theorem uT_108 : pT2 108 = some (2, false, ubX4_leaveInTrace) := rfl
theorem rj_108 : xRT 108 := fun M h => by
  cases (uT_108.symm.trans h)
  exact ⟨tbX4_leaveInTrace, pT_108, rtX4_leaveInTrace⟩
theorem uD_108 : pD 108 = (0, 0) := rfl
theorem uT_109 : pT2 109 = some (2, false, ubX4_plainBody) := rfl
theorem rj_109 : xRT 109 := fun M h => by
  cases (uT_109.symm.trans h)
  exact ⟨tbX4_plainBody, pT_109, rtX4_plainBody⟩
theorem uD_109 : pD 109 = (2, 42) := rfl
theorem uT_110 : pT2 110 = some (2, false, ubX4_deepBody) := rfl
theorem rj_110 : xRT 110 := fun M h => by
  cases (uT_110.symm.trans h)
  exact ⟨tbX4_deepBody, pT_110, rtX4_deepBody⟩
theorem uD_110 : pD 110 = (3, 63) := rfl
theorem uT_111 : pT2 111 = some (3, false, ubX4_grandBody) := rfl
theorem rj_111 : xRT 111 := fun M h => by
  cases (uT_111.symm.trans h)
  exact ⟨tbX4_grandBody, pT_111, rtX4_grandBody⟩
theorem uD_111 : pD 111 = (4, 84) := rfl
theorem uT_112 : pT2 112 = some (2, false, ubX4_lentGreetingBody) := rfl
theorem rj_112 : xRT 112 := fun M h => by
  cases (uT_112.symm.trans h)
  exact ⟨tbX4_lentGreetingBody, pT_112, rtX4_lentGreetingBody⟩
theorem uD_112 : pD 112 = (1, 21) := rfl
theorem uT_113 : pT2 113 = some (1, false, ubX4_ownGreetingBody) := rfl
theorem rj_113 : xRT 113 := fun M h => by
  cases (uT_113.symm.trans h)
  exact ⟨tbX4_ownGreetingBody, pT_113, rtX4_ownGreetingBody⟩
theorem uD_113 : pD 113 = (1, 21) := rfl
theorem uT_114 : pT2 114 = some (3, false, ubX4_within) := rfl
theorem rj_114 : xRT 114 := fun M h => by
  cases (uT_114.symm.trans h)
  exact ⟨tbX4_within, pT_114, rtX4_within⟩
theorem uD_114 : pD 114 = (0, 0) := rfl
theorem uT_115 : pT2 115 = some (1, false, ubX4_isLane) := rfl
theorem rj_115 : xRT 115 := fun M h => by
  cases (uT_115.symm.trans h)
  exact ⟨tbX4_isLane, pT_115, rtX4_isLane⟩
theorem uD_115 : pD 115 = (1, 22) := rfl
theorem uT_116 : pT2 116 = some (1, false, ubX4_isStep) := rfl
theorem rj_116 : xRT 116 := fun M h => by
  cases (uT_116.symm.trans h)
  exact ⟨tbX4_isStep, pT_116, rtX4_isStep⟩
theorem uD_116 : pD 116 = (1, 22) := rfl
theorem uT_117 : pT2 117 = some (1, false, ubX4_isDigit) := rfl
theorem rj_117 : xRT 117 := fun M h => by
  cases (uT_117.symm.trans h)
  exact ⟨tbX4_isDigit, pT_117, rtX4_isDigit⟩
theorem uD_117 : pD 117 = (1, 22) := rfl
theorem uT_118 : pT2 118 = some (3, false, ubX4_greatestDivisor) := rfl
theorem rj_118 : xRT 118 := fun M h => by
  cases (uT_118.symm.trans h)
  exact ⟨tbX4_greatestDivisor, pT_118, rtX4_greatestDivisor⟩
theorem uD_118 : pD 118 = (0, 0) := rfl
theorem uT_119 : pT2 119 = some (2, false, ubX4_numberAt) := rfl
theorem rj_119 : xRT 119 := fun M h => by
  cases (uT_119.symm.trans h)
  exact ⟨tbX4_numberAt, pT_119, rtX4_numberAt⟩
theorem uD_119 : pD 119 = (0, 0) := rfl
theorem uT_120 : pT2 120 = some (3, false, ubX4_setNumber) := rfl
theorem rj_120 : xRT 120 := fun M h => by
  cases (uT_120.symm.trans h)
  exact ⟨tbX4_setNumber, pT_120, rtX4_setNumber⟩
theorem uD_120 : pD 120 = (0, 0) := rfl
theorem rj_121 : xRT 121 := fun M h => by cases h
theorem uD_121 : pD 121 = (1, 21) := rfl
theorem uT_122 : pT2 122 = some (6, false, ubX5_in) := rfl
theorem rj_122 : xRT 122 := fun M h => by
  cases (uT_122.symm.trans h)
  exact ⟨tbX5_in, pT_122, rtX5_in⟩
theorem uD_122 : pD 122 = (0, 0) := rfl
theorem uT_123 : pT2 123 = some (0, false, ubX5_lost) := rfl
theorem rj_123 : xRT 123 := fun M h => by
  cases (uT_123.symm.trans h)
  exact ⟨tbX5_lost, pT_123, rtX5_lost⟩
theorem uD_123 : pD 123 = (0, 0) := rfl
theorem uT_124 : pT2 124 = some (2, false, ubX5_isIn) := rfl
theorem rj_124 : xRT 124 := fun M h => by
  cases (uT_124.symm.trans h)
  exact ⟨tbX5_isIn, pT_124, rtX5_isIn⟩
theorem uD_124 : pD 124 = (0, 0) := rfl
theorem uT_125 : pT2 125 = some (5, false, ubX5_bits) := rfl
theorem rj_125 : xRT 125 := fun M h => by
  cases (uT_125.symm.trans h)
  exact ⟨tbX5_bits, pT_125, rtX5_bits⟩
theorem uD_125 : pD 125 = (0, 0) := rfl
theorem uT_126 : pT2 126 = some (11, false, ubX5_share) := rfl
theorem rj_126 : xRT 126 := fun M h => by
  cases (uT_126.symm.trans h)
  exact ⟨tbX5_share, pT_126, rtX5_share⟩
theorem uD_126 : pD 126 = (0, 0) := rfl
theorem uT_127 : pT2 127 = some (2, false, ubX5_refused) := rfl
theorem rj_127 : xRT 127 := fun M h => by
  cases (uT_127.symm.trans h)
  exact ⟨tbX5_refused, pT_127, rtX5_refused⟩
theorem uD_127 : pD 127 = (0, 0) := rfl
theorem uT_128 : pT2 128 = some (2, false, ubX5_failed) := rfl
theorem rj_128 : xRT 128 := fun M h => by
  cases (uT_128.symm.trans h)
  exact ⟨tbX5_failed, pT_128, rtX5_failed⟩
theorem uD_128 : pD 128 = (0, 0) := rfl
theorem uT_129 : pT2 129 = some (2, false, ubX5_failedLong) := rfl
theorem rj_129 : xRT 129 := fun M h => by
  cases (uT_129.symm.trans h)
  exact ⟨tbX5_failedLong, pT_129, rtX5_failedLong⟩
theorem uD_129 : pD 129 = (1, 19) := rfl
theorem uT_130 : pT2 130 = some (2, false, ubX5_noLooker) := rfl
theorem rj_130 : xRT 130 := fun M h => by
  cases (uT_130.symm.trans h)
  exact ⟨tbX5_noLooker, pT_130, rtX5_noLooker⟩
theorem uD_130 : pD 130 = (1, 25) := rfl
theorem uT_131 : pT2 131 = some (2, false, ubX5_noPlace) := rfl
theorem rj_131 : xRT 131 := fun M h => by
  cases (uT_131.symm.trans h)
  exact ⟨tbX5_noPlace, pT_131, rtX5_noPlace⟩
theorem uD_131 : pD 131 = (1, 25) := rfl
theorem uT_132 : pT2 132 = some (3, false, ubX5_codeAt) := rfl
theorem rj_132 : xRT 132 := fun M h => by
  cases (uT_132.symm.trans h)
  exact ⟨tbX5_codeAt, pT_132, rtX5_codeAt⟩
theorem uD_132 : pD 132 = (0, 0) := rfl
theorem uT_133 : pT2 133 = some (8, false, ubX5_figure) := rfl
theorem rj_133 : xRT 133 := fun M h => by
  cases (uT_133.symm.trans h)
  exact ⟨tbX5_figure, pT_133, rtX5_figure⟩
theorem uD_133 : pD 133 = (1, 25) := rfl
theorem uT_134 : pT2 134 = some (5, false, ubX5_readsFloor) := rfl
theorem rj_134 : xRT 134 := fun M h => by
  cases (uT_134.symm.trans h)
  exact ⟨tbX5_readsFloor, pT_134, rtX5_readsFloor⟩
theorem uD_134 : pD 134 = (2, 52) := rfl
theorem uT_135 : pT2 135 = some (4, false, ubX5_readsLooker) := rfl
theorem rj_135 : xRT 135 := fun M h => by
  cases (uT_135.symm.trans h)
  exact ⟨tbX5_readsLooker, pT_135, rtX5_readsLooker⟩
theorem uD_135 : pD 135 = (2, 52) := rfl
theorem uT_136 : pT2 136 = some (4, false, ubX5_readsSea) := rfl
theorem rj_136 : xRT 136 := fun M h => by
  cases (uT_136.symm.trans h)
  exact ⟨tbX5_readsSea, pT_136, rtX5_readsSea⟩
theorem uD_136 : pD 136 = (3, 76) := rfl
theorem uT_137 : pT2 137 = some (6, false, ubX5_cellsBarred) := rfl
theorem rj_137 : xRT 137 := fun M h => by
  cases (uT_137.symm.trans h)
  exact ⟨tbX5_cellsBarred, pT_137, rtX5_cellsBarred⟩
theorem uD_137 : pD 137 = (1, 23) := rfl
theorem uT_138 : pT2 138 = some (7, false, ubX5_sea) := rfl
theorem rj_138 : xRT 138 := fun M h => by
  cases (uT_138.symm.trans h)
  exact ⟨tbX5_sea, pT_138, rtX5_sea⟩
theorem uD_138 : pD 138 = (4, 99) := rfl
theorem uT_139 : pT2 139 = some (2, false, ubX5_placeOf) := rfl
theorem rj_139 : xRT 139 := fun M h => by
  cases (uT_139.symm.trans h)
  exact ⟨tbX5_placeOf, pT_139, rtX5_placeOf⟩
theorem uD_139 : pD 139 = (0, 0) := rfl
theorem uT_140 : pT2 140 = some (4, false, ubX5_tells) := rfl
theorem rj_140 : xRT 140 := fun M h => by
  cases (uT_140.symm.trans h)
  exact ⟨tbX5_tells, pT_140, rtX5_tells⟩
theorem uD_140 : pD 140 = (0, 0) := rfl
theorem uT_141 : pT2 141 = some (4, false, ubX5_over) := rfl
theorem rj_141 : xRT 141 := fun M h => by
  cases (uT_141.symm.trans h)
  exact ⟨tbX5_over, pT_141, rtX5_over⟩
theorem uD_141 : pD 141 = (1, 21) := rfl
theorem uT_142 : pT2 142 = some (3, false, ubX5_ofLooker) := rfl
theorem rj_142 : xRT 142 := fun M h => by
  cases (uT_142.symm.trans h)
  exact ⟨tbX5_ofLooker, pT_142, rtX5_ofLooker⟩
theorem uD_142 : pD 142 = (2, 46) := rfl
theorem uT_143 : pT2 143 = some (2, false, ubX5_height) := rfl
theorem rj_143 : xRT 143 := fun M h => by
  cases (uT_143.symm.trans h)
  exact ⟨tbX5_height, pT_143, rtX5_height⟩
theorem uD_143 : pD 143 = (2, 46) := rfl
theorem uT_144 : pT2 144 = some (4, false, ubX5_heap) := rfl
theorem rj_144 : xRT 144 := fun M h => by
  cases (uT_144.symm.trans h)
  exact ⟨tbX5_heap, pT_144, rtX5_heap⟩
theorem uD_144 : pD 144 = (2, 46) := rfl
theorem uT_145 : pT2 145 = some (4, false, ubX5_dim) := rfl
theorem rj_145 : xRT 145 := fun M h => by
  cases (uT_145.symm.trans h)
  exact ⟨tbX5_dim, pT_145, rtX5_dim⟩
theorem uD_145 : pD 145 = (2, 46) := rfl
theorem uT_146 : pT2 146 = some (2, false, ubX5_scrape) := rfl
theorem rj_146 : xRT 146 := fun M h => by
  cases (uT_146.symm.trans h)
  exact ⟨tbX5_scrape, pT_146, rtX5_scrape⟩
theorem uD_146 : pD 146 = (2, 46) := rfl
theorem uT_147 : pT2 147 = some (2, false, ubX5_grow) := rfl
theorem rj_147 : xRT 147 := fun M h => by
  cases (uT_147.symm.trans h)
  exact ⟨tbX5_grow, pT_147, rtX5_grow⟩
theorem uD_147 : pD 147 = (2, 46) := rfl
theorem uT_148 : pT2 148 = some (1, false, ubX5_seen) := rfl
theorem rj_148 : xRT 148 := fun M h => by
  cases (uT_148.symm.trans h)
  exact ⟨tbX5_seen, pT_148, rtX5_seen⟩
theorem uD_148 : pD 148 = (1, 19) := rfl
theorem uT_149 : pT2 149 = some (3, false, ubX5_isPlace) := rfl
theorem rj_149 : xRT 149 := fun M h => by
  cases (uT_149.symm.trans h)
  exact ⟨tbX5_isPlace, pT_149, rtX5_isPlace⟩
theorem uD_149 : pD 149 = (1, 25) := rfl
theorem uT_150 : pT2 150 = some (1, false, ubX5_columnBy) := rfl
theorem rj_150 : xRT 150 := fun M h => by
  cases (uT_150.symm.trans h)
  exact ⟨tbX5_columnBy, pT_150, rtX5_columnBy⟩
theorem uD_150 : pD 150 = (0, 0) := rfl
theorem uT_151 : pT2 151 = some (1, false, ubX5_rowBy) := rfl
theorem rj_151 : xRT 151 := fun M h => by
  cases (uT_151.symm.trans h)
  exact ⟨tbX5_rowBy, pT_151, rtX5_rowBy⟩
theorem uD_151 : pD 151 = (0, 0) := rfl
theorem uT_152 : pT2 152 = some (4, false, ubX5_steps) := rfl
theorem rj_152 : xRT 152 := fun M h => by
  cases (uT_152.symm.trans h)
  exact ⟨tbX5_steps, pT_152, rtX5_steps⟩
theorem uD_152 : pD 152 = (2, 47) := rfl
theorem uT_153 : pT2 153 = some (3, false, ubX5_step) := rfl
theorem rj_153 : xRT 153 := fun M h => by
  cases (uT_153.symm.trans h)
  exact ⟨tbX5_step, pT_153, rtX5_step⟩
theorem uD_153 : pD 153 = (3, 70) := rfl
theorem uT_154 : pT2 154 = some (1, false, ubX5_keepAll) := rfl
theorem rj_154 : xRT 154 := fun M h => by
  cases (uT_154.symm.trans h)
  exact ⟨tbX5_keepAll, pT_154, rtX5_keepAll⟩
theorem uD_154 : pD 154 = (0, 0) := rfl
theorem uT_155 : pT2 155 = some (1, false, ubX5_bringBack) := rfl
theorem rj_155 : xRT 155 := fun M h => by
  cases (uT_155.symm.trans h)
  exact ⟨tbX5_bringBack, pT_155, rtX5_bringBack⟩
theorem uD_155 : pD 155 = (0, 0) := rfl
theorem uT_156 : pT2 156 = some (10, false, ubX5_voyageBy) := rfl
theorem rj_156 : xRT 156 := fun M h => by
  cases (uT_156.symm.trans h)
  exact ⟨tbX5_voyageBy, pT_156, rtX5_voyageBy⟩
theorem uD_156 : pD 156 = (3, 70) := rfl
theorem uT_157 : pT2 157 = some (8, false, ubX5_voyage) := rfl
theorem rj_157 : xRT 157 := fun M h => by
  cases (uT_157.symm.trans h)
  exact ⟨tbX5_voyage, pT_157, rtX5_voyage⟩
theorem uD_157 : pD 157 = (4, 99) := rfl
theorem uT_158 : pT2 158 = some (6, false, ubX5_isOver) := rfl
theorem rj_158 : xRT 158 := fun M h => by
  cases (uT_158.symm.trans h)
  exact ⟨tbX5_isOver, pT_158, rtX5_isOver⟩
theorem uD_158 : pD 158 = (1, 21) := rfl
theorem uT_159 : pT2 159 = some (3, false, ubX5_farAt) := rfl
theorem rj_159 : xRT 159 := fun M h => by
  cases (uT_159.symm.trans h)
  exact ⟨tbX5_farAt, pT_159, rtX5_farAt⟩
theorem uD_159 : pD 159 = (2, 47) := rfl
theorem uT_160 : pT2 160 = some (6, false, ubX5_isBeside) := rfl
theorem rj_160 : xRT 160 := fun M h => by
  cases (uT_160.symm.trans h)
  exact ⟨tbX5_isBeside, pT_160, rtX5_isBeside⟩
theorem uD_160 : pD 160 = (3, 69) := rfl
theorem uT_161 : pT2 161 = some (6, false, ubX5_measures) := rfl
theorem rj_161 : xRT 161 := fun M h => by
  cases (uT_161.symm.trans h)
  exact ⟨tbX5_measures, pT_161, rtX5_measures⟩
theorem uD_161 : pD 161 = (4, 94) := rfl
theorem uT_162 : pT2 162 = some (8, false, ubX5_wayStep) := rfl
theorem rj_162 : xRT 162 := fun M h => by
  cases (uT_162.symm.trans h)
  exact ⟨tbX5_wayStep, pT_162, rtX5_wayStep⟩
theorem uD_162 : pD 162 = (3, 69) := rfl
theorem uT_163 : pT2 163 = some (4, false, ubX5_way) := rfl
theorem rj_163 : xRT 163 := fun M h => by
  cases (uT_163.symm.trans h)
  exact ⟨tbX5_way, pT_163, rtX5_way⟩
theorem uD_163 : pD 163 = (5, 119) := rfl
theorem uT_164 : pT2 164 = some (5, false, ubX5_seenBy) := rfl
theorem rj_164 : xRT 164 := fun M h => by
  cases (uT_164.symm.trans h)
  exact ⟨tbX5_seenBy, pT_164, rtX5_seenBy⟩
theorem uD_164 : pD 164 = (3, 70) := rfl
theorem uT_165 : pT2 165 = some (7, false, ubX5_most) := rfl
theorem rj_165 : xRT 165 := fun M h => by
  cases (uT_165.symm.trans h)
  exact ⟨tbX5_most, pT_165, rtX5_most⟩
theorem uD_165 : pD 165 = (4, 94) := rfl
theorem uT_166 : pT2 166 = some (5, false, ubX5_areBeside) := rfl
theorem rj_166 : xRT 166 := fun M h => by
  cases (uT_166.symm.trans h)
  exact ⟨tbX5_areBeside, pT_166, rtX5_areBeside⟩
theorem uD_166 : pD 166 = (0, 0) := rfl
theorem uT_167 : pT2 167 = some (8, false, ubX5_flat) := rfl
theorem rj_167 : xRT 167 := fun M h => by
  cases (uT_167.symm.trans h)
  exact ⟨tbX5_flat, pT_167, rtX5_flat⟩
theorem uD_167 : pD 167 = (2, 46) := rfl
theorem uT_168 : pT2 168 = some (11, false, ubX5_begins) := rfl
theorem rj_168 : xRT 168 := fun M h => by
  cases (uT_168.symm.trans h)
  exact ⟨tbX5_begins, pT_168, rtX5_begins⟩
theorem uD_168 : pD 168 = (2, 47) := rfl
theorem uT_169 : pT2 169 = some (10, false, ubX5_begunBy) := rfl
theorem rj_169 : xRT 169 := fun M h => by
  cases (uT_169.symm.trans h)
  exact ⟨tbX5_begunBy, pT_169, rtX5_begunBy⟩
theorem uD_169 : pD 169 = (3, 77) := rfl
theorem uT_170 : pT2 170 = some (8, false, ubX5_begun) := rfl
theorem rj_170 : xRT 170 := fun M h => by
  cases (uT_170.symm.trans h)
  exact ⟨tbX5_begun, pT_170, rtX5_begun⟩
theorem uD_170 : pD 170 = (4, 106) := rfl
theorem uT_171 : pT2 171 = some (6, false, ubX5_goesOn) := rfl
theorem rj_171 : xRT 171 := fun M h => by
  cases (uT_171.symm.trans h)
  exact ⟨tbX5_goesOn, pT_171, rtX5_goesOn⟩
theorem uD_171 : pD 171 = (0, 0) := rfl
theorem uT_172 : pT2 172 = some (8, false, ubX5_run) := rfl
theorem rj_172 : xRT 172 := fun M h => by
  cases (uT_172.symm.trans h)
  exact ⟨tbX5_run, pT_172, rtX5_run⟩
theorem uD_172 : pD 172 = (2, 48) := rfl
theorem uT_173 : pT2 173 = some (4, false, ubX5_reading) := rfl
theorem rj_173 : xRT 173 := fun M h => by
  cases (uT_173.symm.trans h)
  exact ⟨tbX5_reading, pT_173, rtX5_reading⟩
theorem uD_173 : pD 173 = (2, 46) := rfl
theorem uT_174 : pT2 174 = some (2, false, ubX5_back) := rfl
theorem rj_174 : xRT 174 := fun M h => by
  cases (uT_174.symm.trans h)
  exact ⟨tbX5_back, pT_174, rtX5_back⟩
theorem uD_174 : pD 174 = (1, 25) := rfl
theorem uT_175 : pT2 175 = some (3, false, ubX5_areSo) := rfl
theorem rj_175 : xRT 175 := fun M h => by
  cases (uT_175.symm.trans h)
  exact ⟨tbX5_areSo, pT_175, rtX5_areSo⟩
theorem uD_175 : pD 175 = (1, 23) := rfl
theorem uT_176 : pT2 176 = some (5, false, ubX5_shorts) := rfl
theorem rj_176 : xRT 176 := fun M h => by
  cases (uT_176.symm.trans h)
  exact ⟨tbX5_shorts, pT_176, rtX5_shorts⟩
theorem uD_176 : pD 176 = (2, 46) := rfl
theorem uT_177 : pT2 177 = some (5, false, ubX5_kinds) := rfl
theorem rj_177 : xRT 177 := fun M h => by
  cases (uT_177.symm.trans h)
  exact ⟨tbX5_kinds, pT_177, rtX5_kinds⟩
theorem uD_177 : pD 177 = (2, 46) := rfl
theorem uT_178 : pT2 178 = some (8, false, ubX5_odds) := rfl
theorem rj_178 : xRT 178 := fun M h => by
  cases (uT_178.symm.trans h)
  exact ⟨tbX5_odds, pT_178, rtX5_odds⟩
theorem uD_178 : pD 178 = (2, 46) := rfl
theorem uT_179 : pT2 179 = some (1, false, ubX5_noSheet) := rfl
theorem rj_179 : xRT 179 := fun M h => by
  cases (uT_179.symm.trans h)
  exact ⟨tbX5_noSheet, pT_179, rtX5_noSheet⟩
theorem uD_179 : pD 179 = (1, 25) := rfl
theorem uT_180 : pT2 180 = some (5, false, ubX5_sheet) := rfl
theorem rj_180 : xRT 180 := fun M h => by
  cases (uT_180.symm.trans h)
  exact ⟨tbX5_sheet, pT_180, rtX5_sheet⟩
theorem uD_180 : pD 180 = (2, 45) := rfl
theorem uT_181 : pT2 181 = some (3, false, ubX5_lose) := rfl
theorem rj_181 : xRT 181 := fun M h => by
  cases (uT_181.symm.trans h)
  exact ⟨tbX5_lose, pT_181, rtX5_lose⟩
theorem uD_181 : pD 181 = (2, 45) := rfl
theorem uT_182 : pT2 182 = some (3, false, ubX5_noCell) := rfl
theorem rj_182 : xRT 182 := fun M h => by
  cases (uT_182.symm.trans h)
  exact ⟨tbX5_noCell, pT_182, rtX5_noCell⟩
theorem uD_182 : pD 182 = (1, 25) := rfl
theorem uT_183 : pT2 183 = some (4, false, ubX5_put) := rfl
theorem rj_183 : xRT 183 := fun M h => by
  cases (uT_183.symm.trans h)
  exact ⟨tbX5_put, pT_183, rtX5_put⟩
theorem uD_183 : pD 183 = (2, 47) := rfl
theorem uT_184 : pT2 184 = some (4, false, ubX5_cell) := rfl
theorem rj_184 : xRT 184 := fun M h => by
  cases (uT_184.symm.trans h)
  exact ⟨tbX5_cell, pT_184, rtX5_cell⟩
theorem uD_184 : pD 184 = (2, 47) := rfl
theorem uT_185 : pT2 185 = some (4, false, ubX5_isBeyond) := rfl
theorem rj_185 : xRT 185 := fun M h => by
  cases (uT_185.symm.trans h)
  exact ⟨tbX5_isBeyond, pT_185, rtX5_isBeyond⟩
theorem uD_185 : pD 185 = (0, 0) := rfl
theorem uT_186 : pT2 186 = some (7, false, ubX5_copy) := rfl
theorem rj_186 : xRT 186 := fun M h => by
  cases (uT_186.symm.trans h)
  exact ⟨tbX5_copy, pT_186, rtX5_copy⟩
theorem uD_186 : pD 186 = (2, 45) := rfl
theorem uT_187 : pT2 187 = some (2, false, ubX5_traced) := rfl
theorem rj_187 : xRT 187 := fun M h => by
  cases (uT_187.symm.trans h)
  exact ⟨tbX5_traced, pT_187, rtX5_traced⟩
theorem uD_187 : pD 187 = (0, 0) := rfl
theorem uT_188 : pT2 188 = some (4, false, ubX5_tell) := rfl
theorem rj_188 : xRT 188 := fun M h => by
  cases (uT_188.symm.trans h)
  exact ⟨tbX5_tell, pT_188, rtX5_tell⟩
theorem uD_188 : pD 188 = (2, 46) := rfl
theorem uT_189 : pT2 189 = some (2, false, ubX5_greet) := rfl
theorem rj_189 : xRT 189 := fun M h => by
  cases (uT_189.symm.trans h)
  exact ⟨tbX5_greet, pT_189, rtX5_greet⟩
theorem uD_189 : pD 189 = (2, 46) := rfl
theorem uT_190 : pT2 190 = some (3, false, ubX5_as) := rfl
theorem rj_190 : xRT 190 := fun M h => by
  cases (uT_190.symm.trans h)
  exact ⟨tbX5_as, pT_190, rtX5_as⟩
theorem uD_190 : pD 190 = (2, 46) := rfl
theorem uT_191 : pT2 191 = some (1, false, ubX5_trace) := rfl
theorem rj_191 : xRT 191 := fun M h => by
  cases (uT_191.symm.trans h)
  exact ⟨tbX5_trace, pT_191, rtX5_trace⟩
theorem uD_191 : pD 191 = (0, 0) := rfl
theorem uT_192 : pT2 192 = some (1, false, ubX5_fault) := rfl
theorem rj_192 : xRT 192 := fun M h => by
  cases (uT_192.symm.trans h)
  exact ⟨tbX5_fault, pT_192, rtX5_fault⟩
theorem uD_192 : pD 192 = (0, 0) := rfl
theorem uT_193 : pT2 193 = some (2, false, ubX5_many) := rfl
theorem rj_193 : xRT 193 := fun M h => by
  cases (uT_193.symm.trans h)
  exact ⟨tbX5_many, pT_193, rtX5_many⟩
theorem uD_193 : pD 193 = (1, 24) := rfl
theorem uT_194 : pT2 194 = some (1, false, ubJ6_bitCount_0f7a4) := rfl
theorem rj_194 : xRT 194 := fun M h => by
  cases (uT_194.symm.trans h)
  exact ⟨tbJ6_bitCount_0f7a4, pT_194, rtJ6_bitCount_0f7a4⟩
theorem uD_194 : pD 194 = (0, 0) := rfl
theorem uT_195 : pT2 195 = some (2, false, ubJ13_bitCount_95d88) := rfl
theorem rj_195 : xRT 195 := fun M h => by
  cases (uT_195.symm.trans h)
  exact ⟨tbJ13_bitCount_95d88, pT_195, rtJ13_bitCount_95d88⟩
theorem uD_195 : pD 195 = (0, 0) := rfl
theorem uT_196 : pT2 196 = some (4, false, ubJ7_fill_53178) := rfl
theorem rj_196 : xRT 196 := fun M h => by
  cases (uT_196.symm.trans h)
  exact ⟨tbJ7_fill_53178, pT_196, rtJ7_fill_53178⟩
theorem uD_196 : pD 196 = (0, 0) := rfl
theorem rjb_0 (j : Nat) (h1 : 0 ≤ j) (h2 : j < 20) : xRT j := by
  rcases (show j = 0 ∨ j = 1 ∨ j = 2 ∨ j = 3 ∨ j = 4 ∨ j = 5 ∨ j = 6 ∨ j = 7 ∨ j = 8 ∨ j = 9 ∨ j = 10 ∨ j = 11 ∨ j = 12 ∨ j = 13 ∨ j = 14 ∨ j = 15 ∨ j = 16 ∨ j = 17 ∨ j = 18 ∨ j = 19 by omega) with rfl | rfl | rfl | rfl | rfl | rfl | rfl | rfl | rfl | rfl | rfl | rfl | rfl | rfl | rfl | rfl | rfl | rfl | rfl | rfl
  · exact rj_0
  · exact rj_1
  · exact rj_2
  · exact rj_3
  · exact rj_4
  · exact rj_5
  · exact rj_6
  · exact rj_7
  · exact rj_8
  · exact rj_9
  · exact rj_10
  · exact rj_11
  · exact rj_12
  · exact rj_13
  · exact rj_14
  · exact rj_15
  · exact rj_16
  · exact rj_17
  · exact rj_18
  · exact rj_19
theorem rjb_20 (j : Nat) (h1 : 20 ≤ j) (h2 : j < 40) : xRT j := by
  rcases (show j = 20 ∨ j = 21 ∨ j = 22 ∨ j = 23 ∨ j = 24 ∨ j = 25 ∨ j = 26 ∨ j = 27 ∨ j = 28 ∨ j = 29 ∨ j = 30 ∨ j = 31 ∨ j = 32 ∨ j = 33 ∨ j = 34 ∨ j = 35 ∨ j = 36 ∨ j = 37 ∨ j = 38 ∨ j = 39 by omega) with rfl | rfl | rfl | rfl | rfl | rfl | rfl | rfl | rfl | rfl | rfl | rfl | rfl | rfl | rfl | rfl | rfl | rfl | rfl | rfl
  · exact rj_20
  · exact rj_21
  · exact rj_22
  · exact rj_23
  · exact rj_24
  · exact rj_25
  · exact rj_26
  · exact rj_27
  · exact rj_28
  · exact rj_29
  · exact rj_30
  · exact rj_31
  · exact rj_32
  · exact rj_33
  · exact rj_34
  · exact rj_35
  · exact rj_36
  · exact rj_37
  · exact rj_38
  · exact rj_39
theorem rjb_40 (j : Nat) (h1 : 40 ≤ j) (h2 : j < 60) : xRT j := by
  rcases (show j = 40 ∨ j = 41 ∨ j = 42 ∨ j = 43 ∨ j = 44 ∨ j = 45 ∨ j = 46 ∨ j = 47 ∨ j = 48 ∨ j = 49 ∨ j = 50 ∨ j = 51 ∨ j = 52 ∨ j = 53 ∨ j = 54 ∨ j = 55 ∨ j = 56 ∨ j = 57 ∨ j = 58 ∨ j = 59 by omega) with rfl | rfl | rfl | rfl | rfl | rfl | rfl | rfl | rfl | rfl | rfl | rfl | rfl | rfl | rfl | rfl | rfl | rfl | rfl | rfl
  · exact rj_40
  · exact rj_41
  · exact rj_42
  · exact rj_43
  · exact rj_44
  · exact rj_45
  · exact rj_46
  · exact rj_47
  · exact rj_48
  · exact rj_49
  · exact rj_50
  · exact rj_51
  · exact rj_52
  · exact rj_53
  · exact rj_54
  · exact rj_55
  · exact rj_56
  · exact rj_57
  · exact rj_58
  · exact rj_59
theorem rjb_60 (j : Nat) (h1 : 60 ≤ j) (h2 : j < 80) : xRT j := by
  rcases (show j = 60 ∨ j = 61 ∨ j = 62 ∨ j = 63 ∨ j = 64 ∨ j = 65 ∨ j = 66 ∨ j = 67 ∨ j = 68 ∨ j = 69 ∨ j = 70 ∨ j = 71 ∨ j = 72 ∨ j = 73 ∨ j = 74 ∨ j = 75 ∨ j = 76 ∨ j = 77 ∨ j = 78 ∨ j = 79 by omega) with rfl | rfl | rfl | rfl | rfl | rfl | rfl | rfl | rfl | rfl | rfl | rfl | rfl | rfl | rfl | rfl | rfl | rfl | rfl | rfl
  · exact rj_60
  · exact rj_61
  · exact rj_62
  · exact rj_63
  · exact rj_64
  · exact rj_65
  · exact rj_66
  · exact rj_67
  · exact rj_68
  · exact rj_69
  · exact rj_70
  · exact rj_71
  · exact rj_72
  · exact rj_73
  · exact rj_74
  · exact rj_75
  · exact rj_76
  · exact rj_77
  · exact rj_78
  · exact rj_79
theorem rjb_80 (j : Nat) (h1 : 80 ≤ j) (h2 : j < 100) : xRT j := by
  rcases (show j = 80 ∨ j = 81 ∨ j = 82 ∨ j = 83 ∨ j = 84 ∨ j = 85 ∨ j = 86 ∨ j = 87 ∨ j = 88 ∨ j = 89 ∨ j = 90 ∨ j = 91 ∨ j = 92 ∨ j = 93 ∨ j = 94 ∨ j = 95 ∨ j = 96 ∨ j = 97 ∨ j = 98 ∨ j = 99 by omega) with rfl | rfl | rfl | rfl | rfl | rfl | rfl | rfl | rfl | rfl | rfl | rfl | rfl | rfl | rfl | rfl | rfl | rfl | rfl | rfl
  · exact rj_80
  · exact rj_81
  · exact rj_82
  · exact rj_83
  · exact rj_84
  · exact rj_85
  · exact rj_86
  · exact rj_87
  · exact rj_88
  · exact rj_89
  · exact rj_90
  · exact rj_91
  · exact rj_92
  · exact rj_93
  · exact rj_94
  · exact rj_95
  · exact rj_96
  · exact rj_97
  · exact rj_98
  · exact rj_99
theorem rjb_100 (j : Nat) (h1 : 100 ≤ j) (h2 : j < 120) : xRT j := by
  rcases (show j = 100 ∨ j = 101 ∨ j = 102 ∨ j = 103 ∨ j = 104 ∨ j = 105 ∨ j = 106 ∨ j = 107 ∨ j = 108 ∨ j = 109 ∨ j = 110 ∨ j = 111 ∨ j = 112 ∨ j = 113 ∨ j = 114 ∨ j = 115 ∨ j = 116 ∨ j = 117 ∨ j = 118 ∨ j = 119 by omega) with rfl | rfl | rfl | rfl | rfl | rfl | rfl | rfl | rfl | rfl | rfl | rfl | rfl | rfl | rfl | rfl | rfl | rfl | rfl | rfl
  · exact rj_100
  · exact rj_101
  · exact rj_102
  · exact rj_103
  · exact rj_104
  · exact rj_105
  · exact rj_106
  · exact rj_107
  · exact rj_108
  · exact rj_109
  · exact rj_110
  · exact rj_111
  · exact rj_112
  · exact rj_113
  · exact rj_114
  · exact rj_115
  · exact rj_116
  · exact rj_117
  · exact rj_118
  · exact rj_119
theorem rjb_120 (j : Nat) (h1 : 120 ≤ j) (h2 : j < 140) : xRT j := by
  rcases (show j = 120 ∨ j = 121 ∨ j = 122 ∨ j = 123 ∨ j = 124 ∨ j = 125 ∨ j = 126 ∨ j = 127 ∨ j = 128 ∨ j = 129 ∨ j = 130 ∨ j = 131 ∨ j = 132 ∨ j = 133 ∨ j = 134 ∨ j = 135 ∨ j = 136 ∨ j = 137 ∨ j = 138 ∨ j = 139 by omega) with rfl | rfl | rfl | rfl | rfl | rfl | rfl | rfl | rfl | rfl | rfl | rfl | rfl | rfl | rfl | rfl | rfl | rfl | rfl | rfl
  · exact rj_120
  · exact rj_121
  · exact rj_122
  · exact rj_123
  · exact rj_124
  · exact rj_125
  · exact rj_126
  · exact rj_127
  · exact rj_128
  · exact rj_129
  · exact rj_130
  · exact rj_131
  · exact rj_132
  · exact rj_133
  · exact rj_134
  · exact rj_135
  · exact rj_136
  · exact rj_137
  · exact rj_138
  · exact rj_139
theorem rjb_140 (j : Nat) (h1 : 140 ≤ j) (h2 : j < 160) : xRT j := by
  rcases (show j = 140 ∨ j = 141 ∨ j = 142 ∨ j = 143 ∨ j = 144 ∨ j = 145 ∨ j = 146 ∨ j = 147 ∨ j = 148 ∨ j = 149 ∨ j = 150 ∨ j = 151 ∨ j = 152 ∨ j = 153 ∨ j = 154 ∨ j = 155 ∨ j = 156 ∨ j = 157 ∨ j = 158 ∨ j = 159 by omega) with rfl | rfl | rfl | rfl | rfl | rfl | rfl | rfl | rfl | rfl | rfl | rfl | rfl | rfl | rfl | rfl | rfl | rfl | rfl | rfl
  · exact rj_140
  · exact rj_141
  · exact rj_142
  · exact rj_143
  · exact rj_144
  · exact rj_145
  · exact rj_146
  · exact rj_147
  · exact rj_148
  · exact rj_149
  · exact rj_150
  · exact rj_151
  · exact rj_152
  · exact rj_153
  · exact rj_154
  · exact rj_155
  · exact rj_156
  · exact rj_157
  · exact rj_158
  · exact rj_159
theorem rjb_160 (j : Nat) (h1 : 160 ≤ j) (h2 : j < 180) : xRT j := by
  rcases (show j = 160 ∨ j = 161 ∨ j = 162 ∨ j = 163 ∨ j = 164 ∨ j = 165 ∨ j = 166 ∨ j = 167 ∨ j = 168 ∨ j = 169 ∨ j = 170 ∨ j = 171 ∨ j = 172 ∨ j = 173 ∨ j = 174 ∨ j = 175 ∨ j = 176 ∨ j = 177 ∨ j = 178 ∨ j = 179 by omega) with rfl | rfl | rfl | rfl | rfl | rfl | rfl | rfl | rfl | rfl | rfl | rfl | rfl | rfl | rfl | rfl | rfl | rfl | rfl | rfl
  · exact rj_160
  · exact rj_161
  · exact rj_162
  · exact rj_163
  · exact rj_164
  · exact rj_165
  · exact rj_166
  · exact rj_167
  · exact rj_168
  · exact rj_169
  · exact rj_170
  · exact rj_171
  · exact rj_172
  · exact rj_173
  · exact rj_174
  · exact rj_175
  · exact rj_176
  · exact rj_177
  · exact rj_178
  · exact rj_179
theorem rjb_180 (j : Nat) (h1 : 180 ≤ j) (h2 : j < 197) : xRT j := by
  rcases (show j = 180 ∨ j = 181 ∨ j = 182 ∨ j = 183 ∨ j = 184 ∨ j = 185 ∨ j = 186 ∨ j = 187 ∨ j = 188 ∨ j = 189 ∨ j = 190 ∨ j = 191 ∨ j = 192 ∨ j = 193 ∨ j = 194 ∨ j = 195 ∨ j = 196 by omega) with rfl | rfl | rfl | rfl | rfl | rfl | rfl | rfl | rfl | rfl | rfl | rfl | rfl | rfl | rfl | rfl | rfl
  · exact rj_180
  · exact rj_181
  · exact rj_182
  · exact rj_183
  · exact rj_184
  · exact rj_185
  · exact rj_186
  · exact rj_187
  · exact rj_188
  · exact rj_189
  · exact rj_190
  · exact rj_191
  · exact rj_192
  · exact rj_193
  · exact rj_194
  · exact rj_195
  · exact rj_196
theorem pRTT : RTT pT pT2 := by
  intro j M h
  have hj : j < 197 := by
    refine Nat.not_le.mp fun hq => ?_
    have h2 : pT2l[j]? = none := List.getElem?_eq_none (show pT2l.length ≤ j from hq)
    simp [pT2, h2] at h
  have hg : xRT j := by
    by_cases q0 : j < 20
    · exact rjb_0 j (by omega) q0
    by_cases q20 : j < 40
    · exact rjb_20 j (by omega) q20
    by_cases q40 : j < 60
    · exact rjb_40 j (by omega) q40
    by_cases q60 : j < 80
    · exact rjb_60 j (by omega) q60
    by_cases q80 : j < 100
    · exact rjb_80 j (by omega) q80
    by_cases q100 : j < 120
    · exact rjb_100 j (by omega) q100
    by_cases q120 : j < 140
    · exact rjb_120 j (by omega) q120
    by_cases q140 : j < 160
    · exact rjb_140 j (by omega) q140
    by_cases q160 : j < 180
    · exact rjb_160 j (by omega) q160
    by_cases q180 : j < 197
    · exact rjb_180 j (by omega) q180
    exact absurd hj (by omega)
  exact hg M h
