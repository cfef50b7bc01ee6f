/-! the law: its table, and its start -/
noncomputable section
def tbL_0 (L : Nat) (xs : Nat → Int32) : pM := [(0, .inl (pnew 3 [.null, .null, .null, .null, .int 0, .int 0] 3)), (3, .inl (pst (g_dup) 4)), (4, .inr (.inl (70, 1, some 3))), (7, .inl (pstore isA 1 8)), (8, .inl (pnew 4 [.int 0, .int 0, .int 0, .int 0, .int 0, .int 0, .int 0, .int 0, .long 0, .null, .null, .null, .int 0, .int 0, .int 0, .int 0, .int 0, .int 0, .null, .null, .null, .int 0, .int 0, .long 0, .null, .int 0, .null, .null, .null, .null, .null, .null, .null, .int 0] 11)), (11, .inl (pst (g_dup) 12)), (12, .inr (.inl (121, 1, some 4))), (15, .inl (pstore isA 2 16)), (16, .inl (pst (g_k (.int (0))) 17)), (17, .inl (pstore isI 3 18)), (18, .inl (ploadk isI 3 19)), (19, .inl (ploadk isA 0 20)), (20, .inl (pslen L 21)), (21, .inl (pst (g_k (.int (7))) 23)), (23, .inl (pst (g_i2 (· - ·)) 24)), (24, .inl (picmp cGt 1226 27)), (27, .inl (ploadk isA 0 28)), (28, .inl (ploadk isI 3 29)), (29, .inl (psld L xs 30)), (30, .inl (pst (g_k (.int (31))) 32)), (32, .inl (pst (g_i2 (· &&& ·)) 33)), (33, .inl (psw [(0, 172), (1, 225), (2, 258), (3, 281), (4, 314), (5, 347), (6, 370), (7, 393), (8, 407), (9, 430), (10, 493), (11, 526), (12, 559), (13, 582), (14, 657), (15, 720), (16, 763), (17, 786), (18, 809), (19, 832), (20, 876), (21, 919), (22, 942), (23, 985), (24, 1029), (25, 1092), (26, 1115), (27, 1138), (28, 1171), (29, 1184), (30, 1197)] 1220)), (172, .inl (ploadk isA 1 173)), (173, .inl (ploadk isA 0 174)), (174, .inl (ploadk isI 3 175)), (175, .inl (pst (g_k (.int (1))) 176)), (176, .inl (pst (g_i2 (· + ·)) 177)), (177, .inl (psld L xs 178)), (178, .inl (ploadk isA 0 179)), (179, .inl (ploadk isI 3 180)), (180, .inl (pst (g_k (.int (2))) 181)), (181, .inl (pst (g_i2 (· + ·)) 182)), (182, .inl (psld L xs 183)), (183, .inl (ploadk isA 0 184)), (184, .inl (ploadk isI 3 185)), (185, .inl (pst (g_k (.int (3))) 186)), (186, .inl (pst (g_i2 (· + ·)) 187)), (187, .inl (psld L xs 188)), (188, .inl (ploadk isA 0 189)), (189, .inl (ploadk isI 3 190)), (190, .inl (pst (g_k (.int (4))) 191)), (191, .inl (pst (g_i2 (· + ·)) 192)), (192, .inl (psld L xs 193)), (193, .inr (.inl (71, 5, some 3))), (196, .inl (ploadk isA 2 197)), (197, .inl (ploadk isA 0 198)), (198, .inl (ploadk isI 3 199)), (199, .inl (pst (g_k (.int (1))) 200)), (200, .inl (pst (g_i2 (· + ·)) 201)), (201, .inl (psld L xs 202)), (202, .inl (ploadk isA 0 203)), (203, .inl (ploadk isI 3 204)), (204, .inl (pst (g_k (.int (2))) 205)), (205, .inl (pst (g_i2 (· + ·)) 206)), (206, .inl (psld L xs 207)), (207, .inl (ploadk isA 0 208)), (208, .inl (ploadk isI 3 209)), (209, .inl (pst (g_k (.int (3))) 210)), (210, .inl (pst (g_i2 (· + ·)) 211)), (211, .inl (psld L xs 212))]
def tbL_1 (L : Nat) (xs : Nat → Int32) : pM := [(212, .inl (ploadk isA 0 213)), (213, .inl (ploadk isI 3 214)), (214, .inl (pst (g_k (.int (4))) 215)), (215, .inl (pst (g_i2 (· + ·)) 216)), (216, .inl (psld L xs 217)), (217, .inr (.inl (138, 5, some 4))), (220, .inl (picmp cEq 1220 223)), (223, .inl (pst (g_k (.int (0))) 224)), (224, .inr (.inr (some .boolean))), (225, .inl (ploadk isA 1 226)), (226, .inl (ploadk isA 0 227)), (227, .inl (ploadk isI 3 228)), (228, .inl (pst (g_k (.int (1))) 229)), (229, .inl (pst (g_i2 (· + ·)) 230)), (230, .inl (psld L xs 231)), (231, .inl (ploadk isA 0 232)), (232, .inl (ploadk isI 3 233)), (233, .inl (pst (g_k (.int (2))) 234)), (234, .inl (pst (g_i2 (· + ·)) 235)), (235, .inl (psld L xs 236)), (236, .inr (.inl (72, 3, some 3))), (239, .inl (ploadk isA 2 240)), (240, .inl (ploadk isA 0 241)), (241, .inl (ploadk isI 3 242)), (242, .inl (pst (g_k (.int (1))) 243)), (243, .inl (pst (g_i2 (· + ·)) 244)), (244, .inl (psld L xs 245)), (245, .inl (ploadk isA 0 246)), (246, .inl (ploadk isI 3 247)), (247, .inl (pst (g_k (.int (2))) 248)), (248, .inl (pst (g_i2 (· + ·)) 249)), (249, .inl (psld L xs 250)), (250, .inr (.inl (142, 3, some 4))), (253, .inl (picmp cEq 1220 256)), (256, .inl (pst (g_k (.int (0))) 257)), (257, .inr (.inr (some .boolean))), (258, .inl (ploadk isA 1 259)), (259, .inl (ploadk isA 0 260)), (260, .inl (ploadk isI 3 261)), (261, .inl (pst (g_k (.int (1))) 262)), (262, .inl (pst (g_i2 (· + ·)) 263)), (263, .inl (psld L xs 264)), (264, .inr (.inl (73, 2, some 3))), (267, .inl (ploadk isA 2 268)), (268, .inl (ploadk isA 0 269)), (269, .inl (ploadk isI 3 270)), (270, .inl (pst (g_k (.int (1))) 271)), (271, .inl (pst (g_i2 (· + ·)) 272)), (272, .inl (psld L xs 273)), (273, .inr (.inl (143, 2, some 4))), (276, .inl (picmp cEq 1220 279)), (279, .inl (pst (g_k (.int (0))) 280)), (280, .inr (.inr (some .boolean))), (281, .inl (ploadk isA 1 282)), (282, .inl (ploadk isA 0 283)), (283, .inl (ploadk isI 3 284)), (284, .inl (pst (g_k (.int (1))) 285)), (285, .inl (pst (g_i2 (· + ·)) 286)), (286, .inl (psld L xs 287)), (287, .inl (ploadk isA 0 288))]
def tbL_2 (L : Nat) (xs : Nat → Int32) : pM := [(288, .inl (ploadk isI 3 289)), (289, .inl (pst (g_k (.int (2))) 290)), (290, .inl (pst (g_i2 (· + ·)) 291)), (291, .inl (psld L xs 292)), (292, .inr (.inl (74, 3, some 3))), (295, .inl (ploadk isA 2 296)), (296, .inl (ploadk isA 0 297)), (297, .inl (ploadk isI 3 298)), (298, .inl (pst (g_k (.int (1))) 299)), (299, .inl (pst (g_i2 (· + ·)) 300)), (300, .inl (psld L xs 301)), (301, .inl (ploadk isA 0 302)), (302, .inl (ploadk isI 3 303)), (303, .inl (pst (g_k (.int (2))) 304)), (304, .inl (pst (g_i2 (· + ·)) 305)), (305, .inl (psld L xs 306)), (306, .inr (.inl (144, 3, some 4))), (309, .inl (picmp cEq 1220 312)), (312, .inl (pst (g_k (.int (0))) 313)), (313, .inr (.inr (some .boolean))), (314, .inl (ploadk isA 1 315)), (315, .inl (ploadk isA 0 316)), (316, .inl (ploadk isI 3 317)), (317, .inl (pst (g_k (.int (1))) 318)), (318, .inl (pst (g_i2 (· + ·)) 319)), (319, .inl (psld L xs 320)), (320, .inl (ploadk isA 0 321)), (321, .inl (ploadk isI 3 322)), (322, .inl (pst (g_k (.int (2))) 323)), (323, .inl (pst (g_i2 (· + ·)) 324)), (324, .inl (psld L xs 325)), (325, .inr (.inl (75, 3, some 3))), (328, .inl (ploadk isA 2 329)), (329, .inl (ploadk isA 0 330)), (330, .inl (ploadk isI 3 331)), (331, .inl (pst (g_k (.int (1))) 332)), (332, .inl (pst (g_i2 (· + ·)) 333)), (333, .inl (psld L xs 334)), (334, .inl (ploadk isA 0 335)), (335, .inl (ploadk isI 3 336)), (336, .inl (pst (g_k (.int (2))) 337)), (337, .inl (pst (g_i2 (· + ·)) 338)), (338, .inl (psld L xs 339)), (339, .inr (.inl (145, 3, some 4))), (342, .inl (picmp cEq 1220 345)), (345, .inl (pst (g_k (.int (0))) 346)), (346, .inr (.inr (some .boolean))), (347, .inl (ploadk isA 1 348)), (348, .inl (ploadk isA 0 349)), (349, .inl (ploadk isI 3 350)), (350, .inl (pst (g_k (.int (1))) 351)), (351, .inl (pst (g_i2 (· + ·)) 352)), (352, .inl (psld L xs 353)), (353, .inr (.inl (76, 2, some 3))), (356, .inl (ploadk isA 2 357)), (357, .inl (ploadk isA 0 358)), (358, .inl (ploadk isI 3 359)), (359, .inl (pst (g_k (.int (1))) 360)), (360, .inl (pst (g_i2 (· + ·)) 361)), (361, .inl (psld L xs 362))]
def tbL_3 (L : Nat) (xs : Nat → Int32) : pM := [(362, .inr (.inl (146, 2, some 4))), (365, .inl (picmp cEq 1220 368)), (368, .inl (pst (g_k (.int (0))) 369)), (369, .inr (.inr (some .boolean))), (370, .inl (ploadk isA 1 371)), (371, .inl (ploadk isA 0 372)), (372, .inl (ploadk isI 3 373)), (373, .inl (pst (g_k (.int (1))) 374)), (374, .inl (pst (g_i2 (· + ·)) 375)), (375, .inl (psld L xs 376)), (376, .inr (.inl (77, 2, some 3))), (379, .inl (ploadk isA 2 380)), (380, .inl (ploadk isA 0 381)), (381, .inl (ploadk isI 3 382)), (382, .inl (pst (g_k (.int (1))) 383)), (383, .inl (pst (g_i2 (· + ·)) 384)), (384, .inl (psld L xs 385)), (385, .inr (.inl (147, 2, some 4))), (388, .inl (picmp cEq 1220 391)), (391, .inl (pst (g_k (.int (0))) 392)), (392, .inr (.inr (some .boolean))), (393, .inl (ploadk isA 1 394)), (394, .inr (.inl (78, 1, some 3))), (397, .inl (ploadk isA 2 398)), (398, .inr (.inl (148, 1, some 4))), (401, .inl (pst (g_lcmp) 402)), (402, .inl (pif (fun x => cEq x 0) 1220 405)), (405, .inl (pst (g_k (.int (0))) 406)), (406, .inr (.inr (some .boolean))), (407, .inl (ploadk isA 1 408)), (408, .inl (ploadk isA 0 409)), (409, .inl (ploadk isI 3 410)), (410, .inl (pst (g_k (.int (1))) 411)), (411, .inl (pst (g_i2 (· + ·)) 412)), (412, .inl (psld L xs 413)), (413, .inr (.inl (79, 2, some 3))), (416, .inl (ploadk isA 2 417)), (417, .inl (ploadk isA 0 418)), (418, .inl (ploadk isI 3 419)), (419, .inl (pst (g_k (.int (1))) 420)), (420, .inl (pst (g_i2 (· + ·)) 421)), (421, .inl (psld L xs 422)), (422, .inr (.inl (153, 2, some 4))), (425, .inl (picmp cEq 1220 428)), (428, .inl (pst (g_k (.int (0))) 429)), (429, .inr (.inr (some .boolean))), (430, .inl (ploadk isA 1 431)), (431, .inl (ploadk isA 0 432)), (432, .inl (ploadk isI 3 433)), (433, .inl (pst (g_k (.int (1))) 434)), (434, .inl (pst (g_i2 (· + ·)) 435)), (435, .inl (psld L xs 436)), (436, .inl (ploadk isA 0 437)), (437, .inl (ploadk isI 3 438)), (438, .inl (pst (g_k (.int (2))) 439)), (439, .inl (pst (g_i2 (· + ·)) 440)), (440, .inl (psld L xs 441)), (441, .inl (ploadk isA 0 442)), (442, .inl (ploadk isI 3 443)), (443, .inl (pst (g_k (.int (3))) 444))]
def tbL_4 (L : Nat) (xs : Nat → Int32) : pM := [(444, .inl (pst (g_i2 (· + ·)) 445)), (445, .inl (psld L xs 446)), (446, .inl (ploadk isA 0 447)), (447, .inl (ploadk isI 3 448)), (448, .inl (pst (g_k (.int (4))) 449)), (449, .inl (pst (g_i2 (· + ·)) 450)), (450, .inl (psld L xs 451)), (451, .inl (ploadk isA 0 452)), (452, .inl (ploadk isI 3 453)), (453, .inl (pst (g_k (.int (5))) 454)), (454, .inl (pst (g_i2 (· + ·)) 455)), (455, .inl (psld L xs 456)), (456, .inr (.inl (80, 6, some 3))), (459, .inl (ploadk isA 2 460)), (460, .inl (ploadk isA 0 461)), (461, .inl (ploadk isI 3 462)), (462, .inl (pst (g_k (.int (1))) 463)), (463, .inl (pst (g_i2 (· + ·)) 464)), (464, .inl (psld L xs 465)), (465, .inl (ploadk isA 0 466)), (466, .inl (ploadk isI 3 467)), (467, .inl (pst (g_k (.int (2))) 468)), (468, .inl (pst (g_i2 (· + ·)) 469)), (469, .inl (psld L xs 470)), (470, .inl (ploadk isA 0 471)), (471, .inl (ploadk isI 3 472)), (472, .inl (pst (g_k (.int (3))) 473)), (473, .inl (pst (g_i2 (· + ·)) 474)), (474, .inl (psld L xs 475)), (475, .inl (ploadk isA 0 476)), (476, .inl (ploadk isI 3 477)), (477, .inl (pst (g_k (.int (4))) 478)), (478, .inl (pst (g_i2 (· + ·)) 479)), (479, .inl (psld L xs 480)), (480, .inl (ploadk isA 0 481)), (481, .inl (ploadk isI 3 482)), (482, .inl (pst (g_k (.int (5))) 483)), (483, .inl (pst (g_i2 (· + ·)) 484)), (484, .inl (psld L xs 485)), (485, .inr (.inl (157, 6, some 4))), (488, .inl (picmp cEq 1220 491)), (491, .inl (pst (g_k (.int (0))) 492)), (492, .inr (.inr (some .boolean))), (493, .inl (ploadk isA 1 494)), (494, .inl (ploadk isA 0 495)), (495, .inl (ploadk isI 3 496)), (496, .inl (pst (g_k (.int (1))) 497)), (497, .inl (pst (g_i2 (· + ·)) 498)), (498, .inl (psld L xs 499)), (499, .inl (ploadk isA 0 500)), (500, .inl (ploadk isI 3 501)), (501, .inl (pst (g_k (.int (2))) 502)), (502, .inl (pst (g_i2 (· + ·)) 503)), (503, .inl (psld L xs 504)), (504, .inr (.inl (81, 3, some 3))), (507, .inl (ploadk isA 2 508)), (508, .inl (ploadk isA 0 509)), (509, .inl (ploadk isI 3 510)), (510, .inl (pst (g_k (.int (1))) 511)), (511, .inl (pst (g_i2 (· + ·)) 512))]
def tbL_5 (L : Nat) (xs : Nat → Int32) : pM := [(512, .inl (psld L xs 513)), (513, .inl (ploadk isA 0 514)), (514, .inl (ploadk isI 3 515)), (515, .inl (pst (g_k (.int (2))) 516)), (516, .inl (pst (g_i2 (· + ·)) 517)), (517, .inl (psld L xs 518)), (518, .inr (.inl (163, 3, some 4))), (521, .inl (picmp cEq 1220 524)), (524, .inl (pst (g_k (.int (0))) 525)), (525, .inr (.inr (some .boolean))), (526, .inl (ploadk isA 1 527)), (527, .inl (ploadk isA 0 528)), (528, .inl (ploadk isI 3 529)), (529, .inl (pst (g_k (.int (1))) 530)), (530, .inl (pst (g_i2 (· + ·)) 531)), (531, .inl (psld L xs 532)), (532, .inl (ploadk isA 0 533)), (533, .inl (ploadk isI 3 534)), (534, .inl (pst (g_k (.int (2))) 535)), (535, .inl (pst (g_i2 (· + ·)) 536)), (536, .inl (psld L xs 537)), (537, .inr (.inl (82, 3, some 3))), (540, .inl (ploadk isA 2 541)), (541, .inl (ploadk isA 0 542)), (542, .inl (ploadk isI 3 543)), (543, .inl (pst (g_k (.int (1))) 544)), (544, .inl (pst (g_i2 (· + ·)) 545)), (545, .inl (psld L xs 546)), (546, .inl (ploadk isA 0 547)), (547, .inl (ploadk isI 3 548)), (548, .inl (pst (g_k (.int (2))) 549)), (549, .inl (pst (g_i2 (· + ·)) 550)), (550, .inl (psld L xs 551)), (551, .inr (.inl (165, 3, some 4))), (554, .inl (picmp cEq 1220 557)), (557, .inl (pst (g_k (.int (0))) 558)), (558, .inr (.inr (some .boolean))), (559, .inl (ploadk isA 1 560)), (560, .inl (ploadk isA 0 561)), (561, .inl (ploadk isI 3 562)), (562, .inl (pst (g_k (.int (1))) 563)), (563, .inl (pst (g_i2 (· + ·)) 564)), (564, .inl (psld L xs 565)), (565, .inr (.inl (83, 2, some 3))), (568, .inl (ploadk isA 2 569)), (569, .inl (ploadk isA 0 570)), (570, .inl (ploadk isI 3 571)), (571, .inl (pst (g_k (.int (1))) 572)), (572, .inl (pst (g_i2 (· + ·)) 573)), (573, .inl (psld L xs 574)), (574, .inr (.inl (167, 2, some 4))), (577, .inl (picmp cEq 1220 580)), (580, .inl (pst (g_k (.int (0))) 581)), (581, .inr (.inr (some .boolean))), (582, .inl (ploadk isA 1 583)), (583, .inl (ploadk isA 0 584)), (584, .inl (ploadk isI 3 585)), (585, .inl (pst (g_k (.int (1))) 586)), (586, .inl (pst (g_i2 (· + ·)) 587)), (587, .inl (psld L xs 588))]
def tbL_6 (L : Nat) (xs : Nat → Int32) : pM := [(588, .inl (ploadk isA 0 589)), (589, .inl (ploadk isI 3 590)), (590, .inl (pst (g_k (.int (2))) 591)), (591, .inl (pst (g_i2 (· + ·)) 592)), (592, .inl (psld L xs 593)), (593, .inl (ploadk isA 0 594)), (594, .inl (ploadk isI 3 595)), (595, .inl (pst (g_k (.int (3))) 596)), (596, .inl (pst (g_i2 (· + ·)) 597)), (597, .inl (psld L xs 598)), (598, .inl (ploadk isA 0 599)), (599, .inl (ploadk isI 3 600)), (600, .inl (pst (g_k (.int (4))) 601)), (601, .inl (pst (g_i2 (· + ·)) 602)), (602, .inl (psld L xs 603)), (603, .inl (ploadk isA 0 604)), (604, .inl (ploadk isI 3 605)), (605, .inl (pst (g_k (.int (5))) 606)), (606, .inl (pst (g_i2 (· + ·)) 607)), (607, .inl (psld L xs 608)), (608, .inl (ploadk isA 0 609)), (609, .inl (ploadk isI 3 610)), (610, .inl (pst (g_k (.int (6))) 612)), (612, .inl (pst (g_i2 (· + ·)) 613)), (613, .inl (psld L xs 614)), (614, .inr (.inl (84, 7, some 3))), (617, .inl (ploadk isA 2 618)), (618, .inl (ploadk isA 0 619)), (619, .inl (ploadk isI 3 620)), (620, .inl (pst (g_k (.int (1))) 621)), (621, .inl (pst (g_i2 (· + ·)) 622)), (622, .inl (psld L xs 623)), (623, .inl (ploadk isA 0 624)), (624, .inl (ploadk isI 3 625)), (625, .inl (pst (g_k (.int (2))) 626)), (626, .inl (pst (g_i2 (· + ·)) 627)), (627, .inl (psld L xs 628)), (628, .inl (ploadk isA 0 629)), (629, .inl (ploadk isI 3 630)), (630, .inl (pst (g_k (.int (3))) 631)), (631, .inl (pst (g_i2 (· + ·)) 632)), (632, .inl (psld L xs 633)), (633, .inl (ploadk isA 0 634)), (634, .inl (ploadk isI 3 635)), (635, .inl (pst (g_k (.int (4))) 636)), (636, .inl (pst (g_i2 (· + ·)) 637)), (637, .inl (psld L xs 638)), (638, .inl (ploadk isA 0 639)), (639, .inl (ploadk isI 3 640)), (640, .inl (pst (g_k (.int (5))) 641)), (641, .inl (pst (g_i2 (· + ·)) 642)), (642, .inl (psld L xs 643)), (643, .inl (ploadk isA 0 644)), (644, .inl (ploadk isI 3 645)), (645, .inl (pst (g_k (.int (6))) 647)), (647, .inl (pst (g_i2 (· + ·)) 648)), (648, .inl (psld L xs 649)), (649, .inr (.inl (170, 7, some 4))), (652, .inl (picmp cEq 1220 655)), (655, .inl (pst (g_k (.int (0))) 656))]
def tbL_7 (L : Nat) (xs : Nat → Int32) : pM := [(656, .inr (.inr (some .boolean))), (657, .inl (ploadk isA 1 658)), (658, .inl (ploadk isA 0 659)), (659, .inl (ploadk isI 3 660)), (660, .inl (pst (g_k (.int (1))) 661)), (661, .inl (pst (g_i2 (· + ·)) 662)), (662, .inl (psld L xs 663)), (663, .inl (ploadk isA 0 664)), (664, .inl (ploadk isI 3 665)), (665, .inl (pst (g_k (.int (2))) 666)), (666, .inl (pst (g_i2 (· + ·)) 667)), (667, .inl (psld L xs 668)), (668, .inl (ploadk isA 0 669)), (669, .inl (ploadk isI 3 670)), (670, .inl (pst (g_k (.int (3))) 671)), (671, .inl (pst (g_i2 (· + ·)) 672)), (672, .inl (psld L xs 673)), (673, .inl (ploadk isA 0 674)), (674, .inl (ploadk isI 3 675)), (675, .inl (pst (g_k (.int (4))) 676)), (676, .inl (pst (g_i2 (· + ·)) 677)), (677, .inl (psld L xs 678)), (678, .inl (ploadk isA 0 679)), (679, .inl (ploadk isI 3 680)), (680, .inl (pst (g_k (.int (5))) 681)), (681, .inl (pst (g_i2 (· + ·)) 682)), (682, .inl (psld L xs 683)), (683, .inr (.inl (85, 6, some 3))), (686, .inl (ploadk isA 2 687)), (687, .inl (ploadk isA 0 688)), (688, .inl (ploadk isI 3 689)), (689, .inl (pst (g_k (.int (1))) 690)), (690, .inl (pst (g_i2 (· + ·)) 691)), (691, .inl (psld L xs 692)), (692, .inl (ploadk isA 0 693)), (693, .inl (ploadk isI 3 694)), (694, .inl (pst (g_k (.int (2))) 695)), (695, .inl (pst (g_i2 (· + ·)) 696)), (696, .inl (psld L xs 697)), (697, .inl (ploadk isA 0 698)), (698, .inl (ploadk isI 3 699)), (699, .inl (pst (g_k (.int (3))) 700)), (700, .inl (pst (g_i2 (· + ·)) 701)), (701, .inl (psld L xs 702)), (702, .inl (ploadk isA 0 703)), (703, .inl (ploadk isI 3 704)), (704, .inl (pst (g_k (.int (4))) 705)), (705, .inl (pst (g_i2 (· + ·)) 706)), (706, .inl (psld L xs 707)), (707, .inl (ploadk isA 0 708)), (708, .inl (ploadk isI 3 709)), (709, .inl (pst (g_k (.int (5))) 710)), (710, .inl (pst (g_i2 (· + ·)) 711)), (711, .inl (psld L xs 712)), (712, .inr (.inl (172, 6, some 4))), (715, .inl (picmp cEq 1220 718)), (718, .inl (pst (g_k (.int (0))) 719)), (719, .inr (.inr (some .boolean))), (720, .inl (ploadk isA 1 721)), (721, .inl (ploadk isA 0 722))]
def tbL_8 (L : Nat) (xs : Nat → Int32) : pM := [(722, .inl (ploadk isI 3 723)), (723, .inl (pst (g_k (.int (1))) 724)), (724, .inl (pst (g_i2 (· + ·)) 725)), (725, .inl (psld L xs 726)), (726, .inl (ploadk isA 0 727)), (727, .inl (ploadk isI 3 728)), (728, .inl (pst (g_k (.int (2))) 729)), (729, .inl (pst (g_i2 (· + ·)) 730)), (730, .inl (psld L xs 731)), (731, .inl (ploadk isA 0 732)), (732, .inl (ploadk isI 3 733)), (733, .inl (pst (g_k (.int (3))) 734)), (734, .inl (pst (g_i2 (· + ·)) 735)), (735, .inl (psld L xs 736)), (736, .inr (.inl (86, 4, some 3))), (739, .inl (ploadk isA 2 740)), (740, .inl (ploadk isA 0 741)), (741, .inl (ploadk isI 3 742)), (742, .inl (pst (g_k (.int (1))) 743)), (743, .inl (pst (g_i2 (· + ·)) 744)), (744, .inl (psld L xs 745)), (745, .inl (ploadk isA 0 746)), (746, .inl (ploadk isI 3 747)), (747, .inl (pst (g_k (.int (2))) 748)), (748, .inl (pst (g_i2 (· + ·)) 749)), (749, .inl (psld L xs 750)), (750, .inl (ploadk isA 0 751)), (751, .inl (ploadk isI 3 752)), (752, .inl (pst (g_k (.int (3))) 753)), (753, .inl (pst (g_i2 (· + ·)) 754)), (754, .inl (psld L xs 755)), (755, .inr (.inl (173, 4, some 4))), (758, .inl (picmp cEq 1220 761)), (761, .inl (pst (g_k (.int (0))) 762)), (762, .inr (.inr (some .boolean))), (763, .inl (ploadk isA 1 764)), (764, .inl (ploadk isA 0 765)), (765, .inl (ploadk isI 3 766)), (766, .inl (pst (g_k (.int (1))) 767)), (767, .inl (pst (g_i2 (· + ·)) 768)), (768, .inl (psld L xs 769)), (769, .inr (.inl (87, 2, some 3))), (772, .inl (ploadk isA 2 773)), (773, .inl (ploadk isA 0 774)), (774, .inl (ploadk isI 3 775)), (775, .inl (pst (g_k (.int (1))) 776)), (776, .inl (pst (g_i2 (· + ·)) 777)), (777, .inl (psld L xs 778)), (778, .inr (.inl (174, 2, some 4))), (781, .inl (picmp cEq 1220 784)), (784, .inl (pst (g_k (.int (0))) 785)), (785, .inr (.inr (some .boolean))), (786, .inl (ploadk isA 1 787)), (787, .inl (ploadk isA 0 788)), (788, .inl (ploadk isI 3 789)), (789, .inl (pst (g_k (.int (1))) 790)), (790, .inl (pst (g_i2 (· + ·)) 791)), (791, .inl (psld L xs 792)), (792, .inr (.inl (88, 2, some 3))), (795, .inl (ploadk isA 2 796))]
def tbL_9 (L : Nat) (xs : Nat → Int32) : pM := [(796, .inl (ploadk isA 0 797)), (797, .inl (ploadk isI 3 798)), (798, .inl (pst (g_k (.int (1))) 799)), (799, .inl (pst (g_i2 (· + ·)) 800)), (800, .inl (psld L xs 801)), (801, .inr (.inl (176, 2, some 4))), (804, .inl (picmp cEq 1220 807)), (807, .inl (pst (g_k (.int (0))) 808)), (808, .inr (.inr (some .boolean))), (809, .inl (ploadk isA 1 810)), (810, .inl (ploadk isA 0 811)), (811, .inl (ploadk isI 3 812)), (812, .inl (pst (g_k (.int (1))) 813)), (813, .inl (pst (g_i2 (· + ·)) 814)), (814, .inl (psld L xs 815)), (815, .inr (.inl (89, 2, some 3))), (818, .inl (ploadk isA 2 819)), (819, .inl (ploadk isA 0 820)), (820, .inl (ploadk isI 3 821)), (821, .inl (pst (g_k (.int (1))) 822)), (822, .inl (pst (g_i2 (· + ·)) 823)), (823, .inl (psld L xs 824)), (824, .inr (.inl (177, 2, some 4))), (827, .inl (picmp cEq 1220 830)), (830, .inl (pst (g_k (.int (0))) 831)), (831, .inr (.inr (some .boolean))), (832, .inl (ploadk isA 1 833)), (833, .inl (ploadk isA 0 834)), (834, .inl (ploadk isI 3 835)), (835, .inl (pst (g_k (.int (1))) 836)), (836, .inl (pst (g_i2 (· + ·)) 837)), (837, .inl (psld L xs 838)), (838, .inl (ploadk isA 0 839)), (839, .inl (ploadk isI 3 840)), (840, .inl (pst (g_k (.int (2))) 841)), (841, .inl (pst (g_i2 (· + ·)) 842)), (842, .inl (psld L xs 843)), (843, .inl (ploadk isA 0 844)), (844, .inl (ploadk isI 3 845)), (845, .inl (pst (g_k (.int (3))) 846)), (846, .inl (pst (g_i2 (· + ·)) 847)), (847, .inl (psld L xs 848)), (848, .inr (.inl (90, 4, some 3))), (851, .inl (ploadk isA 2 852)), (852, .inl (ploadk isA 0 853)), (853, .inl (ploadk isI 3 854)), (854, .inl (pst (g_k (.int (1))) 855)), (855, .inl (pst (g_i2 (· + ·)) 856)), (856, .inl (psld L xs 857)), (857, .inl (ploadk isA 0 858)), (858, .inl (ploadk isI 3 859)), (859, .inl (pst (g_k (.int (2))) 860)), (860, .inl (pst (g_i2 (· + ·)) 861)), (861, .inl (psld L xs 862)), (862, .inl (ploadk isA 0 863)), (863, .inl (ploadk isI 3 864)), (864, .inl (pst (g_k (.int (3))) 865)), (865, .inl (pst (g_i2 (· + ·)) 866)), (866, .inl (psld L xs 867)), (867, .inr (.inl (178, 4, some 4)))]
def tbL_10 (L : Nat) (xs : Nat → Int32) : pM := [(870, .inl (pst (g_lcmp) 871)), (871, .inl (pif (fun x => cEq x 0) 1220 874)), (874, .inl (pst (g_k (.int (0))) 875)), (875, .inr (.inr (some .boolean))), (876, .inl (ploadk isA 1 877)), (877, .inl (ploadk isA 0 878)), (878, .inl (ploadk isI 3 879)), (879, .inl (pst (g_k (.int (1))) 880)), (880, .inl (pst (g_i2 (· + ·)) 881)), (881, .inl (psld L xs 882)), (882, .inl (ploadk isA 0 883)), (883, .inl (ploadk isI 3 884)), (884, .inl (pst (g_k (.int (2))) 885)), (885, .inl (pst (g_i2 (· + ·)) 886)), (886, .inl (psld L xs 887)), (887, .inl (ploadk isA 0 888)), (888, .inl (ploadk isI 3 889)), (889, .inl (pst (g_k (.int (3))) 890)), (890, .inl (pst (g_i2 (· + ·)) 891)), (891, .inl (psld L xs 892)), (892, .inr (.inl (91, 4, some 3))), (895, .inl (ploadk isA 2 896)), (896, .inl (ploadk isA 0 897)), (897, .inl (ploadk isI 3 898)), (898, .inl (pst (g_k (.int (1))) 899)), (899, .inl (pst (g_i2 (· + ·)) 900)), (900, .inl (psld L xs 901)), (901, .inl (ploadk isA 0 902)), (902, .inl (ploadk isI 3 903)), (903, .inl (pst (g_k (.int (2))) 904)), (904, .inl (pst (g_i2 (· + ·)) 905)), (905, .inl (psld L xs 906)), (906, .inl (ploadk isA 0 907)), (907, .inl (ploadk isI 3 908)), (908, .inl (pst (g_k (.int (3))) 909)), (909, .inl (pst (g_i2 (· + ·)) 910)), (910, .inl (psld L xs 911)), (911, .inr (.inl (180, 4, some 4))), (914, .inl (picmp cEq 1220 917)), (917, .inl (pst (g_k (.int (0))) 918)), (918, .inr (.inr (some .boolean))), (919, .inl (ploadk isA 1 920)), (920, .inl (ploadk isA 0 921)), (921, .inl (ploadk isI 3 922)), (922, .inl (pst (g_k (.int (1))) 923)), (923, .inl (pst (g_i2 (· + ·)) 924)), (924, .inl (psld L xs 925)), (925, .inr (.inl (92, 2, some 3))), (928, .inl (ploadk isA 2 929)), (929, .inl (ploadk isA 0 930)), (930, .inl (ploadk isI 3 931)), (931, .inl (pst (g_k (.int (1))) 932)), (932, .inl (pst (g_i2 (· + ·)) 933)), (933, .inl (psld L xs 934)), (934, .inr (.inl (181, 2, some 4))), (937, .inl (picmp cEq 1220 940)), (940, .inl (pst (g_k (.int (0))) 941)), (941, .inr (.inr (some .boolean))), (942, .inl (ploadk isA 1 943)), (943, .inl (ploadk isA 0 944))]
def tbL_11 (L : Nat) (xs : Nat → Int32) : pM := [(944, .inl (ploadk isI 3 945)), (945, .inl (pst (g_k (.int (1))) 946)), (946, .inl (pst (g_i2 (· + ·)) 947)), (947, .inl (psld L xs 948)), (948, .inl (ploadk isA 0 949)), (949, .inl (ploadk isI 3 950)), (950, .inl (pst (g_k (.int (2))) 951)), (951, .inl (pst (g_i2 (· + ·)) 952)), (952, .inl (psld L xs 953)), (953, .inl (ploadk isA 0 954)), (954, .inl (ploadk isI 3 955)), (955, .inl (pst (g_k (.int (3))) 956)), (956, .inl (pst (g_i2 (· + ·)) 957)), (957, .inl (psld L xs 958)), (958, .inr (.inl (93, 4, some 3))), (961, .inl (ploadk isA 2 962)), (962, .inl (ploadk isA 0 963)), (963, .inl (ploadk isI 3 964)), (964, .inl (pst (g_k (.int (1))) 965)), (965, .inl (pst (g_i2 (· + ·)) 966)), (966, .inl (psld L xs 967)), (967, .inl (ploadk isA 0 968)), (968, .inl (ploadk isI 3 969)), (969, .inl (pst (g_k (.int (2))) 970)), (970, .inl (pst (g_i2 (· + ·)) 971)), (971, .inl (psld L xs 972)), (972, .inl (ploadk isA 0 973)), (973, .inl (ploadk isI 3 974)), (974, .inl (pst (g_k (.int (3))) 975)), (975, .inl (pst (g_i2 (· + ·)) 976)), (976, .inl (psld L xs 977)), (977, .inr (.inl (183, 4, some 4))), (980, .inl (picmp cEq 1220 983)), (983, .inl (pst (g_k (.int (0))) 984)), (984, .inr (.inr (some .boolean))), (985, .inl (ploadk isA 1 986)), (986, .inl (ploadk isA 0 987)), (987, .inl (ploadk isI 3 988)), (988, .inl (pst (g_k (.int (1))) 989)), (989, .inl (pst (g_i2 (· + ·)) 990)), (990, .inl (psld L xs 991)), (991, .inl (ploadk isA 0 992)), (992, .inl (ploadk isI 3 993)), (993, .inl (pst (g_k (.int (2))) 994)), (994, .inl (pst (g_i2 (· + ·)) 995)), (995, .inl (psld L xs 996)), (996, .inl (ploadk isA 0 997)), (997, .inl (ploadk isI 3 998)), (998, .inl (pst (g_k (.int (3))) 999)), (999, .inl (pst (g_i2 (· + ·)) 1000)), (1000, .inl (psld L xs 1001)), (1001, .inr (.inl (94, 4, some 3))), (1004, .inl (ploadk isA 2 1005)), (1005, .inl (ploadk isA 0 1006)), (1006, .inl (ploadk isI 3 1007)), (1007, .inl (pst (g_k (.int (1))) 1008)), (1008, .inl (pst (g_i2 (· + ·)) 1009)), (1009, .inl (psld L xs 1010)), (1010, .inl (ploadk isA 0 1011)), (1011, .inl (ploadk isI 3 1012))]
def tbL_12 (L : Nat) (xs : Nat → Int32) : pM := [(1012, .inl (pst (g_k (.int (2))) 1013)), (1013, .inl (pst (g_i2 (· + ·)) 1014)), (1014, .inl (psld L xs 1015)), (1015, .inl (ploadk isA 0 1016)), (1016, .inl (ploadk isI 3 1017)), (1017, .inl (pst (g_k (.int (3))) 1018)), (1018, .inl (pst (g_i2 (· + ·)) 1019)), (1019, .inl (psld L xs 1020)), (1020, .inr (.inl (184, 4, some 4))), (1023, .inl (pst (g_lcmp) 1024)), (1024, .inl (pif (fun x => cEq x 0) 1220 1027)), (1027, .inl (pst (g_k (.int (0))) 1028)), (1028, .inr (.inr (some .boolean))), (1029, .inl (ploadk isA 1 1030)), (1030, .inl (ploadk isA 0 1031)), (1031, .inl (ploadk isI 3 1032)), (1032, .inl (pst (g_k (.int (1))) 1033)), (1033, .inl (pst (g_i2 (· + ·)) 1034)), (1034, .inl (psld L xs 1035)), (1035, .inl (ploadk isA 0 1036)), (1036, .inl (ploadk isI 3 1037)), (1037, .inl (pst (g_k (.int (2))) 1038)), (1038, .inl (pst (g_i2 (· + ·)) 1039)), (1039, .inl (psld L xs 1040)), (1040, .inl (ploadk isA 0 1041)), (1041, .inl (ploadk isI 3 1042)), (1042, .inl (pst (g_k (.int (3))) 1043)), (1043, .inl (pst (g_i2 (· + ·)) 1044)), (1044, .inl (psld L xs 1045)), (1045, .inl (ploadk isA 0 1046)), (1046, .inl (ploadk isI 3 1047)), (1047, .inl (pst (g_k (.int (4))) 1048)), (1048, .inl (pst (g_i2 (· + ·)) 1049)), (1049, .inl (psld L xs 1050)), (1050, .inl (ploadk isA 0 1051)), (1051, .inl (ploadk isI 3 1052)), (1052, .inl (pst (g_k (.int (5))) 1053)), (1053, .inl (pst (g_i2 (· + ·)) 1054)), (1054, .inl (psld L xs 1055)), (1055, .inr (.inl (95, 6, some 3))), (1058, .inl (ploadk isA 2 1059)), (1059, .inl (ploadk isA 0 1060)), (1060, .inl (ploadk isI 3 1061)), (1061, .inl (pst (g_k (.int (1))) 1062)), (1062, .inl (pst (g_i2 (· + ·)) 1063)), (1063, .inl (psld L xs 1064)), (1064, .inl (ploadk isA 0 1065)), (1065, .inl (ploadk isI 3 1066)), (1066, .inl (pst (g_k (.int (2))) 1067)), (1067, .inl (pst (g_i2 (· + ·)) 1068)), (1068, .inl (psld L xs 1069)), (1069, .inl (ploadk isA 0 1070)), (1070, .inl (ploadk isI 3 1071)), (1071, .inl (pst (g_k (.int (3))) 1072)), (1072, .inl (pst (g_i2 (· + ·)) 1073)), (1073, .inl (psld L xs 1074)), (1074, .inl (ploadk isA 0 1075)), (1075, .inl (ploadk isI 3 1076)), (1076, .inl (pst (g_k (.int (4))) 1077)), (1077, .inl (pst (g_i2 (· + ·)) 1078))]
def tbL_13 (L : Nat) (xs : Nat → Int32) : pM := [(1078, .inl (psld L xs 1079)), (1079, .inl (ploadk isA 0 1080)), (1080, .inl (ploadk isI 3 1081)), (1081, .inl (pst (g_k (.int (5))) 1082)), (1082, .inl (pst (g_i2 (· + ·)) 1083)), (1083, .inl (psld L xs 1084)), (1084, .inr (.inl (186, 6, some 4))), (1087, .inl (picmp cEq 1220 1090)), (1090, .inl (pst (g_k (.int (0))) 1091)), (1091, .inr (.inr (some .boolean))), (1092, .inl (ploadk isA 1 1093)), (1093, .inl (ploadk isA 0 1094)), (1094, .inl (ploadk isI 3 1095)), (1095, .inl (pst (g_k (.int (1))) 1096)), (1096, .inl (pst (g_i2 (· + ·)) 1097)), (1097, .inl (psld L xs 1098)), (1098, .inr (.inl (96, 2, some 3))), (1101, .inl (ploadk isA 2 1102)), (1102, .inl (ploadk isA 0 1103)), (1103, .inl (ploadk isI 3 1104)), (1104, .inl (pst (g_k (.int (1))) 1105)), (1105, .inl (pst (g_i2 (· + ·)) 1106)), (1106, .inl (psld L xs 1107)), (1107, .inr (.inl (188, 2, some 4))), (1110, .inl (picmp cEq 1220 1113)), (1113, .inl (pst (g_k (.int (0))) 1114)), (1114, .inr (.inr (some .boolean))), (1115, .inl (ploadk isA 1 1116)), (1116, .inl (ploadk isA 0 1117)), (1117, .inl (ploadk isI 3 1118)), (1118, .inl (pst (g_k (.int (1))) 1119)), (1119, .inl (pst (g_i2 (· + ·)) 1120)), (1120, .inl (psld L xs 1121)), (1121, .inr (.inl (97, 2, some 3))), (1124, .inl (ploadk isA 2 1125)), (1125, .inl (ploadk isA 0 1126)), (1126, .inl (ploadk isI 3 1127)), (1127, .inl (pst (g_k (.int (1))) 1128)), (1128, .inl (pst (g_i2 (· + ·)) 1129)), (1129, .inl (psld L xs 1130)), (1130, .inr (.inl (189, 2, some 4))), (1133, .inl (picmp cEq 1220 1136)), (1136, .inl (pst (g_k (.int (0))) 1137)), (1137, .inr (.inr (some .boolean))), (1138, .inl (ploadk isA 1 1139)), (1139, .inl (ploadk isA 0 1140)), (1140, .inl (ploadk isI 3 1141)), (1141, .inl (pst (g_k (.int (1))) 1142)), (1142, .inl (pst (g_i2 (· + ·)) 1143)), (1143, .inl (psld L xs 1144)), (1144, .inl (ploadk isA 0 1145)), (1145, .inl (ploadk isI 3 1146)), (1146, .inl (pst (g_k (.int (2))) 1147)), (1147, .inl (pst (g_i2 (· + ·)) 1148)), (1148, .inl (psld L xs 1149)), (1149, .inr (.inl (98, 3, some 3))), (1152, .inl (ploadk isA 2 1153)), (1153, .inl (ploadk isA 0 1154)), (1154, .inl (ploadk isI 3 1155)), (1155, .inl (pst (g_k (.int (1))) 1156))]
def tbL_14 (L : Nat) (xs : Nat → Int32) : pM := [(1156, .inl (pst (g_i2 (· + ·)) 1157)), (1157, .inl (psld L xs 1158)), (1158, .inl (ploadk isA 0 1159)), (1159, .inl (ploadk isI 3 1160)), (1160, .inl (pst (g_k (.int (2))) 1161)), (1161, .inl (pst (g_i2 (· + ·)) 1162)), (1162, .inl (psld L xs 1163)), (1163, .inr (.inl (190, 3, some 4))), (1166, .inl (picmp cEq 1220 1169)), (1169, .inl (pst (g_k (.int (0))) 1170)), (1170, .inr (.inr (some .boolean))), (1171, .inl (ploadk isA 1 1172)), (1172, .inr (.inl (99, 1, some 3))), (1175, .inl (ploadk isA 2 1176)), (1176, .inr (.inl (191, 1, some 4))), (1179, .inl (picmp cEq 1220 1182)), (1182, .inl (pst (g_k (.int (0))) 1183)), (1183, .inr (.inr (some .boolean))), (1184, .inl (ploadk isA 1 1185)), (1185, .inr (.inl (100, 1, some 3))), (1188, .inl (ploadk isA 2 1189)), (1189, .inr (.inl (192, 1, some 4))), (1192, .inl (picmp cEq 1220 1195)), (1195, .inl (pst (g_k (.int (0))) 1196)), (1196, .inr (.inr (some .boolean))), (1197, .inl (ploadk isA 1 1198)), (1198, .inl (ploadk isA 0 1199)), (1199, .inl (ploadk isI 3 1200)), (1200, .inl (pst (g_k (.int (1))) 1201)), (1201, .inl (pst (g_i2 (· + ·)) 1202)), (1202, .inl (psld L xs 1203)), (1203, .inr (.inl (101, 2, some 3))), (1206, .inl (ploadk isA 2 1207)), (1207, .inl (ploadk isA 0 1208)), (1208, .inl (ploadk isI 3 1209)), (1209, .inl (pst (g_k (.int (1))) 1210)), (1210, .inl (pst (g_i2 (· + ·)) 1211)), (1211, .inl (psld L xs 1212)), (1212, .inr (.inl (193, 2, some 4))), (1215, .inl (picmp cEq 1220 1218)), (1218, .inl (pst (g_k (.int (0))) 1219)), (1219, .inr (.inr (some .boolean))), (1220, .inl (piinc 3 (7) 1223)), (1223, .inl (pst g_id 18)), (1226, .inl (pst (g_k (.int (1))) 1227)), (1227, .inr (.inr (some .boolean)))]
def tbL (L : Nat) (xs : Nat → Int32) : pM := tbL_0 L xs ++ (tbL_1 L xs ++ (tbL_2 L xs ++ (tbL_3 L xs ++ (tbL_4 L xs ++ (tbL_5 L xs ++ (tbL_6 L xs ++ (tbL_7 L xs ++ (tbL_8 L xs ++ (tbL_9 L xs ++ (tbL_10 L xs ++ (tbL_11 L xs ++ (tbL_12 L xs ++ (tbL_13 L xs ++ (tbL_14 L xs))))))))))))))
end
theorem dL_law_0 : decode cL_law 0 = .ok (.new 7, 3) := by decide +kernel
theorem dL_law_3 : decode cL_law 3 = .ok (.dup, 1) := by decide +kernel
theorem dL_law_4 : decode cL_law 4 = .ok (.invokespecial 9, 3) := by decide +kernel
theorem dL_law_7 : decode cL_law 7 = .ok (.astore_n 1, 1) := by decide +kernel
theorem dL_law_8 : decode cL_law 8 = .ok (.new 10, 3) := by decide +kernel
theorem dL_law_11 : decode cL_law 11 = .ok (.dup, 1) := by decide +kernel
theorem dL_law_12 : decode cL_law 12 = .ok (.invokespecial 12, 3) := by decide +kernel
theorem dL_law_15 : decode cL_law 15 = .ok (.astore_n 2, 1) := by decide +kernel
theorem dL_law_16 : decode cL_law 16 = .ok (.iconst 0, 1) := by decide +kernel
theorem dL_law_17 : decode cL_law 17 = .ok (.istore_n 3, 1) := by decide +kernel
theorem dL_law_18 : decode cL_law 18 = .ok (.iload_n 3, 1) := by decide +kernel
theorem dL_law_19 : decode cL_law 19 = .ok (.aload_n 0, 1) := by decide +kernel
theorem dL_law_20 : decode cL_law 20 = .ok (.arraylength, 1) := by decide +kernel
theorem dL_law_21 : decode cL_law 21 = .ok (.bipush 7, 2) := by decide +kernel
theorem dL_law_23 : decode cL_law 23 = .ok (.isub, 1) := by decide +kernel
theorem dL_law_24 : decode cL_law 24 = .ok (.if_icmp .gt 1202, 3) := by decide +kernel
theorem dL_law_27 : decode cL_law 27 = .ok (.aload_n 0, 1) := by decide +kernel
theorem dL_law_28 : decode cL_law 28 = .ok (.iload_n 3, 1) := by decide +kernel
theorem dL_law_29 : decode cL_law 29 = .ok (.iaload, 1) := by decide +kernel
theorem dL_law_30 : decode cL_law 30 = .ok (.bipush 31, 2) := by decide +kernel
theorem dL_law_32 : decode cL_law 32 = .ok (.iand, 1) := by decide +kernel
theorem dL_law_33 : decode cL_law 33 = .ok (.tableswitch 1187 0 30 #[139, 192, 225, 248, 281, 314, 337, 360, 374, 397, 460, 493, 526, 549, 624, 687, 730, 753, 776, 799, 843, 886, 909, 952, 996, 1059, 1082, 1105, 1138, 1151, 1164], 139) := by decide +kernel
theorem dL_law_172 : decode cL_law 172 = .ok (.aload_n 1, 1) := by decide +kernel
theorem dL_law_173 : decode cL_law 173 = .ok (.aload_n 0, 1) := by decide +kernel
theorem dL_law_174 : decode cL_law 174 = .ok (.iload_n 3, 1) := by decide +kernel
theorem dL_law_175 : decode cL_law 175 = .ok (.iconst 1, 1) := by decide +kernel
theorem dL_law_176 : decode cL_law 176 = .ok (.iadd, 1) := by decide +kernel
theorem dL_law_177 : decode cL_law 177 = .ok (.iaload, 1) := by decide +kernel
theorem dL_law_178 : decode cL_law 178 = .ok (.aload_n 0, 1) := by decide +kernel
theorem dL_law_179 : decode cL_law 179 = .ok (.iload_n 3, 1) := by decide +kernel
theorem dL_law_180 : decode cL_law 180 = .ok (.iconst 2, 1) := by decide +kernel
theorem dL_law_181 : decode cL_law 181 = .ok (.iadd, 1) := by decide +kernel
theorem dL_law_182 : decode cL_law 182 = .ok (.iaload, 1) := by decide +kernel
theorem dL_law_183 : decode cL_law 183 = .ok (.aload_n 0, 1) := by decide +kernel
theorem dL_law_184 : decode cL_law 184 = .ok (.iload_n 3, 1) := by decide +kernel
theorem dL_law_185 : decode cL_law 185 = .ok (.iconst 3, 1) := by decide +kernel
theorem dL_law_186 : decode cL_law 186 = .ok (.iadd, 1) := by decide +kernel
theorem dL_law_187 : decode cL_law 187 = .ok (.iaload, 1) := by decide +kernel
theorem dL_law_188 : decode cL_law 188 = .ok (.aload_n 0, 1) := by decide +kernel
theorem dL_law_189 : decode cL_law 189 = .ok (.iload_n 3, 1) := by decide +kernel
theorem dL_law_190 : decode cL_law 190 = .ok (.iconst 4, 1) := by decide +kernel
theorem dL_law_191 : decode cL_law 191 = .ok (.iadd, 1) := by decide +kernel
theorem dL_law_192 : decode cL_law 192 = .ok (.iaload, 1) := by decide +kernel
theorem dL_law_193 : decode cL_law 193 = .ok (.invokevirtual 13, 3) := by decide +kernel
theorem dL_law_196 : decode cL_law 196 = .ok (.aload_n 2, 1) := by decide +kernel
theorem dL_law_197 : decode cL_law 197 = .ok (.aload_n 0, 1) := by decide +kernel
theorem dL_law_198 : decode cL_law 198 = .ok (.iload_n 3, 1) := by decide +kernel
theorem dL_law_199 : decode cL_law 199 = .ok (.iconst 1, 1) := by decide +kernel
theorem dL_law_200 : decode cL_law 200 = .ok (.iadd, 1) := by decide +kernel
theorem dL_law_201 : decode cL_law 201 = .ok (.iaload, 1) := by decide +kernel
theorem dL_law_202 : decode cL_law 202 = .ok (.aload_n 0, 1) := by decide +kernel
theorem dL_law_203 : decode cL_law 203 = .ok (.iload_n 3, 1) := by decide +kernel
theorem dL_law_204 : decode cL_law 204 = .ok (.iconst 2, 1) := by decide +kernel
theorem dL_law_205 : decode cL_law 205 = .ok (.iadd, 1) := by decide +kernel
theorem dL_law_206 : decode cL_law 206 = .ok (.iaload, 1) := by decide +kernel
theorem dL_law_207 : decode cL_law 207 = .ok (.aload_n 0, 1) := by decide +kernel
theorem dL_law_208 : decode cL_law 208 = .ok (.iload_n 3, 1) := by decide +kernel
theorem dL_law_209 : decode cL_law 209 = .ok (.iconst 3, 1) := by decide +kernel
theorem dL_law_210 : decode cL_law 210 = .ok (.iadd, 1) := by decide +kernel
theorem dL_law_211 : decode cL_law 211 = .ok (.iaload, 1) := by decide +kernel
theorem dL_law_212 : decode cL_law 212 = .ok (.aload_n 0, 1) := by decide +kernel
theorem dL_law_213 : decode cL_law 213 = .ok (.iload_n 3, 1) := by decide +kernel
theorem dL_law_214 : decode cL_law 214 = .ok (.iconst 4, 1) := by decide +kernel
theorem dL_law_215 : decode cL_law 215 = .ok (.iadd, 1) := by decide +kernel
theorem dL_law_216 : decode cL_law 216 = .ok (.iaload, 1) := by decide +kernel
theorem dL_law_217 : decode cL_law 217 = .ok (.invokevirtual 17, 3) := by decide +kernel
theorem dL_law_220 : decode cL_law 220 = .ok (.if_icmp .eq 1000, 3) := by decide +kernel
theorem dL_law_223 : decode cL_law 223 = .ok (.iconst 0, 1) := by decide +kernel
theorem dL_law_224 : decode cL_law 224 = .ok (.ireturn, 1) := by decide +kernel
theorem dL_law_225 : decode cL_law 225 = .ok (.aload_n 1, 1) := by decide +kernel
theorem dL_law_226 : decode cL_law 226 = .ok (.aload_n 0, 1) := by decide +kernel
theorem dL_law_227 : decode cL_law 227 = .ok (.iload_n 3, 1) := by decide +kernel
theorem dL_law_228 : decode cL_law 228 = .ok (.iconst 1, 1) := by decide +kernel
theorem dL_law_229 : decode cL_law 229 = .ok (.iadd, 1) := by decide +kernel
theorem dL_law_230 : decode cL_law 230 = .ok (.iaload, 1) := by decide +kernel
theorem dL_law_231 : decode cL_law 231 = .ok (.aload_n 0, 1) := by decide +kernel
theorem dL_law_232 : decode cL_law 232 = .ok (.iload_n 3, 1) := by decide +kernel
theorem dL_law_233 : decode cL_law 233 = .ok (.iconst 2, 1) := by decide +kernel
theorem dL_law_234 : decode cL_law 234 = .ok (.iadd, 1) := by decide +kernel
theorem dL_law_235 : decode cL_law 235 = .ok (.iaload, 1) := by decide +kernel
theorem dL_law_236 : decode cL_law 236 = .ok (.invokevirtual 18, 3) := by decide +kernel
theorem dL_law_239 : decode cL_law 239 = .ok (.aload_n 2, 1) := by decide +kernel
theorem dL_law_240 : decode cL_law 240 = .ok (.aload_n 0, 1) := by decide +kernel
theorem dL_law_241 : decode cL_law 241 = .ok (.iload_n 3, 1) := by decide +kernel
theorem dL_law_242 : decode cL_law 242 = .ok (.iconst 1, 1) := by decide +kernel
theorem dL_law_243 : decode cL_law 243 = .ok (.iadd, 1) := by decide +kernel
theorem dL_law_244 : decode cL_law 244 = .ok (.iaload, 1) := by decide +kernel
theorem dL_law_245 : decode cL_law 245 = .ok (.aload_n 0, 1) := by decide +kernel
theorem dL_law_246 : decode cL_law 246 = .ok (.iload_n 3, 1) := by decide +kernel
theorem dL_law_247 : decode cL_law 247 = .ok (.iconst 2, 1) := by decide +kernel
theorem dL_law_248 : decode cL_law 248 = .ok (.iadd, 1) := by decide +kernel
theorem dL_law_249 : decode cL_law 249 = .ok (.iaload, 1) := by decide +kernel
theorem dL_law_250 : decode cL_law 250 = .ok (.invokevirtual 22, 3) := by decide +kernel
theorem dL_law_253 : decode cL_law 253 = .ok (.if_icmp .eq 967, 3) := by decide +kernel
theorem dL_law_256 : decode cL_law 256 = .ok (.iconst 0, 1) := by decide +kernel
theorem dL_law_257 : decode cL_law 257 = .ok (.ireturn, 1) := by decide +kernel
theorem dL_law_258 : decode cL_law 258 = .ok (.aload_n 1, 1) := by decide +kernel
theorem dL_law_259 : decode cL_law 259 = .ok (.aload_n 0, 1) := by decide +kernel
theorem dL_law_260 : decode cL_law 260 = .ok (.iload_n 3, 1) := by decide +kernel
theorem dL_law_261 : decode cL_law 261 = .ok (.iconst 1, 1) := by decide +kernel
theorem dL_law_262 : decode cL_law 262 = .ok (.iadd, 1) := by decide +kernel
theorem dL_law_263 : decode cL_law 263 = .ok (.iaload, 1) := by decide +kernel
theorem dL_law_264 : decode cL_law 264 = .ok (.invokevirtual 23, 3) := by decide +kernel
theorem dL_law_267 : decode cL_law 267 = .ok (.aload_n 2, 1) := by decide +kernel
theorem dL_law_268 : decode cL_law 268 = .ok (.aload_n 0, 1) := by decide +kernel
theorem dL_law_269 : decode cL_law 269 = .ok (.iload_n 3, 1) := by decide +kernel
theorem dL_law_270 : decode cL_law 270 = .ok (.iconst 1, 1) := by decide +kernel
theorem dL_law_271 : decode cL_law 271 = .ok (.iadd, 1) := by decide +kernel
theorem dL_law_272 : decode cL_law 272 = .ok (.iaload, 1) := by decide +kernel
theorem dL_law_273 : decode cL_law 273 = .ok (.invokevirtual 27, 3) := by decide +kernel
theorem dL_law_276 : decode cL_law 276 = .ok (.if_icmp .eq 944, 3) := by decide +kernel
theorem dL_law_279 : decode cL_law 279 = .ok (.iconst 0, 1) := by decide +kernel
theorem dL_law_280 : decode cL_law 280 = .ok (.ireturn, 1) := by decide +kernel
theorem dL_law_281 : decode cL_law 281 = .ok (.aload_n 1, 1) := by decide +kernel
theorem dL_law_282 : decode cL_law 282 = .ok (.aload_n 0, 1) := by decide +kernel
theorem dL_law_283 : decode cL_law 283 = .ok (.iload_n 3, 1) := by decide +kernel
theorem dL_law_284 : decode cL_law 284 = .ok (.iconst 1, 1) := by decide +kernel
theorem dL_law_285 : decode cL_law 285 = .ok (.iadd, 1) := by decide +kernel
theorem dL_law_286 : decode cL_law 286 = .ok (.iaload, 1) := by decide +kernel
theorem dL_law_287 : decode cL_law 287 = .ok (.aload_n 0, 1) := by decide +kernel
theorem dL_law_288 : decode cL_law 288 = .ok (.iload_n 3, 1) := by decide +kernel
theorem dL_law_289 : decode cL_law 289 = .ok (.iconst 2, 1) := by decide +kernel
theorem dL_law_290 : decode cL_law 290 = .ok (.iadd, 1) := by decide +kernel
theorem dL_law_291 : decode cL_law 291 = .ok (.iaload, 1) := by decide +kernel
theorem dL_law_292 : decode cL_law 292 = .ok (.invokevirtual 28, 3) := by decide +kernel
theorem dL_law_295 : decode cL_law 295 = .ok (.aload_n 2, 1) := by decide +kernel
theorem dL_law_296 : decode cL_law 296 = .ok (.aload_n 0, 1) := by decide +kernel
theorem dL_law_297 : decode cL_law 297 = .ok (.iload_n 3, 1) := by decide +kernel
theorem dL_law_298 : decode cL_law 298 = .ok (.iconst 1, 1) := by decide +kernel
theorem dL_law_299 : decode cL_law 299 = .ok (.iadd, 1) := by decide +kernel
theorem dL_law_300 : decode cL_law 300 = .ok (.iaload, 1) := by decide +kernel
theorem dL_law_301 : decode cL_law 301 = .ok (.aload_n 0, 1) := by decide +kernel
theorem dL_law_302 : decode cL_law 302 = .ok (.iload_n 3, 1) := by decide +kernel
theorem dL_law_303 : decode cL_law 303 = .ok (.iconst 2, 1) := by decide +kernel
theorem dL_law_304 : decode cL_law 304 = .ok (.iadd, 1) := by decide +kernel
theorem dL_law_305 : decode cL_law 305 = .ok (.iaload, 1) := by decide +kernel
theorem dL_law_306 : decode cL_law 306 = .ok (.invokevirtual 31, 3) := by decide +kernel
theorem dL_law_309 : decode cL_law 309 = .ok (.if_icmp .eq 911, 3) := by decide +kernel
theorem dL_law_312 : decode cL_law 312 = .ok (.iconst 0, 1) := by decide +kernel
theorem dL_law_313 : decode cL_law 313 = .ok (.ireturn, 1) := by decide +kernel
theorem dL_law_314 : decode cL_law 314 = .ok (.aload_n 1, 1) := by decide +kernel
theorem dL_law_315 : decode cL_law 315 = .ok (.aload_n 0, 1) := by decide +kernel
theorem dL_law_316 : decode cL_law 316 = .ok (.iload_n 3, 1) := by decide +kernel
theorem dL_law_317 : decode cL_law 317 = .ok (.iconst 1, 1) := by decide +kernel
theorem dL_law_318 : decode cL_law 318 = .ok (.iadd, 1) := by decide +kernel
theorem dL_law_319 : decode cL_law 319 = .ok (.iaload, 1) := by decide +kernel
theorem dL_law_320 : decode cL_law 320 = .ok (.aload_n 0, 1) := by decide +kernel
theorem dL_law_321 : decode cL_law 321 = .ok (.iload_n 3, 1) := by decide +kernel
theorem dL_law_322 : decode cL_law 322 = .ok (.iconst 2, 1) := by decide +kernel
theorem dL_law_323 : decode cL_law 323 = .ok (.iadd, 1) := by decide +kernel
theorem dL_law_324 : decode cL_law 324 = .ok (.iaload, 1) := by decide +kernel
theorem dL_law_325 : decode cL_law 325 = .ok (.invokevirtual 32, 3) := by decide +kernel
theorem dL_law_328 : decode cL_law 328 = .ok (.aload_n 2, 1) := by decide +kernel
theorem dL_law_329 : decode cL_law 329 = .ok (.aload_n 0, 1) := by decide +kernel
theorem dL_law_330 : decode cL_law 330 = .ok (.iload_n 3, 1) := by decide +kernel
theorem dL_law_331 : decode cL_law 331 = .ok (.iconst 1, 1) := by decide +kernel
theorem dL_law_332 : decode cL_law 332 = .ok (.iadd, 1) := by decide +kernel
theorem dL_law_333 : decode cL_law 333 = .ok (.iaload, 1) := by decide +kernel
theorem dL_law_334 : decode cL_law 334 = .ok (.aload_n 0, 1) := by decide +kernel
theorem dL_law_335 : decode cL_law 335 = .ok (.iload_n 3, 1) := by decide +kernel
theorem dL_law_336 : decode cL_law 336 = .ok (.iconst 2, 1) := by decide +kernel
theorem dL_law_337 : decode cL_law 337 = .ok (.iadd, 1) := by decide +kernel
theorem dL_law_338 : decode cL_law 338 = .ok (.iaload, 1) := by decide +kernel
theorem dL_law_339 : decode cL_law 339 = .ok (.invokevirtual 35, 3) := by decide +kernel
theorem dL_law_342 : decode cL_law 342 = .ok (.if_icmp .eq 878, 3) := by decide +kernel
theorem dL_law_345 : decode cL_law 345 = .ok (.iconst 0, 1) := by decide +kernel
theorem dL_law_346 : decode cL_law 346 = .ok (.ireturn, 1) := by decide +kernel
theorem dL_law_347 : decode cL_law 347 = .ok (.aload_n 1, 1) := by decide +kernel
theorem dL_law_348 : decode cL_law 348 = .ok (.aload_n 0, 1) := by decide +kernel
theorem dL_law_349 : decode cL_law 349 = .ok (.iload_n 3, 1) := by decide +kernel
theorem dL_law_350 : decode cL_law 350 = .ok (.iconst 1, 1) := by decide +kernel
theorem dL_law_351 : decode cL_law 351 = .ok (.iadd, 1) := by decide +kernel
theorem dL_law_352 : decode cL_law 352 = .ok (.iaload, 1) := by decide +kernel
theorem dL_law_353 : decode cL_law 353 = .ok (.invokevirtual 36, 3) := by decide +kernel
theorem dL_law_356 : decode cL_law 356 = .ok (.aload_n 2, 1) := by decide +kernel
theorem dL_law_357 : decode cL_law 357 = .ok (.aload_n 0, 1) := by decide +kernel
theorem dL_law_358 : decode cL_law 358 = .ok (.iload_n 3, 1) := by decide +kernel
theorem dL_law_359 : decode cL_law 359 = .ok (.iconst 1, 1) := by decide +kernel
theorem dL_law_360 : decode cL_law 360 = .ok (.iadd, 1) := by decide +kernel
theorem dL_law_361 : decode cL_law 361 = .ok (.iaload, 1) := by decide +kernel
theorem dL_law_362 : decode cL_law 362 = .ok (.invokevirtual 39, 3) := by decide +kernel
theorem dL_law_365 : decode cL_law 365 = .ok (.if_icmp .eq 855, 3) := by decide +kernel
theorem dL_law_368 : decode cL_law 368 = .ok (.iconst 0, 1) := by decide +kernel
theorem dL_law_369 : decode cL_law 369 = .ok (.ireturn, 1) := by decide +kernel
theorem dL_law_370 : decode cL_law 370 = .ok (.aload_n 1, 1) := by decide +kernel
theorem dL_law_371 : decode cL_law 371 = .ok (.aload_n 0, 1) := by decide +kernel
theorem dL_law_372 : decode cL_law 372 = .ok (.iload_n 3, 1) := by decide +kernel
theorem dL_law_373 : decode cL_law 373 = .ok (.iconst 1, 1) := by decide +kernel
theorem dL_law_374 : decode cL_law 374 = .ok (.iadd, 1) := by decide +kernel
theorem dL_law_375 : decode cL_law 375 = .ok (.iaload, 1) := by decide +kernel
theorem dL_law_376 : decode cL_law 376 = .ok (.invokevirtual 40, 3) := by decide +kernel
theorem dL_law_379 : decode cL_law 379 = .ok (.aload_n 2, 1) := by decide +kernel
theorem dL_law_380 : decode cL_law 380 = .ok (.aload_n 0, 1) := by decide +kernel
theorem dL_law_381 : decode cL_law 381 = .ok (.iload_n 3, 1) := by decide +kernel
theorem dL_law_382 : decode cL_law 382 = .ok (.iconst 1, 1) := by decide +kernel
theorem dL_law_383 : decode cL_law 383 = .ok (.iadd, 1) := by decide +kernel
theorem dL_law_384 : decode cL_law 384 = .ok (.iaload, 1) := by decide +kernel
theorem dL_law_385 : decode cL_law 385 = .ok (.invokevirtual 43, 3) := by decide +kernel
theorem dL_law_388 : decode cL_law 388 = .ok (.if_icmp .eq 832, 3) := by decide +kernel
theorem dL_law_391 : decode cL_law 391 = .ok (.iconst 0, 1) := by decide +kernel
theorem dL_law_392 : decode cL_law 392 = .ok (.ireturn, 1) := by decide +kernel
theorem dL_law_393 : decode cL_law 393 = .ok (.aload_n 1, 1) := by decide +kernel
theorem dL_law_394 : decode cL_law 394 = .ok (.invokevirtual 44, 3) := by decide +kernel
theorem dL_law_397 : decode cL_law 397 = .ok (.aload_n 2, 1) := by decide +kernel
theorem dL_law_398 : decode cL_law 398 = .ok (.invokevirtual 48, 3) := by decide +kernel
theorem dL_law_401 : decode cL_law 401 = .ok (.lcmp, 1) := by decide +kernel
theorem dL_law_402 : decode cL_law 402 = .ok (.ifCond .eq 818, 3) := by decide +kernel
theorem dL_law_405 : decode cL_law 405 = .ok (.iconst 0, 1) := by decide +kernel
theorem dL_law_406 : decode cL_law 406 = .ok (.ireturn, 1) := by decide +kernel
theorem dL_law_407 : decode cL_law 407 = .ok (.aload_n 1, 1) := by decide +kernel
theorem dL_law_408 : decode cL_law 408 = .ok (.aload_n 0, 1) := by decide +kernel
theorem dL_law_409 : decode cL_law 409 = .ok (.iload_n 3, 1) := by decide +kernel
theorem dL_law_410 : decode cL_law 410 = .ok (.iconst 1, 1) := by decide +kernel
theorem dL_law_411 : decode cL_law 411 = .ok (.iadd, 1) := by decide +kernel
theorem dL_law_412 : decode cL_law 412 = .ok (.iaload, 1) := by decide +kernel
theorem dL_law_413 : decode cL_law 413 = .ok (.invokevirtual 49, 3) := by decide +kernel
theorem dL_law_416 : decode cL_law 416 = .ok (.aload_n 2, 1) := by decide +kernel
theorem dL_law_417 : decode cL_law 417 = .ok (.aload_n 0, 1) := by decide +kernel
theorem dL_law_418 : decode cL_law 418 = .ok (.iload_n 3, 1) := by decide +kernel
theorem dL_law_419 : decode cL_law 419 = .ok (.iconst 1, 1) := by decide +kernel
theorem dL_law_420 : decode cL_law 420 = .ok (.iadd, 1) := by decide +kernel
theorem dL_law_421 : decode cL_law 421 = .ok (.iaload, 1) := by decide +kernel
theorem dL_law_422 : decode cL_law 422 = .ok (.invokevirtual 52, 3) := by decide +kernel
theorem dL_law_425 : decode cL_law 425 = .ok (.if_icmp .eq 795, 3) := by decide +kernel
theorem dL_law_428 : decode cL_law 428 = .ok (.iconst 0, 1) := by decide +kernel
theorem dL_law_429 : decode cL_law 429 = .ok (.ireturn, 1) := by decide +kernel
theorem dL_law_430 : decode cL_law 430 = .ok (.aload_n 1, 1) := by decide +kernel
theorem dL_law_431 : decode cL_law 431 = .ok (.aload_n 0, 1) := by decide +kernel
theorem dL_law_432 : decode cL_law 432 = .ok (.iload_n 3, 1) := by decide +kernel
theorem dL_law_433 : decode cL_law 433 = .ok (.iconst 1, 1) := by decide +kernel
theorem dL_law_434 : decode cL_law 434 = .ok (.iadd, 1) := by decide +kernel
theorem dL_law_435 : decode cL_law 435 = .ok (.iaload, 1) := by decide +kernel
theorem dL_law_436 : decode cL_law 436 = .ok (.aload_n 0, 1) := by decide +kernel
theorem dL_law_437 : decode cL_law 437 = .ok (.iload_n 3, 1) := by decide +kernel
theorem dL_law_438 : decode cL_law 438 = .ok (.iconst 2, 1) := by decide +kernel
theorem dL_law_439 : decode cL_law 439 = .ok (.iadd, 1) := by decide +kernel
theorem dL_law_440 : decode cL_law 440 = .ok (.iaload, 1) := by decide +kernel
theorem dL_law_441 : decode cL_law 441 = .ok (.aload_n 0, 1) := by decide +kernel
theorem dL_law_442 : decode cL_law 442 = .ok (.iload_n 3, 1) := by decide +kernel
theorem dL_law_443 : decode cL_law 443 = .ok (.iconst 3, 1) := by decide +kernel
theorem dL_law_444 : decode cL_law 444 = .ok (.iadd, 1) := by decide +kernel
theorem dL_law_445 : decode cL_law 445 = .ok (.iaload, 1) := by decide +kernel
theorem dL_law_446 : decode cL_law 446 = .ok (.aload_n 0, 1) := by decide +kernel
theorem dL_law_447 : decode cL_law 447 = .ok (.iload_n 3, 1) := by decide +kernel
theorem dL_law_448 : decode cL_law 448 = .ok (.iconst 4, 1) := by decide +kernel
theorem dL_law_449 : decode cL_law 449 = .ok (.iadd, 1) := by decide +kernel
theorem dL_law_450 : decode cL_law 450 = .ok (.iaload, 1) := by decide +kernel
theorem dL_law_451 : decode cL_law 451 = .ok (.aload_n 0, 1) := by decide +kernel
theorem dL_law_452 : decode cL_law 452 = .ok (.iload_n 3, 1) := by decide +kernel
theorem dL_law_453 : decode cL_law 453 = .ok (.iconst 5, 1) := by decide +kernel
theorem dL_law_454 : decode cL_law 454 = .ok (.iadd, 1) := by decide +kernel
theorem dL_law_455 : decode cL_law 455 = .ok (.iaload, 1) := by decide +kernel
theorem dL_law_456 : decode cL_law 456 = .ok (.invokevirtual 53, 3) := by decide +kernel
theorem dL_law_459 : decode cL_law 459 = .ok (.aload_n 2, 1) := by decide +kernel
theorem dL_law_460 : decode cL_law 460 = .ok (.aload_n 0, 1) := by decide +kernel
theorem dL_law_461 : decode cL_law 461 = .ok (.iload_n 3, 1) := by decide +kernel
theorem dL_law_462 : decode cL_law 462 = .ok (.iconst 1, 1) := by decide +kernel
theorem dL_law_463 : decode cL_law 463 = .ok (.iadd, 1) := by decide +kernel
theorem dL_law_464 : decode cL_law 464 = .ok (.iaload, 1) := by decide +kernel
theorem dL_law_465 : decode cL_law 465 = .ok (.aload_n 0, 1) := by decide +kernel
theorem dL_law_466 : decode cL_law 466 = .ok (.iload_n 3, 1) := by decide +kernel
theorem dL_law_467 : decode cL_law 467 = .ok (.iconst 2, 1) := by decide +kernel
theorem dL_law_468 : decode cL_law 468 = .ok (.iadd, 1) := by decide +kernel
theorem dL_law_469 : decode cL_law 469 = .ok (.iaload, 1) := by decide +kernel
theorem dL_law_470 : decode cL_law 470 = .ok (.aload_n 0, 1) := by decide +kernel
theorem dL_law_471 : decode cL_law 471 = .ok (.iload_n 3, 1) := by decide +kernel
theorem dL_law_472 : decode cL_law 472 = .ok (.iconst 3, 1) := by decide +kernel
theorem dL_law_473 : decode cL_law 473 = .ok (.iadd, 1) := by decide +kernel
theorem dL_law_474 : decode cL_law 474 = .ok (.iaload, 1) := by decide +kernel
theorem dL_law_475 : decode cL_law 475 = .ok (.aload_n 0, 1) := by decide +kernel
theorem dL_law_476 : decode cL_law 476 = .ok (.iload_n 3, 1) := by decide +kernel
theorem dL_law_477 : decode cL_law 477 = .ok (.iconst 4, 1) := by decide +kernel
theorem dL_law_478 : decode cL_law 478 = .ok (.iadd, 1) := by decide +kernel
theorem dL_law_479 : decode cL_law 479 = .ok (.iaload, 1) := by decide +kernel
theorem dL_law_480 : decode cL_law 480 = .ok (.aload_n 0, 1) := by decide +kernel
theorem dL_law_481 : decode cL_law 481 = .ok (.iload_n 3, 1) := by decide +kernel
theorem dL_law_482 : decode cL_law 482 = .ok (.iconst 5, 1) := by decide +kernel
theorem dL_law_483 : decode cL_law 483 = .ok (.iadd, 1) := by decide +kernel
theorem dL_law_484 : decode cL_law 484 = .ok (.iaload, 1) := by decide +kernel
theorem dL_law_485 : decode cL_law 485 = .ok (.invokevirtual 57, 3) := by decide +kernel
theorem dL_law_488 : decode cL_law 488 = .ok (.if_icmp .eq 732, 3) := by decide +kernel
theorem dL_law_491 : decode cL_law 491 = .ok (.iconst 0, 1) := by decide +kernel
theorem dL_law_492 : decode cL_law 492 = .ok (.ireturn, 1) := by decide +kernel
theorem dL_law_493 : decode cL_law 493 = .ok (.aload_n 1, 1) := by decide +kernel
theorem dL_law_494 : decode cL_law 494 = .ok (.aload_n 0, 1) := by decide +kernel
theorem dL_law_495 : decode cL_law 495 = .ok (.iload_n 3, 1) := by decide +kernel
theorem dL_law_496 : decode cL_law 496 = .ok (.iconst 1, 1) := by decide +kernel
theorem dL_law_497 : decode cL_law 497 = .ok (.iadd, 1) := by decide +kernel
theorem dL_law_498 : decode cL_law 498 = .ok (.iaload, 1) := by decide +kernel
theorem dL_law_499 : decode cL_law 499 = .ok (.aload_n 0, 1) := by decide +kernel
theorem dL_law_500 : decode cL_law 500 = .ok (.iload_n 3, 1) := by decide +kernel
theorem dL_law_501 : decode cL_law 501 = .ok (.iconst 2, 1) := by decide +kernel
theorem dL_law_502 : decode cL_law 502 = .ok (.iadd, 1) := by decide +kernel
theorem dL_law_503 : decode cL_law 503 = .ok (.iaload, 1) := by decide +kernel
theorem dL_law_504 : decode cL_law 504 = .ok (.invokevirtual 58, 3) := by decide +kernel
theorem dL_law_507 : decode cL_law 507 = .ok (.aload_n 2, 1) := by decide +kernel
theorem dL_law_508 : decode cL_law 508 = .ok (.aload_n 0, 1) := by decide +kernel
theorem dL_law_509 : decode cL_law 509 = .ok (.iload_n 3, 1) := by decide +kernel
theorem dL_law_510 : decode cL_law 510 = .ok (.iconst 1, 1) := by decide +kernel
theorem dL_law_511 : decode cL_law 511 = .ok (.iadd, 1) := by decide +kernel
theorem dL_law_512 : decode cL_law 512 = .ok (.iaload, 1) := by decide +kernel
theorem dL_law_513 : decode cL_law 513 = .ok (.aload_n 0, 1) := by decide +kernel
theorem dL_law_514 : decode cL_law 514 = .ok (.iload_n 3, 1) := by decide +kernel
theorem dL_law_515 : decode cL_law 515 = .ok (.iconst 2, 1) := by decide +kernel
theorem dL_law_516 : decode cL_law 516 = .ok (.iadd, 1) := by decide +kernel
theorem dL_law_517 : decode cL_law 517 = .ok (.iaload, 1) := by decide +kernel
theorem dL_law_518 : decode cL_law 518 = .ok (.invokevirtual 61, 3) := by decide +kernel
theorem dL_law_521 : decode cL_law 521 = .ok (.if_icmp .eq 699, 3) := by decide +kernel
theorem dL_law_524 : decode cL_law 524 = .ok (.iconst 0, 1) := by decide +kernel
theorem dL_law_525 : decode cL_law 525 = .ok (.ireturn, 1) := by decide +kernel
theorem dL_law_526 : decode cL_law 526 = .ok (.aload_n 1, 1) := by decide +kernel
theorem dL_law_527 : decode cL_law 527 = .ok (.aload_n 0, 1) := by decide +kernel
theorem dL_law_528 : decode cL_law 528 = .ok (.iload_n 3, 1) := by decide +kernel
theorem dL_law_529 : decode cL_law 529 = .ok (.iconst 1, 1) := by decide +kernel
theorem dL_law_530 : decode cL_law 530 = .ok (.iadd, 1) := by decide +kernel
theorem dL_law_531 : decode cL_law 531 = .ok (.iaload, 1) := by decide +kernel
theorem dL_law_532 : decode cL_law 532 = .ok (.aload_n 0, 1) := by decide +kernel
theorem dL_law_533 : decode cL_law 533 = .ok (.iload_n 3, 1) := by decide +kernel
theorem dL_law_534 : decode cL_law 534 = .ok (.iconst 2, 1) := by decide +kernel
theorem dL_law_535 : decode cL_law 535 = .ok (.iadd, 1) := by decide +kernel
theorem dL_law_536 : decode cL_law 536 = .ok (.iaload, 1) := by decide +kernel
theorem dL_law_537 : decode cL_law 537 = .ok (.invokevirtual 62, 3) := by decide +kernel
theorem dL_law_540 : decode cL_law 540 = .ok (.aload_n 2, 1) := by decide +kernel
theorem dL_law_541 : decode cL_law 541 = .ok (.aload_n 0, 1) := by decide +kernel
theorem dL_law_542 : decode cL_law 542 = .ok (.iload_n 3, 1) := by decide +kernel
theorem dL_law_543 : decode cL_law 543 = .ok (.iconst 1, 1) := by decide +kernel
theorem dL_law_544 : decode cL_law 544 = .ok (.iadd, 1) := by decide +kernel
theorem dL_law_545 : decode cL_law 545 = .ok (.iaload, 1) := by decide +kernel
theorem dL_law_546 : decode cL_law 546 = .ok (.aload_n 0, 1) := by decide +kernel
theorem dL_law_547 : decode cL_law 547 = .ok (.iload_n 3, 1) := by decide +kernel
theorem dL_law_548 : decode cL_law 548 = .ok (.iconst 2, 1) := by decide +kernel
theorem dL_law_549 : decode cL_law 549 = .ok (.iadd, 1) := by decide +kernel
theorem dL_law_550 : decode cL_law 550 = .ok (.iaload, 1) := by decide +kernel
theorem dL_law_551 : decode cL_law 551 = .ok (.invokevirtual 65, 3) := by decide +kernel
theorem dL_law_554 : decode cL_law 554 = .ok (.if_icmp .eq 666, 3) := by decide +kernel
theorem dL_law_557 : decode cL_law 557 = .ok (.iconst 0, 1) := by decide +kernel
theorem dL_law_558 : decode cL_law 558 = .ok (.ireturn, 1) := by decide +kernel
theorem dL_law_559 : decode cL_law 559 = .ok (.aload_n 1, 1) := by decide +kernel
theorem dL_law_560 : decode cL_law 560 = .ok (.aload_n 0, 1) := by decide +kernel
theorem dL_law_561 : decode cL_law 561 = .ok (.iload_n 3, 1) := by decide +kernel
theorem dL_law_562 : decode cL_law 562 = .ok (.iconst 1, 1) := by decide +kernel
theorem dL_law_563 : decode cL_law 563 = .ok (.iadd, 1) := by decide +kernel
theorem dL_law_564 : decode cL_law 564 = .ok (.iaload, 1) := by decide +kernel
theorem dL_law_565 : decode cL_law 565 = .ok (.invokevirtual 66, 3) := by decide +kernel
theorem dL_law_568 : decode cL_law 568 = .ok (.aload_n 2, 1) := by decide +kernel
theorem dL_law_569 : decode cL_law 569 = .ok (.aload_n 0, 1) := by decide +kernel
theorem dL_law_570 : decode cL_law 570 = .ok (.iload_n 3, 1) := by decide +kernel
theorem dL_law_571 : decode cL_law 571 = .ok (.iconst 1, 1) := by decide +kernel
theorem dL_law_572 : decode cL_law 572 = .ok (.iadd, 1) := by decide +kernel
theorem dL_law_573 : decode cL_law 573 = .ok (.iaload, 1) := by decide +kernel
theorem dL_law_574 : decode cL_law 574 = .ok (.invokevirtual 69, 3) := by decide +kernel
theorem dL_law_577 : decode cL_law 577 = .ok (.if_icmp .eq 643, 3) := by decide +kernel
theorem dL_law_580 : decode cL_law 580 = .ok (.iconst 0, 1) := by decide +kernel
theorem dL_law_581 : decode cL_law 581 = .ok (.ireturn, 1) := by decide +kernel
theorem dL_law_582 : decode cL_law 582 = .ok (.aload_n 1, 1) := by decide +kernel
theorem dL_law_583 : decode cL_law 583 = .ok (.aload_n 0, 1) := by decide +kernel
theorem dL_law_584 : decode cL_law 584 = .ok (.iload_n 3, 1) := by decide +kernel
theorem dL_law_585 : decode cL_law 585 = .ok (.iconst 1, 1) := by decide +kernel
theorem dL_law_586 : decode cL_law 586 = .ok (.iadd, 1) := by decide +kernel
theorem dL_law_587 : decode cL_law 587 = .ok (.iaload, 1) := by decide +kernel
theorem dL_law_588 : decode cL_law 588 = .ok (.aload_n 0, 1) := by decide +kernel
theorem dL_law_589 : decode cL_law 589 = .ok (.iload_n 3, 1) := by decide +kernel
theorem dL_law_590 : decode cL_law 590 = .ok (.iconst 2, 1) := by decide +kernel
theorem dL_law_591 : decode cL_law 591 = .ok (.iadd, 1) := by decide +kernel
theorem dL_law_592 : decode cL_law 592 = .ok (.iaload, 1) := by decide +kernel
theorem dL_law_593 : decode cL_law 593 = .ok (.aload_n 0, 1) := by decide +kernel
theorem dL_law_594 : decode cL_law 594 = .ok (.iload_n 3, 1) := by decide +kernel
theorem dL_law_595 : decode cL_law 595 = .ok (.iconst 3, 1) := by decide +kernel
theorem dL_law_596 : decode cL_law 596 = .ok (.iadd, 1) := by decide +kernel
theorem dL_law_597 : decode cL_law 597 = .ok (.iaload, 1) := by decide +kernel
theorem dL_law_598 : decode cL_law 598 = .ok (.aload_n 0, 1) := by decide +kernel
theorem dL_law_599 : decode cL_law 599 = .ok (.iload_n 3, 1) := by decide +kernel
theorem dL_law_600 : decode cL_law 600 = .ok (.iconst 4, 1) := by decide +kernel
theorem dL_law_601 : decode cL_law 601 = .ok (.iadd, 1) := by decide +kernel
theorem dL_law_602 : decode cL_law 602 = .ok (.iaload, 1) := by decide +kernel
theorem dL_law_603 : decode cL_law 603 = .ok (.aload_n 0, 1) := by decide +kernel
theorem dL_law_604 : decode cL_law 604 = .ok (.iload_n 3, 1) := by decide +kernel
theorem dL_law_605 : decode cL_law 605 = .ok (.iconst 5, 1) := by decide +kernel
theorem dL_law_606 : decode cL_law 606 = .ok (.iadd, 1) := by decide +kernel
theorem dL_law_607 : decode cL_law 607 = .ok (.iaload, 1) := by decide +kernel
theorem dL_law_608 : decode cL_law 608 = .ok (.aload_n 0, 1) := by decide +kernel
theorem dL_law_609 : decode cL_law 609 = .ok (.iload_n 3, 1) := by decide +kernel
theorem dL_law_610 : decode cL_law 610 = .ok (.bipush 6, 2) := by decide +kernel
theorem dL_law_612 : decode cL_law 612 = .ok (.iadd, 1) := by decide +kernel
theorem dL_law_613 : decode cL_law 613 = .ok (.iaload, 1) := by decide +kernel
theorem dL_law_614 : decode cL_law 614 = .ok (.invokevirtual 70, 3) := by decide +kernel
theorem dL_law_617 : decode cL_law 617 = .ok (.aload_n 2, 1) := by decide +kernel
theorem dL_law_618 : decode cL_law 618 = .ok (.aload_n 0, 1) := by decide +kernel
theorem dL_law_619 : decode cL_law 619 = .ok (.iload_n 3, 1) := by decide +kernel
theorem dL_law_620 : decode cL_law 620 = .ok (.iconst 1, 1) := by decide +kernel
theorem dL_law_621 : decode cL_law 621 = .ok (.iadd, 1) := by decide +kernel
theorem dL_law_622 : decode cL_law 622 = .ok (.iaload, 1) := by decide +kernel
theorem dL_law_623 : decode cL_law 623 = .ok (.aload_n 0, 1) := by decide +kernel
theorem dL_law_624 : decode cL_law 624 = .ok (.iload_n 3, 1) := by decide +kernel
theorem dL_law_625 : decode cL_law 625 = .ok (.iconst 2, 1) := by decide +kernel
theorem dL_law_626 : decode cL_law 626 = .ok (.iadd, 1) := by decide +kernel
theorem dL_law_627 : decode cL_law 627 = .ok (.iaload, 1) := by decide +kernel
theorem dL_law_628 : decode cL_law 628 = .ok (.aload_n 0, 1) := by decide +kernel
theorem dL_law_629 : decode cL_law 629 = .ok (.iload_n 3, 1) := by decide +kernel
theorem dL_law_630 : decode cL_law 630 = .ok (.iconst 3, 1) := by decide +kernel
theorem dL_law_631 : decode cL_law 631 = .ok (.iadd, 1) := by decide +kernel
theorem dL_law_632 : decode cL_law 632 = .ok (.iaload, 1) := by decide +kernel
theorem dL_law_633 : decode cL_law 633 = .ok (.aload_n 0, 1) := by decide +kernel
theorem dL_law_634 : decode cL_law 634 = .ok (.iload_n 3, 1) := by decide +kernel
theorem dL_law_635 : decode cL_law 635 = .ok (.iconst 4, 1) := by decide +kernel
theorem dL_law_636 : decode cL_law 636 = .ok (.iadd, 1) := by decide +kernel
theorem dL_law_637 : decode cL_law 637 = .ok (.iaload, 1) := by decide +kernel
theorem dL_law_638 : decode cL_law 638 = .ok (.aload_n 0, 1) := by decide +kernel
theorem dL_law_639 : decode cL_law 639 = .ok (.iload_n 3, 1) := by decide +kernel
theorem dL_law_640 : decode cL_law 640 = .ok (.iconst 5, 1) := by decide +kernel
theorem dL_law_641 : decode cL_law 641 = .ok (.iadd, 1) := by decide +kernel
theorem dL_law_642 : decode cL_law 642 = .ok (.iaload, 1) := by decide +kernel
theorem dL_law_643 : decode cL_law 643 = .ok (.aload_n 0, 1) := by decide +kernel
theorem dL_law_644 : decode cL_law 644 = .ok (.iload_n 3, 1) := by decide +kernel
theorem dL_law_645 : decode cL_law 645 = .ok (.bipush 6, 2) := by decide +kernel
theorem dL_law_647 : decode cL_law 647 = .ok (.iadd, 1) := by decide +kernel
theorem dL_law_648 : decode cL_law 648 = .ok (.iaload, 1) := by decide +kernel
theorem dL_law_649 : decode cL_law 649 = .ok (.invokevirtual 74, 3) := by decide +kernel
theorem dL_law_652 : decode cL_law 652 = .ok (.if_icmp .eq 568, 3) := by decide +kernel
theorem dL_law_655 : decode cL_law 655 = .ok (.iconst 0, 1) := by decide +kernel
theorem dL_law_656 : decode cL_law 656 = .ok (.ireturn, 1) := by decide +kernel
theorem dL_law_657 : decode cL_law 657 = .ok (.aload_n 1, 1) := by decide +kernel
theorem dL_law_658 : decode cL_law 658 = .ok (.aload_n 0, 1) := by decide +kernel
theorem dL_law_659 : decode cL_law 659 = .ok (.iload_n 3, 1) := by decide +kernel
theorem dL_law_660 : decode cL_law 660 = .ok (.iconst 1, 1) := by decide +kernel
theorem dL_law_661 : decode cL_law 661 = .ok (.iadd, 1) := by decide +kernel
theorem dL_law_662 : decode cL_law 662 = .ok (.iaload, 1) := by decide +kernel
theorem dL_law_663 : decode cL_law 663 = .ok (.aload_n 0, 1) := by decide +kernel
theorem dL_law_664 : decode cL_law 664 = .ok (.iload_n 3, 1) := by decide +kernel
theorem dL_law_665 : decode cL_law 665 = .ok (.iconst 2, 1) := by decide +kernel
theorem dL_law_666 : decode cL_law 666 = .ok (.iadd, 1) := by decide +kernel
theorem dL_law_667 : decode cL_law 667 = .ok (.iaload, 1) := by decide +kernel
theorem dL_law_668 : decode cL_law 668 = .ok (.aload_n 0, 1) := by decide +kernel
theorem dL_law_669 : decode cL_law 669 = .ok (.iload_n 3, 1) := by decide +kernel
theorem dL_law_670 : decode cL_law 670 = .ok (.iconst 3, 1) := by decide +kernel
theorem dL_law_671 : decode cL_law 671 = .ok (.iadd, 1) := by decide +kernel
theorem dL_law_672 : decode cL_law 672 = .ok (.iaload, 1) := by decide +kernel
theorem dL_law_673 : decode cL_law 673 = .ok (.aload_n 0, 1) := by decide +kernel
theorem dL_law_674 : decode cL_law 674 = .ok (.iload_n 3, 1) := by decide +kernel
theorem dL_law_675 : decode cL_law 675 = .ok (.iconst 4, 1) := by decide +kernel
theorem dL_law_676 : decode cL_law 676 = .ok (.iadd, 1) := by decide +kernel
theorem dL_law_677 : decode cL_law 677 = .ok (.iaload, 1) := by decide +kernel
theorem dL_law_678 : decode cL_law 678 = .ok (.aload_n 0, 1) := by decide +kernel
theorem dL_law_679 : decode cL_law 679 = .ok (.iload_n 3, 1) := by decide +kernel
theorem dL_law_680 : decode cL_law 680 = .ok (.iconst 5, 1) := by decide +kernel
theorem dL_law_681 : decode cL_law 681 = .ok (.iadd, 1) := by decide +kernel
theorem dL_law_682 : decode cL_law 682 = .ok (.iaload, 1) := by decide +kernel
theorem dL_law_683 : decode cL_law 683 = .ok (.invokevirtual 75, 3) := by decide +kernel
theorem dL_law_686 : decode cL_law 686 = .ok (.aload_n 2, 1) := by decide +kernel
theorem dL_law_687 : decode cL_law 687 = .ok (.aload_n 0, 1) := by decide +kernel
theorem dL_law_688 : decode cL_law 688 = .ok (.iload_n 3, 1) := by decide +kernel
theorem dL_law_689 : decode cL_law 689 = .ok (.iconst 1, 1) := by decide +kernel
theorem dL_law_690 : decode cL_law 690 = .ok (.iadd, 1) := by decide +kernel
theorem dL_law_691 : decode cL_law 691 = .ok (.iaload, 1) := by decide +kernel
theorem dL_law_692 : decode cL_law 692 = .ok (.aload_n 0, 1) := by decide +kernel
theorem dL_law_693 : decode cL_law 693 = .ok (.iload_n 3, 1) := by decide +kernel
theorem dL_law_694 : decode cL_law 694 = .ok (.iconst 2, 1) := by decide +kernel
theorem dL_law_695 : decode cL_law 695 = .ok (.iadd, 1) := by decide +kernel
theorem dL_law_696 : decode cL_law 696 = .ok (.iaload, 1) := by decide +kernel
theorem dL_law_697 : decode cL_law 697 = .ok (.aload_n 0, 1) := by decide +kernel
theorem dL_law_698 : decode cL_law 698 = .ok (.iload_n 3, 1) := by decide +kernel
theorem dL_law_699 : decode cL_law 699 = .ok (.iconst 3, 1) := by decide +kernel
theorem dL_law_700 : decode cL_law 700 = .ok (.iadd, 1) := by decide +kernel
theorem dL_law_701 : decode cL_law 701 = .ok (.iaload, 1) := by decide +kernel
theorem dL_law_702 : decode cL_law 702 = .ok (.aload_n 0, 1) := by decide +kernel
theorem dL_law_703 : decode cL_law 703 = .ok (.iload_n 3, 1) := by decide +kernel
theorem dL_law_704 : decode cL_law 704 = .ok (.iconst 4, 1) := by decide +kernel
theorem dL_law_705 : decode cL_law 705 = .ok (.iadd, 1) := by decide +kernel
theorem dL_law_706 : decode cL_law 706 = .ok (.iaload, 1) := by decide +kernel
theorem dL_law_707 : decode cL_law 707 = .ok (.aload_n 0, 1) := by decide +kernel
theorem dL_law_708 : decode cL_law 708 = .ok (.iload_n 3, 1) := by decide +kernel
theorem dL_law_709 : decode cL_law 709 = .ok (.iconst 5, 1) := by decide +kernel
theorem dL_law_710 : decode cL_law 710 = .ok (.iadd, 1) := by decide +kernel
theorem dL_law_711 : decode cL_law 711 = .ok (.iaload, 1) := by decide +kernel
theorem dL_law_712 : decode cL_law 712 = .ok (.invokevirtual 78, 3) := by decide +kernel
theorem dL_law_715 : decode cL_law 715 = .ok (.if_icmp .eq 505, 3) := by decide +kernel
theorem dL_law_718 : decode cL_law 718 = .ok (.iconst 0, 1) := by decide +kernel
theorem dL_law_719 : decode cL_law 719 = .ok (.ireturn, 1) := by decide +kernel
theorem dL_law_720 : decode cL_law 720 = .ok (.aload_n 1, 1) := by decide +kernel
theorem dL_law_721 : decode cL_law 721 = .ok (.aload_n 0, 1) := by decide +kernel
theorem dL_law_722 : decode cL_law 722 = .ok (.iload_n 3, 1) := by decide +kernel
theorem dL_law_723 : decode cL_law 723 = .ok (.iconst 1, 1) := by decide +kernel
theorem dL_law_724 : decode cL_law 724 = .ok (.iadd, 1) := by decide +kernel
theorem dL_law_725 : decode cL_law 725 = .ok (.iaload, 1) := by decide +kernel
theorem dL_law_726 : decode cL_law 726 = .ok (.aload_n 0, 1) := by decide +kernel
theorem dL_law_727 : decode cL_law 727 = .ok (.iload_n 3, 1) := by decide +kernel
theorem dL_law_728 : decode cL_law 728 = .ok (.iconst 2, 1) := by decide +kernel
theorem dL_law_729 : decode cL_law 729 = .ok (.iadd, 1) := by decide +kernel
theorem dL_law_730 : decode cL_law 730 = .ok (.iaload, 1) := by decide +kernel
theorem dL_law_731 : decode cL_law 731 = .ok (.aload_n 0, 1) := by decide +kernel
theorem dL_law_732 : decode cL_law 732 = .ok (.iload_n 3, 1) := by decide +kernel
theorem dL_law_733 : decode cL_law 733 = .ok (.iconst 3, 1) := by decide +kernel
theorem dL_law_734 : decode cL_law 734 = .ok (.iadd, 1) := by decide +kernel
theorem dL_law_735 : decode cL_law 735 = .ok (.iaload, 1) := by decide +kernel
theorem dL_law_736 : decode cL_law 736 = .ok (.invokevirtual 79, 3) := by decide +kernel
theorem dL_law_739 : decode cL_law 739 = .ok (.aload_n 2, 1) := by decide +kernel
theorem dL_law_740 : decode cL_law 740 = .ok (.aload_n 0, 1) := by decide +kernel
theorem dL_law_741 : decode cL_law 741 = .ok (.iload_n 3, 1) := by decide +kernel
theorem dL_law_742 : decode cL_law 742 = .ok (.iconst 1, 1) := by decide +kernel
theorem dL_law_743 : decode cL_law 743 = .ok (.iadd, 1) := by decide +kernel
theorem dL_law_744 : decode cL_law 744 = .ok (.iaload, 1) := by decide +kernel
theorem dL_law_745 : decode cL_law 745 = .ok (.aload_n 0, 1) := by decide +kernel
theorem dL_law_746 : decode cL_law 746 = .ok (.iload_n 3, 1) := by decide +kernel
theorem dL_law_747 : decode cL_law 747 = .ok (.iconst 2, 1) := by decide +kernel
theorem dL_law_748 : decode cL_law 748 = .ok (.iadd, 1) := by decide +kernel
theorem dL_law_749 : decode cL_law 749 = .ok (.iaload, 1) := by decide +kernel
theorem dL_law_750 : decode cL_law 750 = .ok (.aload_n 0, 1) := by decide +kernel
theorem dL_law_751 : decode cL_law 751 = .ok (.iload_n 3, 1) := by decide +kernel
theorem dL_law_752 : decode cL_law 752 = .ok (.iconst 3, 1) := by decide +kernel
theorem dL_law_753 : decode cL_law 753 = .ok (.iadd, 1) := by decide +kernel
theorem dL_law_754 : decode cL_law 754 = .ok (.iaload, 1) := by decide +kernel
theorem dL_law_755 : decode cL_law 755 = .ok (.invokevirtual 83, 3) := by decide +kernel
theorem dL_law_758 : decode cL_law 758 = .ok (.if_icmp .eq 462, 3) := by decide +kernel
theorem dL_law_761 : decode cL_law 761 = .ok (.iconst 0, 1) := by decide +kernel
theorem dL_law_762 : decode cL_law 762 = .ok (.ireturn, 1) := by decide +kernel
theorem dL_law_763 : decode cL_law 763 = .ok (.aload_n 1, 1) := by decide +kernel
theorem dL_law_764 : decode cL_law 764 = .ok (.aload_n 0, 1) := by decide +kernel
theorem dL_law_765 : decode cL_law 765 = .ok (.iload_n 3, 1) := by decide +kernel
theorem dL_law_766 : decode cL_law 766 = .ok (.iconst 1, 1) := by decide +kernel
theorem dL_law_767 : decode cL_law 767 = .ok (.iadd, 1) := by decide +kernel
theorem dL_law_768 : decode cL_law 768 = .ok (.iaload, 1) := by decide +kernel
theorem dL_law_769 : decode cL_law 769 = .ok (.invokevirtual 84, 3) := by decide +kernel
theorem dL_law_772 : decode cL_law 772 = .ok (.aload_n 2, 1) := by decide +kernel
theorem dL_law_773 : decode cL_law 773 = .ok (.aload_n 0, 1) := by decide +kernel
theorem dL_law_774 : decode cL_law 774 = .ok (.iload_n 3, 1) := by decide +kernel
theorem dL_law_775 : decode cL_law 775 = .ok (.iconst 1, 1) := by decide +kernel
theorem dL_law_776 : decode cL_law 776 = .ok (.iadd, 1) := by decide +kernel
theorem dL_law_777 : decode cL_law 777 = .ok (.iaload, 1) := by decide +kernel
theorem dL_law_778 : decode cL_law 778 = .ok (.invokevirtual 87, 3) := by decide +kernel
theorem dL_law_781 : decode cL_law 781 = .ok (.if_icmp .eq 439, 3) := by decide +kernel
theorem dL_law_784 : decode cL_law 784 = .ok (.iconst 0, 1) := by decide +kernel
theorem dL_law_785 : decode cL_law 785 = .ok (.ireturn, 1) := by decide +kernel
theorem dL_law_786 : decode cL_law 786 = .ok (.aload_n 1, 1) := by decide +kernel
theorem dL_law_787 : decode cL_law 787 = .ok (.aload_n 0, 1) := by decide +kernel
theorem dL_law_788 : decode cL_law 788 = .ok (.iload_n 3, 1) := by decide +kernel
theorem dL_law_789 : decode cL_law 789 = .ok (.iconst 1, 1) := by decide +kernel
theorem dL_law_790 : decode cL_law 790 = .ok (.iadd, 1) := by decide +kernel
theorem dL_law_791 : decode cL_law 791 = .ok (.iaload, 1) := by decide +kernel
theorem dL_law_792 : decode cL_law 792 = .ok (.invokevirtual 88, 3) := by decide +kernel
theorem dL_law_795 : decode cL_law 795 = .ok (.aload_n 2, 1) := by decide +kernel
theorem dL_law_796 : decode cL_law 796 = .ok (.aload_n 0, 1) := by decide +kernel
theorem dL_law_797 : decode cL_law 797 = .ok (.iload_n 3, 1) := by decide +kernel
theorem dL_law_798 : decode cL_law 798 = .ok (.iconst 1, 1) := by decide +kernel
theorem dL_law_799 : decode cL_law 799 = .ok (.iadd, 1) := by decide +kernel
theorem dL_law_800 : decode cL_law 800 = .ok (.iaload, 1) := by decide +kernel
theorem dL_law_801 : decode cL_law 801 = .ok (.invokevirtual 91, 3) := by decide +kernel
theorem dL_law_804 : decode cL_law 804 = .ok (.if_icmp .eq 416, 3) := by decide +kernel
theorem dL_law_807 : decode cL_law 807 = .ok (.iconst 0, 1) := by decide +kernel
theorem dL_law_808 : decode cL_law 808 = .ok (.ireturn, 1) := by decide +kernel
theorem dL_law_809 : decode cL_law 809 = .ok (.aload_n 1, 1) := by decide +kernel
theorem dL_law_810 : decode cL_law 810 = .ok (.aload_n 0, 1) := by decide +kernel
theorem dL_law_811 : decode cL_law 811 = .ok (.iload_n 3, 1) := by decide +kernel
theorem dL_law_812 : decode cL_law 812 = .ok (.iconst 1, 1) := by decide +kernel
theorem dL_law_813 : decode cL_law 813 = .ok (.iadd, 1) := by decide +kernel
theorem dL_law_814 : decode cL_law 814 = .ok (.iaload, 1) := by decide +kernel
theorem dL_law_815 : decode cL_law 815 = .ok (.invokevirtual 92, 3) := by decide +kernel
theorem dL_law_818 : decode cL_law 818 = .ok (.aload_n 2, 1) := by decide +kernel
theorem dL_law_819 : decode cL_law 819 = .ok (.aload_n 0, 1) := by decide +kernel
theorem dL_law_820 : decode cL_law 820 = .ok (.iload_n 3, 1) := by decide +kernel
theorem dL_law_821 : decode cL_law 821 = .ok (.iconst 1, 1) := by decide +kernel
theorem dL_law_822 : decode cL_law 822 = .ok (.iadd, 1) := by decide +kernel
theorem dL_law_823 : decode cL_law 823 = .ok (.iaload, 1) := by decide +kernel
theorem dL_law_824 : decode cL_law 824 = .ok (.invokevirtual 95, 3) := by decide +kernel
theorem dL_law_827 : decode cL_law 827 = .ok (.if_icmp .eq 393, 3) := by decide +kernel
theorem dL_law_830 : decode cL_law 830 = .ok (.iconst 0, 1) := by decide +kernel
theorem dL_law_831 : decode cL_law 831 = .ok (.ireturn, 1) := by decide +kernel
theorem dL_law_832 : decode cL_law 832 = .ok (.aload_n 1, 1) := by decide +kernel
theorem dL_law_833 : decode cL_law 833 = .ok (.aload_n 0, 1) := by decide +kernel
theorem dL_law_834 : decode cL_law 834 = .ok (.iload_n 3, 1) := by decide +kernel
theorem dL_law_835 : decode cL_law 835 = .ok (.iconst 1, 1) := by decide +kernel
theorem dL_law_836 : decode cL_law 836 = .ok (.iadd, 1) := by decide +kernel
theorem dL_law_837 : decode cL_law 837 = .ok (.iaload, 1) := by decide +kernel
theorem dL_law_838 : decode cL_law 838 = .ok (.aload_n 0, 1) := by decide +kernel
theorem dL_law_839 : decode cL_law 839 = .ok (.iload_n 3, 1) := by decide +kernel
theorem dL_law_840 : decode cL_law 840 = .ok (.iconst 2, 1) := by decide +kernel
theorem dL_law_841 : decode cL_law 841 = .ok (.iadd, 1) := by decide +kernel
theorem dL_law_842 : decode cL_law 842 = .ok (.iaload, 1) := by decide +kernel
theorem dL_law_843 : decode cL_law 843 = .ok (.aload_n 0, 1) := by decide +kernel
theorem dL_law_844 : decode cL_law 844 = .ok (.iload_n 3, 1) := by decide +kernel
theorem dL_law_845 : decode cL_law 845 = .ok (.iconst 3, 1) := by decide +kernel
theorem dL_law_846 : decode cL_law 846 = .ok (.iadd, 1) := by decide +kernel
theorem dL_law_847 : decode cL_law 847 = .ok (.iaload, 1) := by decide +kernel
theorem dL_law_848 : decode cL_law 848 = .ok (.invokevirtual 96, 3) := by decide +kernel
theorem dL_law_851 : decode cL_law 851 = .ok (.aload_n 2, 1) := by decide +kernel
theorem dL_law_852 : decode cL_law 852 = .ok (.aload_n 0, 1) := by decide +kernel
theorem dL_law_853 : decode cL_law 853 = .ok (.iload_n 3, 1) := by decide +kernel
theorem dL_law_854 : decode cL_law 854 = .ok (.iconst 1, 1) := by decide +kernel
theorem dL_law_855 : decode cL_law 855 = .ok (.iadd, 1) := by decide +kernel
theorem dL_law_856 : decode cL_law 856 = .ok (.iaload, 1) := by decide +kernel
theorem dL_law_857 : decode cL_law 857 = .ok (.aload_n 0, 1) := by decide +kernel
theorem dL_law_858 : decode cL_law 858 = .ok (.iload_n 3, 1) := by decide +kernel
theorem dL_law_859 : decode cL_law 859 = .ok (.iconst 2, 1) := by decide +kernel
theorem dL_law_860 : decode cL_law 860 = .ok (.iadd, 1) := by decide +kernel
theorem dL_law_861 : decode cL_law 861 = .ok (.iaload, 1) := by decide +kernel
theorem dL_law_862 : decode cL_law 862 = .ok (.aload_n 0, 1) := by decide +kernel
theorem dL_law_863 : decode cL_law 863 = .ok (.iload_n 3, 1) := by decide +kernel
theorem dL_law_864 : decode cL_law 864 = .ok (.iconst 3, 1) := by decide +kernel
theorem dL_law_865 : decode cL_law 865 = .ok (.iadd, 1) := by decide +kernel
theorem dL_law_866 : decode cL_law 866 = .ok (.iaload, 1) := by decide +kernel
theorem dL_law_867 : decode cL_law 867 = .ok (.invokevirtual 100, 3) := by decide +kernel
theorem dL_law_870 : decode cL_law 870 = .ok (.lcmp, 1) := by decide +kernel
theorem dL_law_871 : decode cL_law 871 = .ok (.ifCond .eq 349, 3) := by decide +kernel
theorem dL_law_874 : decode cL_law 874 = .ok (.iconst 0, 1) := by decide +kernel
theorem dL_law_875 : decode cL_law 875 = .ok (.ireturn, 1) := by decide +kernel
theorem dL_law_876 : decode cL_law 876 = .ok (.aload_n 1, 1) := by decide +kernel
theorem dL_law_877 : decode cL_law 877 = .ok (.aload_n 0, 1) := by decide +kernel
theorem dL_law_878 : decode cL_law 878 = .ok (.iload_n 3, 1) := by decide +kernel
theorem dL_law_879 : decode cL_law 879 = .ok (.iconst 1, 1) := by decide +kernel
theorem dL_law_880 : decode cL_law 880 = .ok (.iadd, 1) := by decide +kernel
theorem dL_law_881 : decode cL_law 881 = .ok (.iaload, 1) := by decide +kernel
theorem dL_law_882 : decode cL_law 882 = .ok (.aload_n 0, 1) := by decide +kernel
theorem dL_law_883 : decode cL_law 883 = .ok (.iload_n 3, 1) := by decide +kernel
theorem dL_law_884 : decode cL_law 884 = .ok (.iconst 2, 1) := by decide +kernel
theorem dL_law_885 : decode cL_law 885 = .ok (.iadd, 1) := by decide +kernel
theorem dL_law_886 : decode cL_law 886 = .ok (.iaload, 1) := by decide +kernel
theorem dL_law_887 : decode cL_law 887 = .ok (.aload_n 0, 1) := by decide +kernel
theorem dL_law_888 : decode cL_law 888 = .ok (.iload_n 3, 1) := by decide +kernel
theorem dL_law_889 : decode cL_law 889 = .ok (.iconst 3, 1) := by decide +kernel
theorem dL_law_890 : decode cL_law 890 = .ok (.iadd, 1) := by decide +kernel
theorem dL_law_891 : decode cL_law 891 = .ok (.iaload, 1) := by decide +kernel
theorem dL_law_892 : decode cL_law 892 = .ok (.invokevirtual 101, 3) := by decide +kernel
theorem dL_law_895 : decode cL_law 895 = .ok (.aload_n 2, 1) := by decide +kernel
theorem dL_law_896 : decode cL_law 896 = .ok (.aload_n 0, 1) := by decide +kernel
theorem dL_law_897 : decode cL_law 897 = .ok (.iload_n 3, 1) := by decide +kernel
theorem dL_law_898 : decode cL_law 898 = .ok (.iconst 1, 1) := by decide +kernel
theorem dL_law_899 : decode cL_law 899 = .ok (.iadd, 1) := by decide +kernel
theorem dL_law_900 : decode cL_law 900 = .ok (.iaload, 1) := by decide +kernel
theorem dL_law_901 : decode cL_law 901 = .ok (.aload_n 0, 1) := by decide +kernel
theorem dL_law_902 : decode cL_law 902 = .ok (.iload_n 3, 1) := by decide +kernel
theorem dL_law_903 : decode cL_law 903 = .ok (.iconst 2, 1) := by decide +kernel
theorem dL_law_904 : decode cL_law 904 = .ok (.iadd, 1) := by decide +kernel
theorem dL_law_905 : decode cL_law 905 = .ok (.iaload, 1) := by decide +kernel
theorem dL_law_906 : decode cL_law 906 = .ok (.aload_n 0, 1) := by decide +kernel
theorem dL_law_907 : decode cL_law 907 = .ok (.iload_n 3, 1) := by decide +kernel
theorem dL_law_908 : decode cL_law 908 = .ok (.iconst 3, 1) := by decide +kernel
theorem dL_law_909 : decode cL_law 909 = .ok (.iadd, 1) := by decide +kernel
theorem dL_law_910 : decode cL_law 910 = .ok (.iaload, 1) := by decide +kernel
theorem dL_law_911 : decode cL_law 911 = .ok (.invokevirtual 104, 3) := by decide +kernel
theorem dL_law_914 : decode cL_law 914 = .ok (.if_icmp .eq 306, 3) := by decide +kernel
theorem dL_law_917 : decode cL_law 917 = .ok (.iconst 0, 1) := by decide +kernel
theorem dL_law_918 : decode cL_law 918 = .ok (.ireturn, 1) := by decide +kernel
theorem dL_law_919 : decode cL_law 919 = .ok (.aload_n 1, 1) := by decide +kernel
theorem dL_law_920 : decode cL_law 920 = .ok (.aload_n 0, 1) := by decide +kernel
theorem dL_law_921 : decode cL_law 921 = .ok (.iload_n 3, 1) := by decide +kernel
theorem dL_law_922 : decode cL_law 922 = .ok (.iconst 1, 1) := by decide +kernel
theorem dL_law_923 : decode cL_law 923 = .ok (.iadd, 1) := by decide +kernel
theorem dL_law_924 : decode cL_law 924 = .ok (.iaload, 1) := by decide +kernel
theorem dL_law_925 : decode cL_law 925 = .ok (.invokevirtual 105, 3) := by decide +kernel
theorem dL_law_928 : decode cL_law 928 = .ok (.aload_n 2, 1) := by decide +kernel
theorem dL_law_929 : decode cL_law 929 = .ok (.aload_n 0, 1) := by decide +kernel
theorem dL_law_930 : decode cL_law 930 = .ok (.iload_n 3, 1) := by decide +kernel
theorem dL_law_931 : decode cL_law 931 = .ok (.iconst 1, 1) := by decide +kernel
theorem dL_law_932 : decode cL_law 932 = .ok (.iadd, 1) := by decide +kernel
theorem dL_law_933 : decode cL_law 933 = .ok (.iaload, 1) := by decide +kernel
theorem dL_law_934 : decode cL_law 934 = .ok (.invokevirtual 108, 3) := by decide +kernel
theorem dL_law_937 : decode cL_law 937 = .ok (.if_icmp .eq 283, 3) := by decide +kernel
theorem dL_law_940 : decode cL_law 940 = .ok (.iconst 0, 1) := by decide +kernel
theorem dL_law_941 : decode cL_law 941 = .ok (.ireturn, 1) := by decide +kernel
theorem dL_law_942 : decode cL_law 942 = .ok (.aload_n 1, 1) := by decide +kernel
theorem dL_law_943 : decode cL_law 943 = .ok (.aload_n 0, 1) := by decide +kernel
theorem dL_law_944 : decode cL_law 944 = .ok (.iload_n 3, 1) := by decide +kernel
theorem dL_law_945 : decode cL_law 945 = .ok (.iconst 1, 1) := by decide +kernel
theorem dL_law_946 : decode cL_law 946 = .ok (.iadd, 1) := by decide +kernel
theorem dL_law_947 : decode cL_law 947 = .ok (.iaload, 1) := by decide +kernel
theorem dL_law_948 : decode cL_law 948 = .ok (.aload_n 0, 1) := by decide +kernel
theorem dL_law_949 : decode cL_law 949 = .ok (.iload_n 3, 1) := by decide +kernel
theorem dL_law_950 : decode cL_law 950 = .ok (.iconst 2, 1) := by decide +kernel
theorem dL_law_951 : decode cL_law 951 = .ok (.iadd, 1) := by decide +kernel
theorem dL_law_952 : decode cL_law 952 = .ok (.iaload, 1) := by decide +kernel
theorem dL_law_953 : decode cL_law 953 = .ok (.aload_n 0, 1) := by decide +kernel
theorem dL_law_954 : decode cL_law 954 = .ok (.iload_n 3, 1) := by decide +kernel
theorem dL_law_955 : decode cL_law 955 = .ok (.iconst 3, 1) := by decide +kernel
theorem dL_law_956 : decode cL_law 956 = .ok (.iadd, 1) := by decide +kernel
theorem dL_law_957 : decode cL_law 957 = .ok (.iaload, 1) := by decide +kernel
theorem dL_law_958 : decode cL_law 958 = .ok (.invokevirtual 109, 3) := by decide +kernel
theorem dL_law_961 : decode cL_law 961 = .ok (.aload_n 2, 1) := by decide +kernel
theorem dL_law_962 : decode cL_law 962 = .ok (.aload_n 0, 1) := by decide +kernel
theorem dL_law_963 : decode cL_law 963 = .ok (.iload_n 3, 1) := by decide +kernel
theorem dL_law_964 : decode cL_law 964 = .ok (.iconst 1, 1) := by decide +kernel
theorem dL_law_965 : decode cL_law 965 = .ok (.iadd, 1) := by decide +kernel
theorem dL_law_966 : decode cL_law 966 = .ok (.iaload, 1) := by decide +kernel
theorem dL_law_967 : decode cL_law 967 = .ok (.aload_n 0, 1) := by decide +kernel
theorem dL_law_968 : decode cL_law 968 = .ok (.iload_n 3, 1) := by decide +kernel
theorem dL_law_969 : decode cL_law 969 = .ok (.iconst 2, 1) := by decide +kernel
theorem dL_law_970 : decode cL_law 970 = .ok (.iadd, 1) := by decide +kernel
theorem dL_law_971 : decode cL_law 971 = .ok (.iaload, 1) := by decide +kernel
theorem dL_law_972 : decode cL_law 972 = .ok (.aload_n 0, 1) := by decide +kernel
theorem dL_law_973 : decode cL_law 973 = .ok (.iload_n 3, 1) := by decide +kernel
theorem dL_law_974 : decode cL_law 974 = .ok (.iconst 3, 1) := by decide +kernel
theorem dL_law_975 : decode cL_law 975 = .ok (.iadd, 1) := by decide +kernel
theorem dL_law_976 : decode cL_law 976 = .ok (.iaload, 1) := by decide +kernel
theorem dL_law_977 : decode cL_law 977 = .ok (.invokevirtual 112, 3) := by decide +kernel
theorem dL_law_980 : decode cL_law 980 = .ok (.if_icmp .eq 240, 3) := by decide +kernel
theorem dL_law_983 : decode cL_law 983 = .ok (.iconst 0, 1) := by decide +kernel
theorem dL_law_984 : decode cL_law 984 = .ok (.ireturn, 1) := by decide +kernel
theorem dL_law_985 : decode cL_law 985 = .ok (.aload_n 1, 1) := by decide +kernel
theorem dL_law_986 : decode cL_law 986 = .ok (.aload_n 0, 1) := by decide +kernel
theorem dL_law_987 : decode cL_law 987 = .ok (.iload_n 3, 1) := by decide +kernel
theorem dL_law_988 : decode cL_law 988 = .ok (.iconst 1, 1) := by decide +kernel
theorem dL_law_989 : decode cL_law 989 = .ok (.iadd, 1) := by decide +kernel
theorem dL_law_990 : decode cL_law 990 = .ok (.iaload, 1) := by decide +kernel
theorem dL_law_991 : decode cL_law 991 = .ok (.aload_n 0, 1) := by decide +kernel
theorem dL_law_992 : decode cL_law 992 = .ok (.iload_n 3, 1) := by decide +kernel
theorem dL_law_993 : decode cL_law 993 = .ok (.iconst 2, 1) := by decide +kernel
theorem dL_law_994 : decode cL_law 994 = .ok (.iadd, 1) := by decide +kernel
theorem dL_law_995 : decode cL_law 995 = .ok (.iaload, 1) := by decide +kernel
theorem dL_law_996 : decode cL_law 996 = .ok (.aload_n 0, 1) := by decide +kernel
theorem dL_law_997 : decode cL_law 997 = .ok (.iload_n 3, 1) := by decide +kernel
theorem dL_law_998 : decode cL_law 998 = .ok (.iconst 3, 1) := by decide +kernel
theorem dL_law_999 : decode cL_law 999 = .ok (.iadd, 1) := by decide +kernel
theorem dL_law_1000 : decode cL_law 1000 = .ok (.iaload, 1) := by decide +kernel
theorem dL_law_1001 : decode cL_law 1001 = .ok (.invokevirtual 113, 3) := by decide +kernel
theorem dL_law_1004 : decode cL_law 1004 = .ok (.aload_n 2, 1) := by decide +kernel
theorem dL_law_1005 : decode cL_law 1005 = .ok (.aload_n 0, 1) := by decide +kernel
theorem dL_law_1006 : decode cL_law 1006 = .ok (.iload_n 3, 1) := by decide +kernel
theorem dL_law_1007 : decode cL_law 1007 = .ok (.iconst 1, 1) := by decide +kernel
theorem dL_law_1008 : decode cL_law 1008 = .ok (.iadd, 1) := by decide +kernel
theorem dL_law_1009 : decode cL_law 1009 = .ok (.iaload, 1) := by decide +kernel
theorem dL_law_1010 : decode cL_law 1010 = .ok (.aload_n 0, 1) := by decide +kernel
theorem dL_law_1011 : decode cL_law 1011 = .ok (.iload_n 3, 1) := by decide +kernel
theorem dL_law_1012 : decode cL_law 1012 = .ok (.iconst 2, 1) := by decide +kernel
theorem dL_law_1013 : decode cL_law 1013 = .ok (.iadd, 1) := by decide +kernel
theorem dL_law_1014 : decode cL_law 1014 = .ok (.iaload, 1) := by decide +kernel
theorem dL_law_1015 : decode cL_law 1015 = .ok (.aload_n 0, 1) := by decide +kernel
theorem dL_law_1016 : decode cL_law 1016 = .ok (.iload_n 3, 1) := by decide +kernel
theorem dL_law_1017 : decode cL_law 1017 = .ok (.iconst 3, 1) := by decide +kernel
theorem dL_law_1018 : decode cL_law 1018 = .ok (.iadd, 1) := by decide +kernel
theorem dL_law_1019 : decode cL_law 1019 = .ok (.iaload, 1) := by decide +kernel
theorem dL_law_1020 : decode cL_law 1020 = .ok (.invokevirtual 116, 3) := by decide +kernel
theorem dL_law_1023 : decode cL_law 1023 = .ok (.lcmp, 1) := by decide +kernel
theorem dL_law_1024 : decode cL_law 1024 = .ok (.ifCond .eq 196, 3) := by decide +kernel
theorem dL_law_1027 : decode cL_law 1027 = .ok (.iconst 0, 1) := by decide +kernel
theorem dL_law_1028 : decode cL_law 1028 = .ok (.ireturn, 1) := by decide +kernel
theorem dL_law_1029 : decode cL_law 1029 = .ok (.aload_n 1, 1) := by decide +kernel
theorem dL_law_1030 : decode cL_law 1030 = .ok (.aload_n 0, 1) := by decide +kernel
theorem dL_law_1031 : decode cL_law 1031 = .ok (.iload_n 3, 1) := by decide +kernel
theorem dL_law_1032 : decode cL_law 1032 = .ok (.iconst 1, 1) := by decide +kernel
theorem dL_law_1033 : decode cL_law 1033 = .ok (.iadd, 1) := by decide +kernel
theorem dL_law_1034 : decode cL_law 1034 = .ok (.iaload, 1) := by decide +kernel
theorem dL_law_1035 : decode cL_law 1035 = .ok (.aload_n 0, 1) := by decide +kernel
theorem dL_law_1036 : decode cL_law 1036 = .ok (.iload_n 3, 1) := by decide +kernel
theorem dL_law_1037 : decode cL_law 1037 = .ok (.iconst 2, 1) := by decide +kernel
theorem dL_law_1038 : decode cL_law 1038 = .ok (.iadd, 1) := by decide +kernel
theorem dL_law_1039 : decode cL_law 1039 = .ok (.iaload, 1) := by decide +kernel
theorem dL_law_1040 : decode cL_law 1040 = .ok (.aload_n 0, 1) := by decide +kernel
theorem dL_law_1041 : decode cL_law 1041 = .ok (.iload_n 3, 1) := by decide +kernel
theorem dL_law_1042 : decode cL_law 1042 = .ok (.iconst 3, 1) := by decide +kernel
theorem dL_law_1043 : decode cL_law 1043 = .ok (.iadd, 1) := by decide +kernel
theorem dL_law_1044 : decode cL_law 1044 = .ok (.iaload, 1) := by decide +kernel
theorem dL_law_1045 : decode cL_law 1045 = .ok (.aload_n 0, 1) := by decide +kernel
theorem dL_law_1046 : decode cL_law 1046 = .ok (.iload_n 3, 1) := by decide +kernel
theorem dL_law_1047 : decode cL_law 1047 = .ok (.iconst 4, 1) := by decide +kernel
theorem dL_law_1048 : decode cL_law 1048 = .ok (.iadd, 1) := by decide +kernel
theorem dL_law_1049 : decode cL_law 1049 = .ok (.iaload, 1) := by decide +kernel
theorem dL_law_1050 : decode cL_law 1050 = .ok (.aload_n 0, 1) := by decide +kernel
theorem dL_law_1051 : decode cL_law 1051 = .ok (.iload_n 3, 1) := by decide +kernel
theorem dL_law_1052 : decode cL_law 1052 = .ok (.iconst 5, 1) := by decide +kernel
theorem dL_law_1053 : decode cL_law 1053 = .ok (.iadd, 1) := by decide +kernel
theorem dL_law_1054 : decode cL_law 1054 = .ok (.iaload, 1) := by decide +kernel
theorem dL_law_1055 : decode cL_law 1055 = .ok (.invokevirtual 117, 3) := by decide +kernel
theorem dL_law_1058 : decode cL_law 1058 = .ok (.aload_n 2, 1) := by decide +kernel
theorem dL_law_1059 : decode cL_law 1059 = .ok (.aload_n 0, 1) := by decide +kernel
theorem dL_law_1060 : decode cL_law 1060 = .ok (.iload_n 3, 1) := by decide +kernel
theorem dL_law_1061 : decode cL_law 1061 = .ok (.iconst 1, 1) := by decide +kernel
theorem dL_law_1062 : decode cL_law 1062 = .ok (.iadd, 1) := by decide +kernel
theorem dL_law_1063 : decode cL_law 1063 = .ok (.iaload, 1) := by decide +kernel
theorem dL_law_1064 : decode cL_law 1064 = .ok (.aload_n 0, 1) := by decide +kernel
theorem dL_law_1065 : decode cL_law 1065 = .ok (.iload_n 3, 1) := by decide +kernel
theorem dL_law_1066 : decode cL_law 1066 = .ok (.iconst 2, 1) := by decide +kernel
theorem dL_law_1067 : decode cL_law 1067 = .ok (.iadd, 1) := by decide +kernel
theorem dL_law_1068 : decode cL_law 1068 = .ok (.iaload, 1) := by decide +kernel
theorem dL_law_1069 : decode cL_law 1069 = .ok (.aload_n 0, 1) := by decide +kernel
theorem dL_law_1070 : decode cL_law 1070 = .ok (.iload_n 3, 1) := by decide +kernel
theorem dL_law_1071 : decode cL_law 1071 = .ok (.iconst 3, 1) := by decide +kernel
theorem dL_law_1072 : decode cL_law 1072 = .ok (.iadd, 1) := by decide +kernel
theorem dL_law_1073 : decode cL_law 1073 = .ok (.iaload, 1) := by decide +kernel
theorem dL_law_1074 : decode cL_law 1074 = .ok (.aload_n 0, 1) := by decide +kernel
theorem dL_law_1075 : decode cL_law 1075 = .ok (.iload_n 3, 1) := by decide +kernel
theorem dL_law_1076 : decode cL_law 1076 = .ok (.iconst 4, 1) := by decide +kernel
theorem dL_law_1077 : decode cL_law 1077 = .ok (.iadd, 1) := by decide +kernel
theorem dL_law_1078 : decode cL_law 1078 = .ok (.iaload, 1) := by decide +kernel
theorem dL_law_1079 : decode cL_law 1079 = .ok (.aload_n 0, 1) := by decide +kernel
theorem dL_law_1080 : decode cL_law 1080 = .ok (.iload_n 3, 1) := by decide +kernel
theorem dL_law_1081 : decode cL_law 1081 = .ok (.iconst 5, 1) := by decide +kernel
theorem dL_law_1082 : decode cL_law 1082 = .ok (.iadd, 1) := by decide +kernel
theorem dL_law_1083 : decode cL_law 1083 = .ok (.iaload, 1) := by decide +kernel
theorem dL_law_1084 : decode cL_law 1084 = .ok (.invokevirtual 120, 3) := by decide +kernel
theorem dL_law_1087 : decode cL_law 1087 = .ok (.if_icmp .eq 133, 3) := by decide +kernel
theorem dL_law_1090 : decode cL_law 1090 = .ok (.iconst 0, 1) := by decide +kernel
theorem dL_law_1091 : decode cL_law 1091 = .ok (.ireturn, 1) := by decide +kernel
theorem dL_law_1092 : decode cL_law 1092 = .ok (.aload_n 1, 1) := by decide +kernel
theorem dL_law_1093 : decode cL_law 1093 = .ok (.aload_n 0, 1) := by decide +kernel
theorem dL_law_1094 : decode cL_law 1094 = .ok (.iload_n 3, 1) := by decide +kernel
theorem dL_law_1095 : decode cL_law 1095 = .ok (.iconst 1, 1) := by decide +kernel
theorem dL_law_1096 : decode cL_law 1096 = .ok (.iadd, 1) := by decide +kernel
theorem dL_law_1097 : decode cL_law 1097 = .ok (.iaload, 1) := by decide +kernel
theorem dL_law_1098 : decode cL_law 1098 = .ok (.invokevirtual 121, 3) := by decide +kernel
theorem dL_law_1101 : decode cL_law 1101 = .ok (.aload_n 2, 1) := by decide +kernel
theorem dL_law_1102 : decode cL_law 1102 = .ok (.aload_n 0, 1) := by decide +kernel
theorem dL_law_1103 : decode cL_law 1103 = .ok (.iload_n 3, 1) := by decide +kernel
theorem dL_law_1104 : decode cL_law 1104 = .ok (.iconst 1, 1) := by decide +kernel
theorem dL_law_1105 : decode cL_law 1105 = .ok (.iadd, 1) := by decide +kernel
theorem dL_law_1106 : decode cL_law 1106 = .ok (.iaload, 1) := by decide +kernel
theorem dL_law_1107 : decode cL_law 1107 = .ok (.invokevirtual 124, 3) := by decide +kernel
theorem dL_law_1110 : decode cL_law 1110 = .ok (.if_icmp .eq 110, 3) := by decide +kernel
theorem dL_law_1113 : decode cL_law 1113 = .ok (.iconst 0, 1) := by decide +kernel
theorem dL_law_1114 : decode cL_law 1114 = .ok (.ireturn, 1) := by decide +kernel
theorem dL_law_1115 : decode cL_law 1115 = .ok (.aload_n 1, 1) := by decide +kernel
theorem dL_law_1116 : decode cL_law 1116 = .ok (.aload_n 0, 1) := by decide +kernel
theorem dL_law_1117 : decode cL_law 1117 = .ok (.iload_n 3, 1) := by decide +kernel
theorem dL_law_1118 : decode cL_law 1118 = .ok (.iconst 1, 1) := by decide +kernel
theorem dL_law_1119 : decode cL_law 1119 = .ok (.iadd, 1) := by decide +kernel
theorem dL_law_1120 : decode cL_law 1120 = .ok (.iaload, 1) := by decide +kernel
theorem dL_law_1121 : decode cL_law 1121 = .ok (.invokevirtual 125, 3) := by decide +kernel
theorem dL_law_1124 : decode cL_law 1124 = .ok (.aload_n 2, 1) := by decide +kernel
theorem dL_law_1125 : decode cL_law 1125 = .ok (.aload_n 0, 1) := by decide +kernel
theorem dL_law_1126 : decode cL_law 1126 = .ok (.iload_n 3, 1) := by decide +kernel
theorem dL_law_1127 : decode cL_law 1127 = .ok (.iconst 1, 1) := by decide +kernel
theorem dL_law_1128 : decode cL_law 1128 = .ok (.iadd, 1) := by decide +kernel
theorem dL_law_1129 : decode cL_law 1129 = .ok (.iaload, 1) := by decide +kernel
theorem dL_law_1130 : decode cL_law 1130 = .ok (.invokevirtual 128, 3) := by decide +kernel
theorem dL_law_1133 : decode cL_law 1133 = .ok (.if_icmp .eq 87, 3) := by decide +kernel
theorem dL_law_1136 : decode cL_law 1136 = .ok (.iconst 0, 1) := by decide +kernel
theorem dL_law_1137 : decode cL_law 1137 = .ok (.ireturn, 1) := by decide +kernel
theorem dL_law_1138 : decode cL_law 1138 = .ok (.aload_n 1, 1) := by decide +kernel
theorem dL_law_1139 : decode cL_law 1139 = .ok (.aload_n 0, 1) := by decide +kernel
theorem dL_law_1140 : decode cL_law 1140 = .ok (.iload_n 3, 1) := by decide +kernel
theorem dL_law_1141 : decode cL_law 1141 = .ok (.iconst 1, 1) := by decide +kernel
theorem dL_law_1142 : decode cL_law 1142 = .ok (.iadd, 1) := by decide +kernel
theorem dL_law_1143 : decode cL_law 1143 = .ok (.iaload, 1) := by decide +kernel
theorem dL_law_1144 : decode cL_law 1144 = .ok (.aload_n 0, 1) := by decide +kernel
theorem dL_law_1145 : decode cL_law 1145 = .ok (.iload_n 3, 1) := by decide +kernel
theorem dL_law_1146 : decode cL_law 1146 = .ok (.iconst 2, 1) := by decide +kernel
theorem dL_law_1147 : decode cL_law 1147 = .ok (.iadd, 1) := by decide +kernel
theorem dL_law_1148 : decode cL_law 1148 = .ok (.iaload, 1) := by decide +kernel
theorem dL_law_1149 : decode cL_law 1149 = .ok (.invokevirtual 129, 3) := by decide +kernel
theorem dL_law_1152 : decode cL_law 1152 = .ok (.aload_n 2, 1) := by decide +kernel
theorem dL_law_1153 : decode cL_law 1153 = .ok (.aload_n 0, 1) := by decide +kernel
theorem dL_law_1154 : decode cL_law 1154 = .ok (.iload_n 3, 1) := by decide +kernel
theorem dL_law_1155 : decode cL_law 1155 = .ok (.iconst 1, 1) := by decide +kernel
theorem dL_law_1156 : decode cL_law 1156 = .ok (.iadd, 1) := by decide +kernel
theorem dL_law_1157 : decode cL_law 1157 = .ok (.iaload, 1) := by decide +kernel
theorem dL_law_1158 : decode cL_law 1158 = .ok (.aload_n 0, 1) := by decide +kernel
theorem dL_law_1159 : decode cL_law 1159 = .ok (.iload_n 3, 1) := by decide +kernel
theorem dL_law_1160 : decode cL_law 1160 = .ok (.iconst 2, 1) := by decide +kernel
theorem dL_law_1161 : decode cL_law 1161 = .ok (.iadd, 1) := by decide +kernel
theorem dL_law_1162 : decode cL_law 1162 = .ok (.iaload, 1) := by decide +kernel
theorem dL_law_1163 : decode cL_law 1163 = .ok (.invokevirtual 132, 3) := by decide +kernel
theorem dL_law_1166 : decode cL_law 1166 = .ok (.if_icmp .eq 54, 3) := by decide +kernel
theorem dL_law_1169 : decode cL_law 1169 = .ok (.iconst 0, 1) := by decide +kernel
theorem dL_law_1170 : decode cL_law 1170 = .ok (.ireturn, 1) := by decide +kernel
theorem dL_law_1171 : decode cL_law 1171 = .ok (.aload_n 1, 1) := by decide +kernel
theorem dL_law_1172 : decode cL_law 1172 = .ok (.invokevirtual 133, 3) := by decide +kernel
theorem dL_law_1175 : decode cL_law 1175 = .ok (.aload_n 2, 1) := by decide +kernel
theorem dL_law_1176 : decode cL_law 1176 = .ok (.invokevirtual 137, 3) := by decide +kernel
theorem dL_law_1179 : decode cL_law 1179 = .ok (.if_icmp .eq 41, 3) := by decide +kernel
theorem dL_law_1182 : decode cL_law 1182 = .ok (.iconst 0, 1) := by decide +kernel
theorem dL_law_1183 : decode cL_law 1183 = .ok (.ireturn, 1) := by decide +kernel
theorem dL_law_1184 : decode cL_law 1184 = .ok (.aload_n 1, 1) := by decide +kernel
theorem dL_law_1185 : decode cL_law 1185 = .ok (.invokevirtual 138, 3) := by decide +kernel
theorem dL_law_1188 : decode cL_law 1188 = .ok (.aload_n 2, 1) := by decide +kernel
theorem dL_law_1189 : decode cL_law 1189 = .ok (.invokevirtual 141, 3) := by decide +kernel
theorem dL_law_1192 : decode cL_law 1192 = .ok (.if_icmp .eq 28, 3) := by decide +kernel
theorem dL_law_1195 : decode cL_law 1195 = .ok (.iconst 0, 1) := by decide +kernel
theorem dL_law_1196 : decode cL_law 1196 = .ok (.ireturn, 1) := by decide +kernel
theorem dL_law_1197 : decode cL_law 1197 = .ok (.aload_n 1, 1) := by decide +kernel
theorem dL_law_1198 : decode cL_law 1198 = .ok (.aload_n 0, 1) := by decide +kernel
theorem dL_law_1199 : decode cL_law 1199 = .ok (.iload_n 3, 1) := by decide +kernel
theorem dL_law_1200 : decode cL_law 1200 = .ok (.iconst 1, 1) := by decide +kernel
theorem dL_law_1201 : decode cL_law 1201 = .ok (.iadd, 1) := by decide +kernel
theorem dL_law_1202 : decode cL_law 1202 = .ok (.iaload, 1) := by decide +kernel
theorem dL_law_1203 : decode cL_law 1203 = .ok (.invokevirtual 142, 3) := by decide +kernel
theorem dL_law_1206 : decode cL_law 1206 = .ok (.aload_n 2, 1) := by decide +kernel
theorem dL_law_1207 : decode cL_law 1207 = .ok (.aload_n 0, 1) := by decide +kernel
theorem dL_law_1208 : decode cL_law 1208 = .ok (.iload_n 3, 1) := by decide +kernel
theorem dL_law_1209 : decode cL_law 1209 = .ok (.iconst 1, 1) := by decide +kernel
theorem dL_law_1210 : decode cL_law 1210 = .ok (.iadd, 1) := by decide +kernel
theorem dL_law_1211 : decode cL_law 1211 = .ok (.iaload, 1) := by decide +kernel
theorem dL_law_1212 : decode cL_law 1212 = .ok (.invokevirtual 145, 3) := by decide +kernel
theorem dL_law_1215 : decode cL_law 1215 = .ok (.if_icmp .eq 5, 3) := by decide +kernel
theorem dL_law_1218 : decode cL_law 1218 = .ok (.iconst 0, 1) := by decide +kernel
theorem dL_law_1219 : decode cL_law 1219 = .ok (.ireturn, 1) := by decide +kernel
theorem dL_law_1220 : decode cL_law 1220 = .ok (.iinc 3 7, 3) := by decide +kernel
theorem dL_law_1223 : decode cL_law 1223 = .ok (.goto (-1205), 3) := by decide +kernel
theorem dL_law_1226 : decode cL_law 1226 = .ok (.iconst 1, 1) := by decide +kernel
theorem dL_law_1227 : decode cL_law 1227 = .ok (.ireturn, 1) := by decide +kernel
def ZL (L : Nat) (xs : Nat → Int32) : Room → Nat → Nat → State → String → Prop := fun _ B b s _ => va_X b L xs s s.heap ∧ b < B
theorem hZLt {L : Nat} {xs : Nat → Int32} : ∀ R B b s nm, ZL L xs R B b s nm → va_X b L xs s s.heap ∧ b < B := fun _ _ _ _ _ h => h
set_option maxRecDepth 20000 in
theorem tkL_0 (L : Nat) (xs : Nat → Int32) : ∀ q ∈ tbL_0 L xs, xOk (ZL L xs) RL cL_law 4 (some .boolean) pT pY q :=
  fa_c (ok_p (xg_new _ _ _) (x_new (C := RX4) (T := TX4) (N := 6) tyX4 tyX4_ok rfl inX4 kw69 kw70 kw59 (by decide +kernel) rfl (fun _ _ => rfl) dL_law_0)) <|
  fa_c (ok_p (xg_st _ _) (x_dup dL_law_3)) <|
  fa_c (ok_c pT_70 pY_70 (x_callI (n := 0) (ci := 3) rfl rfl kw71 rfl kw72 kw59 kw73 (by decide +kernel) dL_law_4)) <|
  fa_c (ok_p (xg_store _ _ _) (x_astore_n dL_law_7 rfl)) <|
  fa_c (ok_p (xg_new _ _ _) (x_new (C := RX5) (T := TX5) (N := 34) tyX5 tyX5_ok rfl inX5 kw672 kw673 kw63 (by decide +kernel) rfl (fun _ _ => rfl) dL_law_8)) <|
  fa_c (ok_p (xg_st _ _) (x_dup dL_law_11)) <|
  fa_c (ok_c pT_121 pY_121 (x_callI (n := 0) (ci := 4) rfl rfl kw674 rfl kw675 kw63 kw676 (by decide +kernel) dL_law_12)) <|
  fa_c (ok_p (xg_store _ _ _) (x_astore_n dL_law_15 rfl)) <|
  fa_c (ok_p (xg_st _ _) (x_iconst dL_law_16 rfl)) <|
  fa_c (ok_p (xg_store _ _ _) (x_istore_n dL_law_17 rfl)) <|
  fa_c (ok_p (xg_load _ _ _) (x_iload_n dL_law_18 rfl)) <|
  fa_c (ok_p (xg_load _ _ _) (x_aload_n dL_law_19 rfl)) <|
  fa_c (ok_p (xg_slen _ _) (x_slen hZLt dL_law_20)) <|
  fa_c (ok_p (xg_st _ _) (x_bipush dL_law_21 rfl)) <|
  fa_c (ok_p (xg_st _ _) (x_isub dL_law_23)) <|
  fa_c (ok_p (xg_icmp _ _ _) (x_icmp_gt dL_law_24 (by decide))) <|
  fa_c (ok_p (xg_load _ _ _) (x_aload_n dL_law_27 rfl)) <|
  fa_c (ok_p (xg_load _ _ _) (x_iload_n dL_law_28 rfl)) <|
  fa_c (ok_p (xg_sld _ _ _) (x_sld hZLt dL_law_29)) <|
  fa_c (ok_p (xg_st _ _) (x_bipush dL_law_30 rfl)) <|
  fa_c (ok_p (xg_st _ _) (x_iand dL_law_32)) <|
  fa_c (ok_p (xg_sw _ _) (x_tsw dL_law_33 (by decide) (by decide +kernel) (by decide +kernel))) <|
  fa_c (ok_p (xg_load _ _ _) (x_aload_n dL_law_172 rfl)) <|
  fa_c (ok_p (xg_load _ _ _) (x_aload_n dL_law_173 rfl)) <|
  fa_c (ok_p (xg_load _ _ _) (x_iload_n dL_law_174 rfl)) <|
  fa_c (ok_p (xg_st _ _) (x_iconst dL_law_175 rfl)) <|
  fa_c (ok_p (xg_st _ _) (x_iadd dL_law_176)) <|
  fa_c (ok_p (xg_sld _ _ _) (x_sld hZLt dL_law_177)) <|
  fa_c (ok_p (xg_load _ _ _) (x_aload_n dL_law_178 rfl)) <|
  fa_c (ok_p (xg_load _ _ _) (x_iload_n dL_law_179 rfl)) <|
  fa_c (ok_p (xg_st _ _) (x_iconst dL_law_180 rfl)) <|
  fa_c (ok_p (xg_st _ _) (x_iadd dL_law_181)) <|
  fa_c (ok_p (xg_sld _ _ _) (x_sld hZLt dL_law_182)) <|
  fa_c (ok_p (xg_load _ _ _) (x_aload_n dL_law_183 rfl)) <|
  fa_c (ok_p (xg_load _ _ _) (x_iload_n dL_law_184 rfl)) <|
  fa_c (ok_p (xg_st _ _) (x_iconst dL_law_185 rfl)) <|
  fa_c (ok_p (xg_st _ _) (x_iadd dL_law_186)) <|
  fa_c (ok_p (xg_sld _ _ _) (x_sld hZLt dL_law_187)) <|
  fa_c (ok_p (xg_load _ _ _) (x_aload_n dL_law_188 rfl)) <|
  fa_c (ok_p (xg_load _ _ _) (x_iload_n dL_law_189 rfl)) <|
  fa_c (ok_p (xg_st _ _) (x_iconst dL_law_190 rfl)) <|
  fa_c (ok_p (xg_st _ _) (x_iadd dL_law_191)) <|
  fa_c (ok_p (xg_sld _ _ _) (x_sld hZLt dL_law_192)) <|
  fa_c (ok_c pT_71 pY_71 (x_callV (n := 4) (C := RX4) (T := TX4) (N := 6) rfl rfl kw170 kw171 kw172 kw59 kw173 (by decide +kernel) dL_law_193)) <|
  fa_c (ok_p (xg_load _ _ _) (x_aload_n dL_law_196 rfl)) <|
  fa_c (ok_p (xg_load _ _ _) (x_aload_n dL_law_197 rfl)) <|
  fa_c (ok_p (xg_load _ _ _) (x_iload_n dL_law_198 rfl)) <|
  fa_c (ok_p (xg_st _ _) (x_iconst dL_law_199 rfl)) <|
  fa_c (ok_p (xg_st _ _) (x_iadd dL_law_200)) <|
  fa_c (ok_p (xg_sld _ _ _) (x_sld hZLt dL_law_201)) <|
  fa_c (ok_p (xg_load _ _ _) (x_aload_n dL_law_202 rfl)) <|
  fa_c (ok_p (xg_load _ _ _) (x_iload_n dL_law_203 rfl)) <|
  fa_c (ok_p (xg_st _ _) (x_iconst dL_law_204 rfl)) <|
  fa_c (ok_p (xg_st _ _) (x_iadd dL_law_205)) <|
  fa_c (ok_p (xg_sld _ _ _) (x_sld hZLt dL_law_206)) <|
  fa_c (ok_p (xg_load _ _ _) (x_aload_n dL_law_207 rfl)) <|
  fa_c (ok_p (xg_load _ _ _) (x_iload_n dL_law_208 rfl)) <|
  fa_c (ok_p (xg_st _ _) (x_iconst dL_law_209 rfl)) <|
  fa_c (ok_p (xg_st _ _) (x_iadd dL_law_210)) <|
  fa_c (ok_p (xg_sld _ _ _) (x_sld hZLt dL_law_211)) <|
  fa_n
set_option maxRecDepth 20000 in
theorem tkL_1 (L : Nat) (xs : Nat → Int32) : ∀ q ∈ tbL_1 L xs, xOk (ZL L xs) RL cL_law 4 (some .boolean) pT pY q :=
  fa_c (ok_p (xg_load _ _ _) (x_aload_n dL_law_212 rfl)) <|
  fa_c (ok_p (xg_load _ _ _) (x_iload_n dL_law_213 rfl)) <|
  fa_c (ok_p (xg_st _ _) (x_iconst dL_law_214 rfl)) <|
  fa_c (ok_p (xg_st _ _) (x_iadd dL_law_215)) <|
  fa_c (ok_p (xg_sld _ _ _) (x_sld hZLt dL_law_216)) <|
  fa_c (ok_c pT_138 pY_138 (x_callV (n := 4) (C := RX5) (T := TX5) (N := 34) rfl rfl kw781 kw782 kw783 kw63 kw784 (by decide +kernel) dL_law_217)) <|
  fa_c (ok_p (xg_icmp _ _ _) (x_icmp_eq dL_law_220 (by decide))) <|
  fa_c (ok_p (xg_st _ _) (x_iconst dL_law_223 rfl)) <|
  fa_c (ok_r ⟨rfl, dL_law_224⟩) <|
  fa_c (ok_p (xg_load _ _ _) (x_aload_n dL_law_225 rfl)) <|
  fa_c (ok_p (xg_load _ _ _) (x_aload_n dL_law_226 rfl)) <|
  fa_c (ok_p (xg_load _ _ _) (x_iload_n dL_law_227 rfl)) <|
  fa_c (ok_p (xg_st _ _) (x_iconst dL_law_228 rfl)) <|
  fa_c (ok_p (xg_st _ _) (x_iadd dL_law_229)) <|
  fa_c (ok_p (xg_sld _ _ _) (x_sld hZLt dL_law_230)) <|
  fa_c (ok_p (xg_load _ _ _) (x_aload_n dL_law_231 rfl)) <|
  fa_c (ok_p (xg_load _ _ _) (x_iload_n dL_law_232 rfl)) <|
  fa_c (ok_p (xg_st _ _) (x_iconst dL_law_233 rfl)) <|
  fa_c (ok_p (xg_st _ _) (x_iadd dL_law_234)) <|
  fa_c (ok_p (xg_sld _ _ _) (x_sld hZLt dL_law_235)) <|
  fa_c (ok_c pT_72 pY_72 (x_callV (n := 2) (C := RX4) (T := TX4) (N := 6) rfl rfl kw275 kw276 kw277 kw59 kw278 (by decide +kernel) dL_law_236)) <|
  fa_c (ok_p (xg_load _ _ _) (x_aload_n dL_law_239 rfl)) <|
  fa_c (ok_p (xg_load _ _ _) (x_aload_n dL_law_240 rfl)) <|
  fa_c (ok_p (xg_load _ _ _) (x_iload_n dL_law_241 rfl)) <|
  fa_c (ok_p (xg_st _ _) (x_iconst dL_law_242 rfl)) <|
  fa_c (ok_p (xg_st _ _) (x_iadd dL_law_243)) <|
  fa_c (ok_p (xg_sld _ _ _) (x_sld hZLt dL_law_244)) <|
  fa_c (ok_p (xg_load _ _ _) (x_aload_n dL_law_245 rfl)) <|
  fa_c (ok_p (xg_load _ _ _) (x_iload_n dL_law_246 rfl)) <|
  fa_c (ok_p (xg_st _ _) (x_iconst dL_law_247 rfl)) <|
  fa_c (ok_p (xg_st _ _) (x_iadd dL_law_248)) <|
  fa_c (ok_p (xg_sld _ _ _) (x_sld hZLt dL_law_249)) <|
  fa_c (ok_c pT_142 pY_142 (x_callV (n := 2) (C := RX5) (T := TX5) (N := 34) rfl rfl kw839 kw840 kw841 kw63 kw842 (by decide +kernel) dL_law_250)) <|
  fa_c (ok_p (xg_icmp _ _ _) (x_icmp_eq dL_law_253 (by decide))) <|
  fa_c (ok_p (xg_st _ _) (x_iconst dL_law_256 rfl)) <|
  fa_c (ok_r ⟨rfl, dL_law_257⟩) <|
  fa_c (ok_p (xg_load _ _ _) (x_aload_n dL_law_258 rfl)) <|
  fa_c (ok_p (xg_load _ _ _) (x_aload_n dL_law_259 rfl)) <|
  fa_c (ok_p (xg_load _ _ _) (x_iload_n dL_law_260 rfl)) <|
  fa_c (ok_p (xg_st _ _) (x_iconst dL_law_261 rfl)) <|
  fa_c (ok_p (xg_st _ _) (x_iadd dL_law_262)) <|
  fa_c (ok_p (xg_sld _ _ _) (x_sld hZLt dL_law_263)) <|
  fa_c (ok_c pT_73 pY_73 (x_callV (n := 1) (C := RX4) (T := TX4) (N := 6) rfl rfl kw315 kw316 kw317 kw59 kw318 (by decide +kernel) dL_law_264)) <|
  fa_c (ok_p (xg_load _ _ _) (x_aload_n dL_law_267 rfl)) <|
  fa_c (ok_p (xg_load _ _ _) (x_aload_n dL_law_268 rfl)) <|
  fa_c (ok_p (xg_load _ _ _) (x_iload_n dL_law_269 rfl)) <|
  fa_c (ok_p (xg_st _ _) (x_iconst dL_law_270 rfl)) <|
  fa_c (ok_p (xg_st _ _) (x_iadd dL_law_271)) <|
  fa_c (ok_p (xg_sld _ _ _) (x_sld hZLt dL_law_272)) <|
  fa_c (ok_c pT_143 pY_143 (x_callV (n := 1) (C := RX5) (T := TX5) (N := 34) rfl rfl kw851 kw852 kw853 kw63 kw854 (by decide +kernel) dL_law_273)) <|
  fa_c (ok_p (xg_icmp _ _ _) (x_icmp_eq dL_law_276 (by decide))) <|
  fa_c (ok_p (xg_st _ _) (x_iconst dL_law_279 rfl)) <|
  fa_c (ok_r ⟨rfl, dL_law_280⟩) <|
  fa_c (ok_p (xg_load _ _ _) (x_aload_n dL_law_281 rfl)) <|
  fa_c (ok_p (xg_load _ _ _) (x_aload_n dL_law_282 rfl)) <|
  fa_c (ok_p (xg_load _ _ _) (x_iload_n dL_law_283 rfl)) <|
  fa_c (ok_p (xg_st _ _) (x_iconst dL_law_284 rfl)) <|
  fa_c (ok_p (xg_st _ _) (x_iadd dL_law_285)) <|
  fa_c (ok_p (xg_sld _ _ _) (x_sld hZLt dL_law_286)) <|
  fa_c (ok_p (xg_load _ _ _) (x_aload_n dL_law_287 rfl)) <|
  fa_n
set_option maxRecDepth 20000 in
theorem tkL_2 (L : Nat) (xs : Nat → Int32) : ∀ q ∈ tbL_2 L xs, xOk (ZL L xs) RL cL_law 4 (some .boolean) pT pY q :=
  fa_c (ok_p (xg_load _ _ _) (x_iload_n dL_law_288 rfl)) <|
  fa_c (ok_p (xg_st _ _) (x_iconst dL_law_289 rfl)) <|
  fa_c (ok_p (xg_st _ _) (x_iadd dL_law_290)) <|
  fa_c (ok_p (xg_sld _ _ _) (x_sld hZLt dL_law_291)) <|
  fa_c (ok_c pT_74 pY_74 (x_callV (n := 2) (C := RX4) (T := TX4) (N := 6) rfl rfl kw324 kw325 kw326 kw59 kw327 (by decide +kernel) dL_law_292)) <|
  fa_c (ok_p (xg_load _ _ _) (x_aload_n dL_law_295 rfl)) <|
  fa_c (ok_p (xg_load _ _ _) (x_aload_n dL_law_296 rfl)) <|
  fa_c (ok_p (xg_load _ _ _) (x_iload_n dL_law_297 rfl)) <|
  fa_c (ok_p (xg_st _ _) (x_iconst dL_law_298 rfl)) <|
  fa_c (ok_p (xg_st _ _) (x_iadd dL_law_299)) <|
  fa_c (ok_p (xg_sld _ _ _) (x_sld hZLt dL_law_300)) <|
  fa_c (ok_p (xg_load _ _ _) (x_aload_n dL_law_301 rfl)) <|
  fa_c (ok_p (xg_load _ _ _) (x_iload_n dL_law_302 rfl)) <|
  fa_c (ok_p (xg_st _ _) (x_iconst dL_law_303 rfl)) <|
  fa_c (ok_p (xg_st _ _) (x_iadd dL_law_304)) <|
  fa_c (ok_p (xg_sld _ _ _) (x_sld hZLt dL_law_305)) <|
  fa_c (ok_c pT_144 pY_144 (x_callV (n := 2) (C := RX5) (T := TX5) (N := 34) rfl rfl kw859 kw860 kw861 kw63 kw862 (by decide +kernel) dL_law_306)) <|
  fa_c (ok_p (xg_icmp _ _ _) (x_icmp_eq dL_law_309 (by decide))) <|
  fa_c (ok_p (xg_st _ _) (x_iconst dL_law_312 rfl)) <|
  fa_c (ok_r ⟨rfl, dL_law_313⟩) <|
  fa_c (ok_p (xg_load _ _ _) (x_aload_n dL_law_314 rfl)) <|
  fa_c (ok_p (xg_load _ _ _) (x_aload_n dL_law_315 rfl)) <|
  fa_c (ok_p (xg_load _ _ _) (x_iload_n dL_law_316 rfl)) <|
  fa_c (ok_p (xg_st _ _) (x_iconst dL_law_317 rfl)) <|
  fa_c (ok_p (xg_st _ _) (x_iadd dL_law_318)) <|
  fa_c (ok_p (xg_sld _ _ _) (x_sld hZLt dL_law_319)) <|
  fa_c (ok_p (xg_load _ _ _) (x_aload_n dL_law_320 rfl)) <|
  fa_c (ok_p (xg_load _ _ _) (x_iload_n dL_law_321 rfl)) <|
  fa_c (ok_p (xg_st _ _) (x_iconst dL_law_322 rfl)) <|
  fa_c (ok_p (xg_st _ _) (x_iadd dL_law_323)) <|
  fa_c (ok_p (xg_sld _ _ _) (x_sld hZLt dL_law_324)) <|
  fa_c (ok_c pT_75 pY_75 (x_callV (n := 2) (C := RX4) (T := TX4) (N := 6) rfl rfl kw332 kw333 kw334 kw59 kw335 (by decide +kernel) dL_law_325)) <|
  fa_c (ok_p (xg_load _ _ _) (x_aload_n dL_law_328 rfl)) <|
  fa_c (ok_p (xg_load _ _ _) (x_aload_n dL_law_329 rfl)) <|
  fa_c (ok_p (xg_load _ _ _) (x_iload_n dL_law_330 rfl)) <|
  fa_c (ok_p (xg_st _ _) (x_iconst dL_law_331 rfl)) <|
  fa_c (ok_p (xg_st _ _) (x_iadd dL_law_332)) <|
  fa_c (ok_p (xg_sld _ _ _) (x_sld hZLt dL_law_333)) <|
  fa_c (ok_p (xg_load _ _ _) (x_aload_n dL_law_334 rfl)) <|
  fa_c (ok_p (xg_load _ _ _) (x_iload_n dL_law_335 rfl)) <|
  fa_c (ok_p (xg_st _ _) (x_iconst dL_law_336 rfl)) <|
  fa_c (ok_p (xg_st _ _) (x_iadd dL_law_337)) <|
  fa_c (ok_p (xg_sld _ _ _) (x_sld hZLt dL_law_338)) <|
  fa_c (ok_c pT_145 pY_145 (x_callV (n := 2) (C := RX5) (T := TX5) (N := 34) rfl rfl kw864 kw865 kw866 kw63 kw867 (by decide +kernel) dL_law_339)) <|
  fa_c (ok_p (xg_icmp _ _ _) (x_icmp_eq dL_law_342 (by decide))) <|
  fa_c (ok_p (xg_st _ _) (x_iconst dL_law_345 rfl)) <|
  fa_c (ok_r ⟨rfl, dL_law_346⟩) <|
  fa_c (ok_p (xg_load _ _ _) (x_aload_n dL_law_347 rfl)) <|
  fa_c (ok_p (xg_load _ _ _) (x_aload_n dL_law_348 rfl)) <|
  fa_c (ok_p (xg_load _ _ _) (x_iload_n dL_law_349 rfl)) <|
  fa_c (ok_p (xg_st _ _) (x_iconst dL_law_350 rfl)) <|
  fa_c (ok_p (xg_st _ _) (x_iadd dL_law_351)) <|
  fa_c (ok_p (xg_sld _ _ _) (x_sld hZLt dL_law_352)) <|
  fa_c (ok_c pT_76 pY_76 (x_callV (n := 1) (C := RX4) (T := TX4) (N := 6) rfl rfl kw337 kw338 kw339 kw59 kw340 (by decide +kernel) dL_law_353)) <|
  fa_c (ok_p (xg_load _ _ _) (x_aload_n dL_law_356 rfl)) <|
  fa_c (ok_p (xg_load _ _ _) (x_aload_n dL_law_357 rfl)) <|
  fa_c (ok_p (xg_load _ _ _) (x_iload_n dL_law_358 rfl)) <|
  fa_c (ok_p (xg_st _ _) (x_iconst dL_law_359 rfl)) <|
  fa_c (ok_p (xg_st _ _) (x_iadd dL_law_360)) <|
  fa_c (ok_p (xg_sld _ _ _) (x_sld hZLt dL_law_361)) <|
  fa_n
set_option maxRecDepth 20000 in
theorem tkL_3 (L : Nat) (xs : Nat → Int32) : ∀ q ∈ tbL_3 L xs, xOk (ZL L xs) RL cL_law 4 (some .boolean) pT pY q :=
  fa_c (ok_c pT_146 pY_146 (x_callV (n := 1) (C := RX5) (T := TX5) (N := 34) rfl rfl kw868 kw869 kw870 kw63 kw871 (by decide +kernel) dL_law_362)) <|
  fa_c (ok_p (xg_icmp _ _ _) (x_icmp_eq dL_law_365 (by decide))) <|
  fa_c (ok_p (xg_st _ _) (x_iconst dL_law_368 rfl)) <|
  fa_c (ok_r ⟨rfl, dL_law_369⟩) <|
  fa_c (ok_p (xg_load _ _ _) (x_aload_n dL_law_370 rfl)) <|
  fa_c (ok_p (xg_load _ _ _) (x_aload_n dL_law_371 rfl)) <|
  fa_c (ok_p (xg_load _ _ _) (x_iload_n dL_law_372 rfl)) <|
  fa_c (ok_p (xg_st _ _) (x_iconst dL_law_373 rfl)) <|
  fa_c (ok_p (xg_st _ _) (x_iadd dL_law_374)) <|
  fa_c (ok_p (xg_sld _ _ _) (x_sld hZLt dL_law_375)) <|
  fa_c (ok_c pT_77 pY_77 (x_callV (n := 1) (C := RX4) (T := TX4) (N := 6) rfl rfl kw355 kw356 kw357 kw59 kw358 (by decide +kernel) dL_law_376)) <|
  fa_c (ok_p (xg_load _ _ _) (x_aload_n dL_law_379 rfl)) <|
  fa_c (ok_p (xg_load _ _ _) (x_aload_n dL_law_380 rfl)) <|
  fa_c (ok_p (xg_load _ _ _) (x_iload_n dL_law_381 rfl)) <|
  fa_c (ok_p (xg_st _ _) (x_iconst dL_law_382 rfl)) <|
  fa_c (ok_p (xg_st _ _) (x_iadd dL_law_383)) <|
  fa_c (ok_p (xg_sld _ _ _) (x_sld hZLt dL_law_384)) <|
  fa_c (ok_c pT_147 pY_147 (x_callV (n := 1) (C := RX5) (T := TX5) (N := 34) rfl rfl kw875 kw876 kw877 kw63 kw878 (by decide +kernel) dL_law_385)) <|
  fa_c (ok_p (xg_icmp _ _ _) (x_icmp_eq dL_law_388 (by decide))) <|
  fa_c (ok_p (xg_st _ _) (x_iconst dL_law_391 rfl)) <|
  fa_c (ok_r ⟨rfl, dL_law_392⟩) <|
  fa_c (ok_p (xg_load _ _ _) (x_aload_n dL_law_393 rfl)) <|
  fa_c (ok_c pT_78 pY_78 (x_callV (n := 0) (C := RX4) (T := TX4) (N := 6) rfl rfl kw363 kw364 kw365 kw59 kw366 (by decide +kernel) dL_law_394)) <|
  fa_c (ok_p (xg_load _ _ _) (x_aload_n dL_law_397 rfl)) <|
  fa_c (ok_c pT_148 pY_148 (x_callV (n := 0) (C := RX5) (T := TX5) (N := 34) rfl rfl kw879 kw880 kw881 kw63 kw882 (by decide +kernel) dL_law_398)) <|
  fa_c (ok_p (xg_st _ _) (x_lcmp dL_law_401)) <|
  fa_c (ok_p (xg_if _ _ _) (x_if_eq dL_law_402 (by decide))) <|
  fa_c (ok_p (xg_st _ _) (x_iconst dL_law_405 rfl)) <|
  fa_c (ok_r ⟨rfl, dL_law_406⟩) <|
  fa_c (ok_p (xg_load _ _ _) (x_aload_n dL_law_407 rfl)) <|
  fa_c (ok_p (xg_load _ _ _) (x_aload_n dL_law_408 rfl)) <|
  fa_c (ok_p (xg_load _ _ _) (x_iload_n dL_law_409 rfl)) <|
  fa_c (ok_p (xg_st _ _) (x_iconst dL_law_410 rfl)) <|
  fa_c (ok_p (xg_st _ _) (x_iadd dL_law_411)) <|
  fa_c (ok_p (xg_sld _ _ _) (x_sld hZLt dL_law_412)) <|
  fa_c (ok_c pT_79 pY_79 (x_callV (n := 1) (C := RX4) (T := TX4) (N := 6) rfl rfl kw376 kw377 kw378 kw59 kw379 (by decide +kernel) dL_law_413)) <|
  fa_c (ok_p (xg_load _ _ _) (x_aload_n dL_law_416 rfl)) <|
  fa_c (ok_p (xg_load _ _ _) (x_aload_n dL_law_417 rfl)) <|
  fa_c (ok_p (xg_load _ _ _) (x_iload_n dL_law_418 rfl)) <|
  fa_c (ok_p (xg_st _ _) (x_iconst dL_law_419 rfl)) <|
  fa_c (ok_p (xg_st _ _) (x_iadd dL_law_420)) <|
  fa_c (ok_p (xg_sld _ _ _) (x_sld hZLt dL_law_421)) <|
  fa_c (ok_c pT_153 pY_153 (x_callV (n := 1) (C := RX5) (T := TX5) (N := 34) rfl rfl kw887 kw888 kw889 kw63 kw890 (by decide +kernel) dL_law_422)) <|
  fa_c (ok_p (xg_icmp _ _ _) (x_icmp_eq dL_law_425 (by decide))) <|
  fa_c (ok_p (xg_st _ _) (x_iconst dL_law_428 rfl)) <|
  fa_c (ok_r ⟨rfl, dL_law_429⟩) <|
  fa_c (ok_p (xg_load _ _ _) (x_aload_n dL_law_430 rfl)) <|
  fa_c (ok_p (xg_load _ _ _) (x_aload_n dL_law_431 rfl)) <|
  fa_c (ok_p (xg_load _ _ _) (x_iload_n dL_law_432 rfl)) <|
  fa_c (ok_p (xg_st _ _) (x_iconst dL_law_433 rfl)) <|
  fa_c (ok_p (xg_st _ _) (x_iadd dL_law_434)) <|
  fa_c (ok_p (xg_sld _ _ _) (x_sld hZLt dL_law_435)) <|
  fa_c (ok_p (xg_load _ _ _) (x_aload_n dL_law_436 rfl)) <|
  fa_c (ok_p (xg_load _ _ _) (x_iload_n dL_law_437 rfl)) <|
  fa_c (ok_p (xg_st _ _) (x_iconst dL_law_438 rfl)) <|
  fa_c (ok_p (xg_st _ _) (x_iadd dL_law_439)) <|
  fa_c (ok_p (xg_sld _ _ _) (x_sld hZLt dL_law_440)) <|
  fa_c (ok_p (xg_load _ _ _) (x_aload_n dL_law_441 rfl)) <|
  fa_c (ok_p (xg_load _ _ _) (x_iload_n dL_law_442 rfl)) <|
  fa_c (ok_p (xg_st _ _) (x_iconst dL_law_443 rfl)) <|
  fa_n
set_option maxRecDepth 20000 in
theorem tkL_4 (L : Nat) (xs : Nat → Int32) : ∀ q ∈ tbL_4 L xs, xOk (ZL L xs) RL cL_law 4 (some .boolean) pT pY q :=
  fa_c (ok_p (xg_st _ _) (x_iadd dL_law_444)) <|
  fa_c (ok_p (xg_sld _ _ _) (x_sld hZLt dL_law_445)) <|
  fa_c (ok_p (xg_load _ _ _) (x_aload_n dL_law_446 rfl)) <|
  fa_c (ok_p (xg_load _ _ _) (x_iload_n dL_law_447 rfl)) <|
  fa_c (ok_p (xg_st _ _) (x_iconst dL_law_448 rfl)) <|
  fa_c (ok_p (xg_st _ _) (x_iadd dL_law_449)) <|
  fa_c (ok_p (xg_sld _ _ _) (x_sld hZLt dL_law_450)) <|
  fa_c (ok_p (xg_load _ _ _) (x_aload_n dL_law_451 rfl)) <|
  fa_c (ok_p (xg_load _ _ _) (x_iload_n dL_law_452 rfl)) <|
  fa_c (ok_p (xg_st _ _) (x_iconst dL_law_453 rfl)) <|
  fa_c (ok_p (xg_st _ _) (x_iadd dL_law_454)) <|
  fa_c (ok_p (xg_sld _ _ _) (x_sld hZLt dL_law_455)) <|
  fa_c (ok_c pT_80 pY_80 (x_callV (n := 5) (C := RX4) (T := TX4) (N := 6) rfl rfl kw405 kw406 kw407 kw59 kw408 (by decide +kernel) dL_law_456)) <|
  fa_c (ok_p (xg_load _ _ _) (x_aload_n dL_law_459 rfl)) <|
  fa_c (ok_p (xg_load _ _ _) (x_aload_n dL_law_460 rfl)) <|
  fa_c (ok_p (xg_load _ _ _) (x_iload_n dL_law_461 rfl)) <|
  fa_c (ok_p (xg_st _ _) (x_iconst dL_law_462 rfl)) <|
  fa_c (ok_p (xg_st _ _) (x_iadd dL_law_463)) <|
  fa_c (ok_p (xg_sld _ _ _) (x_sld hZLt dL_law_464)) <|
  fa_c (ok_p (xg_load _ _ _) (x_aload_n dL_law_465 rfl)) <|
  fa_c (ok_p (xg_load _ _ _) (x_iload_n dL_law_466 rfl)) <|
  fa_c (ok_p (xg_st _ _) (x_iconst dL_law_467 rfl)) <|
  fa_c (ok_p (xg_st _ _) (x_iadd dL_law_468)) <|
  fa_c (ok_p (xg_sld _ _ _) (x_sld hZLt dL_law_469)) <|
  fa_c (ok_p (xg_load _ _ _) (x_aload_n dL_law_470 rfl)) <|
  fa_c (ok_p (xg_load _ _ _) (x_iload_n dL_law_471 rfl)) <|
  fa_c (ok_p (xg_st _ _) (x_iconst dL_law_472 rfl)) <|
  fa_c (ok_p (xg_st _ _) (x_iadd dL_law_473)) <|
  fa_c (ok_p (xg_sld _ _ _) (x_sld hZLt dL_law_474)) <|
  fa_c (ok_p (xg_load _ _ _) (x_aload_n dL_law_475 rfl)) <|
  fa_c (ok_p (xg_load _ _ _) (x_iload_n dL_law_476 rfl)) <|
  fa_c (ok_p (xg_st _ _) (x_iconst dL_law_477 rfl)) <|
  fa_c (ok_p (xg_st _ _) (x_iadd dL_law_478)) <|
  fa_c (ok_p (xg_sld _ _ _) (x_sld hZLt dL_law_479)) <|
  fa_c (ok_p (xg_load _ _ _) (x_aload_n dL_law_480 rfl)) <|
  fa_c (ok_p (xg_load _ _ _) (x_iload_n dL_law_481 rfl)) <|
  fa_c (ok_p (xg_st _ _) (x_iconst dL_law_482 rfl)) <|
  fa_c (ok_p (xg_st _ _) (x_iadd dL_law_483)) <|
  fa_c (ok_p (xg_sld _ _ _) (x_sld hZLt dL_law_484)) <|
  fa_c (ok_c pT_157 pY_157 (x_callV (n := 5) (C := RX5) (T := TX5) (N := 34) rfl rfl kw905 kw906 kw907 kw63 kw908 (by decide +kernel) dL_law_485)) <|
  fa_c (ok_p (xg_icmp _ _ _) (x_icmp_eq dL_law_488 (by decide))) <|
  fa_c (ok_p (xg_st _ _) (x_iconst dL_law_491 rfl)) <|
  fa_c (ok_r ⟨rfl, dL_law_492⟩) <|
  fa_c (ok_p (xg_load _ _ _) (x_aload_n dL_law_493 rfl)) <|
  fa_c (ok_p (xg_load _ _ _) (x_aload_n dL_law_494 rfl)) <|
  fa_c (ok_p (xg_load _ _ _) (x_iload_n dL_law_495 rfl)) <|
  fa_c (ok_p (xg_st _ _) (x_iconst dL_law_496 rfl)) <|
  fa_c (ok_p (xg_st _ _) (x_iadd dL_law_497)) <|
  fa_c (ok_p (xg_sld _ _ _) (x_sld hZLt dL_law_498)) <|
  fa_c (ok_p (xg_load _ _ _) (x_aload_n dL_law_499 rfl)) <|
  fa_c (ok_p (xg_load _ _ _) (x_iload_n dL_law_500 rfl)) <|
  fa_c (ok_p (xg_st _ _) (x_iconst dL_law_501 rfl)) <|
  fa_c (ok_p (xg_st _ _) (x_iadd dL_law_502)) <|
  fa_c (ok_p (xg_sld _ _ _) (x_sld hZLt dL_law_503)) <|
  fa_c (ok_c pT_81 pY_81 (x_callV (n := 2) (C := RX4) (T := TX4) (N := 6) rfl rfl kw427 kw428 kw429 kw59 kw430 (by decide +kernel) dL_law_504)) <|
  fa_c (ok_p (xg_load _ _ _) (x_aload_n dL_law_507 rfl)) <|
  fa_c (ok_p (xg_load _ _ _) (x_aload_n dL_law_508 rfl)) <|
  fa_c (ok_p (xg_load _ _ _) (x_iload_n dL_law_509 rfl)) <|
  fa_c (ok_p (xg_st _ _) (x_iconst dL_law_510 rfl)) <|
  fa_c (ok_p (xg_st _ _) (x_iadd dL_law_511)) <|
  fa_n
set_option maxRecDepth 20000 in
theorem tkL_5 (L : Nat) (xs : Nat → Int32) : ∀ q ∈ tbL_5 L xs, xOk (ZL L xs) RL cL_law 4 (some .boolean) pT pY q :=
  fa_c (ok_p (xg_sld _ _ _) (x_sld hZLt dL_law_512)) <|
  fa_c (ok_p (xg_load _ _ _) (x_aload_n dL_law_513 rfl)) <|
  fa_c (ok_p (xg_load _ _ _) (x_iload_n dL_law_514 rfl)) <|
  fa_c (ok_p (xg_st _ _) (x_iconst dL_law_515 rfl)) <|
  fa_c (ok_p (xg_st _ _) (x_iadd dL_law_516)) <|
  fa_c (ok_p (xg_sld _ _ _) (x_sld hZLt dL_law_517)) <|
  fa_c (ok_c pT_163 pY_163 (x_callV (n := 2) (C := RX5) (T := TX5) (N := 34) rfl rfl kw923 kw924 kw925 kw63 kw926 (by decide +kernel) dL_law_518)) <|
  fa_c (ok_p (xg_icmp _ _ _) (x_icmp_eq dL_law_521 (by decide))) <|
  fa_c (ok_p (xg_st _ _) (x_iconst dL_law_524 rfl)) <|
  fa_c (ok_r ⟨rfl, dL_law_525⟩) <|
  fa_c (ok_p (xg_load _ _ _) (x_aload_n dL_law_526 rfl)) <|
  fa_c (ok_p (xg_load _ _ _) (x_aload_n dL_law_527 rfl)) <|
  fa_c (ok_p (xg_load _ _ _) (x_iload_n dL_law_528 rfl)) <|
  fa_c (ok_p (xg_st _ _) (x_iconst dL_law_529 rfl)) <|
  fa_c (ok_p (xg_st _ _) (x_iadd dL_law_530)) <|
  fa_c (ok_p (xg_sld _ _ _) (x_sld hZLt dL_law_531)) <|
  fa_c (ok_p (xg_load _ _ _) (x_aload_n dL_law_532 rfl)) <|
  fa_c (ok_p (xg_load _ _ _) (x_iload_n dL_law_533 rfl)) <|
  fa_c (ok_p (xg_st _ _) (x_iconst dL_law_534 rfl)) <|
  fa_c (ok_p (xg_st _ _) (x_iadd dL_law_535)) <|
  fa_c (ok_p (xg_sld _ _ _) (x_sld hZLt dL_law_536)) <|
  fa_c (ok_c pT_82 pY_82 (x_callV (n := 2) (C := RX4) (T := TX4) (N := 6) rfl rfl kw442 kw443 kw444 kw59 kw445 (by decide +kernel) dL_law_537)) <|
  fa_c (ok_p (xg_load _ _ _) (x_aload_n dL_law_540 rfl)) <|
  fa_c (ok_p (xg_load _ _ _) (x_aload_n dL_law_541 rfl)) <|
  fa_c (ok_p (xg_load _ _ _) (x_iload_n dL_law_542 rfl)) <|
  fa_c (ok_p (xg_st _ _) (x_iconst dL_law_543 rfl)) <|
  fa_c (ok_p (xg_st _ _) (x_iadd dL_law_544)) <|
  fa_c (ok_p (xg_sld _ _ _) (x_sld hZLt dL_law_545)) <|
  fa_c (ok_p (xg_load _ _ _) (x_aload_n dL_law_546 rfl)) <|
  fa_c (ok_p (xg_load _ _ _) (x_iload_n dL_law_547 rfl)) <|
  fa_c (ok_p (xg_st _ _) (x_iconst dL_law_548 rfl)) <|
  fa_c (ok_p (xg_st _ _) (x_iadd dL_law_549)) <|
  fa_c (ok_p (xg_sld _ _ _) (x_sld hZLt dL_law_550)) <|
  fa_c (ok_c pT_165 pY_165 (x_callV (n := 2) (C := RX5) (T := TX5) (N := 34) rfl rfl kw948 kw949 kw950 kw63 kw951 (by decide +kernel) dL_law_551)) <|
  fa_c (ok_p (xg_icmp _ _ _) (x_icmp_eq dL_law_554 (by decide))) <|
  fa_c (ok_p (xg_st _ _) (x_iconst dL_law_557 rfl)) <|
  fa_c (ok_r ⟨rfl, dL_law_558⟩) <|
  fa_c (ok_p (xg_load _ _ _) (x_aload_n dL_law_559 rfl)) <|
  fa_c (ok_p (xg_load _ _ _) (x_aload_n dL_law_560 rfl)) <|
  fa_c (ok_p (xg_load _ _ _) (x_iload_n dL_law_561 rfl)) <|
  fa_c (ok_p (xg_st _ _) (x_iconst dL_law_562 rfl)) <|
  fa_c (ok_p (xg_st _ _) (x_iadd dL_law_563)) <|
  fa_c (ok_p (xg_sld _ _ _) (x_sld hZLt dL_law_564)) <|
  fa_c (ok_c pT_83 pY_83 (x_callV (n := 1) (C := RX4) (T := TX4) (N := 6) rfl rfl kw461 kw462 kw463 kw59 kw464 (by decide +kernel) dL_law_565)) <|
  fa_c (ok_p (xg_load _ _ _) (x_aload_n dL_law_568 rfl)) <|
  fa_c (ok_p (xg_load _ _ _) (x_aload_n dL_law_569 rfl)) <|
  fa_c (ok_p (xg_load _ _ _) (x_iload_n dL_law_570 rfl)) <|
  fa_c (ok_p (xg_st _ _) (x_iconst dL_law_571 rfl)) <|
  fa_c (ok_p (xg_st _ _) (x_iadd dL_law_572)) <|
  fa_c (ok_p (xg_sld _ _ _) (x_sld hZLt dL_law_573)) <|
  fa_c (ok_c pT_167 pY_167 (x_callV (n := 1) (C := RX5) (T := TX5) (N := 34) rfl rfl kw957 kw958 kw959 kw63 kw960 (by decide +kernel) dL_law_574)) <|
  fa_c (ok_p (xg_icmp _ _ _) (x_icmp_eq dL_law_577 (by decide))) <|
  fa_c (ok_p (xg_st _ _) (x_iconst dL_law_580 rfl)) <|
  fa_c (ok_r ⟨rfl, dL_law_581⟩) <|
  fa_c (ok_p (xg_load _ _ _) (x_aload_n dL_law_582 rfl)) <|
  fa_c (ok_p (xg_load _ _ _) (x_aload_n dL_law_583 rfl)) <|
  fa_c (ok_p (xg_load _ _ _) (x_iload_n dL_law_584 rfl)) <|
  fa_c (ok_p (xg_st _ _) (x_iconst dL_law_585 rfl)) <|
  fa_c (ok_p (xg_st _ _) (x_iadd dL_law_586)) <|
  fa_c (ok_p (xg_sld _ _ _) (x_sld hZLt dL_law_587)) <|
  fa_n
set_option maxRecDepth 20000 in
theorem tkL_6 (L : Nat) (xs : Nat → Int32) : ∀ q ∈ tbL_6 L xs, xOk (ZL L xs) RL cL_law 4 (some .boolean) pT pY q :=
  fa_c (ok_p (xg_load _ _ _) (x_aload_n dL_law_588 rfl)) <|
  fa_c (ok_p (xg_load _ _ _) (x_iload_n dL_law_589 rfl)) <|
  fa_c (ok_p (xg_st _ _) (x_iconst dL_law_590 rfl)) <|
  fa_c (ok_p (xg_st _ _) (x_iadd dL_law_591)) <|
  fa_c (ok_p (xg_sld _ _ _) (x_sld hZLt dL_law_592)) <|
  fa_c (ok_p (xg_load _ _ _) (x_aload_n dL_law_593 rfl)) <|
  fa_c (ok_p (xg_load _ _ _) (x_iload_n dL_law_594 rfl)) <|
  fa_c (ok_p (xg_st _ _) (x_iconst dL_law_595 rfl)) <|
  fa_c (ok_p (xg_st _ _) (x_iadd dL_law_596)) <|
  fa_c (ok_p (xg_sld _ _ _) (x_sld hZLt dL_law_597)) <|
  fa_c (ok_p (xg_load _ _ _) (x_aload_n dL_law_598 rfl)) <|
  fa_c (ok_p (xg_load _ _ _) (x_iload_n dL_law_599 rfl)) <|
  fa_c (ok_p (xg_st _ _) (x_iconst dL_law_600 rfl)) <|
  fa_c (ok_p (xg_st _ _) (x_iadd dL_law_601)) <|
  fa_c (ok_p (xg_sld _ _ _) (x_sld hZLt dL_law_602)) <|
  fa_c (ok_p (xg_load _ _ _) (x_aload_n dL_law_603 rfl)) <|
  fa_c (ok_p (xg_load _ _ _) (x_iload_n dL_law_604 rfl)) <|
  fa_c (ok_p (xg_st _ _) (x_iconst dL_law_605 rfl)) <|
  fa_c (ok_p (xg_st _ _) (x_iadd dL_law_606)) <|
  fa_c (ok_p (xg_sld _ _ _) (x_sld hZLt dL_law_607)) <|
  fa_c (ok_p (xg_load _ _ _) (x_aload_n dL_law_608 rfl)) <|
  fa_c (ok_p (xg_load _ _ _) (x_iload_n dL_law_609 rfl)) <|
  fa_c (ok_p (xg_st _ _) (x_bipush dL_law_610 rfl)) <|
  fa_c (ok_p (xg_st _ _) (x_iadd dL_law_612)) <|
  fa_c (ok_p (xg_sld _ _ _) (x_sld hZLt dL_law_613)) <|
  fa_c (ok_c pT_84 pY_84 (x_callV (n := 6) (C := RX4) (T := TX4) (N := 6) rfl rfl kw481 kw482 kw483 kw59 kw484 (by decide +kernel) dL_law_614)) <|
  fa_c (ok_p (xg_load _ _ _) (x_aload_n dL_law_617 rfl)) <|
  fa_c (ok_p (xg_load _ _ _) (x_aload_n dL_law_618 rfl)) <|
  fa_c (ok_p (xg_load _ _ _) (x_iload_n dL_law_619 rfl)) <|
  fa_c (ok_p (xg_st _ _) (x_iconst dL_law_620 rfl)) <|
  fa_c (ok_p (xg_st _ _) (x_iadd dL_law_621)) <|
  fa_c (ok_p (xg_sld _ _ _) (x_sld hZLt dL_law_622)) <|
  fa_c (ok_p (xg_load _ _ _) (x_aload_n dL_law_623 rfl)) <|
  fa_c (ok_p (xg_load _ _ _) (x_iload_n dL_law_624 rfl)) <|
  fa_c (ok_p (xg_st _ _) (x_iconst dL_law_625 rfl)) <|
  fa_c (ok_p (xg_st _ _) (x_iadd dL_law_626)) <|
  fa_c (ok_p (xg_sld _ _ _) (x_sld hZLt dL_law_627)) <|
  fa_c (ok_p (xg_load _ _ _) (x_aload_n dL_law_628 rfl)) <|
  fa_c (ok_p (xg_load _ _ _) (x_iload_n dL_law_629 rfl)) <|
  fa_c (ok_p (xg_st _ _) (x_iconst dL_law_630 rfl)) <|
  fa_c (ok_p (xg_st _ _) (x_iadd dL_law_631)) <|
  fa_c (ok_p (xg_sld _ _ _) (x_sld hZLt dL_law_632)) <|
  fa_c (ok_p (xg_load _ _ _) (x_aload_n dL_law_633 rfl)) <|
  fa_c (ok_p (xg_load _ _ _) (x_iload_n dL_law_634 rfl)) <|
  fa_c (ok_p (xg_st _ _) (x_iconst dL_law_635 rfl)) <|
  fa_c (ok_p (xg_st _ _) (x_iadd dL_law_636)) <|
  fa_c (ok_p (xg_sld _ _ _) (x_sld hZLt dL_law_637)) <|
  fa_c (ok_p (xg_load _ _ _) (x_aload_n dL_law_638 rfl)) <|
  fa_c (ok_p (xg_load _ _ _) (x_iload_n dL_law_639 rfl)) <|
  fa_c (ok_p (xg_st _ _) (x_iconst dL_law_640 rfl)) <|
  fa_c (ok_p (xg_st _ _) (x_iadd dL_law_641)) <|
  fa_c (ok_p (xg_sld _ _ _) (x_sld hZLt dL_law_642)) <|
  fa_c (ok_p (xg_load _ _ _) (x_aload_n dL_law_643 rfl)) <|
  fa_c (ok_p (xg_load _ _ _) (x_iload_n dL_law_644 rfl)) <|
  fa_c (ok_p (xg_st _ _) (x_bipush dL_law_645 rfl)) <|
  fa_c (ok_p (xg_st _ _) (x_iadd dL_law_647)) <|
  fa_c (ok_p (xg_sld _ _ _) (x_sld hZLt dL_law_648)) <|
  fa_c (ok_c pT_170 pY_170 (x_callV (n := 6) (C := RX5) (T := TX5) (N := 34) rfl rfl kw965 kw966 kw967 kw63 kw968 (by decide +kernel) dL_law_649)) <|
  fa_c (ok_p (xg_icmp _ _ _) (x_icmp_eq dL_law_652 (by decide))) <|
  fa_c (ok_p (xg_st _ _) (x_iconst dL_law_655 rfl)) <|
  fa_n
set_option maxRecDepth 20000 in
theorem tkL_7 (L : Nat) (xs : Nat → Int32) : ∀ q ∈ tbL_7 L xs, xOk (ZL L xs) RL cL_law 4 (some .boolean) pT pY q :=
  fa_c (ok_r ⟨rfl, dL_law_656⟩) <|
  fa_c (ok_p (xg_load _ _ _) (x_aload_n dL_law_657 rfl)) <|
  fa_c (ok_p (xg_load _ _ _) (x_aload_n dL_law_658 rfl)) <|
  fa_c (ok_p (xg_load _ _ _) (x_iload_n dL_law_659 rfl)) <|
  fa_c (ok_p (xg_st _ _) (x_iconst dL_law_660 rfl)) <|
  fa_c (ok_p (xg_st _ _) (x_iadd dL_law_661)) <|
  fa_c (ok_p (xg_sld _ _ _) (x_sld hZLt dL_law_662)) <|
  fa_c (ok_p (xg_load _ _ _) (x_aload_n dL_law_663 rfl)) <|
  fa_c (ok_p (xg_load _ _ _) (x_iload_n dL_law_664 rfl)) <|
  fa_c (ok_p (xg_st _ _) (x_iconst dL_law_665 rfl)) <|
  fa_c (ok_p (xg_st _ _) (x_iadd dL_law_666)) <|
  fa_c (ok_p (xg_sld _ _ _) (x_sld hZLt dL_law_667)) <|
  fa_c (ok_p (xg_load _ _ _) (x_aload_n dL_law_668 rfl)) <|
  fa_c (ok_p (xg_load _ _ _) (x_iload_n dL_law_669 rfl)) <|
  fa_c (ok_p (xg_st _ _) (x_iconst dL_law_670 rfl)) <|
  fa_c (ok_p (xg_st _ _) (x_iadd dL_law_671)) <|
  fa_c (ok_p (xg_sld _ _ _) (x_sld hZLt dL_law_672)) <|
  fa_c (ok_p (xg_load _ _ _) (x_aload_n dL_law_673 rfl)) <|
  fa_c (ok_p (xg_load _ _ _) (x_iload_n dL_law_674 rfl)) <|
  fa_c (ok_p (xg_st _ _) (x_iconst dL_law_675 rfl)) <|
  fa_c (ok_p (xg_st _ _) (x_iadd dL_law_676)) <|
  fa_c (ok_p (xg_sld _ _ _) (x_sld hZLt dL_law_677)) <|
  fa_c (ok_p (xg_load _ _ _) (x_aload_n dL_law_678 rfl)) <|
  fa_c (ok_p (xg_load _ _ _) (x_iload_n dL_law_679 rfl)) <|
  fa_c (ok_p (xg_st _ _) (x_iconst dL_law_680 rfl)) <|
  fa_c (ok_p (xg_st _ _) (x_iadd dL_law_681)) <|
  fa_c (ok_p (xg_sld _ _ _) (x_sld hZLt dL_law_682)) <|
  fa_c (ok_c pT_85 pY_85 (x_callV (n := 5) (C := RX4) (T := TX4) (N := 6) rfl rfl kw502 kw503 kw504 kw59 kw505 (by decide +kernel) dL_law_683)) <|
  fa_c (ok_p (xg_load _ _ _) (x_aload_n dL_law_686 rfl)) <|
  fa_c (ok_p (xg_load _ _ _) (x_aload_n dL_law_687 rfl)) <|
  fa_c (ok_p (xg_load _ _ _) (x_iload_n dL_law_688 rfl)) <|
  fa_c (ok_p (xg_st _ _) (x_iconst dL_law_689 rfl)) <|
  fa_c (ok_p (xg_st _ _) (x_iadd dL_law_690)) <|
  fa_c (ok_p (xg_sld _ _ _) (x_sld hZLt dL_law_691)) <|
  fa_c (ok_p (xg_load _ _ _) (x_aload_n dL_law_692 rfl)) <|
  fa_c (ok_p (xg_load _ _ _) (x_iload_n dL_law_693 rfl)) <|
  fa_c (ok_p (xg_st _ _) (x_iconst dL_law_694 rfl)) <|
  fa_c (ok_p (xg_st _ _) (x_iadd dL_law_695)) <|
  fa_c (ok_p (xg_sld _ _ _) (x_sld hZLt dL_law_696)) <|
  fa_c (ok_p (xg_load _ _ _) (x_aload_n dL_law_697 rfl)) <|
  fa_c (ok_p (xg_load _ _ _) (x_iload_n dL_law_698 rfl)) <|
  fa_c (ok_p (xg_st _ _) (x_iconst dL_law_699 rfl)) <|
  fa_c (ok_p (xg_st _ _) (x_iadd dL_law_700)) <|
  fa_c (ok_p (xg_sld _ _ _) (x_sld hZLt dL_law_701)) <|
  fa_c (ok_p (xg_load _ _ _) (x_aload_n dL_law_702 rfl)) <|
  fa_c (ok_p (xg_load _ _ _) (x_iload_n dL_law_703 rfl)) <|
  fa_c (ok_p (xg_st _ _) (x_iconst dL_law_704 rfl)) <|
  fa_c (ok_p (xg_st _ _) (x_iadd dL_law_705)) <|
  fa_c (ok_p (xg_sld _ _ _) (x_sld hZLt dL_law_706)) <|
  fa_c (ok_p (xg_load _ _ _) (x_aload_n dL_law_707 rfl)) <|
  fa_c (ok_p (xg_load _ _ _) (x_iload_n dL_law_708 rfl)) <|
  fa_c (ok_p (xg_st _ _) (x_iconst dL_law_709 rfl)) <|
  fa_c (ok_p (xg_st _ _) (x_iadd dL_law_710)) <|
  fa_c (ok_p (xg_sld _ _ _) (x_sld hZLt dL_law_711)) <|
  fa_c (ok_c pT_172 pY_172 (x_callV (n := 5) (C := RX5) (T := TX5) (N := 34) rfl rfl kw978 kw979 kw980 kw63 kw981 (by decide +kernel) dL_law_712)) <|
  fa_c (ok_p (xg_icmp _ _ _) (x_icmp_eq dL_law_715 (by decide))) <|
  fa_c (ok_p (xg_st _ _) (x_iconst dL_law_718 rfl)) <|
  fa_c (ok_r ⟨rfl, dL_law_719⟩) <|
  fa_c (ok_p (xg_load _ _ _) (x_aload_n dL_law_720 rfl)) <|
  fa_c (ok_p (xg_load _ _ _) (x_aload_n dL_law_721 rfl)) <|
  fa_n
set_option maxRecDepth 20000 in
theorem tkL_8 (L : Nat) (xs : Nat → Int32) : ∀ q ∈ tbL_8 L xs, xOk (ZL L xs) RL cL_law 4 (some .boolean) pT pY q :=
  fa_c (ok_p (xg_load _ _ _) (x_iload_n dL_law_722 rfl)) <|
  fa_c (ok_p (xg_st _ _) (x_iconst dL_law_723 rfl)) <|
  fa_c (ok_p (xg_st _ _) (x_iadd dL_law_724)) <|
  fa_c (ok_p (xg_sld _ _ _) (x_sld hZLt dL_law_725)) <|
  fa_c (ok_p (xg_load _ _ _) (x_aload_n dL_law_726 rfl)) <|
  fa_c (ok_p (xg_load _ _ _) (x_iload_n dL_law_727 rfl)) <|
  fa_c (ok_p (xg_st _ _) (x_iconst dL_law_728 rfl)) <|
  fa_c (ok_p (xg_st _ _) (x_iadd dL_law_729)) <|
  fa_c (ok_p (xg_sld _ _ _) (x_sld hZLt dL_law_730)) <|
  fa_c (ok_p (xg_load _ _ _) (x_aload_n dL_law_731 rfl)) <|
  fa_c (ok_p (xg_load _ _ _) (x_iload_n dL_law_732 rfl)) <|
  fa_c (ok_p (xg_st _ _) (x_iconst dL_law_733 rfl)) <|
  fa_c (ok_p (xg_st _ _) (x_iadd dL_law_734)) <|
  fa_c (ok_p (xg_sld _ _ _) (x_sld hZLt dL_law_735)) <|
  fa_c (ok_c pT_86 pY_86 (x_callV (n := 3) (C := RX4) (T := TX4) (N := 6) rfl rfl kw514 kw515 kw516 kw59 kw517 (by decide +kernel) dL_law_736)) <|
  fa_c (ok_p (xg_load _ _ _) (x_aload_n dL_law_739 rfl)) <|
  fa_c (ok_p (xg_load _ _ _) (x_aload_n dL_law_740 rfl)) <|
  fa_c (ok_p (xg_load _ _ _) (x_iload_n dL_law_741 rfl)) <|
  fa_c (ok_p (xg_st _ _) (x_iconst dL_law_742 rfl)) <|
  fa_c (ok_p (xg_st _ _) (x_iadd dL_law_743)) <|
  fa_c (ok_p (xg_sld _ _ _) (x_sld hZLt dL_law_744)) <|
  fa_c (ok_p (xg_load _ _ _) (x_aload_n dL_law_745 rfl)) <|
  fa_c (ok_p (xg_load _ _ _) (x_iload_n dL_law_746 rfl)) <|
  fa_c (ok_p (xg_st _ _) (x_iconst dL_law_747 rfl)) <|
  fa_c (ok_p (xg_st _ _) (x_iadd dL_law_748)) <|
  fa_c (ok_p (xg_sld _ _ _) (x_sld hZLt dL_law_749)) <|
  fa_c (ok_p (xg_load _ _ _) (x_aload_n dL_law_750 rfl)) <|
  fa_c (ok_p (xg_load _ _ _) (x_iload_n dL_law_751 rfl)) <|
  fa_c (ok_p (xg_st _ _) (x_iconst dL_law_752 rfl)) <|
  fa_c (ok_p (xg_st _ _) (x_iadd dL_law_753)) <|
  fa_c (ok_p (xg_sld _ _ _) (x_sld hZLt dL_law_754)) <|
  fa_c (ok_c pT_173 pY_173 (x_callV (n := 3) (C := RX5) (T := TX5) (N := 34) rfl rfl kw986 kw987 kw988 kw63 kw989 (by decide +kernel) dL_law_755)) <|
  fa_c (ok_p (xg_icmp _ _ _) (x_icmp_eq dL_law_758 (by decide))) <|
  fa_c (ok_p (xg_st _ _) (x_iconst dL_law_761 rfl)) <|
  fa_c (ok_r ⟨rfl, dL_law_762⟩) <|
  fa_c (ok_p (xg_load _ _ _) (x_aload_n dL_law_763 rfl)) <|
  fa_c (ok_p (xg_load _ _ _) (x_aload_n dL_law_764 rfl)) <|
  fa_c (ok_p (xg_load _ _ _) (x_iload_n dL_law_765 rfl)) <|
  fa_c (ok_p (xg_st _ _) (x_iconst dL_law_766 rfl)) <|
  fa_c (ok_p (xg_st _ _) (x_iadd dL_law_767)) <|
  fa_c (ok_p (xg_sld _ _ _) (x_sld hZLt dL_law_768)) <|
  fa_c (ok_c pT_87 pY_87 (x_callV (n := 1) (C := RX4) (T := TX4) (N := 6) rfl rfl kw527 kw528 kw529 kw59 kw530 (by decide +kernel) dL_law_769)) <|
  fa_c (ok_p (xg_load _ _ _) (x_aload_n dL_law_772 rfl)) <|
  fa_c (ok_p (xg_load _ _ _) (x_aload_n dL_law_773 rfl)) <|
  fa_c (ok_p (xg_load _ _ _) (x_iload_n dL_law_774 rfl)) <|
  fa_c (ok_p (xg_st _ _) (x_iconst dL_law_775 rfl)) <|
  fa_c (ok_p (xg_st _ _) (x_iadd dL_law_776)) <|
  fa_c (ok_p (xg_sld _ _ _) (x_sld hZLt dL_law_777)) <|
  fa_c (ok_c pT_174 pY_174 (x_callV (n := 1) (C := RX5) (T := TX5) (N := 34) rfl rfl kw991 kw992 kw993 kw63 kw994 (by decide +kernel) dL_law_778)) <|
  fa_c (ok_p (xg_icmp _ _ _) (x_icmp_eq dL_law_781 (by decide))) <|
  fa_c (ok_p (xg_st _ _) (x_iconst dL_law_784 rfl)) <|
  fa_c (ok_r ⟨rfl, dL_law_785⟩) <|
  fa_c (ok_p (xg_load _ _ _) (x_aload_n dL_law_786 rfl)) <|
  fa_c (ok_p (xg_load _ _ _) (x_aload_n dL_law_787 rfl)) <|
  fa_c (ok_p (xg_load _ _ _) (x_iload_n dL_law_788 rfl)) <|
  fa_c (ok_p (xg_st _ _) (x_iconst dL_law_789 rfl)) <|
  fa_c (ok_p (xg_st _ _) (x_iadd dL_law_790)) <|
  fa_c (ok_p (xg_sld _ _ _) (x_sld hZLt dL_law_791)) <|
  fa_c (ok_c pT_88 pY_88 (x_callV (n := 1) (C := RX4) (T := TX4) (N := 6) rfl rfl kw535 kw536 kw537 kw59 kw538 (by decide +kernel) dL_law_792)) <|
  fa_c (ok_p (xg_load _ _ _) (x_aload_n dL_law_795 rfl)) <|
  fa_n
set_option maxRecDepth 20000 in
theorem tkL_9 (L : Nat) (xs : Nat → Int32) : ∀ q ∈ tbL_9 L xs, xOk (ZL L xs) RL cL_law 4 (some .boolean) pT pY q :=
  fa_c (ok_p (xg_load _ _ _) (x_aload_n dL_law_796 rfl)) <|
  fa_c (ok_p (xg_load _ _ _) (x_iload_n dL_law_797 rfl)) <|
  fa_c (ok_p (xg_st _ _) (x_iconst dL_law_798 rfl)) <|
  fa_c (ok_p (xg_st _ _) (x_iadd dL_law_799)) <|
  fa_c (ok_p (xg_sld _ _ _) (x_sld hZLt dL_law_800)) <|
  fa_c (ok_c pT_176 pY_176 (x_callV (n := 1) (C := RX5) (T := TX5) (N := 34) rfl rfl kw995 kw996 kw997 kw63 kw998 (by decide +kernel) dL_law_801)) <|
  fa_c (ok_p (xg_icmp _ _ _) (x_icmp_eq dL_law_804 (by decide))) <|
  fa_c (ok_p (xg_st _ _) (x_iconst dL_law_807 rfl)) <|
  fa_c (ok_r ⟨rfl, dL_law_808⟩) <|
  fa_c (ok_p (xg_load _ _ _) (x_aload_n dL_law_809 rfl)) <|
  fa_c (ok_p (xg_load _ _ _) (x_aload_n dL_law_810 rfl)) <|
  fa_c (ok_p (xg_load _ _ _) (x_iload_n dL_law_811 rfl)) <|
  fa_c (ok_p (xg_st _ _) (x_iconst dL_law_812 rfl)) <|
  fa_c (ok_p (xg_st _ _) (x_iadd dL_law_813)) <|
  fa_c (ok_p (xg_sld _ _ _) (x_sld hZLt dL_law_814)) <|
  fa_c (ok_c pT_89 pY_89 (x_callV (n := 1) (C := RX4) (T := TX4) (N := 6) rfl rfl kw547 kw548 kw549 kw59 kw550 (by decide +kernel) dL_law_815)) <|
  fa_c (ok_p (xg_load _ _ _) (x_aload_n dL_law_818 rfl)) <|
  fa_c (ok_p (xg_load _ _ _) (x_aload_n dL_law_819 rfl)) <|
  fa_c (ok_p (xg_load _ _ _) (x_iload_n dL_law_820 rfl)) <|
  fa_c (ok_p (xg_st _ _) (x_iconst dL_law_821 rfl)) <|
  fa_c (ok_p (xg_st _ _) (x_iadd dL_law_822)) <|
  fa_c (ok_p (xg_sld _ _ _) (x_sld hZLt dL_law_823)) <|
  fa_c (ok_c pT_177 pY_177 (x_callV (n := 1) (C := RX5) (T := TX5) (N := 34) rfl rfl kw1003 kw1004 kw1005 kw63 kw1006 (by decide +kernel) dL_law_824)) <|
  fa_c (ok_p (xg_icmp _ _ _) (x_icmp_eq dL_law_827 (by decide))) <|
  fa_c (ok_p (xg_st _ _) (x_iconst dL_law_830 rfl)) <|
  fa_c (ok_r ⟨rfl, dL_law_831⟩) <|
  fa_c (ok_p (xg_load _ _ _) (x_aload_n dL_law_832 rfl)) <|
  fa_c (ok_p (xg_load _ _ _) (x_aload_n dL_law_833 rfl)) <|
  fa_c (ok_p (xg_load _ _ _) (x_iload_n dL_law_834 rfl)) <|
  fa_c (ok_p (xg_st _ _) (x_iconst dL_law_835 rfl)) <|
  fa_c (ok_p (xg_st _ _) (x_iadd dL_law_836)) <|
  fa_c (ok_p (xg_sld _ _ _) (x_sld hZLt dL_law_837)) <|
  fa_c (ok_p (xg_load _ _ _) (x_aload_n dL_law_838 rfl)) <|
  fa_c (ok_p (xg_load _ _ _) (x_iload_n dL_law_839 rfl)) <|
  fa_c (ok_p (xg_st _ _) (x_iconst dL_law_840 rfl)) <|
  fa_c (ok_p (xg_st _ _) (x_iadd dL_law_841)) <|
  fa_c (ok_p (xg_sld _ _ _) (x_sld hZLt dL_law_842)) <|
  fa_c (ok_p (xg_load _ _ _) (x_aload_n dL_law_843 rfl)) <|
  fa_c (ok_p (xg_load _ _ _) (x_iload_n dL_law_844 rfl)) <|
  fa_c (ok_p (xg_st _ _) (x_iconst dL_law_845 rfl)) <|
  fa_c (ok_p (xg_st _ _) (x_iadd dL_law_846)) <|
  fa_c (ok_p (xg_sld _ _ _) (x_sld hZLt dL_law_847)) <|
  fa_c (ok_c pT_90 pY_90 (x_callV (n := 3) (C := RX4) (T := TX4) (N := 6) rfl rfl kw551 kw552 kw553 kw59 kw554 (by decide +kernel) dL_law_848)) <|
  fa_c (ok_p (xg_load _ _ _) (x_aload_n dL_law_851 rfl)) <|
  fa_c (ok_p (xg_load _ _ _) (x_aload_n dL_law_852 rfl)) <|
  fa_c (ok_p (xg_load _ _ _) (x_iload_n dL_law_853 rfl)) <|
  fa_c (ok_p (xg_st _ _) (x_iconst dL_law_854 rfl)) <|
  fa_c (ok_p (xg_st _ _) (x_iadd dL_law_855)) <|
  fa_c (ok_p (xg_sld _ _ _) (x_sld hZLt dL_law_856)) <|
  fa_c (ok_p (xg_load _ _ _) (x_aload_n dL_law_857 rfl)) <|
  fa_c (ok_p (xg_load _ _ _) (x_iload_n dL_law_858 rfl)) <|
  fa_c (ok_p (xg_st _ _) (x_iconst dL_law_859 rfl)) <|
  fa_c (ok_p (xg_st _ _) (x_iadd dL_law_860)) <|
  fa_c (ok_p (xg_sld _ _ _) (x_sld hZLt dL_law_861)) <|
  fa_c (ok_p (xg_load _ _ _) (x_aload_n dL_law_862 rfl)) <|
  fa_c (ok_p (xg_load _ _ _) (x_iload_n dL_law_863 rfl)) <|
  fa_c (ok_p (xg_st _ _) (x_iconst dL_law_864 rfl)) <|
  fa_c (ok_p (xg_st _ _) (x_iadd dL_law_865)) <|
  fa_c (ok_p (xg_sld _ _ _) (x_sld hZLt dL_law_866)) <|
  fa_c (ok_c pT_178 pY_178 (x_callV (n := 3) (C := RX5) (T := TX5) (N := 34) rfl rfl kw1007 kw1008 kw1009 kw63 kw1010 (by decide +kernel) dL_law_867)) <|
  fa_n
set_option maxRecDepth 20000 in
theorem tkL_10 (L : Nat) (xs : Nat → Int32) : ∀ q ∈ tbL_10 L xs, xOk (ZL L xs) RL cL_law 4 (some .boolean) pT pY q :=
  fa_c (ok_p (xg_st _ _) (x_lcmp dL_law_870)) <|
  fa_c (ok_p (xg_if _ _ _) (x_if_eq dL_law_871 (by decide))) <|
  fa_c (ok_p (xg_st _ _) (x_iconst dL_law_874 rfl)) <|
  fa_c (ok_r ⟨rfl, dL_law_875⟩) <|
  fa_c (ok_p (xg_load _ _ _) (x_aload_n dL_law_876 rfl)) <|
  fa_c (ok_p (xg_load _ _ _) (x_aload_n dL_law_877 rfl)) <|
  fa_c (ok_p (xg_load _ _ _) (x_iload_n dL_law_878 rfl)) <|
  fa_c (ok_p (xg_st _ _) (x_iconst dL_law_879 rfl)) <|
  fa_c (ok_p (xg_st _ _) (x_iadd dL_law_880)) <|
  fa_c (ok_p (xg_sld _ _ _) (x_sld hZLt dL_law_881)) <|
  fa_c (ok_p (xg_load _ _ _) (x_aload_n dL_law_882 rfl)) <|
  fa_c (ok_p (xg_load _ _ _) (x_iload_n dL_law_883 rfl)) <|
  fa_c (ok_p (xg_st _ _) (x_iconst dL_law_884 rfl)) <|
  fa_c (ok_p (xg_st _ _) (x_iadd dL_law_885)) <|
  fa_c (ok_p (xg_sld _ _ _) (x_sld hZLt dL_law_886)) <|
  fa_c (ok_p (xg_load _ _ _) (x_aload_n dL_law_887 rfl)) <|
  fa_c (ok_p (xg_load _ _ _) (x_iload_n dL_law_888 rfl)) <|
  fa_c (ok_p (xg_st _ _) (x_iconst dL_law_889 rfl)) <|
  fa_c (ok_p (xg_st _ _) (x_iadd dL_law_890)) <|
  fa_c (ok_p (xg_sld _ _ _) (x_sld hZLt dL_law_891)) <|
  fa_c (ok_c pT_91 pY_91 (x_callV (n := 3) (C := RX4) (T := TX4) (N := 6) rfl rfl kw566 kw567 kw568 kw59 kw569 (by decide +kernel) dL_law_892)) <|
  fa_c (ok_p (xg_load _ _ _) (x_aload_n dL_law_895 rfl)) <|
  fa_c (ok_p (xg_load _ _ _) (x_aload_n dL_law_896 rfl)) <|
  fa_c (ok_p (xg_load _ _ _) (x_iload_n dL_law_897 rfl)) <|
  fa_c (ok_p (xg_st _ _) (x_iconst dL_law_898 rfl)) <|
  fa_c (ok_p (xg_st _ _) (x_iadd dL_law_899)) <|
  fa_c (ok_p (xg_sld _ _ _) (x_sld hZLt dL_law_900)) <|
  fa_c (ok_p (xg_load _ _ _) (x_aload_n dL_law_901 rfl)) <|
  fa_c (ok_p (xg_load _ _ _) (x_iload_n dL_law_902 rfl)) <|
  fa_c (ok_p (xg_st _ _) (x_iconst dL_law_903 rfl)) <|
  fa_c (ok_p (xg_st _ _) (x_iadd dL_law_904)) <|
  fa_c (ok_p (xg_sld _ _ _) (x_sld hZLt dL_law_905)) <|
  fa_c (ok_p (xg_load _ _ _) (x_aload_n dL_law_906 rfl)) <|
  fa_c (ok_p (xg_load _ _ _) (x_iload_n dL_law_907 rfl)) <|
  fa_c (ok_p (xg_st _ _) (x_iconst dL_law_908 rfl)) <|
  fa_c (ok_p (xg_st _ _) (x_iadd dL_law_909)) <|
  fa_c (ok_p (xg_sld _ _ _) (x_sld hZLt dL_law_910)) <|
  fa_c (ok_c pT_180 pY_180 (x_callV (n := 3) (C := RX5) (T := TX5) (N := 34) rfl rfl kw1014 kw1015 kw1016 kw63 kw1017 (by decide +kernel) dL_law_911)) <|
  fa_c (ok_p (xg_icmp _ _ _) (x_icmp_eq dL_law_914 (by decide))) <|
  fa_c (ok_p (xg_st _ _) (x_iconst dL_law_917 rfl)) <|
  fa_c (ok_r ⟨rfl, dL_law_918⟩) <|
  fa_c (ok_p (xg_load _ _ _) (x_aload_n dL_law_919 rfl)) <|
  fa_c (ok_p (xg_load _ _ _) (x_aload_n dL_law_920 rfl)) <|
  fa_c (ok_p (xg_load _ _ _) (x_iload_n dL_law_921 rfl)) <|
  fa_c (ok_p (xg_st _ _) (x_iconst dL_law_922 rfl)) <|
  fa_c (ok_p (xg_st _ _) (x_iadd dL_law_923)) <|
  fa_c (ok_p (xg_sld _ _ _) (x_sld hZLt dL_law_924)) <|
  fa_c (ok_c pT_92 pY_92 (x_callV (n := 1) (C := RX4) (T := TX4) (N := 6) rfl rfl kw577 kw578 kw579 kw59 kw580 (by decide +kernel) dL_law_925)) <|
  fa_c (ok_p (xg_load _ _ _) (x_aload_n dL_law_928 rfl)) <|
  fa_c (ok_p (xg_load _ _ _) (x_aload_n dL_law_929 rfl)) <|
  fa_c (ok_p (xg_load _ _ _) (x_iload_n dL_law_930 rfl)) <|
  fa_c (ok_p (xg_st _ _) (x_iconst dL_law_931 rfl)) <|
  fa_c (ok_p (xg_st _ _) (x_iadd dL_law_932)) <|
  fa_c (ok_p (xg_sld _ _ _) (x_sld hZLt dL_law_933)) <|
  fa_c (ok_c pT_181 pY_181 (x_callV (n := 1) (C := RX5) (T := TX5) (N := 34) rfl rfl kw1018 kw1019 kw1020 kw63 kw1021 (by decide +kernel) dL_law_934)) <|
  fa_c (ok_p (xg_icmp _ _ _) (x_icmp_eq dL_law_937 (by decide))) <|
  fa_c (ok_p (xg_st _ _) (x_iconst dL_law_940 rfl)) <|
  fa_c (ok_r ⟨rfl, dL_law_941⟩) <|
  fa_c (ok_p (xg_load _ _ _) (x_aload_n dL_law_942 rfl)) <|
  fa_c (ok_p (xg_load _ _ _) (x_aload_n dL_law_943 rfl)) <|
  fa_n
set_option maxRecDepth 20000 in
theorem tkL_11 (L : Nat) (xs : Nat → Int32) : ∀ q ∈ tbL_11 L xs, xOk (ZL L xs) RL cL_law 4 (some .boolean) pT pY q :=
  fa_c (ok_p (xg_load _ _ _) (x_iload_n dL_law_944 rfl)) <|
  fa_c (ok_p (xg_st _ _) (x_iconst dL_law_945 rfl)) <|
  fa_c (ok_p (xg_st _ _) (x_iadd dL_law_946)) <|
  fa_c (ok_p (xg_sld _ _ _) (x_sld hZLt dL_law_947)) <|
  fa_c (ok_p (xg_load _ _ _) (x_aload_n dL_law_948 rfl)) <|
  fa_c (ok_p (xg_load _ _ _) (x_iload_n dL_law_949 rfl)) <|
  fa_c (ok_p (xg_st _ _) (x_iconst dL_law_950 rfl)) <|
  fa_c (ok_p (xg_st _ _) (x_iadd dL_law_951)) <|
  fa_c (ok_p (xg_sld _ _ _) (x_sld hZLt dL_law_952)) <|
  fa_c (ok_p (xg_load _ _ _) (x_aload_n dL_law_953 rfl)) <|
  fa_c (ok_p (xg_load _ _ _) (x_iload_n dL_law_954 rfl)) <|
  fa_c (ok_p (xg_st _ _) (x_iconst dL_law_955 rfl)) <|
  fa_c (ok_p (xg_st _ _) (x_iadd dL_law_956)) <|
  fa_c (ok_p (xg_sld _ _ _) (x_sld hZLt dL_law_957)) <|
  fa_c (ok_c pT_93 pY_93 (x_callV (n := 3) (C := RX4) (T := TX4) (N := 6) rfl rfl kw586 kw587 kw588 kw59 kw589 (by decide +kernel) dL_law_958)) <|
  fa_c (ok_p (xg_load _ _ _) (x_aload_n dL_law_961 rfl)) <|
  fa_c (ok_p (xg_load _ _ _) (x_aload_n dL_law_962 rfl)) <|
  fa_c (ok_p (xg_load _ _ _) (x_iload_n dL_law_963 rfl)) <|
  fa_c (ok_p (xg_st _ _) (x_iconst dL_law_964 rfl)) <|
  fa_c (ok_p (xg_st _ _) (x_iadd dL_law_965)) <|
  fa_c (ok_p (xg_sld _ _ _) (x_sld hZLt dL_law_966)) <|
  fa_c (ok_p (xg_load _ _ _) (x_aload_n dL_law_967 rfl)) <|
  fa_c (ok_p (xg_load _ _ _) (x_iload_n dL_law_968 rfl)) <|
  fa_c (ok_p (xg_st _ _) (x_iconst dL_law_969 rfl)) <|
  fa_c (ok_p (xg_st _ _) (x_iadd dL_law_970)) <|
  fa_c (ok_p (xg_sld _ _ _) (x_sld hZLt dL_law_971)) <|
  fa_c (ok_p (xg_load _ _ _) (x_aload_n dL_law_972 rfl)) <|
  fa_c (ok_p (xg_load _ _ _) (x_iload_n dL_law_973 rfl)) <|
  fa_c (ok_p (xg_st _ _) (x_iconst dL_law_974 rfl)) <|
  fa_c (ok_p (xg_st _ _) (x_iadd dL_law_975)) <|
  fa_c (ok_p (xg_sld _ _ _) (x_sld hZLt dL_law_976)) <|
  fa_c (ok_c pT_183 pY_183 (x_callV (n := 3) (C := RX5) (T := TX5) (N := 34) rfl rfl kw1022 kw1023 kw1024 kw63 kw1025 (by decide +kernel) dL_law_977)) <|
  fa_c (ok_p (xg_icmp _ _ _) (x_icmp_eq dL_law_980 (by decide))) <|
  fa_c (ok_p (xg_st _ _) (x_iconst dL_law_983 rfl)) <|
  fa_c (ok_r ⟨rfl, dL_law_984⟩) <|
  fa_c (ok_p (xg_load _ _ _) (x_aload_n dL_law_985 rfl)) <|
  fa_c (ok_p (xg_load _ _ _) (x_aload_n dL_law_986 rfl)) <|
  fa_c (ok_p (xg_load _ _ _) (x_iload_n dL_law_987 rfl)) <|
  fa_c (ok_p (xg_st _ _) (x_iconst dL_law_988 rfl)) <|
  fa_c (ok_p (xg_st _ _) (x_iadd dL_law_989)) <|
  fa_c (ok_p (xg_sld _ _ _) (x_sld hZLt dL_law_990)) <|
  fa_c (ok_p (xg_load _ _ _) (x_aload_n dL_law_991 rfl)) <|
  fa_c (ok_p (xg_load _ _ _) (x_iload_n dL_law_992 rfl)) <|
  fa_c (ok_p (xg_st _ _) (x_iconst dL_law_993 rfl)) <|
  fa_c (ok_p (xg_st _ _) (x_iadd dL_law_994)) <|
  fa_c (ok_p (xg_sld _ _ _) (x_sld hZLt dL_law_995)) <|
  fa_c (ok_p (xg_load _ _ _) (x_aload_n dL_law_996 rfl)) <|
  fa_c (ok_p (xg_load _ _ _) (x_iload_n dL_law_997 rfl)) <|
  fa_c (ok_p (xg_st _ _) (x_iconst dL_law_998 rfl)) <|
  fa_c (ok_p (xg_st _ _) (x_iadd dL_law_999)) <|
  fa_c (ok_p (xg_sld _ _ _) (x_sld hZLt dL_law_1000)) <|
  fa_c (ok_c pT_94 pY_94 (x_callV (n := 3) (C := RX4) (T := TX4) (N := 6) rfl rfl kw600 kw601 kw602 kw59 kw603 (by decide +kernel) dL_law_1001)) <|
  fa_c (ok_p (xg_load _ _ _) (x_aload_n dL_law_1004 rfl)) <|
  fa_c (ok_p (xg_load _ _ _) (x_aload_n dL_law_1005 rfl)) <|
  fa_c (ok_p (xg_load _ _ _) (x_iload_n dL_law_1006 rfl)) <|
  fa_c (ok_p (xg_st _ _) (x_iconst dL_law_1007 rfl)) <|
  fa_c (ok_p (xg_st _ _) (x_iadd dL_law_1008)) <|
  fa_c (ok_p (xg_sld _ _ _) (x_sld hZLt dL_law_1009)) <|
  fa_c (ok_p (xg_load _ _ _) (x_aload_n dL_law_1010 rfl)) <|
  fa_c (ok_p (xg_load _ _ _) (x_iload_n dL_law_1011 rfl)) <|
  fa_n
set_option maxRecDepth 20000 in
theorem tkL_12 (L : Nat) (xs : Nat → Int32) : ∀ q ∈ tbL_12 L xs, xOk (ZL L xs) RL cL_law 4 (some .boolean) pT pY q :=
  fa_c (ok_p (xg_st _ _) (x_iconst dL_law_1012 rfl)) <|
  fa_c (ok_p (xg_st _ _) (x_iadd dL_law_1013)) <|
  fa_c (ok_p (xg_sld _ _ _) (x_sld hZLt dL_law_1014)) <|
  fa_c (ok_p (xg_load _ _ _) (x_aload_n dL_law_1015 rfl)) <|
  fa_c (ok_p (xg_load _ _ _) (x_iload_n dL_law_1016 rfl)) <|
  fa_c (ok_p (xg_st _ _) (x_iconst dL_law_1017 rfl)) <|
  fa_c (ok_p (xg_st _ _) (x_iadd dL_law_1018)) <|
  fa_c (ok_p (xg_sld _ _ _) (x_sld hZLt dL_law_1019)) <|
  fa_c (ok_c pT_184 pY_184 (x_callV (n := 3) (C := RX5) (T := TX5) (N := 34) rfl rfl kw1030 kw1031 kw1032 kw63 kw1033 (by decide +kernel) dL_law_1020)) <|
  fa_c (ok_p (xg_st _ _) (x_lcmp dL_law_1023)) <|
  fa_c (ok_p (xg_if _ _ _) (x_if_eq dL_law_1024 (by decide))) <|
  fa_c (ok_p (xg_st _ _) (x_iconst dL_law_1027 rfl)) <|
  fa_c (ok_r ⟨rfl, dL_law_1028⟩) <|
  fa_c (ok_p (xg_load _ _ _) (x_aload_n dL_law_1029 rfl)) <|
  fa_c (ok_p (xg_load _ _ _) (x_aload_n dL_law_1030 rfl)) <|
  fa_c (ok_p (xg_load _ _ _) (x_iload_n dL_law_1031 rfl)) <|
  fa_c (ok_p (xg_st _ _) (x_iconst dL_law_1032 rfl)) <|
  fa_c (ok_p (xg_st _ _) (x_iadd dL_law_1033)) <|
  fa_c (ok_p (xg_sld _ _ _) (x_sld hZLt dL_law_1034)) <|
  fa_c (ok_p (xg_load _ _ _) (x_aload_n dL_law_1035 rfl)) <|
  fa_c (ok_p (xg_load _ _ _) (x_iload_n dL_law_1036 rfl)) <|
  fa_c (ok_p (xg_st _ _) (x_iconst dL_law_1037 rfl)) <|
  fa_c (ok_p (xg_st _ _) (x_iadd dL_law_1038)) <|
  fa_c (ok_p (xg_sld _ _ _) (x_sld hZLt dL_law_1039)) <|
  fa_c (ok_p (xg_load _ _ _) (x_aload_n dL_law_1040 rfl)) <|
  fa_c (ok_p (xg_load _ _ _) (x_iload_n dL_law_1041 rfl)) <|
  fa_c (ok_p (xg_st _ _) (x_iconst dL_law_1042 rfl)) <|
  fa_c (ok_p (xg_st _ _) (x_iadd dL_law_1043)) <|
  fa_c (ok_p (xg_sld _ _ _) (x_sld hZLt dL_law_1044)) <|
  fa_c (ok_p (xg_load _ _ _) (x_aload_n dL_law_1045 rfl)) <|
  fa_c (ok_p (xg_load _ _ _) (x_iload_n dL_law_1046 rfl)) <|
  fa_c (ok_p (xg_st _ _) (x_iconst dL_law_1047 rfl)) <|
  fa_c (ok_p (xg_st _ _) (x_iadd dL_law_1048)) <|
  fa_c (ok_p (xg_sld _ _ _) (x_sld hZLt dL_law_1049)) <|
  fa_c (ok_p (xg_load _ _ _) (x_aload_n dL_law_1050 rfl)) <|
  fa_c (ok_p (xg_load _ _ _) (x_iload_n dL_law_1051 rfl)) <|
  fa_c (ok_p (xg_st _ _) (x_iconst dL_law_1052 rfl)) <|
  fa_c (ok_p (xg_st _ _) (x_iadd dL_law_1053)) <|
  fa_c (ok_p (xg_sld _ _ _) (x_sld hZLt dL_law_1054)) <|
  fa_c (ok_c pT_95 pY_95 (x_callV (n := 5) (C := RX4) (T := TX4) (N := 6) rfl rfl kw604 kw605 kw606 kw59 kw607 (by decide +kernel) dL_law_1055)) <|
  fa_c (ok_p (xg_load _ _ _) (x_aload_n dL_law_1058 rfl)) <|
  fa_c (ok_p (xg_load _ _ _) (x_aload_n dL_law_1059 rfl)) <|
  fa_c (ok_p (xg_load _ _ _) (x_iload_n dL_law_1060 rfl)) <|
  fa_c (ok_p (xg_st _ _) (x_iconst dL_law_1061 rfl)) <|
  fa_c (ok_p (xg_st _ _) (x_iadd dL_law_1062)) <|
  fa_c (ok_p (xg_sld _ _ _) (x_sld hZLt dL_law_1063)) <|
  fa_c (ok_p (xg_load _ _ _) (x_aload_n dL_law_1064 rfl)) <|
  fa_c (ok_p (xg_load _ _ _) (x_iload_n dL_law_1065 rfl)) <|
  fa_c (ok_p (xg_st _ _) (x_iconst dL_law_1066 rfl)) <|
  fa_c (ok_p (xg_st _ _) (x_iadd dL_law_1067)) <|
  fa_c (ok_p (xg_sld _ _ _) (x_sld hZLt dL_law_1068)) <|
  fa_c (ok_p (xg_load _ _ _) (x_aload_n dL_law_1069 rfl)) <|
  fa_c (ok_p (xg_load _ _ _) (x_iload_n dL_law_1070 rfl)) <|
  fa_c (ok_p (xg_st _ _) (x_iconst dL_law_1071 rfl)) <|
  fa_c (ok_p (xg_st _ _) (x_iadd dL_law_1072)) <|
  fa_c (ok_p (xg_sld _ _ _) (x_sld hZLt dL_law_1073)) <|
  fa_c (ok_p (xg_load _ _ _) (x_aload_n dL_law_1074 rfl)) <|
  fa_c (ok_p (xg_load _ _ _) (x_iload_n dL_law_1075 rfl)) <|
  fa_c (ok_p (xg_st _ _) (x_iconst dL_law_1076 rfl)) <|
  fa_c (ok_p (xg_st _ _) (x_iadd dL_law_1077)) <|
  fa_n
set_option maxRecDepth 20000 in
theorem tkL_13 (L : Nat) (xs : Nat → Int32) : ∀ q ∈ tbL_13 L xs, xOk (ZL L xs) RL cL_law 4 (some .boolean) pT pY q :=
  fa_c (ok_p (xg_sld _ _ _) (x_sld hZLt dL_law_1078)) <|
  fa_c (ok_p (xg_load _ _ _) (x_aload_n dL_law_1079 rfl)) <|
  fa_c (ok_p (xg_load _ _ _) (x_iload_n dL_law_1080 rfl)) <|
  fa_c (ok_p (xg_st _ _) (x_iconst dL_law_1081 rfl)) <|
  fa_c (ok_p (xg_st _ _) (x_iadd dL_law_1082)) <|
  fa_c (ok_p (xg_sld _ _ _) (x_sld hZLt dL_law_1083)) <|
  fa_c (ok_c pT_186 pY_186 (x_callV (n := 5) (C := RX5) (T := TX5) (N := 34) rfl rfl kw1038 kw1039 kw1040 kw63 kw1041 (by decide +kernel) dL_law_1084)) <|
  fa_c (ok_p (xg_icmp _ _ _) (x_icmp_eq dL_law_1087 (by decide))) <|
  fa_c (ok_p (xg_st _ _) (x_iconst dL_law_1090 rfl)) <|
  fa_c (ok_r ⟨rfl, dL_law_1091⟩) <|
  fa_c (ok_p (xg_load _ _ _) (x_aload_n dL_law_1092 rfl)) <|
  fa_c (ok_p (xg_load _ _ _) (x_aload_n dL_law_1093 rfl)) <|
  fa_c (ok_p (xg_load _ _ _) (x_iload_n dL_law_1094 rfl)) <|
  fa_c (ok_p (xg_st _ _) (x_iconst dL_law_1095 rfl)) <|
  fa_c (ok_p (xg_st _ _) (x_iadd dL_law_1096)) <|
  fa_c (ok_p (xg_sld _ _ _) (x_sld hZLt dL_law_1097)) <|
  fa_c (ok_c pT_96 pY_96 (x_callV (n := 1) (C := RX4) (T := TX4) (N := 6) rfl rfl kw612 kw613 kw614 kw59 kw615 (by decide +kernel) dL_law_1098)) <|
  fa_c (ok_p (xg_load _ _ _) (x_aload_n dL_law_1101 rfl)) <|
  fa_c (ok_p (xg_load _ _ _) (x_aload_n dL_law_1102 rfl)) <|
  fa_c (ok_p (xg_load _ _ _) (x_iload_n dL_law_1103 rfl)) <|
  fa_c (ok_p (xg_st _ _) (x_iconst dL_law_1104 rfl)) <|
  fa_c (ok_p (xg_st _ _) (x_iadd dL_law_1105)) <|
  fa_c (ok_p (xg_sld _ _ _) (x_sld hZLt dL_law_1106)) <|
  fa_c (ok_c pT_188 pY_188 (x_callV (n := 1) (C := RX5) (T := TX5) (N := 34) rfl rfl kw1042 kw1043 kw1044 kw63 kw1045 (by decide +kernel) dL_law_1107)) <|
  fa_c (ok_p (xg_icmp _ _ _) (x_icmp_eq dL_law_1110 (by decide))) <|
  fa_c (ok_p (xg_st _ _) (x_iconst dL_law_1113 rfl)) <|
  fa_c (ok_r ⟨rfl, dL_law_1114⟩) <|
  fa_c (ok_p (xg_load _ _ _) (x_aload_n dL_law_1115 rfl)) <|
  fa_c (ok_p (xg_load _ _ _) (x_aload_n dL_law_1116 rfl)) <|
  fa_c (ok_p (xg_load _ _ _) (x_iload_n dL_law_1117 rfl)) <|
  fa_c (ok_p (xg_st _ _) (x_iconst dL_law_1118 rfl)) <|
  fa_c (ok_p (xg_st _ _) (x_iadd dL_law_1119)) <|
  fa_c (ok_p (xg_sld _ _ _) (x_sld hZLt dL_law_1120)) <|
  fa_c (ok_c pT_97 pY_97 (x_callV (n := 1) (C := RX4) (T := TX4) (N := 6) rfl rfl kw632 kw633 kw634 kw59 kw635 (by decide +kernel) dL_law_1121)) <|
  fa_c (ok_p (xg_load _ _ _) (x_aload_n dL_law_1124 rfl)) <|
  fa_c (ok_p (xg_load _ _ _) (x_aload_n dL_law_1125 rfl)) <|
  fa_c (ok_p (xg_load _ _ _) (x_iload_n dL_law_1126 rfl)) <|
  fa_c (ok_p (xg_st _ _) (x_iconst dL_law_1127 rfl)) <|
  fa_c (ok_p (xg_st _ _) (x_iadd dL_law_1128)) <|
  fa_c (ok_p (xg_sld _ _ _) (x_sld hZLt dL_law_1129)) <|
  fa_c (ok_c pT_189 pY_189 (x_callV (n := 1) (C := RX5) (T := TX5) (N := 34) rfl rfl kw1050 kw1051 kw1052 kw63 kw1053 (by decide +kernel) dL_law_1130)) <|
  fa_c (ok_p (xg_icmp _ _ _) (x_icmp_eq dL_law_1133 (by decide))) <|
  fa_c (ok_p (xg_st _ _) (x_iconst dL_law_1136 rfl)) <|
  fa_c (ok_r ⟨rfl, dL_law_1137⟩) <|
  fa_c (ok_p (xg_load _ _ _) (x_aload_n dL_law_1138 rfl)) <|
  fa_c (ok_p (xg_load _ _ _) (x_aload_n dL_law_1139 rfl)) <|
  fa_c (ok_p (xg_load _ _ _) (x_iload_n dL_law_1140 rfl)) <|
  fa_c (ok_p (xg_st _ _) (x_iconst dL_law_1141 rfl)) <|
  fa_c (ok_p (xg_st _ _) (x_iadd dL_law_1142)) <|
  fa_c (ok_p (xg_sld _ _ _) (x_sld hZLt dL_law_1143)) <|
  fa_c (ok_p (xg_load _ _ _) (x_aload_n dL_law_1144 rfl)) <|
  fa_c (ok_p (xg_load _ _ _) (x_iload_n dL_law_1145 rfl)) <|
  fa_c (ok_p (xg_st _ _) (x_iconst dL_law_1146 rfl)) <|
  fa_c (ok_p (xg_st _ _) (x_iadd dL_law_1147)) <|
  fa_c (ok_p (xg_sld _ _ _) (x_sld hZLt dL_law_1148)) <|
  fa_c (ok_c pT_98 pY_98 (x_callV (n := 2) (C := RX4) (T := TX4) (N := 6) rfl rfl kw644 kw645 kw646 kw59 kw647 (by decide +kernel) dL_law_1149)) <|
  fa_c (ok_p (xg_load _ _ _) (x_aload_n dL_law_1152 rfl)) <|
  fa_c (ok_p (xg_load _ _ _) (x_aload_n dL_law_1153 rfl)) <|
  fa_c (ok_p (xg_load _ _ _) (x_iload_n dL_law_1154 rfl)) <|
  fa_c (ok_p (xg_st _ _) (x_iconst dL_law_1155 rfl)) <|
  fa_n
set_option maxRecDepth 20000 in
theorem tkL_14 (L : Nat) (xs : Nat → Int32) : ∀ q ∈ tbL_14 L xs, xOk (ZL L xs) RL cL_law 4 (some .boolean) pT pY q :=
  fa_c (ok_p (xg_st _ _) (x_iadd dL_law_1156)) <|
  fa_c (ok_p (xg_sld _ _ _) (x_sld hZLt dL_law_1157)) <|
  fa_c (ok_p (xg_load _ _ _) (x_aload_n dL_law_1158 rfl)) <|
  fa_c (ok_p (xg_load _ _ _) (x_iload_n dL_law_1159 rfl)) <|
  fa_c (ok_p (xg_st _ _) (x_iconst dL_law_1160 rfl)) <|
  fa_c (ok_p (xg_st _ _) (x_iadd dL_law_1161)) <|
  fa_c (ok_p (xg_sld _ _ _) (x_sld hZLt dL_law_1162)) <|
  fa_c (ok_c pT_190 pY_190 (x_callV (n := 2) (C := RX5) (T := TX5) (N := 34) rfl rfl kw1054 kw1055 kw1056 kw63 kw1057 (by decide +kernel) dL_law_1163)) <|
  fa_c (ok_p (xg_icmp _ _ _) (x_icmp_eq dL_law_1166 (by decide))) <|
  fa_c (ok_p (xg_st _ _) (x_iconst dL_law_1169 rfl)) <|
  fa_c (ok_r ⟨rfl, dL_law_1170⟩) <|
  fa_c (ok_p (xg_load _ _ _) (x_aload_n dL_law_1171 rfl)) <|
  fa_c (ok_c pT_99 pY_99 (x_callV (n := 0) (C := RX4) (T := TX4) (N := 6) rfl rfl kw648 kw649 kw650 kw59 kw651 (by decide +kernel) dL_law_1172)) <|
  fa_c (ok_p (xg_load _ _ _) (x_aload_n dL_law_1175 rfl)) <|
  fa_c (ok_c pT_191 pY_191 (x_callV (n := 0) (C := RX5) (T := TX5) (N := 34) rfl rfl kw1058 kw1059 kw1060 kw63 kw1061 (by decide +kernel) dL_law_1176)) <|
  fa_c (ok_p (xg_icmp _ _ _) (x_icmp_eq dL_law_1179 (by decide))) <|
  fa_c (ok_p (xg_st _ _) (x_iconst dL_law_1182 rfl)) <|
  fa_c (ok_r ⟨rfl, dL_law_1183⟩) <|
  fa_c (ok_p (xg_load _ _ _) (x_aload_n dL_law_1184 rfl)) <|
  fa_c (ok_c pT_100 pY_100 (x_callV (n := 0) (C := RX4) (T := TX4) (N := 6) rfl rfl kw652 kw653 kw654 kw59 kw655 (by decide +kernel) dL_law_1185)) <|
  fa_c (ok_p (xg_load _ _ _) (x_aload_n dL_law_1188 rfl)) <|
  fa_c (ok_c pT_192 pY_192 (x_callV (n := 0) (C := RX5) (T := TX5) (N := 34) rfl rfl kw1062 kw1063 kw1064 kw63 kw1065 (by decide +kernel) dL_law_1189)) <|
  fa_c (ok_p (xg_icmp _ _ _) (x_icmp_eq dL_law_1192 (by decide))) <|
  fa_c (ok_p (xg_st _ _) (x_iconst dL_law_1195 rfl)) <|
  fa_c (ok_r ⟨rfl, dL_law_1196⟩) <|
  fa_c (ok_p (xg_load _ _ _) (x_aload_n dL_law_1197 rfl)) <|
  fa_c (ok_p (xg_load _ _ _) (x_aload_n dL_law_1198 rfl)) <|
  fa_c (ok_p (xg_load _ _ _) (x_iload_n dL_law_1199 rfl)) <|
  fa_c (ok_p (xg_st _ _) (x_iconst dL_law_1200 rfl)) <|
  fa_c (ok_p (xg_st _ _) (x_iadd dL_law_1201)) <|
  fa_c (ok_p (xg_sld _ _ _) (x_sld hZLt dL_law_1202)) <|
  fa_c (ok_c pT_101 pY_101 (x_callV (n := 1) (C := RX4) (T := TX4) (N := 6) rfl rfl kw656 kw657 kw658 kw59 kw659 (by decide +kernel) dL_law_1203)) <|
  fa_c (ok_p (xg_load _ _ _) (x_aload_n dL_law_1206 rfl)) <|
  fa_c (ok_p (xg_load _ _ _) (x_aload_n dL_law_1207 rfl)) <|
  fa_c (ok_p (xg_load _ _ _) (x_iload_n dL_law_1208 rfl)) <|
  fa_c (ok_p (xg_st _ _) (x_iconst dL_law_1209 rfl)) <|
  fa_c (ok_p (xg_st _ _) (x_iadd dL_law_1210)) <|
  fa_c (ok_p (xg_sld _ _ _) (x_sld hZLt dL_law_1211)) <|
  fa_c (ok_c pT_193 pY_193 (x_callV (n := 1) (C := RX5) (T := TX5) (N := 34) rfl rfl kw1066 kw1067 kw1068 kw63 kw1069 (by decide +kernel) dL_law_1212)) <|
  fa_c (ok_p (xg_icmp _ _ _) (x_icmp_eq dL_law_1215 (by decide))) <|
  fa_c (ok_p (xg_st _ _) (x_iconst dL_law_1218 rfl)) <|
  fa_c (ok_r ⟨rfl, dL_law_1219⟩) <|
  fa_c (ok_p (xg_iinc _ _ _) (x_iinc dL_law_1220 rfl)) <|
  fa_c (ok_p (xg_st _ _) (x_goto dL_law_1223 (by decide))) <|
  fa_c (ok_p (xg_st _ _) (x_iconst dL_law_1226 rfl)) <|
  fa_c (ok_r ⟨rfl, dL_law_1227⟩) <|
  fa_n
theorem tkL (L : Nat) (xs : Nat → Int32) : ∀ q ∈ tbL L xs, xOk (ZL L xs) RL cL_law 4 (some .boolean) pT pY q := List.forall_mem_append.mpr ⟨tkL_0 L xs, List.forall_mem_append.mpr ⟨tkL_1 L xs, List.forall_mem_append.mpr ⟨tkL_2 L xs, List.forall_mem_append.mpr ⟨tkL_3 L xs, List.forall_mem_append.mpr ⟨tkL_4 L xs, List.forall_mem_append.mpr ⟨tkL_5 L xs, List.forall_mem_append.mpr ⟨tkL_6 L xs, List.forall_mem_append.mpr ⟨tkL_7 L xs, List.forall_mem_append.mpr ⟨tkL_8 L xs, List.forall_mem_append.mpr ⟨tkL_9 L xs, List.forall_mem_append.mpr ⟨tkL_10 L xs, List.forall_mem_append.mpr ⟨tkL_11 L xs, List.forall_mem_append.mpr ⟨tkL_12 L xs, List.forall_mem_append.mpr ⟨tkL_13 L xs, tkL_14 L xs⟩⟩⟩⟩⟩⟩⟩⟩⟩⟩⟩⟩⟩⟩
set_option maxRecDepth 20000 in
theorem nest_in : ∀ q ∈ xNl, Cond.methodLinkNest q.1 q.2.1 q.2.2.1 q.2.2.2 ∈ lw_tbl := List.forall_mem_cons.mpr ⟨List.mem_of_getElem? (i := 80) (by rfl), List.forall_mem_cons.mpr ⟨List.mem_of_getElem? (i := 97) (by rfl), List.forall_mem_cons.mpr ⟨List.mem_of_getElem? (i := 134) (by rfl), List.forall_mem_cons.mpr ⟨List.mem_of_getElem? (i := 526) (by rfl), List.forall_mem_cons.mpr ⟨List.mem_of_getElem? (i := 543) (by rfl), List.forall_mem_cons.mpr ⟨List.mem_of_getElem? (i := 247) (by rfl), List.forall_mem_cons.mpr ⟨List.mem_of_getElem? (i := 257) (by rfl), List.forall_mem_cons.mpr ⟨List.mem_of_getElem? (i := 223) (by rfl), List.forall_mem_cons.mpr ⟨List.mem_of_getElem? (i := 227) (by rfl), List.forall_mem_cons.mpr ⟨List.mem_of_getElem? (i := 207) (by rfl), List.forall_mem_cons.mpr ⟨List.mem_of_getElem? (i := 599) (by rfl), fun _ h => absurd h List.not_mem_nil⟩⟩⟩⟩⟩⟩⟩⟩⟩⟩⟩
set_option maxRecDepth 20000 in
theorem over_in : Cond.arrayOver (.object RX3) ∈ lw_tbl := List.mem_of_getElem? (i := 78) (by rfl)
theorem wtG_in {w : Cond} (h : w ∈ wtG) : w ∈ lw_tbl := (List.mem_filter.mp h).1
theorem law_K {s : State} {args : Array Value} (hts : ∀ w ∈ lw_tbl, w.before args s = true) : ∃ (D : va_G) (cT : ClassId × ClassId), va_K D vwCl (xT cT) s ∧ xN s := by
  obtain ⟨c0, i0, h0⟩ := u_known (C := RX0) (T := TX0) (N := 4) (n := 4) hts (fun w h => wtG_in (inX0 w h)) (hts (.instantiable RX0 4) (wtG_in kw133))
  obtain ⟨c1, i1, h1⟩ := u_known (C := RX1) (T := TX1) (N := 10) (n := 10) hts (fun w h => wtG_in (inX1 w h)) (hts (.instantiable RX1 10) (wtG_in kw96))
  obtain ⟨c2, i2, h2⟩ := u_known (C := RX3) (T := TX3) (N := 3) (n := 3) hts (fun w h => wtG_in (inX3 w h)) (hts (.instantiable RX3 3) (wtG_in kw79))
  obtain ⟨c3, i3, h3⟩ := u_known (C := RX4) (T := TX4) (N := 6) (n := 6) hts (fun w h => wtG_in (inX4 w h)) (hts (.instantiable RX4 6) (wtG_in kw70))
  obtain ⟨c4, i4, h4⟩ := u_known (C := RX5) (T := TX5) (N := 34) (n := 34) hts (fun w h => wtG_in (inX5 w h)) (hts (.instantiable RX5 34) (wtG_in kw673))
  obtain ⟨cA, kA, comp, g1, g2, g3⟩ := Cond.arrayClass_spec (hts (.arrayClass .int) (wtG_in kw94))
  have hov := hts _ over_in
  obtain ⟨comp2, cS, kS, q1, q2, q3, q4, q5⟩ := Cond.arrayOver_spec hov
  refine ⟨(fun k => if k = 0 then c0 else if k = 1 then c1 else if k = 2 then c2 else if k = 3 then c3 else c4, fun k => if k = 0 then i0 else if k = 1 then i1 else if k = 2 then i2 else if k = 3 then i3 else i4), (cA, cS), ⟨fun k q hq => ?_, fun k q hq => ?_⟩, fun q hq => va_Nw.of rfl (hts _ (nest_in q hq)), va_AO.of hov⟩
  · match k, hq with
    | 0, hq => cases hq; exact h0
    | 1, hq => cases hq; exact h1
    | 2, hq => cases hq; exact h2
    | 3, hq => cases hq; exact h3
    | 4, hq => cases hq; exact h4
    | k + 5, hq => simp [vwCl] at hq
  · match k, hq with
    | 0, hq => cases hq; exact ⟨fun n z => ⟨fun k h => (by cases h), kA, g2, comp, g3⟩, g1⟩
    | 1, hq => cases hq; exact ⟨fun N z => ⟨(fun k h => by cases h), kS, q3, comp2, q4⟩, kS, comp2, q3, q4, q1, q5⟩
    | k + 2, hq => simp [xT] at hq
/-- how the law's calls run: eight calls may stand open, in 348 words of locals -/
noncomputable def lawrec (n : Nat) : pRec := fun k as' w' => match pT k with
  | some M' => bif Nat.ble (19 + M'.1) 348 then prun pT 8 (348 - (19 + M'.1)) n k as' w' else none
  | none => none

