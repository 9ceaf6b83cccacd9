/-! THE LAW: its code, its rooms -/
def t_X8_led : List (Nat × Instr × Nat × Nat) := [(0, .aload_n 0, 1, 1), (1, .getfield 70, 3, 4), (4, .ifCond .eq 18, 3, 7), (7, .iload_n 1, 1, 8), (8, .ifCond .lt 14, 3, 11), (11, .aload_n 0, 1, 12), (12, .getfield 35, 3, 15), (15, .iload_n 1, 1, 16), (16, .invokevirtual 335, 3, 19), (19, .goto 4, 3, 22), (22, .iconst (-1), 1, 23), (23, .istore_n 2, 1, 24), (24, .iload_n 2, 1, 25), (25, .ifCond .ge 11, 3, 28), (28, .new 338, 3, 31), (31, .dup, 1, 32), (32, .invokespecial 340, 3, 35), (35, .athrow, 1, 36), (36, .iload_n 2, 1, 37), (37, .ireturn, 1, 38)]
set_option maxRecDepth 100000 in
theorem D_X8_led : dAll cX8_led t_X8_led = true := by decide +kernel
def t_L_led : List (Nat × Instr × Nat × Nat) := [(0, .aload_n 2, 1, 1), (1, .iconst 0, 1, 2), (2, .aload_n 0, 1, 3), (3, .iload_n 1, 1, 4), (4, .invokevirtual 7, 3, 7), (7, .i2l, 1, 8), (8, .lastore, 1, 9), (9, .goto 6, 3, 12), (12, .astore_n 3, 1, 13), (13, .iconst 1, 1, 14), (14, .ireturn, 1, 15), (15, .iconst 0, 1, 16), (16, .ireturn, 1, 17)]
set_option maxRecDepth 100000 in
theorem D_L_led : dAll cL_led t_L_led = true := by decide +kernel
def t_La : List (Nat × Instr × Nat × Nat) := [(0, .new 8, 3, 3), (3, .dup, 1, 4), (4, .invokespecial 15, 3, 7), (7, .astore_n 1, 1, 8), (8, .new 16, 3, 11), (11, .dup, 1, 12), (12, .invokespecial 18, 3, 15), (15, .astore_n 2, 1, 16), (16, .iconst 1, 1, 17), (17, .newarray .long, 2, 19), (19, .astore_n 3, 1, 20), (20, .iconst 0, 1, 21), (21, .istore 4, 2, 23), (23, .iload 4, 2, 25), (25, .aload_n 0, 1, 26), (26, .arraylength, 1, 27), (27, .bipush 6, 2, 29), (29, .isub, 1, 30), (30, .if_icmp .gt 1415, 3, 33), (33, .aload_n 0, 1, 34), (34, .iload 4, 2, 36), (36, .iaload, 1, 37), (37, .bipush 63, 2, 39), (39, .iand, 1, 40)]
set_option maxRecDepth 100000 in
theorem D_La : dAll cL_law t_La = true := by decide +kernel
def t_Lsw : List (Nat × Instr × Nat × Nat) := [(40, .tableswitch 1399 0 50 #[220, 293, 318, 331, 344, 357, 370, 407, 432, 445, 470, 495, 520, 533, 570, 583, 596, 609, 646, 659, 672, 685, 698, 735, 772, 797, 810, 835, 860, 885, 910, 935, 989, 1002, 1027, 1040, 1053, 1066, 1079, 1092, 1129, 1178, 1191, 1216, 1229, 1254, 1267, 1280, 1305, 1361, 1386], 220, 260)]
set_option maxRecDepth 100000 in
theorem D_Lsw : dAll cL_law t_Lsw = true := by decide +kernel
def t_Lz : List (Nat × Instr × Nat × Nat) := [(1439, .iinc 4 6, 3, 1442), (1442, .goto (-1419), 3, 1445), (1445, .iconst 1, 1, 1446), (1446, .ireturn, 1, 1447)]
set_option maxRecDepth 100000 in
theorem D_Lz : dAll cL_law t_Lz = true := by decide +kernel
def t_Lc0 : List (Nat × Instr × Nat × Nat) := [(260, .aload_n 1, 1, 261), (261, .aload_n 0, 1, 262), (262, .iload 4, 2, 264), (264, .iconst 1, 1, 265), (265, .iadd, 1, 266), (266, .iaload, 1, 267), (267, .aload_n 0, 1, 268), (268, .iload 4, 2, 270), (270, .iconst 2, 1, 271), (271, .iadd, 1, 272), (272, .iaload, 1, 273), (273, .aload_n 0, 1, 274), (274, .iload 4, 2, 276), (276, .iconst 3, 1, 277), (277, .iadd, 1, 278), (278, .iaload, 1, 279), (279, .aload_n 0, 1, 280), (280, .iload 4, 2, 282), (282, .iconst 4, 1, 283), (283, .iadd, 1, 284), (284, .iaload, 1, 285), (285, .aload_n 0, 1, 286), (286, .iload 4, 2, 288), (288, .iconst 5, 1, 289), (289, .iadd, 1, 290), (290, .iaload, 1, 291), (291, .invokevirtual 19, 3, 294), (294, .aload_n 2, 1, 295), (295, .aload_n 0, 1, 296), (296, .iload 4, 2, 298), (298, .iconst 1, 1, 299), (299, .iadd, 1, 300), (300, .iaload, 1, 301), (301, .aload_n 0, 1, 302), (302, .iload 4, 2, 304), (304, .iconst 2, 1, 305), (305, .iadd, 1, 306), (306, .iaload, 1, 307), (307, .aload_n 0, 1, 308), (308, .iload 4, 2, 310), (310, .iconst 3, 1, 311), (311, .iadd, 1, 312), (312, .iaload, 1, 313), (313, .aload_n 0, 1, 314), (314, .iload 4, 2, 316), (316, .iconst 4, 1, 317), (317, .iadd, 1, 318), (318, .iaload, 1, 319), (319, .aload_n 0, 1, 320), (320, .iload 4, 2, 322), (322, .iconst 5, 1, 323), (323, .iadd, 1, 324), (324, .iaload, 1, 325), (325, .invokevirtual 23, 3, 328), (328, .if_icmp .eq 1111, 3, 331), (331, .iconst 0, 1, 332), (332, .ireturn, 1, 333)]
set_option maxRecDepth 100000 in
theorem D_Lc0 : dAll cL_law t_Lc0 = true := by decide +kernel
def t_Lc1 : List (Nat × Instr × Nat × Nat) := [(333, .aload_n 1, 1, 334), (334, .aload_n 0, 1, 335), (335, .iload 4, 2, 337), (337, .iconst 1, 1, 338), (338, .iadd, 1, 339), (339, .iaload, 1, 340), (340, .invokevirtual 24, 3, 343), (343, .aload_n 2, 1, 344), (344, .aload_n 0, 1, 345), (345, .iload 4, 2, 347), (347, .iconst 1, 1, 348), (348, .iadd, 1, 349), (349, .iaload, 1, 350), (350, .invokevirtual 27, 3, 353), (353, .if_icmp .eq 1086, 3, 356), (356, .iconst 0, 1, 357), (357, .ireturn, 1, 358)]
set_option maxRecDepth 100000 in
theorem D_Lc1 : dAll cL_law t_Lc1 = true := by decide +kernel
def t_Lc2 : List (Nat × Instr × Nat × Nat) := [(358, .aload_n 1, 1, 359), (359, .invokevirtual 28, 3, 362), (362, .aload_n 2, 1, 363), (363, .invokevirtual 32, 3, 366), (366, .if_icmp .eq 1073, 3, 369), (369, .iconst 0, 1, 370), (370, .ireturn, 1, 371)]
set_option maxRecDepth 100000 in
theorem D_Lc2 : dAll cL_law t_Lc2 = true := by decide +kernel
def t_Lc3 : List (Nat × Instr × Nat × Nat) := [(371, .aload_n 1, 1, 372), (372, .invokevirtual 33, 3, 375), (375, .aload_n 2, 1, 376), (376, .invokevirtual 36, 3, 379), (379, .if_icmp .eq 1060, 3, 382), (382, .iconst 0, 1, 383), (383, .ireturn, 1, 384)]
set_option maxRecDepth 100000 in
theorem D_Lc3 : dAll cL_law t_Lc3 = true := by decide +kernel
def t_Lc4 : List (Nat × Instr × Nat × Nat) := [(384, .aload_n 1, 1, 385), (385, .invokevirtual 37, 3, 388), (388, .aload_n 2, 1, 389), (389, .invokevirtual 40, 3, 392), (392, .if_icmp .eq 1047, 3, 395), (395, .iconst 0, 1, 396), (396, .ireturn, 1, 397)]
set_option maxRecDepth 100000 in
theorem D_Lc4 : dAll cL_law t_Lc4 = true := by decide +kernel
def t_Lc5 : List (Nat × Instr × Nat × Nat) := [(397, .aload_n 1, 1, 398), (398, .invokevirtual 41, 3, 401), (401, .aload_n 2, 1, 402), (402, .invokevirtual 44, 3, 405), (405, .if_icmp .eq 1034, 3, 408), (408, .iconst 0, 1, 409), (409, .ireturn, 1, 410)]
set_option maxRecDepth 100000 in
theorem D_Lc5 : dAll cL_law t_Lc5 = true := by decide +kernel
def t_Lc6 : List (Nat × Instr × Nat × Nat) := [(410, .aload_n 1, 1, 411), (411, .aload_n 0, 1, 412), (412, .iload 4, 2, 414), (414, .iconst 1, 1, 415), (415, .iadd, 1, 416), (416, .iaload, 1, 417), (417, .aload_n 0, 1, 418), (418, .iload 4, 2, 420), (420, .iconst 2, 1, 421), (421, .iadd, 1, 422), (422, .iaload, 1, 423), (423, .invokevirtual 45, 3, 426), (426, .aload_n 2, 1, 427), (427, .aload_n 0, 1, 428), (428, .iload 4, 2, 430), (430, .iconst 1, 1, 431), (431, .iadd, 1, 432), (432, .iaload, 1, 433), (433, .aload_n 0, 1, 434), (434, .iload 4, 2, 436), (436, .iconst 2, 1, 437), (437, .iadd, 1, 438), (438, .iaload, 1, 439), (439, .invokevirtual 49, 3, 442), (442, .if_icmp .eq 997, 3, 445), (445, .iconst 0, 1, 446), (446, .ireturn, 1, 447)]
set_option maxRecDepth 100000 in
theorem D_Lc6 : dAll cL_law t_Lc6 = true := by decide +kernel
def t_Lc7 : List (Nat × Instr × Nat × Nat) := [(447, .aload_n 1, 1, 448), (448, .aload_n 0, 1, 449), (449, .iload 4, 2, 451), (451, .iconst 1, 1, 452), (452, .iadd, 1, 453), (453, .iaload, 1, 454), (454, .invokevirtual 50, 3, 457), (457, .aload_n 2, 1, 458), (458, .aload_n 0, 1, 459), (459, .iload 4, 2, 461), (461, .iconst 1, 1, 462), (462, .iadd, 1, 463), (463, .iaload, 1, 464), (464, .invokevirtual 53, 3, 467), (467, .if_icmp .eq 972, 3, 470), (470, .iconst 0, 1, 471), (471, .ireturn, 1, 472)]
set_option maxRecDepth 100000 in
theorem D_Lc7 : dAll cL_law t_Lc7 = true := by decide +kernel
def t_Lc8 : List (Nat × Instr × Nat × Nat) := [(472, .aload_n 1, 1, 473), (473, .invokevirtual 54, 3, 476), (476, .aload_n 2, 1, 477), (477, .invokevirtual 57, 3, 480), (480, .if_icmp .eq 959, 3, 483), (483, .iconst 0, 1, 484), (484, .ireturn, 1, 485)]
set_option maxRecDepth 100000 in
theorem D_Lc8 : dAll cL_law t_Lc8 = true := by decide +kernel
def t_Lc9 : List (Nat × Instr × Nat × Nat) := [(485, .aload_n 1, 1, 486), (486, .aload_n 0, 1, 487), (487, .iload 4, 2, 489), (489, .iconst 1, 1, 490), (490, .iadd, 1, 491), (491, .iaload, 1, 492), (492, .invokevirtual 58, 3, 495), (495, .aload_n 2, 1, 496), (496, .aload_n 0, 1, 497), (497, .iload 4, 2, 499), (499, .iconst 1, 1, 500), (500, .iadd, 1, 501), (501, .iaload, 1, 502), (502, .invokevirtual 61, 3, 505), (505, .if_icmp .eq 934, 3, 508), (508, .iconst 0, 1, 509), (509, .ireturn, 1, 510)]
set_option maxRecDepth 100000 in
theorem D_Lc9 : dAll cL_law t_Lc9 = true := by decide +kernel
def t_Lc10 : List (Nat × Instr × Nat × Nat) := [(510, .aload_n 1, 1, 511), (511, .aload_n 0, 1, 512), (512, .iload 4, 2, 514), (514, .iconst 1, 1, 515), (515, .iadd, 1, 516), (516, .iaload, 1, 517), (517, .invokevirtual 62, 3, 520), (520, .aload_n 2, 1, 521), (521, .aload_n 0, 1, 522), (522, .iload 4, 2, 524), (524, .iconst 1, 1, 525), (525, .iadd, 1, 526), (526, .iaload, 1, 527), (527, .invokevirtual 65, 3, 530), (530, .if_icmp .eq 909, 3, 533), (533, .iconst 0, 1, 534), (534, .ireturn, 1, 535)]
set_option maxRecDepth 100000 in
theorem D_Lc10 : dAll cL_law t_Lc10 = true := by decide +kernel
def t_Lc11 : List (Nat × Instr × Nat × Nat) := [(535, .aload_n 1, 1, 536), (536, .aload_n 0, 1, 537), (537, .iload 4, 2, 539), (539, .iconst 1, 1, 540), (540, .iadd, 1, 541), (541, .iaload, 1, 542), (542, .invokevirtual 66, 3, 545), (545, .aload_n 2, 1, 546), (546, .aload_n 0, 1, 547), (547, .iload 4, 2, 549), (549, .iconst 1, 1, 550), (550, .iadd, 1, 551), (551, .iaload, 1, 552), (552, .invokevirtual 69, 3, 555), (555, .if_icmp .eq 884, 3, 558), (558, .iconst 0, 1, 559), (559, .ireturn, 1, 560)]
set_option maxRecDepth 100000 in
theorem D_Lc11 : dAll cL_law t_Lc11 = true := by decide +kernel
def t_Lc12 : List (Nat × Instr × Nat × Nat) := [(560, .aload_n 1, 1, 561), (561, .invokevirtual 70, 3, 564), (564, .aload_n 2, 1, 565), (565, .invokevirtual 73, 3, 568), (568, .if_icmp .eq 871, 3, 571), (571, .iconst 0, 1, 572), (572, .ireturn, 1, 573)]
set_option maxRecDepth 100000 in
theorem D_Lc12 : dAll cL_law t_Lc12 = true := by decide +kernel
def t_Lc13 : List (Nat × Instr × Nat × Nat) := [(573, .aload_n 1, 1, 574), (574, .aload_n 0, 1, 575), (575, .iload 4, 2, 577), (577, .iconst 1, 1, 578), (578, .iadd, 1, 579), (579, .iaload, 1, 580), (580, .aload_n 0, 1, 581), (581, .iload 4, 2, 583), (583, .iconst 2, 1, 584), (584, .iadd, 1, 585), (585, .iaload, 1, 586), (586, .invokevirtual 74, 3, 589), (589, .aload_n 2, 1, 590), (590, .aload_n 0, 1, 591), (591, .iload 4, 2, 593), (593, .iconst 1, 1, 594), (594, .iadd, 1, 595), (595, .iaload, 1, 596), (596, .aload_n 0, 1, 597), (597, .iload 4, 2, 599), (599, .iconst 2, 1, 600), (600, .iadd, 1, 601), (601, .iaload, 1, 602), (602, .invokevirtual 77, 3, 605), (605, .if_icmp .eq 834, 3, 608), (608, .iconst 0, 1, 609), (609, .ireturn, 1, 610)]
set_option maxRecDepth 100000 in
theorem D_Lc13 : dAll cL_law t_Lc13 = true := by decide +kernel
def t_Lc14 : List (Nat × Instr × Nat × Nat) := [(610, .aload_n 1, 1, 611), (611, .invokevirtual 78, 3, 614), (614, .aload_n 2, 1, 615), (615, .invokevirtual 81, 3, 618), (618, .if_icmp .eq 821, 3, 621), (621, .iconst 0, 1, 622), (622, .ireturn, 1, 623)]
set_option maxRecDepth 100000 in
theorem D_Lc14 : dAll cL_law t_Lc14 = true := by decide +kernel
def t_Lc15 : List (Nat × Instr × Nat × Nat) := [(623, .aload_n 1, 1, 624), (624, .invokevirtual 82, 3, 627), (627, .aload_n 2, 1, 628), (628, .invokevirtual 85, 3, 631), (631, .if_icmp .eq 808, 3, 634), (634, .iconst 0, 1, 635), (635, .ireturn, 1, 636)]
set_option maxRecDepth 100000 in
theorem D_Lc15 : dAll cL_law t_Lc15 = true := by decide +kernel
def t_Lc16 : List (Nat × Instr × Nat × Nat) := [(636, .aload_n 1, 1, 637), (637, .invokevirtual 86, 3, 640), (640, .aload_n 2, 1, 641), (641, .invokevirtual 89, 3, 644), (644, .if_icmp .eq 795, 3, 647), (647, .iconst 0, 1, 648), (648, .ireturn, 1, 649)]
set_option maxRecDepth 100000 in
theorem D_Lc16 : dAll cL_law t_Lc16 = true := by decide +kernel
def t_Lc17 : List (Nat × Instr × Nat × Nat) := [(649, .aload_n 1, 1, 650), (650, .aload_n 0, 1, 651), (651, .iload 4, 2, 653), (653, .iconst 1, 1, 654), (654, .iadd, 1, 655), (655, .iaload, 1, 656), (656, .aload_n 0, 1, 657), (657, .iload 4, 2, 659), (659, .iconst 2, 1, 660), (660, .iadd, 1, 661), (661, .iaload, 1, 662), (662, .invokevirtual 90, 3, 665), (665, .aload_n 2, 1, 666), (666, .aload_n 0, 1, 667), (667, .iload 4, 2, 669), (669, .iconst 1, 1, 670), (670, .iadd, 1, 671), (671, .iaload, 1, 672), (672, .aload_n 0, 1, 673), (673, .iload 4, 2, 675), (675, .iconst 2, 1, 676), (676, .iadd, 1, 677), (677, .iaload, 1, 678), (678, .invokevirtual 93, 3, 681), (681, .if_icmp .eq 758, 3, 684), (684, .iconst 0, 1, 685), (685, .ireturn, 1, 686)]
set_option maxRecDepth 100000 in
theorem D_Lc17 : dAll cL_law t_Lc17 = true := by decide +kernel
def t_Lc18 : List (Nat × Instr × Nat × Nat) := [(686, .aload_n 1, 1, 687), (687, .invokevirtual 94, 3, 690), (690, .aload_n 2, 1, 691), (691, .invokevirtual 97, 3, 694), (694, .if_icmp .eq 745, 3, 697), (697, .iconst 0, 1, 698), (698, .ireturn, 1, 699)]
set_option maxRecDepth 100000 in
theorem D_Lc18 : dAll cL_law t_Lc18 = true := by decide +kernel
def t_Lc19 : List (Nat × Instr × Nat × Nat) := [(699, .aload_n 1, 1, 700), (700, .invokevirtual 98, 3, 703), (703, .aload_n 2, 1, 704), (704, .invokevirtual 101, 3, 707), (707, .if_icmp .eq 732, 3, 710), (710, .iconst 0, 1, 711), (711, .ireturn, 1, 712)]
set_option maxRecDepth 100000 in
theorem D_Lc19 : dAll cL_law t_Lc19 = true := by decide +kernel
def t_Lc20 : List (Nat × Instr × Nat × Nat) := [(712, .aload_n 1, 1, 713), (713, .invokevirtual 102, 3, 716), (716, .aload_n 2, 1, 717), (717, .invokevirtual 105, 3, 720), (720, .if_icmp .eq 719, 3, 723), (723, .iconst 0, 1, 724), (724, .ireturn, 1, 725)]
set_option maxRecDepth 100000 in
theorem D_Lc20 : dAll cL_law t_Lc20 = true := by decide +kernel
def t_Lc21 : List (Nat × Instr × Nat × Nat) := [(725, .aload_n 1, 1, 726), (726, .invokevirtual 106, 3, 729), (729, .aload_n 2, 1, 730), (730, .invokevirtual 109, 3, 733), (733, .if_icmp .eq 706, 3, 736), (736, .iconst 0, 1, 737), (737, .ireturn, 1, 738)]
set_option maxRecDepth 100000 in
theorem D_Lc21 : dAll cL_law t_Lc21 = true := by decide +kernel
def t_Lc22 : List (Nat × Instr × Nat × Nat) := [(738, .aload_n 1, 1, 739), (739, .aload_n 0, 1, 740), (740, .iload 4, 2, 742), (742, .iconst 1, 1, 743), (743, .iadd, 1, 744), (744, .iaload, 1, 745), (745, .aload_n 0, 1, 746), (746, .iload 4, 2, 748), (748, .iconst 2, 1, 749), (749, .iadd, 1, 750), (750, .iaload, 1, 751), (751, .invokevirtual 110, 3, 754), (754, .aload_n 2, 1, 755), (755, .aload_n 0, 1, 756), (756, .iload 4, 2, 758), (758, .iconst 1, 1, 759), (759, .iadd, 1, 760), (760, .iaload, 1, 761), (761, .aload_n 0, 1, 762), (762, .iload 4, 2, 764), (764, .iconst 2, 1, 765), (765, .iadd, 1, 766), (766, .iaload, 1, 767), (767, .invokevirtual 113, 3, 770), (770, .if_icmp .eq 669, 3, 773), (773, .iconst 0, 1, 774), (774, .ireturn, 1, 775)]
set_option maxRecDepth 100000 in
theorem D_Lc22 : dAll cL_law t_Lc22 = true := by decide +kernel
def t_Lc23 : List (Nat × Instr × Nat × Nat) := [(775, .aload_n 1, 1, 776), (776, .aload_n 0, 1, 777), (777, .iload 4, 2, 779), (779, .iconst 1, 1, 780), (780, .iadd, 1, 781), (781, .iaload, 1, 782), (782, .aload_n 0, 1, 783), (783, .iload 4, 2, 785), (785, .iconst 2, 1, 786), (786, .iadd, 1, 787), (787, .iaload, 1, 788), (788, .invokevirtual 114, 3, 791), (791, .aload_n 2, 1, 792), (792, .aload_n 0, 1, 793), (793, .iload 4, 2, 795), (795, .iconst 1, 1, 796), (796, .iadd, 1, 797), (797, .iaload, 1, 798), (798, .aload_n 0, 1, 799), (799, .iload 4, 2, 801), (801, .iconst 2, 1, 802), (802, .iadd, 1, 803), (803, .iaload, 1, 804), (804, .invokevirtual 117, 3, 807), (807, .if_icmp .eq 632, 3, 810), (810, .iconst 0, 1, 811), (811, .ireturn, 1, 812)]
set_option maxRecDepth 100000 in
theorem D_Lc23 : dAll cL_law t_Lc23 = true := by decide +kernel
def t_Lc24 : List (Nat × Instr × Nat × Nat) := [(812, .aload_n 1, 1, 813), (813, .aload_n 0, 1, 814), (814, .iload 4, 2, 816), (816, .iconst 1, 1, 817), (817, .iadd, 1, 818), (818, .iaload, 1, 819), (819, .invokevirtual 118, 3, 822), (822, .aload_n 2, 1, 823), (823, .aload_n 0, 1, 824), (824, .iload 4, 2, 826), (826, .iconst 1, 1, 827), (827, .iadd, 1, 828), (828, .iaload, 1, 829), (829, .invokevirtual 121, 3, 832), (832, .if_icmp .eq 607, 3, 835), (835, .iconst 0, 1, 836), (836, .ireturn, 1, 837)]
set_option maxRecDepth 100000 in
theorem D_Lc24 : dAll cL_law t_Lc24 = true := by decide +kernel
def t_Lc25 : List (Nat × Instr × Nat × Nat) := [(837, .aload_n 1, 1, 838), (838, .invokevirtual 122, 3, 841), (841, .aload_n 2, 1, 842), (842, .invokevirtual 125, 3, 845), (845, .if_icmp .eq 594, 3, 848), (848, .iconst 0, 1, 849), (849, .ireturn, 1, 850)]
set_option maxRecDepth 100000 in
theorem D_Lc25 : dAll cL_law t_Lc25 = true := by decide +kernel
def t_Lc26 : List (Nat × Instr × Nat × Nat) := [(850, .aload_n 1, 1, 851), (851, .aload_n 0, 1, 852), (852, .iload 4, 2, 854), (854, .iconst 1, 1, 855), (855, .iadd, 1, 856), (856, .iaload, 1, 857), (857, .invokevirtual 126, 3, 860), (860, .aload_n 2, 1, 861), (861, .aload_n 0, 1, 862), (862, .iload 4, 2, 864), (864, .iconst 1, 1, 865), (865, .iadd, 1, 866), (866, .iaload, 1, 867), (867, .invokevirtual 129, 3, 870), (870, .if_icmp .eq 569, 3, 873), (873, .iconst 0, 1, 874), (874, .ireturn, 1, 875)]
set_option maxRecDepth 100000 in
theorem D_Lc26 : dAll cL_law t_Lc26 = true := by decide +kernel
def t_Lc27 : List (Nat × Instr × Nat × Nat) := [(875, .aload_n 1, 1, 876), (876, .aload_n 0, 1, 877), (877, .iload 4, 2, 879), (879, .iconst 1, 1, 880), (880, .iadd, 1, 881), (881, .iaload, 1, 882), (882, .invokevirtual 130, 3, 885), (885, .aload_n 2, 1, 886), (886, .aload_n 0, 1, 887), (887, .iload 4, 2, 889), (889, .iconst 1, 1, 890), (890, .iadd, 1, 891), (891, .iaload, 1, 892), (892, .invokevirtual 133, 3, 895), (895, .if_icmp .eq 544, 3, 898), (898, .iconst 0, 1, 899), (899, .ireturn, 1, 900)]
set_option maxRecDepth 100000 in
theorem D_Lc27 : dAll cL_law t_Lc27 = true := by decide +kernel
def t_Lc28 : List (Nat × Instr × Nat × Nat) := [(900, .aload_n 1, 1, 901), (901, .aload_n 0, 1, 902), (902, .iload 4, 2, 904), (904, .iconst 1, 1, 905), (905, .iadd, 1, 906), (906, .iaload, 1, 907), (907, .invokevirtual 134, 3, 910), (910, .aload_n 2, 1, 911), (911, .aload_n 0, 1, 912), (912, .iload 4, 2, 914), (914, .iconst 1, 1, 915), (915, .iadd, 1, 916), (916, .iaload, 1, 917), (917, .invokevirtual 137, 3, 920), (920, .if_icmp .eq 519, 3, 923), (923, .iconst 0, 1, 924), (924, .ireturn, 1, 925)]
set_option maxRecDepth 100000 in
theorem D_Lc28 : dAll cL_law t_Lc28 = true := by decide +kernel
def t_Lc29 : List (Nat × Instr × Nat × Nat) := [(925, .aload_n 1, 1, 926), (926, .aload_n 0, 1, 927), (927, .iload 4, 2, 929), (929, .iconst 1, 1, 930), (930, .iadd, 1, 931), (931, .iaload, 1, 932), (932, .invokevirtual 138, 3, 935), (935, .aload_n 2, 1, 936), (936, .aload_n 0, 1, 937), (937, .iload 4, 2, 939), (939, .iconst 1, 1, 940), (940, .iadd, 1, 941), (941, .iaload, 1, 942), (942, .invokevirtual 141, 3, 945), (945, .if_icmp .eq 494, 3, 948), (948, .iconst 0, 1, 949), (949, .ireturn, 1, 950)]
set_option maxRecDepth 100000 in
theorem D_Lc29 : dAll cL_law t_Lc29 = true := by decide +kernel
def t_Lc30 : List (Nat × Instr × Nat × Nat) := [(950, .aload_n 1, 1, 951), (951, .aload_n 0, 1, 952), (952, .iload 4, 2, 954), (954, .iconst 1, 1, 955), (955, .iadd, 1, 956), (956, .iaload, 1, 957), (957, .invokevirtual 142, 3, 960), (960, .aload_n 2, 1, 961), (961, .aload_n 0, 1, 962), (962, .iload 4, 2, 964), (964, .iconst 1, 1, 965), (965, .iadd, 1, 966), (966, .iaload, 1, 967), (967, .invokevirtual 145, 3, 970), (970, .if_icmp .eq 469, 3, 973), (973, .iconst 0, 1, 974), (974, .ireturn, 1, 975)]
set_option maxRecDepth 100000 in
theorem D_Lc30 : dAll cL_law t_Lc30 = true := by decide +kernel
def t_Lc31 : List (Nat × Instr × Nat × Nat) := [(975, .aload_n 1, 1, 976), (976, .aload_n 0, 1, 977), (977, .iload 4, 2, 979), (979, .iconst 1, 1, 980), (980, .iadd, 1, 981), (981, .iaload, 1, 982), (982, .aload_n 0, 1, 983), (983, .iload 4, 2, 985), (985, .iconst 2, 1, 986), (986, .iadd, 1, 987), (987, .iaload, 1, 988), (988, .ifCond .eq 7, 3, 991), (991, .iconst 1, 1, 992), (992, .goto 4, 3, 995), (995, .iconst 0, 1, 996), (996, .invokevirtual 146, 3, 999), (999, .aload_n 2, 1, 1000), (1000, .aload_n 0, 1, 1001), (1001, .iload 4, 2, 1003), (1003, .iconst 1, 1, 1004), (1004, .iadd, 1, 1005), (1005, .iaload, 1, 1006), (1006, .aload_n 0, 1, 1007), (1007, .iload 4, 2, 1009), (1009, .iconst 2, 1, 1010), (1010, .iadd, 1, 1011), (1011, .iaload, 1, 1012), (1012, .ifCond .eq 7, 3, 1015), (1015, .iconst 1, 1, 1016), (1016, .goto 4, 3, 1019), (1019, .iconst 0, 1, 1020), (1020, .invokevirtual 150, 3, 1023), (1023, .lcmp, 1, 1024), (1024, .ifCond .eq 415, 3, 1027), (1027, .iconst 0, 1, 1028), (1028, .ireturn, 1, 1029)]
set_option maxRecDepth 100000 in
theorem D_Lc31 : dAll cL_law t_Lc31 = true := by decide +kernel
def t_Lc32 : List (Nat × Instr × Nat × Nat) := [(1029, .aload_n 1, 1, 1030), (1030, .invokevirtual 151, 3, 1033), (1033, .aload_n 2, 1, 1034), (1034, .invokevirtual 154, 3, 1037), (1037, .if_icmp .eq 402, 3, 1040), (1040, .iconst 0, 1, 1041), (1041, .ireturn, 1, 1042)]
set_option maxRecDepth 100000 in
theorem D_Lc32 : dAll cL_law t_Lc32 = true := by decide +kernel
def t_Lc33 : List (Nat × Instr × Nat × Nat) := [(1042, .aload_n 1, 1, 1043), (1043, .aload_n 0, 1, 1044), (1044, .iload 4, 2, 1046), (1046, .iconst 1, 1, 1047), (1047, .iadd, 1, 1048), (1048, .iaload, 1, 1049), (1049, .invokevirtual 155, 3, 1052), (1052, .aload_n 2, 1, 1053), (1053, .aload_n 0, 1, 1054), (1054, .iload 4, 2, 1056), (1056, .iconst 1, 1, 1057), (1057, .iadd, 1, 1058), (1058, .iaload, 1, 1059), (1059, .invokevirtual 158, 3, 1062), (1062, .if_icmp .eq 377, 3, 1065), (1065, .iconst 0, 1, 1066), (1066, .ireturn, 1, 1067)]
set_option maxRecDepth 100000 in
theorem D_Lc33 : dAll cL_law t_Lc33 = true := by decide +kernel
def t_Lc34 : List (Nat × Instr × Nat × Nat) := [(1067, .aload_n 1, 1, 1068), (1068, .invokevirtual 159, 3, 1071), (1071, .aload_n 2, 1, 1072), (1072, .invokevirtual 162, 3, 1075), (1075, .if_icmp .eq 364, 3, 1078), (1078, .iconst 0, 1, 1079), (1079, .ireturn, 1, 1080)]
set_option maxRecDepth 100000 in
theorem D_Lc34 : dAll cL_law t_Lc34 = true := by decide +kernel
def t_Lc35 : List (Nat × Instr × Nat × Nat) := [(1080, .aload_n 1, 1, 1081), (1081, .invokevirtual 163, 3, 1084), (1084, .aload_n 2, 1, 1085), (1085, .invokevirtual 166, 3, 1088), (1088, .if_icmp .eq 351, 3, 1091), (1091, .iconst 0, 1, 1092), (1092, .ireturn, 1, 1093)]
set_option maxRecDepth 100000 in
theorem D_Lc35 : dAll cL_law t_Lc35 = true := by decide +kernel
def t_Lc36 : List (Nat × Instr × Nat × Nat) := [(1093, .aload_n 1, 1, 1094), (1094, .invokevirtual 167, 3, 1097), (1097, .aload_n 2, 1, 1098), (1098, .invokevirtual 170, 3, 1101), (1101, .if_icmp .eq 338, 3, 1104), (1104, .iconst 0, 1, 1105), (1105, .ireturn, 1, 1106)]
set_option maxRecDepth 100000 in
theorem D_Lc36 : dAll cL_law t_Lc36 = true := by decide +kernel
def t_Lc37 : List (Nat × Instr × Nat × Nat) := [(1106, .aload_n 1, 1, 1107), (1107, .invokevirtual 171, 3, 1110), (1110, .aload_n 2, 1, 1111), (1111, .invokevirtual 174, 3, 1114), (1114, .if_icmp .eq 325, 3, 1117), (1117, .iconst 0, 1, 1118), (1118, .ireturn, 1, 1119)]
set_option maxRecDepth 100000 in
theorem D_Lc37 : dAll cL_law t_Lc37 = true := by decide +kernel
def t_Lc38 : List (Nat × Instr × Nat × Nat) := [(1119, .aload_n 1, 1, 1120), (1120, .invokevirtual 175, 3, 1123), (1123, .aload_n 2, 1, 1124), (1124, .invokevirtual 178, 3, 1127), (1127, .if_icmp .eq 312, 3, 1130), (1130, .iconst 0, 1, 1131), (1131, .ireturn, 1, 1132)]
set_option maxRecDepth 100000 in
theorem D_Lc38 : dAll cL_law t_Lc38 = true := by decide +kernel
def t_Lc39 : List (Nat × Instr × Nat × Nat) := [(1132, .aload_n 1, 1, 1133), (1133, .aload_n 0, 1, 1134), (1134, .iload 4, 2, 1136), (1136, .iconst 1, 1, 1137), (1137, .iadd, 1, 1138), (1138, .iaload, 1, 1139), (1139, .aload_n 0, 1, 1140), (1140, .iload 4, 2, 1142), (1142, .iconst 2, 1, 1143), (1143, .iadd, 1, 1144), (1144, .iaload, 1, 1145), (1145, .invokevirtual 179, 3, 1148), (1148, .aload_n 2, 1, 1149), (1149, .aload_n 0, 1, 1150), (1150, .iload 4, 2, 1152), (1152, .iconst 1, 1, 1153), (1153, .iadd, 1, 1154), (1154, .iaload, 1, 1155), (1155, .aload_n 0, 1, 1156), (1156, .iload 4, 2, 1158), (1158, .iconst 2, 1, 1159), (1159, .iadd, 1, 1160), (1160, .iaload, 1, 1161), (1161, .invokevirtual 182, 3, 1164), (1164, .if_icmp .eq 275, 3, 1167), (1167, .iconst 0, 1, 1168), (1168, .ireturn, 1, 1169)]
set_option maxRecDepth 100000 in
theorem D_Lc39 : dAll cL_law t_Lc39 = true := by decide +kernel
def t_Lc40 : List (Nat × Instr × Nat × Nat) := [(1169, .aload_n 1, 1, 1170), (1170, .aload_n 0, 1, 1171), (1171, .iload 4, 2, 1173), (1173, .iconst 1, 1, 1174), (1174, .iadd, 1, 1175), (1175, .iaload, 1, 1176), (1176, .aload_n 0, 1, 1177), (1177, .iload 4, 2, 1179), (1179, .iconst 2, 1, 1180), (1180, .iadd, 1, 1181), (1181, .iaload, 1, 1182), (1182, .aload_n 0, 1, 1183), (1183, .iload 4, 2, 1185), (1185, .iconst 3, 1, 1186), (1186, .iadd, 1, 1187), (1187, .iaload, 1, 1188), (1188, .invokevirtual 183, 3, 1191), (1191, .aload_n 2, 1, 1192), (1192, .aload_n 0, 1, 1193), (1193, .iload 4, 2, 1195), (1195, .iconst 1, 1, 1196), (1196, .iadd, 1, 1197), (1197, .iaload, 1, 1198), (1198, .aload_n 0, 1, 1199), (1199, .iload 4, 2, 1201), (1201, .iconst 2, 1, 1202), (1202, .iadd, 1, 1203), (1203, .iaload, 1, 1204), (1204, .aload_n 0, 1, 1205), (1205, .iload 4, 2, 1207), (1207, .iconst 3, 1, 1208), (1208, .iadd, 1, 1209), (1209, .iaload, 1, 1210), (1210, .invokevirtual 187, 3, 1213), (1213, .if_icmp .eq 226, 3, 1216), (1216, .iconst 0, 1, 1217), (1217, .ireturn, 1, 1218)]
set_option maxRecDepth 100000 in
theorem D_Lc40 : dAll cL_law t_Lc40 = true := by decide +kernel
def t_Lc41 : List (Nat × Instr × Nat × Nat) := [(1218, .aload_n 1, 1, 1219), (1219, .invokevirtual 188, 3, 1222), (1222, .aload_n 2, 1, 1223), (1223, .invokevirtual 191, 3, 1226), (1226, .if_icmp .eq 213, 3, 1229), (1229, .iconst 0, 1, 1230), (1230, .ireturn, 1, 1231)]
set_option maxRecDepth 100000 in
theorem D_Lc41 : dAll cL_law t_Lc41 = true := by decide +kernel
def t_Lc42 : List (Nat × Instr × Nat × Nat) := [(1231, .aload_n 1, 1, 1232), (1232, .aload_n 0, 1, 1233), (1233, .iload 4, 2, 1235), (1235, .iconst 1, 1, 1236), (1236, .iadd, 1, 1237), (1237, .iaload, 1, 1238), (1238, .invokevirtual 192, 3, 1241), (1241, .aload_n 2, 1, 1242), (1242, .aload_n 0, 1, 1243), (1243, .iload 4, 2, 1245), (1245, .iconst 1, 1, 1246), (1246, .iadd, 1, 1247), (1247, .iaload, 1, 1248), (1248, .invokevirtual 195, 3, 1251), (1251, .if_icmp .eq 188, 3, 1254), (1254, .iconst 0, 1, 1255), (1255, .ireturn, 1, 1256)]
set_option maxRecDepth 100000 in
theorem D_Lc42 : dAll cL_law t_Lc42 = true := by decide +kernel
def t_Lc43 : List (Nat × Instr × Nat × Nat) := [(1256, .aload_n 1, 1, 1257), (1257, .invokevirtual 196, 3, 1260), (1260, .aload_n 2, 1, 1261), (1261, .invokevirtual 199, 3, 1264), (1264, .if_icmp .eq 175, 3, 1267), (1267, .iconst 0, 1, 1268), (1268, .ireturn, 1, 1269)]
set_option maxRecDepth 100000 in
theorem D_Lc43 : dAll cL_law t_Lc43 = true := by decide +kernel
def t_Lc44 : List (Nat × Instr × Nat × Nat) := [(1269, .aload_n 1, 1, 1270), (1270, .aload_n 0, 1, 1271), (1271, .iload 4, 2, 1273), (1273, .iconst 1, 1, 1274), (1274, .iadd, 1, 1275), (1275, .iaload, 1, 1276), (1276, .invokevirtual 200, 3, 1279), (1279, .aload_n 2, 1, 1280), (1280, .aload_n 0, 1, 1281), (1281, .iload 4, 2, 1283), (1283, .iconst 1, 1, 1284), (1284, .iadd, 1, 1285), (1285, .iaload, 1, 1286), (1286, .invokevirtual 204, 3, 1289), (1289, .if_icmp .eq 150, 3, 1292), (1292, .iconst 0, 1, 1293), (1293, .ireturn, 1, 1294)]
set_option maxRecDepth 100000 in
theorem D_Lc44 : dAll cL_law t_Lc44 = true := by decide +kernel
def t_Lc45 : List (Nat × Instr × Nat × Nat) := [(1294, .aload_n 1, 1, 1295), (1295, .invokevirtual 205, 3, 1298), (1298, .aload_n 2, 1, 1299), (1299, .invokevirtual 209, 3, 1302), (1302, .if_icmp .eq 137, 3, 1305), (1305, .iconst 0, 1, 1306), (1306, .ireturn, 1, 1307)]
set_option maxRecDepth 100000 in
theorem D_Lc45 : dAll cL_law t_Lc45 = true := by decide +kernel
def t_Lc46 : List (Nat × Instr × Nat × Nat) := [(1307, .aload_n 1, 1, 1308), (1308, .invokevirtual 210, 3, 1311), (1311, .aload_n 2, 1, 1312), (1312, .invokevirtual 213, 3, 1315), (1315, .if_icmp .eq 124, 3, 1318), (1318, .iconst 0, 1, 1319), (1319, .ireturn, 1, 1320)]
set_option maxRecDepth 100000 in
theorem D_Lc46 : dAll cL_law t_Lc46 = true := by decide +kernel
def t_Lc47 : List (Nat × Instr × Nat × Nat) := [(1320, .aload_n 1, 1, 1321), (1321, .aload_n 0, 1, 1322), (1322, .iload 4, 2, 1324), (1324, .iconst 1, 1, 1325), (1325, .iadd, 1, 1326), (1326, .iaload, 1, 1327), (1327, .invokevirtual 214, 3, 1330), (1330, .aload_n 2, 1, 1331), (1331, .aload_n 0, 1, 1332), (1332, .iload 4, 2, 1334), (1334, .iconst 1, 1, 1335), (1335, .iadd, 1, 1336), (1336, .iaload, 1, 1337), (1337, .invokevirtual 217, 3, 1340), (1340, .if_icmp .eq 99, 3, 1343), (1343, .iconst 0, 1, 1344), (1344, .ireturn, 1, 1345)]
set_option maxRecDepth 100000 in
theorem D_Lc47 : dAll cL_law t_Lc47 = true := by decide +kernel
def t_Lc48 : List (Nat × Instr × Nat × Nat) := [(1345, .aload_n 1, 1, 1346), (1346, .aload_n 0, 1, 1347), (1347, .iload 4, 2, 1349), (1349, .iconst 1, 1, 1350), (1350, .iadd, 1, 1351), (1351, .iaload, 1, 1352), (1352, .aload_n 3, 1, 1353), (1353, .invokestatic 218, 3, 1356), (1356, .istore 5, 2, 1358), (1358, .aload_n 2, 1, 1359), (1359, .aload_n 0, 1, 1360), (1360, .iload 4, 2, 1362), (1362, .iconst 1, 1, 1363), (1363, .iadd, 1, 1364), (1364, .iaload, 1, 1365), (1365, .invokevirtual 223, 3, 1368), (1368, .istore 6, 2, 1370), (1370, .aload_n 2, 1, 1371), (1371, .invokevirtual 224, 3, 1374), (1374, .iload 5, 2, 1376), (1376, .if_icmp .eq 5, 3, 1379), (1379, .iconst 0, 1, 1380), (1380, .ireturn, 1, 1381), (1381, .iload 5, 2, 1383), (1383, .ifCond .ne 15, 3, 1386), (1386, .aload_n 3, 1, 1387), (1387, .iconst 0, 1, 1388), (1388, .laload, 1, 1389), (1389, .iload 6, 2, 1391), (1391, .i2l, 1, 1392), (1392, .lcmp, 1, 1393), (1393, .ifCond .eq 5, 3, 1396), (1396, .iconst 0, 1, 1397), (1397, .ireturn, 1, 1398), (1398, .goto 41, 3, 1401)]
set_option maxRecDepth 100000 in
theorem D_Lc48 : dAll cL_law t_Lc48 = true := by decide +kernel
def t_Lc49 : List (Nat × Instr × Nat × Nat) := [(1401, .aload_n 1, 1, 1402), (1402, .aload_n 0, 1, 1403), (1403, .iload 4, 2, 1405), (1405, .iconst 1, 1, 1406), (1406, .iadd, 1, 1407), (1407, .iaload, 1, 1408), (1408, .invokevirtual 227, 3, 1411), (1411, .aload_n 2, 1, 1412), (1412, .aload_n 0, 1, 1413), (1413, .iload 4, 2, 1415), (1415, .iconst 1, 1, 1416), (1416, .iadd, 1, 1417), (1417, .iaload, 1, 1418), (1418, .invokevirtual 230, 3, 1421), (1421, .if_icmp .eq 18, 3, 1424), (1424, .iconst 0, 1, 1425), (1425, .ireturn, 1, 1426)]
set_option maxRecDepth 100000 in
theorem D_Lc49 : dAll cL_law t_Lc49 = true := by decide +kernel
def t_Lc50 : List (Nat × Instr × Nat × Nat) := [(1426, .aload_n 1, 1, 1427), (1427, .invokevirtual 231, 3, 1430), (1430, .aload_n 2, 1, 1431), (1431, .invokevirtual 234, 3, 1434), (1434, .if_icmp .eq 5, 3, 1437), (1437, .iconst 0, 1, 1438), (1438, .ireturn, 1, 1439)]
set_option maxRecDepth 100000 in
theorem D_Lc50 : dAll cL_law t_Lc50 = true := by decide +kernel
abbrev K_law : MK := (7, RL, some .boolean, false, 15, 564, 601024, 7293034)
abbrev K_X8_led : MK := (3, RX8, some .int, false, 6, 120, 1, 6)
abbrev K_L_led : MK := (4, RL, some .int, false, 8, 160, 1, 6)
