/-! THE LAW: its instructions and its links -/
abbrev m_L_law : MT := (⟨"TwoPencilsLaw", "law", "([I)Z"⟩, code, 7, ret)
abbrev m_L_parish : MT := (⟨"TwoPencilsLaw", "parish", "(LTwoPencils;III[J)I"⟩, method_3_code, 6, some .int)
def T_L_parish : List (Nat × Instr × Nat × Nat) := [(0, .aload 4, 2, 2), (2, .iconst 0, 1, 3), (3, .aload_n 0, 1, 4), (4, .iload_n 1, 1, 5), (5, .iload_n 2, 1, 6), (6, .iload_n 3, 1, 7), (7, .invokevirtual 7, 3, 10), (10, .i2l, 1, 11), (11, .lastore, 1, 12), (12, .goto 7, 3, 15), (15, .astore 5, 2, 17), (17, .iconst 1, 1, 18), (18, .ireturn, 1, 19), (19, .iconst 0, 1, 20), (20, .ireturn, 1, 21)]
theorem K_L_parish : tOK m_L_parish.2.1 T_L_parish := by
  show ∀ q ∈ T_L_parish, _
  decide +kernel
def T_L0 : List (Nat × Instr × Nat × Nat) := [(0, .new 8, 3, 3), (3, .dup, 1, 4), (4, .invokespecial 15, 3, 7), (7, .astore_n 1, 1, 8), (8, .new 16, 3, 11), (11, .dup, 1, 12), (12, .invokespecial 18, 3, 15), (15, .astore_n 2, 1, 16), (16, .iconst 1, 1, 17), (17, .newarray .long, 2, 19), (19, .astore_n 3, 1, 20), (20, .iconst 0, 1, 21), (21, .istore 4, 2, 23), (23, .iload 4, 2, 25), (25, .aload_n 0, 1, 26), (26, .arraylength, 1, 27), (27, .bipush 6, 2, 29), (29, .isub, 1, 30), (30, .if_icmp .gt 1520, 3, 33), (33, .aload_n 0, 1, 34), (34, .iload 4, 2, 36), (36, .iaload, 1, 37), (37, .bipush 63, 2, 39), (39, .iand, 1, 40), (40, .tableswitch 1504 0 32 #[148, 221, 246, 271, 284, 297, 334, 414, 475, 512, 561, 610, 647, 696, 757, 818, 867, 904, 941, 1034, 1071, 1096, 1121, 1158, 1183, 1220, 1257, 1294, 1343, 1380, 1417, 1442, 1479], 148, 188), (188, .aload_n 1, 1, 189), (189, .aload_n 0, 1, 190), (190, .iload 4, 2, 192), (192, .iconst 1, 1, 193), (193, .iadd, 1, 194), (194, .iaload, 1, 195), (195, .aload_n 0, 1, 196), (196, .iload 4, 2, 198), (198, .iconst 2, 1, 199), (199, .iadd, 1, 200), (200, .iaload, 1, 201), (201, .aload_n 0, 1, 202), (202, .iload 4, 2, 204), (204, .iconst 3, 1, 205), (205, .iadd, 1, 206), (206, .iaload, 1, 207), (207, .aload_n 0, 1, 208), (208, .iload 4, 2, 210), (210, .iconst 4, 1, 211), (211, .iadd, 1, 212), (212, .iaload, 1, 213), (213, .aload_n 0, 1, 214), (214, .iload 4, 2, 216)]
theorem K_L0 : tOK m_L_law.2.1 T_L0 := by
  show ∀ q ∈ T_L0, _
  decide +kernel
def T_L1 : List (Nat × Instr × Nat × Nat) := [(216, .iconst 5, 1, 217), (217, .iadd, 1, 218), (218, .iaload, 1, 219), (219, .invokevirtual 19, 3, 222), (222, .aload_n 2, 1, 223), (223, .aload_n 0, 1, 224), (224, .iload 4, 2, 226), (226, .iconst 1, 1, 227), (227, .iadd, 1, 228), (228, .iaload, 1, 229), (229, .aload_n 0, 1, 230), (230, .iload 4, 2, 232), (232, .iconst 2, 1, 233), (233, .iadd, 1, 234), (234, .iaload, 1, 235), (235, .aload_n 0, 1, 236), (236, .iload 4, 2, 238), (238, .iconst 3, 1, 239), (239, .iadd, 1, 240), (240, .iaload, 1, 241), (241, .aload_n 0, 1, 242), (242, .iload 4, 2, 244), (244, .iconst 4, 1, 245), (245, .iadd, 1, 246), (246, .iaload, 1, 247), (247, .aload_n 0, 1, 248), (248, .iload 4, 2, 250), (250, .iconst 5, 1, 251), (251, .iadd, 1, 252), (252, .iaload, 1, 253), (253, .invokevirtual 23, 3, 256), (256, .if_icmp .eq 1288, 3, 259), (259, .iconst 0, 1, 260), (260, .ireturn, 1, 261), (261, .aload_n 1, 1, 262), (262, .aload_n 0, 1, 263), (263, .iload 4, 2, 265), (265, .iconst 1, 1, 266), (266, .iadd, 1, 267), (267, .iaload, 1, 268), (268, .invokevirtual 24, 3, 271), (271, .aload_n 2, 1, 272), (272, .aload_n 0, 1, 273), (273, .iload 4, 2, 275), (275, .iconst 1, 1, 276), (276, .iadd, 1, 277), (277, .iaload, 1, 278), (278, .invokevirtual 28, 3, 281)]
theorem K_L1 : tOK m_L_law.2.1 T_L1 := by
  show ∀ q ∈ T_L1, _
  decide +kernel
def T_L2 : List (Nat × Instr × Nat × Nat) := [(281, .if_icmp .eq 1263, 3, 284), (284, .iconst 0, 1, 285), (285, .ireturn, 1, 286), (286, .aload_n 1, 1, 287), (287, .aload_n 0, 1, 288), (288, .iload 4, 2, 290), (290, .iconst 1, 1, 291), (291, .iadd, 1, 292), (292, .iaload, 1, 293), (293, .invokevirtual 29, 3, 296), (296, .aload_n 2, 1, 297), (297, .aload_n 0, 1, 298), (298, .iload 4, 2, 300), (300, .iconst 1, 1, 301), (301, .iadd, 1, 302), (302, .iaload, 1, 303), (303, .invokevirtual 33, 3, 306), (306, .if_icmp .eq 1238, 3, 309), (309, .iconst 0, 1, 310), (310, .ireturn, 1, 311), (311, .aload_n 1, 1, 312), (312, .invokevirtual 34, 3, 315), (315, .aload_n 2, 1, 316), (316, .invokevirtual 38, 3, 319), (319, .if_icmp .eq 1225, 3, 322), (322, .iconst 0, 1, 323), (323, .ireturn, 1, 324), (324, .aload_n 1, 1, 325), (325, .invokevirtual 39, 3, 328), (328, .aload_n 2, 1, 329), (329, .invokevirtual 42, 3, 332), (332, .if_icmp .eq 1212, 3, 335), (335, .iconst 0, 1, 336), (336, .ireturn, 1, 337), (337, .aload_n 1, 1, 338), (338, .aload_n 0, 1, 339), (339, .iload 4, 2, 341), (341, .iconst 1, 1, 342), (342, .iadd, 1, 343), (343, .iaload, 1, 344), (344, .aload_n 0, 1, 345), (345, .iload 4, 2, 347), (347, .iconst 2, 1, 348), (348, .iadd, 1, 349), (349, .iaload, 1, 350), (350, .invokevirtual 43, 3, 353), (353, .aload_n 2, 1, 354), (354, .aload_n 0, 1, 355)]
theorem K_L2 : tOK m_L_law.2.1 T_L2 := by
  show ∀ q ∈ T_L2, _
  decide +kernel
def T_L3 : List (Nat × Instr × Nat × Nat) := [(355, .iload 4, 2, 357), (357, .iconst 1, 1, 358), (358, .iadd, 1, 359), (359, .iaload, 1, 360), (360, .aload_n 0, 1, 361), (361, .iload 4, 2, 363), (363, .iconst 2, 1, 364), (364, .iadd, 1, 365), (365, .iaload, 1, 366), (366, .invokevirtual 47, 3, 369), (369, .if_icmp .eq 1175, 3, 372), (372, .iconst 0, 1, 373), (373, .ireturn, 1, 374), (374, .aload_n 1, 1, 375), (375, .aload_n 0, 1, 376), (376, .iload 4, 2, 378), (378, .iconst 1, 1, 379), (379, .iadd, 1, 380), (380, .iaload, 1, 381), (381, .aload_n 0, 1, 382), (382, .iload 4, 2, 384), (384, .iconst 2, 1, 385), (385, .iadd, 1, 386), (386, .iaload, 1, 387), (387, .aload_n 0, 1, 388), (388, .iload 4, 2, 390), (390, .iconst 3, 1, 391), (391, .iadd, 1, 392), (392, .iaload, 1, 393), (393, .aload_n 3, 1, 394), (394, .invokestatic 48, 3, 397), (397, .istore 5, 2, 399), (399, .aload_n 2, 1, 400), (400, .aload_n 0, 1, 401), (401, .iload 4, 2, 403), (403, .iconst 1, 1, 404), (404, .iadd, 1, 405), (405, .iaload, 1, 406), (406, .aload_n 0, 1, 407), (407, .iload 4, 2, 409), (409, .iconst 2, 1, 410), (410, .iadd, 1, 411), (411, .iaload, 1, 412), (412, .aload_n 0, 1, 413), (413, .iload 4, 2, 415), (415, .iconst 3, 1, 416), (416, .iadd, 1, 417), (417, .iaload, 1, 418)]
theorem K_L3 : tOK m_L_law.2.1 T_L3 := by
  show ∀ q ∈ T_L3, _
  decide +kernel
def T_L4 : List (Nat × Instr × Nat × Nat) := [(418, .invokevirtual 53, 3, 421), (421, .istore 6, 2, 423), (423, .aload_n 2, 1, 424), (424, .invokevirtual 54, 3, 427), (427, .iload 5, 2, 429), (429, .if_icmp .eq 5, 3, 432), (432, .iconst 0, 1, 433), (433, .ireturn, 1, 434), (434, .iload 5, 2, 436), (436, .ifCond .ne 15, 3, 439), (439, .aload_n 3, 1, 440), (440, .iconst 0, 1, 441), (441, .laload, 1, 442), (442, .iload 6, 2, 444), (444, .i2l, 1, 445), (445, .lcmp, 1, 446), (446, .ifCond .eq 5, 3, 449), (449, .iconst 0, 1, 450), (450, .ireturn, 1, 451), (451, .goto 1093, 3, 454), (454, .aload_n 1, 1, 455), (455, .aload_n 0, 1, 456), (456, .iload 4, 2, 458), (458, .iconst 1, 1, 459), (459, .iadd, 1, 460), (460, .iaload, 1, 461), (461, .aload_n 0, 1, 462), (462, .iload 4, 2, 464), (464, .iconst 2, 1, 465), (465, .iadd, 1, 466), (466, .iaload, 1, 467), (467, .aload_n 0, 1, 468), (468, .iload 4, 2, 470), (470, .iconst 3, 1, 471), (471, .iadd, 1, 472), (472, .iaload, 1, 473), (473, .aload_n 0, 1, 474), (474, .iload 4, 2, 476), (476, .iconst 4, 1, 477), (477, .iadd, 1, 478), (478, .iaload, 1, 479), (479, .invokevirtual 57, 3, 482), (482, .aload_n 2, 1, 483), (483, .aload_n 0, 1, 484), (484, .iload 4, 2, 486), (486, .iconst 1, 1, 487), (487, .iadd, 1, 488), (488, .iaload, 1, 489)]
theorem K_L4 : tOK m_L_law.2.1 T_L4 := by
  show ∀ q ∈ T_L4, _
  decide +kernel
def T_L5 : List (Nat × Instr × Nat × Nat) := [(489, .aload_n 0, 1, 490), (490, .iload 4, 2, 492), (492, .iconst 2, 1, 493), (493, .iadd, 1, 494), (494, .iaload, 1, 495), (495, .aload_n 0, 1, 496), (496, .iload 4, 2, 498), (498, .iconst 3, 1, 499), (499, .iadd, 1, 500), (500, .iaload, 1, 501), (501, .aload_n 0, 1, 502), (502, .iload 4, 2, 504), (504, .iconst 4, 1, 505), (505, .iadd, 1, 506), (506, .iaload, 1, 507), (507, .invokevirtual 61, 3, 510), (510, .if_icmp .eq 1034, 3, 513), (513, .iconst 0, 1, 514), (514, .ireturn, 1, 515), (515, .aload_n 1, 1, 516), (516, .aload_n 0, 1, 517), (517, .iload 4, 2, 519), (519, .iconst 1, 1, 520), (520, .iadd, 1, 521), (521, .iaload, 1, 522), (522, .aload_n 0, 1, 523), (523, .iload 4, 2, 525), (525, .iconst 2, 1, 526), (526, .iadd, 1, 527), (527, .iaload, 1, 528), (528, .invokevirtual 62, 3, 531), (531, .aload_n 2, 1, 532), (532, .aload_n 0, 1, 533), (533, .iload 4, 2, 535), (535, .iconst 1, 1, 536), (536, .iadd, 1, 537), (537, .iaload, 1, 538), (538, .aload_n 0, 1, 539), (539, .iload 4, 2, 541), (541, .iconst 2, 1, 542), (542, .iadd, 1, 543), (543, .iaload, 1, 544), (544, .invokevirtual 65, 3, 547), (547, .if_icmp .eq 997, 3, 550), (550, .iconst 0, 1, 551), (551, .ireturn, 1, 552), (552, .aload_n 1, 1, 553), (553, .aload_n 0, 1, 554)]
theorem K_L5 : tOK m_L_law.2.1 T_L5 := by
  show ∀ q ∈ T_L5, _
  decide +kernel
def T_L6 : List (Nat × Instr × Nat × Nat) := [(554, .iload 4, 2, 556), (556, .iconst 1, 1, 557), (557, .iadd, 1, 558), (558, .iaload, 1, 559), (559, .aload_n 0, 1, 560), (560, .iload 4, 2, 562), (562, .iconst 2, 1, 563), (563, .iadd, 1, 564), (564, .iaload, 1, 565), (565, .aload_n 0, 1, 566), (566, .iload 4, 2, 568), (568, .iconst 3, 1, 569), (569, .iadd, 1, 570), (570, .iaload, 1, 571), (571, .invokevirtual 66, 3, 574), (574, .aload_n 2, 1, 575), (575, .aload_n 0, 1, 576), (576, .iload 4, 2, 578), (578, .iconst 1, 1, 579), (579, .iadd, 1, 580), (580, .iaload, 1, 581), (581, .aload_n 0, 1, 582), (582, .iload 4, 2, 584), (584, .iconst 2, 1, 585), (585, .iadd, 1, 586), (586, .iaload, 1, 587), (587, .aload_n 0, 1, 588), (588, .iload 4, 2, 590), (590, .iconst 3, 1, 591), (591, .iadd, 1, 592), (592, .iaload, 1, 593), (593, .invokevirtual 69, 3, 596), (596, .if_icmp .eq 948, 3, 599), (599, .iconst 0, 1, 600), (600, .ireturn, 1, 601), (601, .aload_n 1, 1, 602), (602, .aload_n 0, 1, 603), (603, .iload 4, 2, 605), (605, .iconst 1, 1, 606), (606, .iadd, 1, 607), (607, .iaload, 1, 608), (608, .aload_n 0, 1, 609), (609, .iload 4, 2, 611), (611, .iconst 2, 1, 612), (612, .iadd, 1, 613), (613, .iaload, 1, 614), (614, .aload_n 0, 1, 615), (615, .iload 4, 2, 617)]
theorem K_L6 : tOK m_L_law.2.1 T_L6 := by
  show ∀ q ∈ T_L6, _
  decide +kernel
def T_L7 : List (Nat × Instr × Nat × Nat) := [(617, .iconst 3, 1, 618), (618, .iadd, 1, 619), (619, .iaload, 1, 620), (620, .invokevirtual 70, 3, 623), (623, .aload_n 2, 1, 624), (624, .aload_n 0, 1, 625), (625, .iload 4, 2, 627), (627, .iconst 1, 1, 628), (628, .iadd, 1, 629), (629, .iaload, 1, 630), (630, .aload_n 0, 1, 631), (631, .iload 4, 2, 633), (633, .iconst 2, 1, 634), (634, .iadd, 1, 635), (635, .iaload, 1, 636), (636, .aload_n 0, 1, 637), (637, .iload 4, 2, 639), (639, .iconst 3, 1, 640), (640, .iadd, 1, 641), (641, .iaload, 1, 642), (642, .invokevirtual 73, 3, 645), (645, .if_icmp .eq 899, 3, 648), (648, .iconst 0, 1, 649), (649, .ireturn, 1, 650), (650, .aload_n 1, 1, 651), (651, .aload_n 0, 1, 652), (652, .iload 4, 2, 654), (654, .iconst 1, 1, 655), (655, .iadd, 1, 656), (656, .iaload, 1, 657), (657, .aload_n 0, 1, 658), (658, .iload 4, 2, 660), (660, .iconst 2, 1, 661), (661, .iadd, 1, 662), (662, .iaload, 1, 663), (663, .invokevirtual 74, 3, 666), (666, .aload_n 2, 1, 667), (667, .aload_n 0, 1, 668), (668, .iload 4, 2, 670), (670, .iconst 1, 1, 671), (671, .iadd, 1, 672), (672, .iaload, 1, 673), (673, .aload_n 0, 1, 674), (674, .iload 4, 2, 676), (676, .iconst 2, 1, 677), (677, .iadd, 1, 678), (678, .iaload, 1, 679), (679, .invokevirtual 77, 3, 682)]
theorem K_L7 : tOK m_L_law.2.1 T_L7 := by
  show ∀ q ∈ T_L7, _
  decide +kernel
def T_L8 : List (Nat × Instr × Nat × Nat) := [(682, .if_icmp .eq 862, 3, 685), (685, .iconst 0, 1, 686), (686, .ireturn, 1, 687), (687, .aload_n 1, 1, 688), (688, .aload_n 0, 1, 689), (689, .iload 4, 2, 691), (691, .iconst 1, 1, 692), (692, .iadd, 1, 693), (693, .iaload, 1, 694), (694, .aload_n 0, 1, 695), (695, .iload 4, 2, 697), (697, .iconst 2, 1, 698), (698, .iadd, 1, 699), (699, .iaload, 1, 700), (700, .aload_n 0, 1, 701), (701, .iload 4, 2, 703), (703, .iconst 3, 1, 704), (704, .iadd, 1, 705), (705, .iaload, 1, 706), (706, .invokevirtual 78, 3, 709), (709, .aload_n 2, 1, 710), (710, .aload_n 0, 1, 711), (711, .iload 4, 2, 713), (713, .iconst 1, 1, 714), (714, .iadd, 1, 715), (715, .iaload, 1, 716), (716, .aload_n 0, 1, 717), (717, .iload 4, 2, 719), (719, .iconst 2, 1, 720), (720, .iadd, 1, 721), (721, .iaload, 1, 722), (722, .aload_n 0, 1, 723), (723, .iload 4, 2, 725), (725, .iconst 3, 1, 726), (726, .iadd, 1, 727), (727, .iaload, 1, 728), (728, .invokevirtual 81, 3, 731), (731, .if_icmp .eq 813, 3, 734), (734, .iconst 0, 1, 735), (735, .ireturn, 1, 736), (736, .aload_n 1, 1, 737), (737, .aload_n 0, 1, 738), (738, .iload 4, 2, 740), (740, .iconst 1, 1, 741), (741, .iadd, 1, 742), (742, .iaload, 1, 743), (743, .aload_n 0, 1, 744), (744, .iload 4, 2, 746)]
theorem K_L8 : tOK m_L_law.2.1 T_L8 := by
  show ∀ q ∈ T_L8, _
  decide +kernel
def T_L9 : List (Nat × Instr × Nat × Nat) := [(746, .iconst 2, 1, 747), (747, .iadd, 1, 748), (748, .iaload, 1, 749), (749, .aload_n 0, 1, 750), (750, .iload 4, 2, 752), (752, .iconst 3, 1, 753), (753, .iadd, 1, 754), (754, .iaload, 1, 755), (755, .aload_n 0, 1, 756), (756, .iload 4, 2, 758), (758, .iconst 4, 1, 759), (759, .iadd, 1, 760), (760, .iaload, 1, 761), (761, .invokevirtual 82, 3, 764), (764, .aload_n 2, 1, 765), (765, .aload_n 0, 1, 766), (766, .iload 4, 2, 768), (768, .iconst 1, 1, 769), (769, .iadd, 1, 770), (770, .iaload, 1, 771), (771, .aload_n 0, 1, 772), (772, .iload 4, 2, 774), (774, .iconst 2, 1, 775), (775, .iadd, 1, 776), (776, .iaload, 1, 777), (777, .aload_n 0, 1, 778), (778, .iload 4, 2, 780), (780, .iconst 3, 1, 781), (781, .iadd, 1, 782), (782, .iaload, 1, 783), (783, .aload_n 0, 1, 784), (784, .iload 4, 2, 786), (786, .iconst 4, 1, 787), (787, .iadd, 1, 788), (788, .iaload, 1, 789), (789, .invokevirtual 86, 3, 792), (792, .if_icmp .eq 752, 3, 795), (795, .iconst 0, 1, 796), (796, .ireturn, 1, 797), (797, .aload_n 1, 1, 798), (798, .aload_n 0, 1, 799), (799, .iload 4, 2, 801), (801, .iconst 1, 1, 802), (802, .iadd, 1, 803), (803, .iaload, 1, 804), (804, .aload_n 0, 1, 805), (805, .iload 4, 2, 807), (807, .iconst 2, 1, 808)]
theorem K_L9 : tOK m_L_law.2.1 T_L9 := by
  show ∀ q ∈ T_L9, _
  decide +kernel
def T_L10 : List (Nat × Instr × Nat × Nat) := [(808, .iadd, 1, 809), (809, .iaload, 1, 810), (810, .aload_n 0, 1, 811), (811, .iload 4, 2, 813), (813, .iconst 3, 1, 814), (814, .iadd, 1, 815), (815, .iaload, 1, 816), (816, .aload_n 0, 1, 817), (817, .iload 4, 2, 819), (819, .iconst 4, 1, 820), (820, .iadd, 1, 821), (821, .iaload, 1, 822), (822, .invokevirtual 87, 3, 825), (825, .aload_n 2, 1, 826), (826, .aload_n 0, 1, 827), (827, .iload 4, 2, 829), (829, .iconst 1, 1, 830), (830, .iadd, 1, 831), (831, .iaload, 1, 832), (832, .aload_n 0, 1, 833), (833, .iload 4, 2, 835), (835, .iconst 2, 1, 836), (836, .iadd, 1, 837), (837, .iaload, 1, 838), (838, .aload_n 0, 1, 839), (839, .iload 4, 2, 841), (841, .iconst 3, 1, 842), (842, .iadd, 1, 843), (843, .iaload, 1, 844), (844, .aload_n 0, 1, 845), (845, .iload 4, 2, 847), (847, .iconst 4, 1, 848), (848, .iadd, 1, 849), (849, .iaload, 1, 850), (850, .invokevirtual 90, 3, 853), (853, .if_icmp .eq 691, 3, 856), (856, .iconst 0, 1, 857), (857, .ireturn, 1, 858), (858, .aload_n 1, 1, 859), (859, .aload_n 0, 1, 860), (860, .iload 4, 2, 862), (862, .iconst 1, 1, 863), (863, .iadd, 1, 864), (864, .iaload, 1, 865), (865, .aload_n 0, 1, 866), (866, .iload 4, 2, 868), (868, .iconst 2, 1, 869), (869, .iadd, 1, 870)]
theorem K_L10 : tOK m_L_law.2.1 T_L10 := by
  show ∀ q ∈ T_L10, _
  decide +kernel
def T_L11 : List (Nat × Instr × Nat × Nat) := [(870, .iaload, 1, 871), (871, .aload_n 0, 1, 872), (872, .iload 4, 2, 874), (874, .iconst 3, 1, 875), (875, .iadd, 1, 876), (876, .iaload, 1, 877), (877, .invokevirtual 91, 3, 880), (880, .aload_n 2, 1, 881), (881, .aload_n 0, 1, 882), (882, .iload 4, 2, 884), (884, .iconst 1, 1, 885), (885, .iadd, 1, 886), (886, .iaload, 1, 887), (887, .aload_n 0, 1, 888), (888, .iload 4, 2, 890), (890, .iconst 2, 1, 891), (891, .iadd, 1, 892), (892, .iaload, 1, 893), (893, .aload_n 0, 1, 894), (894, .iload 4, 2, 896), (896, .iconst 3, 1, 897), (897, .iadd, 1, 898), (898, .iaload, 1, 899), (899, .invokevirtual 94, 3, 902), (902, .if_icmp .eq 642, 3, 905), (905, .iconst 0, 1, 906), (906, .ireturn, 1, 907), (907, .aload_n 1, 1, 908), (908, .aload_n 0, 1, 909), (909, .iload 4, 2, 911), (911, .iconst 1, 1, 912), (912, .iadd, 1, 913), (913, .iaload, 1, 914), (914, .aload_n 0, 1, 915), (915, .iload 4, 2, 917), (917, .iconst 2, 1, 918), (918, .iadd, 1, 919), (919, .iaload, 1, 920), (920, .invokevirtual 95, 3, 923), (923, .aload_n 2, 1, 924), (924, .aload_n 0, 1, 925), (925, .iload 4, 2, 927), (927, .iconst 1, 1, 928), (928, .iadd, 1, 929), (929, .iaload, 1, 930), (930, .aload_n 0, 1, 931), (931, .iload 4, 2, 933), (933, .iconst 2, 1, 934)]
theorem K_L11 : tOK m_L_law.2.1 T_L11 := by
  show ∀ q ∈ T_L11, _
  decide +kernel
def T_L12 : List (Nat × Instr × Nat × Nat) := [(934, .iadd, 1, 935), (935, .iaload, 1, 936), (936, .invokevirtual 98, 3, 939), (939, .if_icmp .eq 605, 3, 942), (942, .iconst 0, 1, 943), (943, .ireturn, 1, 944), (944, .aload_n 1, 1, 945), (945, .aload_n 0, 1, 946), (946, .iload 4, 2, 948), (948, .iconst 1, 1, 949), (949, .iadd, 1, 950), (950, .iaload, 1, 951), (951, .aload_n 0, 1, 952), (952, .iload 4, 2, 954), (954, .iconst 2, 1, 955), (955, .iadd, 1, 956), (956, .iaload, 1, 957), (957, .invokevirtual 99, 3, 960), (960, .aload_n 2, 1, 961), (961, .aload_n 0, 1, 962), (962, .iload 4, 2, 964), (964, .iconst 1, 1, 965), (965, .iadd, 1, 966), (966, .iaload, 1, 967), (967, .aload_n 0, 1, 968), (968, .iload 4, 2, 970), (970, .iconst 2, 1, 971), (971, .iadd, 1, 972), (972, .iaload, 1, 973), (973, .invokevirtual 102, 3, 976), (976, .if_icmp .eq 568, 3, 979), (979, .iconst 0, 1, 980), (980, .ireturn, 1, 981), (981, .aload_n 1, 1, 982), (982, .aload_n 0, 1, 983), (983, .iload 4, 2, 985), (985, .iconst 1, 1, 986), (986, .iadd, 1, 987), (987, .iaload, 1, 988), (988, .aload_n 0, 1, 989), (989, .iload 4, 2, 991), (991, .iconst 2, 1, 992), (992, .iadd, 1, 993), (993, .iaload, 1, 994), (994, .aload_n 0, 1, 995), (995, .iload 4, 2, 997), (997, .iconst 3, 1, 998), (998, .iadd, 1, 999)]
theorem K_L12 : tOK m_L_law.2.1 T_L12 := by
  show ∀ q ∈ T_L12, _
  decide +kernel
def T_L13 : List (Nat × Instr × Nat × Nat) := [(999, .iaload, 1, 1000), (1000, .i2l, 1, 1001), (1001, .bipush 32, 2, 1003), (1003, .lshl, 1, 1004), (1004, .aload_n 0, 1, 1005), (1005, .iload 4, 2, 1007), (1007, .iconst 4, 1, 1008), (1008, .iadd, 1, 1009), (1009, .iaload, 1, 1010), (1010, .i2l, 1, 1011), (1011, .ldc2_w 103, 3, 1014), (1014, .land, 1, 1015), (1015, .lor, 1, 1016), (1016, .aload_n 0, 1, 1017), (1017, .iload 4, 2, 1019), (1019, .iconst 5, 1, 1020), (1020, .iadd, 1, 1021), (1021, .iaload, 1, 1022), (1022, .invokevirtual 105, 3, 1025), (1025, .aload_n 2, 1, 1026), (1026, .aload_n 0, 1, 1027), (1027, .iload 4, 2, 1029), (1029, .iconst 1, 1, 1030), (1030, .iadd, 1, 1031), (1031, .iaload, 1, 1032), (1032, .aload_n 0, 1, 1033), (1033, .iload 4, 2, 1035), (1035, .iconst 2, 1, 1036), (1036, .iadd, 1, 1037), (1037, .iaload, 1, 1038), (1038, .aload_n 0, 1, 1039), (1039, .iload 4, 2, 1041), (1041, .iconst 3, 1, 1042), (1042, .iadd, 1, 1043), (1043, .iaload, 1, 1044), (1044, .i2l, 1, 1045), (1045, .bipush 32, 2, 1047), (1047, .lshl, 1, 1048), (1048, .aload_n 0, 1, 1049), (1049, .iload 4, 2, 1051), (1051, .iconst 4, 1, 1052), (1052, .iadd, 1, 1053), (1053, .iaload, 1, 1054), (1054, .i2l, 1, 1055), (1055, .ldc2_w 103, 3, 1058), (1058, .land, 1, 1059), (1059, .lor, 1, 1060), (1060, .aload_n 0, 1, 1061)]
theorem K_L13 : tOK m_L_law.2.1 T_L13 := by
  show ∀ q ∈ T_L13, _
  decide +kernel
def T_L14 : List (Nat × Instr × Nat × Nat) := [(1061, .iload 4, 2, 1063), (1063, .iconst 5, 1, 1064), (1064, .iadd, 1, 1065), (1065, .iaload, 1, 1066), (1066, .invokevirtual 109, 3, 1069), (1069, .if_icmp .eq 475, 3, 1072), (1072, .iconst 0, 1, 1073), (1073, .ireturn, 1, 1074), (1074, .aload_n 1, 1, 1075), (1075, .aload_n 0, 1, 1076), (1076, .iload 4, 2, 1078), (1078, .iconst 1, 1, 1079), (1079, .iadd, 1, 1080), (1080, .iaload, 1, 1081), (1081, .aload_n 0, 1, 1082), (1082, .iload 4, 2, 1084), (1084, .iconst 2, 1, 1085), (1085, .iadd, 1, 1086), (1086, .iaload, 1, 1087), (1087, .invokevirtual 110, 3, 1090), (1090, .aload_n 2, 1, 1091), (1091, .aload_n 0, 1, 1092), (1092, .iload 4, 2, 1094), (1094, .iconst 1, 1, 1095), (1095, .iadd, 1, 1096), (1096, .iaload, 1, 1097), (1097, .aload_n 0, 1, 1098), (1098, .iload 4, 2, 1100), (1100, .iconst 2, 1, 1101), (1101, .iadd, 1, 1102), (1102, .iaload, 1, 1103), (1103, .invokevirtual 113, 3, 1106), (1106, .if_icmp .eq 438, 3, 1109), (1109, .iconst 0, 1, 1110), (1110, .ireturn, 1, 1111), (1111, .aload_n 1, 1, 1112), (1112, .aload_n 0, 1, 1113), (1113, .iload 4, 2, 1115), (1115, .iconst 1, 1, 1116), (1116, .iadd, 1, 1117), (1117, .iaload, 1, 1118), (1118, .invokevirtual 114, 3, 1121), (1121, .aload_n 2, 1, 1122), (1122, .aload_n 0, 1, 1123), (1123, .iload 4, 2, 1125), (1125, .iconst 1, 1, 1126), (1126, .iadd, 1, 1127), (1127, .iaload, 1, 1128)]
theorem K_L14 : tOK m_L_law.2.1 T_L14 := by
  show ∀ q ∈ T_L14, _
  decide +kernel
def T_L15 : List (Nat × Instr × Nat × Nat) := [(1128, .invokevirtual 117, 3, 1131), (1131, .if_icmp .eq 413, 3, 1134), (1134, .iconst 0, 1, 1135), (1135, .ireturn, 1, 1136), (1136, .aload_n 1, 1, 1137), (1137, .aload_n 0, 1, 1138), (1138, .iload 4, 2, 1140), (1140, .iconst 1, 1, 1141), (1141, .iadd, 1, 1142), (1142, .iaload, 1, 1143), (1143, .invokevirtual 118, 3, 1146), (1146, .aload_n 2, 1, 1147), (1147, .aload_n 0, 1, 1148), (1148, .iload 4, 2, 1150), (1150, .iconst 1, 1, 1151), (1151, .iadd, 1, 1152), (1152, .iaload, 1, 1153), (1153, .invokevirtual 121, 3, 1156), (1156, .if_icmp .eq 388, 3, 1159), (1159, .iconst 0, 1, 1160), (1160, .ireturn, 1, 1161), (1161, .aload_n 1, 1, 1162), (1162, .aload_n 0, 1, 1163), (1163, .iload 4, 2, 1165), (1165, .iconst 1, 1, 1166), (1166, .iadd, 1, 1167), (1167, .iaload, 1, 1168), (1168, .aload_n 0, 1, 1169), (1169, .iload 4, 2, 1171), (1171, .iconst 2, 1, 1172), (1172, .iadd, 1, 1173), (1173, .iaload, 1, 1174), (1174, .invokevirtual 122, 3, 1177), (1177, .aload_n 2, 1, 1178), (1178, .aload_n 0, 1, 1179), (1179, .iload 4, 2, 1181), (1181, .iconst 1, 1, 1182), (1182, .iadd, 1, 1183), (1183, .iaload, 1, 1184), (1184, .aload_n 0, 1, 1185), (1185, .iload 4, 2, 1187), (1187, .iconst 2, 1, 1188), (1188, .iadd, 1, 1189), (1189, .iaload, 1, 1190), (1190, .invokevirtual 126, 3, 1193), (1193, .if_icmp .eq 351, 3, 1196), (1196, .iconst 0, 1, 1197), (1197, .ireturn, 1, 1198)]
theorem K_L15 : tOK m_L_law.2.1 T_L15 := by
  show ∀ q ∈ T_L15, _
  decide +kernel
def T_L16 : List (Nat × Instr × Nat × Nat) := [(1198, .aload_n 1, 1, 1199), (1199, .aload_n 0, 1, 1200), (1200, .iload 4, 2, 1202), (1202, .iconst 1, 1, 1203), (1203, .iadd, 1, 1204), (1204, .iaload, 1, 1205), (1205, .invokevirtual 127, 3, 1208), (1208, .aload_n 2, 1, 1209), (1209, .aload_n 0, 1, 1210), (1210, .iload 4, 2, 1212), (1212, .iconst 1, 1, 1213), (1213, .iadd, 1, 1214), (1214, .iaload, 1, 1215), (1215, .invokevirtual 130, 3, 1218), (1218, .if_icmp .eq 326, 3, 1221), (1221, .iconst 0, 1, 1222), (1222, .ireturn, 1, 1223), (1223, .aload_n 1, 1, 1224), (1224, .aload_n 0, 1, 1225), (1225, .iload 4, 2, 1227), (1227, .iconst 1, 1, 1228), (1228, .iadd, 1, 1229), (1229, .iaload, 1, 1230), (1230, .aload_n 0, 1, 1231), (1231, .iload 4, 2, 1233), (1233, .iconst 2, 1, 1234), (1234, .iadd, 1, 1235), (1235, .iaload, 1, 1236), (1236, .invokevirtual 131, 3, 1239), (1239, .aload_n 2, 1, 1240), (1240, .aload_n 0, 1, 1241), (1241, .iload 4, 2, 1243), (1243, .iconst 1, 1, 1244), (1244, .iadd, 1, 1245), (1245, .iaload, 1, 1246), (1246, .aload_n 0, 1, 1247), (1247, .iload 4, 2, 1249), (1249, .iconst 2, 1, 1250), (1250, .iadd, 1, 1251), (1251, .iaload, 1, 1252), (1252, .invokevirtual 134, 3, 1255), (1255, .if_icmp .eq 289, 3, 1258), (1258, .iconst 0, 1, 1259), (1259, .ireturn, 1, 1260), (1260, .aload_n 1, 1, 1261), (1261, .aload_n 0, 1, 1262), (1262, .iload 4, 2, 1264), (1264, .iconst 1, 1, 1265)]
theorem K_L16 : tOK m_L_law.2.1 T_L16 := by
  show ∀ q ∈ T_L16, _
  decide +kernel
def T_L17 : List (Nat × Instr × Nat × Nat) := [(1265, .iadd, 1, 1266), (1266, .iaload, 1, 1267), (1267, .aload_n 0, 1, 1268), (1268, .iload 4, 2, 1270), (1270, .iconst 2, 1, 1271), (1271, .iadd, 1, 1272), (1272, .iaload, 1, 1273), (1273, .invokevirtual 135, 3, 1276), (1276, .aload_n 2, 1, 1277), (1277, .aload_n 0, 1, 1278), (1278, .iload 4, 2, 1280), (1280, .iconst 1, 1, 1281), (1281, .iadd, 1, 1282), (1282, .iaload, 1, 1283), (1283, .aload_n 0, 1, 1284), (1284, .iload 4, 2, 1286), (1286, .iconst 2, 1, 1287), (1287, .iadd, 1, 1288), (1288, .iaload, 1, 1289), (1289, .invokevirtual 138, 3, 1292), (1292, .if_icmp .eq 252, 3, 1295), (1295, .iconst 0, 1, 1296), (1296, .ireturn, 1, 1297), (1297, .aload_n 1, 1, 1298), (1298, .aload_n 0, 1, 1299), (1299, .iload 4, 2, 1301), (1301, .iconst 1, 1, 1302), (1302, .iadd, 1, 1303), (1303, .iaload, 1, 1304), (1304, .aload_n 0, 1, 1305), (1305, .iload 4, 2, 1307), (1307, .iconst 2, 1, 1308), (1308, .iadd, 1, 1309), (1309, .iaload, 1, 1310), (1310, .invokevirtual 139, 3, 1313), (1313, .aload_n 2, 1, 1314), (1314, .aload_n 0, 1, 1315), (1315, .iload 4, 2, 1317), (1317, .iconst 1, 1, 1318), (1318, .iadd, 1, 1319), (1319, .iaload, 1, 1320), (1320, .aload_n 0, 1, 1321), (1321, .iload 4, 2, 1323), (1323, .iconst 2, 1, 1324), (1324, .iadd, 1, 1325), (1325, .iaload, 1, 1326), (1326, .invokevirtual 142, 3, 1329), (1329, .if_icmp .eq 215, 3, 1332)]
theorem K_L17 : tOK m_L_law.2.1 T_L17 := by
  show ∀ q ∈ T_L17, _
  decide +kernel
def T_L18 : List (Nat × Instr × Nat × Nat) := [(1332, .iconst 0, 1, 1333), (1333, .ireturn, 1, 1334), (1334, .aload_n 1, 1, 1335), (1335, .aload_n 0, 1, 1336), (1336, .iload 4, 2, 1338), (1338, .iconst 1, 1, 1339), (1339, .iadd, 1, 1340), (1340, .iaload, 1, 1341), (1341, .aload_n 0, 1, 1342), (1342, .iload 4, 2, 1344), (1344, .iconst 2, 1, 1345), (1345, .iadd, 1, 1346), (1346, .iaload, 1, 1347), (1347, .aload_n 0, 1, 1348), (1348, .iload 4, 2, 1350), (1350, .iconst 3, 1, 1351), (1351, .iadd, 1, 1352), (1352, .iaload, 1, 1353), (1353, .invokevirtual 143, 3, 1356), (1356, .aload_n 2, 1, 1357), (1357, .aload_n 0, 1, 1358), (1358, .iload 4, 2, 1360), (1360, .iconst 1, 1, 1361), (1361, .iadd, 1, 1362), (1362, .iaload, 1, 1363), (1363, .aload_n 0, 1, 1364), (1364, .iload 4, 2, 1366), (1366, .iconst 2, 1, 1367), (1367, .iadd, 1, 1368), (1368, .iaload, 1, 1369), (1369, .aload_n 0, 1, 1370), (1370, .iload 4, 2, 1372), (1372, .iconst 3, 1, 1373), (1373, .iadd, 1, 1374), (1374, .iaload, 1, 1375), (1375, .invokevirtual 146, 3, 1378), (1378, .if_icmp .eq 166, 3, 1381), (1381, .iconst 0, 1, 1382), (1382, .ireturn, 1, 1383), (1383, .aload_n 1, 1, 1384), (1384, .aload_n 0, 1, 1385), (1385, .iload 4, 2, 1387), (1387, .iconst 1, 1, 1388), (1388, .iadd, 1, 1389), (1389, .iaload, 1, 1390), (1390, .aload_n 0, 1, 1391), (1391, .iload 4, 2, 1393), (1393, .iconst 2, 1, 1394)]
theorem K_L18 : tOK m_L_law.2.1 T_L18 := by
  show ∀ q ∈ T_L18, _
  decide +kernel
def T_L19 : List (Nat × Instr × Nat × Nat) := [(1394, .iadd, 1, 1395), (1395, .iaload, 1, 1396), (1396, .invokevirtual 147, 3, 1399), (1399, .aload_n 2, 1, 1400), (1400, .aload_n 0, 1, 1401), (1401, .iload 4, 2, 1403), (1403, .iconst 1, 1, 1404), (1404, .iadd, 1, 1405), (1405, .iaload, 1, 1406), (1406, .aload_n 0, 1, 1407), (1407, .iload 4, 2, 1409), (1409, .iconst 2, 1, 1410), (1410, .iadd, 1, 1411), (1411, .iaload, 1, 1412), (1412, .invokevirtual 150, 3, 1415), (1415, .if_icmp .eq 129, 3, 1418), (1418, .iconst 0, 1, 1419), (1419, .ireturn, 1, 1420), (1420, .aload_n 1, 1, 1421), (1421, .aload_n 0, 1, 1422), (1422, .iload 4, 2, 1424), (1424, .iconst 1, 1, 1425), (1425, .iadd, 1, 1426), (1426, .iaload, 1, 1427), (1427, .aload_n 0, 1, 1428), (1428, .iload 4, 2, 1430), (1430, .iconst 2, 1, 1431), (1431, .iadd, 1, 1432), (1432, .iaload, 1, 1433), (1433, .invokevirtual 151, 3, 1436), (1436, .aload_n 2, 1, 1437), (1437, .aload_n 0, 1, 1438), (1438, .iload 4, 2, 1440), (1440, .iconst 1, 1, 1441), (1441, .iadd, 1, 1442), (1442, .iaload, 1, 1443), (1443, .aload_n 0, 1, 1444), (1444, .iload 4, 2, 1446), (1446, .iconst 2, 1, 1447), (1447, .iadd, 1, 1448), (1448, .iaload, 1, 1449), (1449, .invokevirtual 154, 3, 1452), (1452, .if_icmp .eq 92, 3, 1455), (1455, .iconst 0, 1, 1456), (1456, .ireturn, 1, 1457), (1457, .aload_n 1, 1, 1458), (1458, .aload_n 0, 1, 1459), (1459, .iload 4, 2, 1461)]
theorem K_L19 : tOK m_L_law.2.1 T_L19 := by
  show ∀ q ∈ T_L19, _
  decide +kernel
def T_L20 : List (Nat × Instr × Nat × Nat) := [(1461, .iconst 1, 1, 1462), (1462, .iadd, 1, 1463), (1463, .iaload, 1, 1464), (1464, .invokevirtual 155, 3, 1467), (1467, .aload_n 2, 1, 1468), (1468, .aload_n 0, 1, 1469), (1469, .iload 4, 2, 1471), (1471, .iconst 1, 1, 1472), (1472, .iadd, 1, 1473), (1473, .iaload, 1, 1474), (1474, .invokevirtual 158, 3, 1477), (1477, .if_icmp .eq 67, 3, 1480), (1480, .iconst 0, 1, 1481), (1481, .ireturn, 1, 1482), (1482, .aload_n 1, 1, 1483), (1483, .aload_n 0, 1, 1484), (1484, .iload 4, 2, 1486), (1486, .iconst 1, 1, 1487), (1487, .iadd, 1, 1488), (1488, .iaload, 1, 1489), (1489, .aload_n 0, 1, 1490), (1490, .iload 4, 2, 1492), (1492, .iconst 2, 1, 1493), (1493, .iadd, 1, 1494), (1494, .iaload, 1, 1495), (1495, .invokevirtual 159, 3, 1498), (1498, .aload_n 2, 1, 1499), (1499, .aload_n 0, 1, 1500), (1500, .iload 4, 2, 1502), (1502, .iconst 1, 1, 1503), (1503, .iadd, 1, 1504), (1504, .iaload, 1, 1505), (1505, .aload_n 0, 1, 1506), (1506, .iload 4, 2, 1508), (1508, .iconst 2, 1, 1509), (1509, .iadd, 1, 1510), (1510, .iaload, 1, 1511), (1511, .invokevirtual 162, 3, 1514), (1514, .if_icmp .eq 30, 3, 1517), (1517, .iconst 0, 1, 1518), (1518, .ireturn, 1, 1519), (1519, .aload_n 1, 1, 1520), (1520, .aload_n 0, 1, 1521), (1521, .iload 4, 2, 1523), (1523, .iconst 1, 1, 1524), (1524, .iadd, 1, 1525), (1525, .iaload, 1, 1526), (1526, .invokevirtual 163, 3, 1529)]
theorem K_L20 : tOK m_L_law.2.1 T_L20 := by
  show ∀ q ∈ T_L20, _
  decide +kernel
def T_L21 : List (Nat × Instr × Nat × Nat) := [(1529, .aload_n 2, 1, 1530), (1530, .aload_n 0, 1, 1531), (1531, .iload 4, 2, 1533), (1533, .iconst 1, 1, 1534), (1534, .iadd, 1, 1535), (1535, .iaload, 1, 1536), (1536, .invokevirtual 166, 3, 1539), (1539, .if_icmp .eq 5, 3, 1542), (1542, .iconst 0, 1, 1543), (1543, .ireturn, 1, 1544), (1544, .iinc 4 6, 3, 1547), (1547, .goto (-1524), 3, 1550), (1550, .iconst 1, 1, 1551), (1551, .ireturn, 1, 1552)]
theorem K_L21 : tOK m_L_law.2.1 T_L21 := by
  show ∀ q ∈ T_L21, _
  decide +kernel
set_option maxRecDepth 100000 in
theorem f_X10_158 : lnk "TwoPencils" 158 3 6 := Or.inr ⟨"TwoPencils", in_t1 (List.mem_of_getElem? (i := 184) rfl)⟩
set_option maxRecDepth 100000 in
theorem f_X10_161 : lnk "TwoPencils" 161 3 7 := Or.inr ⟨"TwoPencils", in_t1 (List.mem_of_getElem? (i := 186) rfl)⟩
set_option maxRecDepth 100000 in
theorem cl_L_8 : Cond.classLink "TwoPencilsLaw" 8 (nmC 10) ∈ lw_tbl := in_t1 (List.mem_of_getElem? (i := 20) rfl)
set_option maxRecDepth 100000 in
theorem mk_L_15 : mlk "TwoPencilsLaw" 15 ⟨"TwoPencils", "<init>", "()V"⟩ := Or.inl (in_t1 (List.mem_of_getElem? (i := 22) rfl))
set_option maxRecDepth 100000 in
theorem cl_L_16 : Cond.classLink "TwoPencilsLaw" 16 (nmC 11) ∈ lw_tbl := in_t5 (List.mem_of_getElem? (i := 198) rfl)
set_option maxRecDepth 100000 in
theorem mk_L_18 : mlk "TwoPencilsLaw" 18 ⟨"TwoPencilsModel", "<init>", "()V"⟩ := Or.inl (in_t5 (List.mem_of_getElem? (i := 200) rfl))
set_option maxRecDepth 100000 in
theorem mk_L_19 : mlk "TwoPencilsLaw" 19 ⟨"TwoPencils", "feed", "(IIIII)I"⟩ := Or.inl (in_t3 (List.mem_of_getElem? (i := 7) rfl))
set_option maxRecDepth 100000 in
theorem mk_L_23 : mlk "TwoPencilsLaw" 23 ⟨"TwoPencilsModel", "feed", "(IIIII)I"⟩ := Or.inl (in_t6 (List.mem_of_getElem? (i := 133) rfl))
set_option maxRecDepth 100000 in
theorem mk_L_24 : mlk "TwoPencilsLaw" 24 ⟨"TwoPencils", "end", "(I)Z"⟩ := Or.inl (in_t3 (List.mem_of_getElem? (i := 18) rfl))
set_option maxRecDepth 100000 in
theorem mk_L_28 : mlk "TwoPencilsLaw" 28 ⟨"TwoPencilsModel", "end", "(I)Z"⟩ := Or.inl (in_t6 (List.mem_of_getElem? (i := 140) rfl))
set_option maxRecDepth 100000 in
theorem mk_L_29 : mlk "TwoPencilsLaw" 29 ⟨"TwoPencils", "fault", "(I)I"⟩ := Or.inl (in_t3 (List.mem_of_getElem? (i := 22) rfl))
set_option maxRecDepth 100000 in
theorem mk_L_33 : mlk "TwoPencilsLaw" 33 ⟨"TwoPencilsModel", "fault", "(I)I"⟩ := Or.inl (in_t6 (List.mem_of_getElem? (i := 144) rfl))
set_option maxRecDepth 100000 in
theorem mk_L_34 : mlk "TwoPencilsLaw" 34 ⟨"TwoPencils", "land", "()I"⟩ := Or.inl (in_t3 (List.mem_of_getElem? (i := 99) rfl))
set_option maxRecDepth 100000 in
theorem mk_L_38 : mlk "TwoPencilsLaw" 38 ⟨"TwoPencilsModel", "land", "()I"⟩ := Or.inl (in_t6 (List.mem_of_getElem? (i := 194) rfl))
set_option maxRecDepth 100000 in
theorem mk_L_39 : mlk "TwoPencilsLaw" 39 ⟨"TwoPencils", "protocol", "()I"⟩ := Or.inl (in_t3 (List.mem_of_getElem? (i := 103) rfl))
set_option maxRecDepth 100000 in
theorem mk_L_42 : mlk "TwoPencilsLaw" 42 ⟨"TwoPencilsModel", "protocol", "()I"⟩ := Or.inl (in_t6 (List.mem_of_getElem? (i := 198) rfl))
set_option maxRecDepth 100000 in
theorem mk_L_43 : mlk "TwoPencilsLaw" 43 ⟨"TwoPencils", "told", "(II)I"⟩ := Or.inl (in_t3 (List.mem_of_getElem? (i := 107) rfl))
set_option maxRecDepth 100000 in
theorem mk_L_47 : mlk "TwoPencilsLaw" 47 ⟨"TwoPencilsModel", "told", "(II)I"⟩ := Or.inl (in_t6 (List.mem_of_getElem? (i := 202) rfl))
set_option maxRecDepth 100000 in
theorem mk_L_48 : mlk "TwoPencilsLaw" 48 ⟨"TwoPencilsLaw", "parish", "(LTwoPencils;III[J)I"⟩ := Or.inl (in_t5 (List.mem_of_getElem? (i := 129) rfl))
set_option maxRecDepth 100000 in
theorem mk_L_53 : mlk "TwoPencilsLaw" 53 ⟨"TwoPencilsModel", "parish", "(III)I"⟩ := Or.inl (in_t6 (List.mem_of_getElem? (i := 214) rfl))
set_option maxRecDepth 100000 in
theorem mk_L_54 : mlk "TwoPencilsLaw" 54 ⟨"TwoPencilsModel", "thrown", "()I"⟩ := Or.inl (in_t6 (List.mem_of_getElem? (i := 129) rfl))
set_option maxRecDepth 100000 in
theorem mk_L_57 : mlk "TwoPencilsLaw" 57 ⟨"TwoPencils", "vote", "(IIII)Z"⟩ := Or.inl (in_t3 (List.mem_of_getElem? (i := 119) rfl))
set_option maxRecDepth 100000 in
theorem mk_L_61 : mlk "TwoPencilsLaw" 61 ⟨"TwoPencilsModel", "vote", "(IIII)Z"⟩ := Or.inl (in_t7 (List.mem_of_getElem? (i := 122) rfl))
set_option maxRecDepth 100000 in
theorem mk_L_62 : mlk "TwoPencilsLaw" 62 ⟨"TwoPencils", "judge", "(II)I"⟩ := Or.inl (in_t3 (List.mem_of_getElem? (i := 136) rfl))
set_option maxRecDepth 100000 in
theorem mk_L_65 : mlk "TwoPencilsLaw" 65 ⟨"TwoPencilsModel", "judge", "(II)I"⟩ := Or.inl (in_t6 (List.mem_of_getElem? (i := 226) rfl))
set_option maxRecDepth 100000 in
theorem mk_L_66 : mlk "TwoPencilsLaw" 66 ⟨"TwoPencils", "won", "(III)I"⟩ := Or.inl (in_t3 (List.mem_of_getElem? (i := 176) rfl))
set_option maxRecDepth 100000 in
theorem mk_L_69 : mlk "TwoPencilsLaw" 69 ⟨"TwoPencilsModel", "won", "(III)I"⟩ := Or.inl (in_t7 (List.mem_of_getElem? (i := 27) rfl))
set_option maxRecDepth 100000 in
theorem mk_L_70 : mlk "TwoPencilsLaw" 70 ⟨"TwoPencils", "seats", "(III)I"⟩ := Or.inl (in_t3 (List.mem_of_getElem? (i := 188) rfl))
set_option maxRecDepth 100000 in
theorem mk_L_73 : mlk "TwoPencilsLaw" 73 ⟨"TwoPencilsModel", "seats", "(III)I"⟩ := Or.inl (in_t7 (List.mem_of_getElem? (i := 36) rfl))
set_option maxRecDepth 100000 in
theorem mk_L_74 : mlk "TwoPencilsLaw" 74 ⟨"TwoPencils", "all", "(II)I"⟩ := Or.inl (in_t3 (List.mem_of_getElem? (i := 197) rfl))
set_option maxRecDepth 100000 in
theorem mk_L_77 : mlk "TwoPencilsLaw" 77 ⟨"TwoPencilsModel", "all", "(II)I"⟩ := Or.inl (in_t7 (List.mem_of_getElem? (i := 47) rfl))
set_option maxRecDepth 100000 in
theorem mk_L_78 : mlk "TwoPencilsLaw" 78 ⟨"TwoPencils", "alone", "(III)I"⟩ := Or.inl (in_t3 (List.mem_of_getElem? (i := 238) rfl))
set_option maxRecDepth 100000 in
theorem mk_L_81 : mlk "TwoPencilsLaw" 81 ⟨"TwoPencilsModel", "alone", "(III)I"⟩ := Or.inl (in_t7 (List.mem_of_getElem? (i := 63) rfl))
set_option maxRecDepth 100000 in
theorem mk_L_82 : mlk "TwoPencilsLaw" 82 ⟨"TwoPencils", "luck", "(IIII)I"⟩ := Or.inl (in_t4 (List.mem_of_getElem? (i := 22) rfl))
set_option maxRecDepth 100000 in
theorem mk_L_86 : mlk "TwoPencilsLaw" 86 ⟨"TwoPencilsModel", "luck", "(IIII)I"⟩ := Or.inl (in_t7 (List.mem_of_getElem? (i := 67) rfl))
set_option maxRecDepth 100000 in
theorem mk_L_87 : mlk "TwoPencilsLaw" 87 ⟨"TwoPencils", "far", "(IIII)I"⟩ := Or.inl (in_t4 (List.mem_of_getElem? (i := 30) rfl))
set_option maxRecDepth 100000 in
theorem mk_L_90 : mlk "TwoPencilsLaw" 90 ⟨"TwoPencilsModel", "far", "(IIII)I"⟩ := Or.inl (in_t7 (List.mem_of_getElem? (i := 71) rfl))
set_option maxRecDepth 100000 in
theorem mk_L_91 : mlk "TwoPencilsLaw" 91 ⟨"TwoPencils", "apart", "(III)I"⟩ := Or.inl (in_t4 (List.mem_of_getElem? (i := 50) rfl))
set_option maxRecDepth 100000 in
theorem mk_L_94 : mlk "TwoPencilsLaw" 94 ⟨"TwoPencilsModel", "apart", "(III)I"⟩ := Or.inl (in_t7 (List.mem_of_getElem? (i := 83) rfl))
set_option maxRecDepth 100000 in
theorem mk_L_95 : mlk "TwoPencilsLaw" 95 ⟨"TwoPencils", "settled", "(II)I"⟩ := Or.inl (in_t4 (List.mem_of_getElem? (i := 65) rfl))
set_option maxRecDepth 100000 in
theorem mk_L_98 : mlk "TwoPencilsLaw" 98 ⟨"TwoPencilsModel", "settled", "(II)I"⟩ := Or.inl (in_t7 (List.mem_of_getElem? (i := 96) rfl))
set_option maxRecDepth 100000 in
theorem mk_L_99 : mlk "TwoPencilsLaw" 99 ⟨"TwoPencils", "near", "(II)I"⟩ := Or.inl (in_t4 (List.mem_of_getElem? (i := 87) rfl))
set_option maxRecDepth 100000 in
theorem mk_L_102 : mlk "TwoPencilsLaw" 102 ⟨"TwoPencilsModel", "near", "(II)I"⟩ := Or.inl (in_t7 (List.mem_of_getElem? (i := 112) rfl))
set_option maxRecDepth 100000 in
theorem kc_L_103 : Cond.constantLong "TwoPencilsLaw" 103 4294967295 ∈ lw_tbl := in_t8 (List.mem_of_getElem? (i := 138) rfl)
set_option maxRecDepth 100000 in
theorem mk_L_105 : mlk "TwoPencilsLaw" 105 ⟨"TwoPencils", "walk", "(IIJI)I"⟩ := Or.inl (in_t4 (List.mem_of_getElem? (i := 97) rfl))
set_option maxRecDepth 100000 in
theorem mk_L_109 : mlk "TwoPencilsLaw" 109 ⟨"TwoPencilsModel", "walk", "(IIJI)I"⟩ := Or.inl (in_t7 (List.mem_of_getElem? (i := 116) rfl))
set_option maxRecDepth 100000 in
theorem mk_L_110 : mlk "TwoPencilsLaw" 110 ⟨"TwoPencils", "game", "(II)I"⟩ := Or.inl (in_t4 (List.mem_of_getElem? (i := 121) rfl))
set_option maxRecDepth 100000 in
theorem mk_L_113 : mlk "TwoPencilsLaw" 113 ⟨"TwoPencilsModel", "game", "(II)I"⟩ := Or.inl (in_t7 (List.mem_of_getElem? (i := 126) rfl))
set_option maxRecDepth 100000 in
theorem mk_L_114 : mlk "TwoPencilsLaw" 114 ⟨"TwoPencils", "phase", "(I)I"⟩ := Or.inl (in_t4 (List.mem_of_getElem? (i := 163) rfl))
set_option maxRecDepth 100000 in
theorem mk_L_117 : mlk "TwoPencilsLaw" 117 ⟨"TwoPencilsModel", "phase", "(I)I"⟩ := Or.inl (in_t7 (List.mem_of_getElem? (i := 176) rfl))
set_option maxRecDepth 100000 in
theorem mk_L_118 : mlk "TwoPencilsLaw" 118 ⟨"TwoPencils", "turn", "(I)I"⟩ := Or.inl (in_t4 (List.mem_of_getElem? (i := 171) rfl))
set_option maxRecDepth 100000 in
theorem mk_L_121 : mlk "TwoPencilsLaw" 121 ⟨"TwoPencilsModel", "turn", "(I)I"⟩ := Or.inl (in_t7 (List.mem_of_getElem? (i := 204) rfl))
set_option maxRecDepth 100000 in
theorem mk_L_122 : mlk "TwoPencilsLaw" 122 ⟨"TwoPencils", "move", "(II)Z"⟩ := Or.inl (in_t4 (List.mem_of_getElem? (i := 183) rfl))
set_option maxRecDepth 100000 in
theorem mk_L_126 : mlk "TwoPencilsLaw" 126 ⟨"TwoPencilsModel", "move", "(II)Z"⟩ := Or.inl (in_t7 (List.mem_of_getElem? (i := 216) rfl))
set_option maxRecDepth 100000 in
theorem mk_L_127 : mlk "TwoPencilsLaw" 127 ⟨"TwoPencils", "undo", "(I)Z"⟩ := Or.inl (in_t4 (List.mem_of_getElem? (i := 222) rfl))
set_option maxRecDepth 100000 in
theorem mk_L_130 : mlk "TwoPencilsLaw" 130 ⟨"TwoPencilsModel", "undo", "(I)Z"⟩ := Or.inl (in_t8 (List.mem_of_getElem? (i := 8) rfl))
set_option maxRecDepth 100000 in
theorem mk_L_131 : mlk "TwoPencilsLaw" 131 ⟨"TwoPencils", "best", "(II)I"⟩ := Or.inl (in_t4 (List.mem_of_getElem? (i := 232) rfl))
set_option maxRecDepth 100000 in
theorem mk_L_134 : mlk "TwoPencilsLaw" 134 ⟨"TwoPencilsModel", "best", "(II)I"⟩ := Or.inl (in_t8 (List.mem_of_getElem? (i := 12) rfl))
set_option maxRecDepth 100000 in
theorem mk_L_135 : mlk "TwoPencilsLaw" 135 ⟨"TwoPencils", "value", "(II)I"⟩ := Or.inl (in_t5 (List.mem_of_getElem? (i := 77) rfl))
set_option maxRecDepth 100000 in
theorem mk_L_138 : mlk "TwoPencilsLaw" 138 ⟨"TwoPencilsModel", "value", "(II)I"⟩ := Or.inl (in_t8 (List.mem_of_getElem? (i := 74) rfl))
set_option maxRecDepth 100000 in
theorem mk_L_139 : mlk "TwoPencilsLaw" 139 ⟨"TwoPencils", "kept", "(II)I"⟩ := Or.inl (in_t5 (List.mem_of_getElem? (i := 84) rfl))
set_option maxRecDepth 100000 in
theorem mk_L_142 : mlk "TwoPencilsLaw" 142 ⟨"TwoPencilsModel", "kept", "(II)I"⟩ := Or.inl (in_t8 (List.mem_of_getElem? (i := 86) rfl))
set_option maxRecDepth 100000 in
theorem mk_L_143 : mlk "TwoPencilsLaw" 143 ⟨"TwoPencils", "sure", "(III)I"⟩ := Or.inl (in_t5 (List.mem_of_getElem? (i := 88) rfl))
set_option maxRecDepth 100000 in
theorem mk_L_146 : mlk "TwoPencilsLaw" 146 ⟨"TwoPencilsModel", "sure", "(III)I"⟩ := Or.inl (in_t8 (List.mem_of_getElem? (i := 90) rfl))
set_option maxRecDepth 100000 in
theorem mk_L_147 : mlk "TwoPencilsLaw" 147 ⟨"TwoPencils", "ended", "(II)I"⟩ := Or.inl (in_t5 (List.mem_of_getElem? (i := 96) rfl))
set_option maxRecDepth 100000 in
theorem mk_L_150 : mlk "TwoPencilsLaw" 150 ⟨"TwoPencilsModel", "ended", "(II)I"⟩ := Or.inl (in_t8 (List.mem_of_getElem? (i := 102) rfl))
set_option maxRecDepth 100000 in
theorem mk_L_151 : mlk "TwoPencilsLaw" 151 ⟨"TwoPencils", "first", "(II)I"⟩ := Or.inl (in_t5 (List.mem_of_getElem? (i := 105) rfl))
set_option maxRecDepth 100000 in
theorem mk_L_154 : mlk "TwoPencilsLaw" 154 ⟨"TwoPencilsModel", "first", "(II)I"⟩ := Or.inl (in_t8 (List.mem_of_getElem? (i := 114) rfl))
set_option maxRecDepth 100000 in
theorem mk_L_155 : mlk "TwoPencilsLaw" 155 ⟨"TwoPencils", "worst", "(I)I"⟩ := Or.inl (in_t5 (List.mem_of_getElem? (i := 109) rfl))
set_option maxRecDepth 100000 in
theorem mk_L_158 : mlk "TwoPencilsLaw" 158 ⟨"TwoPencilsModel", "worst", "(I)I"⟩ := Or.inl (in_t8 (List.mem_of_getElem? (i := 118) rfl))
set_option maxRecDepth 100000 in
theorem mk_L_159 : mlk "TwoPencilsLaw" 159 ⟨"TwoPencils", "worse", "(II)I"⟩ := Or.inl (in_t5 (List.mem_of_getElem? (i := 117) rfl))
set_option maxRecDepth 100000 in
theorem mk_L_162 : mlk "TwoPencilsLaw" 162 ⟨"TwoPencilsModel", "worse", "(II)I"⟩ := Or.inl (in_t8 (List.mem_of_getElem? (i := 130) rfl))
set_option maxRecDepth 100000 in
theorem mk_L_163 : mlk "TwoPencilsLaw" 163 ⟨"TwoPencils", "count", "(I)I"⟩ := Or.inl (in_t5 (List.mem_of_getElem? (i := 121) rfl))
set_option maxRecDepth 100000 in
theorem mk_L_166 : mlk "TwoPencilsLaw" 166 ⟨"TwoPencilsModel", "count", "(I)I"⟩ := Or.inl (in_t8 (List.mem_of_getElem? (i := 134) rfl))
set_option maxRecDepth 100000 in
theorem mk_L_7 : mlk "TwoPencilsLaw" 7 ⟨"TwoPencils", "parish", "(III)I"⟩ := Or.inl (in_t5 (List.mem_of_getElem? (i := 133) rfl))
set_option maxRecDepth 100000 in
theorem cl_L_13 : Cond.classLink "TwoPencilsLaw" 13 nmX ∈ lw_tbl := in_t5 (List.mem_of_getElem? (i := 132) rfl)
set_option maxRecDepth 100000 in
theorem ca_X : Cond.castable nmX nmX ∈ lw_tbl := in_t5 (List.mem_of_getElem? (i := 139) rfl)
set_option maxRecDepth 100000 in
theorem cw_L : Cond.codeWith ⟨"TwoPencilsLaw", "parish", "(LTwoPencils;III[J)I"⟩ method_3_code 6 (some .int) [(0, 12, 15, 13)] ∈ lw_tbl := in_t5 (List.mem_of_getElem? (i := 131) rfl)
set_option maxRecDepth 100000 in
theorem is_L : Cond.initialized "TwoPencilsLaw" ∈ lw_tbl := in_t1 (List.mem_of_getElem? (i := 0) rfl)
set_option maxRecDepth 100000 in
theorem st_L : Cond.static ⟨"TwoPencilsLaw", "parish", "(LTwoPencils;III[J)I"⟩ ∈ lw_tbl := in_t5 (List.mem_of_getElem? (i := 130) rfl)
set_option maxRecDepth 100000 in
theorem ml_L_7 : Cond.methodLink "TwoPencilsLaw" 7 ⟨"TwoPencils", "parish", "(III)I"⟩ ∈ lw_tbl := in_t5 (List.mem_of_getElem? (i := 133) rfl)
set_option maxRecDepth 100000 in
theorem ml_L_48 : Cond.methodLink "TwoPencilsLaw" 48 ⟨"TwoPencilsLaw", "parish", "(LTwoPencils;III[J)I"⟩ ∈ lw_tbl := in_t5 (List.mem_of_getElem? (i := 129) rfl)
