/-! THE WORDS that the contracts take as given are words of the tables -/
theorem in_ix {ws : List Cond} (ps : List Nat) (h : ws = ps.filterMap (fun i => lw_tbl[i]?)) : ∀ w ∈ ws, w ∈ lw_tbl := by
  intro w hw
  rw [h] at hw
  obtain ⟨i, -, hi⟩ := List.mem_filterMap.mp hw
  exact List.mem_of_getElem? hi
set_option maxRecDepth 100000 in
theorem in_wsL_law_r1 : ∀ w ∈ wsL_law_r1, w ∈ lw_tbl := in_ix [94, 95, 78, 910, 911, 86, 1337, 96, 97, 98, 99, 100, 101, 102, 103, 79, 326, 327, 155, 156, 80, 328, 329, 330] (by decide +kernel)
set_option maxRecDepth 100000 in
theorem in_wsL_law_r2 : ∀ w ∈ wsL_law_r2, w ∈ lw_tbl := in_ix [172, 173, 81, 332, 209, 179, 82, 333, 211, 212, 83, 334, 252, 253, 84, 335, 305, 336, 307, 85, 105, 106, 107, 154] (by decide +kernel)
set_option maxRecDepth 100000 in
theorem in_wsL_law_r3 : ∀ w ∈ wsL_law_r3, w ∈ lw_tbl := in_ix [108, 110, 113, 123, 127, 129, 133, 157, 158, 159, 160, 161, 164, 175, 176, 177, 178, 196, 194, 198, 180, 181, 182, 183] (by decide +kernel)
set_option maxRecDepth 100000 in
theorem in_wsL_law_r4 : ∀ w ∈ wsL_law_r4, w ∈ lw_tbl := in_ix [193, 184, 210, 214, 215, 216, 219, 220, 221, 222, 217, 223, 225, 228, 230, 255, 256, 257, 258, 260, 261, 262, 263, 264] (by decide +kernel)
set_option maxRecDepth 100000 in
theorem in_wsL_law_r5 : ∀ w ∈ wsL_law_r5, w ∈ lw_tbl := in_ix [265, 272, 309, 310, 311, 325, 312, 314, 912, 913, 914, 915, 916, 917, 919, 920, 921, 922, 924, 925, 926, 927, 928, 929] (by decide +kernel)
set_option maxRecDepth 100000 in
theorem in_wsL_law_r6 : ∀ w ∈ wsL_law_r6, w ∈ lw_tbl := in_ix [930, 931, 932, 933, 934, 938, 940, 360, 361, 362, 363, 364, 365, 366, 367, 368, 370, 369, 87, 119, 121, 371, 372, 373] (by decide +kernel)
set_option maxRecDepth 100000 in
theorem in_wsL_law_r7 : ∀ w ∈ wsL_law_r7, w ∈ lw_tbl := in_ix [374, 375, 376, 377, 378, 379, 381, 0, 382, 383, 384, 385, 386, 165, 387, 389, 1, 390, 391, 1126, 1127, 1128, 1129, 1130] (by decide +kernel)
set_option maxRecDepth 100000 in
theorem in_wsL_law_r8 : ∀ w ∈ wsL_law_r8, w ∈ lw_tbl := in_ix [1132, 52, 1133, 1134, 1136, 53, 1137, 1138, 1139, 1140, 1141, 1002, 1003, 1004, 1142, 1144, 54, 1145, 1146, 1148, 55, 1149, 918, 392] (by decide +kernel)
set_option maxRecDepth 100000 in
theorem in_wsL_law_r9 : ∀ w ∈ wsL_law_r9, w ∈ lw_tbl := in_ix [393, 394, 395, 396, 397, 398, 399, 400, 401, 402, 403, 1150, 1151, 1152, 1153, 1154, 1156, 56, 1157, 1044, 1046, 38, 1047, 404] (by decide +kernel)
set_option maxRecDepth 100000 in
theorem in_wsL_law_r10 : ∀ w ∈ wsL_law_r10, w ∈ lw_tbl := in_ix [405, 406, 407, 408, 409, 410, 411, 412, 413, 414, 415, 416, 418, 2, 419, 420, 421, 88, 422, 423, 424, 425, 1158, 1159] (by decide +kernel)
set_option maxRecDepth 100000 in
theorem in_wsL_law_r11 : ∀ w ∈ wsL_law_r11, w ∈ lw_tbl := in_ix [1160, 1161, 1162, 1164, 57, 1165, 1052, 1054, 40, 1055, 1166, 1167, 1168, 426, 427, 428, 429, 430, 431, 432, 433, 435, 436, 437] (by decide +kernel)
set_option maxRecDepth 100000 in
theorem in_wsL_law_r12 : ∀ w ∈ wsL_law_r12, w ∈ lw_tbl := in_ix [439, 3, 440, 1169, 1170, 1171, 1172, 1173, 1175, 58, 1176, 1025, 1026, 1027, 1177, 1179, 59, 1180, 441, 442, 443, 444, 445, 446] (by decide +kernel)
set_option maxRecDepth 100000 in
theorem in_wsL_law_r13 : ∀ w ∈ wsL_law_r13, w ∈ lw_tbl := in_ix [447, 448, 1181, 1182, 1183, 1184, 1185, 1187, 60, 1188, 449, 450, 451, 452, 453, 454, 455, 456, 457, 459, 4, 460, 461, 463] (by decide +kernel)
set_option maxRecDepth 100000 in
theorem in_wsL_law_r14 : ∀ w ∈ wsL_law_r14, w ∈ lw_tbl := in_ix [5, 464, 465, 467, 6, 468, 1189, 1190, 1191, 1192, 1193, 1195, 61, 1196, 1197, 1198, 1199, 469, 470, 471, 472, 473, 474, 475] (by decide +kernel)
set_option maxRecDepth 100000 in
theorem in_wsL_law_r15 : ∀ w ∈ wsL_law_r15, w ∈ lw_tbl := in_ix [476, 1200, 1201, 1202, 1203, 1204, 1206, 62, 1207, 477, 478, 479, 480, 120, 273, 481, 483, 7, 484, 485, 486, 487, 488, 117] (by decide +kernel)
set_option maxRecDepth 100000 in
theorem in_wsL_law_r16 : ∀ w ∈ wsL_law_r16, w ∈ lw_tbl := in_ix [266, 267, 268, 270, 274, 276, 489, 490, 491, 492, 116, 224, 124, 130, 493, 494, 495, 496, 497, 498, 499, 500, 501, 502] (by decide +kernel)
set_option maxRecDepth 100000 in
theorem in_wsL_law_r17 : ∀ w ∈ wsL_law_r17, w ∈ lw_tbl := in_ix [503, 504, 505, 506, 507, 508, 509, 510, 511, 512, 514, 8, 515, 516, 517, 518, 519, 520, 521, 89, 522, 523, 524, 525] (by decide +kernel)
set_option maxRecDepth 100000 in
theorem in_wsL_law_r18 : ∀ w ∈ wsL_law_r18, w ∈ lw_tbl := in_ix [526, 528, 9, 529, 531, 532, 533, 534, 535, 536, 537, 538, 539, 540, 541, 542, 544, 543, 545, 546, 547, 548, 549, 550] (by decide +kernel)
set_option maxRecDepth 100000 in
theorem in_wsL_law_r19 : ∀ w ∈ wsL_law_r19, w ∈ lw_tbl := in_ix [551, 552, 553, 554, 555, 556, 557, 558, 559, 226, 565, 231, 560, 562, 10, 563, 564, 566, 568, 11, 569, 570, 571, 572] (by decide +kernel)
set_option maxRecDepth 100000 in
theorem in_wsL_law_r20 : ∀ w ∈ wsL_law_r20, w ∈ lw_tbl := in_ix [573, 574, 575, 576, 577, 1208, 1209, 1210, 1211, 1212, 1214, 63, 1215, 935, 1005, 1007, 32, 1008, 1060, 1062, 41, 1063, 1081, 1083] (by decide +kernel)
set_option maxRecDepth 100000 in
theorem in_wsL_law_r21 : ∀ w ∈ wsL_law_r21, w ∈ lw_tbl := in_ix [45, 1084, 936, 937, 1085, 1087, 46, 1088, 1072, 1074, 44, 1075, 1009, 1011, 33, 1012, 1013, 1015, 34, 1016, 1017, 1019, 35, 1020] (by decide +kernel)
set_option maxRecDepth 100000 in
theorem in_wsL_law_r22 : ∀ w ∈ wsL_law_r22, w ∈ lw_tbl := in_ix [1021, 1023, 36, 1024, 1028, 1030, 37, 1031, 1064, 1066, 42, 1067, 1032, 1033, 1034, 1068, 1070, 43, 1071, 1089, 1091, 47, 1092, 1093] (by decide +kernel)
set_option maxRecDepth 100000 in
theorem in_wsL_law_r23 : ∀ w ∈ wsL_law_r23, w ∈ lw_tbl := in_ix [1095, 48, 1096, 1048, 1050, 39, 1051, 578, 579, 580, 581, 115, 227, 229, 232, 582, 583, 584, 585, 586, 114, 587, 588, 589] (by decide +kernel)
set_option maxRecDepth 100000 in
theorem in_wsL_law_r24 : ∀ w ∈ wsL_law_r24, w ∈ lw_tbl := in_ix [590, 591, 998, 999, 1000, 1001, 592, 593, 594, 595, 109, 596, 598, 12, 599, 600, 601, 602, 603, 604, 605, 607, 13, 608] (by decide +kernel)
set_option maxRecDepth 100000 in
theorem in_wsL_law_r25 : ∀ w ∈ wsL_law_r25, w ∈ lw_tbl := in_ix [1035, 1036, 1037, 1038, 1039, 609, 610, 611, 612, 111, 613, 614, 1040, 1041, 1042, 1043, 615, 616, 617, 618, 122, 126, 128, 132] (by decide +kernel)
set_option maxRecDepth 100000 in
theorem in_wsL_law_r26 : ∀ w ∈ wsL_law_r26, w ∈ lw_tbl := in_ix [166, 619, 620, 622, 14, 623, 624, 625, 626, 627, 628, 629, 630, 1056, 1057, 1058, 1059, 631, 632, 633, 634, 275, 277, 1076] (by decide +kernel)
set_option maxRecDepth 100000 in
theorem in_wsL_law_r27 : ∀ w ∈ wsL_law_r27, w ∈ lw_tbl := in_ix [1077, 1078, 1079, 1080, 635, 636, 637, 638, 271, 639, 640, 1097, 1098, 1099, 1100, 641, 642, 643, 644, 269, 1101, 1102, 1103, 1104] (by decide +kernel)
set_option maxRecDepth 100000 in
theorem in_wsL_law_r28 : ∀ w ∈ wsL_law_r28, w ∈ lw_tbl := in_ix [645, 646, 647, 648, 649, 651, 15, 652, 653, 654, 656, 16, 657, 658, 659, 660, 661, 662, 663, 664, 665, 666, 667, 668] (by decide +kernel)
set_option maxRecDepth 100000 in
theorem in_wsL_law_r29 : ∀ w ∈ wsL_law_r29, w ∈ lw_tbl := in_ix [1105, 1106, 1107, 1108, 1109, 669, 670, 671, 672, 187, 673, 675, 17, 676, 678, 679, 680, 90, 681, 1338, 682, 683, 684, 685] (by decide +kernel)
set_option maxRecDepth 100000 in
theorem in_wsL_law_r30 : ∀ w ∈ wsL_law_r30, w ∈ lw_tbl := in_ix [686, 1339, 688, 689, 690, 691, 692, 693, 694, 695, 696, 697, 91, 698, 699, 700, 701, 702, 704, 705, 92, 706, 707, 708] (by decide +kernel)
set_option maxRecDepth 100000 in
theorem in_wsL_law_r31 : ∀ w ∈ wsL_law_r31, w ∈ lw_tbl := in_ix [93, 709, 710, 711, 712, 713, 714, 715, 716, 717, 718, 719, 720, 722, 724, 726, 727, 728, 729, 185, 730, 731, 732, 733] (by decide +kernel)
set_option maxRecDepth 100000 in
theorem in_wsL_law_r32 : ∀ w ∈ wsL_law_r32, w ∈ lw_tbl := in_ix [734, 735, 736, 737, 738, 1110, 1111, 1112, 1113, 939, 1114, 1116, 49, 1117, 1118, 1120, 50, 1121, 1122, 1124, 51, 1125, 740, 741] (by decide +kernel)
set_option maxRecDepth 100000 in
theorem in_wsL_law_r33 : ∀ w ∈ wsL_law_r33, w ∈ lw_tbl := in_ix [742, 743, 197, 1216, 1217, 1218, 1219, 1220, 1221, 923, 744, 745, 746, 747, 201, 199, 748, 749, 750, 751, 118, 200, 752, 753] (by decide +kernel)
set_option maxRecDepth 100000 in
theorem in_wsL_law_r34 : ∀ w ∈ wsL_law_r34, w ∈ lw_tbl := in_ix [755, 18, 756, 186, 131, 757, 759, 19, 760, 761, 762, 763, 764, 768, 770, 20, 771, 772, 773, 774, 776, 21, 777, 125] (by decide +kernel)
set_option maxRecDepth 100000 in
theorem in_wsL_law_r35 : ∀ w ∈ wsL_law_r35, w ∈ lw_tbl := in_ix [778, 780, 22, 781, 782, 784, 23, 785, 786, 788, 24, 789, 790, 792, 25, 793, 794, 795, 797, 26, 798, 799, 801, 27] (by decide +kernel)
set_option maxRecDepth 100000 in
theorem in_wsL_law_r36 : ∀ w ∈ wsL_law_r36, w ∈ lw_tbl := in_ix [802, 803, 805, 28, 806, 112, 807, 809, 1222, 1223, 1224, 1225, 941, 1226, 1228, 64, 1229, 1230, 1232, 65, 1233, 1234, 1236, 66] (by decide +kernel)
set_option maxRecDepth 100000 in
theorem in_wsL_law_r37 : ∀ w ∈ wsL_law_r37, w ∈ lw_tbl := in_ix [1237, 1238, 1240, 67, 1241, 1242, 1244, 68, 1245, 1246, 1248, 69, 1249, 1250, 1252, 70, 1253, 1254, 1256, 71, 1257, 1258, 1260, 72] (by decide +kernel)
set_option maxRecDepth 100000 in
theorem in_wsL_law_r38 : ∀ w ∈ wsL_law_r38, w ∈ lw_tbl := in_ix [1261, 1262, 1263, 1264, 1266, 73, 1267, 810, 811, 812, 813, 814, 816, 29, 817, 134, 824, 825, 818, 819, 820, 821, 822, 823] (by decide +kernel)
set_option maxRecDepth 100000 in
theorem in_wsL_law_r39 : ∀ w ∈ wsL_law_r39, w ∈ lw_tbl := in_ix [1268, 1269, 1270, 1271, 1272, 1273, 1281, 942, 1274, 1276, 74, 1277, 1278, 1279, 1280, 1282, 1284, 75, 1285, 826, 827, 828, 829, 830] (by decide +kernel)
set_option maxRecDepth 100000 in
theorem in_wsL_law_r40 : ∀ w ∈ wsL_law_r40, w ∈ lw_tbl := in_ix [831, 832, 833, 1286, 1287, 1288, 1289, 834, 835, 836, 837, 1290, 1291, 1292, 1293, 838, 839, 840, 841, 331, 842, 843, 844, 845] (by decide +kernel)
set_option maxRecDepth 100000 in
theorem in_wsL_law_r41 : ∀ w ∈ wsL_law_r41, w ∈ lw_tbl := in_ix [1294, 1295, 1296, 1297, 846, 847, 848, 849, 1298, 1299, 1300, 1301, 850, 851, 852, 853, 313, 872, 854, 856, 30, 857, 315, 858] (by decide +kernel)
set_option maxRecDepth 100000 in
theorem in_wsL_law_r42 : ∀ w ∈ wsL_law_r42, w ∈ lw_tbl := in_ix [859, 860, 861, 862, 863, 864, 865, 866, 867, 316, 868, 869, 870, 871, 873, 874, 875, 876, 1302, 1303, 1304, 1305, 1309, 1306] (by decide +kernel)
set_option maxRecDepth 100000 in
theorem in_wsL_law_r43 : ∀ w ∈ wsL_law_r43, w ∈ lw_tbl := in_ix [1307, 1308, 1310, 1312, 76, 1313, 877, 878, 879, 880, 881, 882, 883, 884, 885, 887, 31, 888, 1314, 1315, 1316, 1317, 889, 890] (by decide +kernel)
set_option maxRecDepth 100000 in
theorem in_wsL_law_r44 : ∀ w ∈ wsL_law_r44, w ∈ lw_tbl := in_ix [891, 892, 893, 894, 895, 896, 1318, 1319, 1320, 1321, 897, 898, 899, 900, 317, 1322, 1323, 1324, 1325, 901, 902, 903, 904, 1326] (by decide +kernel)
set_option maxRecDepth 100000 in
theorem in_wsL_law_r45 : ∀ w ∈ wsL_law_r45, w ∈ lw_tbl := in_ix [1327, 1328, 1329, 1330, 1331, 1332, 905, 906, 907, 908, 909, 1333, 1334, 1335, 1336] (by decide +kernel)
set_option maxRecDepth 100000 in
theorem in_wsX70 : ∀ w ∈ wsX70, w ∈ lw_tbl := by decide +kernel
set_option maxRecDepth 100000 in
theorem in_wsX80 : ∀ w ∈ wsX80, w ∈ lw_tbl := by decide +kernel
set_option maxRecDepth 100000 in
theorem in_wsX60 : ∀ w ∈ wsX60, w ∈ lw_tbl := by decide +kernel
set_option maxRecDepth 100000 in
theorem in_wsX20 : ∀ w ∈ wsX20, w ∈ lw_tbl := by decide +kernel
set_option maxRecDepth 100000 in
theorem in_wsX10 : ∀ w ∈ wsX10, w ∈ lw_tbl := by decide +kernel
set_option maxRecDepth 100000 in
theorem in_wsX00 : ∀ w ∈ wsX00, w ∈ lw_tbl := by decide +kernel
set_option maxRecDepth 100000 in
theorem in_wsX30 : ∀ w ∈ wsX30, w ∈ lw_tbl := by decide +kernel
set_option maxRecDepth 100000 in
theorem in_wsX40 : ∀ w ∈ wsX40, w ∈ lw_tbl := by decide +kernel
set_option maxRecDepth 100000 in
theorem in_wsX50 : ∀ w ∈ wsX50, w ∈ lw_tbl := by decide +kernel
theorem in_law : ∀ w ∈ wsL_law, w ∈ lw_tbl := List.forall_mem_append.mpr ⟨List.forall_mem_append.mpr ⟨List.forall_mem_append.mpr ⟨List.forall_mem_append.mpr ⟨List.forall_mem_append.mpr ⟨List.forall_mem_append.mpr ⟨List.forall_mem_append.mpr ⟨List.forall_mem_append.mpr ⟨List.forall_mem_append.mpr ⟨List.forall_mem_append.mpr ⟨List.forall_mem_append.mpr ⟨in_wsL_law_r1, List.forall_mem_append.mpr ⟨in_wsL_law_r2, List.forall_mem_append.mpr ⟨in_wsL_law_r3, List.forall_mem_append.mpr ⟨in_wsL_law_r4, List.forall_mem_append.mpr ⟨in_wsL_law_r5, List.forall_mem_append.mpr ⟨in_wsL_law_r6, List.forall_mem_append.mpr ⟨in_wsL_law_r7, List.forall_mem_append.mpr ⟨in_wsL_law_r8, List.forall_mem_append.mpr ⟨in_wsL_law_r9, List.forall_mem_append.mpr ⟨in_wsL_law_r10, List.forall_mem_append.mpr ⟨in_wsL_law_r11, List.forall_mem_append.mpr ⟨in_wsL_law_r12, List.forall_mem_append.mpr ⟨in_wsL_law_r13, List.forall_mem_append.mpr ⟨in_wsL_law_r14, List.forall_mem_append.mpr ⟨in_wsL_law_r15, List.forall_mem_append.mpr ⟨in_wsL_law_r16, List.forall_mem_append.mpr ⟨in_wsL_law_r17, List.forall_mem_append.mpr ⟨in_wsL_law_r18, List.forall_mem_append.mpr ⟨in_wsL_law_r19, List.forall_mem_append.mpr ⟨in_wsL_law_r20, List.forall_mem_append.mpr ⟨in_wsL_law_r21, List.forall_mem_append.mpr ⟨in_wsL_law_r22, List.forall_mem_append.mpr ⟨in_wsL_law_r23, List.forall_mem_append.mpr ⟨in_wsL_law_r24, List.forall_mem_append.mpr ⟨in_wsL_law_r25, List.forall_mem_append.mpr ⟨in_wsL_law_r26, List.forall_mem_append.mpr ⟨in_wsL_law_r27, List.forall_mem_append.mpr ⟨in_wsL_law_r28, List.forall_mem_append.mpr ⟨in_wsL_law_r29, List.forall_mem_append.mpr ⟨in_wsL_law_r30, List.forall_mem_append.mpr ⟨in_wsL_law_r31, List.forall_mem_append.mpr ⟨in_wsL_law_r32, List.forall_mem_append.mpr ⟨in_wsL_law_r33, List.forall_mem_append.mpr ⟨in_wsL_law_r34, List.forall_mem_append.mpr ⟨in_wsL_law_r35, List.forall_mem_append.mpr ⟨in_wsL_law_r36, List.forall_mem_append.mpr ⟨in_wsL_law_r37, List.forall_mem_append.mpr ⟨in_wsL_law_r38, List.forall_mem_append.mpr ⟨in_wsL_law_r39, List.forall_mem_append.mpr ⟨in_wsL_law_r40, List.forall_mem_append.mpr ⟨in_wsL_law_r41, List.forall_mem_append.mpr ⟨in_wsL_law_r42, List.forall_mem_append.mpr ⟨in_wsL_law_r43, List.forall_mem_append.mpr ⟨in_wsL_law_r44, in_wsL_law_r45⟩⟩⟩⟩⟩⟩⟩⟩⟩⟩⟩⟩⟩⟩⟩⟩⟩⟩⟩⟩⟩⟩⟩⟩⟩⟩⟩⟩⟩⟩⟩⟩⟩⟩⟩⟩⟩⟩⟩⟩⟩⟩⟩⟩, in_wsX70⟩, in_wsX80⟩, in_wsX60⟩, in_wsX20⟩, in_wsX10⟩, in_wsX00⟩, in_wsX30⟩, in_wsX40⟩, in_wsX50⟩, fun _ h => nomatch h⟩
