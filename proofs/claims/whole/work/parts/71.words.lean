/-! the law's words are among the tables' -/
theorem mem_pick {α : Type} {T ws : List α} (ix : List Nat) (h : ix.map (fun i => T[i]?) = ws.map some) : ∀ w ∈ ws, w ∈ T := by
  intro w hw
  have h1 : some w ∈ ws.map some := List.mem_map.mpr ⟨w, hw, rfl⟩
  rw [← h] at h1
  obtain ⟨i, -, e⟩ := List.mem_map.mp h1
  exact List.mem_of_getElem? e
set_option maxRecDepth 20000 in
theorem lin_wsL_law_r1 : ∀ w ∈ wsL_law_r1, w ∈ lw_tbl := mem_pick [84, 85, 62, 998, 999, 81, 86, 87, 88, 89, 90, 91, 92, 93, 63, 617, 111, 113, 64, 618, 152, 153, 65, 619] (by decide +kernel)
set_option maxRecDepth 20000 in
theorem lin_wsL_law_r2 : ∀ w ∈ wsL_law_r2, w ∈ lw_tbl := mem_pick [175, 176, 66, 620, 194, 195, 67, 621, 224, 225, 68, 622, 251, 252, 69, 623, 283, 284, 70, 624, 314, 315, 71, 625] (by decide +kernel)
set_option maxRecDepth 20000 in
theorem lin_wsL_law_r3 : ∀ w ∈ wsL_law_r3, w ∈ lw_tbl := mem_pick [338, 339, 72, 626, 362, 363, 73, 627, 95, 96, 97, 110, 98, 100, 102, 114, 115, 116, 117, 118, 122, 124, 127, 129] (by decide +kernel)
set_option maxRecDepth 20000 in
theorem lin_wsL_law_r4 : ∀ w ∈ wsL_law_r4, w ∈ lw_tbl := mem_pick [131, 132, 155, 156, 157, 174, 158, 160, 162, 164, 177, 178, 179, 180, 181, 182, 183, 184, 196, 197, 198, 199, 200, 202] (by decide +kernel)
set_option maxRecDepth 20000 in
theorem lin_wsL_law_r5 : ∀ w ∈ wsL_law_r5, w ∈ lw_tbl := mem_pick [204, 207, 212, 226, 227, 228, 229, 230, 234, 236, 241, 253, 254, 255, 256, 257, 260, 262, 264, 265, 266, 267, 285, 286] (by decide +kernel)
set_option maxRecDepth 20000 in
theorem lin_wsL_law_r6 : ∀ w ∈ wsL_law_r6, w ∈ lw_tbl := mem_pick [287, 288, 289, 290, 291, 292, 293, 294, 295, 296, 316, 317, 318, 319, 320, 322, 324, 325, 326, 340, 341, 342, 343, 344] (by decide +kernel)
set_option maxRecDepth 20000 in
theorem lin_wsL_law_r7 : ∀ w ∈ wsL_law_r7, w ∈ lw_tbl := mem_pick [346, 348, 349, 350, 364, 365, 366, 367, 368, 370, 372, 380, 382, 0, 383, 384, 385, 386, 387, 388, 389, 390, 391, 159] (by decide +kernel)
set_option maxRecDepth 20000 in
theorem lin_wsL_law_r8 : ∀ w ∈ wsL_law_r8, w ∈ lw_tbl := mem_pick [161, 163, 392, 393, 394, 395, 133, 120, 123, 396, 398, 1, 399, 408, 409, 410, 411, 412, 413, 400, 402, 2, 403, 404] (by decide +kernel)
set_option maxRecDepth 20000 in
theorem lin_wsL_law_r9 : ∀ w ∈ wsL_law_r9, w ∈ lw_tbl := mem_pick [406, 3, 407, 414, 415, 416, 417, 418, 420, 4, 421, 422, 424, 5, 425, 426, 428, 6, 429, 430, 431, 433, 7, 434] (by decide +kernel)
set_option maxRecDepth 20000 in
theorem lin_wsL_law_r10 : ∀ w ∈ wsL_law_r10, w ∈ lw_tbl := mem_pick [435, 437, 8, 438, 439, 441, 9, 442, 443, 445, 10, 446, 447, 449, 11, 450, 451, 452, 453, 454, 134, 119, 455, 457] (by decide +kernel)
set_option maxRecDepth 20000 in
theorem lin_wsL_law_r11 : ∀ w ∈ wsL_law_r11, w ∈ lw_tbl := mem_pick [12, 458, 459, 460, 461, 462, 464, 13, 465, 466, 467, 468, 470, 471, 472, 74, 473, 474, 475, 476, 477, 1308, 478, 479] (by decide +kernel)
set_option maxRecDepth 20000 in
theorem lin_wsL_law_r12 : ∀ w ∈ wsL_law_r12, w ∈ lw_tbl := mem_pick [480, 481, 482, 1307, 484, 485, 486, 487, 488, 489, 490, 491, 492, 493, 75, 494, 498, 499, 76, 500, 501, 502, 503, 495] (by decide +kernel)
set_option maxRecDepth 20000 in
theorem lin_wsL_law_r13 : ∀ w ∈ wsL_law_r13, w ∈ lw_tbl := mem_pick [496, 497, 504, 505, 506, 507, 508, 77, 509, 510, 511, 512, 513, 514, 515, 516, 517, 518, 519, 520, 521, 522, 523, 524] (by decide +kernel)
set_option maxRecDepth 20000 in
theorem lin_wsL_law_r14 : ∀ w ∈ wsL_law_r14, w ∈ lw_tbl := mem_pick [525, 527, 528, 78, 529, 530, 531, 532, 533, 534, 535, 536, 538, 540, 542, 543, 544, 545, 546, 79, 547, 548, 549, 550] (by decide +kernel)
set_option maxRecDepth 20000 in
theorem lin_wsL_law_r15 : ∀ w ∈ wsL_law_r15, w ∈ lw_tbl := mem_pick [551, 552, 553, 554, 555, 558, 559, 560, 561, 562, 563, 564, 565, 566, 567, 568, 569, 570, 571, 572, 573, 574, 575, 576] (by decide +kernel)
set_option maxRecDepth 20000 in
theorem lin_wsL_law_r16 : ∀ w ∈ wsL_law_r16, w ∈ lw_tbl := mem_pick [577, 578, 579, 580, 581, 582, 583, 584, 585, 586, 587, 588, 589, 80, 590, 591, 592, 593, 594, 596, 14, 597, 598, 599] (by decide +kernel)
set_option maxRecDepth 20000 in
theorem lin_wsL_law_r17 : ∀ w ∈ wsL_law_r17, w ∈ lw_tbl := mem_pick [600, 601, 208, 602, 604, 15, 605, 238, 232, 606, 607, 608, 609, 610, 611, 612, 613, 614, 615, 616, 1000, 1001, 1002, 1003] (by decide +kernel)
set_option maxRecDepth 20000 in
theorem lin_wsL_law_r18 : ∀ w ∈ wsL_law_r18, w ∈ lw_tbl := mem_pick [1009, 1011, 1012, 1013, 1014, 1015, 1016, 1017, 1020, 1021, 1022, 1004, 1023, 1024, 1025, 1026, 1027, 1029, 1030, 1031, 1032, 1033, 1005, 1007] (by decide +kernel)
set_option maxRecDepth 20000 in
theorem lin_wsL_law_r19 : ∀ w ∈ wsL_law_r19, w ∈ lw_tbl := mem_pick [39, 1008, 652, 653, 654, 655, 101, 99, 1085, 1086, 1087, 1088, 1089, 1090, 1010, 1091, 1092, 1093, 656, 657, 658, 659, 1094, 1095] (by decide +kernel)
set_option maxRecDepth 20000 in
theorem lin_wsL_law_r20 : ∀ w ∈ wsL_law_r20, w ∈ lw_tbl := mem_pick [1096, 1097, 660, 661, 662, 663, 664, 665, 666, 667, 668, 670, 16, 671, 672, 673, 674, 675, 676, 677, 679, 681, 1098, 1099] (by decide +kernel)
set_option maxRecDepth 20000 in
theorem lin_wsL_law_r21 : ∀ w ∈ wsL_law_r21, w ∈ lw_tbl := mem_pick [1100, 1101, 1102, 1103, 1104, 1105, 1106, 1107, 1108, 1109, 1110, 1111, 1112, 1113, 1114, 683, 684, 685, 686, 136, 687, 689, 17, 690] (by decide +kernel)
set_option maxRecDepth 20000 in
theorem lin_wsL_law_r22 : ∀ w ∈ wsL_law_r22, w ∈ lw_tbl := mem_pick [691, 692, 693, 694, 695, 697, 696, 82, 698, 700, 18, 701, 702, 1115, 1116, 1117, 1118, 1018, 1119, 703, 704, 705, 706, 121] (by decide +kernel)
set_option maxRecDepth 20000 in
theorem lin_wsL_law_r23 : ∀ w ∈ wsL_law_r23, w ∈ lw_tbl := mem_pick [125, 130, 1120, 1121, 1122, 1123, 1124, 1126, 40, 1127, 707, 708, 709, 710, 711, 712, 713, 714, 715, 716, 717, 1128, 1129, 1130] (by decide +kernel)
set_option maxRecDepth 20000 in
theorem lin_wsL_law_r24 : ∀ w ∈ wsL_law_r24, w ∈ lw_tbl := mem_pick [1131, 1132, 1133, 1134, 1135, 1136, 1138, 41, 1139, 1140, 1141, 1142, 1143, 1144, 1145, 718, 719, 720, 721, 722, 723, 724, 725, 126] (by decide +kernel)
set_option maxRecDepth 20000 in
theorem lin_wsL_law_r25 : ∀ w ∈ wsL_law_r25, w ∈ lw_tbl := mem_pick [726, 727, 729, 19, 730, 128, 1146, 1147, 1148, 1149, 1150, 1152, 42, 1153, 731, 732, 733, 734, 211, 201, 203, 206, 259, 735] (by decide +kernel)
set_option maxRecDepth 20000 in
theorem lin_wsL_law_r26 : ∀ w ∈ wsL_law_r26, w ∈ lw_tbl := mem_pick [737, 20, 738, 739, 740, 741, 742, 743, 745, 21, 746, 1154, 1155, 1156, 1157, 1019, 1158, 1160, 43, 1161, 1028, 1162, 1164, 44] (by decide +kernel)
set_option maxRecDepth 20000 in
theorem lin_wsL_law_r27 : ∀ w ∈ wsL_law_r27, w ∈ lw_tbl := mem_pick [1165, 1166, 1168, 45, 1169, 1170, 1172, 46, 1173, 1174, 1176, 47, 1177, 1178, 1180, 48, 1181, 1182, 1184, 49, 1185, 747, 748, 749] (by decide +kernel)
set_option maxRecDepth 20000 in
theorem lin_wsL_law_r28 : ∀ w ∈ wsL_law_r28, w ∈ lw_tbl := mem_pick [750, 1186, 1187, 1188, 1189, 751, 752, 753, 754, 240, 755, 756, 757, 758, 1190, 1191, 1192, 1193, 1194, 759, 760, 761, 762, 233] (by decide +kernel)
set_option maxRecDepth 20000 in
theorem lin_wsL_law_r29 : ∀ w ∈ wsL_law_r29, w ∈ lw_tbl := mem_pick [763, 765, 22, 766, 767, 768, 769, 770, 1195, 1196, 1197, 1198, 1199, 1201, 50, 1202, 771, 772, 773, 774, 235, 775, 776, 777] (by decide +kernel)
set_option maxRecDepth 20000 in
theorem lin_wsL_law_r30 : ∀ w ∈ wsL_law_r30, w ∈ lw_tbl := mem_pick [778, 779, 780, 781, 782, 783, 1203, 1204, 1205, 1206, 1207, 1209, 51, 1210, 784, 785, 786, 787, 788, 789, 790, 791, 792, 793] (by decide +kernel)
set_option maxRecDepth 20000 in
theorem lin_wsL_law_r31 : ∀ w ∈ wsL_law_r31, w ∈ lw_tbl := mem_pick [794, 795, 796, 797, 798, 799, 800, 802, 23, 803, 205, 804, 805, 806, 807, 808, 1211, 1212, 1213, 1214, 1215, 1216, 1218, 52] (by decide +kernel)
set_option maxRecDepth 20000 in
theorem lin_wsL_law_r32 : ∀ w ∈ wsL_law_r32, w ∈ lw_tbl := mem_pick [1219, 1220, 1222, 53, 1223, 809, 810, 811, 812, 813, 814, 815, 816, 817, 818, 819, 820, 821, 1224, 1225, 1226, 1227, 1228, 1229] (by decide +kernel)
set_option maxRecDepth 20000 in
theorem lin_wsL_law_r33 : ∀ w ∈ wsL_law_r33, w ∈ lw_tbl := mem_pick [1230, 1231, 1232, 1233, 822, 823, 824, 825, 826, 827, 828, 829, 830, 832, 24, 833, 239, 834, 836, 25, 837, 210, 258, 838] (by decide +kernel)
set_option maxRecDepth 20000 in
theorem lin_wsL_law_r34 : ∀ w ∈ wsL_law_r34, w ∈ lw_tbl := mem_pick [840, 26, 841, 842, 844, 27, 845, 846, 847, 849, 28, 850, 851, 852, 83, 853, 854, 855, 856, 857, 859, 29, 860, 861] (by decide +kernel)
set_option maxRecDepth 20000 in
theorem lin_wsL_law_r35 : ∀ w ∈ wsL_law_r35, w ∈ lw_tbl := mem_pick [1234, 1235, 1236, 1237, 1238, 1240, 54, 1241, 1242, 1243, 1244, 862, 863, 864, 865, 866, 867, 868, 869, 870, 871, 872, 873, 1245] (by decide +kernel)
set_option maxRecDepth 20000 in
theorem lin_wsL_law_r36 : ∀ w ∈ wsL_law_r36, w ∈ lw_tbl := mem_pick [1246, 1247, 1248, 874, 875, 876, 877, 261, 263, 878, 879, 880, 881, 882, 884, 30, 885, 886, 887, 889, 31, 890, 891, 1249] (by decide +kernel)
set_option maxRecDepth 20000 in
theorem lin_wsL_law_r37 : ∀ w ∈ wsL_law_r37, w ∈ lw_tbl := mem_pick [1250, 1251, 1252, 892, 893, 894, 895, 321, 323, 896, 898, 32, 899, 900, 901, 902, 903, 237, 231, 135, 904, 905, 906, 907] (by decide +kernel)
set_option maxRecDepth 20000 in
theorem lin_wsL_law_r38 : ∀ w ∈ wsL_law_r38, w ∈ lw_tbl := mem_pick [908, 909, 910, 912, 33, 913, 914, 916, 34, 917, 918, 919, 921, 35, 922, 1253, 1254, 1255, 1256, 1257, 1259, 55, 1260, 1261] (by decide +kernel)
set_option maxRecDepth 20000 in
theorem lin_wsL_law_r39 : ∀ w ∈ wsL_law_r39, w ∈ lw_tbl := mem_pick [1263, 56, 1264, 923, 924, 925, 926, 927, 928, 929, 930, 931, 933, 36, 934, 1265, 1266, 1267, 1268, 935, 936, 937, 938, 347] (by decide +kernel)
set_option maxRecDepth 20000 in
theorem lin_wsL_law_r40 : ∀ w ∈ wsL_law_r40, w ∈ lw_tbl := mem_pick [345, 939, 940, 941, 942, 943, 209, 944, 945, 946, 947, 948, 949, 950, 951, 952, 954, 37, 955, 956, 1269, 1270, 1271, 1272] (by decide +kernel)
set_option maxRecDepth 20000 in
theorem lin_wsL_law_r41 : ∀ w ∈ wsL_law_r41, w ∈ lw_tbl := mem_pick [1273, 1275, 57, 1276, 1277, 1279, 58, 1280, 1281, 1283, 59, 1284, 957, 958, 959, 960, 961, 962, 963, 964, 965, 966, 967, 968] (by decide +kernel)
set_option maxRecDepth 20000 in
theorem lin_wsL_law_r42 : ∀ w ∈ wsL_law_r42, w ∈ lw_tbl := mem_pick [969, 970, 971, 972, 973, 974, 975, 976, 1285, 1286, 1287, 1288, 1289, 1291, 60, 1292, 1293, 1294, 1295, 977, 978, 979, 980, 369] (by decide +kernel)
set_option maxRecDepth 20000 in
theorem lin_wsL_law_r43 : ∀ w ∈ wsL_law_r43, w ∈ lw_tbl := mem_pick [371, 981, 982, 983, 984, 985, 986, 988, 38, 989, 990, 991, 992, 993, 1296, 1297, 1298, 1299, 1300, 1301, 1302, 994, 995, 996] (by decide +kernel)
set_option maxRecDepth 20000 in
theorem lin_wsL_law_r44 : ∀ w ∈ wsL_law_r44, w ∈ lw_tbl := mem_pick [997, 1303, 1304, 1305, 1306] (by decide +kernel)
set_option maxRecDepth 20000 in
theorem lin_wsX110 : ∀ w ∈ wsX110, w ∈ lw_tbl := mem_pick [628, 630, 632, 634, 636, 638, 640, 642, 644, 646, 648] (by decide +kernel)
set_option maxRecDepth 20000 in
theorem lin_wsX120 : ∀ w ∈ wsX120, w ∈ lw_tbl := mem_pick [1034, 1036, 1038, 1040, 1042, 1044, 1046, 1048, 1050, 1052, 1054, 1056, 1058, 1060, 1062, 1064, 1066, 1068, 1070, 1072, 1074, 1076, 1078, 1080, 1082] (by decide +kernel)
set_option maxRecDepth 20000 in
theorem lin_wsX50 : ∀ w ∈ wsX50, w ∈ lw_tbl := mem_pick [103, 105, 107] (by decide +kernel)
set_option maxRecDepth 20000 in
theorem lin_wsX90 : ∀ w ∈ wsX90, w ∈ lw_tbl := mem_pick [137, 139, 141, 143, 145, 147, 149] (by decide +kernel)
set_option maxRecDepth 20000 in
theorem lin_wsX100 : ∀ w ∈ wsX100, w ∈ lw_tbl := mem_pick [165, 167, 169, 171] (by decide +kernel)
set_option maxRecDepth 20000 in
theorem lin_wsX70 : ∀ w ∈ wsX70, w ∈ lw_tbl := mem_pick [185, 187, 189, 191] (by decide +kernel)
set_option maxRecDepth 20000 in
theorem lin_wsX10 : ∀ w ∈ wsX10, w ∈ lw_tbl := mem_pick [213, 215, 217, 219, 221] (by decide +kernel)
set_option maxRecDepth 20000 in
theorem lin_wsX80 : ∀ w ∈ wsX80, w ∈ lw_tbl := mem_pick [242, 244, 246, 248] (by decide +kernel)
set_option maxRecDepth 20000 in
theorem lin_wsX40 : ∀ w ∈ wsX40, w ∈ lw_tbl := mem_pick [268, 270, 272, 274, 276, 278, 280] (by decide +kernel)
set_option maxRecDepth 20000 in
theorem lin_wsX20 : ∀ w ∈ wsX20, w ∈ lw_tbl := mem_pick [297, 299, 301, 303, 305, 307, 309, 311] (by decide +kernel)
set_option maxRecDepth 20000 in
theorem lin_wsX00 : ∀ w ∈ wsX00, w ∈ lw_tbl := mem_pick [327, 329, 331, 333, 335] (by decide +kernel)
set_option maxRecDepth 20000 in
theorem lin_wsX30 : ∀ w ∈ wsX30, w ∈ lw_tbl := mem_pick [351, 353, 355, 357, 359] (by decide +kernel)
set_option maxRecDepth 20000 in
theorem lin_wsX60 : ∀ w ∈ wsX60, w ∈ lw_tbl := mem_pick [373, 375, 377] (by decide +kernel)
theorem wsL_law_in : ∀ w ∈ wsL_law, w ∈ lw_tbl := (List.forall_mem_append.mpr ⟨(List.forall_mem_append.mpr ⟨(List.forall_mem_append.mpr ⟨(List.forall_mem_append.mpr ⟨(List.forall_mem_append.mpr ⟨(List.forall_mem_append.mpr ⟨(List.forall_mem_append.mpr ⟨(List.forall_mem_append.mpr ⟨(List.forall_mem_append.mpr ⟨(List.forall_mem_append.mpr ⟨(List.forall_mem_append.mpr ⟨(List.forall_mem_append.mpr ⟨(List.forall_mem_append.mpr ⟨(List.forall_mem_append.mpr ⟨(List.forall_mem_append.mpr ⟨lin_wsL_law_r1, (List.forall_mem_append.mpr ⟨lin_wsL_law_r2, (List.forall_mem_append.mpr ⟨lin_wsL_law_r3, (List.forall_mem_append.mpr ⟨lin_wsL_law_r4, (List.forall_mem_append.mpr ⟨lin_wsL_law_r5, (List.forall_mem_append.mpr ⟨lin_wsL_law_r6, (List.forall_mem_append.mpr ⟨lin_wsL_law_r7, (List.forall_mem_append.mpr ⟨lin_wsL_law_r8, (List.forall_mem_append.mpr ⟨lin_wsL_law_r9, (List.forall_mem_append.mpr ⟨lin_wsL_law_r10, (List.forall_mem_append.mpr ⟨lin_wsL_law_r11, (List.forall_mem_append.mpr ⟨lin_wsL_law_r12, (List.forall_mem_append.mpr ⟨lin_wsL_law_r13, (List.forall_mem_append.mpr ⟨lin_wsL_law_r14, (List.forall_mem_append.mpr ⟨lin_wsL_law_r15, (List.forall_mem_append.mpr ⟨lin_wsL_law_r16, (List.forall_mem_append.mpr ⟨lin_wsL_law_r17, (List.forall_mem_append.mpr ⟨lin_wsL_law_r18, (List.forall_mem_append.mpr ⟨lin_wsL_law_r19, (List.forall_mem_append.mpr ⟨lin_wsL_law_r20, (List.forall_mem_append.mpr ⟨lin_wsL_law_r21, (List.forall_mem_append.mpr ⟨lin_wsL_law_r22, (List.forall_mem_append.mpr ⟨lin_wsL_law_r23, (List.forall_mem_append.mpr ⟨lin_wsL_law_r24, (List.forall_mem_append.mpr ⟨lin_wsL_law_r25, (List.forall_mem_append.mpr ⟨lin_wsL_law_r26, (List.forall_mem_append.mpr ⟨lin_wsL_law_r27, (List.forall_mem_append.mpr ⟨lin_wsL_law_r28, (List.forall_mem_append.mpr ⟨lin_wsL_law_r29, (List.forall_mem_append.mpr ⟨lin_wsL_law_r30, (List.forall_mem_append.mpr ⟨lin_wsL_law_r31, (List.forall_mem_append.mpr ⟨lin_wsL_law_r32, (List.forall_mem_append.mpr ⟨lin_wsL_law_r33, (List.forall_mem_append.mpr ⟨lin_wsL_law_r34, (List.forall_mem_append.mpr ⟨lin_wsL_law_r35, (List.forall_mem_append.mpr ⟨lin_wsL_law_r36, (List.forall_mem_append.mpr ⟨lin_wsL_law_r37, (List.forall_mem_append.mpr ⟨lin_wsL_law_r38, (List.forall_mem_append.mpr ⟨lin_wsL_law_r39, (List.forall_mem_append.mpr ⟨lin_wsL_law_r40, (List.forall_mem_append.mpr ⟨lin_wsL_law_r41, (List.forall_mem_append.mpr ⟨lin_wsL_law_r42, (List.forall_mem_append.mpr ⟨lin_wsL_law_r43, lin_wsL_law_r44⟩)⟩)⟩)⟩)⟩)⟩)⟩)⟩)⟩)⟩)⟩)⟩)⟩)⟩)⟩)⟩)⟩)⟩)⟩)⟩)⟩)⟩)⟩)⟩)⟩)⟩)⟩)⟩)⟩)⟩)⟩)⟩)⟩)⟩)⟩)⟩)⟩)⟩)⟩)⟩)⟩)⟩)⟩), lin_wsX110⟩), lin_wsX120⟩), lin_wsX50⟩), lin_wsX90⟩), lin_wsX100⟩), lin_wsX70⟩), lin_wsX10⟩), lin_wsX80⟩), lin_wsX40⟩), lin_wsX20⟩), lin_wsX00⟩), lin_wsX30⟩), lin_wsX60⟩), fun _ h => absurd h List.not_mem_nil⟩)
