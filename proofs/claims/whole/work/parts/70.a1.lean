set_option maxRecDepth 20000 in
theorem ggL_law_X11_result : GoodIn wsL_law wsX11_result := goodIn_r _ [541, 27, 500, 501, 502, 2, 503, 542, 543, 544, 545, 546, 547, 26, 548, 86, 87, 88, 397, 398, 399, 1037, 1038, 1039, 1040, 1041, 1042, 1043, 1044, 1045, 1046, 1047, 1087, 1088, 1089, 1090] (by decide +kernel) (by decide +kernel)
set_option maxRecDepth 20000 in
theorem gL_law_X11_result : GoodIn wsL_law (wsV RL 36 RX11 yX11_result wsX11_result) := goodIn_app (goodIn_of _ (by decide +kernel)) ggL_law_X11_result
set_option maxRecDepth 20000 in
theorem ggL_law_X12_result : GoodIn wsL_law wsX12_result := goodIn_r _ [552, 415, 447, 448, 5, 449, 553, 554, 555, 556, 557, 558, 559, 560, 412, 409, 411, 482, 483, 484, 485, 486, 487, 488, 489, 490, 491, 492, 493, 494, 561, 562, 563, 564, 565, 566, 1048, 1049, 1050, 1051, 1052, 1053, 1054, 1055, 1056, 1057, 1058, 1059, 1060, 1061, 1062, 1063, 1064, 1065, 1066, 1067, 1068, 1069, 1070, 1071, 1072] (by decide +kernel) (by decide +kernel)
set_option maxRecDepth 20000 in
theorem gL_law_X12_result : GoodIn wsL_law (wsV RL 40 RX12 yX12_result wsX12_result) := goodIn_app (goodIn_of _ (by decide +kernel)) ggL_law_X12_result
set_option maxRecDepth 20000 in
theorem ggL_law_X11_runs : GoodIn wsL_law wsX11_runs := goodIn_r _ [570, 23, 19, 500, 501, 502, 2, 503, 542, 543, 544, 571, 572, 573, 22, 574, 174, 575, 576, 171, 172, 173, 175, 176, 177, 178, 179, 180, 181, 182, 183, 184, 185, 186, 187, 188, 189, 190, 191, 192, 193, 194, 78, 79, 80, 195, 196, 197, 18, 198, 72, 199, 200, 201, 202, 203, 204, 205, 206, 207, 208, 209, 210, 211, 212, 213, 214, 215, 216, 217, 218, 219, 220, 221, 222, 223, 224, 225, 226, 227, 81, 228, 229, 230, 231, 577, 578, 579, 580, 581, 1037, 1038, 1039, 1040, 1041, 1042, 1043, 1044, 1045, 1046, 1047, 1076, 1077, 1078, 1079, 1080, 1081, 1082, 1083, 1084, 1085, 1086] (by decide +kernel) (by decide +kernel)
set_option maxRecDepth 20000 in
theorem gL_law_X11_runs : GoodIn wsL_law (wsV RL 41 RX11 yX11_runs wsX11_runs) := goodIn_app (goodIn_of _ (by decide +kernel)) ggL_law_X11_runs
set_option maxRecDepth 20000 in
theorem ggL_law_X12_runs : GoodIn wsL_law wsX12_runs := goodIn_r _ [585, 447, 448, 5, 449, 553, 554, 555, 556, 586, 587, 588, 589, 412, 409, 411, 415, 557, 558, 559, 560, 482, 483, 484, 485, 486, 487, 488, 489, 490, 491, 492, 493, 494, 561, 562, 563, 564, 565, 566, 1048, 1049, 1050, 1051, 1052, 1053, 1054, 1055, 1056, 1057, 1058, 1059, 1060, 1061, 1062, 1063, 1064, 1065, 1066, 1067, 1068, 1069, 1070, 1071, 1072] (by decide +kernel) (by decide +kernel)
set_option maxRecDepth 20000 in
theorem gL_law_X12_runs : GoodIn wsL_law (wsV RL 44 RX12 yX12_runs wsX12_runs) := goodIn_app (goodIn_of _ (by decide +kernel)) ggL_law_X12_runs
set_option maxRecDepth 20000 in
theorem ggL_law_X11_change : GoodIn wsL_law wsX11_change := goodIn_r _ [593, 31, 594, 595, 596, 597, 39, 598, 599, 600, 601, 2, 602, 603, 604, 605, 38, 606, 115, 386, 607, 608, 609, 610, 111, 1037, 1038, 1039, 1040, 1041, 1042, 1043, 1044, 1045, 1046, 1047, 1091, 1092, 1093, 1094, 1095, 1100, 1101, 1102, 1103, 1104, 1105, 1106] (by decide +kernel) (by decide +kernel)
set_option maxRecDepth 20000 in
theorem gL_law_X11_change : GoodIn wsL_law (wsV RL 45 RX11 yX11_change wsX11_change) := goodIn_app (goodIn_of _ (by decide +kernel)) ggL_law_X11_change
set_option maxRecDepth 20000 in
theorem ggL_law_X12_change : GoodIn wsL_law wsX12_change := goodIn_r _ [614, 615, 416, 417, 418, 425, 616, 617, 618, 5, 619, 620, 420, 423, 421, 621, 622, 623, 624, 521, 412, 415, 625, 626, 627, 628, 409, 422, 490, 491, 492, 493, 494, 447, 448, 449, 629, 630, 631, 632, 485, 486, 487, 488, 489, 482, 483, 484, 557, 558, 559, 560, 411, 561, 562, 563, 564, 565, 566, 633, 634, 635, 636, 637, 638, 639, 640, 641, 642, 643, 644, 1048, 1049, 1050, 1051, 1052, 1053, 1054, 1055, 1056, 1057, 1058, 1059, 1060, 1061, 1062, 1063, 1064, 1065, 1066, 1067, 1068, 1069, 1070, 1071, 1072] (by decide +kernel) (by decide +kernel)
set_option maxRecDepth 20000 in
theorem gL_law_X12_change : GoodIn wsL_law (wsV RL 48 RX12 yX12_change wsX12_change) := goodIn_app (goodIn_of _ (by decide +kernel)) ggL_law_X12_change
set_option maxRecDepth 20000 in
theorem ggL_law_X11_by : GoodIn wsL_law wsX11_by := goodIn_r _ [648, 27, 599, 600, 601, 2, 602, 31, 594, 542, 543, 544, 545, 546, 547, 26, 548, 86, 87, 88, 397, 398, 399, 1037, 1038, 1039, 1040, 1041, 1042, 1043, 1044, 1045, 1046, 1047, 1091, 1092, 1093, 1094, 1095, 1087, 1088, 1089, 1090] (by decide +kernel) (by decide +kernel)
set_option maxRecDepth 20000 in
theorem gL_law_X11_by : GoodIn wsL_law (wsV RL 49 RX11 yX11_by wsX11_by) := goodIn_app (goodIn_of _ (by decide +kernel)) ggL_law_X11_by
set_option maxRecDepth 20000 in
theorem ggL_law_X12_by : GoodIn wsL_law wsX12_by := goodIn_r _ [652, 420, 621, 622, 623, 5, 624, 521, 615, 412, 421, 415, 418, 416, 417, 625, 626, 627, 628, 409, 422, 490, 491, 492, 493, 494, 447, 448, 449, 629, 630, 631, 632, 485, 486, 487, 488, 489, 482, 483, 484, 557, 558, 559, 560, 411, 561, 562, 563, 564, 565, 566, 633, 634, 635, 636, 553, 554, 555, 556, 1048, 1049, 1050, 1051, 1052, 1053, 1054, 1055, 1056, 1057, 1058, 1059, 1060, 1061, 1062, 1063, 1064, 1065, 1066, 1067, 1068, 1069, 1070, 1071, 1072] (by decide +kernel) (by decide +kernel)
set_option maxRecDepth 20000 in
theorem gL_law_X12_by : GoodIn wsL_law (wsV RL 52 RX12 yX12_by wsX12_by) := goodIn_app (goodIn_of _ (by decide +kernel)) ggL_law_X12_by
set_option maxRecDepth 20000 in
theorem ggL_law_X11_test : GoodIn wsL_law wsX11_test := goodIn_r _ [656, 35, 657, 542, 543, 2, 544, 658, 659, 660, 34, 661, 105, 103, 104, 378, 379, 380, 381, 39, 43, 382, 383, 384, 38, 385, 115, 386, 111, 387, 388, 389, 390, 116, 391, 117, 392, 393, 394, 395, 26, 396, 367, 368, 369, 370, 86, 87, 88, 397, 398, 399, 400, 401, 402, 42, 403, 126, 1037, 1038, 1039, 1040, 1041, 1042, 1043, 1044, 1045, 1046, 1047, 1096, 1097, 1098, 1099, 1100, 1101, 1102, 1103, 1104, 1105, 1106, 1091, 1092, 1093, 1094, 1095, 1087, 1088, 1089, 1090, 1107, 1108, 1109, 1110, 1111, 1112, 1113, 1114] (by decide +kernel) (by decide +kernel)
set_option maxRecDepth 20000 in
theorem gL_law_X11_test : GoodIn wsL_law (wsV RL 53 RX11 yX11_test wsX11_test) := goodIn_app (goodIn_of _ (by decide +kernel)) ggL_law_X11_test
set_option maxRecDepth 20000 in
theorem ggL_law_X12_test : GoodIn wsL_law wsX12_test := goodIn_r _ [665, 666, 620, 423, 424, 553, 554, 5, 555, 556, 447, 448, 449, 1048, 1049, 1050, 1051, 1052, 1053, 1054, 1055, 1056, 1057, 1058, 1059, 1060, 1061, 1062, 1063, 1064, 1065, 1066, 1067, 1068, 1069, 1070, 1071, 1072] (by decide +kernel) (by decide +kernel)
set_option maxRecDepth 20000 in
theorem gL_law_X12_test : GoodIn wsL_law (wsV RL 56 RX12 yX12_test wsX12_test) := goodIn_app (goodIn_of _ (by decide +kernel)) ggL_law_X12_test
set_option maxRecDepth 20000 in
theorem ggL_law_X11_drop : GoodIn wsL_law wsX11_drop := goodIn_r _ [670, 35, 671, 672, 673, 674, 2, 675, 657, 676, 677, 678, 34, 679, 105, 103, 104, 378, 379, 380, 381, 39, 43, 382, 383, 384, 38, 385, 115, 386, 111, 387, 388, 389, 390, 116, 391, 117, 392, 393, 394, 395, 26, 396, 367, 368, 369, 370, 86, 87, 88, 397, 398, 399, 400, 401, 402, 42, 403, 126, 1037, 1038, 1039, 1040, 1041, 1042, 1043, 1044, 1045, 1046, 1047, 1096, 1097, 1098, 1099, 1100, 1101, 1102, 1103, 1104, 1105, 1106, 1091, 1092, 1093, 1094, 1095, 1087, 1088, 1089, 1090, 1107, 1108, 1109, 1110, 1111, 1112, 1113, 1114] (by decide +kernel) (by decide +kernel)
set_option maxRecDepth 20000 in
theorem gL_law_X11_drop : GoodIn wsL_law (wsV RL 57 RX11 yX11_drop wsX11_drop) := goodIn_app (goodIn_of _ (by decide +kernel)) ggL_law_X11_drop
set_option maxRecDepth 20000 in
theorem ggL_law_X12_drop : GoodIn wsL_law wsX12_drop := goodIn_r _ [683, 423, 620, 424, 684, 685, 686, 5, 687, 447, 448, 449, 1048, 1049, 1050, 1051, 1052, 1053, 1054, 1055, 1056, 1057, 1058, 1059, 1060, 1061, 1062, 1063, 1064, 1065, 1066, 1067, 1068, 1069, 1070, 1071, 1072] (by decide +kernel) (by decide +kernel)
set_option maxRecDepth 20000 in
theorem gL_law_X12_drop : GoodIn wsL_law (wsV RL 60 RX12 yX12_drop wsX12_drop) := goodIn_app (goodIn_of _ (by decide +kernel)) ggL_law_X12_drop
