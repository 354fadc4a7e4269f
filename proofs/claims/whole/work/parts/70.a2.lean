set_option maxRecDepth 20000 in
theorem ggL_law_X11_of : GoodIn wsL_law wsX11_of := goodIn_r _ [691, 35, 671, 692, 39, 672, 673, 674, 2, 675, 657, 693, 694, 695, 34, 696, 106, 103, 104, 697, 546, 547, 26, 548, 86, 87, 88, 397, 398, 399, 698, 699, 700, 38, 701, 115, 386, 111, 1037, 1038, 1039, 1040, 1041, 1042, 1043, 1044, 1045, 1046, 1047, 1096, 1097, 1098, 1099, 1087, 1088, 1089, 1090, 1100, 1101, 1102, 1103, 1104, 1105, 1106, 1091, 1092, 1093, 1094, 1095] (by decide +kernel) (by decide +kernel)
set_option maxRecDepth 20000 in
theorem gL_law_X11_of : GoodIn wsL_law (wsV RL 61 RX11 yX11_of wsX11_of) := goodIn_app (goodIn_of _ (by decide +kernel)) ggL_law_X11_of
set_option maxRecDepth 20000 in
theorem ggL_law_X12_of : GoodIn wsL_law wsX12_of := goodIn_r _ [705, 615, 425, 423, 424, 684, 685, 686, 5, 687, 620, 447, 448, 449, 616, 617, 618, 619, 420, 421, 621, 622, 623, 624, 521, 412, 415, 418, 416, 417, 625, 626, 627, 628, 409, 422, 490, 491, 492, 493, 494, 629, 630, 631, 632, 485, 486, 487, 488, 489, 482, 483, 484, 557, 558, 559, 560, 411, 561, 562, 563, 564, 565, 566, 706, 707, 708, 709, 1048, 1049, 1050, 1051, 1052, 1053, 1054, 1055, 1056, 1057, 1058, 1059, 1060, 1061, 1062, 1063, 1064, 1065, 1066, 1067, 1068, 1069, 1070, 1071, 1072] (by decide +kernel) (by decide +kernel)
set_option maxRecDepth 20000 in
theorem gL_law_X12_of : GoodIn wsL_law (wsV RL 64 RX12 yX12_of wsX12_of) := goodIn_app (goodIn_of _ (by decide +kernel)) ggL_law_X12_of
set_option maxRecDepth 20000 in
theorem ggL_law_X11_many : GoodIn wsL_law wsX11_many := goodIn_r _ [713, 31, 39, 714, 715, 716, 30, 717, 97, 96, 718, 719, 720, 38, 721, 115, 386, 111, 722, 723, 724, 725, 726, 727, 728, 729, 730, 731, 732, 733, 734, 735, 604, 605, 606, 607, 608, 609, 610, 1037, 1038, 1039, 1040, 1041, 1042, 1043, 1044, 1045, 1046, 1047, 1091, 1092, 1093, 1094, 1095, 1100, 1101, 1102, 1103, 1104, 1105, 1106] (by decide +kernel) (by decide +kernel)
set_option maxRecDepth 20000 in
theorem gL_law_X11_many : GoodIn wsL_law (wsV RL 65 RX11 yX11_many wsX11_many) := goodIn_app (goodIn_of _ (by decide +kernel)) ggL_law_X11_many
set_option maxRecDepth 20000 in
theorem ggL_law_X12_many : GoodIn wsL_law wsX12_many := goodIn_r _ [739, 740, 447, 448, 5, 449, 616, 617, 618, 619, 615, 425, 620, 420, 423, 421, 621, 622, 623, 624, 521, 412, 415, 418, 416, 417, 625, 626, 627, 628, 409, 422, 490, 491, 492, 493, 494, 629, 630, 631, 632, 485, 486, 487, 488, 489, 482, 483, 484, 557, 558, 559, 560, 411, 561, 562, 563, 564, 565, 566, 741, 742, 743, 744, 745, 746, 747, 748, 637, 638, 639, 640, 641, 642, 643, 644, 1048, 1049, 1050, 1051, 1052, 1053, 1054, 1055, 1056, 1057, 1058, 1059, 1060, 1061, 1062, 1063, 1064, 1065, 1066, 1067, 1068, 1069, 1070, 1071, 1072] (by decide +kernel) (by decide +kernel)
set_option maxRecDepth 20000 in
theorem gL_law_X12_many : GoodIn wsL_law (wsV RL 68 RX12 yX12_many wsX12_many) := goodIn_app (goodIn_of _ (by decide +kernel)) ggL_law_X12_many
set_option maxRecDepth 20000 in
theorem ggL_law_X11_score : GoodIn wsL_law wsX11_score := goodIn_r _ [752, 39, 31, 594, 753, 754, 2, 755, 718, 719, 720, 38, 721, 115, 386, 111, 714, 715, 716, 30, 717, 97, 96, 756, 757, 758, 759, 760, 761, 1037, 1038, 1039, 1040, 1041, 1042, 1043, 1044, 1045, 1046, 1047, 1091, 1092, 1093, 1094, 1095, 1100, 1101, 1102, 1103, 1104, 1105, 1106] (by decide +kernel) (by decide +kernel)
set_option maxRecDepth 20000 in
theorem gL_law_X11_score : GoodIn wsL_law (wsV RL 69 RX11 yX11_score wsX11_score) := goodIn_app (goodIn_of _ (by decide +kernel)) ggL_law_X11_score
set_option maxRecDepth 20000 in
theorem ggL_law_X12_score : GoodIn wsL_law wsX12_score := goodIn_r _ [765, 615, 766, 767, 5, 768, 447, 448, 449, 616, 617, 618, 619, 425, 620, 420, 423, 421, 621, 622, 623, 624, 521, 412, 415, 418, 416, 417, 625, 626, 627, 628, 409, 422, 490, 491, 492, 493, 494, 629, 630, 631, 632, 485, 486, 487, 488, 489, 482, 483, 484, 557, 558, 559, 560, 411, 561, 562, 563, 564, 565, 566, 741, 742, 743, 744, 745, 746, 747, 748, 637, 638, 639, 640, 641, 642, 643, 644, 769, 770, 771, 1048, 1049, 1050, 1051, 1052, 1053, 1054, 1055, 1056, 1057, 1058, 1059, 1060, 1061, 1062, 1063, 1064, 1065, 1066, 1067, 1068, 1069, 1070, 1071, 1072] (by decide +kernel) (by decide +kernel)
set_option maxRecDepth 20000 in
theorem gL_law_X12_score : GoodIn wsL_law (wsV RL 72 RX12 yX12_score wsX12_score) := goodIn_app (goodIn_of _ (by decide +kernel)) ggL_law_X12_score
set_option maxRecDepth 20000 in
theorem ggL_law_X11_fewest : GoodIn wsL_law wsX11_fewest := goodIn_r _ [775, 43, 776, 777, 778, 42, 779, 125, 780, 781, 782, 783, 126, 128, 784, 122, 59, 785, 786, 787, 788, 127, 789, 129, 790, 791, 792, 793, 794, 795, 796, 797, 798, 799, 800, 801, 802, 803, 804, 805, 806, 807, 808, 809, 810, 811, 812, 813, 814, 124, 123, 815, 1037, 1038, 1039, 1040, 1041, 1042, 1043, 1044, 1045, 1046, 1047, 1107, 1108, 1109, 1110, 1111, 1112, 1113, 1114, 1096, 1097, 1098, 1099, 1091, 1092, 1093, 1094, 1095, 1100, 1101, 1102, 1103, 1104, 1105, 1106] (by decide +kernel) (by decide +kernel)
set_option maxRecDepth 20000 in
theorem gL_law_X11_fewest : GoodIn wsL_law (wsV RL 73 RX11 yX11_fewest wsX11_fewest) := goodIn_app (goodIn_of _ (by decide +kernel)) ggL_law_X11_fewest
set_option maxRecDepth 20000 in
theorem ggL_law_X12_fewest : GoodIn wsL_law wsX12_fewest := goodIn_r _ [819, 620, 426, 766, 767, 5, 768, 447, 448, 449, 820, 821, 822, 823, 615, 425, 616, 617, 618, 619, 420, 423, 421, 621, 622, 623, 624, 521, 412, 415, 418, 416, 417, 625, 626, 627, 628, 409, 422, 490, 491, 492, 493, 494, 629, 630, 631, 632, 485, 486, 487, 488, 489, 482, 483, 484, 557, 558, 559, 560, 411, 561, 562, 563, 564, 565, 566, 824, 825, 826, 1048, 1049, 1050, 1051, 1052, 1053, 1054, 1055, 1056, 1057, 1058, 1059, 1060, 1061, 1062, 1063, 1064, 1065, 1066, 1067, 1068, 1069, 1070, 1071, 1072] (by decide +kernel) (by decide +kernel)
set_option maxRecDepth 20000 in
theorem gL_law_X12_fewest : GoodIn wsL_law (wsV RL 76 RX12 yX12_fewest wsX12_fewest) := goodIn_app (goodIn_of _ (by decide +kernel)) ggL_law_X12_fewest
set_option maxRecDepth 20000 in
theorem ggL_law_X11_soon : GoodIn wsL_law wsX11_soon := goodIn_r _ [830, 43, 831, 832, 833, 42, 834, 124, 780, 781, 782, 783, 126, 128, 784, 122, 59, 785, 786, 787, 788, 127, 789, 129, 790, 791, 792, 793, 794, 795, 796, 797, 798, 799, 800, 801, 802, 803, 125, 804, 805, 806, 807, 808, 809, 810, 811, 812, 813, 814, 123, 672, 673, 674, 2, 675, 35, 657, 835, 836, 837, 838, 1037, 1038, 1039, 1040, 1041, 1042, 1043, 1044, 1045, 1046, 1047, 1107, 1108, 1109, 1110, 1111, 1112, 1113, 1114, 1096, 1097, 1098, 1099, 1091, 1092, 1093, 1094, 1095, 1100, 1101, 1102, 1103, 1104, 1105, 1106] (by decide +kernel) (by decide +kernel)
set_option maxRecDepth 20000 in
theorem gL_law_X11_soon : GoodIn wsL_law (wsV RL 77 RX11 yX11_soon wsX11_soon) := goodIn_app (goodIn_of _ (by decide +kernel)) ggL_law_X11_soon
set_option maxRecDepth 20000 in
theorem ggL_law_X12_soon : GoodIn wsL_law wsX12_soon := goodIn_r _ [842, 620, 427, 426, 820, 821, 822, 5, 823, 615, 425, 616, 617, 618, 619, 420, 423, 421, 621, 622, 623, 624, 521, 412, 415, 418, 416, 417, 625, 626, 627, 628, 409, 422, 490, 491, 492, 493, 494, 447, 448, 449, 629, 630, 631, 632, 485, 486, 487, 488, 489, 482, 483, 484, 557, 558, 559, 560, 411, 561, 562, 563, 564, 565, 566, 684, 685, 686, 687, 1048, 1049, 1050, 1051, 1052, 1053, 1054, 1055, 1056, 1057, 1058, 1059, 1060, 1061, 1062, 1063, 1064, 1065, 1066, 1067, 1068, 1069, 1070, 1071, 1072] (by decide +kernel) (by decide +kernel)
set_option maxRecDepth 20000 in
theorem gL_law_X12_soon : GoodIn wsL_law (wsV RL 80 RX12 yX12_soon wsX12_soon) := goodIn_app (goodIn_of _ (by decide +kernel)) ggL_law_X12_soon
set_option maxRecDepth 20000 in
theorem ggL_law_X11_wished : GoodIn wsL_law wsX11_wished := goodIn_r _ [846, 39, 847, 848, 849, 850, 851, 38, 852, 112, 113, 853, 854, 855, 856, 115, 386, 114, 117, 726, 727, 728, 729, 111, 730, 857, 368, 369, 26, 370, 86, 87, 88, 858, 859, 860, 861, 862, 398, 399, 1037, 1038, 1039, 1040, 1041, 1042, 1043, 1044, 1045, 1046, 1047, 1100, 1101, 1102, 1103, 1104, 1105, 1106, 1091, 1092, 1093, 1094, 1095, 1087, 1088, 1089, 1090] (by decide +kernel) (by decide +kernel)
set_option maxRecDepth 20000 in
theorem gL_law_X11_wished : GoodIn wsL_law (wsV RL 81 RX11 yX11_wished wsX11_wished) := goodIn_app (goodIn_of _ (by decide +kernel)) ggL_law_X11_wished
set_option maxRecDepth 20000 in
theorem ggL_law_X12_wished : GoodIn wsL_law wsX12_wished := goodIn_r _ [866, 615, 425, 420, 421, 766, 767, 5, 768, 447, 448, 449, 616, 617, 618, 619, 620, 423, 621, 622, 623, 624, 521, 412, 415, 418, 416, 417, 625, 626, 627, 628, 409, 422, 490, 491, 492, 493, 494, 629, 630, 631, 632, 485, 486, 487, 488, 489, 482, 483, 484, 557, 558, 559, 560, 411, 561, 562, 563, 564, 565, 566, 1048, 1049, 1050, 1051, 1052, 1053, 1054, 1055, 1056, 1057, 1058, 1059, 1060, 1061, 1062, 1063, 1064, 1065, 1066, 1067, 1068, 1069, 1070, 1071, 1072] (by decide +kernel) (by decide +kernel)
set_option maxRecDepth 20000 in
theorem gL_law_X12_wished : GoodIn wsL_law (wsV RL 84 RX12 yX12_wished wsX12_wished) := goodIn_app (goodIn_of _ (by decide +kernel)) ggL_law_X12_wished
