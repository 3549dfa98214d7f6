set_option maxRecDepth 20000 in
theorem ggL_law_X8_rank : GoodIn wsL_law wsX8_rank := goodIn_r _ [749, 17, 40, 733, 397, 398, 48, 399, 68, 379, 104, 105, 57, 106, 107, 400, 401, 402, 403, 404, 70, 405, 166, 167, 168, 169, 170, 171, 172, 173, 174, 175, 176, 177, 178, 179, 180, 75, 406, 407, 408, 38, 409, 410, 411, 412, 413, 90, 414, 352, 353, 354, 1148, 1149, 1150, 1151, 1152, 1153, 1154, 1155, 1156, 1191, 1192, 1193, 1194, 1195, 1196, 1197, 1198, 1210, 1211, 1214, 1215, 1216, 1209] (by decide +kernel) (by decide +kernel)
set_option maxRecDepth 20000 in
theorem ggL_law_X9_rank : GoodIn wsL_law wsX9_rank := goodIn_r _ [753, 237, 294, 543, 544, 545, 5, 546, 384, 547, 548, 549, 550, 241, 240, 551, 552, 553, 554, 555, 556, 303, 304, 305, 306, 302, 1157, 1158, 1159, 1160, 1161, 1162, 1163, 1164, 1165, 1166, 1167, 1168, 1169, 1170, 1171, 1172, 1173, 1174, 1175, 1176, 1177, 1178, 1179, 1180, 1181, 1182, 1183, 1184, 1185, 1186, 1187, 1188, 1189, 1190] (by decide +kernel) (by decide +kernel)
set_option maxRecDepth 20000 in
theorem ggL_law_L_select : GoodIn wsL_law wsL_select := goodIn_ca (goodIn_r _ [756, 344, 757, 758, 759, 2, 760, 349, 350, 17, 40, 375, 376, 377, 48, 378, 68, 379, 104, 105, 57, 106, 107, 761, 401, 402, 403, 404, 70, 405, 166, 167, 168, 169, 170, 171, 172, 173, 174, 175, 176, 177, 178, 179, 180, 75, 656, 461, 462, 52, 463, 96, 95, 1148, 1149, 1150, 1151, 1152, 1153, 1154, 1155, 1156, 1191, 1192, 1193, 1194, 1195, 1196, 1197, 1198, 1210, 1211, 1214, 1215, 1216, 1212, 1213] (by decide +kernel) (by decide +kernel)) (goodIn_sub (fun _ h => List.mem_append_left _ (List.mem_append_right _ h)) (by decide +kernel))
set_option maxRecDepth 20000 in
theorem ggL_law_X9_select : GoodIn wsL_law wsX9_select := goodIn_r _ [765, 384, 295, 296, 5, 297, 766, 767, 768, 769, 240, 294, 237, 241, 242, 303, 304, 305, 306, 302, 298, 299, 300, 301, 1157, 1158, 1159, 1160, 1161, 1162, 1163, 1164, 1165, 1166, 1167, 1168, 1169, 1170, 1171, 1172, 1173, 1174, 1175, 1176, 1177, 1178, 1179, 1180, 1181, 1182, 1183, 1184, 1185, 1186, 1187, 1188, 1189, 1190] (by decide +kernel) (by decide +kernel)
set_option maxRecDepth 20000 in
theorem ggL_law_L_floor : GoodIn wsL_law wsL_floor := goodIn_ca (goodIn_r _ [772, 645, 773, 774, 775, 2, 776, 654, 655, 17, 40, 733, 397, 398, 48, 399, 68, 379, 104, 105, 57, 106, 107, 400, 401, 402, 403, 404, 70, 405, 166, 167, 168, 169, 170, 171, 172, 173, 174, 175, 176, 177, 178, 179, 180, 75, 406, 407, 408, 38, 409, 410, 411, 412, 413, 90, 414, 352, 353, 354, 761, 656, 461, 462, 52, 463, 96, 95, 1148, 1149, 1150, 1151, 1152, 1153, 1154, 1155, 1156, 1191, 1192, 1193, 1194, 1195, 1196, 1197, 1198, 1210, 1211, 1214, 1215, 1216, 1209, 1212, 1213] (by decide +kernel) (by decide +kernel)) (goodIn_sub (fun _ h => List.mem_append_right _ h) (by decide +kernel))
set_option maxRecDepth 20000 in
theorem ggL_law_X9_floor : GoodIn wsL_law wsX9_floor := goodIn_r _ [780, 237, 294, 543, 544, 545, 5, 546, 384, 547, 548, 549, 550, 241, 240, 551, 552, 553, 554, 555, 556, 557, 558, 559, 560, 298, 299, 300, 301, 302, 766, 767, 768, 769, 242, 303, 304, 305, 306, 1157, 1158, 1159, 1160, 1161, 1162, 1163, 1164, 1165, 1166, 1167, 1168, 1169, 1170, 1171, 1172, 1173, 1174, 1175, 1176, 1177, 1178, 1179, 1180, 1181, 1182, 1183, 1184, 1185, 1186, 1187, 1188, 1189, 1190] (by decide +kernel) (by decide +kernel)
set_option maxRecDepth 20000 in
theorem ggL_law_X8_countPrefix : GoodIn wsL_law wsX8_countPrefix := goodIn_r _ [784, 17, 40, 733, 397, 398, 48, 399, 68, 379, 104, 105, 57, 106, 107, 400, 401, 402, 403, 404, 70, 405, 166, 167, 168, 169, 170, 171, 172, 173, 174, 175, 176, 177, 178, 179, 180, 75, 406, 407, 408, 38, 409, 410, 411, 412, 413, 90, 414, 352, 353, 354, 375, 376, 377, 378, 761, 785, 273, 274, 275, 276, 1148, 1149, 1150, 1151, 1152, 1153, 1154, 1155, 1156, 1191, 1192, 1193, 1194, 1195, 1196, 1197, 1198, 1210, 1211, 1214, 1215, 1216, 1209] (by decide +kernel) (by decide +kernel)
set_option maxRecDepth 20000 in
theorem ggL_law_X9_countPrefix : GoodIn wsL_law wsX9_countPrefix := goodIn_r _ [789, 384, 241, 240, 237, 294, 554, 555, 5, 556, 303, 304, 305, 306, 302, 1157, 1158, 1159, 1160, 1161, 1162, 1163, 1164, 1165, 1166, 1167, 1168, 1169, 1170, 1171, 1172, 1173, 1174, 1175, 1176, 1177, 1178, 1179, 1180, 1181, 1182, 1183, 1184, 1185, 1186, 1187, 1188, 1189, 1190] (by decide +kernel) (by decide +kernel)
set_option maxRecDepth 20000 in
theorem ggL_law_X8_height : GoodIn wsL_law wsX8_height := goodIn_r _ [793, 17, 1148, 1149, 1150, 1151, 1152, 1153, 1154, 1155, 1156, 1191, 1192, 1193, 1194, 1195, 1196, 1197, 1198] (by decide +kernel) (by decide +kernel)
set_option maxRecDepth 20000 in
theorem ggL_law_X9_height : GoodIn wsL_law wsX9_height := goodIn_r _ [797, 243, 303, 304, 305, 5, 306, 302, 1157, 1158, 1159, 1160, 1161, 1162, 1163, 1164, 1165, 1166, 1167, 1168, 1169, 1170, 1171, 1172, 1173, 1174, 1175, 1176, 1177, 1178, 1179, 1180, 1181, 1182, 1183, 1184, 1185, 1186, 1187, 1188, 1189, 1190] (by decide +kernel) (by decide +kernel)
set_option maxRecDepth 20000 in
theorem ggL_law_L_pageCount : GoodIn wsL_law wsL_pageCount := goodIn_ca (goodIn_r _ [800, 344, 801, 802, 803, 2, 804, 17, 805, 806, 807, 808, 349, 350, 809, 810, 811, 812, 813, 814, 815, 16, 816, 160, 161, 162, 163, 58, 164, 59, 103, 104, 105, 57, 106, 107, 165, 166, 167, 168, 169, 170, 171, 172, 173, 174, 175, 176, 177, 178, 179, 180, 75, 817, 818, 819, 52, 820, 96, 1148, 1149, 1150, 1151, 1152, 1153, 1154, 1155, 1156, 1191, 1192, 1193, 1194, 1195, 1196, 1197, 1198, 1214, 1215, 1216, 1212, 1213] (by decide +kernel) (by decide +kernel)) (goodIn_sub (fun _ h => List.mem_append_left _ (List.mem_append_right _ h)) (by decide +kernel))
set_option maxRecDepth 20000 in
theorem ggL_law_X9_pageCount : GoodIn wsL_law wsX9_pageCount := goodIn_r _ [824, 243, 244, 295, 296, 5, 297, 303, 304, 305, 306, 302, 298, 299, 300, 301, 1157, 1158, 1159, 1160, 1161, 1162, 1163, 1164, 1165, 1166, 1167, 1168, 1169, 1170, 1171, 1172, 1173, 1174, 1175, 1176, 1177, 1178, 1179, 1180, 1181, 1182, 1183, 1184, 1185, 1186, 1187, 1188, 1189, 1190] (by decide +kernel) (by decide +kernel)
set_option maxRecDepth 20000 in
theorem ggL_law_L_pageSize : GoodIn wsL_law wsL_pageSize := goodIn_ca (goodIn_r _ [827, 344, 828, 829, 830, 2, 831, 17, 832, 833, 834, 835, 349, 350, 805, 806, 807, 808, 809, 810, 811, 812, 813, 814, 815, 16, 816, 160, 161, 162, 163, 58, 164, 59, 103, 104, 105, 57, 106, 107, 165, 166, 167, 168, 169, 170, 171, 172, 173, 174, 175, 176, 177, 178, 179, 180, 75, 817, 818, 819, 52, 820, 96, 836, 453, 454, 455, 456, 457, 458, 459, 460, 461, 462, 463, 95, 464, 465, 466, 467, 468, 469, 470, 471, 61, 49, 472, 401, 402, 48, 403, 68, 404, 70, 379, 405, 473, 474, 475, 476, 54, 477, 274, 275, 38, 276, 90, 478, 411, 412, 413, 1148, 1149, 1150, 1151, 1152, 1153, 1154, 1155, 1156, 1191, 1192, 1193, 1194, 1195, 1196, 1197, 1198, 1214, 1215, 1216, 1212, 1213, 1210, 1211, 1209] (by decide +kernel) (by decide +kernel)) (goodIn_sub (fun _ h => List.mem_append_left _ (List.mem_append_right _ h)) (by decide +kernel))
set_option maxRecDepth 20000 in
theorem ggL_law_X9_pageSize : GoodIn wsL_law wsX9_pageSize := goodIn_r _ [840, 243, 841, 842, 843, 5, 844, 244, 295, 296, 297, 592, 593, 594, 595, 245, 573, 574, 575, 576, 577, 578, 579, 596, 597, 598, 599, 600, 601, 602, 603, 241, 240, 554, 555, 556, 604, 605, 606, 607, 247, 246, 580, 581, 582, 583, 303, 304, 305, 306, 302, 298, 299, 300, 301, 1157, 1158, 1159, 1160, 1161, 1162, 1163, 1164, 1165, 1166, 1167, 1168, 1169, 1170, 1171, 1172, 1173, 1174, 1175, 1176, 1177, 1178, 1179, 1180, 1181, 1182, 1183, 1184, 1185, 1186, 1187, 1188, 1189, 1190] (by decide +kernel) (by decide +kernel)
set_option maxRecDepth 20000 in
theorem ggL_law_L_pageFanout : GoodIn wsL_law wsL_pageFanout := goodIn_ca (goodIn_r _ [847, 344, 848, 849, 850, 2, 851, 17, 832, 833, 834, 835, 349, 350, 805, 806, 807, 808, 809, 810, 811, 812, 813, 814, 815, 16, 816, 160, 161, 162, 163, 58, 164, 59, 103, 104, 105, 57, 106, 107, 165, 166, 167, 168, 169, 170, 171, 172, 173, 174, 175, 176, 177, 178, 179, 180, 75, 817, 818, 819, 52, 820, 96, 852, 465, 466, 467, 460, 461, 462, 463, 95, 853, 457, 458, 459, 1148, 1149, 1150, 1151, 1152, 1153, 1154, 1155, 1156, 1191, 1192, 1193, 1194, 1195, 1196, 1197, 1198, 1214, 1215, 1216, 1212, 1213] (by decide +kernel) (by decide +kernel)) (goodIn_sub (fun _ h => List.mem_append_left _ (List.mem_append_right _ h)) (by decide +kernel))
set_option maxRecDepth 20000 in
theorem ggL_law_X9_pageFanout : GoodIn wsL_law wsX9_pageFanout := goodIn_r _ [857, 245, 243, 841, 842, 843, 5, 844, 244, 295, 296, 297, 577, 578, 579, 303, 304, 305, 306, 302, 298, 299, 300, 301, 1157, 1158, 1159, 1160, 1161, 1162, 1163, 1164, 1165, 1166, 1167, 1168, 1169, 1170, 1171, 1172, 1173, 1174, 1175, 1176, 1177, 1178, 1179, 1180, 1181, 1182, 1183, 1184, 1185, 1186, 1187, 1188, 1189, 1190] (by decide +kernel) (by decide +kernel)
set_option maxRecDepth 20000 in
theorem ggL_law_L_separator : GoodIn wsL_law wsL_separator := goodIn_ca (goodIn_ca (goodIn_r _ [860, 344, 645, 861, 862, 863, 2, 864, 654, 655, 17, 40, 832, 833, 834, 835, 349, 350, 805, 806, 807, 808, 809, 810, 811, 812, 813, 814, 815, 16, 816, 160, 161, 162, 163, 58, 164, 59, 103, 104, 105, 57, 106, 107, 165, 166, 167, 168, 169, 170, 171, 172, 173, 174, 175, 176, 177, 178, 179, 180, 75, 817, 818, 819, 52, 820, 96, 852, 465, 466, 467, 460, 461, 462, 463, 95, 853, 457, 458, 459, 865, 474, 475, 476, 54, 472, 401, 402, 48, 403, 68, 404, 70, 379, 405, 273, 274, 275, 38, 276, 90, 1148, 1149, 1150, 1151, 1152, 1153, 1154, 1155, 1156, 1191, 1192, 1193, 1194, 1195, 1196, 1197, 1198, 1214, 1215, 1216, 1212, 1213, 1210, 1211, 1209] (by decide +kernel) (by decide +kernel)) (goodIn_sub (fun _ h => List.mem_append_right _ h) (by decide +kernel))) (goodIn_sub (fun _ h => List.mem_append_left _ (List.mem_append_right _ h)) (by decide +kernel))
set_option maxRecDepth 20000 in
theorem ggL_law_X9_separator : GoodIn wsL_law wsX9_separator := goodIn_r _ [869, 243, 245, 246, 294, 237, 247, 841, 842, 843, 5, 844, 244, 295, 296, 297, 298, 299, 300, 301, 302, 577, 578, 579, 573, 574, 575, 576, 580, 581, 582, 583, 303, 304, 305, 306, 1157, 1158, 1159, 1160, 1161, 1162, 1163, 1164, 1165, 1166, 1167, 1168, 1169, 1170, 1171, 1172, 1173, 1174, 1175, 1176, 1177, 1178, 1179, 1180, 1181, 1182, 1183, 1184, 1185, 1186, 1187, 1188, 1189, 1190] (by decide +kernel) (by decide +kernel)
set_option maxRecDepth 20000 in
theorem ggL_law_L_statistic : GoodIn wsL_law wsL_statistic := goodIn_ca (goodIn_r _ [872, 263, 873, 874, 875, 2, 876, 269, 270, 17, 26, 30, 877, 878, 879, 880, 813, 814, 815, 16, 816, 160, 161, 162, 163, 58, 164, 59, 103, 104, 105, 57, 106, 107, 165, 166, 167, 168, 169, 170, 171, 172, 173, 174, 175, 176, 177, 178, 179, 180, 75, 817, 818, 819, 52, 820, 96, 836, 453, 454, 455, 456, 457, 458, 459, 460, 461, 462, 463, 95, 464, 465, 466, 467, 468, 469, 470, 471, 61, 49, 472, 401, 402, 48, 403, 68, 404, 70, 379, 405, 473, 474, 475, 476, 54, 477, 274, 275, 38, 276, 90, 478, 411, 412, 413, 881, 882, 883, 884, 62, 885, 1148, 1149, 1150, 1151, 1152, 1153, 1154, 1155, 1156, 1191, 1192, 1193, 1194, 1195, 1196, 1197, 1198, 1200, 1201, 1202, 1203, 1204, 1205, 1206, 1214, 1215, 1216, 1212, 1213, 1210, 1211, 1209] (by decide +kernel) (by decide +kernel)) (goodIn_sub (fun _ h => List.mem_append_left _ (List.mem_append_left _ (List.mem_append_left _ (List.mem_append_right _ h)))) (by decide +kernel))
set_option maxRecDepth 20000 in
theorem ggL_law_X9_statistic : GoodIn wsL_law wsX9_statistic := goodIn_r _ [889, 243, 633, 612, 719, 295, 296, 5, 297, 298, 299, 300, 301, 302, 890, 891, 892, 893, 244, 592, 593, 594, 595, 245, 573, 574, 575, 576, 577, 578, 579, 596, 597, 598, 599, 600, 601, 602, 603, 241, 240, 554, 555, 556, 604, 605, 606, 607, 247, 246, 580, 581, 582, 583, 894, 895, 896, 897, 303, 304, 305, 306, 1157, 1158, 1159, 1160, 1161, 1162, 1163, 1164, 1165, 1166, 1167, 1168, 1169, 1170, 1171, 1172, 1173, 1174, 1175, 1176, 1177, 1178, 1179, 1180, 1181, 1182, 1183, 1184, 1185, 1186, 1187, 1188, 1189, 1190] (by decide +kernel) (by decide +kernel)
set_option maxRecDepth 20000 in
theorem ggL_law_X8_occupancyBits : GoodIn wsL_law wsX8_occupancyBits := goodIn_r _ [901, 17, 732, 127, 128, 129, 902, 813, 814, 815, 16, 816, 160, 161, 162, 163, 58, 164, 59, 103, 104, 105, 57, 106, 107, 165, 166, 167, 168, 169, 170, 171, 172, 173, 174, 175, 176, 177, 178, 179, 180, 75, 817, 818, 819, 52, 820, 96, 877, 878, 879, 2, 880, 836, 453, 454, 455, 456, 457, 458, 459, 460, 461, 462, 463, 95, 464, 465, 466, 467, 468, 469, 470, 471, 61, 49, 472, 401, 402, 48, 403, 68, 404, 70, 379, 405, 473, 474, 475, 476, 54, 477, 274, 275, 38, 276, 90, 478, 411, 412, 413, 903, 904, 905, 906, 907, 1148, 1149, 1150, 1151, 1152, 1153, 1154, 1155, 1156, 1191, 1192, 1193, 1194, 1195, 1196, 1197, 1198, 1214, 1215, 1216, 1212, 1213, 1210, 1211, 1209] (by decide +kernel) (by decide +kernel)
set_option maxRecDepth 20000 in
theorem ggL_law_X9_occupancyBits : GoodIn wsL_law wsX9_occupancyBits := goodIn_r _ [911, 302, 912, 244, 239, 890, 891, 892, 5, 893, 592, 593, 594, 595, 245, 573, 574, 575, 576, 577, 578, 579, 596, 597, 598, 599, 600, 601, 602, 603, 241, 240, 554, 555, 556, 604, 605, 606, 607, 247, 246, 580, 581, 582, 583, 913, 914, 915, 916, 917, 918, 919, 920, 921, 922, 923, 924, 1157, 1158, 1159, 1160, 1161, 1162, 1163, 1164, 1165, 1166, 1167, 1168, 1169, 1170, 1171, 1172, 1173, 1174, 1175, 1176, 1177, 1178, 1179, 1180, 1181, 1182, 1183, 1184, 1185, 1186, 1187, 1188, 1189, 1190] (by decide +kernel) (by decide +kernel)
theorem dL_law_698 : decode code 698 = .ok (.aload_n 1, 1) := by decide +kernel
theorem dL_law_699 : decode code 699 = .ok (.invokevirtual 148, 3) := by decide +kernel
theorem dL_law_702 : decode code 702 = .ok (.aload_n 2, 1) := by decide +kernel
theorem dL_law_703 : decode code 703 = .ok (.invokevirtual 151, 3) := by decide +kernel
theorem dL_law_706 : decode code 706 = .ok (.if_icmp .eq 1067, 3) := by decide +kernel
theorem dL_law_709 : decode code 709 = .ok (.iconst 0, 1) := by decide +kernel
theorem dL_law_711 : decode code 711 = .ok (.aload_n 1, 1) := by decide +kernel
theorem dL_law_712 : decode code 712 = .ok (.aload_n 0, 1) := by decide +kernel
theorem dL_law_713 : decode code 713 = .ok (.iload 4, 2) := by decide +kernel
theorem dL_law_715 : decode code 715 = .ok (.iconst 1, 1) := by decide +kernel
theorem dL_law_716 : decode code 716 = .ok (.iadd, 1) := by decide +kernel
theorem dL_law_717 : decode code 717 = .ok (.iaload, 1) := by decide +kernel
theorem dL_law_718 : decode code 718 = .ok (.aload_n 3, 1) := by decide +kernel
theorem dL_law_719 : decode code 719 = .ok (.invokestatic 152, 3) := by decide +kernel
theorem dL_law_722 : decode code 722 = .ok (.istore 5, 2) := by decide +kernel
theorem dL_law_724 : decode code 724 = .ok (.aload_n 2, 1) := by decide +kernel
theorem dL_law_725 : decode code 725 = .ok (.aload_n 0, 1) := by decide +kernel
theorem dL_law_726 : decode code 726 = .ok (.iload 4, 2) := by decide +kernel
theorem dL_law_728 : decode code 728 = .ok (.iconst 1, 1) := by decide +kernel
theorem dL_law_729 : decode code 729 = .ok (.iadd, 1) := by decide +kernel
theorem dL_law_730 : decode code 730 = .ok (.iaload, 1) := by decide +kernel
theorem dL_law_731 : decode code 731 = .ok (.invokevirtual 154, 3) := by decide +kernel
theorem dL_law_734 : decode code 734 = .ok (.istore 6, 2) := by decide +kernel
theorem dL_law_736 : decode code 736 = .ok (.aload_n 2, 1) := by decide +kernel
theorem dL_law_737 : decode code 737 = .ok (.invokevirtual 108, 3) := by decide +kernel
theorem dL_law_740 : decode code 740 = .ok (.iload 5, 2) := by decide +kernel
theorem dL_law_742 : decode code 742 = .ok (.if_icmp .eq 5, 3) := by decide +kernel
theorem dL_law_745 : decode code 745 = .ok (.iconst 0, 1) := by decide +kernel
theorem dL_law_747 : decode code 747 = .ok (.iload 5, 2) := by decide +kernel
theorem dL_law_749 : decode code 749 = .ok (.ifCond .ne 15, 3) := by decide +kernel
theorem dL_law_752 : decode code 752 = .ok (.aload_n 3, 1) := by decide +kernel
theorem dL_law_753 : decode code 753 = .ok (.iconst 0, 1) := by decide +kernel
theorem dL_law_754 : decode code 754 = .ok (.laload, 1) := by decide +kernel
theorem dL_law_755 : decode code 755 = .ok (.iload 6, 2) := by decide +kernel
theorem dL_law_757 : decode code 757 = .ok (.i2l, 1) := by decide +kernel
theorem dL_law_758 : decode code 758 = .ok (.lcmp, 1) := by decide +kernel
theorem dL_law_759 : decode code 759 = .ok (.ifCond .eq 5, 3) := by decide +kernel
theorem dL_law_762 : decode code 762 = .ok (.iconst 0, 1) := by decide +kernel
theorem dL_law_764 : decode code 764 = .ok (.goto 1009, 3) := by decide +kernel
theorem dL_law_767 : decode code 767 = .ok (.aload_n 1, 1) := by decide +kernel
theorem dL_law_768 : decode code 768 = .ok (.aload_n 3, 1) := by decide +kernel
theorem dL_law_769 : decode code 769 = .ok (.invokestatic 155, 3) := by decide +kernel
theorem dL_law_772 : decode code 772 = .ok (.istore 5, 2) := by decide +kernel
theorem dL_law_774 : decode code 774 = .ok (.aload_n 2, 1) := by decide +kernel
theorem dL_law_775 : decode code 775 = .ok (.invokevirtual 157, 3) := by decide +kernel
theorem dL_law_778 : decode code 778 = .ok (.istore 6, 2) := by decide +kernel
theorem dL_law_780 : decode code 780 = .ok (.aload_n 2, 1) := by decide +kernel
theorem dL_law_781 : decode code 781 = .ok (.invokevirtual 108, 3) := by decide +kernel
theorem dL_law_784 : decode code 784 = .ok (.iload 5, 2) := by decide +kernel
theorem dL_law_786 : decode code 786 = .ok (.if_icmp .eq 5, 3) := by decide +kernel
theorem dL_law_789 : decode code 789 = .ok (.iconst 0, 1) := by decide +kernel
theorem dL_law_791 : decode code 791 = .ok (.iload 5, 2) := by decide +kernel
theorem dL_law_793 : decode code 793 = .ok (.ifCond .ne 15, 3) := by decide +kernel
theorem dL_law_796 : decode code 796 = .ok (.aload_n 3, 1) := by decide +kernel
theorem dL_law_797 : decode code 797 = .ok (.iconst 0, 1) := by decide +kernel
theorem dL_law_798 : decode code 798 = .ok (.laload, 1) := by decide +kernel
theorem dL_law_799 : decode code 799 = .ok (.iload 6, 2) := by decide +kernel
theorem dL_law_801 : decode code 801 = .ok (.i2l, 1) := by decide +kernel
theorem dL_law_802 : decode code 802 = .ok (.lcmp, 1) := by decide +kernel
theorem dL_law_803 : decode code 803 = .ok (.ifCond .eq 5, 3) := by decide +kernel
theorem dL_law_806 : decode code 806 = .ok (.iconst 0, 1) := by decide +kernel
theorem dL_law_808 : decode code 808 = .ok (.goto 965, 3) := by decide +kernel
theorem dL_law_811 : decode code 811 = .ok (.aload_n 1, 1) := by decide +kernel
theorem dL_law_812 : decode code 812 = .ok (.invokevirtual 158, 3) := by decide +kernel
theorem dL_law_815 : decode code 815 = .ok (.aload_n 2, 1) := by decide +kernel
theorem dL_law_816 : decode code 816 = .ok (.invokevirtual 161, 3) := by decide +kernel
theorem dL_law_819 : decode code 819 = .ok (.if_icmp .eq 954, 3) := by decide +kernel
theorem dL_law_822 : decode code 822 = .ok (.iconst 0, 1) := by decide +kernel
theorem dL_law_824 : decode code 824 = .ok (.aload_n 1, 1) := by decide +kernel
theorem dL_law_825 : decode code 825 = .ok (.invokevirtual 162, 3) := by decide +kernel
theorem dL_law_828 : decode code 828 = .ok (.aload_n 2, 1) := by decide +kernel
theorem dL_law_829 : decode code 829 = .ok (.invokevirtual 165, 3) := by decide +kernel
theorem dL_law_832 : decode code 832 = .ok (.if_icmp .eq 941, 3) := by decide +kernel
theorem dL_law_835 : decode code 835 = .ok (.iconst 0, 1) := by decide +kernel
theorem dL_law_837 : decode code 837 = .ok (.aload_n 1, 1) := by decide +kernel
theorem dL_law_838 : decode code 838 = .ok (.aload_n 0, 1) := by decide +kernel
theorem dL_law_839 : decode code 839 = .ok (.iload 4, 2) := by decide +kernel
theorem dL_law_841 : decode code 841 = .ok (.iconst 1, 1) := by decide +kernel
theorem dL_law_842 : decode code 842 = .ok (.iadd, 1) := by decide +kernel
theorem dL_law_843 : decode code 843 = .ok (.iaload, 1) := by decide +kernel
theorem dL_law_844 : decode code 844 = .ok (.aload_n 3, 1) := by decide +kernel
theorem dL_law_845 : decode code 845 = .ok (.invokestatic 166, 3) := by decide +kernel
theorem dL_law_848 : decode code 848 = .ok (.istore 5, 2) := by decide +kernel
theorem dL_law_850 : decode code 850 = .ok (.aload_n 2, 1) := by decide +kernel
theorem dL_law_851 : decode code 851 = .ok (.aload_n 0, 1) := by decide +kernel
theorem dL_law_852 : decode code 852 = .ok (.iload 4, 2) := by decide +kernel
theorem dL_law_854 : decode code 854 = .ok (.iconst 1, 1) := by decide +kernel
theorem dL_law_855 : decode code 855 = .ok (.iadd, 1) := by decide +kernel
theorem dL_law_856 : decode code 856 = .ok (.iaload, 1) := by decide +kernel
theorem dL_law_857 : decode code 857 = .ok (.invokevirtual 168, 3) := by decide +kernel
theorem dL_law_860 : decode code 860 = .ok (.istore 6, 2) := by decide +kernel
theorem dL_law_862 : decode code 862 = .ok (.aload_n 2, 1) := by decide +kernel
theorem dL_law_863 : decode code 863 = .ok (.invokevirtual 108, 3) := by decide +kernel
theorem dL_law_866 : decode code 866 = .ok (.iload 5, 2) := by decide +kernel
theorem dL_law_868 : decode code 868 = .ok (.if_icmp .eq 5, 3) := by decide +kernel
theorem dL_law_871 : decode code 871 = .ok (.iconst 0, 1) := by decide +kernel
theorem dL_law_873 : decode code 873 = .ok (.iload 5, 2) := by decide +kernel
theorem dL_law_875 : decode code 875 = .ok (.ifCond .ne 15, 3) := by decide +kernel
theorem dL_law_878 : decode code 878 = .ok (.aload_n 3, 1) := by decide +kernel
theorem dL_law_879 : decode code 879 = .ok (.iconst 0, 1) := by decide +kernel
theorem dL_law_880 : decode code 880 = .ok (.laload, 1) := by decide +kernel
theorem dL_law_881 : decode code 881 = .ok (.iload 6, 2) := by decide +kernel
theorem dL_law_883 : decode code 883 = .ok (.i2l, 1) := by decide +kernel
theorem dL_law_884 : decode code 884 = .ok (.lcmp, 1) := by decide +kernel
theorem dL_law_885 : decode code 885 = .ok (.ifCond .eq 5, 3) := by decide +kernel
theorem dL_law_888 : decode code 888 = .ok (.iconst 0, 1) := by decide +kernel
theorem dL_law_890 : decode code 890 = .ok (.goto 883, 3) := by decide +kernel
theorem dL_law_893 : decode code 893 = .ok (.aload_n 1, 1) := by decide +kernel
theorem dL_law_894 : decode code 894 = .ok (.aload_n 0, 1) := by decide +kernel
theorem dL_law_895 : decode code 895 = .ok (.iload 4, 2) := by decide +kernel
theorem dL_law_897 : decode code 897 = .ok (.iconst 1, 1) := by decide +kernel
theorem dL_law_898 : decode code 898 = .ok (.iadd, 1) := by decide +kernel
theorem dL_law_899 : decode code 899 = .ok (.iaload, 1) := by decide +kernel
theorem dL_law_900 : decode code 900 = .ok (.aload_n 0, 1) := by decide +kernel
theorem dL_law_901 : decode code 901 = .ok (.iload 4, 2) := by decide +kernel
theorem dL_law_903 : decode code 903 = .ok (.iconst 2, 1) := by decide +kernel
theorem dL_law_904 : decode code 904 = .ok (.iadd, 1) := by decide +kernel
theorem dL_law_905 : decode code 905 = .ok (.iaload, 1) := by decide +kernel
theorem dL_law_906 : decode code 906 = .ok (.aload_n 3, 1) := by decide +kernel
theorem dL_law_907 : decode code 907 = .ok (.invokestatic 169, 3) := by decide +kernel
theorem dL_law_910 : decode code 910 = .ok (.istore 5, 2) := by decide +kernel
theorem dL_law_912 : decode code 912 = .ok (.aload_n 2, 1) := by decide +kernel
theorem dL_law_913 : decode code 913 = .ok (.aload_n 0, 1) := by decide +kernel
theorem dL_law_914 : decode code 914 = .ok (.iload 4, 2) := by decide +kernel
theorem dL_law_916 : decode code 916 = .ok (.iconst 1, 1) := by decide +kernel
theorem dL_law_917 : decode code 917 = .ok (.iadd, 1) := by decide +kernel
theorem dL_law_918 : decode code 918 = .ok (.iaload, 1) := by decide +kernel
theorem dL_law_919 : decode code 919 = .ok (.aload_n 0, 1) := by decide +kernel
theorem dL_law_920 : decode code 920 = .ok (.iload 4, 2) := by decide +kernel
theorem dL_law_922 : decode code 922 = .ok (.iconst 2, 1) := by decide +kernel
theorem dL_law_923 : decode code 923 = .ok (.iadd, 1) := by decide +kernel
theorem dL_law_924 : decode code 924 = .ok (.iaload, 1) := by decide +kernel
theorem dL_law_925 : decode code 925 = .ok (.invokevirtual 172, 3) := by decide +kernel
theorem dL_law_928 : decode code 928 = .ok (.istore 6, 2) := by decide +kernel
theorem dL_law_930 : decode code 930 = .ok (.aload_n 2, 1) := by decide +kernel
theorem dL_law_931 : decode code 931 = .ok (.invokevirtual 108, 3) := by decide +kernel
theorem dL_law_934 : decode code 934 = .ok (.iload 5, 2) := by decide +kernel
theorem dL_law_936 : decode code 936 = .ok (.if_icmp .eq 5, 3) := by decide +kernel
theorem dL_law_939 : decode code 939 = .ok (.iconst 0, 1) := by decide +kernel
theorem dL_law_941 : decode code 941 = .ok (.iload 5, 2) := by decide +kernel
theorem dL_law_943 : decode code 943 = .ok (.ifCond .ne 15, 3) := by decide +kernel
theorem dL_law_946 : decode code 946 = .ok (.aload_n 3, 1) := by decide +kernel
theorem dL_law_947 : decode code 947 = .ok (.iconst 0, 1) := by decide +kernel
theorem dL_law_948 : decode code 948 = .ok (.laload, 1) := by decide +kernel
theorem dL_law_949 : decode code 949 = .ok (.iload 6, 2) := by decide +kernel
theorem dL_law_951 : decode code 951 = .ok (.i2l, 1) := by decide +kernel
theorem dL_law_952 : decode code 952 = .ok (.lcmp, 1) := by decide +kernel
theorem dL_law_953 : decode code 953 = .ok (.ifCond .eq 5, 3) := by decide +kernel
theorem dL_law_956 : decode code 956 = .ok (.iconst 0, 1) := by decide +kernel
theorem dL_law_958 : decode code 958 = .ok (.goto 815, 3) := by decide +kernel
theorem dL_law_961 : decode code 961 = .ok (.aload_n 1, 1) := by decide +kernel
theorem dL_law_962 : decode code 962 = .ok (.aload_n 0, 1) := by decide +kernel
theorem dL_law_963 : decode code 963 = .ok (.iload 4, 2) := by decide +kernel
theorem dL_law_965 : decode code 965 = .ok (.iconst 1, 1) := by decide +kernel
theorem dL_law_966 : decode code 966 = .ok (.iadd, 1) := by decide +kernel
theorem dL_law_967 : decode code 967 = .ok (.iaload, 1) := by decide +kernel
theorem dL_law_968 : decode code 968 = .ok (.aload_n 0, 1) := by decide +kernel
theorem dL_law_969 : decode code 969 = .ok (.iload 4, 2) := by decide +kernel
theorem dL_law_971 : decode code 971 = .ok (.iconst 2, 1) := by decide +kernel
theorem dL_law_972 : decode code 972 = .ok (.iadd, 1) := by decide +kernel
theorem dL_law_973 : decode code 973 = .ok (.iaload, 1) := by decide +kernel
theorem dL_law_974 : decode code 974 = .ok (.aload_n 3, 1) := by decide +kernel
theorem dL_law_975 : decode code 975 = .ok (.invokestatic 173, 3) := by decide +kernel
theorem dL_law_978 : decode code 978 = .ok (.istore 5, 2) := by decide +kernel
theorem dL_law_980 : decode code 980 = .ok (.aload_n 2, 1) := by decide +kernel
theorem dL_law_981 : decode code 981 = .ok (.aload_n 0, 1) := by decide +kernel
theorem dL_law_982 : decode code 982 = .ok (.iload 4, 2) := by decide +kernel
theorem dL_law_984 : decode code 984 = .ok (.iconst 1, 1) := by decide +kernel
theorem dL_law_985 : decode code 985 = .ok (.iadd, 1) := by decide +kernel
theorem dL_law_986 : decode code 986 = .ok (.iaload, 1) := by decide +kernel
theorem dL_law_987 : decode code 987 = .ok (.aload_n 0, 1) := by decide +kernel
theorem dL_law_988 : decode code 988 = .ok (.iload 4, 2) := by decide +kernel
theorem dL_law_990 : decode code 990 = .ok (.iconst 2, 1) := by decide +kernel
theorem dL_law_991 : decode code 991 = .ok (.iadd, 1) := by decide +kernel
theorem dL_law_992 : decode code 992 = .ok (.iaload, 1) := by decide +kernel
theorem dL_law_993 : decode code 993 = .ok (.invokevirtual 175, 3) := by decide +kernel
theorem dL_law_996 : decode code 996 = .ok (.istore 6, 2) := by decide +kernel
theorem dL_law_998 : decode code 998 = .ok (.aload_n 2, 1) := by decide +kernel
theorem dL_law_999 : decode code 999 = .ok (.invokevirtual 108, 3) := by decide +kernel
theorem dL_law_1002 : decode code 1002 = .ok (.iload 5, 2) := by decide +kernel
theorem dL_law_1004 : decode code 1004 = .ok (.if_icmp .eq 5, 3) := by decide +kernel
theorem dL_law_1007 : decode code 1007 = .ok (.iconst 0, 1) := by decide +kernel
theorem dL_law_1009 : decode code 1009 = .ok (.iload 5, 2) := by decide +kernel
theorem dL_law_1011 : decode code 1011 = .ok (.ifCond .ne 15, 3) := by decide +kernel
theorem dL_law_1014 : decode code 1014 = .ok (.aload_n 3, 1) := by decide +kernel
theorem dL_law_1015 : decode code 1015 = .ok (.iconst 0, 1) := by decide +kernel
theorem dL_law_1016 : decode code 1016 = .ok (.laload, 1) := by decide +kernel
theorem dL_law_1017 : decode code 1017 = .ok (.iload 6, 2) := by decide +kernel
theorem dL_law_1019 : decode code 1019 = .ok (.i2l, 1) := by decide +kernel
theorem dL_law_1020 : decode code 1020 = .ok (.lcmp, 1) := by decide +kernel
theorem dL_law_1021 : decode code 1021 = .ok (.ifCond .eq 5, 3) := by decide +kernel
theorem dL_law_1024 : decode code 1024 = .ok (.iconst 0, 1) := by decide +kernel
theorem dL_law_1026 : decode code 1026 = .ok (.goto 747, 3) := by decide +kernel
theorem dL_law_1029 : decode code 1029 = .ok (.aload_n 1, 1) := by decide +kernel
theorem dL_law_1030 : decode code 1030 = .ok (.aload_n 0, 1) := by decide +kernel
theorem dL_law_1031 : decode code 1031 = .ok (.iload 4, 2) := by decide +kernel
theorem dL_law_1033 : decode code 1033 = .ok (.iconst 1, 1) := by decide +kernel
theorem dL_law_1034 : decode code 1034 = .ok (.iadd, 1) := by decide +kernel
theorem dL_law_1035 : decode code 1035 = .ok (.iaload, 1) := by decide +kernel
theorem dL_law_1036 : decode code 1036 = .ok (.aload_n 0, 1) := by decide +kernel
theorem dL_law_1037 : decode code 1037 = .ok (.iload 4, 2) := by decide +kernel
theorem dL_law_1039 : decode code 1039 = .ok (.iconst 2, 1) := by decide +kernel
theorem dL_law_1040 : decode code 1040 = .ok (.iadd, 1) := by decide +kernel
theorem dL_law_1041 : decode code 1041 = .ok (.iaload, 1) := by decide +kernel
theorem dL_law_1042 : decode code 1042 = .ok (.aload_n 0, 1) := by decide +kernel
theorem dL_law_1043 : decode code 1043 = .ok (.iload 4, 2) := by decide +kernel
theorem dL_law_1045 : decode code 1045 = .ok (.iconst 3, 1) := by decide +kernel
theorem dL_law_1046 : decode code 1046 = .ok (.iadd, 1) := by decide +kernel
theorem dL_law_1047 : decode code 1047 = .ok (.iaload, 1) := by decide +kernel
theorem dL_law_1048 : decode code 1048 = .ok (.aload_n 3, 1) := by decide +kernel
theorem dL_law_1049 : decode code 1049 = .ok (.invokestatic 176, 3) := by decide +kernel
theorem dL_law_1052 : decode code 1052 = .ok (.istore 5, 2) := by decide +kernel
theorem dL_law_1054 : decode code 1054 = .ok (.aload_n 2, 1) := by decide +kernel
theorem dL_law_1055 : decode code 1055 = .ok (.aload_n 0, 1) := by decide +kernel
theorem dL_law_1056 : decode code 1056 = .ok (.iload 4, 2) := by decide +kernel
theorem dL_law_1058 : decode code 1058 = .ok (.iconst 1, 1) := by decide +kernel
theorem dL_law_1059 : decode code 1059 = .ok (.iadd, 1) := by decide +kernel
theorem dL_law_1060 : decode code 1060 = .ok (.iaload, 1) := by decide +kernel
theorem dL_law_1061 : decode code 1061 = .ok (.aload_n 0, 1) := by decide +kernel
theorem dL_law_1062 : decode code 1062 = .ok (.iload 4, 2) := by decide +kernel
theorem dL_law_1064 : decode code 1064 = .ok (.iconst 2, 1) := by decide +kernel
theorem dL_law_1065 : decode code 1065 = .ok (.iadd, 1) := by decide +kernel
theorem dL_law_1066 : decode code 1066 = .ok (.iaload, 1) := by decide +kernel
theorem dL_law_1067 : decode code 1067 = .ok (.aload_n 0, 1) := by decide +kernel
theorem dL_law_1068 : decode code 1068 = .ok (.iload 4, 2) := by decide +kernel
theorem dL_law_1070 : decode code 1070 = .ok (.iconst 3, 1) := by decide +kernel
theorem dL_law_1071 : decode code 1071 = .ok (.iadd, 1) := by decide +kernel
theorem dL_law_1072 : decode code 1072 = .ok (.iaload, 1) := by decide +kernel
theorem dL_law_1073 : decode code 1073 = .ok (.invokevirtual 179, 3) := by decide +kernel
theorem dL_law_1076 : decode code 1076 = .ok (.istore 6, 2) := by decide +kernel
theorem dL_law_1078 : decode code 1078 = .ok (.aload_n 2, 1) := by decide +kernel
theorem dL_law_1079 : decode code 1079 = .ok (.invokevirtual 108, 3) := by decide +kernel
theorem dL_law_1082 : decode code 1082 = .ok (.iload 5, 2) := by decide +kernel
theorem dL_law_1084 : decode code 1084 = .ok (.if_icmp .eq 5, 3) := by decide +kernel
theorem dL_law_1087 : decode code 1087 = .ok (.iconst 0, 1) := by decide +kernel
theorem dL_law_1089 : decode code 1089 = .ok (.iload 5, 2) := by decide +kernel
theorem dL_law_1091 : decode code 1091 = .ok (.ifCond .ne 15, 3) := by decide +kernel
theorem dL_law_1094 : decode code 1094 = .ok (.aload_n 3, 1) := by decide +kernel
theorem dL_law_1095 : decode code 1095 = .ok (.iconst 0, 1) := by decide +kernel
theorem dL_law_1096 : decode code 1096 = .ok (.laload, 1) := by decide +kernel
theorem dL_law_1097 : decode code 1097 = .ok (.iload 6, 2) := by decide +kernel
theorem dL_law_1099 : decode code 1099 = .ok (.i2l, 1) := by decide +kernel
theorem dL_law_1100 : decode code 1100 = .ok (.lcmp, 1) := by decide +kernel
theorem dL_law_1101 : decode code 1101 = .ok (.ifCond .eq 5, 3) := by decide +kernel
theorem dL_law_1104 : decode code 1104 = .ok (.iconst 0, 1) := by decide +kernel
theorem dL_law_1106 : decode code 1106 = .ok (.goto 667, 3) := by decide +kernel
theorem dL_law_1109 : decode code 1109 = .ok (.aload_n 1, 1) := by decide +kernel
theorem dL_law_1110 : decode code 1110 = .ok (.aload_n 0, 1) := by decide +kernel
theorem dL_law_1111 : decode code 1111 = .ok (.iload 4, 2) := by decide +kernel
theorem dL_law_1113 : decode code 1113 = .ok (.iconst 1, 1) := by decide +kernel
theorem dL_law_1114 : decode code 1114 = .ok (.iadd, 1) := by decide +kernel
theorem dL_law_1115 : decode code 1115 = .ok (.iaload, 1) := by decide +kernel
theorem dL_law_1116 : decode code 1116 = .ok (.aload_n 3, 1) := by decide +kernel
theorem dL_law_1117 : decode code 1117 = .ok (.invokestatic 180, 3) := by decide +kernel
theorem dL_law_1120 : decode code 1120 = .ok (.istore 5, 2) := by decide +kernel
theorem dL_law_1122 : decode code 1122 = .ok (.aload_n 2, 1) := by decide +kernel
theorem dL_law_1123 : decode code 1123 = .ok (.aload_n 0, 1) := by decide +kernel
theorem dL_law_1124 : decode code 1124 = .ok (.iload 4, 2) := by decide +kernel
theorem dL_law_1126 : decode code 1126 = .ok (.iconst 1, 1) := by decide +kernel
theorem dL_law_1127 : decode code 1127 = .ok (.iadd, 1) := by decide +kernel
theorem dL_law_1128 : decode code 1128 = .ok (.iaload, 1) := by decide +kernel
theorem dL_law_1129 : decode code 1129 = .ok (.invokevirtual 182, 3) := by decide +kernel
theorem dL_law_1132 : decode code 1132 = .ok (.istore 6, 2) := by decide +kernel
theorem dL_law_1134 : decode code 1134 = .ok (.aload_n 2, 1) := by decide +kernel
theorem dL_law_1135 : decode code 1135 = .ok (.invokevirtual 108, 3) := by decide +kernel
theorem dL_law_1138 : decode code 1138 = .ok (.iload 5, 2) := by decide +kernel
theorem dL_law_1140 : decode code 1140 = .ok (.if_icmp .eq 5, 3) := by decide +kernel
theorem dL_law_1143 : decode code 1143 = .ok (.iconst 0, 1) := by decide +kernel
theorem dL_law_1145 : decode code 1145 = .ok (.iload 5, 2) := by decide +kernel
theorem dL_law_1147 : decode code 1147 = .ok (.ifCond .ne 15, 3) := by decide +kernel
theorem dL_law_1150 : decode code 1150 = .ok (.aload_n 3, 1) := by decide +kernel
theorem dL_law_1151 : decode code 1151 = .ok (.iconst 0, 1) := by decide +kernel
theorem dL_law_1152 : decode code 1152 = .ok (.laload, 1) := by decide +kernel
theorem dL_law_1153 : decode code 1153 = .ok (.iload 6, 2) := by decide +kernel
theorem dL_law_1155 : decode code 1155 = .ok (.i2l, 1) := by decide +kernel
theorem dL_law_1156 : decode code 1156 = .ok (.lcmp, 1) := by decide +kernel
theorem dL_law_1157 : decode code 1157 = .ok (.ifCond .eq 5, 3) := by decide +kernel
theorem dL_law_1160 : decode code 1160 = .ok (.iconst 0, 1) := by decide +kernel
theorem dL_law_1162 : decode code 1162 = .ok (.goto 611, 3) := by decide +kernel
theorem dL_law_1165 : decode code 1165 = .ok (.aload_n 1, 1) := by decide +kernel
theorem dL_law_1166 : decode code 1166 = .ok (.invokevirtual 183, 3) := by decide +kernel
theorem dL_law_1169 : decode code 1169 = .ok (.aload_n 2, 1) := by decide +kernel
theorem dL_law_1170 : decode code 1170 = .ok (.invokevirtual 187, 3) := by decide +kernel
theorem dL_law_1173 : decode code 1173 = .ok (.lcmp, 1) := by decide +kernel
theorem dL_law_1174 : decode code 1174 = .ok (.ifCond .eq 599, 3) := by decide +kernel
theorem dL_law_1177 : decode code 1177 = .ok (.iconst 0, 1) := by decide +kernel
def wp_law_c11 (zd : Nat) (xs : Nat → Int32) (L xo oo : Nat) (y4 : Int32) (f : FT) (n : Nat → Int32) (g : Nat → Nat → Int32) (bc bs : Nat) (C : Int32 × FT × (Nat → Int32) × (Nat → Nat → Int32) × Nat × Nat → Prop) : Prop :=
  isO f xo 11 ∧ wp_X8_rank xo f (fun r_1 => wp_X9_rank  n g (fun r_2 n_3 g_4 => ((r_1 = r_2 → C (y4, f, n_3, g_4, bc, bs)) ∧
 (¬ (r_1 = r_2) → False))))
set_option maxHeartbeats 4000000 in
set_option maxRecDepth 100000 in
theorem law_c11 {p : Program} {l : Launch} {e : Env} {s : State} {m : MethodId} {below : List Frame} {meth : Method} {c : Code} {b L : Nat} {xs : Nat → Int32} (hlt : l.stackTraces = false) (C0 : lw_At p s m meth c b L xs) {G : GG} (hK : FK G s) (hZ : FZ G (fun q : Nat => s.heap.size ≤ q) s s.heap) (hX : FX9 G (fun q : Nat => s.heap.size ≤ q) s s.heap) (hXN : FXN s) {zd : Nat} (hzd : G.2.2 0 = zd) {xo mo oo : Nat} {ad : Nat → Nat} (had : MAd mo ad) {C : Int32 × FT × (Nat → Int32) × (Nat → Nat → Int32) × Nat × Nat → Prop} : ∀ (y4 : Int32) (f : FT) (n : Nat → Int32) (g : Nat → Nat → Int32) (bc bs : Nat) (H : Heap) (locs : List Loc) (ls : Array Slot) (cs sl : Nat), (∀ (y4 : Int32) (f : FT) (n : Nat → Int32) (g : Nat → Nat → Int32) (bc bs : Nat) (H : Heap) (locs : List Loc) (ls : Array Slot) (cs sl : Nat), C (y4, f, n, g, bc, bs) → cs + bc ≤ 601024 → sl + bs ≤ 7293034 → Fw G (fun q : Nat => s.heap.size ≤ q) f H → Fw G (fun q : Nat => s.heap.size ≤ q) (mf mo ad n g) H → dj f (mf mo ad n g) → va_S (fun q : Nat => s.heap.size ≤ q) s.heap H locs → lv_has ls 7 [(0, .ref b), (1, .ref xo), (2, .ref mo), (3, .ref oo), (4, .int y4)] → W p l e room_1 s m #[Value.ref b] below meth c H locs cs sl (lw_Z below #[Value.ref b] s) (F0 m 1773 ls [])) → wp_law_c11 zd xs L xo oo y4 f n g bc bs C → cs + bc ≤ 601024 → sl + bs ≤ 7293034 → Fw G (fun q : Nat => s.heap.size ≤ q) f H → Fw G (fun q : Nat => s.heap.size ≤ q) (mf mo ad n g) H → dj f (mf mo ad n g) → va_S (fun q : Nat => s.heap.size ≤ q) s.heap H locs → lv_has ls 7 [(0, .ref b), (1, .ref xo), (2, .ref mo), (3, .ref oo), (4, .int y4)] → W p l e room_1 s m #[Value.ref b] below meth c H locs cs sl (lw_Z below #[Value.ref b] s) (F0 m 698 ls []) := by
  obtain ⟨hx, hb, hr, hml, hown, hts0, hXs, hbl, hlocks, hgv⟩ := id C0
  have hts : ∀ w ∈ wsL_law, w.before #[Value.ref b] s = true := fun w h => hts0 w (wsL_law_in w h)
  have hA : ∀ q : Nat, s.heap.size ≤ q → (fun q : Nat => s.heap.size ≤ q) q := fun _ h => h
  have hbA : ¬ (fun q : Nat => s.heap.size ≤ q) b := Nat.not_le.mpr hbl
  intro y4 f n g bc bs H locs ls cs sl hC h hbc hbs hF hF2 hd hS hl
  unfold wp_law_c11 at h
  refine lv_aload_n hx hb dL_law_698 rfl (lv_at hl 1 rfl) ?_
  obtain ⟨⟨fs_r_1, hrc_r_1⟩, h⟩ := h
  refine fl_cV_i (As := []) (rest := []) ⟨hx, hb, hml, hown, hts⟩ (cc_X8_rank l G h) (⟨callB_of 0 hts ggL_law_X8_rank rfl rfl rfl (hts0 (.initialized RX8) (List.mem_of_getElem? (i := 59) (by decide +kernel))) (hts0 (.methodLink RL 148 yX8_rank) (List.mem_of_getElem? (i := 561) (by decide +kernel))) (by decide +kernel) ⟨Nat.le_of_ble_eq_true rfl, Nat.le_of_ble_eq_true rfl⟩, (hts0 (.instanceMethod yX8_rank) (List.mem_of_getElem? (i := 562) (by decide +kernel))), (hts0 (.selects RX8 yX8_rank yX8_rank) (List.mem_of_getElem? (i := 563) (by decide +kernel)))⟩) rfl hrc_r_1 hK hZ hF hF2 hd hS hA rfl hl.1 rfl (Nat.le_of_ble_eq_true rfl) dL_law_699 ⟨by show _ + 0 ≤ 601024; omega, by show _ + 0 ≤ 7293034; omega⟩ (fun r_1 f9 H locs h hF hF2 hd hS => ?_)
  obtain ⟨h, e9⟩ := h; rw [e9] at hF hd; clear e9
  simp only [Nat.add_zero]
  refine lv_aload_n hx hb dL_law_702 rfl (lv_at hl 2 rfl) ?_
  refine fl_cV_i (As := []) (rest := [.int r_1]) ⟨hx, hb, hml, hown, hts⟩ (cc_X9_rank l G had h) (⟨callB_of 0 hts ggL_law_X9_rank rfl rfl rfl (hts0 (.initialized RX9) (List.mem_of_getElem? (i := 77) (by decide +kernel))) (hts0 (.methodLink RL 151 yX9_rank) (List.mem_of_getElem? (i := 1634) (by decide +kernel))) (by decide +kernel) ⟨Nat.le_of_ble_eq_true rfl, Nat.le_of_ble_eq_true rfl⟩, (hts0 (.instanceMethod yX9_rank) (List.mem_of_getElem? (i := 1635) (by decide +kernel))), (hts0 (.selects RX9 yX9_rank yX9_rank) (List.mem_of_getElem? (i := 1636) (by decide +kernel)))⟩) rfl mf_obj hK hZ hF2 hF hd.symm hS hA rfl hl.1 rfl (Nat.le_of_ble_eq_true rfl) dL_law_703 ⟨by show _ + 0 ≤ 601024; omega, by show _ + 0 ≤ 7293034; omega⟩ (fun r_2 f9 H locs h hF2 hF hd hS => ?_)
  have hd := hd.symm
  obtain ⟨n_3, g_4, rfl, h⟩ := h
  simp only [Nat.add_zero]
  obtain ⟨h1, h2⟩ := h
  refine lv_icmp_eq (tgt := 1773) hx hb dL_law_706 (by decide) (fun c_5 => ?_) (fun c_5 => ?_)
  · have h := h1 c_5
    exact hC y4 f n_3 g_4 bc bs _ _ _ _ _ h hbc hbs hF hF2 hd hS (lv_sub hl [0, 1, 2, 3, 4] rfl)
  · have h := h2 c_5
    refine lv_iconst (v := (0 : Int32)) hx hb dL_law_709 (by decide) ?_
    exact h.elim
def wp_law_c12 (zd : Nat) (xs : Nat → Int32) (L xo oo : Nat) (y4 : Int32) (f : FT) (n : Nat → Int32) (g : Nat → Nat → Int32) (bc bs : Nat) (C : Int32 × FT × (Nat → Int32) × (Nat → Nat → Int32) × Nat × Nat → Prop) : Prop :=
  vp_in (y4 + (1 : Int32)) L ∧ ∀ v_1 : Int32, v_1 = xs ((y4 + (1 : Int32))).toNatClampNeg → ∃ ga_4 gb_5 : Nat, ga_4 ≤ bc ∧ gb_5 ≤ bs ∧ wp_L_select xo v_1 oo f ga_4 gb_5 (fun r_3 f_6 => vp_in (y4 + (1 : Int32)) L ∧ ∀ v_9 : Int32, v_9 = xs ((y4 + (1 : Int32))).toNatClampNeg → wp_X9_select v_9 n g (fun r_11 n_12 g_13 => wp_X9_thrown  n_12 g_13 (fun r_14 => ((r_14 = r_3 → ((¬ r_3 = (0 : Int32) → C (y4, f_6, n_12, g_13, (bc - ga_4), (bs - gb_5))) ∧
 (r_3 = (0 : Int32) → aJ f_6 oo (0 : Int32) fun v_17 => (((lg_cmp v_17 (Int32.toInt64 r_11)) = (0 : Int32) → C (y4, f_6, n_12, g_13, (bc - ga_4), (bs - gb_5))) ∧
 (¬ ((lg_cmp v_17 (Int32.toInt64 r_11)) = (0 : Int32)) → False))))) ∧
 (¬ (r_14 = r_3) → False)))))
set_option maxHeartbeats 4000000 in
set_option maxRecDepth 100000 in
theorem law_c12 {p : Program} {l : Launch} {e : Env} {s : State} {m : MethodId} {below : List Frame} {meth : Method} {c : Code} {b L : Nat} {xs : Nat → Int32} (hlt : l.stackTraces = false) (C0 : lw_At p s m meth c b L xs) {G : GG} (hK : FK G s) (hZ : FZ G (fun q : Nat => s.heap.size ≤ q) s s.heap) (hX : FX9 G (fun q : Nat => s.heap.size ≤ q) s s.heap) (hXN : FXN s) {zd : Nat} (hzd : G.2.2 0 = zd) {xo mo oo : Nat} {ad : Nat → Nat} (had : MAd mo ad) {C : Int32 × FT × (Nat → Int32) × (Nat → Nat → Int32) × Nat × Nat → Prop} : ∀ (y4 : Int32) (f : FT) (n : Nat → Int32) (g : Nat → Nat → Int32) (bc bs : Nat) (H : Heap) (locs : List Loc) (ls : Array Slot) (cs sl : Nat), (∀ (y4 : Int32) (f : FT) (n : Nat → Int32) (g : Nat → Nat → Int32) (bc bs : Nat) (H : Heap) (locs : List Loc) (ls : Array Slot) (cs sl : Nat), C (y4, f, n, g, bc, bs) → cs + bc ≤ 601024 → sl + bs ≤ 7293034 → Fw G (fun q : Nat => s.heap.size ≤ q) f H → Fw G (fun q : Nat => s.heap.size ≤ q) (mf mo ad n g) H → dj f (mf mo ad n g) → va_S (fun q : Nat => s.heap.size ≤ q) s.heap H locs → lv_has ls 7 [(0, .ref b), (1, .ref xo), (2, .ref mo), (3, .ref oo), (4, .int y4)] → W p l e room_1 s m #[Value.ref b] below meth c H locs cs sl (lw_Z below #[Value.ref b] s) (F0 m 1773 ls [])) → wp_law_c12 zd xs L xo oo y4 f n g bc bs C → cs + bc ≤ 601024 → sl + bs ≤ 7293034 → Fw G (fun q : Nat => s.heap.size ≤ q) f H → Fw G (fun q : Nat => s.heap.size ≤ q) (mf mo ad n g) H → dj f (mf mo ad n g) → va_S (fun q : Nat => s.heap.size ≤ q) s.heap H locs → lv_has ls 7 [(0, .ref b), (1, .ref xo), (2, .ref mo), (3, .ref oo), (4, .int y4)] → W p l e room_1 s m #[Value.ref b] below meth c H locs cs sl (lw_Z below #[Value.ref b] s) (F0 m 711 ls []) := by
  obtain ⟨hx, hb, hr, hml, hown, hts0, hXs, hbl, hlocks, hgv⟩ := id C0
  have hts : ∀ w ∈ wsL_law, w.before #[Value.ref b] s = true := fun w h => hts0 w (wsL_law_in w h)
  have hA : ∀ q : Nat, s.heap.size ≤ q → (fun q : Nat => s.heap.size ≤ q) q := fun _ h => h
  have hbA : ¬ (fun q : Nat => s.heap.size ≤ q) b := Nat.not_le.mpr hbl
  intro y4 f n g bc bs H locs ls cs sl hC h hbc hbs hF hF2 hd hS hl
  unfold wp_law_c12 at h
  refine lv_aload_n hx hb dL_law_711 rfl (lv_at hl 1 rfl) ?_
  refine lv_aload_n hx hb dL_law_712 rfl (lv_at hl 0 rfl) ?_
  refine lv_iload hx hb dL_law_713 (lv_at hl 4 rfl) ?_
  refine lv_iconst (v := (1 : Int32)) hx hb dL_law_715 (by decide) ?_
  refine lv_iadd hx hb dL_law_716 ?_
  obtain ⟨hi_i_2, h⟩ := h
  refine va_sld hx hb hXs hbl hbA hS hi_i_2 dL_law_717 ?_
  refine lv_topi (fun v_1 e_v_1 => ?_)
  have h := h v_1 e_v_1
  refine lv_aload_n hx hb dL_law_718 rfl (lv_at hl 3 rfl) ?_
  obtain ⟨ga_4, gb_5, hga_ga_4, hgb_ga_4, h⟩ := h
  refine fl_cSX_i (As := [.ref xo, .int v_1, .ref oo]) (rest := []) ⟨hx, hb, hml, hown, hts⟩ (cc_L_select l G hlt h) (cwSX 3 hts ggL_law_L_select rfl rfl rfl (hts0 (.initialized RL) (List.mem_of_getElem? (i := 58) (by decide +kernel))) (hts0 (.methodLink RL 152 yL_select) (List.mem_of_getElem? (i := 1139) (by decide +kernel))) (hts0 (.static yL_select) (List.mem_of_getElem? (i := 1140) (by decide +kernel))) (by decide +kernel) ⟨Nat.le_of_ble_eq_true rfl, Nat.le_of_ble_eq_true rfl⟩) hK hZ hX hXN hF hF2 hd hS hA rfl hl.1 rfl (Nat.le_of_ble_eq_true rfl) dL_law_719 ⟨by show _ ≤ 601024; omega, by show _ ≤ 7293034; omega⟩ (fun r_3 f_6 H locs h hF hF2 hd hS => ?_)
  obtain ⟨cs_7, hcs⟩ : ∃ z, z = (cs + ga_4) := ⟨_, rfl⟩; obtain ⟨sl_8, hsl⟩ : ∃ z, z = (sl + gb_5) := ⟨_, rfl⟩
  have hbc : cs_7 + (bc - ga_4) ≤ 601024 := by omega
  have hbs : sl_8 + (bs - gb_5) ≤ 7293034 := by omega
  refine W.widen (k := cs_7) (n := sl_8) (by omega) (by omega) ?_
  clear hcs hsl
  refine lv_istore (lv' := [(5, .int r_3), (0, .ref b), (1, .ref xo), (2, .ref mo), (3, .ref oo), (4, .int y4)]) hx hb dL_law_722 hl (by decide) rfl (fun ls hl => ?_)
  refine lv_aload_n hx hb dL_law_724 rfl (lv_at hl 3 rfl) ?_
  refine lv_aload_n hx hb dL_law_725 rfl (lv_at hl 1 rfl) ?_
  refine lv_iload hx hb dL_law_726 (lv_at hl 5 rfl) ?_
  refine lv_iconst (v := (1 : Int32)) hx hb dL_law_728 (by decide) ?_
  refine lv_iadd hx hb dL_law_729 ?_
  obtain ⟨hi_i_10, h⟩ := h
  refine va_sld hx hb hXs hbl hbA hS hi_i_10 dL_law_730 ?_
  refine lv_topi (fun v_9 e_v_9 => ?_)
  have h := h v_9 e_v_9
  refine fl_cV_i (As := [.int v_9]) (rest := []) ⟨hx, hb, hml, hown, hts⟩ (cc_X9_select l G had h) (⟨callB_of 1 hts ggL_law_X9_select rfl rfl rfl (hts0 (.initialized RX9) (List.mem_of_getElem? (i := 77) (by decide +kernel))) (hts0 (.methodLink RL 154 yX9_select) (List.mem_of_getElem? (i := 1638) (by decide +kernel))) (by decide +kernel) ⟨Nat.le_of_ble_eq_true rfl, Nat.le_of_ble_eq_true rfl⟩, (hts0 (.instanceMethod yX9_select) (List.mem_of_getElem? (i := 1639) (by decide +kernel))), (hts0 (.selects RX9 yX9_select yX9_select) (List.mem_of_getElem? (i := 1640) (by decide +kernel)))⟩) rfl mf_obj hK hZ hF2 hF hd.symm hS hA rfl hl.1 rfl (Nat.le_of_ble_eq_true rfl) dL_law_731 ⟨by show _ + 0 ≤ 601024; omega, by show _ + 0 ≤ 7293034; omega⟩ (fun r_11 f9 H locs h hF2 hF hd hS => ?_)
  have hd := hd.symm
  obtain ⟨n_12, g_13, rfl, h⟩ := h
  simp only [Nat.add_zero]
  refine lv_istore (lv' := [(6, .int r_11), (5, .int r_3), (0, .ref b), (1, .ref xo), (2, .ref mo), (3, .ref oo), (4, .int y4)]) hx hb dL_law_734 hl (by decide) rfl (fun ls hl => ?_)
  refine lv_aload_n hx hb dL_law_736 rfl (lv_at hl 4 rfl) ?_
  refine fl_cV_i (As := []) (rest := []) ⟨hx, hb, hml, hown, hts⟩ (cc_X9_thrown l G had h) (⟨callB_of 0 hts ggL_law_X9_thrown rfl rfl rfl (hts0 (.initialized RX9) (List.mem_of_getElem? (i := 77) (by decide +kernel))) (hts0 (.methodLink RL 108 yX9_thrown) (List.mem_of_getElem? (i := 1465) (by decide +kernel))) (by decide +kernel) ⟨Nat.le_of_ble_eq_true rfl, Nat.le_of_ble_eq_true rfl⟩, (hts0 (.instanceMethod yX9_thrown) (List.mem_of_getElem? (i := 1466) (by decide +kernel))), (hts0 (.selects RX9 yX9_thrown yX9_thrown) (List.mem_of_getElem? (i := 1467) (by decide +kernel)))⟩) rfl mf_obj hK hZ hF2 hF hd.symm hS hA rfl hl.1 rfl (Nat.le_of_ble_eq_true rfl) dL_law_737 ⟨by show _ + 0 ≤ 601024; omega, by show _ + 0 ≤ 7293034; omega⟩ (fun r_14 f9 H locs h hF2 hF hd hS => ?_)
  have hd := hd.symm
  obtain ⟨h, e9⟩ := h; rw [e9] at hF2 hd; clear e9
  simp only [Nat.add_zero]
  refine lv_iload hx hb dL_law_740 (lv_at hl 1 rfl) ?_
  obtain ⟨h1, h2⟩ := h
  refine lv_icmp_eq (tgt := 747) hx hb dL_law_742 (by decide) (fun c_15 => ?_) (fun c_15 => ?_)
  · have h := h1 c_15
    refine lv_iload hx hb dL_law_747 (lv_at hl 1 rfl) ?_
    obtain ⟨h1, h2⟩ := h
    refine lv_if_ne (tgt := 764) hx hb dL_law_749 (by decide) (fun c_16 => ?_) (fun c_16 => ?_)
    · have h := h1 c_16
      refine lv_goto (tgt := 1773) hx hb dL_law_764 (by decide) ?_
      exact hC y4 f_6 n_12 g_13 (bc - ga_4) (bs - gb_5) _ _ _ _ _ h hbc hbs hF hF2 hd hS (lv_sub hl [2, 3, 4, 5, 6] rfl)
    · have h := h2 c_16
      refine lv_aload_n hx hb dL_law_752 rfl (lv_at hl 5 rfl) ?_
      refine lv_iconst (v := (0 : Int32)) hx hb dL_law_753 (by decide) ?_
      obtain ⟨n_q_18, q_18, he_q_18, hi_q_18, h⟩ := h
      refine fw_lald hx hb hK hF he_q_18 hi_q_18 dL_law_754 ?_
      refine lv_topl (fun v_17 e_v_17 => ?_)
      have h := h v_17 e_v_17
      refine lv_iload hx hb dL_law_755 (lv_at hl 0 rfl) ?_
      refine lv_i2l (v := (Int32.toInt64 r_11)) hx hb dL_law_757 rfl ?_
      refine W.lcmp hx hb dL_law_758 ?_
      obtain ⟨h1, h2⟩ := h
      refine lv_if_eq (tgt := 764) hx hb dL_law_759 (by decide) (fun c_20 => ?_) (fun c_20 => ?_)
      · have h := h1 c_20
        refine lv_goto (tgt := 1773) hx hb dL_law_764 (by decide) ?_
        exact hC y4 f_6 n_12 g_13 (bc - ga_4) (bs - gb_5) _ _ _ _ _ h hbc hbs hF hF2 hd hS (lv_sub hl [2, 3, 4, 5, 6] rfl)
      · have h := h2 c_20
        refine lv_iconst (v := (0 : Int32)) hx hb dL_law_762 (by decide) ?_
        exact h.elim
  · have h := h2 c_15
    refine lv_iconst (v := (0 : Int32)) hx hb dL_law_745 (by decide) ?_
    exact h.elim
def wp_law_c13 (zd : Nat) (xs : Nat → Int32) (L xo oo : Nat) (y4 : Int32) (f : FT) (n : Nat → Int32) (g : Nat → Nat → Int32) (bc bs : Nat) (C : Int32 × FT × (Nat → Int32) × (Nat → Nat → Int32) × Nat × Nat → Prop) : Prop :=
  ∃ ga_2 gb_3 : Nat, ga_2 ≤ bc ∧ gb_3 ≤ bs ∧ wp_L_floor xo oo f ga_2 gb_3 (fun r_1 f_4 => wp_X9_floor  n g (fun r_7 n_8 g_9 => wp_X9_thrown  n_8 g_9 (fun r_10 => ((r_10 = r_1 → ((¬ r_1 = (0 : Int32) → C (y4, f_4, n_8, g_9, (bc - ga_2), (bs - gb_3))) ∧
 (r_1 = (0 : Int32) → aJ f_4 oo (0 : Int32) fun v_13 => (((lg_cmp v_13 (Int32.toInt64 r_7)) = (0 : Int32) → C (y4, f_4, n_8, g_9, (bc - ga_2), (bs - gb_3))) ∧
 (¬ ((lg_cmp v_13 (Int32.toInt64 r_7)) = (0 : Int32)) → False))))) ∧
 (¬ (r_10 = r_1) → False)))))
set_option maxHeartbeats 4000000 in
set_option maxRecDepth 100000 in
theorem law_c13 {p : Program} {l : Launch} {e : Env} {s : State} {m : MethodId} {below : List Frame} {meth : Method} {c : Code} {b L : Nat} {xs : Nat → Int32} (hlt : l.stackTraces = false) (C0 : lw_At p s m meth c b L xs) {G : GG} (hK : FK G s) (hZ : FZ G (fun q : Nat => s.heap.size ≤ q) s s.heap) (hX : FX9 G (fun q : Nat => s.heap.size ≤ q) s s.heap) (hXN : FXN s) {zd : Nat} (hzd : G.2.2 0 = zd) {xo mo oo : Nat} {ad : Nat → Nat} (had : MAd mo ad) {C : Int32 × FT × (Nat → Int32) × (Nat → Nat → Int32) × Nat × Nat → Prop} : ∀ (y4 : Int32) (f : FT) (n : Nat → Int32) (g : Nat → Nat → Int32) (bc bs : Nat) (H : Heap) (locs : List Loc) (ls : Array Slot) (cs sl : Nat), (∀ (y4 : Int32) (f : FT) (n : Nat → Int32) (g : Nat → Nat → Int32) (bc bs : Nat) (H : Heap) (locs : List Loc) (ls : Array Slot) (cs sl : Nat), C (y4, f, n, g, bc, bs) → cs + bc ≤ 601024 → sl + bs ≤ 7293034 → Fw G (fun q : Nat => s.heap.size ≤ q) f H → Fw G (fun q : Nat => s.heap.size ≤ q) (mf mo ad n g) H → dj f (mf mo ad n g) → va_S (fun q : Nat => s.heap.size ≤ q) s.heap H locs → lv_has ls 7 [(0, .ref b), (1, .ref xo), (2, .ref mo), (3, .ref oo), (4, .int y4)] → W p l e room_1 s m #[Value.ref b] below meth c H locs cs sl (lw_Z below #[Value.ref b] s) (F0 m 1773 ls [])) → wp_law_c13 zd xs L xo oo y4 f n g bc bs C → cs + bc ≤ 601024 → sl + bs ≤ 7293034 → Fw G (fun q : Nat => s.heap.size ≤ q) f H → Fw G (fun q : Nat => s.heap.size ≤ q) (mf mo ad n g) H → dj f (mf mo ad n g) → va_S (fun q : Nat => s.heap.size ≤ q) s.heap H locs → lv_has ls 7 [(0, .ref b), (1, .ref xo), (2, .ref mo), (3, .ref oo), (4, .int y4)] → W p l e room_1 s m #[Value.ref b] below meth c H locs cs sl (lw_Z below #[Value.ref b] s) (F0 m 767 ls []) := by
  obtain ⟨hx, hb, hr, hml, hown, hts0, hXs, hbl, hlocks, hgv⟩ := id C0
  have hts : ∀ w ∈ wsL_law, w.before #[Value.ref b] s = true := fun w h => hts0 w (wsL_law_in w h)
  have hA : ∀ q : Nat, s.heap.size ≤ q → (fun q : Nat => s.heap.size ≤ q) q := fun _ h => h
  have hbA : ¬ (fun q : Nat => s.heap.size ≤ q) b := Nat.not_le.mpr hbl
  intro y4 f n g bc bs H locs ls cs sl hC h hbc hbs hF hF2 hd hS hl
  unfold wp_law_c13 at h
  refine lv_aload_n hx hb dL_law_767 rfl (lv_at hl 1 rfl) ?_
  refine lv_aload_n hx hb dL_law_768 rfl (lv_at hl 3 rfl) ?_
  obtain ⟨ga_2, gb_3, hga_ga_2, hgb_ga_2, h⟩ := h
  refine fl_cSX_i (As := [.ref xo, .ref oo]) (rest := []) ⟨hx, hb, hml, hown, hts⟩ (cc_L_floor l G hlt h) (cwSX 2 hts ggL_law_L_floor rfl rfl rfl (hts0 (.initialized RL) (List.mem_of_getElem? (i := 58) (by decide +kernel))) (hts0 (.methodLink RL 155 yL_floor) (List.mem_of_getElem? (i := 1147) (by decide +kernel))) (hts0 (.static yL_floor) (List.mem_of_getElem? (i := 1148) (by decide +kernel))) (by decide +kernel) ⟨Nat.le_of_ble_eq_true rfl, Nat.le_of_ble_eq_true rfl⟩) hK hZ hX hXN hF hF2 hd hS hA rfl hl.1 rfl (Nat.le_of_ble_eq_true rfl) dL_law_769 ⟨by show _ ≤ 601024; omega, by show _ ≤ 7293034; omega⟩ (fun r_1 f_4 H locs h hF hF2 hd hS => ?_)
  obtain ⟨cs_5, hcs⟩ : ∃ z, z = (cs + ga_2) := ⟨_, rfl⟩; obtain ⟨sl_6, hsl⟩ : ∃ z, z = (sl + gb_3) := ⟨_, rfl⟩
  have hbc : cs_5 + (bc - ga_2) ≤ 601024 := by omega
  have hbs : sl_6 + (bs - gb_3) ≤ 7293034 := by omega
  refine W.widen (k := cs_5) (n := sl_6) (by omega) (by omega) ?_
  clear hcs hsl
  refine lv_istore (lv' := [(5, .int r_1), (0, .ref b), (1, .ref xo), (2, .ref mo), (3, .ref oo), (4, .int y4)]) hx hb dL_law_772 hl (by decide) rfl (fun ls hl => ?_)
  refine lv_aload_n hx hb dL_law_774 rfl (lv_at hl 3 rfl) ?_
  refine fl_cV_i (As := []) (rest := []) ⟨hx, hb, hml, hown, hts⟩ (cc_X9_floor l G had h) (⟨callB_of 0 hts ggL_law_X9_floor rfl rfl rfl (hts0 (.initialized RX9) (List.mem_of_getElem? (i := 77) (by decide +kernel))) (hts0 (.methodLink RL 157 yX9_floor) (List.mem_of_getElem? (i := 1646) (by decide +kernel))) (by decide +kernel) ⟨Nat.le_of_ble_eq_true rfl, Nat.le_of_ble_eq_true rfl⟩, (hts0 (.instanceMethod yX9_floor) (List.mem_of_getElem? (i := 1647) (by decide +kernel))), (hts0 (.selects RX9 yX9_floor yX9_floor) (List.mem_of_getElem? (i := 1648) (by decide +kernel)))⟩) rfl mf_obj hK hZ hF2 hF hd.symm hS hA rfl hl.1 rfl (Nat.le_of_ble_eq_true rfl) dL_law_775 ⟨by show _ + 0 ≤ 601024; omega, by show _ + 0 ≤ 7293034; omega⟩ (fun r_7 f9 H locs h hF2 hF hd hS => ?_)
  have hd := hd.symm
  obtain ⟨n_8, g_9, rfl, h⟩ := h
  simp only [Nat.add_zero]
  refine lv_istore (lv' := [(6, .int r_7), (5, .int r_1), (0, .ref b), (1, .ref xo), (2, .ref mo), (3, .ref oo), (4, .int y4)]) hx hb dL_law_778 hl (by decide) rfl (fun ls hl => ?_)
  refine lv_aload_n hx hb dL_law_780 rfl (lv_at hl 4 rfl) ?_
  refine fl_cV_i (As := []) (rest := []) ⟨hx, hb, hml, hown, hts⟩ (cc_X9_thrown l G had h) (⟨callB_of 0 hts ggL_law_X9_thrown rfl rfl rfl (hts0 (.initialized RX9) (List.mem_of_getElem? (i := 77) (by decide +kernel))) (hts0 (.methodLink RL 108 yX9_thrown) (List.mem_of_getElem? (i := 1465) (by decide +kernel))) (by decide +kernel) ⟨Nat.le_of_ble_eq_true rfl, Nat.le_of_ble_eq_true rfl⟩, (hts0 (.instanceMethod yX9_thrown) (List.mem_of_getElem? (i := 1466) (by decide +kernel))), (hts0 (.selects RX9 yX9_thrown yX9_thrown) (List.mem_of_getElem? (i := 1467) (by decide +kernel)))⟩) rfl mf_obj hK hZ hF2 hF hd.symm hS hA rfl hl.1 rfl (Nat.le_of_ble_eq_true rfl) dL_law_781 ⟨by show _ + 0 ≤ 601024; omega, by show _ + 0 ≤ 7293034; omega⟩ (fun r_10 f9 H locs h hF2 hF hd hS => ?_)
  have hd := hd.symm
  obtain ⟨h, e9⟩ := h; rw [e9] at hF2 hd; clear e9
  simp only [Nat.add_zero]
  refine lv_iload hx hb dL_law_784 (lv_at hl 1 rfl) ?_
  obtain ⟨h1, h2⟩ := h
  refine lv_icmp_eq (tgt := 791) hx hb dL_law_786 (by decide) (fun c_11 => ?_) (fun c_11 => ?_)
  · have h := h1 c_11
    refine lv_iload hx hb dL_law_791 (lv_at hl 1 rfl) ?_
    obtain ⟨h1, h2⟩ := h
    refine lv_if_ne (tgt := 808) hx hb dL_law_793 (by decide) (fun c_12 => ?_) (fun c_12 => ?_)
    · have h := h1 c_12
      refine lv_goto (tgt := 1773) hx hb dL_law_808 (by decide) ?_
      exact hC y4 f_4 n_8 g_9 (bc - ga_2) (bs - gb_3) _ _ _ _ _ h hbc hbs hF hF2 hd hS (lv_sub hl [2, 3, 4, 5, 6] rfl)
    · have h := h2 c_12
      refine lv_aload_n hx hb dL_law_796 rfl (lv_at hl 5 rfl) ?_
      refine lv_iconst (v := (0 : Int32)) hx hb dL_law_797 (by decide) ?_
      obtain ⟨n_q_14, q_14, he_q_14, hi_q_14, h⟩ := h
      refine fw_lald hx hb hK hF he_q_14 hi_q_14 dL_law_798 ?_
      refine lv_topl (fun v_13 e_v_13 => ?_)
      have h := h v_13 e_v_13
      refine lv_iload hx hb dL_law_799 (lv_at hl 0 rfl) ?_
      refine lv_i2l (v := (Int32.toInt64 r_7)) hx hb dL_law_801 rfl ?_
      refine W.lcmp hx hb dL_law_802 ?_
      obtain ⟨h1, h2⟩ := h
      refine lv_if_eq (tgt := 808) hx hb dL_law_803 (by decide) (fun c_16 => ?_) (fun c_16 => ?_)
      · have h := h1 c_16
        refine lv_goto (tgt := 1773) hx hb dL_law_808 (by decide) ?_
        exact hC y4 f_4 n_8 g_9 (bc - ga_2) (bs - gb_3) _ _ _ _ _ h hbc hbs hF hF2 hd hS (lv_sub hl [2, 3, 4, 5, 6] rfl)
      · have h := h2 c_16
        refine lv_iconst (v := (0 : Int32)) hx hb dL_law_806 (by decide) ?_
        exact h.elim
  · have h := h2 c_11
    refine lv_iconst (v := (0 : Int32)) hx hb dL_law_789 (by decide) ?_
    exact h.elim
def wp_law_c14 (zd : Nat) (xs : Nat → Int32) (L xo oo : Nat) (y4 : Int32) (f : FT) (n : Nat → Int32) (g : Nat → Nat → Int32) (bc bs : Nat) (C : Int32 × FT × (Nat → Int32) × (Nat → Nat → Int32) × Nat × Nat → Prop) : Prop :=
  isO f xo 11 ∧ wp_X8_countPrefix xo f (fun r_1 => wp_X9_countPrefix  n g (fun r_2 n_3 g_4 => ((r_1 = r_2 → C (y4, f, n_3, g_4, bc, bs)) ∧
 (¬ (r_1 = r_2) → False))))
set_option maxHeartbeats 4000000 in
set_option maxRecDepth 100000 in
theorem law_c14 {p : Program} {l : Launch} {e : Env} {s : State} {m : MethodId} {below : List Frame} {meth : Method} {c : Code} {b L : Nat} {xs : Nat → Int32} (hlt : l.stackTraces = false) (C0 : lw_At p s m meth c b L xs) {G : GG} (hK : FK G s) (hZ : FZ G (fun q : Nat => s.heap.size ≤ q) s s.heap) (hX : FX9 G (fun q : Nat => s.heap.size ≤ q) s s.heap) (hXN : FXN s) {zd : Nat} (hzd : G.2.2 0 = zd) {xo mo oo : Nat} {ad : Nat → Nat} (had : MAd mo ad) {C : Int32 × FT × (Nat → Int32) × (Nat → Nat → Int32) × Nat × Nat → Prop} : ∀ (y4 : Int32) (f : FT) (n : Nat → Int32) (g : Nat → Nat → Int32) (bc bs : Nat) (H : Heap) (locs : List Loc) (ls : Array Slot) (cs sl : Nat), (∀ (y4 : Int32) (f : FT) (n : Nat → Int32) (g : Nat → Nat → Int32) (bc bs : Nat) (H : Heap) (locs : List Loc) (ls : Array Slot) (cs sl : Nat), C (y4, f, n, g, bc, bs) → cs + bc ≤ 601024 → sl + bs ≤ 7293034 → Fw G (fun q : Nat => s.heap.size ≤ q) f H → Fw G (fun q : Nat => s.heap.size ≤ q) (mf mo ad n g) H → dj f (mf mo ad n g) → va_S (fun q : Nat => s.heap.size ≤ q) s.heap H locs → lv_has ls 7 [(0, .ref b), (1, .ref xo), (2, .ref mo), (3, .ref oo), (4, .int y4)] → W p l e room_1 s m #[Value.ref b] below meth c H locs cs sl (lw_Z below #[Value.ref b] s) (F0 m 1773 ls [])) → wp_law_c14 zd xs L xo oo y4 f n g bc bs C → cs + bc ≤ 601024 → sl + bs ≤ 7293034 → Fw G (fun q : Nat => s.heap.size ≤ q) f H → Fw G (fun q : Nat => s.heap.size ≤ q) (mf mo ad n g) H → dj f (mf mo ad n g) → va_S (fun q : Nat => s.heap.size ≤ q) s.heap H locs → lv_has ls 7 [(0, .ref b), (1, .ref xo), (2, .ref mo), (3, .ref oo), (4, .int y4)] → W p l e room_1 s m #[Value.ref b] below meth c H locs cs sl (lw_Z below #[Value.ref b] s) (F0 m 811 ls []) := by
  obtain ⟨hx, hb, hr, hml, hown, hts0, hXs, hbl, hlocks, hgv⟩ := id C0
  have hts : ∀ w ∈ wsL_law, w.before #[Value.ref b] s = true := fun w h => hts0 w (wsL_law_in w h)
  have hA : ∀ q : Nat, s.heap.size ≤ q → (fun q : Nat => s.heap.size ≤ q) q := fun _ h => h
  have hbA : ¬ (fun q : Nat => s.heap.size ≤ q) b := Nat.not_le.mpr hbl
  intro y4 f n g bc bs H locs ls cs sl hC h hbc hbs hF hF2 hd hS hl
  unfold wp_law_c14 at h
  refine lv_aload_n hx hb dL_law_811 rfl (lv_at hl 1 rfl) ?_
  obtain ⟨⟨fs_r_1, hrc_r_1⟩, h⟩ := h
  refine fl_cV_i (As := []) (rest := []) ⟨hx, hb, hml, hown, hts⟩ (cc_X8_countPrefix l G h) (⟨callB_of 0 hts ggL_law_X8_countPrefix rfl rfl rfl (hts0 (.initialized RX8) (List.mem_of_getElem? (i := 59) (by decide +kernel))) (hts0 (.methodLink RL 158 yX8_countPrefix) (List.mem_of_getElem? (i := 565) (by decide +kernel))) (by decide +kernel) ⟨Nat.le_of_ble_eq_true rfl, Nat.le_of_ble_eq_true rfl⟩, (hts0 (.instanceMethod yX8_countPrefix) (List.mem_of_getElem? (i := 566) (by decide +kernel))), (hts0 (.selects RX8 yX8_countPrefix yX8_countPrefix) (List.mem_of_getElem? (i := 567) (by decide +kernel)))⟩) rfl hrc_r_1 hK hZ hF hF2 hd hS hA rfl hl.1 rfl (Nat.le_of_ble_eq_true rfl) dL_law_812 ⟨by show _ + 0 ≤ 601024; omega, by show _ + 0 ≤ 7293034; omega⟩ (fun r_1 f9 H locs h hF hF2 hd hS => ?_)
  obtain ⟨h, e9⟩ := h; rw [e9] at hF hd; clear e9
  simp only [Nat.add_zero]
  refine lv_aload_n hx hb dL_law_815 rfl (lv_at hl 2 rfl) ?_
  refine fl_cV_i (As := []) (rest := [.int r_1]) ⟨hx, hb, hml, hown, hts⟩ (cc_X9_countPrefix l G had h) (⟨callB_of 0 hts ggL_law_X9_countPrefix rfl rfl rfl (hts0 (.initialized RX9) (List.mem_of_getElem? (i := 77) (by decide +kernel))) (hts0 (.methodLink RL 161 yX9_countPrefix) (List.mem_of_getElem? (i := 1650) (by decide +kernel))) (by decide +kernel) ⟨Nat.le_of_ble_eq_true rfl, Nat.le_of_ble_eq_true rfl⟩, (hts0 (.instanceMethod yX9_countPrefix) (List.mem_of_getElem? (i := 1651) (by decide +kernel))), (hts0 (.selects RX9 yX9_countPrefix yX9_countPrefix) (List.mem_of_getElem? (i := 1652) (by decide +kernel)))⟩) rfl mf_obj hK hZ hF2 hF hd.symm hS hA rfl hl.1 rfl (Nat.le_of_ble_eq_true rfl) dL_law_816 ⟨by show _ + 0 ≤ 601024; omega, by show _ + 0 ≤ 7293034; omega⟩ (fun r_2 f9 H locs h hF2 hF hd hS => ?_)
  have hd := hd.symm
  obtain ⟨n_3, g_4, rfl, h⟩ := h
  simp only [Nat.add_zero]
  obtain ⟨h1, h2⟩ := h
  refine lv_icmp_eq (tgt := 1773) hx hb dL_law_819 (by decide) (fun c_5 => ?_) (fun c_5 => ?_)
  · have h := h1 c_5
    exact hC y4 f n_3 g_4 bc bs _ _ _ _ _ h hbc hbs hF hF2 hd hS (lv_sub hl [0, 1, 2, 3, 4] rfl)
  · have h := h2 c_5
    refine lv_iconst (v := (0 : Int32)) hx hb dL_law_822 (by decide) ?_
    exact h.elim
def wp_law_c15 (zd : Nat) (xs : Nat → Int32) (L xo oo : Nat) (y4 : Int32) (f : FT) (n : Nat → Int32) (g : Nat → Nat → Int32) (bc bs : Nat) (C : Int32 × FT × (Nat → Int32) × (Nat → Nat → Int32) × Nat × Nat → Prop) : Prop :=
  isO f xo 11 ∧ wp_X8_height xo f (fun r_1 => wp_X9_height  n g (fun r_2 n_3 g_4 => ((r_1 = r_2 → C (y4, f, n_3, g_4, bc, bs)) ∧
 (¬ (r_1 = r_2) → False))))
set_option maxHeartbeats 4000000 in
set_option maxRecDepth 100000 in
theorem law_c15 {p : Program} {l : Launch} {e : Env} {s : State} {m : MethodId} {below : List Frame} {meth : Method} {c : Code} {b L : Nat} {xs : Nat → Int32} (hlt : l.stackTraces = false) (C0 : lw_At p s m meth c b L xs) {G : GG} (hK : FK G s) (hZ : FZ G (fun q : Nat => s.heap.size ≤ q) s s.heap) (hX : FX9 G (fun q : Nat => s.heap.size ≤ q) s s.heap) (hXN : FXN s) {zd : Nat} (hzd : G.2.2 0 = zd) {xo mo oo : Nat} {ad : Nat → Nat} (had : MAd mo ad) {C : Int32 × FT × (Nat → Int32) × (Nat → Nat → Int32) × Nat × Nat → Prop} : ∀ (y4 : Int32) (f : FT) (n : Nat → Int32) (g : Nat → Nat → Int32) (bc bs : Nat) (H : Heap) (locs : List Loc) (ls : Array Slot) (cs sl : Nat), (∀ (y4 : Int32) (f : FT) (n : Nat → Int32) (g : Nat → Nat → Int32) (bc bs : Nat) (H : Heap) (locs : List Loc) (ls : Array Slot) (cs sl : Nat), C (y4, f, n, g, bc, bs) → cs + bc ≤ 601024 → sl + bs ≤ 7293034 → Fw G (fun q : Nat => s.heap.size ≤ q) f H → Fw G (fun q : Nat => s.heap.size ≤ q) (mf mo ad n g) H → dj f (mf mo ad n g) → va_S (fun q : Nat => s.heap.size ≤ q) s.heap H locs → lv_has ls 7 [(0, .ref b), (1, .ref xo), (2, .ref mo), (3, .ref oo), (4, .int y4)] → W p l e room_1 s m #[Value.ref b] below meth c H locs cs sl (lw_Z below #[Value.ref b] s) (F0 m 1773 ls [])) → wp_law_c15 zd xs L xo oo y4 f n g bc bs C → cs + bc ≤ 601024 → sl + bs ≤ 7293034 → Fw G (fun q : Nat => s.heap.size ≤ q) f H → Fw G (fun q : Nat => s.heap.size ≤ q) (mf mo ad n g) H → dj f (mf mo ad n g) → va_S (fun q : Nat => s.heap.size ≤ q) s.heap H locs → lv_has ls 7 [(0, .ref b), (1, .ref xo), (2, .ref mo), (3, .ref oo), (4, .int y4)] → W p l e room_1 s m #[Value.ref b] below meth c H locs cs sl (lw_Z below #[Value.ref b] s) (F0 m 824 ls []) := by
  obtain ⟨hx, hb, hr, hml, hown, hts0, hXs, hbl, hlocks, hgv⟩ := id C0
  have hts : ∀ w ∈ wsL_law, w.before #[Value.ref b] s = true := fun w h => hts0 w (wsL_law_in w h)
  have hA : ∀ q : Nat, s.heap.size ≤ q → (fun q : Nat => s.heap.size ≤ q) q := fun _ h => h
  have hbA : ¬ (fun q : Nat => s.heap.size ≤ q) b := Nat.not_le.mpr hbl
  intro y4 f n g bc bs H locs ls cs sl hC h hbc hbs hF hF2 hd hS hl
  unfold wp_law_c15 at h
  refine lv_aload_n hx hb dL_law_824 rfl (lv_at hl 1 rfl) ?_
  obtain ⟨⟨fs_r_1, hrc_r_1⟩, h⟩ := h
  refine fl_cV_i (As := []) (rest := []) ⟨hx, hb, hml, hown, hts⟩ (cc_X8_height l G h) (⟨callB_of 0 hts ggL_law_X8_height rfl rfl rfl (hts0 (.initialized RX8) (List.mem_of_getElem? (i := 59) (by decide +kernel))) (hts0 (.methodLink RL 162 yX8_height) (List.mem_of_getElem? (i := 571) (by decide +kernel))) (by decide +kernel) ⟨Nat.le_of_ble_eq_true rfl, Nat.le_of_ble_eq_true rfl⟩, (hts0 (.instanceMethod yX8_height) (List.mem_of_getElem? (i := 572) (by decide +kernel))), (hts0 (.selects RX8 yX8_height yX8_height) (List.mem_of_getElem? (i := 573) (by decide +kernel)))⟩) rfl hrc_r_1 hK hZ hF hF2 hd hS hA rfl hl.1 rfl (Nat.le_of_ble_eq_true rfl) dL_law_825 ⟨by show _ + 0 ≤ 601024; omega, by show _ + 0 ≤ 7293034; omega⟩ (fun r_1 f9 H locs h hF hF2 hd hS => ?_)
  obtain ⟨h, e9⟩ := h; rw [e9] at hF hd; clear e9
  simp only [Nat.add_zero]
  refine lv_aload_n hx hb dL_law_828 rfl (lv_at hl 2 rfl) ?_
  refine fl_cV_i (As := []) (rest := [.int r_1]) ⟨hx, hb, hml, hown, hts⟩ (cc_X9_height l G had h) (⟨callB_of 0 hts ggL_law_X9_height rfl rfl rfl (hts0 (.initialized RX9) (List.mem_of_getElem? (i := 77) (by decide +kernel))) (hts0 (.methodLink RL 165 yX9_height) (List.mem_of_getElem? (i := 1654) (by decide +kernel))) (by decide +kernel) ⟨Nat.le_of_ble_eq_true rfl, Nat.le_of_ble_eq_true rfl⟩, (hts0 (.instanceMethod yX9_height) (List.mem_of_getElem? (i := 1655) (by decide +kernel))), (hts0 (.selects RX9 yX9_height yX9_height) (List.mem_of_getElem? (i := 1656) (by decide +kernel)))⟩) rfl mf_obj hK hZ hF2 hF hd.symm hS hA rfl hl.1 rfl (Nat.le_of_ble_eq_true rfl) dL_law_829 ⟨by show _ + 0 ≤ 601024; omega, by show _ + 0 ≤ 7293034; omega⟩ (fun r_2 f9 H locs h hF2 hF hd hS => ?_)
  have hd := hd.symm
  obtain ⟨n_3, g_4, rfl, h⟩ := h
  simp only [Nat.add_zero]
  obtain ⟨h1, h2⟩ := h
  refine lv_icmp_eq (tgt := 1773) hx hb dL_law_832 (by decide) (fun c_5 => ?_) (fun c_5 => ?_)
  · have h := h1 c_5
    exact hC y4 f n_3 g_4 bc bs _ _ _ _ _ h hbc hbs hF hF2 hd hS (lv_sub hl [0, 1, 2, 3, 4] rfl)
  · have h := h2 c_5
    refine lv_iconst (v := (0 : Int32)) hx hb dL_law_835 (by decide) ?_
    exact h.elim
def wp_law_c16 (zd : Nat) (xs : Nat → Int32) (L xo oo : Nat) (y4 : Int32) (f : FT) (n : Nat → Int32) (g : Nat → Nat → Int32) (bc bs : Nat) (C : Int32 × FT × (Nat → Int32) × (Nat → Nat → Int32) × Nat × Nat → Prop) : Prop :=
  vp_in (y4 + (1 : Int32)) L ∧ ∀ v_1 : Int32, v_1 = xs ((y4 + (1 : Int32))).toNatClampNeg → ∃ ga_4 gb_5 : Nat, ga_4 ≤ bc ∧ gb_5 ≤ bs ∧ wp_L_pageCount xo v_1 oo f ga_4 gb_5 (fun r_3 f_6 => vp_in (y4 + (1 : Int32)) L ∧ ∀ v_9 : Int32, v_9 = xs ((y4 + (1 : Int32))).toNatClampNeg → wp_X9_pageCount v_9 n g (fun r_11 n_12 g_13 => wp_X9_thrown  n_12 g_13 (fun r_14 => ((r_14 = r_3 → ((¬ r_3 = (0 : Int32) → C (y4, f_6, n_12, g_13, (bc - ga_4), (bs - gb_5))) ∧
 (r_3 = (0 : Int32) → aJ f_6 oo (0 : Int32) fun v_17 => (((lg_cmp v_17 (Int32.toInt64 r_11)) = (0 : Int32) → C (y4, f_6, n_12, g_13, (bc - ga_4), (bs - gb_5))) ∧
 (¬ ((lg_cmp v_17 (Int32.toInt64 r_11)) = (0 : Int32)) → False))))) ∧
 (¬ (r_14 = r_3) → False)))))
set_option maxHeartbeats 4000000 in
set_option maxRecDepth 100000 in
theorem law_c16 {p : Program} {l : Launch} {e : Env} {s : State} {m : MethodId} {below : List Frame} {meth : Method} {c : Code} {b L : Nat} {xs : Nat → Int32} (hlt : l.stackTraces = false) (C0 : lw_At p s m meth c b L xs) {G : GG} (hK : FK G s) (hZ : FZ G (fun q : Nat => s.heap.size ≤ q) s s.heap) (hX : FX9 G (fun q : Nat => s.heap.size ≤ q) s s.heap) (hXN : FXN s) {zd : Nat} (hzd : G.2.2 0 = zd) {xo mo oo : Nat} {ad : Nat → Nat} (had : MAd mo ad) {C : Int32 × FT × (Nat → Int32) × (Nat → Nat → Int32) × Nat × Nat → Prop} : ∀ (y4 : Int32) (f : FT) (n : Nat → Int32) (g : Nat → Nat → Int32) (bc bs : Nat) (H : Heap) (locs : List Loc) (ls : Array Slot) (cs sl : Nat), (∀ (y4 : Int32) (f : FT) (n : Nat → Int32) (g : Nat → Nat → Int32) (bc bs : Nat) (H : Heap) (locs : List Loc) (ls : Array Slot) (cs sl : Nat), C (y4, f, n, g, bc, bs) → cs + bc ≤ 601024 → sl + bs ≤ 7293034 → Fw G (fun q : Nat => s.heap.size ≤ q) f H → Fw G (fun q : Nat => s.heap.size ≤ q) (mf mo ad n g) H → dj f (mf mo ad n g) → va_S (fun q : Nat => s.heap.size ≤ q) s.heap H locs → lv_has ls 7 [(0, .ref b), (1, .ref xo), (2, .ref mo), (3, .ref oo), (4, .int y4)] → W p l e room_1 s m #[Value.ref b] below meth c H locs cs sl (lw_Z below #[Value.ref b] s) (F0 m 1773 ls [])) → wp_law_c16 zd xs L xo oo y4 f n g bc bs C → cs + bc ≤ 601024 → sl + bs ≤ 7293034 → Fw G (fun q : Nat => s.heap.size ≤ q) f H → Fw G (fun q : Nat => s.heap.size ≤ q) (mf mo ad n g) H → dj f (mf mo ad n g) → va_S (fun q : Nat => s.heap.size ≤ q) s.heap H locs → lv_has ls 7 [(0, .ref b), (1, .ref xo), (2, .ref mo), (3, .ref oo), (4, .int y4)] → W p l e room_1 s m #[Value.ref b] below meth c H locs cs sl (lw_Z below #[Value.ref b] s) (F0 m 837 ls []) := by
  obtain ⟨hx, hb, hr, hml, hown, hts0, hXs, hbl, hlocks, hgv⟩ := id C0
  have hts : ∀ w ∈ wsL_law, w.before #[Value.ref b] s = true := fun w h => hts0 w (wsL_law_in w h)
  have hA : ∀ q : Nat, s.heap.size ≤ q → (fun q : Nat => s.heap.size ≤ q) q := fun _ h => h
  have hbA : ¬ (fun q : Nat => s.heap.size ≤ q) b := Nat.not_le.mpr hbl
  intro y4 f n g bc bs H locs ls cs sl hC h hbc hbs hF hF2 hd hS hl
  unfold wp_law_c16 at h
  refine lv_aload_n hx hb dL_law_837 rfl (lv_at hl 1 rfl) ?_
  refine lv_aload_n hx hb dL_law_838 rfl (lv_at hl 0 rfl) ?_
  refine lv_iload hx hb dL_law_839 (lv_at hl 4 rfl) ?_
  refine lv_iconst (v := (1 : Int32)) hx hb dL_law_841 (by decide) ?_
  refine lv_iadd hx hb dL_law_842 ?_
  obtain ⟨hi_i_2, h⟩ := h
  refine va_sld hx hb hXs hbl hbA hS hi_i_2 dL_law_843 ?_
  refine lv_topi (fun v_1 e_v_1 => ?_)
  have h := h v_1 e_v_1
  refine lv_aload_n hx hb dL_law_844 rfl (lv_at hl 3 rfl) ?_
  obtain ⟨ga_4, gb_5, hga_ga_4, hgb_ga_4, h⟩ := h
  refine fl_cSX_i (As := [.ref xo, .int v_1, .ref oo]) (rest := []) ⟨hx, hb, hml, hown, hts⟩ (cc_L_pageCount l G hlt h) (cwSX 3 hts ggL_law_L_pageCount rfl rfl rfl (hts0 (.initialized RL) (List.mem_of_getElem? (i := 58) (by decide +kernel))) (hts0 (.methodLink RL 166 yL_pageCount) (List.mem_of_getElem? (i := 1155) (by decide +kernel))) (hts0 (.static yL_pageCount) (List.mem_of_getElem? (i := 1156) (by decide +kernel))) (by decide +kernel) ⟨Nat.le_of_ble_eq_true rfl, Nat.le_of_ble_eq_true rfl⟩) hK hZ hX hXN hF hF2 hd hS hA rfl hl.1 rfl (Nat.le_of_ble_eq_true rfl) dL_law_845 ⟨by show _ ≤ 601024; omega, by show _ ≤ 7293034; omega⟩ (fun r_3 f_6 H locs h hF hF2 hd hS => ?_)
  obtain ⟨cs_7, hcs⟩ : ∃ z, z = (cs + ga_4) := ⟨_, rfl⟩; obtain ⟨sl_8, hsl⟩ : ∃ z, z = (sl + gb_5) := ⟨_, rfl⟩
  have hbc : cs_7 + (bc - ga_4) ≤ 601024 := by omega
  have hbs : sl_8 + (bs - gb_5) ≤ 7293034 := by omega
  refine W.widen (k := cs_7) (n := sl_8) (by omega) (by omega) ?_
  clear hcs hsl
  refine lv_istore (lv' := [(5, .int r_3), (0, .ref b), (1, .ref xo), (2, .ref mo), (3, .ref oo), (4, .int y4)]) hx hb dL_law_848 hl (by decide) rfl (fun ls hl => ?_)
  refine lv_aload_n hx hb dL_law_850 rfl (lv_at hl 3 rfl) ?_
  refine lv_aload_n hx hb dL_law_851 rfl (lv_at hl 1 rfl) ?_
  refine lv_iload hx hb dL_law_852 (lv_at hl 5 rfl) ?_
  refine lv_iconst (v := (1 : Int32)) hx hb dL_law_854 (by decide) ?_
  refine lv_iadd hx hb dL_law_855 ?_
  obtain ⟨hi_i_10, h⟩ := h
  refine va_sld hx hb hXs hbl hbA hS hi_i_10 dL_law_856 ?_
  refine lv_topi (fun v_9 e_v_9 => ?_)
  have h := h v_9 e_v_9
  refine fl_cV_i (As := [.int v_9]) (rest := []) ⟨hx, hb, hml, hown, hts⟩ (cc_X9_pageCount l G had h) (⟨callB_of 1 hts ggL_law_X9_pageCount rfl rfl rfl (hts0 (.initialized RX9) (List.mem_of_getElem? (i := 77) (by decide +kernel))) (hts0 (.methodLink RL 168 yX9_pageCount) (List.mem_of_getElem? (i := 1658) (by decide +kernel))) (by decide +kernel) ⟨Nat.le_of_ble_eq_true rfl, Nat.le_of_ble_eq_true rfl⟩, (hts0 (.instanceMethod yX9_pageCount) (List.mem_of_getElem? (i := 1659) (by decide +kernel))), (hts0 (.selects RX9 yX9_pageCount yX9_pageCount) (List.mem_of_getElem? (i := 1660) (by decide +kernel)))⟩) rfl mf_obj hK hZ hF2 hF hd.symm hS hA rfl hl.1 rfl (Nat.le_of_ble_eq_true rfl) dL_law_857 ⟨by show _ + 0 ≤ 601024; omega, by show _ + 0 ≤ 7293034; omega⟩ (fun r_11 f9 H locs h hF2 hF hd hS => ?_)
  have hd := hd.symm
  obtain ⟨n_12, g_13, rfl, h⟩ := h
  simp only [Nat.add_zero]
  refine lv_istore (lv' := [(6, .int r_11), (5, .int r_3), (0, .ref b), (1, .ref xo), (2, .ref mo), (3, .ref oo), (4, .int y4)]) hx hb dL_law_860 hl (by decide) rfl (fun ls hl => ?_)
  refine lv_aload_n hx hb dL_law_862 rfl (lv_at hl 4 rfl) ?_
  refine fl_cV_i (As := []) (rest := []) ⟨hx, hb, hml, hown, hts⟩ (cc_X9_thrown l G had h) (⟨callB_of 0 hts ggL_law_X9_thrown rfl rfl rfl (hts0 (.initialized RX9) (List.mem_of_getElem? (i := 77) (by decide +kernel))) (hts0 (.methodLink RL 108 yX9_thrown) (List.mem_of_getElem? (i := 1465) (by decide +kernel))) (by decide +kernel) ⟨Nat.le_of_ble_eq_true rfl, Nat.le_of_ble_eq_true rfl⟩, (hts0 (.instanceMethod yX9_thrown) (List.mem_of_getElem? (i := 1466) (by decide +kernel))), (hts0 (.selects RX9 yX9_thrown yX9_thrown) (List.mem_of_getElem? (i := 1467) (by decide +kernel)))⟩) rfl mf_obj hK hZ hF2 hF hd.symm hS hA rfl hl.1 rfl (Nat.le_of_ble_eq_true rfl) dL_law_863 ⟨by show _ + 0 ≤ 601024; omega, by show _ + 0 ≤ 7293034; omega⟩ (fun r_14 f9 H locs h hF2 hF hd hS => ?_)
  have hd := hd.symm
  obtain ⟨h, e9⟩ := h; rw [e9] at hF2 hd; clear e9
  simp only [Nat.add_zero]
  refine lv_iload hx hb dL_law_866 (lv_at hl 1 rfl) ?_
  obtain ⟨h1, h2⟩ := h
  refine lv_icmp_eq (tgt := 873) hx hb dL_law_868 (by decide) (fun c_15 => ?_) (fun c_15 => ?_)
  · have h := h1 c_15
    refine lv_iload hx hb dL_law_873 (lv_at hl 1 rfl) ?_
    obtain ⟨h1, h2⟩ := h
    refine lv_if_ne (tgt := 890) hx hb dL_law_875 (by decide) (fun c_16 => ?_) (fun c_16 => ?_)
    · have h := h1 c_16
      refine lv_goto (tgt := 1773) hx hb dL_law_890 (by decide) ?_
      exact hC y4 f_6 n_12 g_13 (bc - ga_4) (bs - gb_5) _ _ _ _ _ h hbc hbs hF hF2 hd hS (lv_sub hl [2, 3, 4, 5, 6] rfl)
    · have h := h2 c_16
      refine lv_aload_n hx hb dL_law_878 rfl (lv_at hl 5 rfl) ?_
      refine lv_iconst (v := (0 : Int32)) hx hb dL_law_879 (by decide) ?_
      obtain ⟨n_q_18, q_18, he_q_18, hi_q_18, h⟩ := h
      refine fw_lald hx hb hK hF he_q_18 hi_q_18 dL_law_880 ?_
      refine lv_topl (fun v_17 e_v_17 => ?_)
      have h := h v_17 e_v_17
      refine lv_iload hx hb dL_law_881 (lv_at hl 0 rfl) ?_
      refine lv_i2l (v := (Int32.toInt64 r_11)) hx hb dL_law_883 rfl ?_
      refine W.lcmp hx hb dL_law_884 ?_
      obtain ⟨h1, h2⟩ := h
      refine lv_if_eq (tgt := 890) hx hb dL_law_885 (by decide) (fun c_20 => ?_) (fun c_20 => ?_)
      · have h := h1 c_20
        refine lv_goto (tgt := 1773) hx hb dL_law_890 (by decide) ?_
        exact hC y4 f_6 n_12 g_13 (bc - ga_4) (bs - gb_5) _ _ _ _ _ h hbc hbs hF hF2 hd hS (lv_sub hl [2, 3, 4, 5, 6] rfl)
      · have h := h2 c_20
        refine lv_iconst (v := (0 : Int32)) hx hb dL_law_888 (by decide) ?_
        exact h.elim
  · have h := h2 c_15
    refine lv_iconst (v := (0 : Int32)) hx hb dL_law_871 (by decide) ?_
    exact h.elim
def wp_law_c17 (zd : Nat) (xs : Nat → Int32) (L xo oo : Nat) (y4 : Int32) (f : FT) (n : Nat → Int32) (g : Nat → Nat → Int32) (bc bs : Nat) (C : Int32 × FT × (Nat → Int32) × (Nat → Nat → Int32) × Nat × Nat → Prop) : Prop :=
  vp_in (y4 + (1 : Int32)) L ∧ ∀ v_1 : Int32, v_1 = xs ((y4 + (1 : Int32))).toNatClampNeg → vp_in (y4 + (2 : Int32)) L ∧ ∀ v_3 : Int32, v_3 = xs ((y4 + (2 : Int32))).toNatClampNeg → ∃ ga_6 gb_7 : Nat, ga_6 ≤ bc ∧ gb_7 ≤ bs ∧ wp_L_pageSize xo v_1 v_3 oo f ga_6 gb_7 (fun r_5 f_8 => vp_in (y4 + (1 : Int32)) L ∧ ∀ v_11 : Int32, v_11 = xs ((y4 + (1 : Int32))).toNatClampNeg → vp_in (y4 + (2 : Int32)) L ∧ ∀ v_13 : Int32, v_13 = xs ((y4 + (2 : Int32))).toNatClampNeg → wp_X9_pageSize v_11 v_13 n g (fun r_15 n_16 g_17 => wp_X9_thrown  n_16 g_17 (fun r_18 => ((r_18 = r_5 → ((¬ r_5 = (0 : Int32) → C (y4, f_8, n_16, g_17, (bc - ga_6), (bs - gb_7))) ∧
 (r_5 = (0 : Int32) → aJ f_8 oo (0 : Int32) fun v_21 => (((lg_cmp v_21 (Int32.toInt64 r_15)) = (0 : Int32) → C (y4, f_8, n_16, g_17, (bc - ga_6), (bs - gb_7))) ∧
 (¬ ((lg_cmp v_21 (Int32.toInt64 r_15)) = (0 : Int32)) → False))))) ∧
 (¬ (r_18 = r_5) → False)))))
set_option maxHeartbeats 4000000 in
set_option maxRecDepth 100000 in
theorem law_c17 {p : Program} {l : Launch} {e : Env} {s : State} {m : MethodId} {below : List Frame} {meth : Method} {c : Code} {b L : Nat} {xs : Nat → Int32} (hlt : l.stackTraces = false) (C0 : lw_At p s m meth c b L xs) {G : GG} (hK : FK G s) (hZ : FZ G (fun q : Nat => s.heap.size ≤ q) s s.heap) (hX : FX9 G (fun q : Nat => s.heap.size ≤ q) s s.heap) (hXN : FXN s) {zd : Nat} (hzd : G.2.2 0 = zd) {xo mo oo : Nat} {ad : Nat → Nat} (had : MAd mo ad) {C : Int32 × FT × (Nat → Int32) × (Nat → Nat → Int32) × Nat × Nat → Prop} : ∀ (y4 : Int32) (f : FT) (n : Nat → Int32) (g : Nat → Nat → Int32) (bc bs : Nat) (H : Heap) (locs : List Loc) (ls : Array Slot) (cs sl : Nat), (∀ (y4 : Int32) (f : FT) (n : Nat → Int32) (g : Nat → Nat → Int32) (bc bs : Nat) (H : Heap) (locs : List Loc) (ls : Array Slot) (cs sl : Nat), C (y4, f, n, g, bc, bs) → cs + bc ≤ 601024 → sl + bs ≤ 7293034 → Fw G (fun q : Nat => s.heap.size ≤ q) f H → Fw G (fun q : Nat => s.heap.size ≤ q) (mf mo ad n g) H → dj f (mf mo ad n g) → va_S (fun q : Nat => s.heap.size ≤ q) s.heap H locs → lv_has ls 7 [(0, .ref b), (1, .ref xo), (2, .ref mo), (3, .ref oo), (4, .int y4)] → W p l e room_1 s m #[Value.ref b] below meth c H locs cs sl (lw_Z below #[Value.ref b] s) (F0 m 1773 ls [])) → wp_law_c17 zd xs L xo oo y4 f n g bc bs C → cs + bc ≤ 601024 → sl + bs ≤ 7293034 → Fw G (fun q : Nat => s.heap.size ≤ q) f H → Fw G (fun q : Nat => s.heap.size ≤ q) (mf mo ad n g) H → dj f (mf mo ad n g) → va_S (fun q : Nat => s.heap.size ≤ q) s.heap H locs → lv_has ls 7 [(0, .ref b), (1, .ref xo), (2, .ref mo), (3, .ref oo), (4, .int y4)] → W p l e room_1 s m #[Value.ref b] below meth c H locs cs sl (lw_Z below #[Value.ref b] s) (F0 m 893 ls []) := by
  obtain ⟨hx, hb, hr, hml, hown, hts0, hXs, hbl, hlocks, hgv⟩ := id C0
  have hts : ∀ w ∈ wsL_law, w.before #[Value.ref b] s = true := fun w h => hts0 w (wsL_law_in w h)
  have hA : ∀ q : Nat, s.heap.size ≤ q → (fun q : Nat => s.heap.size ≤ q) q := fun _ h => h
  have hbA : ¬ (fun q : Nat => s.heap.size ≤ q) b := Nat.not_le.mpr hbl
  intro y4 f n g bc bs H locs ls cs sl hC h hbc hbs hF hF2 hd hS hl
  unfold wp_law_c17 at h
  refine lv_aload_n hx hb dL_law_893 rfl (lv_at hl 1 rfl) ?_
  refine lv_aload_n hx hb dL_law_894 rfl (lv_at hl 0 rfl) ?_
  refine lv_iload hx hb dL_law_895 (lv_at hl 4 rfl) ?_
  refine lv_iconst (v := (1 : Int32)) hx hb dL_law_897 (by decide) ?_
  refine lv_iadd hx hb dL_law_898 ?_
  obtain ⟨hi_i_2, h⟩ := h
  refine va_sld hx hb hXs hbl hbA hS hi_i_2 dL_law_899 ?_
  refine lv_topi (fun v_1 e_v_1 => ?_)
  have h := h v_1 e_v_1
  refine lv_aload_n hx hb dL_law_900 rfl (lv_at hl 0 rfl) ?_
  refine lv_iload hx hb dL_law_901 (lv_at hl 4 rfl) ?_
  refine lv_iconst (v := (2 : Int32)) hx hb dL_law_903 (by decide) ?_
  refine lv_iadd hx hb dL_law_904 ?_
  obtain ⟨hi_i_4, h⟩ := h
  refine va_sld hx hb hXs hbl hbA hS hi_i_4 dL_law_905 ?_
  refine lv_topi (fun v_3 e_v_3 => ?_)
  have h := h v_3 e_v_3
  refine lv_aload_n hx hb dL_law_906 rfl (lv_at hl 3 rfl) ?_
  obtain ⟨ga_6, gb_7, hga_ga_6, hgb_ga_6, h⟩ := h
  refine fl_cSX_i (As := [.ref xo, .int v_1, .int v_3, .ref oo]) (rest := []) ⟨hx, hb, hml, hown, hts⟩ (cc_L_pageSize l G hlt h) (cwSX 4 hts ggL_law_L_pageSize rfl rfl rfl (hts0 (.initialized RL) (List.mem_of_getElem? (i := 58) (by decide +kernel))) (hts0 (.methodLink RL 169 yL_pageSize) (List.mem_of_getElem? (i := 1171) (by decide +kernel))) (hts0 (.static yL_pageSize) (List.mem_of_getElem? (i := 1172) (by decide +kernel))) (by decide +kernel) ⟨Nat.le_of_ble_eq_true rfl, Nat.le_of_ble_eq_true rfl⟩) hK hZ hX hXN hF hF2 hd hS hA rfl hl.1 rfl (Nat.le_of_ble_eq_true rfl) dL_law_907 ⟨by show _ ≤ 601024; omega, by show _ ≤ 7293034; omega⟩ (fun r_5 f_8 H locs h hF hF2 hd hS => ?_)
  obtain ⟨cs_9, hcs⟩ : ∃ z, z = (cs + ga_6) := ⟨_, rfl⟩; obtain ⟨sl_10, hsl⟩ : ∃ z, z = (sl + gb_7) := ⟨_, rfl⟩
  have hbc : cs_9 + (bc - ga_6) ≤ 601024 := by omega
  have hbs : sl_10 + (bs - gb_7) ≤ 7293034 := by omega
  refine W.widen (k := cs_9) (n := sl_10) (by omega) (by omega) ?_
  clear hcs hsl
  refine lv_istore (lv' := [(5, .int r_5), (0, .ref b), (1, .ref xo), (2, .ref mo), (3, .ref oo), (4, .int y4)]) hx hb dL_law_910 hl (by decide) rfl (fun ls hl => ?_)
  refine lv_aload_n hx hb dL_law_912 rfl (lv_at hl 3 rfl) ?_
  refine lv_aload_n hx hb dL_law_913 rfl (lv_at hl 1 rfl) ?_
  refine lv_iload hx hb dL_law_914 (lv_at hl 5 rfl) ?_
  refine lv_iconst (v := (1 : Int32)) hx hb dL_law_916 (by decide) ?_
  refine lv_iadd hx hb dL_law_917 ?_
  obtain ⟨hi_i_12, h⟩ := h
  refine va_sld hx hb hXs hbl hbA hS hi_i_12 dL_law_918 ?_
  refine lv_topi (fun v_11 e_v_11 => ?_)
  have h := h v_11 e_v_11
  refine lv_aload_n hx hb dL_law_919 rfl (lv_at hl 1 rfl) ?_
  refine lv_iload hx hb dL_law_920 (lv_at hl 5 rfl) ?_
  refine lv_iconst (v := (2 : Int32)) hx hb dL_law_922 (by decide) ?_
  refine lv_iadd hx hb dL_law_923 ?_
  obtain ⟨hi_i_14, h⟩ := h
  refine va_sld hx hb hXs hbl hbA hS hi_i_14 dL_law_924 ?_
  refine lv_topi (fun v_13 e_v_13 => ?_)
  have h := h v_13 e_v_13
  refine fl_cV_i (As := [.int v_11, .int v_13]) (rest := []) ⟨hx, hb, hml, hown, hts⟩ (cc_X9_pageSize l G had h) (⟨callB_of 2 hts ggL_law_X9_pageSize rfl rfl rfl (hts0 (.initialized RX9) (List.mem_of_getElem? (i := 77) (by decide +kernel))) (hts0 (.methodLink RL 172 yX9_pageSize) (List.mem_of_getElem? (i := 1662) (by decide +kernel))) (by decide +kernel) ⟨Nat.le_of_ble_eq_true rfl, Nat.le_of_ble_eq_true rfl⟩, (hts0 (.instanceMethod yX9_pageSize) (List.mem_of_getElem? (i := 1663) (by decide +kernel))), (hts0 (.selects RX9 yX9_pageSize yX9_pageSize) (List.mem_of_getElem? (i := 1664) (by decide +kernel)))⟩) rfl mf_obj hK hZ hF2 hF hd.symm hS hA rfl hl.1 rfl (Nat.le_of_ble_eq_true rfl) dL_law_925 ⟨by show _ + 0 ≤ 601024; omega, by show _ + 0 ≤ 7293034; omega⟩ (fun r_15 f9 H locs h hF2 hF hd hS => ?_)
  have hd := hd.symm
  obtain ⟨n_16, g_17, rfl, h⟩ := h
  simp only [Nat.add_zero]
  refine lv_istore (lv' := [(6, .int r_15), (5, .int r_5), (0, .ref b), (1, .ref xo), (2, .ref mo), (3, .ref oo), (4, .int y4)]) hx hb dL_law_928 hl (by decide) rfl (fun ls hl => ?_)
  refine lv_aload_n hx hb dL_law_930 rfl (lv_at hl 4 rfl) ?_
  refine fl_cV_i (As := []) (rest := []) ⟨hx, hb, hml, hown, hts⟩ (cc_X9_thrown l G had h) (⟨callB_of 0 hts ggL_law_X9_thrown rfl rfl rfl (hts0 (.initialized RX9) (List.mem_of_getElem? (i := 77) (by decide +kernel))) (hts0 (.methodLink RL 108 yX9_thrown) (List.mem_of_getElem? (i := 1465) (by decide +kernel))) (by decide +kernel) ⟨Nat.le_of_ble_eq_true rfl, Nat.le_of_ble_eq_true rfl⟩, (hts0 (.instanceMethod yX9_thrown) (List.mem_of_getElem? (i := 1466) (by decide +kernel))), (hts0 (.selects RX9 yX9_thrown yX9_thrown) (List.mem_of_getElem? (i := 1467) (by decide +kernel)))⟩) rfl mf_obj hK hZ hF2 hF hd.symm hS hA rfl hl.1 rfl (Nat.le_of_ble_eq_true rfl) dL_law_931 ⟨by show _ + 0 ≤ 601024; omega, by show _ + 0 ≤ 7293034; omega⟩ (fun r_18 f9 H locs h hF2 hF hd hS => ?_)
  have hd := hd.symm
  obtain ⟨h, e9⟩ := h; rw [e9] at hF2 hd; clear e9
  simp only [Nat.add_zero]
  refine lv_iload hx hb dL_law_934 (lv_at hl 1 rfl) ?_
  obtain ⟨h1, h2⟩ := h
  refine lv_icmp_eq (tgt := 941) hx hb dL_law_936 (by decide) (fun c_19 => ?_) (fun c_19 => ?_)
  · have h := h1 c_19
    refine lv_iload hx hb dL_law_941 (lv_at hl 1 rfl) ?_
    obtain ⟨h1, h2⟩ := h
    refine lv_if_ne (tgt := 958) hx hb dL_law_943 (by decide) (fun c_20 => ?_) (fun c_20 => ?_)
    · have h := h1 c_20
      refine lv_goto (tgt := 1773) hx hb dL_law_958 (by decide) ?_
      exact hC y4 f_8 n_16 g_17 (bc - ga_6) (bs - gb_7) _ _ _ _ _ h hbc hbs hF hF2 hd hS (lv_sub hl [2, 3, 4, 5, 6] rfl)
    · have h := h2 c_20
      refine lv_aload_n hx hb dL_law_946 rfl (lv_at hl 5 rfl) ?_
      refine lv_iconst (v := (0 : Int32)) hx hb dL_law_947 (by decide) ?_
      obtain ⟨n_q_22, q_22, he_q_22, hi_q_22, h⟩ := h
      refine fw_lald hx hb hK hF he_q_22 hi_q_22 dL_law_948 ?_
      refine lv_topl (fun v_21 e_v_21 => ?_)
      have h := h v_21 e_v_21
      refine lv_iload hx hb dL_law_949 (lv_at hl 0 rfl) ?_
      refine lv_i2l (v := (Int32.toInt64 r_15)) hx hb dL_law_951 rfl ?_
      refine W.lcmp hx hb dL_law_952 ?_
      obtain ⟨h1, h2⟩ := h
      refine lv_if_eq (tgt := 958) hx hb dL_law_953 (by decide) (fun c_24 => ?_) (fun c_24 => ?_)
      · have h := h1 c_24
        refine lv_goto (tgt := 1773) hx hb dL_law_958 (by decide) ?_
        exact hC y4 f_8 n_16 g_17 (bc - ga_6) (bs - gb_7) _ _ _ _ _ h hbc hbs hF hF2 hd hS (lv_sub hl [2, 3, 4, 5, 6] rfl)
      · have h := h2 c_24
        refine lv_iconst (v := (0 : Int32)) hx hb dL_law_956 (by decide) ?_
        exact h.elim
  · have h := h2 c_19
    refine lv_iconst (v := (0 : Int32)) hx hb dL_law_939 (by decide) ?_
    exact h.elim
def wp_law_c18 (zd : Nat) (xs : Nat → Int32) (L xo oo : Nat) (y4 : Int32) (f : FT) (n : Nat → Int32) (g : Nat → Nat → Int32) (bc bs : Nat) (C : Int32 × FT × (Nat → Int32) × (Nat → Nat → Int32) × Nat × Nat → Prop) : Prop :=
  vp_in (y4 + (1 : Int32)) L ∧ ∀ v_1 : Int32, v_1 = xs ((y4 + (1 : Int32))).toNatClampNeg → vp_in (y4 + (2 : Int32)) L ∧ ∀ v_3 : Int32, v_3 = xs ((y4 + (2 : Int32))).toNatClampNeg → ∃ ga_6 gb_7 : Nat, ga_6 ≤ bc ∧ gb_7 ≤ bs ∧ wp_L_pageFanout xo v_1 v_3 oo f ga_6 gb_7 (fun r_5 f_8 => vp_in (y4 + (1 : Int32)) L ∧ ∀ v_11 : Int32, v_11 = xs ((y4 + (1 : Int32))).toNatClampNeg → vp_in (y4 + (2 : Int32)) L ∧ ∀ v_13 : Int32, v_13 = xs ((y4 + (2 : Int32))).toNatClampNeg → wp_X9_pageFanout v_11 v_13 n g (fun r_15 n_16 g_17 => wp_X9_thrown  n_16 g_17 (fun r_18 => ((r_18 = r_5 → ((¬ r_5 = (0 : Int32) → C (y4, f_8, n_16, g_17, (bc - ga_6), (bs - gb_7))) ∧
 (r_5 = (0 : Int32) → aJ f_8 oo (0 : Int32) fun v_21 => (((lg_cmp v_21 (Int32.toInt64 r_15)) = (0 : Int32) → C (y4, f_8, n_16, g_17, (bc - ga_6), (bs - gb_7))) ∧
 (¬ ((lg_cmp v_21 (Int32.toInt64 r_15)) = (0 : Int32)) → False))))) ∧
 (¬ (r_18 = r_5) → False)))))
set_option maxHeartbeats 4000000 in
set_option maxRecDepth 100000 in
theorem law_c18 {p : Program} {l : Launch} {e : Env} {s : State} {m : MethodId} {below : List Frame} {meth : Method} {c : Code} {b L : Nat} {xs : Nat → Int32} (hlt : l.stackTraces = false) (C0 : lw_At p s m meth c b L xs) {G : GG} (hK : FK G s) (hZ : FZ G (fun q : Nat => s.heap.size ≤ q) s s.heap) (hX : FX9 G (fun q : Nat => s.heap.size ≤ q) s s.heap) (hXN : FXN s) {zd : Nat} (hzd : G.2.2 0 = zd) {xo mo oo : Nat} {ad : Nat → Nat} (had : MAd mo ad) {C : Int32 × FT × (Nat → Int32) × (Nat → Nat → Int32) × Nat × Nat → Prop} : ∀ (y4 : Int32) (f : FT) (n : Nat → Int32) (g : Nat → Nat → Int32) (bc bs : Nat) (H : Heap) (locs : List Loc) (ls : Array Slot) (cs sl : Nat), (∀ (y4 : Int32) (f : FT) (n : Nat → Int32) (g : Nat → Nat → Int32) (bc bs : Nat) (H : Heap) (locs : List Loc) (ls : Array Slot) (cs sl : Nat), C (y4, f, n, g, bc, bs) → cs + bc ≤ 601024 → sl + bs ≤ 7293034 → Fw G (fun q : Nat => s.heap.size ≤ q) f H → Fw G (fun q : Nat => s.heap.size ≤ q) (mf mo ad n g) H → dj f (mf mo ad n g) → va_S (fun q : Nat => s.heap.size ≤ q) s.heap H locs → lv_has ls 7 [(0, .ref b), (1, .ref xo), (2, .ref mo), (3, .ref oo), (4, .int y4)] → W p l e room_1 s m #[Value.ref b] below meth c H locs cs sl (lw_Z below #[Value.ref b] s) (F0 m 1773 ls [])) → wp_law_c18 zd xs L xo oo y4 f n g bc bs C → cs + bc ≤ 601024 → sl + bs ≤ 7293034 → Fw G (fun q : Nat => s.heap.size ≤ q) f H → Fw G (fun q : Nat => s.heap.size ≤ q) (mf mo ad n g) H → dj f (mf mo ad n g) → va_S (fun q : Nat => s.heap.size ≤ q) s.heap H locs → lv_has ls 7 [(0, .ref b), (1, .ref xo), (2, .ref mo), (3, .ref oo), (4, .int y4)] → W p l e room_1 s m #[Value.ref b] below meth c H locs cs sl (lw_Z below #[Value.ref b] s) (F0 m 961 ls []) := by
  obtain ⟨hx, hb, hr, hml, hown, hts0, hXs, hbl, hlocks, hgv⟩ := id C0
  have hts : ∀ w ∈ wsL_law, w.before #[Value.ref b] s = true := fun w h => hts0 w (wsL_law_in w h)
  have hA : ∀ q : Nat, s.heap.size ≤ q → (fun q : Nat => s.heap.size ≤ q) q := fun _ h => h
  have hbA : ¬ (fun q : Nat => s.heap.size ≤ q) b := Nat.not_le.mpr hbl
  intro y4 f n g bc bs H locs ls cs sl hC h hbc hbs hF hF2 hd hS hl
  unfold wp_law_c18 at h
  refine lv_aload_n hx hb dL_law_961 rfl (lv_at hl 1 rfl) ?_
  refine lv_aload_n hx hb dL_law_962 rfl (lv_at hl 0 rfl) ?_
  refine lv_iload hx hb dL_law_963 (lv_at hl 4 rfl) ?_
  refine lv_iconst (v := (1 : Int32)) hx hb dL_law_965 (by decide) ?_
  refine lv_iadd hx hb dL_law_966 ?_
  obtain ⟨hi_i_2, h⟩ := h
  refine va_sld hx hb hXs hbl hbA hS hi_i_2 dL_law_967 ?_
  refine lv_topi (fun v_1 e_v_1 => ?_)
  have h := h v_1 e_v_1
  refine lv_aload_n hx hb dL_law_968 rfl (lv_at hl 0 rfl) ?_
  refine lv_iload hx hb dL_law_969 (lv_at hl 4 rfl) ?_
  refine lv_iconst (v := (2 : Int32)) hx hb dL_law_971 (by decide) ?_
  refine lv_iadd hx hb dL_law_972 ?_
  obtain ⟨hi_i_4, h⟩ := h
  refine va_sld hx hb hXs hbl hbA hS hi_i_4 dL_law_973 ?_
  refine lv_topi (fun v_3 e_v_3 => ?_)
  have h := h v_3 e_v_3
  refine lv_aload_n hx hb dL_law_974 rfl (lv_at hl 3 rfl) ?_
  obtain ⟨ga_6, gb_7, hga_ga_6, hgb_ga_6, h⟩ := h
  refine fl_cSX_i (As := [.ref xo, .int v_1, .int v_3, .ref oo]) (rest := []) ⟨hx, hb, hml, hown, hts⟩ (cc_L_pageFanout l G hlt h) (cwSX 4 hts ggL_law_L_pageFanout rfl rfl rfl (hts0 (.initialized RL) (List.mem_of_getElem? (i := 58) (by decide +kernel))) (hts0 (.methodLink RL 173 yL_pageFanout) (List.mem_of_getElem? (i := 1183) (by decide +kernel))) (hts0 (.static yL_pageFanout) (List.mem_of_getElem? (i := 1184) (by decide +kernel))) (by decide +kernel) ⟨Nat.le_of_ble_eq_true rfl, Nat.le_of_ble_eq_true rfl⟩) hK hZ hX hXN hF hF2 hd hS hA rfl hl.1 rfl (Nat.le_of_ble_eq_true rfl) dL_law_975 ⟨by show _ ≤ 601024; omega, by show _ ≤ 7293034; omega⟩ (fun r_5 f_8 H locs h hF hF2 hd hS => ?_)
  obtain ⟨cs_9, hcs⟩ : ∃ z, z = (cs + ga_6) := ⟨_, rfl⟩; obtain ⟨sl_10, hsl⟩ : ∃ z, z = (sl + gb_7) := ⟨_, rfl⟩
  have hbc : cs_9 + (bc - ga_6) ≤ 601024 := by omega
  have hbs : sl_10 + (bs - gb_7) ≤ 7293034 := by omega
  refine W.widen (k := cs_9) (n := sl_10) (by omega) (by omega) ?_
  clear hcs hsl
  refine lv_istore (lv' := [(5, .int r_5), (0, .ref b), (1, .ref xo), (2, .ref mo), (3, .ref oo), (4, .int y4)]) hx hb dL_law_978 hl (by decide) rfl (fun ls hl => ?_)
  refine lv_aload_n hx hb dL_law_980 rfl (lv_at hl 3 rfl) ?_
  refine lv_aload_n hx hb dL_law_981 rfl (lv_at hl 1 rfl) ?_
  refine lv_iload hx hb dL_law_982 (lv_at hl 5 rfl) ?_
  refine lv_iconst (v := (1 : Int32)) hx hb dL_law_984 (by decide) ?_
  refine lv_iadd hx hb dL_law_985 ?_
  obtain ⟨hi_i_12, h⟩ := h
  refine va_sld hx hb hXs hbl hbA hS hi_i_12 dL_law_986 ?_
  refine lv_topi (fun v_11 e_v_11 => ?_)
  have h := h v_11 e_v_11
  refine lv_aload_n hx hb dL_law_987 rfl (lv_at hl 1 rfl) ?_
  refine lv_iload hx hb dL_law_988 (lv_at hl 5 rfl) ?_
  refine lv_iconst (v := (2 : Int32)) hx hb dL_law_990 (by decide) ?_
  refine lv_iadd hx hb dL_law_991 ?_
  obtain ⟨hi_i_14, h⟩ := h
  refine va_sld hx hb hXs hbl hbA hS hi_i_14 dL_law_992 ?_
  refine lv_topi (fun v_13 e_v_13 => ?_)
  have h := h v_13 e_v_13
  refine fl_cV_i (As := [.int v_11, .int v_13]) (rest := []) ⟨hx, hb, hml, hown, hts⟩ (cc_X9_pageFanout l G had h) (⟨callB_of 2 hts ggL_law_X9_pageFanout rfl rfl rfl (hts0 (.initialized RX9) (List.mem_of_getElem? (i := 77) (by decide +kernel))) (hts0 (.methodLink RL 175 yX9_pageFanout) (List.mem_of_getElem? (i := 1670) (by decide +kernel))) (by decide +kernel) ⟨Nat.le_of_ble_eq_true rfl, Nat.le_of_ble_eq_true rfl⟩, (hts0 (.instanceMethod yX9_pageFanout) (List.mem_of_getElem? (i := 1671) (by decide +kernel))), (hts0 (.selects RX9 yX9_pageFanout yX9_pageFanout) (List.mem_of_getElem? (i := 1672) (by decide +kernel)))⟩) rfl mf_obj hK hZ hF2 hF hd.symm hS hA rfl hl.1 rfl (Nat.le_of_ble_eq_true rfl) dL_law_993 ⟨by show _ + 0 ≤ 601024; omega, by show _ + 0 ≤ 7293034; omega⟩ (fun r_15 f9 H locs h hF2 hF hd hS => ?_)
  have hd := hd.symm
  obtain ⟨n_16, g_17, rfl, h⟩ := h
  simp only [Nat.add_zero]
  refine lv_istore (lv' := [(6, .int r_15), (5, .int r_5), (0, .ref b), (1, .ref xo), (2, .ref mo), (3, .ref oo), (4, .int y4)]) hx hb dL_law_996 hl (by decide) rfl (fun ls hl => ?_)
  refine lv_aload_n hx hb dL_law_998 rfl (lv_at hl 4 rfl) ?_
  refine fl_cV_i (As := []) (rest := []) ⟨hx, hb, hml, hown, hts⟩ (cc_X9_thrown l G had h) (⟨callB_of 0 hts ggL_law_X9_thrown rfl rfl rfl (hts0 (.initialized RX9) (List.mem_of_getElem? (i := 77) (by decide +kernel))) (hts0 (.methodLink RL 108 yX9_thrown) (List.mem_of_getElem? (i := 1465) (by decide +kernel))) (by decide +kernel) ⟨Nat.le_of_ble_eq_true rfl, Nat.le_of_ble_eq_true rfl⟩, (hts0 (.instanceMethod yX9_thrown) (List.mem_of_getElem? (i := 1466) (by decide +kernel))), (hts0 (.selects RX9 yX9_thrown yX9_thrown) (List.mem_of_getElem? (i := 1467) (by decide +kernel)))⟩) rfl mf_obj hK hZ hF2 hF hd.symm hS hA rfl hl.1 rfl (Nat.le_of_ble_eq_true rfl) dL_law_999 ⟨by show _ + 0 ≤ 601024; omega, by show _ + 0 ≤ 7293034; omega⟩ (fun r_18 f9 H locs h hF2 hF hd hS => ?_)
  have hd := hd.symm
  obtain ⟨h, e9⟩ := h; rw [e9] at hF2 hd; clear e9
  simp only [Nat.add_zero]
  refine lv_iload hx hb dL_law_1002 (lv_at hl 1 rfl) ?_
  obtain ⟨h1, h2⟩ := h
  refine lv_icmp_eq (tgt := 1009) hx hb dL_law_1004 (by decide) (fun c_19 => ?_) (fun c_19 => ?_)
  · have h := h1 c_19
    refine lv_iload hx hb dL_law_1009 (lv_at hl 1 rfl) ?_
    obtain ⟨h1, h2⟩ := h
    refine lv_if_ne (tgt := 1026) hx hb dL_law_1011 (by decide) (fun c_20 => ?_) (fun c_20 => ?_)
    · have h := h1 c_20
      refine lv_goto (tgt := 1773) hx hb dL_law_1026 (by decide) ?_
      exact hC y4 f_8 n_16 g_17 (bc - ga_6) (bs - gb_7) _ _ _ _ _ h hbc hbs hF hF2 hd hS (lv_sub hl [2, 3, 4, 5, 6] rfl)
    · have h := h2 c_20
      refine lv_aload_n hx hb dL_law_1014 rfl (lv_at hl 5 rfl) ?_
      refine lv_iconst (v := (0 : Int32)) hx hb dL_law_1015 (by decide) ?_
      obtain ⟨n_q_22, q_22, he_q_22, hi_q_22, h⟩ := h
      refine fw_lald hx hb hK hF he_q_22 hi_q_22 dL_law_1016 ?_
      refine lv_topl (fun v_21 e_v_21 => ?_)
      have h := h v_21 e_v_21
      refine lv_iload hx hb dL_law_1017 (lv_at hl 0 rfl) ?_
      refine lv_i2l (v := (Int32.toInt64 r_15)) hx hb dL_law_1019 rfl ?_
      refine W.lcmp hx hb dL_law_1020 ?_
      obtain ⟨h1, h2⟩ := h
      refine lv_if_eq (tgt := 1026) hx hb dL_law_1021 (by decide) (fun c_24 => ?_) (fun c_24 => ?_)
      · have h := h1 c_24
        refine lv_goto (tgt := 1773) hx hb dL_law_1026 (by decide) ?_
        exact hC y4 f_8 n_16 g_17 (bc - ga_6) (bs - gb_7) _ _ _ _ _ h hbc hbs hF hF2 hd hS (lv_sub hl [2, 3, 4, 5, 6] rfl)
      · have h := h2 c_24
        refine lv_iconst (v := (0 : Int32)) hx hb dL_law_1024 (by decide) ?_
        exact h.elim
  · have h := h2 c_19
    refine lv_iconst (v := (0 : Int32)) hx hb dL_law_1007 (by decide) ?_
    exact h.elim
def wp_law_c19 (zd : Nat) (xs : Nat → Int32) (L xo oo : Nat) (y4 : Int32) (f : FT) (n : Nat → Int32) (g : Nat → Nat → Int32) (bc bs : Nat) (C : Int32 × FT × (Nat → Int32) × (Nat → Nat → Int32) × Nat × Nat → Prop) : Prop :=
  vp_in (y4 + (1 : Int32)) L ∧ ∀ v_1 : Int32, v_1 = xs ((y4 + (1 : Int32))).toNatClampNeg → vp_in (y4 + (2 : Int32)) L ∧ ∀ v_3 : Int32, v_3 = xs ((y4 + (2 : Int32))).toNatClampNeg → vp_in (y4 + (3 : Int32)) L ∧ ∀ v_5 : Int32, v_5 = xs ((y4 + (3 : Int32))).toNatClampNeg → ∃ ga_8 gb_9 : Nat, ga_8 ≤ bc ∧ gb_9 ≤ bs ∧ wp_L_separator xo v_1 v_3 v_5 oo f ga_8 gb_9 (fun r_7 f_10 => vp_in (y4 + (1 : Int32)) L ∧ ∀ v_13 : Int32, v_13 = xs ((y4 + (1 : Int32))).toNatClampNeg → vp_in (y4 + (2 : Int32)) L ∧ ∀ v_15 : Int32, v_15 = xs ((y4 + (2 : Int32))).toNatClampNeg → vp_in (y4 + (3 : Int32)) L ∧ ∀ v_17 : Int32, v_17 = xs ((y4 + (3 : Int32))).toNatClampNeg → wp_X9_separator v_13 v_15 v_17 n g (fun r_19 n_20 g_21 => wp_X9_thrown  n_20 g_21 (fun r_22 => ((r_22 = r_7 → ((¬ r_7 = (0 : Int32) → C (y4, f_10, n_20, g_21, (bc - ga_8), (bs - gb_9))) ∧
 (r_7 = (0 : Int32) → aJ f_10 oo (0 : Int32) fun v_25 => (((lg_cmp v_25 (Int32.toInt64 r_19)) = (0 : Int32) → C (y4, f_10, n_20, g_21, (bc - ga_8), (bs - gb_9))) ∧
 (¬ ((lg_cmp v_25 (Int32.toInt64 r_19)) = (0 : Int32)) → False))))) ∧
 (¬ (r_22 = r_7) → False)))))
set_option maxHeartbeats 4000000 in
set_option maxRecDepth 100000 in
theorem law_c19 {p : Program} {l : Launch} {e : Env} {s : State} {m : MethodId} {below : List Frame} {meth : Method} {c : Code} {b L : Nat} {xs : Nat → Int32} (hlt : l.stackTraces = false) (C0 : lw_At p s m meth c b L xs) {G : GG} (hK : FK G s) (hZ : FZ G (fun q : Nat => s.heap.size ≤ q) s s.heap) (hX : FX9 G (fun q : Nat => s.heap.size ≤ q) s s.heap) (hXN : FXN s) {zd : Nat} (hzd : G.2.2 0 = zd) {xo mo oo : Nat} {ad : Nat → Nat} (had : MAd mo ad) {C : Int32 × FT × (Nat → Int32) × (Nat → Nat → Int32) × Nat × Nat → Prop} : ∀ (y4 : Int32) (f : FT) (n : Nat → Int32) (g : Nat → Nat → Int32) (bc bs : Nat) (H : Heap) (locs : List Loc) (ls : Array Slot) (cs sl : Nat), (∀ (y4 : Int32) (f : FT) (n : Nat → Int32) (g : Nat → Nat → Int32) (bc bs : Nat) (H : Heap) (locs : List Loc) (ls : Array Slot) (cs sl : Nat), C (y4, f, n, g, bc, bs) → cs + bc ≤ 601024 → sl + bs ≤ 7293034 → Fw G (fun q : Nat => s.heap.size ≤ q) f H → Fw G (fun q : Nat => s.heap.size ≤ q) (mf mo ad n g) H → dj f (mf mo ad n g) → va_S (fun q : Nat => s.heap.size ≤ q) s.heap H locs → lv_has ls 7 [(0, .ref b), (1, .ref xo), (2, .ref mo), (3, .ref oo), (4, .int y4)] → W p l e room_1 s m #[Value.ref b] below meth c H locs cs sl (lw_Z below #[Value.ref b] s) (F0 m 1773 ls [])) → wp_law_c19 zd xs L xo oo y4 f n g bc bs C → cs + bc ≤ 601024 → sl + bs ≤ 7293034 → Fw G (fun q : Nat => s.heap.size ≤ q) f H → Fw G (fun q : Nat => s.heap.size ≤ q) (mf mo ad n g) H → dj f (mf mo ad n g) → va_S (fun q : Nat => s.heap.size ≤ q) s.heap H locs → lv_has ls 7 [(0, .ref b), (1, .ref xo), (2, .ref mo), (3, .ref oo), (4, .int y4)] → W p l e room_1 s m #[Value.ref b] below meth c H locs cs sl (lw_Z below #[Value.ref b] s) (F0 m 1029 ls []) := by
  obtain ⟨hx, hb, hr, hml, hown, hts0, hXs, hbl, hlocks, hgv⟩ := id C0
  have hts : ∀ w ∈ wsL_law, w.before #[Value.ref b] s = true := fun w h => hts0 w (wsL_law_in w h)
  have hA : ∀ q : Nat, s.heap.size ≤ q → (fun q : Nat => s.heap.size ≤ q) q := fun _ h => h
  have hbA : ¬ (fun q : Nat => s.heap.size ≤ q) b := Nat.not_le.mpr hbl
  intro y4 f n g bc bs H locs ls cs sl hC h hbc hbs hF hF2 hd hS hl
  unfold wp_law_c19 at h
  refine lv_aload_n hx hb dL_law_1029 rfl (lv_at hl 1 rfl) ?_
  refine lv_aload_n hx hb dL_law_1030 rfl (lv_at hl 0 rfl) ?_
  refine lv_iload hx hb dL_law_1031 (lv_at hl 4 rfl) ?_
  refine lv_iconst (v := (1 : Int32)) hx hb dL_law_1033 (by decide) ?_
  refine lv_iadd hx hb dL_law_1034 ?_
  obtain ⟨hi_i_2, h⟩ := h
  refine va_sld hx hb hXs hbl hbA hS hi_i_2 dL_law_1035 ?_
  refine lv_topi (fun v_1 e_v_1 => ?_)
  have h := h v_1 e_v_1
  refine lv_aload_n hx hb dL_law_1036 rfl (lv_at hl 0 rfl) ?_
  refine lv_iload hx hb dL_law_1037 (lv_at hl 4 rfl) ?_
  refine lv_iconst (v := (2 : Int32)) hx hb dL_law_1039 (by decide) ?_
  refine lv_iadd hx hb dL_law_1040 ?_
  obtain ⟨hi_i_4, h⟩ := h
  refine va_sld hx hb hXs hbl hbA hS hi_i_4 dL_law_1041 ?_
  refine lv_topi (fun v_3 e_v_3 => ?_)
  have h := h v_3 e_v_3
  refine lv_aload_n hx hb dL_law_1042 rfl (lv_at hl 0 rfl) ?_
  refine lv_iload hx hb dL_law_1043 (lv_at hl 4 rfl) ?_
  refine lv_iconst (v := (3 : Int32)) hx hb dL_law_1045 (by decide) ?_
  refine lv_iadd hx hb dL_law_1046 ?_
  obtain ⟨hi_i_6, h⟩ := h
  refine va_sld hx hb hXs hbl hbA hS hi_i_6 dL_law_1047 ?_
  refine lv_topi (fun v_5 e_v_5 => ?_)
  have h := h v_5 e_v_5
  refine lv_aload_n hx hb dL_law_1048 rfl (lv_at hl 3 rfl) ?_
  obtain ⟨ga_8, gb_9, hga_ga_8, hgb_ga_8, h⟩ := h
  refine fl_cSX_i (As := [.ref xo, .int v_1, .int v_3, .int v_5, .ref oo]) (rest := []) ⟨hx, hb, hml, hown, hts⟩ (cc_L_separator l G hlt h) (cwSX 5 hts ggL_law_L_separator rfl rfl rfl (hts0 (.initialized RL) (List.mem_of_getElem? (i := 58) (by decide +kernel))) (hts0 (.methodLink RL 176 yL_separator) (List.mem_of_getElem? (i := 1192) (by decide +kernel))) (hts0 (.static yL_separator) (List.mem_of_getElem? (i := 1193) (by decide +kernel))) (by decide +kernel) ⟨Nat.le_of_ble_eq_true rfl, Nat.le_of_ble_eq_true rfl⟩) hK hZ hX hXN hF hF2 hd hS hA rfl hl.1 rfl (Nat.le_of_ble_eq_true rfl) dL_law_1049 ⟨by show _ ≤ 601024; omega, by show _ ≤ 7293034; omega⟩ (fun r_7 f_10 H locs h hF hF2 hd hS => ?_)
  obtain ⟨cs_11, hcs⟩ : ∃ z, z = (cs + ga_8) := ⟨_, rfl⟩; obtain ⟨sl_12, hsl⟩ : ∃ z, z = (sl + gb_9) := ⟨_, rfl⟩
  have hbc : cs_11 + (bc - ga_8) ≤ 601024 := by omega
  have hbs : sl_12 + (bs - gb_9) ≤ 7293034 := by omega
  refine W.widen (k := cs_11) (n := sl_12) (by omega) (by omega) ?_
  clear hcs hsl
  refine lv_istore (lv' := [(5, .int r_7), (0, .ref b), (1, .ref xo), (2, .ref mo), (3, .ref oo), (4, .int y4)]) hx hb dL_law_1052 hl (by decide) rfl (fun ls hl => ?_)
  refine lv_aload_n hx hb dL_law_1054 rfl (lv_at hl 3 rfl) ?_
  refine lv_aload_n hx hb dL_law_1055 rfl (lv_at hl 1 rfl) ?_
  refine lv_iload hx hb dL_law_1056 (lv_at hl 5 rfl) ?_
  refine lv_iconst (v := (1 : Int32)) hx hb dL_law_1058 (by decide) ?_
  refine lv_iadd hx hb dL_law_1059 ?_
  obtain ⟨hi_i_14, h⟩ := h
  refine va_sld hx hb hXs hbl hbA hS hi_i_14 dL_law_1060 ?_
  refine lv_topi (fun v_13 e_v_13 => ?_)
  have h := h v_13 e_v_13
  refine lv_aload_n hx hb dL_law_1061 rfl (lv_at hl 1 rfl) ?_
  refine lv_iload hx hb dL_law_1062 (lv_at hl 5 rfl) ?_
  refine lv_iconst (v := (2 : Int32)) hx hb dL_law_1064 (by decide) ?_
  refine lv_iadd hx hb dL_law_1065 ?_
  obtain ⟨hi_i_16, h⟩ := h
  refine va_sld hx hb hXs hbl hbA hS hi_i_16 dL_law_1066 ?_
  refine lv_topi (fun v_15 e_v_15 => ?_)
  have h := h v_15 e_v_15
  refine lv_aload_n hx hb dL_law_1067 rfl (lv_at hl 1 rfl) ?_
  refine lv_iload hx hb dL_law_1068 (lv_at hl 5 rfl) ?_
  refine lv_iconst (v := (3 : Int32)) hx hb dL_law_1070 (by decide) ?_
  refine lv_iadd hx hb dL_law_1071 ?_
  obtain ⟨hi_i_18, h⟩ := h
  refine va_sld hx hb hXs hbl hbA hS hi_i_18 dL_law_1072 ?_
  refine lv_topi (fun v_17 e_v_17 => ?_)
  have h := h v_17 e_v_17
  refine fl_cV_i (As := [.int v_13, .int v_15, .int v_17]) (rest := []) ⟨hx, hb, hml, hown, hts⟩ (cc_X9_separator l G had h) (⟨callB_of 3 hts ggL_law_X9_separator rfl rfl rfl (hts0 (.initialized RX9) (List.mem_of_getElem? (i := 77) (by decide +kernel))) (hts0 (.methodLink RL 179 yX9_separator) (List.mem_of_getElem? (i := 1674) (by decide +kernel))) (by decide +kernel) ⟨Nat.le_of_ble_eq_true rfl, Nat.le_of_ble_eq_true rfl⟩, (hts0 (.instanceMethod yX9_separator) (List.mem_of_getElem? (i := 1675) (by decide +kernel))), (hts0 (.selects RX9 yX9_separator yX9_separator) (List.mem_of_getElem? (i := 1676) (by decide +kernel)))⟩) rfl mf_obj hK hZ hF2 hF hd.symm hS hA rfl hl.1 rfl (Nat.le_of_ble_eq_true rfl) dL_law_1073 ⟨by show _ + 0 ≤ 601024; omega, by show _ + 0 ≤ 7293034; omega⟩ (fun r_19 f9 H locs h hF2 hF hd hS => ?_)
  have hd := hd.symm
  obtain ⟨n_20, g_21, rfl, h⟩ := h
  simp only [Nat.add_zero]
  refine lv_istore (lv' := [(6, .int r_19), (5, .int r_7), (0, .ref b), (1, .ref xo), (2, .ref mo), (3, .ref oo), (4, .int y4)]) hx hb dL_law_1076 hl (by decide) rfl (fun ls hl => ?_)
  refine lv_aload_n hx hb dL_law_1078 rfl (lv_at hl 4 rfl) ?_
  refine fl_cV_i (As := []) (rest := []) ⟨hx, hb, hml, hown, hts⟩ (cc_X9_thrown l G had h) (⟨callB_of 0 hts ggL_law_X9_thrown rfl rfl rfl (hts0 (.initialized RX9) (List.mem_of_getElem? (i := 77) (by decide +kernel))) (hts0 (.methodLink RL 108 yX9_thrown) (List.mem_of_getElem? (i := 1465) (by decide +kernel))) (by decide +kernel) ⟨Nat.le_of_ble_eq_true rfl, Nat.le_of_ble_eq_true rfl⟩, (hts0 (.instanceMethod yX9_thrown) (List.mem_of_getElem? (i := 1466) (by decide +kernel))), (hts0 (.selects RX9 yX9_thrown yX9_thrown) (List.mem_of_getElem? (i := 1467) (by decide +kernel)))⟩) rfl mf_obj hK hZ hF2 hF hd.symm hS hA rfl hl.1 rfl (Nat.le_of_ble_eq_true rfl) dL_law_1079 ⟨by show _ + 0 ≤ 601024; omega, by show _ + 0 ≤ 7293034; omega⟩ (fun r_22 f9 H locs h hF2 hF hd hS => ?_)
  have hd := hd.symm
  obtain ⟨h, e9⟩ := h; rw [e9] at hF2 hd; clear e9
  simp only [Nat.add_zero]
  refine lv_iload hx hb dL_law_1082 (lv_at hl 1 rfl) ?_
  obtain ⟨h1, h2⟩ := h
  refine lv_icmp_eq (tgt := 1089) hx hb dL_law_1084 (by decide) (fun c_23 => ?_) (fun c_23 => ?_)
  · have h := h1 c_23
    refine lv_iload hx hb dL_law_1089 (lv_at hl 1 rfl) ?_
    obtain ⟨h1, h2⟩ := h
    refine lv_if_ne (tgt := 1106) hx hb dL_law_1091 (by decide) (fun c_24 => ?_) (fun c_24 => ?_)
    · have h := h1 c_24
      refine lv_goto (tgt := 1773) hx hb dL_law_1106 (by decide) ?_
      exact hC y4 f_10 n_20 g_21 (bc - ga_8) (bs - gb_9) _ _ _ _ _ h hbc hbs hF hF2 hd hS (lv_sub hl [2, 3, 4, 5, 6] rfl)
    · have h := h2 c_24
      refine lv_aload_n hx hb dL_law_1094 rfl (lv_at hl 5 rfl) ?_
      refine lv_iconst (v := (0 : Int32)) hx hb dL_law_1095 (by decide) ?_
      obtain ⟨n_q_26, q_26, he_q_26, hi_q_26, h⟩ := h
      refine fw_lald hx hb hK hF he_q_26 hi_q_26 dL_law_1096 ?_
      refine lv_topl (fun v_25 e_v_25 => ?_)
      have h := h v_25 e_v_25
      refine lv_iload hx hb dL_law_1097 (lv_at hl 0 rfl) ?_
      refine lv_i2l (v := (Int32.toInt64 r_19)) hx hb dL_law_1099 rfl ?_
      refine W.lcmp hx hb dL_law_1100 ?_
      obtain ⟨h1, h2⟩ := h
      refine lv_if_eq (tgt := 1106) hx hb dL_law_1101 (by decide) (fun c_28 => ?_) (fun c_28 => ?_)
      · have h := h1 c_28
        refine lv_goto (tgt := 1773) hx hb dL_law_1106 (by decide) ?_
        exact hC y4 f_10 n_20 g_21 (bc - ga_8) (bs - gb_9) _ _ _ _ _ h hbc hbs hF hF2 hd hS (lv_sub hl [2, 3, 4, 5, 6] rfl)
      · have h := h2 c_28
        refine lv_iconst (v := (0 : Int32)) hx hb dL_law_1104 (by decide) ?_
        exact h.elim
  · have h := h2 c_23
    refine lv_iconst (v := (0 : Int32)) hx hb dL_law_1087 (by decide) ?_
    exact h.elim
def wp_law_c20 (zd : Nat) (xs : Nat → Int32) (L xo oo : Nat) (y4 : Int32) (f : FT) (n : Nat → Int32) (g : Nat → Nat → Int32) (bc bs : Nat) (C : Int32 × FT × (Nat → Int32) × (Nat → Nat → Int32) × Nat × Nat → Prop) : Prop :=
  vp_in (y4 + (1 : Int32)) L ∧ ∀ v_1 : Int32, v_1 = xs ((y4 + (1 : Int32))).toNatClampNeg → ∃ ga_4 gb_5 : Nat, ga_4 ≤ bc ∧ gb_5 ≤ bs ∧ wp_L_statistic xo v_1 oo f ga_4 gb_5 (fun r_3 f_6 => vp_in (y4 + (1 : Int32)) L ∧ ∀ v_9 : Int32, v_9 = xs ((y4 + (1 : Int32))).toNatClampNeg → wp_X9_statistic v_9 n g (fun r_11 n_12 g_13 => wp_X9_thrown  n_12 g_13 (fun r_14 => ((r_14 = r_3 → ((¬ r_3 = (0 : Int32) → C (y4, f_6, n_12, g_13, (bc - ga_4), (bs - gb_5))) ∧
 (r_3 = (0 : Int32) → aJ f_6 oo (0 : Int32) fun v_17 => (((lg_cmp v_17 (Int32.toInt64 r_11)) = (0 : Int32) → C (y4, f_6, n_12, g_13, (bc - ga_4), (bs - gb_5))) ∧
 (¬ ((lg_cmp v_17 (Int32.toInt64 r_11)) = (0 : Int32)) → False))))) ∧
 (¬ (r_14 = r_3) → False)))))
set_option maxHeartbeats 4000000 in
set_option maxRecDepth 100000 in
theorem law_c20 {p : Program} {l : Launch} {e : Env} {s : State} {m : MethodId} {below : List Frame} {meth : Method} {c : Code} {b L : Nat} {xs : Nat → Int32} (hlt : l.stackTraces = false) (C0 : lw_At p s m meth c b L xs) {G : GG} (hK : FK G s) (hZ : FZ G (fun q : Nat => s.heap.size ≤ q) s s.heap) (hX : FX9 G (fun q : Nat => s.heap.size ≤ q) s s.heap) (hXN : FXN s) {zd : Nat} (hzd : G.2.2 0 = zd) {xo mo oo : Nat} {ad : Nat → Nat} (had : MAd mo ad) {C : Int32 × FT × (Nat → Int32) × (Nat → Nat → Int32) × Nat × Nat → Prop} : ∀ (y4 : Int32) (f : FT) (n : Nat → Int32) (g : Nat → Nat → Int32) (bc bs : Nat) (H : Heap) (locs : List Loc) (ls : Array Slot) (cs sl : Nat), (∀ (y4 : Int32) (f : FT) (n : Nat → Int32) (g : Nat → Nat → Int32) (bc bs : Nat) (H : Heap) (locs : List Loc) (ls : Array Slot) (cs sl : Nat), C (y4, f, n, g, bc, bs) → cs + bc ≤ 601024 → sl + bs ≤ 7293034 → Fw G (fun q : Nat => s.heap.size ≤ q) f H → Fw G (fun q : Nat => s.heap.size ≤ q) (mf mo ad n g) H → dj f (mf mo ad n g) → va_S (fun q : Nat => s.heap.size ≤ q) s.heap H locs → lv_has ls 7 [(0, .ref b), (1, .ref xo), (2, .ref mo), (3, .ref oo), (4, .int y4)] → W p l e room_1 s m #[Value.ref b] below meth c H locs cs sl (lw_Z below #[Value.ref b] s) (F0 m 1773 ls [])) → wp_law_c20 zd xs L xo oo y4 f n g bc bs C → cs + bc ≤ 601024 → sl + bs ≤ 7293034 → Fw G (fun q : Nat => s.heap.size ≤ q) f H → Fw G (fun q : Nat => s.heap.size ≤ q) (mf mo ad n g) H → dj f (mf mo ad n g) → va_S (fun q : Nat => s.heap.size ≤ q) s.heap H locs → lv_has ls 7 [(0, .ref b), (1, .ref xo), (2, .ref mo), (3, .ref oo), (4, .int y4)] → W p l e room_1 s m #[Value.ref b] below meth c H locs cs sl (lw_Z below #[Value.ref b] s) (F0 m 1109 ls []) := by
  obtain ⟨hx, hb, hr, hml, hown, hts0, hXs, hbl, hlocks, hgv⟩ := id C0
  have hts : ∀ w ∈ wsL_law, w.before #[Value.ref b] s = true := fun w h => hts0 w (wsL_law_in w h)
  have hA : ∀ q : Nat, s.heap.size ≤ q → (fun q : Nat => s.heap.size ≤ q) q := fun _ h => h
  have hbA : ¬ (fun q : Nat => s.heap.size ≤ q) b := Nat.not_le.mpr hbl
  intro y4 f n g bc bs H locs ls cs sl hC h hbc hbs hF hF2 hd hS hl
  unfold wp_law_c20 at h
  refine lv_aload_n hx hb dL_law_1109 rfl (lv_at hl 1 rfl) ?_
  refine lv_aload_n hx hb dL_law_1110 rfl (lv_at hl 0 rfl) ?_
  refine lv_iload hx hb dL_law_1111 (lv_at hl 4 rfl) ?_
  refine lv_iconst (v := (1 : Int32)) hx hb dL_law_1113 (by decide) ?_
  refine lv_iadd hx hb dL_law_1114 ?_
  obtain ⟨hi_i_2, h⟩ := h
  refine va_sld hx hb hXs hbl hbA hS hi_i_2 dL_law_1115 ?_
  refine lv_topi (fun v_1 e_v_1 => ?_)
  have h := h v_1 e_v_1
  refine lv_aload_n hx hb dL_law_1116 rfl (lv_at hl 3 rfl) ?_
  obtain ⟨ga_4, gb_5, hga_ga_4, hgb_ga_4, h⟩ := h
  refine fl_cSX_i (As := [.ref xo, .int v_1, .ref oo]) (rest := []) ⟨hx, hb, hml, hown, hts⟩ (cc_L_statistic l G hlt h) (cwSX 3 hts ggL_law_L_statistic rfl rfl rfl (hts0 (.initialized RL) (List.mem_of_getElem? (i := 58) (by decide +kernel))) (hts0 (.methodLink RL 180 yL_statistic) (List.mem_of_getElem? (i := 1201) (by decide +kernel))) (hts0 (.static yL_statistic) (List.mem_of_getElem? (i := 1202) (by decide +kernel))) (by decide +kernel) ⟨Nat.le_of_ble_eq_true rfl, Nat.le_of_ble_eq_true rfl⟩) hK hZ hX hXN hF hF2 hd hS hA rfl hl.1 rfl (Nat.le_of_ble_eq_true rfl) dL_law_1117 ⟨by show _ ≤ 601024; omega, by show _ ≤ 7293034; omega⟩ (fun r_3 f_6 H locs h hF hF2 hd hS => ?_)
  obtain ⟨cs_7, hcs⟩ : ∃ z, z = (cs + ga_4) := ⟨_, rfl⟩; obtain ⟨sl_8, hsl⟩ : ∃ z, z = (sl + gb_5) := ⟨_, rfl⟩
  have hbc : cs_7 + (bc - ga_4) ≤ 601024 := by omega
  have hbs : sl_8 + (bs - gb_5) ≤ 7293034 := by omega
  refine W.widen (k := cs_7) (n := sl_8) (by omega) (by omega) ?_
  clear hcs hsl
  refine lv_istore (lv' := [(5, .int r_3), (0, .ref b), (1, .ref xo), (2, .ref mo), (3, .ref oo), (4, .int y4)]) hx hb dL_law_1120 hl (by decide) rfl (fun ls hl => ?_)
  refine lv_aload_n hx hb dL_law_1122 rfl (lv_at hl 3 rfl) ?_
  refine lv_aload_n hx hb dL_law_1123 rfl (lv_at hl 1 rfl) ?_
  refine lv_iload hx hb dL_law_1124 (lv_at hl 5 rfl) ?_
  refine lv_iconst (v := (1 : Int32)) hx hb dL_law_1126 (by decide) ?_
  refine lv_iadd hx hb dL_law_1127 ?_
  obtain ⟨hi_i_10, h⟩ := h
  refine va_sld hx hb hXs hbl hbA hS hi_i_10 dL_law_1128 ?_
  refine lv_topi (fun v_9 e_v_9 => ?_)
  have h := h v_9 e_v_9
  refine fl_cV_i (As := [.int v_9]) (rest := []) ⟨hx, hb, hml, hown, hts⟩ (cc_X9_statistic l G had h) (⟨callB_of 1 hts ggL_law_X9_statistic rfl rfl rfl (hts0 (.initialized RX9) (List.mem_of_getElem? (i := 77) (by decide +kernel))) (hts0 (.methodLink RL 182 yX9_statistic) (List.mem_of_getElem? (i := 1678) (by decide +kernel))) (by decide +kernel) ⟨Nat.le_of_ble_eq_true rfl, Nat.le_of_ble_eq_true rfl⟩, (hts0 (.instanceMethod yX9_statistic) (List.mem_of_getElem? (i := 1679) (by decide +kernel))), (hts0 (.selects RX9 yX9_statistic yX9_statistic) (List.mem_of_getElem? (i := 1680) (by decide +kernel)))⟩) rfl mf_obj hK hZ hF2 hF hd.symm hS hA rfl hl.1 rfl (Nat.le_of_ble_eq_true rfl) dL_law_1129 ⟨by show _ + 0 ≤ 601024; omega, by show _ + 0 ≤ 7293034; omega⟩ (fun r_11 f9 H locs h hF2 hF hd hS => ?_)
  have hd := hd.symm
  obtain ⟨n_12, g_13, rfl, h⟩ := h
  simp only [Nat.add_zero]
  refine lv_istore (lv' := [(6, .int r_11), (5, .int r_3), (0, .ref b), (1, .ref xo), (2, .ref mo), (3, .ref oo), (4, .int y4)]) hx hb dL_law_1132 hl (by decide) rfl (fun ls hl => ?_)
  refine lv_aload_n hx hb dL_law_1134 rfl (lv_at hl 4 rfl) ?_
  refine fl_cV_i (As := []) (rest := []) ⟨hx, hb, hml, hown, hts⟩ (cc_X9_thrown l G had h) (⟨callB_of 0 hts ggL_law_X9_thrown rfl rfl rfl (hts0 (.initialized RX9) (List.mem_of_getElem? (i := 77) (by decide +kernel))) (hts0 (.methodLink RL 108 yX9_thrown) (List.mem_of_getElem? (i := 1465) (by decide +kernel))) (by decide +kernel) ⟨Nat.le_of_ble_eq_true rfl, Nat.le_of_ble_eq_true rfl⟩, (hts0 (.instanceMethod yX9_thrown) (List.mem_of_getElem? (i := 1466) (by decide +kernel))), (hts0 (.selects RX9 yX9_thrown yX9_thrown) (List.mem_of_getElem? (i := 1467) (by decide +kernel)))⟩) rfl mf_obj hK hZ hF2 hF hd.symm hS hA rfl hl.1 rfl (Nat.le_of_ble_eq_true rfl) dL_law_1135 ⟨by show _ + 0 ≤ 601024; omega, by show _ + 0 ≤ 7293034; omega⟩ (fun r_14 f9 H locs h hF2 hF hd hS => ?_)
  have hd := hd.symm
  obtain ⟨h, e9⟩ := h; rw [e9] at hF2 hd; clear e9
  simp only [Nat.add_zero]
  refine lv_iload hx hb dL_law_1138 (lv_at hl 1 rfl) ?_
  obtain ⟨h1, h2⟩ := h
  refine lv_icmp_eq (tgt := 1145) hx hb dL_law_1140 (by decide) (fun c_15 => ?_) (fun c_15 => ?_)
  · have h := h1 c_15
    refine lv_iload hx hb dL_law_1145 (lv_at hl 1 rfl) ?_
    obtain ⟨h1, h2⟩ := h
    refine lv_if_ne (tgt := 1162) hx hb dL_law_1147 (by decide) (fun c_16 => ?_) (fun c_16 => ?_)
    · have h := h1 c_16
      refine lv_goto (tgt := 1773) hx hb dL_law_1162 (by decide) ?_
      exact hC y4 f_6 n_12 g_13 (bc - ga_4) (bs - gb_5) _ _ _ _ _ h hbc hbs hF hF2 hd hS (lv_sub hl [2, 3, 4, 5, 6] rfl)
    · have h := h2 c_16
      refine lv_aload_n hx hb dL_law_1150 rfl (lv_at hl 5 rfl) ?_
      refine lv_iconst (v := (0 : Int32)) hx hb dL_law_1151 (by decide) ?_
      obtain ⟨n_q_18, q_18, he_q_18, hi_q_18, h⟩ := h
      refine fw_lald hx hb hK hF he_q_18 hi_q_18 dL_law_1152 ?_
      refine lv_topl (fun v_17 e_v_17 => ?_)
      have h := h v_17 e_v_17
      refine lv_iload hx hb dL_law_1153 (lv_at hl 0 rfl) ?_
      refine lv_i2l (v := (Int32.toInt64 r_11)) hx hb dL_law_1155 rfl ?_
      refine W.lcmp hx hb dL_law_1156 ?_
      obtain ⟨h1, h2⟩ := h
      refine lv_if_eq (tgt := 1162) hx hb dL_law_1157 (by decide) (fun c_20 => ?_) (fun c_20 => ?_)
      · have h := h1 c_20
        refine lv_goto (tgt := 1773) hx hb dL_law_1162 (by decide) ?_
        exact hC y4 f_6 n_12 g_13 (bc - ga_4) (bs - gb_5) _ _ _ _ _ h hbc hbs hF hF2 hd hS (lv_sub hl [2, 3, 4, 5, 6] rfl)
      · have h := h2 c_20
        refine lv_iconst (v := (0 : Int32)) hx hb dL_law_1160 (by decide) ?_
        exact h.elim
  · have h := h2 c_15
    refine lv_iconst (v := (0 : Int32)) hx hb dL_law_1143 (by decide) ?_
    exact h.elim
def wp_law_c21 (zd : Nat) (xs : Nat → Int32) (L xo oo : Nat) (y4 : Int32) (f : FT) (n : Nat → Int32) (g : Nat → Nat → Int32) (bc bs : Nat) (C : Int32 × FT × (Nat → Int32) × (Nat → Nat → Int32) × Nat × Nat → Prop) : Prop :=
  isO f xo 11 ∧ wp_X8_occupancyBits xo f (fun r_1 => wp_X9_occupancyBits  n g (fun r_2 n_3 g_4 => (((lg_cmp r_1 r_2) = (0 : Int32) → C (y4, f, n_3, g_4, bc, bs)) ∧
 (¬ ((lg_cmp r_1 r_2) = (0 : Int32)) → False))))
set_option maxHeartbeats 4000000 in
set_option maxRecDepth 100000 in
theorem law_c21 {p : Program} {l : Launch} {e : Env} {s : State} {m : MethodId} {below : List Frame} {meth : Method} {c : Code} {b L : Nat} {xs : Nat → Int32} (hlt : l.stackTraces = false) (C0 : lw_At p s m meth c b L xs) {G : GG} (hK : FK G s) (hZ : FZ G (fun q : Nat => s.heap.size ≤ q) s s.heap) (hX : FX9 G (fun q : Nat => s.heap.size ≤ q) s s.heap) (hXN : FXN s) {zd : Nat} (hzd : G.2.2 0 = zd) {xo mo oo : Nat} {ad : Nat → Nat} (had : MAd mo ad) {C : Int32 × FT × (Nat → Int32) × (Nat → Nat → Int32) × Nat × Nat → Prop} : ∀ (y4 : Int32) (f : FT) (n : Nat → Int32) (g : Nat → Nat → Int32) (bc bs : Nat) (H : Heap) (locs : List Loc) (ls : Array Slot) (cs sl : Nat), (∀ (y4 : Int32) (f : FT) (n : Nat → Int32) (g : Nat → Nat → Int32) (bc bs : Nat) (H : Heap) (locs : List Loc) (ls : Array Slot) (cs sl : Nat), C (y4, f, n, g, bc, bs) → cs + bc ≤ 601024 → sl + bs ≤ 7293034 → Fw G (fun q : Nat => s.heap.size ≤ q) f H → Fw G (fun q : Nat => s.heap.size ≤ q) (mf mo ad n g) H → dj f (mf mo ad n g) → va_S (fun q : Nat => s.heap.size ≤ q) s.heap H locs → lv_has ls 7 [(0, .ref b), (1, .ref xo), (2, .ref mo), (3, .ref oo), (4, .int y4)] → W p l e room_1 s m #[Value.ref b] below meth c H locs cs sl (lw_Z below #[Value.ref b] s) (F0 m 1773 ls [])) → wp_law_c21 zd xs L xo oo y4 f n g bc bs C → cs + bc ≤ 601024 → sl + bs ≤ 7293034 → Fw G (fun q : Nat => s.heap.size ≤ q) f H → Fw G (fun q : Nat => s.heap.size ≤ q) (mf mo ad n g) H → dj f (mf mo ad n g) → va_S (fun q : Nat => s.heap.size ≤ q) s.heap H locs → lv_has ls 7 [(0, .ref b), (1, .ref xo), (2, .ref mo), (3, .ref oo), (4, .int y4)] → W p l e room_1 s m #[Value.ref b] below meth c H locs cs sl (lw_Z below #[Value.ref b] s) (F0 m 1165 ls []) := by
  obtain ⟨hx, hb, hr, hml, hown, hts0, hXs, hbl, hlocks, hgv⟩ := id C0
  have hts : ∀ w ∈ wsL_law, w.before #[Value.ref b] s = true := fun w h => hts0 w (wsL_law_in w h)
  have hA : ∀ q : Nat, s.heap.size ≤ q → (fun q : Nat => s.heap.size ≤ q) q := fun _ h => h
  have hbA : ¬ (fun q : Nat => s.heap.size ≤ q) b := Nat.not_le.mpr hbl
  intro y4 f n g bc bs H locs ls cs sl hC h hbc hbs hF hF2 hd hS hl
  unfold wp_law_c21 at h
  refine lv_aload_n hx hb dL_law_1165 rfl (lv_at hl 1 rfl) ?_
  obtain ⟨⟨fs_r_1, hrc_r_1⟩, h⟩ := h
  refine fl_cV_l (As := []) (rest := []) ⟨hx, hb, hml, hown, hts⟩ (cc_X8_occupancyBits l G h) (⟨callB_of 0 hts ggL_law_X8_occupancyBits rfl rfl rfl (hts0 (.initialized RX8) (List.mem_of_getElem? (i := 59) (by decide +kernel))) (hts0 (.methodLink RL 183 yX8_occupancyBits) (List.mem_of_getElem? (i := 575) (by decide +kernel))) (by decide +kernel) ⟨Nat.le_of_ble_eq_true rfl, Nat.le_of_ble_eq_true rfl⟩, (hts0 (.instanceMethod yX8_occupancyBits) (List.mem_of_getElem? (i := 576) (by decide +kernel))), (hts0 (.selects RX8 yX8_occupancyBits yX8_occupancyBits) (List.mem_of_getElem? (i := 577) (by decide +kernel)))⟩) rfl hrc_r_1 hK hZ hF hF2 hd hS hA rfl hl.1 rfl (Nat.le_of_ble_eq_true rfl) dL_law_1166 ⟨by show _ + 0 ≤ 601024; omega, by show _ + 0 ≤ 7293034; omega⟩ (fun r_1 f9 H locs h hF hF2 hd hS => ?_)
  obtain ⟨h, e9⟩ := h; rw [e9] at hF hd; clear e9
  simp only [Nat.add_zero]
  refine lv_aload_n hx hb dL_law_1169 rfl (lv_at hl 2 rfl) ?_
  refine fl_cV_l (As := []) (rest := [.long r_1]) ⟨hx, hb, hml, hown, hts⟩ (cc_X9_occupancyBits l G had h) (⟨callB_of 0 hts ggL_law_X9_occupancyBits rfl rfl rfl (hts0 (.initialized RX9) (List.mem_of_getElem? (i := 77) (by decide +kernel))) (hts0 (.methodLink RL 187 yX9_occupancyBits) (List.mem_of_getElem? (i := 1690) (by decide +kernel))) (by decide +kernel) ⟨Nat.le_of_ble_eq_true rfl, Nat.le_of_ble_eq_true rfl⟩, (hts0 (.instanceMethod yX9_occupancyBits) (List.mem_of_getElem? (i := 1691) (by decide +kernel))), (hts0 (.selects RX9 yX9_occupancyBits yX9_occupancyBits) (List.mem_of_getElem? (i := 1692) (by decide +kernel)))⟩) rfl mf_obj hK hZ hF2 hF hd.symm hS hA rfl hl.1 rfl (Nat.le_of_ble_eq_true rfl) dL_law_1170 ⟨by show _ + 0 ≤ 601024; omega, by show _ + 0 ≤ 7293034; omega⟩ (fun r_2 f9 H locs h hF2 hF hd hS => ?_)
  have hd := hd.symm
  obtain ⟨n_3, g_4, rfl, h⟩ := h
  simp only [Nat.add_zero]
  refine W.lcmp hx hb dL_law_1173 ?_
  obtain ⟨h1, h2⟩ := h
  refine lv_if_eq (tgt := 1773) hx hb dL_law_1174 (by decide) (fun c_6 => ?_) (fun c_6 => ?_)
  · have h := h1 c_6
    exact hC y4 f n_3 g_4 bc bs _ _ _ _ _ h hbc hbs hF hF2 hd hS (lv_sub hl [0, 1, 2, 3, 4] rfl)
  · have h := h2 c_6
    refine lv_iconst (v := (0 : Int32)) hx hb dL_law_1177 (by decide) ?_
    exact h.elim
