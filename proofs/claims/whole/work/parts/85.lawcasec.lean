set_option maxRecDepth 20000 in
theorem ggL_law_L_open : GoodIn wsL_law wsL_open := goodIn_ca (goodIn_r _ [927, 263, 928, 929, 930, 2, 931, 17, 40, 22, 932, 933, 934, 935, 269, 270, 733, 397, 398, 48, 399, 68, 379, 104, 105, 57, 106, 107, 400, 401, 402, 403, 404, 70, 405, 166, 167, 168, 169, 170, 171, 172, 173, 174, 175, 176, 177, 178, 179, 180, 75, 406, 407, 408, 38, 409, 410, 411, 412, 413, 90, 414, 352, 353, 354, 936, 937, 938, 21, 939, 206, 375, 376, 377, 378, 1148, 1149, 1150, 1151, 1152, 1153, 1154, 1155, 1156, 1191, 1192, 1193, 1194, 1195, 1196, 1197, 1198, 1210, 1211, 1214, 1215, 1216, 1209, 1199] (by decide +kernel) (by decide +kernel)) (goodIn_sub (fun _ h => List.mem_append_left _ (List.mem_append_left _ (List.mem_append_left _ (List.mem_append_right _ h)))) (by decide +kernel))
set_option maxRecDepth 20000 in
theorem ggL_law_X9_open : GoodIn wsL_law wsX9_open := goodIn_r _ [943, 248, 237, 294, 384, 944, 945, 5, 946, 295, 296, 297, 565, 566, 567, 568, 302, 543, 544, 545, 546, 547, 548, 549, 550, 241, 240, 551, 552, 553, 554, 555, 556, 561, 562, 563, 564, 1157, 1158, 1159, 1160, 1161, 1162, 1163, 1164, 1165, 1166, 1167, 1168, 1169, 1170, 1171, 1172, 1173, 1174, 1175, 1176, 1177, 1178, 1179, 1180, 1181, 1182, 1183, 1184, 1185, 1186, 1187, 1188, 1189, 1190] (by decide +kernel) (by decide +kernel)
set_option maxRecDepth 20000 in
theorem ggL_law_L_close : GoodIn wsL_law wsL_close := goodIn_ca (goodIn_r _ [949, 263, 950, 951, 952, 2, 953, 22, 932, 933, 934, 935, 269, 270, 954, 955, 956, 21, 957, 206, 936, 937, 938, 939, 1148, 1149, 1150, 1151, 1152, 1153, 1154, 1155, 1156, 1199] (by decide +kernel) (by decide +kernel)) (goodIn_sub (fun _ h => List.mem_append_left _ (List.mem_append_left _ (List.mem_append_left _ (List.mem_append_right _ h)))) (by decide +kernel))
set_option maxRecDepth 20000 in
theorem ggL_law_X9_close : GoodIn wsL_law wsX9_close := goodIn_r _ [961, 248, 944, 945, 5, 946, 295, 296, 297, 565, 566, 567, 568, 302, 561, 562, 563, 564, 1157, 1158, 1159, 1160, 1161, 1162, 1163, 1164, 1165, 1166, 1167, 1168, 1169, 1170, 1171, 1172, 1173, 1174, 1175, 1176, 1177, 1178, 1179, 1180, 1181, 1182, 1183, 1184, 1185, 1186, 1187, 1188, 1189, 1190] (by decide +kernel) (by decide +kernel)
set_option maxRecDepth 20000 in
theorem ggL_law_L_advance : GoodIn wsL_law wsL_advance := goodIn_ca (goodIn_ca (goodIn_ca (goodIn_r _ [964, 263, 264, 645, 965, 966, 967, 2, 968, 22, 17, 969, 970, 971, 972, 654, 655, 973, 974, 975, 976, 271, 272, 932, 933, 934, 935, 269, 270, 954, 955, 956, 21, 957, 206, 375, 376, 377, 48, 378, 68, 379, 104, 105, 57, 106, 107, 936, 937, 938, 939, 1148, 1149, 1150, 1151, 1152, 1153, 1154, 1155, 1156, 1191, 1192, 1193, 1194, 1195, 1196, 1197, 1198, 1199, 1210, 1211, 1214, 1215, 1216] (by decide +kernel) (by decide +kernel)) (goodIn_sub (fun _ h => List.mem_append_right _ h) (by decide +kernel))) (goodIn_sub (fun _ h => List.mem_append_left _ (List.mem_append_left _ (List.mem_append_right _ h))) (by decide +kernel))) (goodIn_sub (fun _ h => List.mem_append_left _ (List.mem_append_left _ (List.mem_append_left _ (List.mem_append_right _ h)))) (by decide +kernel))
set_option maxRecDepth 20000 in
theorem ggL_law_X9_advance : GoodIn wsL_law wsX9_advance := goodIn_r _ [980, 248, 384, 981, 982, 983, 5, 984, 944, 945, 946, 295, 296, 297, 565, 566, 567, 568, 302, 561, 562, 563, 564, 1157, 1158, 1159, 1160, 1161, 1162, 1163, 1164, 1165, 1166, 1167, 1168, 1169, 1170, 1171, 1172, 1173, 1174, 1175, 1176, 1177, 1178, 1179, 1180, 1181, 1182, 1183, 1184, 1185, 1186, 1187, 1188, 1189, 1190] (by decide +kernel) (by decide +kernel)
set_option maxRecDepth 20000 in
theorem ggL_law_L_retreat : GoodIn wsL_law wsL_retreat := goodIn_ca (goodIn_ca (goodIn_ca (goodIn_r _ [987, 263, 264, 645, 988, 989, 990, 2, 991, 654, 655, 22, 17, 973, 974, 975, 976, 271, 272, 932, 933, 934, 935, 269, 270, 954, 955, 956, 21, 957, 206, 936, 937, 938, 939, 656, 461, 462, 52, 463, 96, 95, 1148, 1149, 1150, 1151, 1152, 1153, 1154, 1155, 1156, 1191, 1192, 1193, 1194, 1195, 1196, 1197, 1198, 1199, 1212, 1213] (by decide +kernel) (by decide +kernel)) (goodIn_sub (fun _ h => List.mem_append_right _ h) (by decide +kernel))) (goodIn_sub (fun _ h => List.mem_append_left _ (List.mem_append_left _ (List.mem_append_right _ h))) (by decide +kernel))) (goodIn_sub (fun _ h => List.mem_append_left _ (List.mem_append_left _ (List.mem_append_left _ (List.mem_append_right _ h)))) (by decide +kernel))
set_option maxRecDepth 20000 in
theorem ggL_law_X9_retreat : GoodIn wsL_law wsX9_retreat := goodIn_r _ [995, 248, 242, 981, 982, 983, 5, 984, 384, 944, 945, 946, 295, 296, 297, 298, 299, 300, 301, 302, 303, 304, 305, 306, 1157, 1158, 1159, 1160, 1161, 1162, 1163, 1164, 1165, 1166, 1167, 1168, 1169, 1170, 1171, 1172, 1173, 1174, 1175, 1176, 1177, 1178, 1179, 1180, 1181, 1182, 1183, 1184, 1185, 1186, 1187, 1188, 1189, 1190] (by decide +kernel) (by decide +kernel)
set_option maxRecDepth 20000 in
theorem ggL_law_L_current : GoodIn wsL_law wsL_current := goodIn_ca (goodIn_ca (goodIn_ca (goodIn_r _ [998, 263, 264, 645, 999, 1000, 1001, 2, 1002, 17, 40, 969, 970, 971, 972, 654, 655, 973, 974, 975, 976, 271, 272, 22, 932, 933, 934, 935, 269, 270, 954, 955, 956, 21, 957, 206, 375, 376, 377, 48, 378, 68, 379, 104, 105, 57, 106, 107, 761, 401, 402, 403, 404, 70, 405, 166, 167, 168, 169, 170, 171, 172, 173, 174, 175, 176, 177, 178, 179, 180, 75, 656, 461, 462, 52, 463, 96, 95, 1148, 1149, 1150, 1151, 1152, 1153, 1154, 1155, 1156, 1191, 1192, 1193, 1194, 1195, 1196, 1197, 1198, 1199, 1210, 1211, 1214, 1215, 1216, 1212, 1213] (by decide +kernel) (by decide +kernel)) (goodIn_sub (fun _ h => List.mem_append_right _ h) (by decide +kernel))) (goodIn_sub (fun _ h => List.mem_append_left _ (List.mem_append_left _ (List.mem_append_right _ h))) (by decide +kernel))) (goodIn_sub (fun _ h => List.mem_append_left _ (List.mem_append_left _ (List.mem_append_left _ (List.mem_append_right _ h)))) (by decide +kernel))
set_option maxRecDepth 20000 in
theorem ggL_law_X9_current : GoodIn wsL_law wsX9_current := goodIn_r _ [1006, 248, 981, 982, 983, 5, 984, 384, 944, 945, 946, 295, 296, 297, 298, 299, 300, 301, 302, 766, 767, 768, 769, 240, 294, 237, 241, 242, 303, 304, 305, 306, 1157, 1158, 1159, 1160, 1161, 1162, 1163, 1164, 1165, 1166, 1167, 1168, 1169, 1170, 1171, 1172, 1173, 1174, 1175, 1176, 1177, 1178, 1179, 1180, 1181, 1182, 1183, 1184, 1185, 1186, 1187, 1188, 1189, 1190] (by decide +kernel) (by decide +kernel)
set_option maxRecDepth 20000 in
theorem ggL_law_L_removeAt : GoodIn wsL_law wsL_removeAt := goodIn_ca (goodIn_ca (goodIn_ca (goodIn_r _ [1009, 263, 264, 645, 1010, 1011, 1012, 2, 1013, 30, 969, 970, 971, 972, 654, 655, 17, 973, 974, 975, 976, 271, 272, 22, 932, 933, 934, 935, 269, 270, 954, 955, 956, 21, 957, 206, 375, 376, 377, 48, 378, 68, 379, 104, 105, 57, 106, 107, 668, 669, 670, 29, 671, 223, 224, 672, 461, 462, 52, 463, 96, 95, 673, 161, 162, 16, 163, 58, 164, 59, 103, 165, 166, 167, 168, 169, 170, 171, 172, 173, 174, 175, 176, 177, 178, 179, 180, 75, 674, 492, 493, 494, 495, 675, 676, 677, 678, 679, 680, 681, 682, 683, 684, 685, 686, 112, 113, 436, 157, 158, 159, 687, 688, 689, 690, 691, 444, 445, 446, 447, 127, 128, 129, 692, 693, 694, 695, 696, 488, 489, 490, 160, 491, 697, 698, 699, 700, 701, 453, 454, 455, 456, 457, 458, 459, 460, 464, 465, 466, 467, 468, 469, 470, 471, 61, 49, 472, 401, 402, 403, 404, 70, 405, 473, 474, 475, 476, 54, 477, 274, 275, 38, 276, 90, 478, 411, 412, 413, 702, 484, 485, 486, 62, 487, 703, 704, 705, 706, 222, 707, 708, 709, 710, 522, 523, 524, 1148, 1149, 1150, 1151, 1152, 1153, 1154, 1155, 1156, 1191, 1192, 1193, 1194, 1195, 1196, 1197, 1198, 1199, 1210, 1211, 1214, 1215, 1216, 1204, 1205, 1206, 1212, 1213, 1209] (by decide +kernel) (by decide +kernel)) (goodIn_sub (fun _ h => List.mem_append_right _ h) (by decide +kernel))) (goodIn_sub (fun _ h => List.mem_append_left _ (List.mem_append_left _ (List.mem_append_right _ h))) (by decide +kernel))) (goodIn_sub (fun _ h => List.mem_append_left _ (List.mem_append_left _ (List.mem_append_left _ (List.mem_append_right _ h)))) (by decide +kernel))
set_option maxRecDepth 20000 in
theorem ggL_law_X9_removeAt : GoodIn wsL_law wsX9_removeAt := goodIn_r _ [1017, 248, 981, 982, 983, 5, 984, 384, 944, 945, 946, 295, 296, 297, 298, 299, 300, 301, 302, 715, 716, 717, 718, 242, 245, 243, 719, 617, 618, 619, 620, 577, 578, 579, 584, 585, 586, 587, 240, 241, 720, 721, 722, 723, 239, 592, 593, 594, 595, 573, 574, 575, 576, 596, 597, 598, 599, 600, 601, 602, 603, 554, 555, 556, 604, 605, 606, 607, 247, 246, 580, 581, 582, 583, 613, 614, 615, 616, 244, 724, 725, 726, 727, 625, 626, 627, 628, 303, 304, 305, 306, 1157, 1158, 1159, 1160, 1161, 1162, 1163, 1164, 1165, 1166, 1167, 1168, 1169, 1170, 1171, 1172, 1173, 1174, 1175, 1176, 1177, 1178, 1179, 1180, 1181, 1182, 1183, 1184, 1185, 1186, 1187, 1188, 1189, 1190] (by decide +kernel) (by decide +kernel)
set_option maxRecDepth 20000 in
theorem ggL_law_L_distance : GoodIn wsL_law wsL_distance := goodIn_ca (goodIn_ca (goodIn_r _ [1020, 263, 264, 1021, 1022, 1023, 2, 1024, 932, 933, 934, 935, 269, 270, 973, 974, 975, 976, 271, 272, 22, 954, 955, 956, 21, 957, 206, 1148, 1149, 1150, 1151, 1152, 1153, 1154, 1155, 1156, 1199] (by decide +kernel) (by decide +kernel)) (goodIn_sub (fun _ h => List.mem_append_left _ (List.mem_append_left _ (List.mem_append_left _ (List.mem_append_right _ h)))) (by decide +kernel))) (goodIn_sub (fun _ h => List.mem_append_left _ (List.mem_append_left _ (List.mem_append_right _ h))) (by decide +kernel))
set_option maxRecDepth 20000 in
theorem ggL_law_X9_distance : GoodIn wsL_law wsX9_distance := goodIn_r _ [1028, 248, 944, 945, 5, 946, 295, 296, 297, 298, 299, 300, 301, 302, 303, 304, 305, 306, 1157, 1158, 1159, 1160, 1161, 1162, 1163, 1164, 1165, 1166, 1167, 1168, 1169, 1170, 1171, 1172, 1173, 1174, 1175, 1176, 1177, 1178, 1179, 1180, 1181, 1182, 1183, 1184, 1185, 1186, 1187, 1188, 1189, 1190] (by decide +kernel) (by decide +kernel)
set_option maxRecDepth 20000 in
theorem ggL_law_L_queue : GoodIn wsL_law wsL_queue := goodIn_ca (goodIn_r _ [1031, 264, 1032, 1033, 1034, 2, 1035, 271, 272, 34, 40, 375, 376, 377, 48, 378, 68, 379, 104, 105, 57, 106, 107, 1036, 1037, 1038, 33, 1039, 229, 1040, 1041, 401, 402, 403, 404, 70, 405, 166, 167, 168, 169, 170, 171, 172, 173, 174, 175, 176, 177, 178, 179, 180, 75, 1042, 407, 408, 38, 409, 410, 411, 412, 413, 90, 414, 352, 353, 354, 1043, 1044, 1045, 1046, 231, 1047, 1048, 1049, 1050, 1051, 109, 110, 111, 112, 113, 114, 115, 116, 117, 118, 119, 120, 121, 122, 123, 124, 125, 74, 126, 127, 128, 129, 130, 131, 132, 133, 134, 135, 136, 137, 138, 139, 140, 141, 142, 143, 144, 145, 146, 147, 148, 149, 150, 151, 152, 153, 154, 155, 156, 157, 158, 159, 1052, 186, 187, 52, 188, 96, 189, 190, 191, 192, 95, 193, 194, 195, 196, 197, 198, 199, 200, 201, 94, 1148, 1149, 1150, 1151, 1152, 1153, 1154, 1155, 1156, 1207, 1208, 1210, 1211, 1214, 1215, 1216, 1209, 1212, 1213] (by decide +kernel) (by decide +kernel)) (goodIn_sub (fun _ h => List.mem_append_left _ (List.mem_append_left _ (List.mem_append_right _ h))) (by decide +kernel))
set_option maxRecDepth 20000 in
theorem ggL_law_X9_queue : GoodIn wsL_law wsX9_queue := goodIn_r _ [1056, 1057, 250, 249, 237, 294, 251, 551, 552, 5, 553, 554, 555, 556, 298, 299, 300, 301, 302, 303, 304, 305, 306, 1157, 1158, 1159, 1160, 1161, 1162, 1163, 1164, 1165, 1166, 1167, 1168, 1169, 1170, 1171, 1172, 1173, 1174, 1175, 1176, 1177, 1178, 1179, 1180, 1181, 1182, 1183, 1184, 1185, 1186, 1187, 1188, 1189, 1190] (by decide +kernel) (by decide +kernel)
set_option maxRecDepth 20000 in
theorem ggL_law_L_load : GoodIn wsL_law wsL_load := goodIn_ca (goodIn_r _ [1060, 263, 1061, 1062, 1063, 2, 1064, 269, 270, 34, 17, 22, 1065, 1066, 1067, 33, 1068, 229, 231, 1069, 1070, 1071, 48, 1072, 68, 404, 1073, 1074, 1075, 57, 1076, 112, 113, 75, 107, 379, 104, 105, 106, 405, 166, 167, 168, 169, 170, 171, 172, 173, 174, 175, 176, 177, 178, 179, 180, 1051, 109, 110, 111, 114, 115, 116, 117, 118, 119, 120, 121, 122, 123, 124, 125, 74, 126, 127, 128, 129, 130, 131, 132, 133, 134, 135, 136, 137, 138, 139, 140, 141, 142, 143, 144, 145, 146, 147, 148, 149, 150, 151, 152, 153, 154, 155, 156, 157, 158, 159, 1077, 1078, 1079, 52, 1080, 96, 495, 461, 462, 463, 95, 1081, 186, 187, 188, 189, 190, 191, 192, 193, 194, 195, 196, 197, 198, 199, 200, 201, 94, 1082, 1083, 1084, 1085, 1040, 376, 377, 378, 1086, 1087, 1088, 1089, 1090, 100, 101, 16, 102, 62, 58, 50, 51, 103, 91, 92, 93, 12, 13, 108, 160, 161, 162, 163, 164, 59, 165, 181, 182, 183, 184, 1091, 469, 470, 471, 61, 49, 472, 401, 402, 403, 70, 473, 474, 475, 476, 54, 460, 477, 274, 275, 38, 276, 90, 478, 411, 412, 413, 1052, 1092, 814, 815, 816, 817, 818, 819, 820, 1093, 457, 458, 459, 1094, 505, 506, 507, 508, 332, 333, 334, 281, 37, 335, 336, 282, 283, 284, 285, 286, 287, 288, 39, 289, 87, 88, 89, 1047, 1048, 1049, 1050, 1095, 1096, 1097, 1098, 1099, 1100, 1101, 1102, 21, 1103, 206, 207, 208, 209, 881, 882, 883, 884, 885, 1148, 1149, 1150, 1151, 1152, 1153, 1154, 1155, 1156, 1191, 1192, 1193, 1194, 1195, 1196, 1197, 1198, 1207, 1208, 1210, 1211, 1214, 1215, 1216, 1212, 1213, 1209, 1199] (by decide +kernel) (by decide +kernel)) (goodIn_sub (fun _ h => List.mem_append_left _ (List.mem_append_left _ (List.mem_append_left _ (List.mem_append_right _ h)))) (by decide +kernel))
set_option maxRecDepth 20000 in
theorem ggL_law_X9_load : GoodIn wsL_law wsX9_load := goodIn_r _ [1107, 1057, 384, 240, 249, 242, 251, 241, 250, 239, 243, 244, 245, 295, 296, 5, 297, 298, 299, 300, 301, 302, 1108, 1109, 1110, 1111, 248, 1112, 1113, 1114, 1115, 596, 597, 598, 599, 600, 601, 602, 603, 554, 555, 556, 604, 605, 606, 607, 247, 246, 580, 581, 582, 583, 573, 574, 575, 576, 577, 578, 579, 621, 622, 623, 624, 625, 626, 627, 628, 894, 895, 896, 897, 303, 304, 305, 306, 1157, 1158, 1159, 1160, 1161, 1162, 1163, 1164, 1165, 1166, 1167, 1168, 1169, 1170, 1171, 1172, 1173, 1174, 1175, 1176, 1177, 1178, 1179, 1180, 1181, 1182, 1183, 1184, 1185, 1186, 1187, 1188, 1189, 1190] (by decide +kernel) (by decide +kernel)
set_option maxRecDepth 20000 in
theorem ggL_law_X8_saveSnapshot : GoodIn wsL_law wsX8_saveSnapshot := goodIn_r _ [1119, 18, 17, 35, 1120, 1121, 1122, 16, 1123, 49, 53, 54, 63, 62, 1124, 1070, 1071, 48, 1072, 68, 404, 1073, 1074, 1075, 57, 1076, 112, 113, 75, 107, 379, 104, 105, 106, 405, 166, 167, 168, 169, 170, 171, 172, 173, 174, 175, 176, 177, 178, 179, 180, 1051, 109, 110, 111, 114, 115, 116, 117, 118, 119, 120, 121, 122, 123, 124, 125, 74, 126, 127, 128, 129, 130, 131, 132, 133, 134, 135, 136, 137, 138, 139, 140, 141, 142, 143, 144, 145, 146, 147, 148, 149, 150, 151, 152, 153, 154, 155, 156, 157, 158, 159, 1125, 1078, 1079, 52, 1080, 96, 495, 461, 462, 463, 95, 1081, 186, 187, 188, 189, 190, 191, 192, 193, 194, 195, 196, 197, 198, 199, 200, 201, 94, 99, 100, 101, 102, 58, 50, 51, 103, 91, 92, 93, 12, 13, 108, 160, 161, 162, 163, 164, 59, 165, 181, 182, 183, 184, 375, 376, 377, 378, 1148, 1149, 1150, 1151, 1152, 1153, 1154, 1155, 1156, 1191, 1192, 1193, 1194, 1195, 1196, 1197, 1198, 1210, 1211, 1214, 1215, 1216, 1212, 1213] (by decide +kernel) (by decide +kernel)
set_option maxRecDepth 20000 in
theorem ggL_law_X9_saveSnapshot : GoodIn wsL_law wsX9_saveSnapshot := goodIn_r _ [1129, 1130, 239, 1131, 384, 1132, 243, 1133, 240, 252, 241, 253, 242, 254, 244, 255, 245, 256, 246, 257, 247, 258, 1134, 1135, 5, 1136, 303, 304, 305, 306, 302, 1157, 1158, 1159, 1160, 1161, 1162, 1163, 1164, 1165, 1166, 1167, 1168, 1169, 1170, 1171, 1172, 1173, 1174, 1175, 1176, 1177, 1178, 1179, 1180, 1181, 1182, 1183, 1184, 1185, 1186, 1187, 1188, 1189, 1190] (by decide +kernel) (by decide +kernel)
set_option maxRecDepth 20000 in
theorem ggL_law_L_restoreSnapshot : GoodIn wsL_law wsL_restoreSnapshot := goodIn_ca (goodIn_r _ [1139, 264, 1140, 1141, 1142, 2, 1143, 271, 272, 35, 17, 18, 22, 1120, 1121, 1122, 16, 1123, 49, 53, 54, 63, 62, 1124, 1070, 1071, 48, 1072, 68, 404, 1073, 1074, 1075, 57, 1076, 112, 113, 75, 107, 379, 104, 105, 106, 405, 166, 167, 168, 169, 170, 171, 172, 173, 174, 175, 176, 177, 178, 179, 180, 1051, 109, 110, 111, 114, 115, 116, 117, 118, 119, 120, 121, 122, 123, 124, 125, 74, 126, 127, 128, 129, 130, 131, 132, 133, 134, 135, 136, 137, 138, 139, 140, 141, 142, 143, 144, 145, 146, 147, 148, 149, 150, 151, 152, 153, 154, 155, 156, 157, 158, 159, 1125, 1078, 1079, 52, 1080, 96, 495, 461, 462, 463, 95, 1081, 186, 187, 188, 189, 190, 191, 192, 193, 194, 195, 196, 197, 198, 199, 200, 201, 94, 99, 100, 101, 102, 58, 50, 51, 103, 91, 92, 93, 12, 13, 108, 160, 161, 162, 163, 164, 59, 165, 181, 182, 183, 184, 1100, 1101, 1102, 21, 1103, 206, 207, 208, 209, 375, 376, 377, 378, 1148, 1149, 1150, 1151, 1152, 1153, 1154, 1155, 1156, 1191, 1192, 1193, 1194, 1195, 1196, 1197, 1198, 1210, 1211, 1214, 1215, 1216, 1212, 1213, 1199] (by decide +kernel) (by decide +kernel)) (goodIn_sub (fun _ h => List.mem_append_left _ (List.mem_append_left _ (List.mem_append_right _ h))) (by decide +kernel))
set_option maxRecDepth 20000 in
theorem ggL_law_X9_restoreSnapshot : GoodIn wsL_law wsX9_restoreSnapshot := goodIn_r _ [1147, 1130, 1131, 239, 1132, 384, 1133, 243, 252, 240, 253, 241, 254, 242, 255, 244, 256, 245, 257, 246, 258, 247, 298, 299, 300, 5, 301, 302, 1134, 1135, 1136, 1108, 1109, 1110, 1111, 248, 303, 304, 305, 306, 1157, 1158, 1159, 1160, 1161, 1162, 1163, 1164, 1165, 1166, 1167, 1168, 1169, 1170, 1171, 1172, 1173, 1174, 1175, 1176, 1177, 1178, 1179, 1180, 1181, 1182, 1183, 1184, 1185, 1186, 1187, 1188, 1189, 1190] (by decide +kernel) (by decide +kernel)
theorem dL_law_1179 : decode code 1179 = .ok (.aload_n 1, 1) := by decide +kernel
theorem dL_law_1180 : decode code 1180 = .ok (.aload_n 0, 1) := by decide +kernel
theorem dL_law_1181 : decode code 1181 = .ok (.iload 4, 2) := by decide +kernel
theorem dL_law_1183 : decode code 1183 = .ok (.iconst 1, 1) := by decide +kernel
theorem dL_law_1184 : decode code 1184 = .ok (.iadd, 1) := by decide +kernel
theorem dL_law_1185 : decode code 1185 = .ok (.iaload, 1) := by decide +kernel
theorem dL_law_1186 : decode code 1186 = .ok (.aload_n 3, 1) := by decide +kernel
theorem dL_law_1187 : decode code 1187 = .ok (.invokestatic 188, 3) := by decide +kernel
theorem dL_law_1190 : decode code 1190 = .ok (.istore 5, 2) := by decide +kernel
theorem dL_law_1192 : decode code 1192 = .ok (.aload_n 2, 1) := by decide +kernel
theorem dL_law_1193 : decode code 1193 = .ok (.aload_n 0, 1) := by decide +kernel
theorem dL_law_1194 : decode code 1194 = .ok (.iload 4, 2) := by decide +kernel
theorem dL_law_1196 : decode code 1196 = .ok (.iconst 1, 1) := by decide +kernel
theorem dL_law_1197 : decode code 1197 = .ok (.iadd, 1) := by decide +kernel
theorem dL_law_1198 : decode code 1198 = .ok (.iaload, 1) := by decide +kernel
theorem dL_law_1199 : decode code 1199 = .ok (.invokevirtual 190, 3) := by decide +kernel
theorem dL_law_1202 : decode code 1202 = .ok (.istore 6, 2) := by decide +kernel
theorem dL_law_1204 : decode code 1204 = .ok (.aload_n 2, 1) := by decide +kernel
theorem dL_law_1205 : decode code 1205 = .ok (.invokevirtual 108, 3) := by decide +kernel
theorem dL_law_1208 : decode code 1208 = .ok (.iload 5, 2) := by decide +kernel
theorem dL_law_1210 : decode code 1210 = .ok (.if_icmp .eq 5, 3) := by decide +kernel
theorem dL_law_1213 : decode code 1213 = .ok (.iconst 0, 1) := by decide +kernel
theorem dL_law_1215 : decode code 1215 = .ok (.iload 5, 2) := by decide +kernel
theorem dL_law_1217 : decode code 1217 = .ok (.ifCond .ne 22, 3) := by decide +kernel
theorem dL_law_1220 : decode code 1220 = .ok (.aload_n 3, 1) := by decide +kernel
theorem dL_law_1221 : decode code 1221 = .ok (.iconst 0, 1) := by decide +kernel
theorem dL_law_1222 : decode code 1222 = .ok (.laload, 1) := by decide +kernel
theorem dL_law_1223 : decode code 1223 = .ok (.iload 6, 2) := by decide +kernel
theorem dL_law_1225 : decode code 1225 = .ok (.ifCond .eq 7, 3) := by decide +kernel
theorem dL_law_1228 : decode code 1228 = .ok (.lconst 1, 1) := by decide +kernel
theorem dL_law_1229 : decode code 1229 = .ok (.goto 4, 3) := by decide +kernel
theorem dL_law_1232 : decode code 1232 = .ok (.lconst 0, 1) := by decide +kernel
theorem dL_law_1233 : decode code 1233 = .ok (.lcmp, 1) := by decide +kernel
theorem dL_law_1234 : decode code 1234 = .ok (.ifCond .eq 5, 3) := by decide +kernel
theorem dL_law_1237 : decode code 1237 = .ok (.iconst 0, 1) := by decide +kernel
theorem dL_law_1239 : decode code 1239 = .ok (.goto 534, 3) := by decide +kernel
theorem dL_law_1242 : decode code 1242 = .ok (.aload_n 1, 1) := by decide +kernel
theorem dL_law_1243 : decode code 1243 = .ok (.aload_n 0, 1) := by decide +kernel
theorem dL_law_1244 : decode code 1244 = .ok (.iload 4, 2) := by decide +kernel
theorem dL_law_1246 : decode code 1246 = .ok (.iconst 1, 1) := by decide +kernel
theorem dL_law_1247 : decode code 1247 = .ok (.iadd, 1) := by decide +kernel
theorem dL_law_1248 : decode code 1248 = .ok (.iaload, 1) := by decide +kernel
theorem dL_law_1249 : decode code 1249 = .ok (.aload_n 3, 1) := by decide +kernel
theorem dL_law_1250 : decode code 1250 = .ok (.invokestatic 191, 3) := by decide +kernel
theorem dL_law_1253 : decode code 1253 = .ok (.istore 5, 2) := by decide +kernel
theorem dL_law_1255 : decode code 1255 = .ok (.aload_n 2, 1) := by decide +kernel
theorem dL_law_1256 : decode code 1256 = .ok (.aload_n 0, 1) := by decide +kernel
theorem dL_law_1257 : decode code 1257 = .ok (.iload 4, 2) := by decide +kernel
theorem dL_law_1259 : decode code 1259 = .ok (.iconst 1, 1) := by decide +kernel
theorem dL_law_1260 : decode code 1260 = .ok (.iadd, 1) := by decide +kernel
theorem dL_law_1261 : decode code 1261 = .ok (.iaload, 1) := by decide +kernel
theorem dL_law_1262 : decode code 1262 = .ok (.invokevirtual 193, 3) := by decide +kernel
theorem dL_law_1265 : decode code 1265 = .ok (.istore 6, 2) := by decide +kernel
theorem dL_law_1267 : decode code 1267 = .ok (.aload_n 2, 1) := by decide +kernel
theorem dL_law_1268 : decode code 1268 = .ok (.invokevirtual 108, 3) := by decide +kernel
theorem dL_law_1271 : decode code 1271 = .ok (.iload 5, 2) := by decide +kernel
theorem dL_law_1273 : decode code 1273 = .ok (.if_icmp .eq 5, 3) := by decide +kernel
theorem dL_law_1276 : decode code 1276 = .ok (.iconst 0, 1) := by decide +kernel
theorem dL_law_1278 : decode code 1278 = .ok (.iload 5, 2) := by decide +kernel
theorem dL_law_1280 : decode code 1280 = .ok (.ifCond .ne 22, 3) := by decide +kernel
theorem dL_law_1283 : decode code 1283 = .ok (.aload_n 3, 1) := by decide +kernel
theorem dL_law_1284 : decode code 1284 = .ok (.iconst 0, 1) := by decide +kernel
theorem dL_law_1285 : decode code 1285 = .ok (.laload, 1) := by decide +kernel
theorem dL_law_1286 : decode code 1286 = .ok (.iload 6, 2) := by decide +kernel
theorem dL_law_1288 : decode code 1288 = .ok (.ifCond .eq 7, 3) := by decide +kernel
theorem dL_law_1291 : decode code 1291 = .ok (.lconst 1, 1) := by decide +kernel
theorem dL_law_1292 : decode code 1292 = .ok (.goto 4, 3) := by decide +kernel
theorem dL_law_1295 : decode code 1295 = .ok (.lconst 0, 1) := by decide +kernel
theorem dL_law_1296 : decode code 1296 = .ok (.lcmp, 1) := by decide +kernel
theorem dL_law_1297 : decode code 1297 = .ok (.ifCond .eq 5, 3) := by decide +kernel
theorem dL_law_1300 : decode code 1300 = .ok (.iconst 0, 1) := by decide +kernel
theorem dL_law_1302 : decode code 1302 = .ok (.goto 471, 3) := by decide +kernel
theorem dL_law_1305 : decode code 1305 = .ok (.aload_n 1, 1) := by decide +kernel
theorem dL_law_1306 : decode code 1306 = .ok (.aload_n 0, 1) := by decide +kernel
theorem dL_law_1307 : decode code 1307 = .ok (.iload 4, 2) := by decide +kernel
theorem dL_law_1309 : decode code 1309 = .ok (.iconst 1, 1) := by decide +kernel
theorem dL_law_1310 : decode code 1310 = .ok (.iadd, 1) := by decide +kernel
theorem dL_law_1311 : decode code 1311 = .ok (.iaload, 1) := by decide +kernel
theorem dL_law_1312 : decode code 1312 = .ok (.aload_n 3, 1) := by decide +kernel
theorem dL_law_1313 : decode code 1313 = .ok (.invokestatic 194, 3) := by decide +kernel
theorem dL_law_1316 : decode code 1316 = .ok (.istore 5, 2) := by decide +kernel
theorem dL_law_1318 : decode code 1318 = .ok (.aload_n 2, 1) := by decide +kernel
theorem dL_law_1319 : decode code 1319 = .ok (.aload_n 0, 1) := by decide +kernel
theorem dL_law_1320 : decode code 1320 = .ok (.iload 4, 2) := by decide +kernel
theorem dL_law_1322 : decode code 1322 = .ok (.iconst 1, 1) := by decide +kernel
theorem dL_law_1323 : decode code 1323 = .ok (.iadd, 1) := by decide +kernel
theorem dL_law_1324 : decode code 1324 = .ok (.iaload, 1) := by decide +kernel
theorem dL_law_1325 : decode code 1325 = .ok (.invokevirtual 196, 3) := by decide +kernel
theorem dL_law_1328 : decode code 1328 = .ok (.istore 6, 2) := by decide +kernel
theorem dL_law_1330 : decode code 1330 = .ok (.aload_n 2, 1) := by decide +kernel
theorem dL_law_1331 : decode code 1331 = .ok (.invokevirtual 108, 3) := by decide +kernel
theorem dL_law_1334 : decode code 1334 = .ok (.iload 5, 2) := by decide +kernel
theorem dL_law_1336 : decode code 1336 = .ok (.if_icmp .eq 5, 3) := by decide +kernel
theorem dL_law_1339 : decode code 1339 = .ok (.iconst 0, 1) := by decide +kernel
theorem dL_law_1341 : decode code 1341 = .ok (.iload 5, 2) := by decide +kernel
theorem dL_law_1343 : decode code 1343 = .ok (.ifCond .ne 22, 3) := by decide +kernel
theorem dL_law_1346 : decode code 1346 = .ok (.aload_n 3, 1) := by decide +kernel
theorem dL_law_1347 : decode code 1347 = .ok (.iconst 0, 1) := by decide +kernel
theorem dL_law_1348 : decode code 1348 = .ok (.laload, 1) := by decide +kernel
theorem dL_law_1349 : decode code 1349 = .ok (.iload 6, 2) := by decide +kernel
theorem dL_law_1351 : decode code 1351 = .ok (.ifCond .eq 7, 3) := by decide +kernel
theorem dL_law_1354 : decode code 1354 = .ok (.lconst 1, 1) := by decide +kernel
theorem dL_law_1355 : decode code 1355 = .ok (.goto 4, 3) := by decide +kernel
theorem dL_law_1358 : decode code 1358 = .ok (.lconst 0, 1) := by decide +kernel
theorem dL_law_1359 : decode code 1359 = .ok (.lcmp, 1) := by decide +kernel
theorem dL_law_1360 : decode code 1360 = .ok (.ifCond .eq 5, 3) := by decide +kernel
theorem dL_law_1363 : decode code 1363 = .ok (.iconst 0, 1) := by decide +kernel
theorem dL_law_1365 : decode code 1365 = .ok (.goto 408, 3) := by decide +kernel
theorem dL_law_1368 : decode code 1368 = .ok (.aload_n 1, 1) := by decide +kernel
theorem dL_law_1369 : decode code 1369 = .ok (.aload_n 0, 1) := by decide +kernel
theorem dL_law_1370 : decode code 1370 = .ok (.iload 4, 2) := by decide +kernel
theorem dL_law_1372 : decode code 1372 = .ok (.iconst 1, 1) := by decide +kernel
theorem dL_law_1373 : decode code 1373 = .ok (.iadd, 1) := by decide +kernel
theorem dL_law_1374 : decode code 1374 = .ok (.iaload, 1) := by decide +kernel
theorem dL_law_1375 : decode code 1375 = .ok (.aload_n 3, 1) := by decide +kernel
theorem dL_law_1376 : decode code 1376 = .ok (.invokestatic 197, 3) := by decide +kernel
theorem dL_law_1379 : decode code 1379 = .ok (.istore 5, 2) := by decide +kernel
theorem dL_law_1381 : decode code 1381 = .ok (.aload_n 2, 1) := by decide +kernel
theorem dL_law_1382 : decode code 1382 = .ok (.aload_n 0, 1) := by decide +kernel
theorem dL_law_1383 : decode code 1383 = .ok (.iload 4, 2) := by decide +kernel
theorem dL_law_1385 : decode code 1385 = .ok (.iconst 1, 1) := by decide +kernel
theorem dL_law_1386 : decode code 1386 = .ok (.iadd, 1) := by decide +kernel
theorem dL_law_1387 : decode code 1387 = .ok (.iaload, 1) := by decide +kernel
theorem dL_law_1388 : decode code 1388 = .ok (.invokevirtual 199, 3) := by decide +kernel
theorem dL_law_1391 : decode code 1391 = .ok (.istore 6, 2) := by decide +kernel
theorem dL_law_1393 : decode code 1393 = .ok (.aload_n 2, 1) := by decide +kernel
theorem dL_law_1394 : decode code 1394 = .ok (.invokevirtual 108, 3) := by decide +kernel
theorem dL_law_1397 : decode code 1397 = .ok (.iload 5, 2) := by decide +kernel
theorem dL_law_1399 : decode code 1399 = .ok (.if_icmp .eq 5, 3) := by decide +kernel
theorem dL_law_1402 : decode code 1402 = .ok (.iconst 0, 1) := by decide +kernel
theorem dL_law_1404 : decode code 1404 = .ok (.iload 5, 2) := by decide +kernel
theorem dL_law_1406 : decode code 1406 = .ok (.ifCond .ne 15, 3) := by decide +kernel
theorem dL_law_1409 : decode code 1409 = .ok (.aload_n 3, 1) := by decide +kernel
theorem dL_law_1410 : decode code 1410 = .ok (.iconst 0, 1) := by decide +kernel
theorem dL_law_1411 : decode code 1411 = .ok (.laload, 1) := by decide +kernel
theorem dL_law_1412 : decode code 1412 = .ok (.iload 6, 2) := by decide +kernel
theorem dL_law_1414 : decode code 1414 = .ok (.i2l, 1) := by decide +kernel
theorem dL_law_1415 : decode code 1415 = .ok (.lcmp, 1) := by decide +kernel
theorem dL_law_1416 : decode code 1416 = .ok (.ifCond .eq 5, 3) := by decide +kernel
theorem dL_law_1419 : decode code 1419 = .ok (.iconst 0, 1) := by decide +kernel
theorem dL_law_1421 : decode code 1421 = .ok (.goto 352, 3) := by decide +kernel
theorem dL_law_1424 : decode code 1424 = .ok (.aload_n 1, 1) := by decide +kernel
theorem dL_law_1425 : decode code 1425 = .ok (.aload_n 0, 1) := by decide +kernel
theorem dL_law_1426 : decode code 1426 = .ok (.iload 4, 2) := by decide +kernel
theorem dL_law_1428 : decode code 1428 = .ok (.iconst 1, 1) := by decide +kernel
theorem dL_law_1429 : decode code 1429 = .ok (.iadd, 1) := by decide +kernel
theorem dL_law_1430 : decode code 1430 = .ok (.iaload, 1) := by decide +kernel
theorem dL_law_1431 : decode code 1431 = .ok (.aload_n 3, 1) := by decide +kernel
theorem dL_law_1432 : decode code 1432 = .ok (.invokestatic 200, 3) := by decide +kernel
theorem dL_law_1435 : decode code 1435 = .ok (.istore 5, 2) := by decide +kernel
theorem dL_law_1437 : decode code 1437 = .ok (.aload_n 2, 1) := by decide +kernel
theorem dL_law_1438 : decode code 1438 = .ok (.aload_n 0, 1) := by decide +kernel
theorem dL_law_1439 : decode code 1439 = .ok (.iload 4, 2) := by decide +kernel
theorem dL_law_1441 : decode code 1441 = .ok (.iconst 1, 1) := by decide +kernel
theorem dL_law_1442 : decode code 1442 = .ok (.iadd, 1) := by decide +kernel
theorem dL_law_1443 : decode code 1443 = .ok (.iaload, 1) := by decide +kernel
theorem dL_law_1444 : decode code 1444 = .ok (.invokevirtual 202, 3) := by decide +kernel
theorem dL_law_1447 : decode code 1447 = .ok (.istore 6, 2) := by decide +kernel
theorem dL_law_1449 : decode code 1449 = .ok (.aload_n 2, 1) := by decide +kernel
theorem dL_law_1450 : decode code 1450 = .ok (.invokevirtual 108, 3) := by decide +kernel
theorem dL_law_1453 : decode code 1453 = .ok (.iload 5, 2) := by decide +kernel
theorem dL_law_1455 : decode code 1455 = .ok (.if_icmp .eq 5, 3) := by decide +kernel
theorem dL_law_1458 : decode code 1458 = .ok (.iconst 0, 1) := by decide +kernel
theorem dL_law_1460 : decode code 1460 = .ok (.iload 5, 2) := by decide +kernel
theorem dL_law_1462 : decode code 1462 = .ok (.ifCond .ne 15, 3) := by decide +kernel
theorem dL_law_1465 : decode code 1465 = .ok (.aload_n 3, 1) := by decide +kernel
theorem dL_law_1466 : decode code 1466 = .ok (.iconst 0, 1) := by decide +kernel
theorem dL_law_1467 : decode code 1467 = .ok (.laload, 1) := by decide +kernel
theorem dL_law_1468 : decode code 1468 = .ok (.iload 6, 2) := by decide +kernel
theorem dL_law_1470 : decode code 1470 = .ok (.i2l, 1) := by decide +kernel
theorem dL_law_1471 : decode code 1471 = .ok (.lcmp, 1) := by decide +kernel
theorem dL_law_1472 : decode code 1472 = .ok (.ifCond .eq 5, 3) := by decide +kernel
theorem dL_law_1475 : decode code 1475 = .ok (.iconst 0, 1) := by decide +kernel
theorem dL_law_1477 : decode code 1477 = .ok (.goto 296, 3) := by decide +kernel
theorem dL_law_1480 : decode code 1480 = .ok (.aload_n 1, 1) := by decide +kernel
theorem dL_law_1481 : decode code 1481 = .ok (.aload_n 0, 1) := by decide +kernel
theorem dL_law_1482 : decode code 1482 = .ok (.iload 4, 2) := by decide +kernel
theorem dL_law_1484 : decode code 1484 = .ok (.iconst 1, 1) := by decide +kernel
theorem dL_law_1485 : decode code 1485 = .ok (.iadd, 1) := by decide +kernel
theorem dL_law_1486 : decode code 1486 = .ok (.iaload, 1) := by decide +kernel
theorem dL_law_1487 : decode code 1487 = .ok (.aload_n 3, 1) := by decide +kernel
theorem dL_law_1488 : decode code 1488 = .ok (.invokestatic 203, 3) := by decide +kernel
theorem dL_law_1491 : decode code 1491 = .ok (.istore 5, 2) := by decide +kernel
theorem dL_law_1493 : decode code 1493 = .ok (.aload_n 2, 1) := by decide +kernel
theorem dL_law_1494 : decode code 1494 = .ok (.aload_n 0, 1) := by decide +kernel
theorem dL_law_1495 : decode code 1495 = .ok (.iload 4, 2) := by decide +kernel
theorem dL_law_1497 : decode code 1497 = .ok (.iconst 1, 1) := by decide +kernel
theorem dL_law_1498 : decode code 1498 = .ok (.iadd, 1) := by decide +kernel
theorem dL_law_1499 : decode code 1499 = .ok (.iaload, 1) := by decide +kernel
theorem dL_law_1500 : decode code 1500 = .ok (.invokevirtual 205, 3) := by decide +kernel
theorem dL_law_1503 : decode code 1503 = .ok (.istore 6, 2) := by decide +kernel
theorem dL_law_1505 : decode code 1505 = .ok (.aload_n 2, 1) := by decide +kernel
theorem dL_law_1506 : decode code 1506 = .ok (.invokevirtual 108, 3) := by decide +kernel
theorem dL_law_1509 : decode code 1509 = .ok (.iload 5, 2) := by decide +kernel
theorem dL_law_1511 : decode code 1511 = .ok (.if_icmp .eq 5, 3) := by decide +kernel
theorem dL_law_1514 : decode code 1514 = .ok (.iconst 0, 1) := by decide +kernel
theorem dL_law_1516 : decode code 1516 = .ok (.iload 5, 2) := by decide +kernel
theorem dL_law_1518 : decode code 1518 = .ok (.ifCond .ne 15, 3) := by decide +kernel
theorem dL_law_1521 : decode code 1521 = .ok (.aload_n 3, 1) := by decide +kernel
theorem dL_law_1522 : decode code 1522 = .ok (.iconst 0, 1) := by decide +kernel
theorem dL_law_1523 : decode code 1523 = .ok (.laload, 1) := by decide +kernel
theorem dL_law_1524 : decode code 1524 = .ok (.iload 6, 2) := by decide +kernel
theorem dL_law_1526 : decode code 1526 = .ok (.i2l, 1) := by decide +kernel
theorem dL_law_1527 : decode code 1527 = .ok (.lcmp, 1) := by decide +kernel
theorem dL_law_1528 : decode code 1528 = .ok (.ifCond .eq 5, 3) := by decide +kernel
theorem dL_law_1531 : decode code 1531 = .ok (.iconst 0, 1) := by decide +kernel
theorem dL_law_1533 : decode code 1533 = .ok (.goto 240, 3) := by decide +kernel
theorem dL_law_1536 : decode code 1536 = .ok (.aload_n 1, 1) := by decide +kernel
theorem dL_law_1537 : decode code 1537 = .ok (.aload_n 0, 1) := by decide +kernel
theorem dL_law_1538 : decode code 1538 = .ok (.iload 4, 2) := by decide +kernel
theorem dL_law_1540 : decode code 1540 = .ok (.iconst 1, 1) := by decide +kernel
theorem dL_law_1541 : decode code 1541 = .ok (.iadd, 1) := by decide +kernel
theorem dL_law_1542 : decode code 1542 = .ok (.iaload, 1) := by decide +kernel
theorem dL_law_1543 : decode code 1543 = .ok (.aload_n 0, 1) := by decide +kernel
theorem dL_law_1544 : decode code 1544 = .ok (.iload 4, 2) := by decide +kernel
theorem dL_law_1546 : decode code 1546 = .ok (.iconst 2, 1) := by decide +kernel
theorem dL_law_1547 : decode code 1547 = .ok (.iadd, 1) := by decide +kernel
theorem dL_law_1548 : decode code 1548 = .ok (.iaload, 1) := by decide +kernel
theorem dL_law_1549 : decode code 1549 = .ok (.aload_n 3, 1) := by decide +kernel
theorem dL_law_1550 : decode code 1550 = .ok (.invokestatic 206, 3) := by decide +kernel
theorem dL_law_1553 : decode code 1553 = .ok (.istore 5, 2) := by decide +kernel
theorem dL_law_1555 : decode code 1555 = .ok (.aload_n 2, 1) := by decide +kernel
theorem dL_law_1556 : decode code 1556 = .ok (.aload_n 0, 1) := by decide +kernel
theorem dL_law_1557 : decode code 1557 = .ok (.iload 4, 2) := by decide +kernel
theorem dL_law_1559 : decode code 1559 = .ok (.iconst 1, 1) := by decide +kernel
theorem dL_law_1560 : decode code 1560 = .ok (.iadd, 1) := by decide +kernel
theorem dL_law_1561 : decode code 1561 = .ok (.iaload, 1) := by decide +kernel
theorem dL_law_1562 : decode code 1562 = .ok (.aload_n 0, 1) := by decide +kernel
theorem dL_law_1563 : decode code 1563 = .ok (.iload 4, 2) := by decide +kernel
theorem dL_law_1565 : decode code 1565 = .ok (.iconst 2, 1) := by decide +kernel
theorem dL_law_1566 : decode code 1566 = .ok (.iadd, 1) := by decide +kernel
theorem dL_law_1567 : decode code 1567 = .ok (.iaload, 1) := by decide +kernel
theorem dL_law_1568 : decode code 1568 = .ok (.invokevirtual 208, 3) := by decide +kernel
theorem dL_law_1571 : decode code 1571 = .ok (.istore 6, 2) := by decide +kernel
theorem dL_law_1573 : decode code 1573 = .ok (.aload_n 2, 1) := by decide +kernel
theorem dL_law_1574 : decode code 1574 = .ok (.invokevirtual 108, 3) := by decide +kernel
theorem dL_law_1577 : decode code 1577 = .ok (.iload 5, 2) := by decide +kernel
theorem dL_law_1579 : decode code 1579 = .ok (.if_icmp .eq 5, 3) := by decide +kernel
theorem dL_law_1582 : decode code 1582 = .ok (.iconst 0, 1) := by decide +kernel
theorem dL_law_1584 : decode code 1584 = .ok (.iload 5, 2) := by decide +kernel
theorem dL_law_1586 : decode code 1586 = .ok (.ifCond .ne 15, 3) := by decide +kernel
theorem dL_law_1589 : decode code 1589 = .ok (.aload_n 3, 1) := by decide +kernel
theorem dL_law_1590 : decode code 1590 = .ok (.iconst 0, 1) := by decide +kernel
theorem dL_law_1591 : decode code 1591 = .ok (.laload, 1) := by decide +kernel
theorem dL_law_1592 : decode code 1592 = .ok (.iload 6, 2) := by decide +kernel
theorem dL_law_1594 : decode code 1594 = .ok (.i2l, 1) := by decide +kernel
theorem dL_law_1595 : decode code 1595 = .ok (.lcmp, 1) := by decide +kernel
theorem dL_law_1596 : decode code 1596 = .ok (.ifCond .eq 5, 3) := by decide +kernel
theorem dL_law_1599 : decode code 1599 = .ok (.iconst 0, 1) := by decide +kernel
theorem dL_law_1601 : decode code 1601 = .ok (.goto 172, 3) := by decide +kernel
theorem dL_law_1604 : decode code 1604 = .ok (.aload_n 1, 1) := by decide +kernel
theorem dL_law_1605 : decode code 1605 = .ok (.aload_n 0, 1) := by decide +kernel
theorem dL_law_1606 : decode code 1606 = .ok (.iload 4, 2) := by decide +kernel
theorem dL_law_1608 : decode code 1608 = .ok (.iconst 1, 1) := by decide +kernel
theorem dL_law_1609 : decode code 1609 = .ok (.iadd, 1) := by decide +kernel
theorem dL_law_1610 : decode code 1610 = .ok (.iaload, 1) := by decide +kernel
theorem dL_law_1611 : decode code 1611 = .ok (.aload_n 3, 1) := by decide +kernel
theorem dL_law_1612 : decode code 1612 = .ok (.invokestatic 209, 3) := by decide +kernel
theorem dL_law_1615 : decode code 1615 = .ok (.istore 5, 2) := by decide +kernel
theorem dL_law_1617 : decode code 1617 = .ok (.aload_n 2, 1) := by decide +kernel
theorem dL_law_1618 : decode code 1618 = .ok (.aload_n 0, 1) := by decide +kernel
theorem dL_law_1619 : decode code 1619 = .ok (.iload 4, 2) := by decide +kernel
theorem dL_law_1621 : decode code 1621 = .ok (.iconst 1, 1) := by decide +kernel
theorem dL_law_1622 : decode code 1622 = .ok (.iadd, 1) := by decide +kernel
theorem dL_law_1623 : decode code 1623 = .ok (.iaload, 1) := by decide +kernel
theorem dL_law_1624 : decode code 1624 = .ok (.invokevirtual 211, 3) := by decide +kernel
theorem dL_law_1627 : decode code 1627 = .ok (.istore 6, 2) := by decide +kernel
theorem dL_law_1629 : decode code 1629 = .ok (.aload_n 2, 1) := by decide +kernel
theorem dL_law_1630 : decode code 1630 = .ok (.invokevirtual 108, 3) := by decide +kernel
theorem dL_law_1633 : decode code 1633 = .ok (.iload 5, 2) := by decide +kernel
theorem dL_law_1635 : decode code 1635 = .ok (.if_icmp .eq 5, 3) := by decide +kernel
theorem dL_law_1638 : decode code 1638 = .ok (.iconst 0, 1) := by decide +kernel
theorem dL_law_1640 : decode code 1640 = .ok (.iload 5, 2) := by decide +kernel
theorem dL_law_1642 : decode code 1642 = .ok (.ifCond .ne 15, 3) := by decide +kernel
theorem dL_law_1645 : decode code 1645 = .ok (.aload_n 3, 1) := by decide +kernel
theorem dL_law_1646 : decode code 1646 = .ok (.iconst 0, 1) := by decide +kernel
theorem dL_law_1647 : decode code 1647 = .ok (.laload, 1) := by decide +kernel
theorem dL_law_1648 : decode code 1648 = .ok (.iload 6, 2) := by decide +kernel
theorem dL_law_1650 : decode code 1650 = .ok (.i2l, 1) := by decide +kernel
theorem dL_law_1651 : decode code 1651 = .ok (.lcmp, 1) := by decide +kernel
theorem dL_law_1652 : decode code 1652 = .ok (.ifCond .eq 5, 3) := by decide +kernel
theorem dL_law_1655 : decode code 1655 = .ok (.iconst 0, 1) := by decide +kernel
theorem dL_law_1657 : decode code 1657 = .ok (.goto 116, 3) := by decide +kernel
theorem dL_law_1660 : decode code 1660 = .ok (.aload_n 1, 1) := by decide +kernel
theorem dL_law_1661 : decode code 1661 = .ok (.aload_n 0, 1) := by decide +kernel
theorem dL_law_1662 : decode code 1662 = .ok (.iload 4, 2) := by decide +kernel
theorem dL_law_1664 : decode code 1664 = .ok (.iconst 1, 1) := by decide +kernel
theorem dL_law_1665 : decode code 1665 = .ok (.iadd, 1) := by decide +kernel
theorem dL_law_1666 : decode code 1666 = .ok (.iaload, 1) := by decide +kernel
theorem dL_law_1667 : decode code 1667 = .ok (.aload_n 3, 1) := by decide +kernel
theorem dL_law_1668 : decode code 1668 = .ok (.invokestatic 212, 3) := by decide +kernel
theorem dL_law_1671 : decode code 1671 = .ok (.istore 5, 2) := by decide +kernel
theorem dL_law_1673 : decode code 1673 = .ok (.aload_n 2, 1) := by decide +kernel
theorem dL_law_1674 : decode code 1674 = .ok (.aload_n 0, 1) := by decide +kernel
theorem dL_law_1675 : decode code 1675 = .ok (.iload 4, 2) := by decide +kernel
theorem dL_law_1677 : decode code 1677 = .ok (.iconst 1, 1) := by decide +kernel
theorem dL_law_1678 : decode code 1678 = .ok (.iadd, 1) := by decide +kernel
theorem dL_law_1679 : decode code 1679 = .ok (.iaload, 1) := by decide +kernel
theorem dL_law_1680 : decode code 1680 = .ok (.invokevirtual 214, 3) := by decide +kernel
theorem dL_law_1683 : decode code 1683 = .ok (.istore 6, 2) := by decide +kernel
theorem dL_law_1685 : decode code 1685 = .ok (.aload_n 2, 1) := by decide +kernel
theorem dL_law_1686 : decode code 1686 = .ok (.invokevirtual 108, 3) := by decide +kernel
theorem dL_law_1689 : decode code 1689 = .ok (.iload 5, 2) := by decide +kernel
theorem dL_law_1691 : decode code 1691 = .ok (.if_icmp .eq 5, 3) := by decide +kernel
theorem dL_law_1694 : decode code 1694 = .ok (.iconst 0, 1) := by decide +kernel
theorem dL_law_1696 : decode code 1696 = .ok (.iload 5, 2) := by decide +kernel
theorem dL_law_1698 : decode code 1698 = .ok (.ifCond .ne 15, 3) := by decide +kernel
theorem dL_law_1701 : decode code 1701 = .ok (.aload_n 3, 1) := by decide +kernel
theorem dL_law_1702 : decode code 1702 = .ok (.iconst 0, 1) := by decide +kernel
theorem dL_law_1703 : decode code 1703 = .ok (.laload, 1) := by decide +kernel
theorem dL_law_1704 : decode code 1704 = .ok (.iload 6, 2) := by decide +kernel
theorem dL_law_1706 : decode code 1706 = .ok (.i2l, 1) := by decide +kernel
theorem dL_law_1707 : decode code 1707 = .ok (.lcmp, 1) := by decide +kernel
theorem dL_law_1708 : decode code 1708 = .ok (.ifCond .eq 5, 3) := by decide +kernel
theorem dL_law_1711 : decode code 1711 = .ok (.iconst 0, 1) := by decide +kernel
theorem dL_law_1713 : decode code 1713 = .ok (.goto 60, 3) := by decide +kernel
theorem dL_law_1716 : decode code 1716 = .ok (.aload_n 1, 1) := by decide +kernel
theorem dL_law_1717 : decode code 1717 = .ok (.invokevirtual 215, 3) := by decide +kernel
theorem dL_law_1720 : decode code 1720 = .ok (.aload_n 2, 1) := by decide +kernel
theorem dL_law_1721 : decode code 1721 = .ok (.invokevirtual 218, 3) := by decide +kernel
theorem dL_law_1724 : decode code 1724 = .ok (.if_icmp .eq 49, 3) := by decide +kernel
theorem dL_law_1727 : decode code 1727 = .ok (.iconst 0, 1) := by decide +kernel
theorem dL_law_1729 : decode code 1729 = .ok (.aload_n 1, 1) := by decide +kernel
theorem dL_law_1730 : decode code 1730 = .ok (.aload_n 3, 1) := by decide +kernel
theorem dL_law_1731 : decode code 1731 = .ok (.invokestatic 219, 3) := by decide +kernel
theorem dL_law_1734 : decode code 1734 = .ok (.istore 5, 2) := by decide +kernel
theorem dL_law_1736 : decode code 1736 = .ok (.aload_n 2, 1) := by decide +kernel
theorem dL_law_1737 : decode code 1737 = .ok (.invokevirtual 221, 3) := by decide +kernel
theorem dL_law_1740 : decode code 1740 = .ok (.istore 6, 2) := by decide +kernel
theorem dL_law_1742 : decode code 1742 = .ok (.aload_n 2, 1) := by decide +kernel
theorem dL_law_1743 : decode code 1743 = .ok (.invokevirtual 108, 3) := by decide +kernel
theorem dL_law_1746 : decode code 1746 = .ok (.iload 5, 2) := by decide +kernel
theorem dL_law_1748 : decode code 1748 = .ok (.if_icmp .eq 5, 3) := by decide +kernel
theorem dL_law_1751 : decode code 1751 = .ok (.iconst 0, 1) := by decide +kernel
theorem dL_law_1753 : decode code 1753 = .ok (.iload 5, 2) := by decide +kernel
theorem dL_law_1755 : decode code 1755 = .ok (.ifCond .ne 15, 3) := by decide +kernel
theorem dL_law_1758 : decode code 1758 = .ok (.aload_n 3, 1) := by decide +kernel
theorem dL_law_1759 : decode code 1759 = .ok (.iconst 0, 1) := by decide +kernel
theorem dL_law_1760 : decode code 1760 = .ok (.laload, 1) := by decide +kernel
theorem dL_law_1761 : decode code 1761 = .ok (.iload 6, 2) := by decide +kernel
theorem dL_law_1763 : decode code 1763 = .ok (.i2l, 1) := by decide +kernel
theorem dL_law_1764 : decode code 1764 = .ok (.lcmp, 1) := by decide +kernel
theorem dL_law_1765 : decode code 1765 = .ok (.ifCond .eq 5, 3) := by decide +kernel
theorem dL_law_1768 : decode code 1768 = .ok (.iconst 0, 1) := by decide +kernel
theorem dL_law_1770 : decode code 1770 = .ok (.goto 3, 3) := by decide +kernel
def wp_law_c22 (zd : Nat) (xs : Nat → Int32) (L xo oo : Nat) (y4 : Int32) (f : FT) (n : Nat → Int32) (g : Nat → Nat → Int32) (bc bs : Nat) (C : Int32 × FT × (Nat → Int32) × (Nat → Nat → Int32) × Nat × Nat → Prop) : Prop :=
  vp_in (y4 + (1 : Int32)) L ∧ ∀ v_1 : Int32, v_1 = xs ((y4 + (1 : Int32))).toNatClampNeg → ∃ ga_4 gb_5 : Nat, ga_4 ≤ bc ∧ gb_5 ≤ bs ∧ wp_L_open xo v_1 oo f ga_4 gb_5 (fun r_3 f_6 => vp_in (y4 + (1 : Int32)) L ∧ ∀ v_9 : Int32, v_9 = xs ((y4 + (1 : Int32))).toNatClampNeg → wp_X9_open v_9 n g (fun r_11 n_12 g_13 => wp_X9_thrown  n_12 g_13 (fun r_14 => ((r_14 = r_3 → ((¬ r_3 = (0 : Int32) → C (y4, f_6, n_12, g_13, (bc - ga_4), (bs - gb_5))) ∧
 (r_3 = (0 : Int32) → aJ f_6 oo (0 : Int32) fun v_17 => ((r_11 = (0 : Int32) → (((lg_cmp v_17 (0 : Int64)) = (0 : Int32) → C (y4, f_6, n_12, g_13, (bc - ga_4), (bs - gb_5))) ∧
 (¬ ((lg_cmp v_17 (0 : Int64)) = (0 : Int32)) → False))) ∧
 (¬ (r_11 = (0 : Int32)) → (((lg_cmp v_17 (1 : Int64)) = (0 : Int32) → C (y4, f_6, n_12, g_13, (bc - ga_4), (bs - gb_5))) ∧
 (¬ ((lg_cmp v_17 (1 : Int64)) = (0 : Int32)) → False))))))) ∧
 (¬ (r_14 = r_3) → False)))))
set_option maxHeartbeats 4000000 in
set_option maxRecDepth 100000 in
theorem law_c22 {p : Program} {l : Launch} {e : Env} {s : State} {m : MethodId} {below : List Frame} {meth : Method} {c : Code} {b L : Nat} {xs : Nat → Int32} (hlt : l.stackTraces = false) (C0 : lw_At p s m meth c b L xs) {G : GG} (hK : FK G s) (hZ : FZ G (fun q : Nat => s.heap.size ≤ q) s s.heap) (hX : FX9 G (fun q : Nat => s.heap.size ≤ q) s s.heap) (hXN : FXN s) {zd : Nat} (hzd : G.2.2 0 = zd) {xo mo oo : Nat} {ad : Nat → Nat} (had : MAd mo ad) {C : Int32 × FT × (Nat → Int32) × (Nat → Nat → Int32) × Nat × Nat → Prop} : ∀ (y4 : Int32) (f : FT) (n : Nat → Int32) (g : Nat → Nat → Int32) (bc bs : Nat) (H : Heap) (locs : List Loc) (ls : Array Slot) (cs sl : Nat), (∀ (y4 : Int32) (f : FT) (n : Nat → Int32) (g : Nat → Nat → Int32) (bc bs : Nat) (H : Heap) (locs : List Loc) (ls : Array Slot) (cs sl : Nat), C (y4, f, n, g, bc, bs) → cs + bc ≤ 601024 → sl + bs ≤ 7293034 → Fw G (fun q : Nat => s.heap.size ≤ q) f H → Fw G (fun q : Nat => s.heap.size ≤ q) (mf mo ad n g) H → dj f (mf mo ad n g) → va_S (fun q : Nat => s.heap.size ≤ q) s.heap H locs → lv_has ls 7 [(0, .ref b), (1, .ref xo), (2, .ref mo), (3, .ref oo), (4, .int y4)] → W p l e room_1 s m #[Value.ref b] below meth c H locs cs sl (lw_Z below #[Value.ref b] s) (F0 m 1773 ls [])) → wp_law_c22 zd xs L xo oo y4 f n g bc bs C → cs + bc ≤ 601024 → sl + bs ≤ 7293034 → Fw G (fun q : Nat => s.heap.size ≤ q) f H → Fw G (fun q : Nat => s.heap.size ≤ q) (mf mo ad n g) H → dj f (mf mo ad n g) → va_S (fun q : Nat => s.heap.size ≤ q) s.heap H locs → lv_has ls 7 [(0, .ref b), (1, .ref xo), (2, .ref mo), (3, .ref oo), (4, .int y4)] → W p l e room_1 s m #[Value.ref b] below meth c H locs cs sl (lw_Z below #[Value.ref b] s) (F0 m 1179 ls []) := by
  obtain ⟨hx, hb, hr, hml, hown, hts0, hXs, hbl, hlocks, hgv⟩ := id C0
  have hts : ∀ w ∈ wsL_law, w.before #[Value.ref b] s = true := fun w h => hts0 w (wsL_law_in w h)
  have hA : ∀ q : Nat, s.heap.size ≤ q → (fun q : Nat => s.heap.size ≤ q) q := fun _ h => h
  have hbA : ¬ (fun q : Nat => s.heap.size ≤ q) b := Nat.not_le.mpr hbl
  intro y4 f n g bc bs H locs ls cs sl hC h hbc hbs hF hF2 hd hS hl
  unfold wp_law_c22 at h
  refine lv_aload_n hx hb dL_law_1179 rfl (lv_at hl 1 rfl) ?_
  refine lv_aload_n hx hb dL_law_1180 rfl (lv_at hl 0 rfl) ?_
  refine lv_iload hx hb dL_law_1181 (lv_at hl 4 rfl) ?_
  refine lv_iconst (v := (1 : Int32)) hx hb dL_law_1183 (by decide) ?_
  refine lv_iadd hx hb dL_law_1184 ?_
  obtain ⟨hi_i_2, h⟩ := h
  refine va_sld hx hb hXs hbl hbA hS hi_i_2 dL_law_1185 ?_
  refine lv_topi (fun v_1 e_v_1 => ?_)
  have h := h v_1 e_v_1
  refine lv_aload_n hx hb dL_law_1186 rfl (lv_at hl 3 rfl) ?_
  obtain ⟨ga_4, gb_5, hga_ga_4, hgb_ga_4, h⟩ := h
  refine fl_cSX_i (As := [.ref xo, .int v_1, .ref oo]) (rest := []) ⟨hx, hb, hml, hown, hts⟩ (cc_L_open l G hlt h) (cwSX 3 hts ggL_law_L_open rfl rfl rfl (hts0 (.initialized RL) (List.mem_of_getElem? (i := 58) (by decide +kernel))) (hts0 (.methodLink RL 188 yL_open) (List.mem_of_getElem? (i := 1214) (by decide +kernel))) (hts0 (.static yL_open) (List.mem_of_getElem? (i := 1215) (by decide +kernel))) (by decide +kernel) ⟨Nat.le_of_ble_eq_true rfl, Nat.le_of_ble_eq_true rfl⟩) hK hZ hX hXN hF hF2 hd hS hA rfl hl.1 rfl (Nat.le_of_ble_eq_true rfl) dL_law_1187 ⟨by show _ ≤ 601024; omega, by show _ ≤ 7293034; omega⟩ (fun r_3 f_6 H locs h hF hF2 hd hS => ?_)
  obtain ⟨cs_7, hcs⟩ : ∃ z, z = (cs + ga_4) := ⟨_, rfl⟩; obtain ⟨sl_8, hsl⟩ : ∃ z, z = (sl + gb_5) := ⟨_, rfl⟩
  have hbc : cs_7 + (bc - ga_4) ≤ 601024 := by omega
  have hbs : sl_8 + (bs - gb_5) ≤ 7293034 := by omega
  refine W.widen (k := cs_7) (n := sl_8) (by omega) (by omega) ?_
  clear hcs hsl
  refine lv_istore (lv' := [(5, .int r_3), (0, .ref b), (1, .ref xo), (2, .ref mo), (3, .ref oo), (4, .int y4)]) hx hb dL_law_1190 hl (by decide) rfl (fun ls hl => ?_)
  refine lv_aload_n hx hb dL_law_1192 rfl (lv_at hl 3 rfl) ?_
  refine lv_aload_n hx hb dL_law_1193 rfl (lv_at hl 1 rfl) ?_
  refine lv_iload hx hb dL_law_1194 (lv_at hl 5 rfl) ?_
  refine lv_iconst (v := (1 : Int32)) hx hb dL_law_1196 (by decide) ?_
  refine lv_iadd hx hb dL_law_1197 ?_
  obtain ⟨hi_i_10, h⟩ := h
  refine va_sld hx hb hXs hbl hbA hS hi_i_10 dL_law_1198 ?_
  refine lv_topi (fun v_9 e_v_9 => ?_)
  have h := h v_9 e_v_9
  refine fl_cV_i (As := [.int v_9]) (rest := []) ⟨hx, hb, hml, hown, hts⟩ (cc_X9_open l G had h) (⟨callB_of 1 hts ggL_law_X9_open rfl rfl rfl (hts0 (.initialized RX9) (List.mem_of_getElem? (i := 77) (by decide +kernel))) (hts0 (.methodLink RL 190 yX9_open) (List.mem_of_getElem? (i := 1705) (by decide +kernel))) (by decide +kernel) ⟨Nat.le_of_ble_eq_true rfl, Nat.le_of_ble_eq_true rfl⟩, (hts0 (.instanceMethod yX9_open) (List.mem_of_getElem? (i := 1706) (by decide +kernel))), (hts0 (.selects RX9 yX9_open yX9_open) (List.mem_of_getElem? (i := 1707) (by decide +kernel)))⟩) rfl mf_obj hK hZ hF2 hF hd.symm hS hA rfl hl.1 rfl (Nat.le_of_ble_eq_true rfl) dL_law_1199 ⟨by show _ + 0 ≤ 601024; omega, by show _ + 0 ≤ 7293034; omega⟩ (fun r_11 f9 H locs h hF2 hF hd hS => ?_)
  have hd := hd.symm
  obtain ⟨n_12, g_13, rfl, h⟩ := h
  simp only [Nat.add_zero]
  refine lv_istore (lv' := [(6, .int r_11), (5, .int r_3), (0, .ref b), (1, .ref xo), (2, .ref mo), (3, .ref oo), (4, .int y4)]) hx hb dL_law_1202 hl (by decide) rfl (fun ls hl => ?_)
  refine lv_aload_n hx hb dL_law_1204 rfl (lv_at hl 4 rfl) ?_
  refine fl_cV_i (As := []) (rest := []) ⟨hx, hb, hml, hown, hts⟩ (cc_X9_thrown l G had h) (⟨callB_of 0 hts ggL_law_X9_thrown rfl rfl rfl (hts0 (.initialized RX9) (List.mem_of_getElem? (i := 77) (by decide +kernel))) (hts0 (.methodLink RL 108 yX9_thrown) (List.mem_of_getElem? (i := 1465) (by decide +kernel))) (by decide +kernel) ⟨Nat.le_of_ble_eq_true rfl, Nat.le_of_ble_eq_true rfl⟩, (hts0 (.instanceMethod yX9_thrown) (List.mem_of_getElem? (i := 1466) (by decide +kernel))), (hts0 (.selects RX9 yX9_thrown yX9_thrown) (List.mem_of_getElem? (i := 1467) (by decide +kernel)))⟩) rfl mf_obj hK hZ hF2 hF hd.symm hS hA rfl hl.1 rfl (Nat.le_of_ble_eq_true rfl) dL_law_1205 ⟨by show _ + 0 ≤ 601024; omega, by show _ + 0 ≤ 7293034; omega⟩ (fun r_14 f9 H locs h hF2 hF hd hS => ?_)
  have hd := hd.symm
  obtain ⟨h, e9⟩ := h; rw [e9] at hF2 hd; clear e9
  simp only [Nat.add_zero]
  refine lv_iload hx hb dL_law_1208 (lv_at hl 1 rfl) ?_
  obtain ⟨h1, h2⟩ := h
  refine lv_icmp_eq (tgt := 1215) hx hb dL_law_1210 (by decide) (fun c_15 => ?_) (fun c_15 => ?_)
  · have h := h1 c_15
    refine lv_iload hx hb dL_law_1215 (lv_at hl 1 rfl) ?_
    obtain ⟨h1, h2⟩ := h
    refine lv_if_ne (tgt := 1239) hx hb dL_law_1217 (by decide) (fun c_16 => ?_) (fun c_16 => ?_)
    · have h := h1 c_16
      refine lv_goto (tgt := 1773) hx hb dL_law_1239 (by decide) ?_
      exact hC y4 f_6 n_12 g_13 (bc - ga_4) (bs - gb_5) _ _ _ _ _ h hbc hbs hF hF2 hd hS (lv_sub hl [2, 3, 4, 5, 6] rfl)
    · have h := h2 c_16
      refine lv_aload_n hx hb dL_law_1220 rfl (lv_at hl 5 rfl) ?_
      refine lv_iconst (v := (0 : Int32)) hx hb dL_law_1221 (by decide) ?_
      obtain ⟨n_q_18, q_18, he_q_18, hi_q_18, h⟩ := h
      refine fw_lald hx hb hK hF he_q_18 hi_q_18 dL_law_1222 ?_
      refine lv_topl (fun v_17 e_v_17 => ?_)
      have h := h v_17 e_v_17
      refine lv_iload hx hb dL_law_1223 (lv_at hl 0 rfl) ?_
      obtain ⟨h1, h2⟩ := h
      refine lv_if_eq (tgt := 1232) hx hb dL_law_1225 (by decide) (fun c_19 => ?_) (fun c_19 => ?_)
      · have h := h1 c_19
        refine lv_lconst (v := (0 : Int64)) hx hb dL_law_1232 (by decide) ?_
        refine W.lcmp hx hb dL_law_1233 ?_
        obtain ⟨h1, h2⟩ := h
        refine lv_if_eq (tgt := 1239) hx hb dL_law_1234 (by decide) (fun c_21 => ?_) (fun c_21 => ?_)
        · have h := h1 c_21
          refine lv_goto (tgt := 1773) hx hb dL_law_1239 (by decide) ?_
          exact hC y4 f_6 n_12 g_13 (bc - ga_4) (bs - gb_5) _ _ _ _ _ h hbc hbs hF hF2 hd hS (lv_sub hl [2, 3, 4, 5, 6] rfl)
        · have h := h2 c_21
          refine lv_iconst (v := (0 : Int32)) hx hb dL_law_1237 (by decide) ?_
          exact h.elim
      · have h := h2 c_19
        refine lv_lconst (v := (1 : Int64)) hx hb dL_law_1228 (by decide) ?_
        refine lv_goto (tgt := 1233) hx hb dL_law_1229 (by decide) ?_
        refine W.lcmp hx hb dL_law_1233 ?_
        obtain ⟨h1, h2⟩ := h
        refine lv_if_eq (tgt := 1239) hx hb dL_law_1234 (by decide) (fun c_23 => ?_) (fun c_23 => ?_)
        · have h := h1 c_23
          refine lv_goto (tgt := 1773) hx hb dL_law_1239 (by decide) ?_
          exact hC y4 f_6 n_12 g_13 (bc - ga_4) (bs - gb_5) _ _ _ _ _ h hbc hbs hF hF2 hd hS (lv_sub hl [2, 3, 4, 5, 6] rfl)
        · have h := h2 c_23
          refine lv_iconst (v := (0 : Int32)) hx hb dL_law_1237 (by decide) ?_
          exact h.elim
  · have h := h2 c_15
    refine lv_iconst (v := (0 : Int32)) hx hb dL_law_1213 (by decide) ?_
    exact h.elim
def wp_law_c23 (zd : Nat) (xs : Nat → Int32) (L xo oo : Nat) (y4 : Int32) (f : FT) (n : Nat → Int32) (g : Nat → Nat → Int32) (bc bs : Nat) (C : Int32 × FT × (Nat → Int32) × (Nat → Nat → Int32) × Nat × Nat → Prop) : Prop :=
  vp_in (y4 + (1 : Int32)) L ∧ ∀ v_1 : Int32, v_1 = xs ((y4 + (1 : Int32))).toNatClampNeg → ∃ ga_4 gb_5 : Nat, ga_4 ≤ bc ∧ gb_5 ≤ bs ∧ wp_L_close xo v_1 oo f ga_4 gb_5 (fun r_3 f_6 => vp_in (y4 + (1 : Int32)) L ∧ ∀ v_9 : Int32, v_9 = xs ((y4 + (1 : Int32))).toNatClampNeg → wp_X9_close v_9 n g (fun r_11 n_12 g_13 => wp_X9_thrown  n_12 g_13 (fun r_14 => ((r_14 = r_3 → ((¬ r_3 = (0 : Int32) → C (y4, f_6, n_12, g_13, (bc - ga_4), (bs - gb_5))) ∧
 (r_3 = (0 : Int32) → aJ f_6 oo (0 : Int32) fun v_17 => ((r_11 = (0 : Int32) → (((lg_cmp v_17 (0 : Int64)) = (0 : Int32) → C (y4, f_6, n_12, g_13, (bc - ga_4), (bs - gb_5))) ∧
 (¬ ((lg_cmp v_17 (0 : Int64)) = (0 : Int32)) → False))) ∧
 (¬ (r_11 = (0 : Int32)) → (((lg_cmp v_17 (1 : Int64)) = (0 : Int32) → C (y4, f_6, n_12, g_13, (bc - ga_4), (bs - gb_5))) ∧
 (¬ ((lg_cmp v_17 (1 : Int64)) = (0 : Int32)) → False))))))) ∧
 (¬ (r_14 = r_3) → False)))))
set_option maxHeartbeats 4000000 in
set_option maxRecDepth 100000 in
theorem law_c23 {p : Program} {l : Launch} {e : Env} {s : State} {m : MethodId} {below : List Frame} {meth : Method} {c : Code} {b L : Nat} {xs : Nat → Int32} (hlt : l.stackTraces = false) (C0 : lw_At p s m meth c b L xs) {G : GG} (hK : FK G s) (hZ : FZ G (fun q : Nat => s.heap.size ≤ q) s s.heap) (hX : FX9 G (fun q : Nat => s.heap.size ≤ q) s s.heap) (hXN : FXN s) {zd : Nat} (hzd : G.2.2 0 = zd) {xo mo oo : Nat} {ad : Nat → Nat} (had : MAd mo ad) {C : Int32 × FT × (Nat → Int32) × (Nat → Nat → Int32) × Nat × Nat → Prop} : ∀ (y4 : Int32) (f : FT) (n : Nat → Int32) (g : Nat → Nat → Int32) (bc bs : Nat) (H : Heap) (locs : List Loc) (ls : Array Slot) (cs sl : Nat), (∀ (y4 : Int32) (f : FT) (n : Nat → Int32) (g : Nat → Nat → Int32) (bc bs : Nat) (H : Heap) (locs : List Loc) (ls : Array Slot) (cs sl : Nat), C (y4, f, n, g, bc, bs) → cs + bc ≤ 601024 → sl + bs ≤ 7293034 → Fw G (fun q : Nat => s.heap.size ≤ q) f H → Fw G (fun q : Nat => s.heap.size ≤ q) (mf mo ad n g) H → dj f (mf mo ad n g) → va_S (fun q : Nat => s.heap.size ≤ q) s.heap H locs → lv_has ls 7 [(0, .ref b), (1, .ref xo), (2, .ref mo), (3, .ref oo), (4, .int y4)] → W p l e room_1 s m #[Value.ref b] below meth c H locs cs sl (lw_Z below #[Value.ref b] s) (F0 m 1773 ls [])) → wp_law_c23 zd xs L xo oo y4 f n g bc bs C → cs + bc ≤ 601024 → sl + bs ≤ 7293034 → Fw G (fun q : Nat => s.heap.size ≤ q) f H → Fw G (fun q : Nat => s.heap.size ≤ q) (mf mo ad n g) H → dj f (mf mo ad n g) → va_S (fun q : Nat => s.heap.size ≤ q) s.heap H locs → lv_has ls 7 [(0, .ref b), (1, .ref xo), (2, .ref mo), (3, .ref oo), (4, .int y4)] → W p l e room_1 s m #[Value.ref b] below meth c H locs cs sl (lw_Z below #[Value.ref b] s) (F0 m 1242 ls []) := by
  obtain ⟨hx, hb, hr, hml, hown, hts0, hXs, hbl, hlocks, hgv⟩ := id C0
  have hts : ∀ w ∈ wsL_law, w.before #[Value.ref b] s = true := fun w h => hts0 w (wsL_law_in w h)
  have hA : ∀ q : Nat, s.heap.size ≤ q → (fun q : Nat => s.heap.size ≤ q) q := fun _ h => h
  have hbA : ¬ (fun q : Nat => s.heap.size ≤ q) b := Nat.not_le.mpr hbl
  intro y4 f n g bc bs H locs ls cs sl hC h hbc hbs hF hF2 hd hS hl
  unfold wp_law_c23 at h
  refine lv_aload_n hx hb dL_law_1242 rfl (lv_at hl 1 rfl) ?_
  refine lv_aload_n hx hb dL_law_1243 rfl (lv_at hl 0 rfl) ?_
  refine lv_iload hx hb dL_law_1244 (lv_at hl 4 rfl) ?_
  refine lv_iconst (v := (1 : Int32)) hx hb dL_law_1246 (by decide) ?_
  refine lv_iadd hx hb dL_law_1247 ?_
  obtain ⟨hi_i_2, h⟩ := h
  refine va_sld hx hb hXs hbl hbA hS hi_i_2 dL_law_1248 ?_
  refine lv_topi (fun v_1 e_v_1 => ?_)
  have h := h v_1 e_v_1
  refine lv_aload_n hx hb dL_law_1249 rfl (lv_at hl 3 rfl) ?_
  obtain ⟨ga_4, gb_5, hga_ga_4, hgb_ga_4, h⟩ := h
  refine fl_cSX_i (As := [.ref xo, .int v_1, .ref oo]) (rest := []) ⟨hx, hb, hml, hown, hts⟩ (cc_L_close l G hlt h) (cwSX 3 hts ggL_law_L_close rfl rfl rfl (hts0 (.initialized RL) (List.mem_of_getElem? (i := 58) (by decide +kernel))) (hts0 (.methodLink RL 191 yL_close) (List.mem_of_getElem? (i := 1230) (by decide +kernel))) (hts0 (.static yL_close) (List.mem_of_getElem? (i := 1231) (by decide +kernel))) (by decide +kernel) ⟨Nat.le_of_ble_eq_true rfl, Nat.le_of_ble_eq_true rfl⟩) hK hZ hX hXN hF hF2 hd hS hA rfl hl.1 rfl (Nat.le_of_ble_eq_true rfl) dL_law_1250 ⟨by show _ ≤ 601024; omega, by show _ ≤ 7293034; omega⟩ (fun r_3 f_6 H locs h hF hF2 hd hS => ?_)
  obtain ⟨cs_7, hcs⟩ : ∃ z, z = (cs + ga_4) := ⟨_, rfl⟩; obtain ⟨sl_8, hsl⟩ : ∃ z, z = (sl + gb_5) := ⟨_, rfl⟩
  have hbc : cs_7 + (bc - ga_4) ≤ 601024 := by omega
  have hbs : sl_8 + (bs - gb_5) ≤ 7293034 := by omega
  refine W.widen (k := cs_7) (n := sl_8) (by omega) (by omega) ?_
  clear hcs hsl
  refine lv_istore (lv' := [(5, .int r_3), (0, .ref b), (1, .ref xo), (2, .ref mo), (3, .ref oo), (4, .int y4)]) hx hb dL_law_1253 hl (by decide) rfl (fun ls hl => ?_)
  refine lv_aload_n hx hb dL_law_1255 rfl (lv_at hl 3 rfl) ?_
  refine lv_aload_n hx hb dL_law_1256 rfl (lv_at hl 1 rfl) ?_
  refine lv_iload hx hb dL_law_1257 (lv_at hl 5 rfl) ?_
  refine lv_iconst (v := (1 : Int32)) hx hb dL_law_1259 (by decide) ?_
  refine lv_iadd hx hb dL_law_1260 ?_
  obtain ⟨hi_i_10, h⟩ := h
  refine va_sld hx hb hXs hbl hbA hS hi_i_10 dL_law_1261 ?_
  refine lv_topi (fun v_9 e_v_9 => ?_)
  have h := h v_9 e_v_9
  refine fl_cV_i (As := [.int v_9]) (rest := []) ⟨hx, hb, hml, hown, hts⟩ (cc_X9_close l G had h) (⟨callB_of 1 hts ggL_law_X9_close rfl rfl rfl (hts0 (.initialized RX9) (List.mem_of_getElem? (i := 77) (by decide +kernel))) (hts0 (.methodLink RL 193 yX9_close) (List.mem_of_getElem? (i := 1712) (by decide +kernel))) (by decide +kernel) ⟨Nat.le_of_ble_eq_true rfl, Nat.le_of_ble_eq_true rfl⟩, (hts0 (.instanceMethod yX9_close) (List.mem_of_getElem? (i := 1713) (by decide +kernel))), (hts0 (.selects RX9 yX9_close yX9_close) (List.mem_of_getElem? (i := 1714) (by decide +kernel)))⟩) rfl mf_obj hK hZ hF2 hF hd.symm hS hA rfl hl.1 rfl (Nat.le_of_ble_eq_true rfl) dL_law_1262 ⟨by show _ + 0 ≤ 601024; omega, by show _ + 0 ≤ 7293034; omega⟩ (fun r_11 f9 H locs h hF2 hF hd hS => ?_)
  have hd := hd.symm
  obtain ⟨n_12, g_13, rfl, h⟩ := h
  simp only [Nat.add_zero]
  refine lv_istore (lv' := [(6, .int r_11), (5, .int r_3), (0, .ref b), (1, .ref xo), (2, .ref mo), (3, .ref oo), (4, .int y4)]) hx hb dL_law_1265 hl (by decide) rfl (fun ls hl => ?_)
  refine lv_aload_n hx hb dL_law_1267 rfl (lv_at hl 4 rfl) ?_
  refine fl_cV_i (As := []) (rest := []) ⟨hx, hb, hml, hown, hts⟩ (cc_X9_thrown l G had h) (⟨callB_of 0 hts ggL_law_X9_thrown rfl rfl rfl (hts0 (.initialized RX9) (List.mem_of_getElem? (i := 77) (by decide +kernel))) (hts0 (.methodLink RL 108 yX9_thrown) (List.mem_of_getElem? (i := 1465) (by decide +kernel))) (by decide +kernel) ⟨Nat.le_of_ble_eq_true rfl, Nat.le_of_ble_eq_true rfl⟩, (hts0 (.instanceMethod yX9_thrown) (List.mem_of_getElem? (i := 1466) (by decide +kernel))), (hts0 (.selects RX9 yX9_thrown yX9_thrown) (List.mem_of_getElem? (i := 1467) (by decide +kernel)))⟩) rfl mf_obj hK hZ hF2 hF hd.symm hS hA rfl hl.1 rfl (Nat.le_of_ble_eq_true rfl) dL_law_1268 ⟨by show _ + 0 ≤ 601024; omega, by show _ + 0 ≤ 7293034; omega⟩ (fun r_14 f9 H locs h hF2 hF hd hS => ?_)
  have hd := hd.symm
  obtain ⟨h, e9⟩ := h; rw [e9] at hF2 hd; clear e9
  simp only [Nat.add_zero]
  refine lv_iload hx hb dL_law_1271 (lv_at hl 1 rfl) ?_
  obtain ⟨h1, h2⟩ := h
  refine lv_icmp_eq (tgt := 1278) hx hb dL_law_1273 (by decide) (fun c_15 => ?_) (fun c_15 => ?_)
  · have h := h1 c_15
    refine lv_iload hx hb dL_law_1278 (lv_at hl 1 rfl) ?_
    obtain ⟨h1, h2⟩ := h
    refine lv_if_ne (tgt := 1302) hx hb dL_law_1280 (by decide) (fun c_16 => ?_) (fun c_16 => ?_)
    · have h := h1 c_16
      refine lv_goto (tgt := 1773) hx hb dL_law_1302 (by decide) ?_
      exact hC y4 f_6 n_12 g_13 (bc - ga_4) (bs - gb_5) _ _ _ _ _ h hbc hbs hF hF2 hd hS (lv_sub hl [2, 3, 4, 5, 6] rfl)
    · have h := h2 c_16
      refine lv_aload_n hx hb dL_law_1283 rfl (lv_at hl 5 rfl) ?_
      refine lv_iconst (v := (0 : Int32)) hx hb dL_law_1284 (by decide) ?_
      obtain ⟨n_q_18, q_18, he_q_18, hi_q_18, h⟩ := h
      refine fw_lald hx hb hK hF he_q_18 hi_q_18 dL_law_1285 ?_
      refine lv_topl (fun v_17 e_v_17 => ?_)
      have h := h v_17 e_v_17
      refine lv_iload hx hb dL_law_1286 (lv_at hl 0 rfl) ?_
      obtain ⟨h1, h2⟩ := h
      refine lv_if_eq (tgt := 1295) hx hb dL_law_1288 (by decide) (fun c_19 => ?_) (fun c_19 => ?_)
      · have h := h1 c_19
        refine lv_lconst (v := (0 : Int64)) hx hb dL_law_1295 (by decide) ?_
        refine W.lcmp hx hb dL_law_1296 ?_
        obtain ⟨h1, h2⟩ := h
        refine lv_if_eq (tgt := 1302) hx hb dL_law_1297 (by decide) (fun c_21 => ?_) (fun c_21 => ?_)
        · have h := h1 c_21
          refine lv_goto (tgt := 1773) hx hb dL_law_1302 (by decide) ?_
          exact hC y4 f_6 n_12 g_13 (bc - ga_4) (bs - gb_5) _ _ _ _ _ h hbc hbs hF hF2 hd hS (lv_sub hl [2, 3, 4, 5, 6] rfl)
        · have h := h2 c_21
          refine lv_iconst (v := (0 : Int32)) hx hb dL_law_1300 (by decide) ?_
          exact h.elim
      · have h := h2 c_19
        refine lv_lconst (v := (1 : Int64)) hx hb dL_law_1291 (by decide) ?_
        refine lv_goto (tgt := 1296) hx hb dL_law_1292 (by decide) ?_
        refine W.lcmp hx hb dL_law_1296 ?_
        obtain ⟨h1, h2⟩ := h
        refine lv_if_eq (tgt := 1302) hx hb dL_law_1297 (by decide) (fun c_23 => ?_) (fun c_23 => ?_)
        · have h := h1 c_23
          refine lv_goto (tgt := 1773) hx hb dL_law_1302 (by decide) ?_
          exact hC y4 f_6 n_12 g_13 (bc - ga_4) (bs - gb_5) _ _ _ _ _ h hbc hbs hF hF2 hd hS (lv_sub hl [2, 3, 4, 5, 6] rfl)
        · have h := h2 c_23
          refine lv_iconst (v := (0 : Int32)) hx hb dL_law_1300 (by decide) ?_
          exact h.elim
  · have h := h2 c_15
    refine lv_iconst (v := (0 : Int32)) hx hb dL_law_1276 (by decide) ?_
    exact h.elim
def wp_law_c24 (zd : Nat) (xs : Nat → Int32) (L xo oo : Nat) (y4 : Int32) (f : FT) (n : Nat → Int32) (g : Nat → Nat → Int32) (bc bs : Nat) (C : Int32 × FT × (Nat → Int32) × (Nat → Nat → Int32) × Nat × Nat → Prop) : Prop :=
  vp_in (y4 + (1 : Int32)) L ∧ ∀ v_1 : Int32, v_1 = xs ((y4 + (1 : Int32))).toNatClampNeg → ∃ ga_4 gb_5 : Nat, ga_4 ≤ bc ∧ gb_5 ≤ bs ∧ wp_L_advance xo v_1 oo f ga_4 gb_5 (fun r_3 f_6 => vp_in (y4 + (1 : Int32)) L ∧ ∀ v_9 : Int32, v_9 = xs ((y4 + (1 : Int32))).toNatClampNeg → wp_X9_advance v_9 n g (fun r_11 n_12 g_13 => wp_X9_thrown  n_12 g_13 (fun r_14 => ((r_14 = r_3 → ((¬ r_3 = (0 : Int32) → C (y4, f_6, n_12, g_13, (bc - ga_4), (bs - gb_5))) ∧
 (r_3 = (0 : Int32) → aJ f_6 oo (0 : Int32) fun v_17 => ((r_11 = (0 : Int32) → (((lg_cmp v_17 (0 : Int64)) = (0 : Int32) → C (y4, f_6, n_12, g_13, (bc - ga_4), (bs - gb_5))) ∧
 (¬ ((lg_cmp v_17 (0 : Int64)) = (0 : Int32)) → False))) ∧
 (¬ (r_11 = (0 : Int32)) → (((lg_cmp v_17 (1 : Int64)) = (0 : Int32) → C (y4, f_6, n_12, g_13, (bc - ga_4), (bs - gb_5))) ∧
 (¬ ((lg_cmp v_17 (1 : Int64)) = (0 : Int32)) → False))))))) ∧
 (¬ (r_14 = r_3) → False)))))
set_option maxHeartbeats 4000000 in
set_option maxRecDepth 100000 in
theorem law_c24 {p : Program} {l : Launch} {e : Env} {s : State} {m : MethodId} {below : List Frame} {meth : Method} {c : Code} {b L : Nat} {xs : Nat → Int32} (hlt : l.stackTraces = false) (C0 : lw_At p s m meth c b L xs) {G : GG} (hK : FK G s) (hZ : FZ G (fun q : Nat => s.heap.size ≤ q) s s.heap) (hX : FX9 G (fun q : Nat => s.heap.size ≤ q) s s.heap) (hXN : FXN s) {zd : Nat} (hzd : G.2.2 0 = zd) {xo mo oo : Nat} {ad : Nat → Nat} (had : MAd mo ad) {C : Int32 × FT × (Nat → Int32) × (Nat → Nat → Int32) × Nat × Nat → Prop} : ∀ (y4 : Int32) (f : FT) (n : Nat → Int32) (g : Nat → Nat → Int32) (bc bs : Nat) (H : Heap) (locs : List Loc) (ls : Array Slot) (cs sl : Nat), (∀ (y4 : Int32) (f : FT) (n : Nat → Int32) (g : Nat → Nat → Int32) (bc bs : Nat) (H : Heap) (locs : List Loc) (ls : Array Slot) (cs sl : Nat), C (y4, f, n, g, bc, bs) → cs + bc ≤ 601024 → sl + bs ≤ 7293034 → Fw G (fun q : Nat => s.heap.size ≤ q) f H → Fw G (fun q : Nat => s.heap.size ≤ q) (mf mo ad n g) H → dj f (mf mo ad n g) → va_S (fun q : Nat => s.heap.size ≤ q) s.heap H locs → lv_has ls 7 [(0, .ref b), (1, .ref xo), (2, .ref mo), (3, .ref oo), (4, .int y4)] → W p l e room_1 s m #[Value.ref b] below meth c H locs cs sl (lw_Z below #[Value.ref b] s) (F0 m 1773 ls [])) → wp_law_c24 zd xs L xo oo y4 f n g bc bs C → cs + bc ≤ 601024 → sl + bs ≤ 7293034 → Fw G (fun q : Nat => s.heap.size ≤ q) f H → Fw G (fun q : Nat => s.heap.size ≤ q) (mf mo ad n g) H → dj f (mf mo ad n g) → va_S (fun q : Nat => s.heap.size ≤ q) s.heap H locs → lv_has ls 7 [(0, .ref b), (1, .ref xo), (2, .ref mo), (3, .ref oo), (4, .int y4)] → W p l e room_1 s m #[Value.ref b] below meth c H locs cs sl (lw_Z below #[Value.ref b] s) (F0 m 1305 ls []) := by
  obtain ⟨hx, hb, hr, hml, hown, hts0, hXs, hbl, hlocks, hgv⟩ := id C0
  have hts : ∀ w ∈ wsL_law, w.before #[Value.ref b] s = true := fun w h => hts0 w (wsL_law_in w h)
  have hA : ∀ q : Nat, s.heap.size ≤ q → (fun q : Nat => s.heap.size ≤ q) q := fun _ h => h
  have hbA : ¬ (fun q : Nat => s.heap.size ≤ q) b := Nat.not_le.mpr hbl
  intro y4 f n g bc bs H locs ls cs sl hC h hbc hbs hF hF2 hd hS hl
  unfold wp_law_c24 at h
  refine lv_aload_n hx hb dL_law_1305 rfl (lv_at hl 1 rfl) ?_
  refine lv_aload_n hx hb dL_law_1306 rfl (lv_at hl 0 rfl) ?_
  refine lv_iload hx hb dL_law_1307 (lv_at hl 4 rfl) ?_
  refine lv_iconst (v := (1 : Int32)) hx hb dL_law_1309 (by decide) ?_
  refine lv_iadd hx hb dL_law_1310 ?_
  obtain ⟨hi_i_2, h⟩ := h
  refine va_sld hx hb hXs hbl hbA hS hi_i_2 dL_law_1311 ?_
  refine lv_topi (fun v_1 e_v_1 => ?_)
  have h := h v_1 e_v_1
  refine lv_aload_n hx hb dL_law_1312 rfl (lv_at hl 3 rfl) ?_
  obtain ⟨ga_4, gb_5, hga_ga_4, hgb_ga_4, h⟩ := h
  refine fl_cSX_i (As := [.ref xo, .int v_1, .ref oo]) (rest := []) ⟨hx, hb, hml, hown, hts⟩ (cc_L_advance l G hlt h) (cwSX 3 hts ggL_law_L_advance rfl rfl rfl (hts0 (.initialized RL) (List.mem_of_getElem? (i := 58) (by decide +kernel))) (hts0 (.methodLink RL 194 yL_advance) (List.mem_of_getElem? (i := 1241) (by decide +kernel))) (hts0 (.static yL_advance) (List.mem_of_getElem? (i := 1242) (by decide +kernel))) (by decide +kernel) ⟨Nat.le_of_ble_eq_true rfl, Nat.le_of_ble_eq_true rfl⟩) hK hZ hX hXN hF hF2 hd hS hA rfl hl.1 rfl (Nat.le_of_ble_eq_true rfl) dL_law_1313 ⟨by show _ ≤ 601024; omega, by show _ ≤ 7293034; omega⟩ (fun r_3 f_6 H locs h hF hF2 hd hS => ?_)
  obtain ⟨cs_7, hcs⟩ : ∃ z, z = (cs + ga_4) := ⟨_, rfl⟩; obtain ⟨sl_8, hsl⟩ : ∃ z, z = (sl + gb_5) := ⟨_, rfl⟩
  have hbc : cs_7 + (bc - ga_4) ≤ 601024 := by omega
  have hbs : sl_8 + (bs - gb_5) ≤ 7293034 := by omega
  refine W.widen (k := cs_7) (n := sl_8) (by omega) (by omega) ?_
  clear hcs hsl
  refine lv_istore (lv' := [(5, .int r_3), (0, .ref b), (1, .ref xo), (2, .ref mo), (3, .ref oo), (4, .int y4)]) hx hb dL_law_1316 hl (by decide) rfl (fun ls hl => ?_)
  refine lv_aload_n hx hb dL_law_1318 rfl (lv_at hl 3 rfl) ?_
  refine lv_aload_n hx hb dL_law_1319 rfl (lv_at hl 1 rfl) ?_
  refine lv_iload hx hb dL_law_1320 (lv_at hl 5 rfl) ?_
  refine lv_iconst (v := (1 : Int32)) hx hb dL_law_1322 (by decide) ?_
  refine lv_iadd hx hb dL_law_1323 ?_
  obtain ⟨hi_i_10, h⟩ := h
  refine va_sld hx hb hXs hbl hbA hS hi_i_10 dL_law_1324 ?_
  refine lv_topi (fun v_9 e_v_9 => ?_)
  have h := h v_9 e_v_9
  refine fl_cV_i (As := [.int v_9]) (rest := []) ⟨hx, hb, hml, hown, hts⟩ (cc_X9_advance l G had h) (⟨callB_of 1 hts ggL_law_X9_advance rfl rfl rfl (hts0 (.initialized RX9) (List.mem_of_getElem? (i := 77) (by decide +kernel))) (hts0 (.methodLink RL 196 yX9_advance) (List.mem_of_getElem? (i := 1716) (by decide +kernel))) (by decide +kernel) ⟨Nat.le_of_ble_eq_true rfl, Nat.le_of_ble_eq_true rfl⟩, (hts0 (.instanceMethod yX9_advance) (List.mem_of_getElem? (i := 1717) (by decide +kernel))), (hts0 (.selects RX9 yX9_advance yX9_advance) (List.mem_of_getElem? (i := 1718) (by decide +kernel)))⟩) rfl mf_obj hK hZ hF2 hF hd.symm hS hA rfl hl.1 rfl (Nat.le_of_ble_eq_true rfl) dL_law_1325 ⟨by show _ + 0 ≤ 601024; omega, by show _ + 0 ≤ 7293034; omega⟩ (fun r_11 f9 H locs h hF2 hF hd hS => ?_)
  have hd := hd.symm
  obtain ⟨n_12, g_13, rfl, h⟩ := h
  simp only [Nat.add_zero]
  refine lv_istore (lv' := [(6, .int r_11), (5, .int r_3), (0, .ref b), (1, .ref xo), (2, .ref mo), (3, .ref oo), (4, .int y4)]) hx hb dL_law_1328 hl (by decide) rfl (fun ls hl => ?_)
  refine lv_aload_n hx hb dL_law_1330 rfl (lv_at hl 4 rfl) ?_
  refine fl_cV_i (As := []) (rest := []) ⟨hx, hb, hml, hown, hts⟩ (cc_X9_thrown l G had h) (⟨callB_of 0 hts ggL_law_X9_thrown rfl rfl rfl (hts0 (.initialized RX9) (List.mem_of_getElem? (i := 77) (by decide +kernel))) (hts0 (.methodLink RL 108 yX9_thrown) (List.mem_of_getElem? (i := 1465) (by decide +kernel))) (by decide +kernel) ⟨Nat.le_of_ble_eq_true rfl, Nat.le_of_ble_eq_true rfl⟩, (hts0 (.instanceMethod yX9_thrown) (List.mem_of_getElem? (i := 1466) (by decide +kernel))), (hts0 (.selects RX9 yX9_thrown yX9_thrown) (List.mem_of_getElem? (i := 1467) (by decide +kernel)))⟩) rfl mf_obj hK hZ hF2 hF hd.symm hS hA rfl hl.1 rfl (Nat.le_of_ble_eq_true rfl) dL_law_1331 ⟨by show _ + 0 ≤ 601024; omega, by show _ + 0 ≤ 7293034; omega⟩ (fun r_14 f9 H locs h hF2 hF hd hS => ?_)
  have hd := hd.symm
  obtain ⟨h, e9⟩ := h; rw [e9] at hF2 hd; clear e9
  simp only [Nat.add_zero]
  refine lv_iload hx hb dL_law_1334 (lv_at hl 1 rfl) ?_
  obtain ⟨h1, h2⟩ := h
  refine lv_icmp_eq (tgt := 1341) hx hb dL_law_1336 (by decide) (fun c_15 => ?_) (fun c_15 => ?_)
  · have h := h1 c_15
    refine lv_iload hx hb dL_law_1341 (lv_at hl 1 rfl) ?_
    obtain ⟨h1, h2⟩ := h
    refine lv_if_ne (tgt := 1365) hx hb dL_law_1343 (by decide) (fun c_16 => ?_) (fun c_16 => ?_)
    · have h := h1 c_16
      refine lv_goto (tgt := 1773) hx hb dL_law_1365 (by decide) ?_
      exact hC y4 f_6 n_12 g_13 (bc - ga_4) (bs - gb_5) _ _ _ _ _ h hbc hbs hF hF2 hd hS (lv_sub hl [2, 3, 4, 5, 6] rfl)
    · have h := h2 c_16
      refine lv_aload_n hx hb dL_law_1346 rfl (lv_at hl 5 rfl) ?_
      refine lv_iconst (v := (0 : Int32)) hx hb dL_law_1347 (by decide) ?_
      obtain ⟨n_q_18, q_18, he_q_18, hi_q_18, h⟩ := h
      refine fw_lald hx hb hK hF he_q_18 hi_q_18 dL_law_1348 ?_
      refine lv_topl (fun v_17 e_v_17 => ?_)
      have h := h v_17 e_v_17
      refine lv_iload hx hb dL_law_1349 (lv_at hl 0 rfl) ?_
      obtain ⟨h1, h2⟩ := h
      refine lv_if_eq (tgt := 1358) hx hb dL_law_1351 (by decide) (fun c_19 => ?_) (fun c_19 => ?_)
      · have h := h1 c_19
        refine lv_lconst (v := (0 : Int64)) hx hb dL_law_1358 (by decide) ?_
        refine W.lcmp hx hb dL_law_1359 ?_
        obtain ⟨h1, h2⟩ := h
        refine lv_if_eq (tgt := 1365) hx hb dL_law_1360 (by decide) (fun c_21 => ?_) (fun c_21 => ?_)
        · have h := h1 c_21
          refine lv_goto (tgt := 1773) hx hb dL_law_1365 (by decide) ?_
          exact hC y4 f_6 n_12 g_13 (bc - ga_4) (bs - gb_5) _ _ _ _ _ h hbc hbs hF hF2 hd hS (lv_sub hl [2, 3, 4, 5, 6] rfl)
        · have h := h2 c_21
          refine lv_iconst (v := (0 : Int32)) hx hb dL_law_1363 (by decide) ?_
          exact h.elim
      · have h := h2 c_19
        refine lv_lconst (v := (1 : Int64)) hx hb dL_law_1354 (by decide) ?_
        refine lv_goto (tgt := 1359) hx hb dL_law_1355 (by decide) ?_
        refine W.lcmp hx hb dL_law_1359 ?_
        obtain ⟨h1, h2⟩ := h
        refine lv_if_eq (tgt := 1365) hx hb dL_law_1360 (by decide) (fun c_23 => ?_) (fun c_23 => ?_)
        · have h := h1 c_23
          refine lv_goto (tgt := 1773) hx hb dL_law_1365 (by decide) ?_
          exact hC y4 f_6 n_12 g_13 (bc - ga_4) (bs - gb_5) _ _ _ _ _ h hbc hbs hF hF2 hd hS (lv_sub hl [2, 3, 4, 5, 6] rfl)
        · have h := h2 c_23
          refine lv_iconst (v := (0 : Int32)) hx hb dL_law_1363 (by decide) ?_
          exact h.elim
  · have h := h2 c_15
    refine lv_iconst (v := (0 : Int32)) hx hb dL_law_1339 (by decide) ?_
    exact h.elim
def wp_law_c25 (zd : Nat) (xs : Nat → Int32) (L xo oo : Nat) (y4 : Int32) (f : FT) (n : Nat → Int32) (g : Nat → Nat → Int32) (bc bs : Nat) (C : Int32 × FT × (Nat → Int32) × (Nat → Nat → Int32) × Nat × Nat → Prop) : Prop :=
  vp_in (y4 + (1 : Int32)) L ∧ ∀ v_1 : Int32, v_1 = xs ((y4 + (1 : Int32))).toNatClampNeg → ∃ ga_4 gb_5 : Nat, ga_4 ≤ bc ∧ gb_5 ≤ bs ∧ wp_L_retreat xo v_1 oo f ga_4 gb_5 (fun r_3 f_6 => vp_in (y4 + (1 : Int32)) L ∧ ∀ v_9 : Int32, v_9 = xs ((y4 + (1 : Int32))).toNatClampNeg → wp_X9_retreat v_9 n g (fun r_11 n_12 g_13 => wp_X9_thrown  n_12 g_13 (fun r_14 => ((r_14 = r_3 → ((¬ r_3 = (0 : Int32) → C (y4, f_6, n_12, g_13, (bc - ga_4), (bs - gb_5))) ∧
 (r_3 = (0 : Int32) → aJ f_6 oo (0 : Int32) fun v_17 => (((lg_cmp v_17 (Int32.toInt64 r_11)) = (0 : Int32) → C (y4, f_6, n_12, g_13, (bc - ga_4), (bs - gb_5))) ∧
 (¬ ((lg_cmp v_17 (Int32.toInt64 r_11)) = (0 : Int32)) → False))))) ∧
 (¬ (r_14 = r_3) → False)))))
set_option maxHeartbeats 4000000 in
set_option maxRecDepth 100000 in
theorem law_c25 {p : Program} {l : Launch} {e : Env} {s : State} {m : MethodId} {below : List Frame} {meth : Method} {c : Code} {b L : Nat} {xs : Nat → Int32} (hlt : l.stackTraces = false) (C0 : lw_At p s m meth c b L xs) {G : GG} (hK : FK G s) (hZ : FZ G (fun q : Nat => s.heap.size ≤ q) s s.heap) (hX : FX9 G (fun q : Nat => s.heap.size ≤ q) s s.heap) (hXN : FXN s) {zd : Nat} (hzd : G.2.2 0 = zd) {xo mo oo : Nat} {ad : Nat → Nat} (had : MAd mo ad) {C : Int32 × FT × (Nat → Int32) × (Nat → Nat → Int32) × Nat × Nat → Prop} : ∀ (y4 : Int32) (f : FT) (n : Nat → Int32) (g : Nat → Nat → Int32) (bc bs : Nat) (H : Heap) (locs : List Loc) (ls : Array Slot) (cs sl : Nat), (∀ (y4 : Int32) (f : FT) (n : Nat → Int32) (g : Nat → Nat → Int32) (bc bs : Nat) (H : Heap) (locs : List Loc) (ls : Array Slot) (cs sl : Nat), C (y4, f, n, g, bc, bs) → cs + bc ≤ 601024 → sl + bs ≤ 7293034 → Fw G (fun q : Nat => s.heap.size ≤ q) f H → Fw G (fun q : Nat => s.heap.size ≤ q) (mf mo ad n g) H → dj f (mf mo ad n g) → va_S (fun q : Nat => s.heap.size ≤ q) s.heap H locs → lv_has ls 7 [(0, .ref b), (1, .ref xo), (2, .ref mo), (3, .ref oo), (4, .int y4)] → W p l e room_1 s m #[Value.ref b] below meth c H locs cs sl (lw_Z below #[Value.ref b] s) (F0 m 1773 ls [])) → wp_law_c25 zd xs L xo oo y4 f n g bc bs C → cs + bc ≤ 601024 → sl + bs ≤ 7293034 → Fw G (fun q : Nat => s.heap.size ≤ q) f H → Fw G (fun q : Nat => s.heap.size ≤ q) (mf mo ad n g) H → dj f (mf mo ad n g) → va_S (fun q : Nat => s.heap.size ≤ q) s.heap H locs → lv_has ls 7 [(0, .ref b), (1, .ref xo), (2, .ref mo), (3, .ref oo), (4, .int y4)] → W p l e room_1 s m #[Value.ref b] below meth c H locs cs sl (lw_Z below #[Value.ref b] s) (F0 m 1368 ls []) := by
  obtain ⟨hx, hb, hr, hml, hown, hts0, hXs, hbl, hlocks, hgv⟩ := id C0
  have hts : ∀ w ∈ wsL_law, w.before #[Value.ref b] s = true := fun w h => hts0 w (wsL_law_in w h)
  have hA : ∀ q : Nat, s.heap.size ≤ q → (fun q : Nat => s.heap.size ≤ q) q := fun _ h => h
  have hbA : ¬ (fun q : Nat => s.heap.size ≤ q) b := Nat.not_le.mpr hbl
  intro y4 f n g bc bs H locs ls cs sl hC h hbc hbs hF hF2 hd hS hl
  unfold wp_law_c25 at h
  refine lv_aload_n hx hb dL_law_1368 rfl (lv_at hl 1 rfl) ?_
  refine lv_aload_n hx hb dL_law_1369 rfl (lv_at hl 0 rfl) ?_
  refine lv_iload hx hb dL_law_1370 (lv_at hl 4 rfl) ?_
  refine lv_iconst (v := (1 : Int32)) hx hb dL_law_1372 (by decide) ?_
  refine lv_iadd hx hb dL_law_1373 ?_
  obtain ⟨hi_i_2, h⟩ := h
  refine va_sld hx hb hXs hbl hbA hS hi_i_2 dL_law_1374 ?_
  refine lv_topi (fun v_1 e_v_1 => ?_)
  have h := h v_1 e_v_1
  refine lv_aload_n hx hb dL_law_1375 rfl (lv_at hl 3 rfl) ?_
  obtain ⟨ga_4, gb_5, hga_ga_4, hgb_ga_4, h⟩ := h
  refine fl_cSX_i (As := [.ref xo, .int v_1, .ref oo]) (rest := []) ⟨hx, hb, hml, hown, hts⟩ (cc_L_retreat l G hlt h) (cwSX 3 hts ggL_law_L_retreat rfl rfl rfl (hts0 (.initialized RL) (List.mem_of_getElem? (i := 58) (by decide +kernel))) (hts0 (.methodLink RL 197 yL_retreat) (List.mem_of_getElem? (i := 1258) (by decide +kernel))) (hts0 (.static yL_retreat) (List.mem_of_getElem? (i := 1259) (by decide +kernel))) (by decide +kernel) ⟨Nat.le_of_ble_eq_true rfl, Nat.le_of_ble_eq_true rfl⟩) hK hZ hX hXN hF hF2 hd hS hA rfl hl.1 rfl (Nat.le_of_ble_eq_true rfl) dL_law_1376 ⟨by show _ ≤ 601024; omega, by show _ ≤ 7293034; omega⟩ (fun r_3 f_6 H locs h hF hF2 hd hS => ?_)
  obtain ⟨cs_7, hcs⟩ : ∃ z, z = (cs + ga_4) := ⟨_, rfl⟩; obtain ⟨sl_8, hsl⟩ : ∃ z, z = (sl + gb_5) := ⟨_, rfl⟩
  have hbc : cs_7 + (bc - ga_4) ≤ 601024 := by omega
  have hbs : sl_8 + (bs - gb_5) ≤ 7293034 := by omega
  refine W.widen (k := cs_7) (n := sl_8) (by omega) (by omega) ?_
  clear hcs hsl
  refine lv_istore (lv' := [(5, .int r_3), (0, .ref b), (1, .ref xo), (2, .ref mo), (3, .ref oo), (4, .int y4)]) hx hb dL_law_1379 hl (by decide) rfl (fun ls hl => ?_)
  refine lv_aload_n hx hb dL_law_1381 rfl (lv_at hl 3 rfl) ?_
  refine lv_aload_n hx hb dL_law_1382 rfl (lv_at hl 1 rfl) ?_
  refine lv_iload hx hb dL_law_1383 (lv_at hl 5 rfl) ?_
  refine lv_iconst (v := (1 : Int32)) hx hb dL_law_1385 (by decide) ?_
  refine lv_iadd hx hb dL_law_1386 ?_
  obtain ⟨hi_i_10, h⟩ := h
  refine va_sld hx hb hXs hbl hbA hS hi_i_10 dL_law_1387 ?_
  refine lv_topi (fun v_9 e_v_9 => ?_)
  have h := h v_9 e_v_9
  refine fl_cV_i (As := [.int v_9]) (rest := []) ⟨hx, hb, hml, hown, hts⟩ (cc_X9_retreat l G had h) (⟨callB_of 1 hts ggL_law_X9_retreat rfl rfl rfl (hts0 (.initialized RX9) (List.mem_of_getElem? (i := 77) (by decide +kernel))) (hts0 (.methodLink RL 199 yX9_retreat) (List.mem_of_getElem? (i := 1724) (by decide +kernel))) (by decide +kernel) ⟨Nat.le_of_ble_eq_true rfl, Nat.le_of_ble_eq_true rfl⟩, (hts0 (.instanceMethod yX9_retreat) (List.mem_of_getElem? (i := 1725) (by decide +kernel))), (hts0 (.selects RX9 yX9_retreat yX9_retreat) (List.mem_of_getElem? (i := 1726) (by decide +kernel)))⟩) rfl mf_obj hK hZ hF2 hF hd.symm hS hA rfl hl.1 rfl (Nat.le_of_ble_eq_true rfl) dL_law_1388 ⟨by show _ + 0 ≤ 601024; omega, by show _ + 0 ≤ 7293034; omega⟩ (fun r_11 f9 H locs h hF2 hF hd hS => ?_)
  have hd := hd.symm
  obtain ⟨n_12, g_13, rfl, h⟩ := h
  simp only [Nat.add_zero]
  refine lv_istore (lv' := [(6, .int r_11), (5, .int r_3), (0, .ref b), (1, .ref xo), (2, .ref mo), (3, .ref oo), (4, .int y4)]) hx hb dL_law_1391 hl (by decide) rfl (fun ls hl => ?_)
  refine lv_aload_n hx hb dL_law_1393 rfl (lv_at hl 4 rfl) ?_
  refine fl_cV_i (As := []) (rest := []) ⟨hx, hb, hml, hown, hts⟩ (cc_X9_thrown l G had h) (⟨callB_of 0 hts ggL_law_X9_thrown rfl rfl rfl (hts0 (.initialized RX9) (List.mem_of_getElem? (i := 77) (by decide +kernel))) (hts0 (.methodLink RL 108 yX9_thrown) (List.mem_of_getElem? (i := 1465) (by decide +kernel))) (by decide +kernel) ⟨Nat.le_of_ble_eq_true rfl, Nat.le_of_ble_eq_true rfl⟩, (hts0 (.instanceMethod yX9_thrown) (List.mem_of_getElem? (i := 1466) (by decide +kernel))), (hts0 (.selects RX9 yX9_thrown yX9_thrown) (List.mem_of_getElem? (i := 1467) (by decide +kernel)))⟩) rfl mf_obj hK hZ hF2 hF hd.symm hS hA rfl hl.1 rfl (Nat.le_of_ble_eq_true rfl) dL_law_1394 ⟨by show _ + 0 ≤ 601024; omega, by show _ + 0 ≤ 7293034; omega⟩ (fun r_14 f9 H locs h hF2 hF hd hS => ?_)
  have hd := hd.symm
  obtain ⟨h, e9⟩ := h; rw [e9] at hF2 hd; clear e9
  simp only [Nat.add_zero]
  refine lv_iload hx hb dL_law_1397 (lv_at hl 1 rfl) ?_
  obtain ⟨h1, h2⟩ := h
  refine lv_icmp_eq (tgt := 1404) hx hb dL_law_1399 (by decide) (fun c_15 => ?_) (fun c_15 => ?_)
  · have h := h1 c_15
    refine lv_iload hx hb dL_law_1404 (lv_at hl 1 rfl) ?_
    obtain ⟨h1, h2⟩ := h
    refine lv_if_ne (tgt := 1421) hx hb dL_law_1406 (by decide) (fun c_16 => ?_) (fun c_16 => ?_)
    · have h := h1 c_16
      refine lv_goto (tgt := 1773) hx hb dL_law_1421 (by decide) ?_
      exact hC y4 f_6 n_12 g_13 (bc - ga_4) (bs - gb_5) _ _ _ _ _ h hbc hbs hF hF2 hd hS (lv_sub hl [2, 3, 4, 5, 6] rfl)
    · have h := h2 c_16
      refine lv_aload_n hx hb dL_law_1409 rfl (lv_at hl 5 rfl) ?_
      refine lv_iconst (v := (0 : Int32)) hx hb dL_law_1410 (by decide) ?_
      obtain ⟨n_q_18, q_18, he_q_18, hi_q_18, h⟩ := h
      refine fw_lald hx hb hK hF he_q_18 hi_q_18 dL_law_1411 ?_
      refine lv_topl (fun v_17 e_v_17 => ?_)
      have h := h v_17 e_v_17
      refine lv_iload hx hb dL_law_1412 (lv_at hl 0 rfl) ?_
      refine lv_i2l (v := (Int32.toInt64 r_11)) hx hb dL_law_1414 rfl ?_
      refine W.lcmp hx hb dL_law_1415 ?_
      obtain ⟨h1, h2⟩ := h
      refine lv_if_eq (tgt := 1421) hx hb dL_law_1416 (by decide) (fun c_20 => ?_) (fun c_20 => ?_)
      · have h := h1 c_20
        refine lv_goto (tgt := 1773) hx hb dL_law_1421 (by decide) ?_
        exact hC y4 f_6 n_12 g_13 (bc - ga_4) (bs - gb_5) _ _ _ _ _ h hbc hbs hF hF2 hd hS (lv_sub hl [2, 3, 4, 5, 6] rfl)
      · have h := h2 c_20
        refine lv_iconst (v := (0 : Int32)) hx hb dL_law_1419 (by decide) ?_
        exact h.elim
  · have h := h2 c_15
    refine lv_iconst (v := (0 : Int32)) hx hb dL_law_1402 (by decide) ?_
    exact h.elim
def wp_law_c26 (zd : Nat) (xs : Nat → Int32) (L xo oo : Nat) (y4 : Int32) (f : FT) (n : Nat → Int32) (g : Nat → Nat → Int32) (bc bs : Nat) (C : Int32 × FT × (Nat → Int32) × (Nat → Nat → Int32) × Nat × Nat → Prop) : Prop :=
  vp_in (y4 + (1 : Int32)) L ∧ ∀ v_1 : Int32, v_1 = xs ((y4 + (1 : Int32))).toNatClampNeg → ∃ ga_4 gb_5 : Nat, ga_4 ≤ bc ∧ gb_5 ≤ bs ∧ wp_L_current xo v_1 oo f ga_4 gb_5 (fun r_3 f_6 => vp_in (y4 + (1 : Int32)) L ∧ ∀ v_9 : Int32, v_9 = xs ((y4 + (1 : Int32))).toNatClampNeg → wp_X9_current v_9 n g (fun r_11 n_12 g_13 => wp_X9_thrown  n_12 g_13 (fun r_14 => ((r_14 = r_3 → ((¬ r_3 = (0 : Int32) → C (y4, f_6, n_12, g_13, (bc - ga_4), (bs - gb_5))) ∧
 (r_3 = (0 : Int32) → aJ f_6 oo (0 : Int32) fun v_17 => (((lg_cmp v_17 (Int32.toInt64 r_11)) = (0 : Int32) → C (y4, f_6, n_12, g_13, (bc - ga_4), (bs - gb_5))) ∧
 (¬ ((lg_cmp v_17 (Int32.toInt64 r_11)) = (0 : Int32)) → False))))) ∧
 (¬ (r_14 = r_3) → False)))))
set_option maxHeartbeats 4000000 in
set_option maxRecDepth 100000 in
theorem law_c26 {p : Program} {l : Launch} {e : Env} {s : State} {m : MethodId} {below : List Frame} {meth : Method} {c : Code} {b L : Nat} {xs : Nat → Int32} (hlt : l.stackTraces = false) (C0 : lw_At p s m meth c b L xs) {G : GG} (hK : FK G s) (hZ : FZ G (fun q : Nat => s.heap.size ≤ q) s s.heap) (hX : FX9 G (fun q : Nat => s.heap.size ≤ q) s s.heap) (hXN : FXN s) {zd : Nat} (hzd : G.2.2 0 = zd) {xo mo oo : Nat} {ad : Nat → Nat} (had : MAd mo ad) {C : Int32 × FT × (Nat → Int32) × (Nat → Nat → Int32) × Nat × Nat → Prop} : ∀ (y4 : Int32) (f : FT) (n : Nat → Int32) (g : Nat → Nat → Int32) (bc bs : Nat) (H : Heap) (locs : List Loc) (ls : Array Slot) (cs sl : Nat), (∀ (y4 : Int32) (f : FT) (n : Nat → Int32) (g : Nat → Nat → Int32) (bc bs : Nat) (H : Heap) (locs : List Loc) (ls : Array Slot) (cs sl : Nat), C (y4, f, n, g, bc, bs) → cs + bc ≤ 601024 → sl + bs ≤ 7293034 → Fw G (fun q : Nat => s.heap.size ≤ q) f H → Fw G (fun q : Nat => s.heap.size ≤ q) (mf mo ad n g) H → dj f (mf mo ad n g) → va_S (fun q : Nat => s.heap.size ≤ q) s.heap H locs → lv_has ls 7 [(0, .ref b), (1, .ref xo), (2, .ref mo), (3, .ref oo), (4, .int y4)] → W p l e room_1 s m #[Value.ref b] below meth c H locs cs sl (lw_Z below #[Value.ref b] s) (F0 m 1773 ls [])) → wp_law_c26 zd xs L xo oo y4 f n g bc bs C → cs + bc ≤ 601024 → sl + bs ≤ 7293034 → Fw G (fun q : Nat => s.heap.size ≤ q) f H → Fw G (fun q : Nat => s.heap.size ≤ q) (mf mo ad n g) H → dj f (mf mo ad n g) → va_S (fun q : Nat => s.heap.size ≤ q) s.heap H locs → lv_has ls 7 [(0, .ref b), (1, .ref xo), (2, .ref mo), (3, .ref oo), (4, .int y4)] → W p l e room_1 s m #[Value.ref b] below meth c H locs cs sl (lw_Z below #[Value.ref b] s) (F0 m 1424 ls []) := by
  obtain ⟨hx, hb, hr, hml, hown, hts0, hXs, hbl, hlocks, hgv⟩ := id C0
  have hts : ∀ w ∈ wsL_law, w.before #[Value.ref b] s = true := fun w h => hts0 w (wsL_law_in w h)
  have hA : ∀ q : Nat, s.heap.size ≤ q → (fun q : Nat => s.heap.size ≤ q) q := fun _ h => h
  have hbA : ¬ (fun q : Nat => s.heap.size ≤ q) b := Nat.not_le.mpr hbl
  intro y4 f n g bc bs H locs ls cs sl hC h hbc hbs hF hF2 hd hS hl
  unfold wp_law_c26 at h
  refine lv_aload_n hx hb dL_law_1424 rfl (lv_at hl 1 rfl) ?_
  refine lv_aload_n hx hb dL_law_1425 rfl (lv_at hl 0 rfl) ?_
  refine lv_iload hx hb dL_law_1426 (lv_at hl 4 rfl) ?_
  refine lv_iconst (v := (1 : Int32)) hx hb dL_law_1428 (by decide) ?_
  refine lv_iadd hx hb dL_law_1429 ?_
  obtain ⟨hi_i_2, h⟩ := h
  refine va_sld hx hb hXs hbl hbA hS hi_i_2 dL_law_1430 ?_
  refine lv_topi (fun v_1 e_v_1 => ?_)
  have h := h v_1 e_v_1
  refine lv_aload_n hx hb dL_law_1431 rfl (lv_at hl 3 rfl) ?_
  obtain ⟨ga_4, gb_5, hga_ga_4, hgb_ga_4, h⟩ := h
  refine fl_cSX_i (As := [.ref xo, .int v_1, .ref oo]) (rest := []) ⟨hx, hb, hml, hown, hts⟩ (cc_L_current l G hlt h) (cwSX 3 hts ggL_law_L_current rfl rfl rfl (hts0 (.initialized RL) (List.mem_of_getElem? (i := 58) (by decide +kernel))) (hts0 (.methodLink RL 200 yL_current) (List.mem_of_getElem? (i := 1266) (by decide +kernel))) (hts0 (.static yL_current) (List.mem_of_getElem? (i := 1267) (by decide +kernel))) (by decide +kernel) ⟨Nat.le_of_ble_eq_true rfl, Nat.le_of_ble_eq_true rfl⟩) hK hZ hX hXN hF hF2 hd hS hA rfl hl.1 rfl (Nat.le_of_ble_eq_true rfl) dL_law_1432 ⟨by show _ ≤ 601024; omega, by show _ ≤ 7293034; omega⟩ (fun r_3 f_6 H locs h hF hF2 hd hS => ?_)
  obtain ⟨cs_7, hcs⟩ : ∃ z, z = (cs + ga_4) := ⟨_, rfl⟩; obtain ⟨sl_8, hsl⟩ : ∃ z, z = (sl + gb_5) := ⟨_, rfl⟩
  have hbc : cs_7 + (bc - ga_4) ≤ 601024 := by omega
  have hbs : sl_8 + (bs - gb_5) ≤ 7293034 := by omega
  refine W.widen (k := cs_7) (n := sl_8) (by omega) (by omega) ?_
  clear hcs hsl
  refine lv_istore (lv' := [(5, .int r_3), (0, .ref b), (1, .ref xo), (2, .ref mo), (3, .ref oo), (4, .int y4)]) hx hb dL_law_1435 hl (by decide) rfl (fun ls hl => ?_)
  refine lv_aload_n hx hb dL_law_1437 rfl (lv_at hl 3 rfl) ?_
  refine lv_aload_n hx hb dL_law_1438 rfl (lv_at hl 1 rfl) ?_
  refine lv_iload hx hb dL_law_1439 (lv_at hl 5 rfl) ?_
  refine lv_iconst (v := (1 : Int32)) hx hb dL_law_1441 (by decide) ?_
  refine lv_iadd hx hb dL_law_1442 ?_
  obtain ⟨hi_i_10, h⟩ := h
  refine va_sld hx hb hXs hbl hbA hS hi_i_10 dL_law_1443 ?_
  refine lv_topi (fun v_9 e_v_9 => ?_)
  have h := h v_9 e_v_9
  refine fl_cV_i (As := [.int v_9]) (rest := []) ⟨hx, hb, hml, hown, hts⟩ (cc_X9_current l G had h) (⟨callB_of 1 hts ggL_law_X9_current rfl rfl rfl (hts0 (.initialized RX9) (List.mem_of_getElem? (i := 77) (by decide +kernel))) (hts0 (.methodLink RL 202 yX9_current) (List.mem_of_getElem? (i := 1728) (by decide +kernel))) (by decide +kernel) ⟨Nat.le_of_ble_eq_true rfl, Nat.le_of_ble_eq_true rfl⟩, (hts0 (.instanceMethod yX9_current) (List.mem_of_getElem? (i := 1729) (by decide +kernel))), (hts0 (.selects RX9 yX9_current yX9_current) (List.mem_of_getElem? (i := 1730) (by decide +kernel)))⟩) rfl mf_obj hK hZ hF2 hF hd.symm hS hA rfl hl.1 rfl (Nat.le_of_ble_eq_true rfl) dL_law_1444 ⟨by show _ + 0 ≤ 601024; omega, by show _ + 0 ≤ 7293034; omega⟩ (fun r_11 f9 H locs h hF2 hF hd hS => ?_)
  have hd := hd.symm
  obtain ⟨n_12, g_13, rfl, h⟩ := h
  simp only [Nat.add_zero]
  refine lv_istore (lv' := [(6, .int r_11), (5, .int r_3), (0, .ref b), (1, .ref xo), (2, .ref mo), (3, .ref oo), (4, .int y4)]) hx hb dL_law_1447 hl (by decide) rfl (fun ls hl => ?_)
  refine lv_aload_n hx hb dL_law_1449 rfl (lv_at hl 4 rfl) ?_
  refine fl_cV_i (As := []) (rest := []) ⟨hx, hb, hml, hown, hts⟩ (cc_X9_thrown l G had h) (⟨callB_of 0 hts ggL_law_X9_thrown rfl rfl rfl (hts0 (.initialized RX9) (List.mem_of_getElem? (i := 77) (by decide +kernel))) (hts0 (.methodLink RL 108 yX9_thrown) (List.mem_of_getElem? (i := 1465) (by decide +kernel))) (by decide +kernel) ⟨Nat.le_of_ble_eq_true rfl, Nat.le_of_ble_eq_true rfl⟩, (hts0 (.instanceMethod yX9_thrown) (List.mem_of_getElem? (i := 1466) (by decide +kernel))), (hts0 (.selects RX9 yX9_thrown yX9_thrown) (List.mem_of_getElem? (i := 1467) (by decide +kernel)))⟩) rfl mf_obj hK hZ hF2 hF hd.symm hS hA rfl hl.1 rfl (Nat.le_of_ble_eq_true rfl) dL_law_1450 ⟨by show _ + 0 ≤ 601024; omega, by show _ + 0 ≤ 7293034; omega⟩ (fun r_14 f9 H locs h hF2 hF hd hS => ?_)
  have hd := hd.symm
  obtain ⟨h, e9⟩ := h; rw [e9] at hF2 hd; clear e9
  simp only [Nat.add_zero]
  refine lv_iload hx hb dL_law_1453 (lv_at hl 1 rfl) ?_
  obtain ⟨h1, h2⟩ := h
  refine lv_icmp_eq (tgt := 1460) hx hb dL_law_1455 (by decide) (fun c_15 => ?_) (fun c_15 => ?_)
  · have h := h1 c_15
    refine lv_iload hx hb dL_law_1460 (lv_at hl 1 rfl) ?_
    obtain ⟨h1, h2⟩ := h
    refine lv_if_ne (tgt := 1477) hx hb dL_law_1462 (by decide) (fun c_16 => ?_) (fun c_16 => ?_)
    · have h := h1 c_16
      refine lv_goto (tgt := 1773) hx hb dL_law_1477 (by decide) ?_
      exact hC y4 f_6 n_12 g_13 (bc - ga_4) (bs - gb_5) _ _ _ _ _ h hbc hbs hF hF2 hd hS (lv_sub hl [2, 3, 4, 5, 6] rfl)
    · have h := h2 c_16
      refine lv_aload_n hx hb dL_law_1465 rfl (lv_at hl 5 rfl) ?_
      refine lv_iconst (v := (0 : Int32)) hx hb dL_law_1466 (by decide) ?_
      obtain ⟨n_q_18, q_18, he_q_18, hi_q_18, h⟩ := h
      refine fw_lald hx hb hK hF he_q_18 hi_q_18 dL_law_1467 ?_
      refine lv_topl (fun v_17 e_v_17 => ?_)
      have h := h v_17 e_v_17
      refine lv_iload hx hb dL_law_1468 (lv_at hl 0 rfl) ?_
      refine lv_i2l (v := (Int32.toInt64 r_11)) hx hb dL_law_1470 rfl ?_
      refine W.lcmp hx hb dL_law_1471 ?_
      obtain ⟨h1, h2⟩ := h
      refine lv_if_eq (tgt := 1477) hx hb dL_law_1472 (by decide) (fun c_20 => ?_) (fun c_20 => ?_)
      · have h := h1 c_20
        refine lv_goto (tgt := 1773) hx hb dL_law_1477 (by decide) ?_
        exact hC y4 f_6 n_12 g_13 (bc - ga_4) (bs - gb_5) _ _ _ _ _ h hbc hbs hF hF2 hd hS (lv_sub hl [2, 3, 4, 5, 6] rfl)
      · have h := h2 c_20
        refine lv_iconst (v := (0 : Int32)) hx hb dL_law_1475 (by decide) ?_
        exact h.elim
  · have h := h2 c_15
    refine lv_iconst (v := (0 : Int32)) hx hb dL_law_1458 (by decide) ?_
    exact h.elim
def wp_law_c27 (zd : Nat) (xs : Nat → Int32) (L xo oo : Nat) (y4 : Int32) (f : FT) (n : Nat → Int32) (g : Nat → Nat → Int32) (bc bs : Nat) (C : Int32 × FT × (Nat → Int32) × (Nat → Nat → Int32) × Nat × Nat → Prop) : Prop :=
  vp_in (y4 + (1 : Int32)) L ∧ ∀ v_1 : Int32, v_1 = xs ((y4 + (1 : Int32))).toNatClampNeg → ∃ ga_4 gb_5 : Nat, ga_4 ≤ bc ∧ gb_5 ≤ bs ∧ wp_L_removeAt xo v_1 oo f ga_4 gb_5 (fun r_3 f_6 => vp_in (y4 + (1 : Int32)) L ∧ ∀ v_9 : Int32, v_9 = xs ((y4 + (1 : Int32))).toNatClampNeg → wp_X9_removeAt v_9 n g (fun r_11 n_12 g_13 => wp_X9_thrown  n_12 g_13 (fun r_14 => ((r_14 = r_3 → ((¬ r_3 = (0 : Int32) → C (y4, f_6, n_12, g_13, (bc - ga_4), (bs - gb_5))) ∧
 (r_3 = (0 : Int32) → aJ f_6 oo (0 : Int32) fun v_17 => (((lg_cmp v_17 (Int32.toInt64 r_11)) = (0 : Int32) → C (y4, f_6, n_12, g_13, (bc - ga_4), (bs - gb_5))) ∧
 (¬ ((lg_cmp v_17 (Int32.toInt64 r_11)) = (0 : Int32)) → False))))) ∧
 (¬ (r_14 = r_3) → False)))))
set_option maxHeartbeats 4000000 in
set_option maxRecDepth 100000 in
theorem law_c27 {p : Program} {l : Launch} {e : Env} {s : State} {m : MethodId} {below : List Frame} {meth : Method} {c : Code} {b L : Nat} {xs : Nat → Int32} (hlt : l.stackTraces = false) (C0 : lw_At p s m meth c b L xs) {G : GG} (hK : FK G s) (hZ : FZ G (fun q : Nat => s.heap.size ≤ q) s s.heap) (hX : FX9 G (fun q : Nat => s.heap.size ≤ q) s s.heap) (hXN : FXN s) {zd : Nat} (hzd : G.2.2 0 = zd) {xo mo oo : Nat} {ad : Nat → Nat} (had : MAd mo ad) {C : Int32 × FT × (Nat → Int32) × (Nat → Nat → Int32) × Nat × Nat → Prop} : ∀ (y4 : Int32) (f : FT) (n : Nat → Int32) (g : Nat → Nat → Int32) (bc bs : Nat) (H : Heap) (locs : List Loc) (ls : Array Slot) (cs sl : Nat), (∀ (y4 : Int32) (f : FT) (n : Nat → Int32) (g : Nat → Nat → Int32) (bc bs : Nat) (H : Heap) (locs : List Loc) (ls : Array Slot) (cs sl : Nat), C (y4, f, n, g, bc, bs) → cs + bc ≤ 601024 → sl + bs ≤ 7293034 → Fw G (fun q : Nat => s.heap.size ≤ q) f H → Fw G (fun q : Nat => s.heap.size ≤ q) (mf mo ad n g) H → dj f (mf mo ad n g) → va_S (fun q : Nat => s.heap.size ≤ q) s.heap H locs → lv_has ls 7 [(0, .ref b), (1, .ref xo), (2, .ref mo), (3, .ref oo), (4, .int y4)] → W p l e room_1 s m #[Value.ref b] below meth c H locs cs sl (lw_Z below #[Value.ref b] s) (F0 m 1773 ls [])) → wp_law_c27 zd xs L xo oo y4 f n g bc bs C → cs + bc ≤ 601024 → sl + bs ≤ 7293034 → Fw G (fun q : Nat => s.heap.size ≤ q) f H → Fw G (fun q : Nat => s.heap.size ≤ q) (mf mo ad n g) H → dj f (mf mo ad n g) → va_S (fun q : Nat => s.heap.size ≤ q) s.heap H locs → lv_has ls 7 [(0, .ref b), (1, .ref xo), (2, .ref mo), (3, .ref oo), (4, .int y4)] → W p l e room_1 s m #[Value.ref b] below meth c H locs cs sl (lw_Z below #[Value.ref b] s) (F0 m 1480 ls []) := by
  obtain ⟨hx, hb, hr, hml, hown, hts0, hXs, hbl, hlocks, hgv⟩ := id C0
  have hts : ∀ w ∈ wsL_law, w.before #[Value.ref b] s = true := fun w h => hts0 w (wsL_law_in w h)
  have hA : ∀ q : Nat, s.heap.size ≤ q → (fun q : Nat => s.heap.size ≤ q) q := fun _ h => h
  have hbA : ¬ (fun q : Nat => s.heap.size ≤ q) b := Nat.not_le.mpr hbl
  intro y4 f n g bc bs H locs ls cs sl hC h hbc hbs hF hF2 hd hS hl
  unfold wp_law_c27 at h
  refine lv_aload_n hx hb dL_law_1480 rfl (lv_at hl 1 rfl) ?_
  refine lv_aload_n hx hb dL_law_1481 rfl (lv_at hl 0 rfl) ?_
  refine lv_iload hx hb dL_law_1482 (lv_at hl 4 rfl) ?_
  refine lv_iconst (v := (1 : Int32)) hx hb dL_law_1484 (by decide) ?_
  refine lv_iadd hx hb dL_law_1485 ?_
  obtain ⟨hi_i_2, h⟩ := h
  refine va_sld hx hb hXs hbl hbA hS hi_i_2 dL_law_1486 ?_
  refine lv_topi (fun v_1 e_v_1 => ?_)
  have h := h v_1 e_v_1
  refine lv_aload_n hx hb dL_law_1487 rfl (lv_at hl 3 rfl) ?_
  obtain ⟨ga_4, gb_5, hga_ga_4, hgb_ga_4, h⟩ := h
  refine fl_cSX_i (As := [.ref xo, .int v_1, .ref oo]) (rest := []) ⟨hx, hb, hml, hown, hts⟩ (cc_L_removeAt l G hlt h) (cwSX 3 hts ggL_law_L_removeAt rfl rfl rfl (hts0 (.initialized RL) (List.mem_of_getElem? (i := 58) (by decide +kernel))) (hts0 (.methodLink RL 203 yL_removeAt) (List.mem_of_getElem? (i := 1273) (by decide +kernel))) (hts0 (.static yL_removeAt) (List.mem_of_getElem? (i := 1274) (by decide +kernel))) (by decide +kernel) ⟨Nat.le_of_ble_eq_true rfl, Nat.le_of_ble_eq_true rfl⟩) hK hZ hX hXN hF hF2 hd hS hA rfl hl.1 rfl (Nat.le_of_ble_eq_true rfl) dL_law_1488 ⟨by show _ ≤ 601024; omega, by show _ ≤ 7293034; omega⟩ (fun r_3 f_6 H locs h hF hF2 hd hS => ?_)
  obtain ⟨cs_7, hcs⟩ : ∃ z, z = (cs + ga_4) := ⟨_, rfl⟩; obtain ⟨sl_8, hsl⟩ : ∃ z, z = (sl + gb_5) := ⟨_, rfl⟩
  have hbc : cs_7 + (bc - ga_4) ≤ 601024 := by omega
  have hbs : sl_8 + (bs - gb_5) ≤ 7293034 := by omega
  refine W.widen (k := cs_7) (n := sl_8) (by omega) (by omega) ?_
  clear hcs hsl
  refine lv_istore (lv' := [(5, .int r_3), (0, .ref b), (1, .ref xo), (2, .ref mo), (3, .ref oo), (4, .int y4)]) hx hb dL_law_1491 hl (by decide) rfl (fun ls hl => ?_)
  refine lv_aload_n hx hb dL_law_1493 rfl (lv_at hl 3 rfl) ?_
  refine lv_aload_n hx hb dL_law_1494 rfl (lv_at hl 1 rfl) ?_
  refine lv_iload hx hb dL_law_1495 (lv_at hl 5 rfl) ?_
  refine lv_iconst (v := (1 : Int32)) hx hb dL_law_1497 (by decide) ?_
  refine lv_iadd hx hb dL_law_1498 ?_
  obtain ⟨hi_i_10, h⟩ := h
  refine va_sld hx hb hXs hbl hbA hS hi_i_10 dL_law_1499 ?_
  refine lv_topi (fun v_9 e_v_9 => ?_)
  have h := h v_9 e_v_9
  refine fl_cV_i (As := [.int v_9]) (rest := []) ⟨hx, hb, hml, hown, hts⟩ (cc_X9_removeAt l G had h) (⟨callB_of 1 hts ggL_law_X9_removeAt rfl rfl rfl (hts0 (.initialized RX9) (List.mem_of_getElem? (i := 77) (by decide +kernel))) (hts0 (.methodLink RL 205 yX9_removeAt) (List.mem_of_getElem? (i := 1732) (by decide +kernel))) (by decide +kernel) ⟨Nat.le_of_ble_eq_true rfl, Nat.le_of_ble_eq_true rfl⟩, (hts0 (.instanceMethod yX9_removeAt) (List.mem_of_getElem? (i := 1733) (by decide +kernel))), (hts0 (.selects RX9 yX9_removeAt yX9_removeAt) (List.mem_of_getElem? (i := 1734) (by decide +kernel)))⟩) rfl mf_obj hK hZ hF2 hF hd.symm hS hA rfl hl.1 rfl (Nat.le_of_ble_eq_true rfl) dL_law_1500 ⟨by show _ + 0 ≤ 601024; omega, by show _ + 0 ≤ 7293034; omega⟩ (fun r_11 f9 H locs h hF2 hF hd hS => ?_)
  have hd := hd.symm
  obtain ⟨n_12, g_13, rfl, h⟩ := h
  simp only [Nat.add_zero]
  refine lv_istore (lv' := [(6, .int r_11), (5, .int r_3), (0, .ref b), (1, .ref xo), (2, .ref mo), (3, .ref oo), (4, .int y4)]) hx hb dL_law_1503 hl (by decide) rfl (fun ls hl => ?_)
  refine lv_aload_n hx hb dL_law_1505 rfl (lv_at hl 4 rfl) ?_
  refine fl_cV_i (As := []) (rest := []) ⟨hx, hb, hml, hown, hts⟩ (cc_X9_thrown l G had h) (⟨callB_of 0 hts ggL_law_X9_thrown rfl rfl rfl (hts0 (.initialized RX9) (List.mem_of_getElem? (i := 77) (by decide +kernel))) (hts0 (.methodLink RL 108 yX9_thrown) (List.mem_of_getElem? (i := 1465) (by decide +kernel))) (by decide +kernel) ⟨Nat.le_of_ble_eq_true rfl, Nat.le_of_ble_eq_true rfl⟩, (hts0 (.instanceMethod yX9_thrown) (List.mem_of_getElem? (i := 1466) (by decide +kernel))), (hts0 (.selects RX9 yX9_thrown yX9_thrown) (List.mem_of_getElem? (i := 1467) (by decide +kernel)))⟩) rfl mf_obj hK hZ hF2 hF hd.symm hS hA rfl hl.1 rfl (Nat.le_of_ble_eq_true rfl) dL_law_1506 ⟨by show _ + 0 ≤ 601024; omega, by show _ + 0 ≤ 7293034; omega⟩ (fun r_14 f9 H locs h hF2 hF hd hS => ?_)
  have hd := hd.symm
  obtain ⟨h, e9⟩ := h; rw [e9] at hF2 hd; clear e9
  simp only [Nat.add_zero]
  refine lv_iload hx hb dL_law_1509 (lv_at hl 1 rfl) ?_
  obtain ⟨h1, h2⟩ := h
  refine lv_icmp_eq (tgt := 1516) hx hb dL_law_1511 (by decide) (fun c_15 => ?_) (fun c_15 => ?_)
  · have h := h1 c_15
    refine lv_iload hx hb dL_law_1516 (lv_at hl 1 rfl) ?_
    obtain ⟨h1, h2⟩ := h
    refine lv_if_ne (tgt := 1533) hx hb dL_law_1518 (by decide) (fun c_16 => ?_) (fun c_16 => ?_)
    · have h := h1 c_16
      refine lv_goto (tgt := 1773) hx hb dL_law_1533 (by decide) ?_
      exact hC y4 f_6 n_12 g_13 (bc - ga_4) (bs - gb_5) _ _ _ _ _ h hbc hbs hF hF2 hd hS (lv_sub hl [2, 3, 4, 5, 6] rfl)
    · have h := h2 c_16
      refine lv_aload_n hx hb dL_law_1521 rfl (lv_at hl 5 rfl) ?_
      refine lv_iconst (v := (0 : Int32)) hx hb dL_law_1522 (by decide) ?_
      obtain ⟨n_q_18, q_18, he_q_18, hi_q_18, h⟩ := h
      refine fw_lald hx hb hK hF he_q_18 hi_q_18 dL_law_1523 ?_
      refine lv_topl (fun v_17 e_v_17 => ?_)
      have h := h v_17 e_v_17
      refine lv_iload hx hb dL_law_1524 (lv_at hl 0 rfl) ?_
      refine lv_i2l (v := (Int32.toInt64 r_11)) hx hb dL_law_1526 rfl ?_
      refine W.lcmp hx hb dL_law_1527 ?_
      obtain ⟨h1, h2⟩ := h
      refine lv_if_eq (tgt := 1533) hx hb dL_law_1528 (by decide) (fun c_20 => ?_) (fun c_20 => ?_)
      · have h := h1 c_20
        refine lv_goto (tgt := 1773) hx hb dL_law_1533 (by decide) ?_
        exact hC y4 f_6 n_12 g_13 (bc - ga_4) (bs - gb_5) _ _ _ _ _ h hbc hbs hF hF2 hd hS (lv_sub hl [2, 3, 4, 5, 6] rfl)
      · have h := h2 c_20
        refine lv_iconst (v := (0 : Int32)) hx hb dL_law_1531 (by decide) ?_
        exact h.elim
  · have h := h2 c_15
    refine lv_iconst (v := (0 : Int32)) hx hb dL_law_1514 (by decide) ?_
    exact h.elim
def wp_law_c28 (zd : Nat) (xs : Nat → Int32) (L xo oo : Nat) (y4 : Int32) (f : FT) (n : Nat → Int32) (g : Nat → Nat → Int32) (bc bs : Nat) (C : Int32 × FT × (Nat → Int32) × (Nat → Nat → Int32) × Nat × Nat → Prop) : Prop :=
  vp_in (y4 + (1 : Int32)) L ∧ ∀ v_1 : Int32, v_1 = xs ((y4 + (1 : Int32))).toNatClampNeg → vp_in (y4 + (2 : Int32)) L ∧ ∀ v_3 : Int32, v_3 = xs ((y4 + (2 : Int32))).toNatClampNeg → ∃ ga_6 gb_7 : Nat, ga_6 ≤ bc ∧ gb_7 ≤ bs ∧ wp_L_distance xo v_1 v_3 oo f ga_6 gb_7 (fun r_5 f_8 => vp_in (y4 + (1 : Int32)) L ∧ ∀ v_11 : Int32, v_11 = xs ((y4 + (1 : Int32))).toNatClampNeg → vp_in (y4 + (2 : Int32)) L ∧ ∀ v_13 : Int32, v_13 = xs ((y4 + (2 : Int32))).toNatClampNeg → wp_X9_distance v_11 v_13 n g (fun r_15 n_16 g_17 => wp_X9_thrown  n_16 g_17 (fun r_18 => ((r_18 = r_5 → ((¬ r_5 = (0 : Int32) → C (y4, f_8, n_16, g_17, (bc - ga_6), (bs - gb_7))) ∧
 (r_5 = (0 : Int32) → aJ f_8 oo (0 : Int32) fun v_21 => (((lg_cmp v_21 (Int32.toInt64 r_15)) = (0 : Int32) → C (y4, f_8, n_16, g_17, (bc - ga_6), (bs - gb_7))) ∧
 (¬ ((lg_cmp v_21 (Int32.toInt64 r_15)) = (0 : Int32)) → False))))) ∧
 (¬ (r_18 = r_5) → False)))))
set_option maxHeartbeats 4000000 in
set_option maxRecDepth 100000 in
theorem law_c28 {p : Program} {l : Launch} {e : Env} {s : State} {m : MethodId} {below : List Frame} {meth : Method} {c : Code} {b L : Nat} {xs : Nat → Int32} (hlt : l.stackTraces = false) (C0 : lw_At p s m meth c b L xs) {G : GG} (hK : FK G s) (hZ : FZ G (fun q : Nat => s.heap.size ≤ q) s s.heap) (hX : FX9 G (fun q : Nat => s.heap.size ≤ q) s s.heap) (hXN : FXN s) {zd : Nat} (hzd : G.2.2 0 = zd) {xo mo oo : Nat} {ad : Nat → Nat} (had : MAd mo ad) {C : Int32 × FT × (Nat → Int32) × (Nat → Nat → Int32) × Nat × Nat → Prop} : ∀ (y4 : Int32) (f : FT) (n : Nat → Int32) (g : Nat → Nat → Int32) (bc bs : Nat) (H : Heap) (locs : List Loc) (ls : Array Slot) (cs sl : Nat), (∀ (y4 : Int32) (f : FT) (n : Nat → Int32) (g : Nat → Nat → Int32) (bc bs : Nat) (H : Heap) (locs : List Loc) (ls : Array Slot) (cs sl : Nat), C (y4, f, n, g, bc, bs) → cs + bc ≤ 601024 → sl + bs ≤ 7293034 → Fw G (fun q : Nat => s.heap.size ≤ q) f H → Fw G (fun q : Nat => s.heap.size ≤ q) (mf mo ad n g) H → dj f (mf mo ad n g) → va_S (fun q : Nat => s.heap.size ≤ q) s.heap H locs → lv_has ls 7 [(0, .ref b), (1, .ref xo), (2, .ref mo), (3, .ref oo), (4, .int y4)] → W p l e room_1 s m #[Value.ref b] below meth c H locs cs sl (lw_Z below #[Value.ref b] s) (F0 m 1773 ls [])) → wp_law_c28 zd xs L xo oo y4 f n g bc bs C → cs + bc ≤ 601024 → sl + bs ≤ 7293034 → Fw G (fun q : Nat => s.heap.size ≤ q) f H → Fw G (fun q : Nat => s.heap.size ≤ q) (mf mo ad n g) H → dj f (mf mo ad n g) → va_S (fun q : Nat => s.heap.size ≤ q) s.heap H locs → lv_has ls 7 [(0, .ref b), (1, .ref xo), (2, .ref mo), (3, .ref oo), (4, .int y4)] → W p l e room_1 s m #[Value.ref b] below meth c H locs cs sl (lw_Z below #[Value.ref b] s) (F0 m 1536 ls []) := by
  obtain ⟨hx, hb, hr, hml, hown, hts0, hXs, hbl, hlocks, hgv⟩ := id C0
  have hts : ∀ w ∈ wsL_law, w.before #[Value.ref b] s = true := fun w h => hts0 w (wsL_law_in w h)
  have hA : ∀ q : Nat, s.heap.size ≤ q → (fun q : Nat => s.heap.size ≤ q) q := fun _ h => h
  have hbA : ¬ (fun q : Nat => s.heap.size ≤ q) b := Nat.not_le.mpr hbl
  intro y4 f n g bc bs H locs ls cs sl hC h hbc hbs hF hF2 hd hS hl
  unfold wp_law_c28 at h
  refine lv_aload_n hx hb dL_law_1536 rfl (lv_at hl 1 rfl) ?_
  refine lv_aload_n hx hb dL_law_1537 rfl (lv_at hl 0 rfl) ?_
  refine lv_iload hx hb dL_law_1538 (lv_at hl 4 rfl) ?_
  refine lv_iconst (v := (1 : Int32)) hx hb dL_law_1540 (by decide) ?_
  refine lv_iadd hx hb dL_law_1541 ?_
  obtain ⟨hi_i_2, h⟩ := h
  refine va_sld hx hb hXs hbl hbA hS hi_i_2 dL_law_1542 ?_
  refine lv_topi (fun v_1 e_v_1 => ?_)
  have h := h v_1 e_v_1
  refine lv_aload_n hx hb dL_law_1543 rfl (lv_at hl 0 rfl) ?_
  refine lv_iload hx hb dL_law_1544 (lv_at hl 4 rfl) ?_
  refine lv_iconst (v := (2 : Int32)) hx hb dL_law_1546 (by decide) ?_
  refine lv_iadd hx hb dL_law_1547 ?_
  obtain ⟨hi_i_4, h⟩ := h
  refine va_sld hx hb hXs hbl hbA hS hi_i_4 dL_law_1548 ?_
  refine lv_topi (fun v_3 e_v_3 => ?_)
  have h := h v_3 e_v_3
  refine lv_aload_n hx hb dL_law_1549 rfl (lv_at hl 3 rfl) ?_
  obtain ⟨ga_6, gb_7, hga_ga_6, hgb_ga_6, h⟩ := h
  refine fl_cSX_i (As := [.ref xo, .int v_1, .int v_3, .ref oo]) (rest := []) ⟨hx, hb, hml, hown, hts⟩ (cc_L_distance l G hlt h) (cwSX 4 hts ggL_law_L_distance rfl rfl rfl (hts0 (.initialized RL) (List.mem_of_getElem? (i := 58) (by decide +kernel))) (hts0 (.methodLink RL 206 yL_distance) (List.mem_of_getElem? (i := 1280) (by decide +kernel))) (hts0 (.static yL_distance) (List.mem_of_getElem? (i := 1281) (by decide +kernel))) (by decide +kernel) ⟨Nat.le_of_ble_eq_true rfl, Nat.le_of_ble_eq_true rfl⟩) hK hZ hX hXN hF hF2 hd hS hA rfl hl.1 rfl (Nat.le_of_ble_eq_true rfl) dL_law_1550 ⟨by show _ ≤ 601024; omega, by show _ ≤ 7293034; omega⟩ (fun r_5 f_8 H locs h hF hF2 hd hS => ?_)
  obtain ⟨cs_9, hcs⟩ : ∃ z, z = (cs + ga_6) := ⟨_, rfl⟩; obtain ⟨sl_10, hsl⟩ : ∃ z, z = (sl + gb_7) := ⟨_, rfl⟩
  have hbc : cs_9 + (bc - ga_6) ≤ 601024 := by omega
  have hbs : sl_10 + (bs - gb_7) ≤ 7293034 := by omega
  refine W.widen (k := cs_9) (n := sl_10) (by omega) (by omega) ?_
  clear hcs hsl
  refine lv_istore (lv' := [(5, .int r_5), (0, .ref b), (1, .ref xo), (2, .ref mo), (3, .ref oo), (4, .int y4)]) hx hb dL_law_1553 hl (by decide) rfl (fun ls hl => ?_)
  refine lv_aload_n hx hb dL_law_1555 rfl (lv_at hl 3 rfl) ?_
  refine lv_aload_n hx hb dL_law_1556 rfl (lv_at hl 1 rfl) ?_
  refine lv_iload hx hb dL_law_1557 (lv_at hl 5 rfl) ?_
  refine lv_iconst (v := (1 : Int32)) hx hb dL_law_1559 (by decide) ?_
  refine lv_iadd hx hb dL_law_1560 ?_
  obtain ⟨hi_i_12, h⟩ := h
  refine va_sld hx hb hXs hbl hbA hS hi_i_12 dL_law_1561 ?_
  refine lv_topi (fun v_11 e_v_11 => ?_)
  have h := h v_11 e_v_11
  refine lv_aload_n hx hb dL_law_1562 rfl (lv_at hl 1 rfl) ?_
  refine lv_iload hx hb dL_law_1563 (lv_at hl 5 rfl) ?_
  refine lv_iconst (v := (2 : Int32)) hx hb dL_law_1565 (by decide) ?_
  refine lv_iadd hx hb dL_law_1566 ?_
  obtain ⟨hi_i_14, h⟩ := h
  refine va_sld hx hb hXs hbl hbA hS hi_i_14 dL_law_1567 ?_
  refine lv_topi (fun v_13 e_v_13 => ?_)
  have h := h v_13 e_v_13
  refine fl_cV_i (As := [.int v_11, .int v_13]) (rest := []) ⟨hx, hb, hml, hown, hts⟩ (cc_X9_distance l G had h) (⟨callB_of 2 hts ggL_law_X9_distance rfl rfl rfl (hts0 (.initialized RX9) (List.mem_of_getElem? (i := 77) (by decide +kernel))) (hts0 (.methodLink RL 208 yX9_distance) (List.mem_of_getElem? (i := 1736) (by decide +kernel))) (by decide +kernel) ⟨Nat.le_of_ble_eq_true rfl, Nat.le_of_ble_eq_true rfl⟩, (hts0 (.instanceMethod yX9_distance) (List.mem_of_getElem? (i := 1737) (by decide +kernel))), (hts0 (.selects RX9 yX9_distance yX9_distance) (List.mem_of_getElem? (i := 1738) (by decide +kernel)))⟩) rfl mf_obj hK hZ hF2 hF hd.symm hS hA rfl hl.1 rfl (Nat.le_of_ble_eq_true rfl) dL_law_1568 ⟨by show _ + 0 ≤ 601024; omega, by show _ + 0 ≤ 7293034; omega⟩ (fun r_15 f9 H locs h hF2 hF hd hS => ?_)
  have hd := hd.symm
  obtain ⟨n_16, g_17, rfl, h⟩ := h
  simp only [Nat.add_zero]
  refine lv_istore (lv' := [(6, .int r_15), (5, .int r_5), (0, .ref b), (1, .ref xo), (2, .ref mo), (3, .ref oo), (4, .int y4)]) hx hb dL_law_1571 hl (by decide) rfl (fun ls hl => ?_)
  refine lv_aload_n hx hb dL_law_1573 rfl (lv_at hl 4 rfl) ?_
  refine fl_cV_i (As := []) (rest := []) ⟨hx, hb, hml, hown, hts⟩ (cc_X9_thrown l G had h) (⟨callB_of 0 hts ggL_law_X9_thrown rfl rfl rfl (hts0 (.initialized RX9) (List.mem_of_getElem? (i := 77) (by decide +kernel))) (hts0 (.methodLink RL 108 yX9_thrown) (List.mem_of_getElem? (i := 1465) (by decide +kernel))) (by decide +kernel) ⟨Nat.le_of_ble_eq_true rfl, Nat.le_of_ble_eq_true rfl⟩, (hts0 (.instanceMethod yX9_thrown) (List.mem_of_getElem? (i := 1466) (by decide +kernel))), (hts0 (.selects RX9 yX9_thrown yX9_thrown) (List.mem_of_getElem? (i := 1467) (by decide +kernel)))⟩) rfl mf_obj hK hZ hF2 hF hd.symm hS hA rfl hl.1 rfl (Nat.le_of_ble_eq_true rfl) dL_law_1574 ⟨by show _ + 0 ≤ 601024; omega, by show _ + 0 ≤ 7293034; omega⟩ (fun r_18 f9 H locs h hF2 hF hd hS => ?_)
  have hd := hd.symm
  obtain ⟨h, e9⟩ := h; rw [e9] at hF2 hd; clear e9
  simp only [Nat.add_zero]
  refine lv_iload hx hb dL_law_1577 (lv_at hl 1 rfl) ?_
  obtain ⟨h1, h2⟩ := h
  refine lv_icmp_eq (tgt := 1584) hx hb dL_law_1579 (by decide) (fun c_19 => ?_) (fun c_19 => ?_)
  · have h := h1 c_19
    refine lv_iload hx hb dL_law_1584 (lv_at hl 1 rfl) ?_
    obtain ⟨h1, h2⟩ := h
    refine lv_if_ne (tgt := 1601) hx hb dL_law_1586 (by decide) (fun c_20 => ?_) (fun c_20 => ?_)
    · have h := h1 c_20
      refine lv_goto (tgt := 1773) hx hb dL_law_1601 (by decide) ?_
      exact hC y4 f_8 n_16 g_17 (bc - ga_6) (bs - gb_7) _ _ _ _ _ h hbc hbs hF hF2 hd hS (lv_sub hl [2, 3, 4, 5, 6] rfl)
    · have h := h2 c_20
      refine lv_aload_n hx hb dL_law_1589 rfl (lv_at hl 5 rfl) ?_
      refine lv_iconst (v := (0 : Int32)) hx hb dL_law_1590 (by decide) ?_
      obtain ⟨n_q_22, q_22, he_q_22, hi_q_22, h⟩ := h
      refine fw_lald hx hb hK hF he_q_22 hi_q_22 dL_law_1591 ?_
      refine lv_topl (fun v_21 e_v_21 => ?_)
      have h := h v_21 e_v_21
      refine lv_iload hx hb dL_law_1592 (lv_at hl 0 rfl) ?_
      refine lv_i2l (v := (Int32.toInt64 r_15)) hx hb dL_law_1594 rfl ?_
      refine W.lcmp hx hb dL_law_1595 ?_
      obtain ⟨h1, h2⟩ := h
      refine lv_if_eq (tgt := 1601) hx hb dL_law_1596 (by decide) (fun c_24 => ?_) (fun c_24 => ?_)
      · have h := h1 c_24
        refine lv_goto (tgt := 1773) hx hb dL_law_1601 (by decide) ?_
        exact hC y4 f_8 n_16 g_17 (bc - ga_6) (bs - gb_7) _ _ _ _ _ h hbc hbs hF hF2 hd hS (lv_sub hl [2, 3, 4, 5, 6] rfl)
      · have h := h2 c_24
        refine lv_iconst (v := (0 : Int32)) hx hb dL_law_1599 (by decide) ?_
        exact h.elim
  · have h := h2 c_19
    refine lv_iconst (v := (0 : Int32)) hx hb dL_law_1582 (by decide) ?_
    exact h.elim
def wp_law_c29 (zd : Nat) (xs : Nat → Int32) (L xo oo : Nat) (y4 : Int32) (f : FT) (n : Nat → Int32) (g : Nat → Nat → Int32) (bc bs : Nat) (C : Int32 × FT × (Nat → Int32) × (Nat → Nat → Int32) × Nat × Nat → Prop) : Prop :=
  vp_in (y4 + (1 : Int32)) L ∧ ∀ v_1 : Int32, v_1 = xs ((y4 + (1 : Int32))).toNatClampNeg → ∃ ga_4 gb_5 : Nat, ga_4 ≤ bc ∧ gb_5 ≤ bs ∧ wp_L_queue zd xo v_1 oo f ga_4 gb_5 (fun r_3 f_6 => vp_in (y4 + (1 : Int32)) L ∧ ∀ v_9 : Int32, v_9 = xs ((y4 + (1 : Int32))).toNatClampNeg → wp_X9_queue v_9 n g (fun r_11 n_12 g_13 => wp_X9_thrown  n_12 g_13 (fun r_14 => ((r_14 = r_3 → ((¬ r_3 = (0 : Int32) → C (y4, f_6, n_12, g_13, (bc - ga_4), (bs - gb_5))) ∧
 (r_3 = (0 : Int32) → aJ f_6 oo (0 : Int32) fun v_17 => (((lg_cmp v_17 (Int32.toInt64 r_11)) = (0 : Int32) → C (y4, f_6, n_12, g_13, (bc - ga_4), (bs - gb_5))) ∧
 (¬ ((lg_cmp v_17 (Int32.toInt64 r_11)) = (0 : Int32)) → False))))) ∧
 (¬ (r_14 = r_3) → False)))))
set_option maxHeartbeats 4000000 in
set_option maxRecDepth 100000 in
theorem law_c29 {p : Program} {l : Launch} {e : Env} {s : State} {m : MethodId} {below : List Frame} {meth : Method} {c : Code} {b L : Nat} {xs : Nat → Int32} (hlt : l.stackTraces = false) (C0 : lw_At p s m meth c b L xs) {G : GG} (hK : FK G s) (hZ : FZ G (fun q : Nat => s.heap.size ≤ q) s s.heap) (hX : FX9 G (fun q : Nat => s.heap.size ≤ q) s s.heap) (hXN : FXN s) {zd : Nat} (hzd : G.2.2 0 = zd) {xo mo oo : Nat} {ad : Nat → Nat} (had : MAd mo ad) {C : Int32 × FT × (Nat → Int32) × (Nat → Nat → Int32) × Nat × Nat → Prop} : ∀ (y4 : Int32) (f : FT) (n : Nat → Int32) (g : Nat → Nat → Int32) (bc bs : Nat) (H : Heap) (locs : List Loc) (ls : Array Slot) (cs sl : Nat), (∀ (y4 : Int32) (f : FT) (n : Nat → Int32) (g : Nat → Nat → Int32) (bc bs : Nat) (H : Heap) (locs : List Loc) (ls : Array Slot) (cs sl : Nat), C (y4, f, n, g, bc, bs) → cs + bc ≤ 601024 → sl + bs ≤ 7293034 → Fw G (fun q : Nat => s.heap.size ≤ q) f H → Fw G (fun q : Nat => s.heap.size ≤ q) (mf mo ad n g) H → dj f (mf mo ad n g) → va_S (fun q : Nat => s.heap.size ≤ q) s.heap H locs → lv_has ls 7 [(0, .ref b), (1, .ref xo), (2, .ref mo), (3, .ref oo), (4, .int y4)] → W p l e room_1 s m #[Value.ref b] below meth c H locs cs sl (lw_Z below #[Value.ref b] s) (F0 m 1773 ls [])) → wp_law_c29 zd xs L xo oo y4 f n g bc bs C → cs + bc ≤ 601024 → sl + bs ≤ 7293034 → Fw G (fun q : Nat => s.heap.size ≤ q) f H → Fw G (fun q : Nat => s.heap.size ≤ q) (mf mo ad n g) H → dj f (mf mo ad n g) → va_S (fun q : Nat => s.heap.size ≤ q) s.heap H locs → lv_has ls 7 [(0, .ref b), (1, .ref xo), (2, .ref mo), (3, .ref oo), (4, .int y4)] → W p l e room_1 s m #[Value.ref b] below meth c H locs cs sl (lw_Z below #[Value.ref b] s) (F0 m 1604 ls []) := by
  obtain ⟨hx, hb, hr, hml, hown, hts0, hXs, hbl, hlocks, hgv⟩ := id C0
  have hts : ∀ w ∈ wsL_law, w.before #[Value.ref b] s = true := fun w h => hts0 w (wsL_law_in w h)
  have hA : ∀ q : Nat, s.heap.size ≤ q → (fun q : Nat => s.heap.size ≤ q) q := fun _ h => h
  have hbA : ¬ (fun q : Nat => s.heap.size ≤ q) b := Nat.not_le.mpr hbl
  intro y4 f n g bc bs H locs ls cs sl hC h hbc hbs hF hF2 hd hS hl
  unfold wp_law_c29 at h
  refine lv_aload_n hx hb dL_law_1604 rfl (lv_at hl 1 rfl) ?_
  refine lv_aload_n hx hb dL_law_1605 rfl (lv_at hl 0 rfl) ?_
  refine lv_iload hx hb dL_law_1606 (lv_at hl 4 rfl) ?_
  refine lv_iconst (v := (1 : Int32)) hx hb dL_law_1608 (by decide) ?_
  refine lv_iadd hx hb dL_law_1609 ?_
  obtain ⟨hi_i_2, h⟩ := h
  refine va_sld hx hb hXs hbl hbA hS hi_i_2 dL_law_1610 ?_
  refine lv_topi (fun v_1 e_v_1 => ?_)
  have h := h v_1 e_v_1
  refine lv_aload_n hx hb dL_law_1611 rfl (lv_at hl 3 rfl) ?_
  obtain ⟨ga_4, gb_5, hga_ga_4, hgb_ga_4, h⟩ := h
  refine fl_cSX_i (As := [.ref xo, .int v_1, .ref oo]) (rest := []) ⟨hx, hb, hml, hown, hts⟩ (cc_L_queue l G hzd hlt h) (cwSX 3 hts ggL_law_L_queue rfl rfl rfl (hts0 (.initialized RL) (List.mem_of_getElem? (i := 58) (by decide +kernel))) (hts0 (.methodLink RL 209 yL_queue) (List.mem_of_getElem? (i := 1287) (by decide +kernel))) (hts0 (.static yL_queue) (List.mem_of_getElem? (i := 1288) (by decide +kernel))) (by decide +kernel) ⟨Nat.le_of_ble_eq_true rfl, Nat.le_of_ble_eq_true rfl⟩) hK hZ hX hXN hF hF2 hd hS hA rfl hl.1 rfl (Nat.le_of_ble_eq_true rfl) dL_law_1612 ⟨by show _ ≤ 601024; omega, by show _ ≤ 7293034; omega⟩ (fun r_3 f_6 H locs h hF hF2 hd hS => ?_)
  obtain ⟨cs_7, hcs⟩ : ∃ z, z = (cs + ga_4) := ⟨_, rfl⟩; obtain ⟨sl_8, hsl⟩ : ∃ z, z = (sl + gb_5) := ⟨_, rfl⟩
  have hbc : cs_7 + (bc - ga_4) ≤ 601024 := by omega
  have hbs : sl_8 + (bs - gb_5) ≤ 7293034 := by omega
  refine W.widen (k := cs_7) (n := sl_8) (by omega) (by omega) ?_
  clear hcs hsl
  refine lv_istore (lv' := [(5, .int r_3), (0, .ref b), (1, .ref xo), (2, .ref mo), (3, .ref oo), (4, .int y4)]) hx hb dL_law_1615 hl (by decide) rfl (fun ls hl => ?_)
  refine lv_aload_n hx hb dL_law_1617 rfl (lv_at hl 3 rfl) ?_
  refine lv_aload_n hx hb dL_law_1618 rfl (lv_at hl 1 rfl) ?_
  refine lv_iload hx hb dL_law_1619 (lv_at hl 5 rfl) ?_
  refine lv_iconst (v := (1 : Int32)) hx hb dL_law_1621 (by decide) ?_
  refine lv_iadd hx hb dL_law_1622 ?_
  obtain ⟨hi_i_10, h⟩ := h
  refine va_sld hx hb hXs hbl hbA hS hi_i_10 dL_law_1623 ?_
  refine lv_topi (fun v_9 e_v_9 => ?_)
  have h := h v_9 e_v_9
  refine fl_cV_i (As := [.int v_9]) (rest := []) ⟨hx, hb, hml, hown, hts⟩ (cc_X9_queue l G had h) (⟨callB_of 1 hts ggL_law_X9_queue rfl rfl rfl (hts0 (.initialized RX9) (List.mem_of_getElem? (i := 77) (by decide +kernel))) (hts0 (.methodLink RL 211 yX9_queue) (List.mem_of_getElem? (i := 1740) (by decide +kernel))) (by decide +kernel) ⟨Nat.le_of_ble_eq_true rfl, Nat.le_of_ble_eq_true rfl⟩, (hts0 (.instanceMethod yX9_queue) (List.mem_of_getElem? (i := 1741) (by decide +kernel))), (hts0 (.selects RX9 yX9_queue yX9_queue) (List.mem_of_getElem? (i := 1742) (by decide +kernel)))⟩) rfl mf_obj hK hZ hF2 hF hd.symm hS hA rfl hl.1 rfl (Nat.le_of_ble_eq_true rfl) dL_law_1624 ⟨by show _ + 0 ≤ 601024; omega, by show _ + 0 ≤ 7293034; omega⟩ (fun r_11 f9 H locs h hF2 hF hd hS => ?_)
  have hd := hd.symm
  obtain ⟨n_12, g_13, rfl, h⟩ := h
  simp only [Nat.add_zero]
  refine lv_istore (lv' := [(6, .int r_11), (5, .int r_3), (0, .ref b), (1, .ref xo), (2, .ref mo), (3, .ref oo), (4, .int y4)]) hx hb dL_law_1627 hl (by decide) rfl (fun ls hl => ?_)
  refine lv_aload_n hx hb dL_law_1629 rfl (lv_at hl 4 rfl) ?_
  refine fl_cV_i (As := []) (rest := []) ⟨hx, hb, hml, hown, hts⟩ (cc_X9_thrown l G had h) (⟨callB_of 0 hts ggL_law_X9_thrown rfl rfl rfl (hts0 (.initialized RX9) (List.mem_of_getElem? (i := 77) (by decide +kernel))) (hts0 (.methodLink RL 108 yX9_thrown) (List.mem_of_getElem? (i := 1465) (by decide +kernel))) (by decide +kernel) ⟨Nat.le_of_ble_eq_true rfl, Nat.le_of_ble_eq_true rfl⟩, (hts0 (.instanceMethod yX9_thrown) (List.mem_of_getElem? (i := 1466) (by decide +kernel))), (hts0 (.selects RX9 yX9_thrown yX9_thrown) (List.mem_of_getElem? (i := 1467) (by decide +kernel)))⟩) rfl mf_obj hK hZ hF2 hF hd.symm hS hA rfl hl.1 rfl (Nat.le_of_ble_eq_true rfl) dL_law_1630 ⟨by show _ + 0 ≤ 601024; omega, by show _ + 0 ≤ 7293034; omega⟩ (fun r_14 f9 H locs h hF2 hF hd hS => ?_)
  have hd := hd.symm
  obtain ⟨h, e9⟩ := h; rw [e9] at hF2 hd; clear e9
  simp only [Nat.add_zero]
  refine lv_iload hx hb dL_law_1633 (lv_at hl 1 rfl) ?_
  obtain ⟨h1, h2⟩ := h
  refine lv_icmp_eq (tgt := 1640) hx hb dL_law_1635 (by decide) (fun c_15 => ?_) (fun c_15 => ?_)
  · have h := h1 c_15
    refine lv_iload hx hb dL_law_1640 (lv_at hl 1 rfl) ?_
    obtain ⟨h1, h2⟩ := h
    refine lv_if_ne (tgt := 1657) hx hb dL_law_1642 (by decide) (fun c_16 => ?_) (fun c_16 => ?_)
    · have h := h1 c_16
      refine lv_goto (tgt := 1773) hx hb dL_law_1657 (by decide) ?_
      exact hC y4 f_6 n_12 g_13 (bc - ga_4) (bs - gb_5) _ _ _ _ _ h hbc hbs hF hF2 hd hS (lv_sub hl [2, 3, 4, 5, 6] rfl)
    · have h := h2 c_16
      refine lv_aload_n hx hb dL_law_1645 rfl (lv_at hl 5 rfl) ?_
      refine lv_iconst (v := (0 : Int32)) hx hb dL_law_1646 (by decide) ?_
      obtain ⟨n_q_18, q_18, he_q_18, hi_q_18, h⟩ := h
      refine fw_lald hx hb hK hF he_q_18 hi_q_18 dL_law_1647 ?_
      refine lv_topl (fun v_17 e_v_17 => ?_)
      have h := h v_17 e_v_17
      refine lv_iload hx hb dL_law_1648 (lv_at hl 0 rfl) ?_
      refine lv_i2l (v := (Int32.toInt64 r_11)) hx hb dL_law_1650 rfl ?_
      refine W.lcmp hx hb dL_law_1651 ?_
      obtain ⟨h1, h2⟩ := h
      refine lv_if_eq (tgt := 1657) hx hb dL_law_1652 (by decide) (fun c_20 => ?_) (fun c_20 => ?_)
      · have h := h1 c_20
        refine lv_goto (tgt := 1773) hx hb dL_law_1657 (by decide) ?_
        exact hC y4 f_6 n_12 g_13 (bc - ga_4) (bs - gb_5) _ _ _ _ _ h hbc hbs hF hF2 hd hS (lv_sub hl [2, 3, 4, 5, 6] rfl)
      · have h := h2 c_20
        refine lv_iconst (v := (0 : Int32)) hx hb dL_law_1655 (by decide) ?_
        exact h.elim
  · have h := h2 c_15
    refine lv_iconst (v := (0 : Int32)) hx hb dL_law_1638 (by decide) ?_
    exact h.elim
def wp_law_c30 (zd : Nat) (xs : Nat → Int32) (L xo oo : Nat) (y4 : Int32) (f : FT) (n : Nat → Int32) (g : Nat → Nat → Int32) (bc bs : Nat) (C : Int32 × FT × (Nat → Int32) × (Nat → Nat → Int32) × Nat × Nat → Prop) : Prop :=
  vp_in (y4 + (1 : Int32)) L ∧ ∀ v_1 : Int32, v_1 = xs ((y4 + (1 : Int32))).toNatClampNeg → ∃ ga_4 gb_5 : Nat, ga_4 ≤ bc ∧ gb_5 ≤ bs ∧ wp_L_load zd xo v_1 oo f ga_4 gb_5 (fun r_3 f_6 => vp_in (y4 + (1 : Int32)) L ∧ ∀ v_9 : Int32, v_9 = xs ((y4 + (1 : Int32))).toNatClampNeg → wp_X9_load v_9 n g (fun r_11 n_12 g_13 => wp_X9_thrown  n_12 g_13 (fun r_14 => ((r_14 = r_3 → ((¬ r_3 = (0 : Int32) → C (y4, f_6, n_12, g_13, (bc - ga_4), (bs - gb_5))) ∧
 (r_3 = (0 : Int32) → aJ f_6 oo (0 : Int32) fun v_17 => (((lg_cmp v_17 (Int32.toInt64 r_11)) = (0 : Int32) → C (y4, f_6, n_12, g_13, (bc - ga_4), (bs - gb_5))) ∧
 (¬ ((lg_cmp v_17 (Int32.toInt64 r_11)) = (0 : Int32)) → False))))) ∧
 (¬ (r_14 = r_3) → False)))))
set_option maxHeartbeats 4000000 in
set_option maxRecDepth 100000 in
theorem law_c30 {p : Program} {l : Launch} {e : Env} {s : State} {m : MethodId} {below : List Frame} {meth : Method} {c : Code} {b L : Nat} {xs : Nat → Int32} (hlt : l.stackTraces = false) (C0 : lw_At p s m meth c b L xs) {G : GG} (hK : FK G s) (hZ : FZ G (fun q : Nat => s.heap.size ≤ q) s s.heap) (hX : FX9 G (fun q : Nat => s.heap.size ≤ q) s s.heap) (hXN : FXN s) {zd : Nat} (hzd : G.2.2 0 = zd) {xo mo oo : Nat} {ad : Nat → Nat} (had : MAd mo ad) {C : Int32 × FT × (Nat → Int32) × (Nat → Nat → Int32) × Nat × Nat → Prop} : ∀ (y4 : Int32) (f : FT) (n : Nat → Int32) (g : Nat → Nat → Int32) (bc bs : Nat) (H : Heap) (locs : List Loc) (ls : Array Slot) (cs sl : Nat), (∀ (y4 : Int32) (f : FT) (n : Nat → Int32) (g : Nat → Nat → Int32) (bc bs : Nat) (H : Heap) (locs : List Loc) (ls : Array Slot) (cs sl : Nat), C (y4, f, n, g, bc, bs) → cs + bc ≤ 601024 → sl + bs ≤ 7293034 → Fw G (fun q : Nat => s.heap.size ≤ q) f H → Fw G (fun q : Nat => s.heap.size ≤ q) (mf mo ad n g) H → dj f (mf mo ad n g) → va_S (fun q : Nat => s.heap.size ≤ q) s.heap H locs → lv_has ls 7 [(0, .ref b), (1, .ref xo), (2, .ref mo), (3, .ref oo), (4, .int y4)] → W p l e room_1 s m #[Value.ref b] below meth c H locs cs sl (lw_Z below #[Value.ref b] s) (F0 m 1773 ls [])) → wp_law_c30 zd xs L xo oo y4 f n g bc bs C → cs + bc ≤ 601024 → sl + bs ≤ 7293034 → Fw G (fun q : Nat => s.heap.size ≤ q) f H → Fw G (fun q : Nat => s.heap.size ≤ q) (mf mo ad n g) H → dj f (mf mo ad n g) → va_S (fun q : Nat => s.heap.size ≤ q) s.heap H locs → lv_has ls 7 [(0, .ref b), (1, .ref xo), (2, .ref mo), (3, .ref oo), (4, .int y4)] → W p l e room_1 s m #[Value.ref b] below meth c H locs cs sl (lw_Z below #[Value.ref b] s) (F0 m 1660 ls []) := by
  obtain ⟨hx, hb, hr, hml, hown, hts0, hXs, hbl, hlocks, hgv⟩ := id C0
  have hts : ∀ w ∈ wsL_law, w.before #[Value.ref b] s = true := fun w h => hts0 w (wsL_law_in w h)
  have hA : ∀ q : Nat, s.heap.size ≤ q → (fun q : Nat => s.heap.size ≤ q) q := fun _ h => h
  have hbA : ¬ (fun q : Nat => s.heap.size ≤ q) b := Nat.not_le.mpr hbl
  intro y4 f n g bc bs H locs ls cs sl hC h hbc hbs hF hF2 hd hS hl
  unfold wp_law_c30 at h
  refine lv_aload_n hx hb dL_law_1660 rfl (lv_at hl 1 rfl) ?_
  refine lv_aload_n hx hb dL_law_1661 rfl (lv_at hl 0 rfl) ?_
  refine lv_iload hx hb dL_law_1662 (lv_at hl 4 rfl) ?_
  refine lv_iconst (v := (1 : Int32)) hx hb dL_law_1664 (by decide) ?_
  refine lv_iadd hx hb dL_law_1665 ?_
  obtain ⟨hi_i_2, h⟩ := h
  refine va_sld hx hb hXs hbl hbA hS hi_i_2 dL_law_1666 ?_
  refine lv_topi (fun v_1 e_v_1 => ?_)
  have h := h v_1 e_v_1
  refine lv_aload_n hx hb dL_law_1667 rfl (lv_at hl 3 rfl) ?_
  obtain ⟨ga_4, gb_5, hga_ga_4, hgb_ga_4, h⟩ := h
  refine fl_cSX_i (As := [.ref xo, .int v_1, .ref oo]) (rest := []) ⟨hx, hb, hml, hown, hts⟩ (cc_L_load l G hzd hlt h) (cwSX 3 hts ggL_law_L_load rfl rfl rfl (hts0 (.initialized RL) (List.mem_of_getElem? (i := 58) (by decide +kernel))) (hts0 (.methodLink RL 212 yL_load) (List.mem_of_getElem? (i := 1312) (by decide +kernel))) (hts0 (.static yL_load) (List.mem_of_getElem? (i := 1313) (by decide +kernel))) (by decide +kernel) ⟨Nat.le_of_ble_eq_true rfl, Nat.le_of_ble_eq_true rfl⟩) hK hZ hX hXN hF hF2 hd hS hA rfl hl.1 rfl (Nat.le_of_ble_eq_true rfl) dL_law_1668 ⟨by show _ ≤ 601024; omega, by show _ ≤ 7293034; omega⟩ (fun r_3 f_6 H locs h hF hF2 hd hS => ?_)
  obtain ⟨cs_7, hcs⟩ : ∃ z, z = (cs + ga_4) := ⟨_, rfl⟩; obtain ⟨sl_8, hsl⟩ : ∃ z, z = (sl + gb_5) := ⟨_, rfl⟩
  have hbc : cs_7 + (bc - ga_4) ≤ 601024 := by omega
  have hbs : sl_8 + (bs - gb_5) ≤ 7293034 := by omega
  refine W.widen (k := cs_7) (n := sl_8) (by omega) (by omega) ?_
  clear hcs hsl
  refine lv_istore (lv' := [(5, .int r_3), (0, .ref b), (1, .ref xo), (2, .ref mo), (3, .ref oo), (4, .int y4)]) hx hb dL_law_1671 hl (by decide) rfl (fun ls hl => ?_)
  refine lv_aload_n hx hb dL_law_1673 rfl (lv_at hl 3 rfl) ?_
  refine lv_aload_n hx hb dL_law_1674 rfl (lv_at hl 1 rfl) ?_
  refine lv_iload hx hb dL_law_1675 (lv_at hl 5 rfl) ?_
  refine lv_iconst (v := (1 : Int32)) hx hb dL_law_1677 (by decide) ?_
  refine lv_iadd hx hb dL_law_1678 ?_
  obtain ⟨hi_i_10, h⟩ := h
  refine va_sld hx hb hXs hbl hbA hS hi_i_10 dL_law_1679 ?_
  refine lv_topi (fun v_9 e_v_9 => ?_)
  have h := h v_9 e_v_9
  refine fl_cV_i (As := [.int v_9]) (rest := []) ⟨hx, hb, hml, hown, hts⟩ (cc_X9_load l G had h) (⟨callB_of 1 hts ggL_law_X9_load rfl rfl rfl (hts0 (.initialized RX9) (List.mem_of_getElem? (i := 77) (by decide +kernel))) (hts0 (.methodLink RL 214 yX9_load) (List.mem_of_getElem? (i := 1744) (by decide +kernel))) (by decide +kernel) ⟨Nat.le_of_ble_eq_true rfl, Nat.le_of_ble_eq_true rfl⟩, (hts0 (.instanceMethod yX9_load) (List.mem_of_getElem? (i := 1745) (by decide +kernel))), (hts0 (.selects RX9 yX9_load yX9_load) (List.mem_of_getElem? (i := 1746) (by decide +kernel)))⟩) rfl mf_obj hK hZ hF2 hF hd.symm hS hA rfl hl.1 rfl (Nat.le_of_ble_eq_true rfl) dL_law_1680 ⟨by show _ + 0 ≤ 601024; omega, by show _ + 0 ≤ 7293034; omega⟩ (fun r_11 f9 H locs h hF2 hF hd hS => ?_)
  have hd := hd.symm
  obtain ⟨n_12, g_13, rfl, h⟩ := h
  simp only [Nat.add_zero]
  refine lv_istore (lv' := [(6, .int r_11), (5, .int r_3), (0, .ref b), (1, .ref xo), (2, .ref mo), (3, .ref oo), (4, .int y4)]) hx hb dL_law_1683 hl (by decide) rfl (fun ls hl => ?_)
  refine lv_aload_n hx hb dL_law_1685 rfl (lv_at hl 4 rfl) ?_
  refine fl_cV_i (As := []) (rest := []) ⟨hx, hb, hml, hown, hts⟩ (cc_X9_thrown l G had h) (⟨callB_of 0 hts ggL_law_X9_thrown rfl rfl rfl (hts0 (.initialized RX9) (List.mem_of_getElem? (i := 77) (by decide +kernel))) (hts0 (.methodLink RL 108 yX9_thrown) (List.mem_of_getElem? (i := 1465) (by decide +kernel))) (by decide +kernel) ⟨Nat.le_of_ble_eq_true rfl, Nat.le_of_ble_eq_true rfl⟩, (hts0 (.instanceMethod yX9_thrown) (List.mem_of_getElem? (i := 1466) (by decide +kernel))), (hts0 (.selects RX9 yX9_thrown yX9_thrown) (List.mem_of_getElem? (i := 1467) (by decide +kernel)))⟩) rfl mf_obj hK hZ hF2 hF hd.symm hS hA rfl hl.1 rfl (Nat.le_of_ble_eq_true rfl) dL_law_1686 ⟨by show _ + 0 ≤ 601024; omega, by show _ + 0 ≤ 7293034; omega⟩ (fun r_14 f9 H locs h hF2 hF hd hS => ?_)
  have hd := hd.symm
  obtain ⟨h, e9⟩ := h; rw [e9] at hF2 hd; clear e9
  simp only [Nat.add_zero]
  refine lv_iload hx hb dL_law_1689 (lv_at hl 1 rfl) ?_
  obtain ⟨h1, h2⟩ := h
  refine lv_icmp_eq (tgt := 1696) hx hb dL_law_1691 (by decide) (fun c_15 => ?_) (fun c_15 => ?_)
  · have h := h1 c_15
    refine lv_iload hx hb dL_law_1696 (lv_at hl 1 rfl) ?_
    obtain ⟨h1, h2⟩ := h
    refine lv_if_ne (tgt := 1713) hx hb dL_law_1698 (by decide) (fun c_16 => ?_) (fun c_16 => ?_)
    · have h := h1 c_16
      refine lv_goto (tgt := 1773) hx hb dL_law_1713 (by decide) ?_
      exact hC y4 f_6 n_12 g_13 (bc - ga_4) (bs - gb_5) _ _ _ _ _ h hbc hbs hF hF2 hd hS (lv_sub hl [2, 3, 4, 5, 6] rfl)
    · have h := h2 c_16
      refine lv_aload_n hx hb dL_law_1701 rfl (lv_at hl 5 rfl) ?_
      refine lv_iconst (v := (0 : Int32)) hx hb dL_law_1702 (by decide) ?_
      obtain ⟨n_q_18, q_18, he_q_18, hi_q_18, h⟩ := h
      refine fw_lald hx hb hK hF he_q_18 hi_q_18 dL_law_1703 ?_
      refine lv_topl (fun v_17 e_v_17 => ?_)
      have h := h v_17 e_v_17
      refine lv_iload hx hb dL_law_1704 (lv_at hl 0 rfl) ?_
      refine lv_i2l (v := (Int32.toInt64 r_11)) hx hb dL_law_1706 rfl ?_
      refine W.lcmp hx hb dL_law_1707 ?_
      obtain ⟨h1, h2⟩ := h
      refine lv_if_eq (tgt := 1713) hx hb dL_law_1708 (by decide) (fun c_20 => ?_) (fun c_20 => ?_)
      · have h := h1 c_20
        refine lv_goto (tgt := 1773) hx hb dL_law_1713 (by decide) ?_
        exact hC y4 f_6 n_12 g_13 (bc - ga_4) (bs - gb_5) _ _ _ _ _ h hbc hbs hF hF2 hd hS (lv_sub hl [2, 3, 4, 5, 6] rfl)
      · have h := h2 c_20
        refine lv_iconst (v := (0 : Int32)) hx hb dL_law_1711 (by decide) ?_
        exact h.elim
  · have h := h2 c_15
    refine lv_iconst (v := (0 : Int32)) hx hb dL_law_1694 (by decide) ?_
    exact h.elim
def wp_law_c31 (zd : Nat) (xs : Nat → Int32) (L xo oo : Nat) (y4 : Int32) (f : FT) (n : Nat → Int32) (g : Nat → Nat → Int32) (bc bs : Nat) (C : Int32 × FT × (Nat → Int32) × (Nat → Nat → Int32) × Nat × Nat → Prop) : Prop :=
  ∃ ga_2 gb_3 : Nat, ga_2 ≤ bc ∧ gb_3 ≤ bs ∧ isO f xo 11 ∧ wp_X8_saveSnapshot zd xo f ga_2 gb_3 (fun r_1 f_4 => wp_X9_saveSnapshot  n g (fun r_7 n_8 g_9 => ((r_1 = r_7 → C (y4, f_4, n_8, g_9, (bc - ga_2), (bs - gb_3))) ∧
 (¬ (r_1 = r_7) → False))))
set_option maxHeartbeats 4000000 in
set_option maxRecDepth 100000 in
theorem law_c31 {p : Program} {l : Launch} {e : Env} {s : State} {m : MethodId} {below : List Frame} {meth : Method} {c : Code} {b L : Nat} {xs : Nat → Int32} (hlt : l.stackTraces = false) (C0 : lw_At p s m meth c b L xs) {G : GG} (hK : FK G s) (hZ : FZ G (fun q : Nat => s.heap.size ≤ q) s s.heap) (hX : FX9 G (fun q : Nat => s.heap.size ≤ q) s s.heap) (hXN : FXN s) {zd : Nat} (hzd : G.2.2 0 = zd) {xo mo oo : Nat} {ad : Nat → Nat} (had : MAd mo ad) {C : Int32 × FT × (Nat → Int32) × (Nat → Nat → Int32) × Nat × Nat → Prop} : ∀ (y4 : Int32) (f : FT) (n : Nat → Int32) (g : Nat → Nat → Int32) (bc bs : Nat) (H : Heap) (locs : List Loc) (ls : Array Slot) (cs sl : Nat), (∀ (y4 : Int32) (f : FT) (n : Nat → Int32) (g : Nat → Nat → Int32) (bc bs : Nat) (H : Heap) (locs : List Loc) (ls : Array Slot) (cs sl : Nat), C (y4, f, n, g, bc, bs) → cs + bc ≤ 601024 → sl + bs ≤ 7293034 → Fw G (fun q : Nat => s.heap.size ≤ q) f H → Fw G (fun q : Nat => s.heap.size ≤ q) (mf mo ad n g) H → dj f (mf mo ad n g) → va_S (fun q : Nat => s.heap.size ≤ q) s.heap H locs → lv_has ls 7 [(0, .ref b), (1, .ref xo), (2, .ref mo), (3, .ref oo), (4, .int y4)] → W p l e room_1 s m #[Value.ref b] below meth c H locs cs sl (lw_Z below #[Value.ref b] s) (F0 m 1773 ls [])) → wp_law_c31 zd xs L xo oo y4 f n g bc bs C → cs + bc ≤ 601024 → sl + bs ≤ 7293034 → Fw G (fun q : Nat => s.heap.size ≤ q) f H → Fw G (fun q : Nat => s.heap.size ≤ q) (mf mo ad n g) H → dj f (mf mo ad n g) → va_S (fun q : Nat => s.heap.size ≤ q) s.heap H locs → lv_has ls 7 [(0, .ref b), (1, .ref xo), (2, .ref mo), (3, .ref oo), (4, .int y4)] → W p l e room_1 s m #[Value.ref b] below meth c H locs cs sl (lw_Z below #[Value.ref b] s) (F0 m 1716 ls []) := by
  obtain ⟨hx, hb, hr, hml, hown, hts0, hXs, hbl, hlocks, hgv⟩ := id C0
  have hts : ∀ w ∈ wsL_law, w.before #[Value.ref b] s = true := fun w h => hts0 w (wsL_law_in w h)
  have hA : ∀ q : Nat, s.heap.size ≤ q → (fun q : Nat => s.heap.size ≤ q) q := fun _ h => h
  have hbA : ¬ (fun q : Nat => s.heap.size ≤ q) b := Nat.not_le.mpr hbl
  intro y4 f n g bc bs H locs ls cs sl hC h hbc hbs hF hF2 hd hS hl
  unfold wp_law_c31 at h
  refine lv_aload_n hx hb dL_law_1716 rfl (lv_at hl 1 rfl) ?_
  obtain ⟨ga_2, gb_3, hga_ga_2, hgb_ga_2, h⟩ := h
  obtain ⟨⟨fs_r_1, hrc_r_1⟩, h⟩ := h
  refine fl_cV_i (As := []) (rest := []) ⟨hx, hb, hml, hown, hts⟩ (cc_X8_saveSnapshot l G hzd h) (⟨callB_of 0 hts ggL_law_X8_saveSnapshot rfl rfl rfl (hts0 (.initialized RX8) (List.mem_of_getElem? (i := 59) (by decide +kernel))) (hts0 (.methodLink RL 215 yX8_saveSnapshot) (List.mem_of_getElem? (i := 598) (by decide +kernel))) (by decide +kernel) ⟨Nat.le_of_ble_eq_true rfl, Nat.le_of_ble_eq_true rfl⟩, (hts0 (.instanceMethod yX8_saveSnapshot) (List.mem_of_getElem? (i := 599) (by decide +kernel))), (hts0 (.selects RX8 yX8_saveSnapshot yX8_saveSnapshot) (List.mem_of_getElem? (i := 600) (by decide +kernel)))⟩) rfl hrc_r_1 hK hZ hF hF2 hd hS hA rfl hl.1 rfl (Nat.le_of_ble_eq_true rfl) dL_law_1717 ⟨by show _ ≤ 601024; omega, by show _ ≤ 7293034; omega⟩ (fun r_1 f_4 H locs h hF hF2 hd hS => ?_)
  obtain ⟨cs_5, hcs⟩ : ∃ z, z = (cs + ga_2) := ⟨_, rfl⟩; obtain ⟨sl_6, hsl⟩ : ∃ z, z = (sl + gb_3) := ⟨_, rfl⟩
  have hbc : cs_5 + (bc - ga_2) ≤ 601024 := by omega
  have hbs : sl_6 + (bs - gb_3) ≤ 7293034 := by omega
  refine W.widen (k := cs_5) (n := sl_6) (by omega) (by omega) ?_
  clear hcs hsl
  refine lv_aload_n hx hb dL_law_1720 rfl (lv_at hl 2 rfl) ?_
  refine fl_cV_i (As := []) (rest := [.int r_1]) ⟨hx, hb, hml, hown, hts⟩ (cc_X9_saveSnapshot l G had h) (⟨callB_of 0 hts ggL_law_X9_saveSnapshot rfl rfl rfl (hts0 (.initialized RX9) (List.mem_of_getElem? (i := 77) (by decide +kernel))) (hts0 (.methodLink RL 218 yX9_saveSnapshot) (List.mem_of_getElem? (i := 1756) (by decide +kernel))) (by decide +kernel) ⟨Nat.le_of_ble_eq_true rfl, Nat.le_of_ble_eq_true rfl⟩, (hts0 (.instanceMethod yX9_saveSnapshot) (List.mem_of_getElem? (i := 1757) (by decide +kernel))), (hts0 (.selects RX9 yX9_saveSnapshot yX9_saveSnapshot) (List.mem_of_getElem? (i := 1758) (by decide +kernel)))⟩) rfl mf_obj hK hZ hF2 hF hd.symm hS hA rfl hl.1 rfl (Nat.le_of_ble_eq_true rfl) dL_law_1721 ⟨by show _ + 0 ≤ 601024; omega, by show _ + 0 ≤ 7293034; omega⟩ (fun r_7 f9 H locs h hF2 hF hd hS => ?_)
  have hd := hd.symm
  obtain ⟨n_8, g_9, rfl, h⟩ := h
  simp only [Nat.add_zero]
  obtain ⟨h1, h2⟩ := h
  refine lv_icmp_eq (tgt := 1773) hx hb dL_law_1724 (by decide) (fun c_10 => ?_) (fun c_10 => ?_)
  · have h := h1 c_10
    exact hC y4 f_4 n_8 g_9 (bc - ga_2) (bs - gb_3) _ _ _ _ _ h hbc hbs hF hF2 hd hS (lv_sub hl [0, 1, 2, 3, 4] rfl)
  · have h := h2 c_10
    refine lv_iconst (v := (0 : Int32)) hx hb dL_law_1727 (by decide) ?_
    exact h.elim
def wp_law_c32 (zd : Nat) (xs : Nat → Int32) (L xo oo : Nat) (y4 : Int32) (f : FT) (n : Nat → Int32) (g : Nat → Nat → Int32) (bc bs : Nat) (C : Int32 × FT × (Nat → Int32) × (Nat → Nat → Int32) × Nat × Nat → Prop) : Prop :=
  ∃ ga_2 gb_3 : Nat, ga_2 ≤ bc ∧ gb_3 ≤ bs ∧ wp_L_restoreSnapshot zd xo oo f ga_2 gb_3 (fun r_1 f_4 => wp_X9_restoreSnapshot  n g (fun r_7 n_8 g_9 => wp_X9_thrown  n_8 g_9 (fun r_10 => ((r_10 = r_1 → ((¬ r_1 = (0 : Int32) → C (y4, f_4, n_8, g_9, (bc - ga_2), (bs - gb_3))) ∧
 (r_1 = (0 : Int32) → aJ f_4 oo (0 : Int32) fun v_13 => (((lg_cmp v_13 (Int32.toInt64 r_7)) = (0 : Int32) → C (y4, f_4, n_8, g_9, (bc - ga_2), (bs - gb_3))) ∧
 (¬ ((lg_cmp v_13 (Int32.toInt64 r_7)) = (0 : Int32)) → False))))) ∧
 (¬ (r_10 = r_1) → False)))))
set_option maxHeartbeats 4000000 in
set_option maxRecDepth 100000 in
theorem law_c32 {p : Program} {l : Launch} {e : Env} {s : State} {m : MethodId} {below : List Frame} {meth : Method} {c : Code} {b L : Nat} {xs : Nat → Int32} (hlt : l.stackTraces = false) (C0 : lw_At p s m meth c b L xs) {G : GG} (hK : FK G s) (hZ : FZ G (fun q : Nat => s.heap.size ≤ q) s s.heap) (hX : FX9 G (fun q : Nat => s.heap.size ≤ q) s s.heap) (hXN : FXN s) {zd : Nat} (hzd : G.2.2 0 = zd) {xo mo oo : Nat} {ad : Nat → Nat} (had : MAd mo ad) {C : Int32 × FT × (Nat → Int32) × (Nat → Nat → Int32) × Nat × Nat → Prop} : ∀ (y4 : Int32) (f : FT) (n : Nat → Int32) (g : Nat → Nat → Int32) (bc bs : Nat) (H : Heap) (locs : List Loc) (ls : Array Slot) (cs sl : Nat), (∀ (y4 : Int32) (f : FT) (n : Nat → Int32) (g : Nat → Nat → Int32) (bc bs : Nat) (H : Heap) (locs : List Loc) (ls : Array Slot) (cs sl : Nat), C (y4, f, n, g, bc, bs) → cs + bc ≤ 601024 → sl + bs ≤ 7293034 → Fw G (fun q : Nat => s.heap.size ≤ q) f H → Fw G (fun q : Nat => s.heap.size ≤ q) (mf mo ad n g) H → dj f (mf mo ad n g) → va_S (fun q : Nat => s.heap.size ≤ q) s.heap H locs → lv_has ls 7 [(0, .ref b), (1, .ref xo), (2, .ref mo), (3, .ref oo), (4, .int y4)] → W p l e room_1 s m #[Value.ref b] below meth c H locs cs sl (lw_Z below #[Value.ref b] s) (F0 m 1773 ls [])) → wp_law_c32 zd xs L xo oo y4 f n g bc bs C → cs + bc ≤ 601024 → sl + bs ≤ 7293034 → Fw G (fun q : Nat => s.heap.size ≤ q) f H → Fw G (fun q : Nat => s.heap.size ≤ q) (mf mo ad n g) H → dj f (mf mo ad n g) → va_S (fun q : Nat => s.heap.size ≤ q) s.heap H locs → lv_has ls 7 [(0, .ref b), (1, .ref xo), (2, .ref mo), (3, .ref oo), (4, .int y4)] → W p l e room_1 s m #[Value.ref b] below meth c H locs cs sl (lw_Z below #[Value.ref b] s) (F0 m 1729 ls []) := by
  obtain ⟨hx, hb, hr, hml, hown, hts0, hXs, hbl, hlocks, hgv⟩ := id C0
  have hts : ∀ w ∈ wsL_law, w.before #[Value.ref b] s = true := fun w h => hts0 w (wsL_law_in w h)
  have hA : ∀ q : Nat, s.heap.size ≤ q → (fun q : Nat => s.heap.size ≤ q) q := fun _ h => h
  have hbA : ¬ (fun q : Nat => s.heap.size ≤ q) b := Nat.not_le.mpr hbl
  intro y4 f n g bc bs H locs ls cs sl hC h hbc hbs hF hF2 hd hS hl
  unfold wp_law_c32 at h
  refine lv_aload_n hx hb dL_law_1729 rfl (lv_at hl 1 rfl) ?_
  refine lv_aload_n hx hb dL_law_1730 rfl (lv_at hl 3 rfl) ?_
  obtain ⟨ga_2, gb_3, hga_ga_2, hgb_ga_2, h⟩ := h
  refine fl_cSX_i (As := [.ref xo, .ref oo]) (rest := []) ⟨hx, hb, hml, hown, hts⟩ (cc_L_restoreSnapshot l G hzd hlt h) (cwSX 2 hts ggL_law_L_restoreSnapshot rfl rfl rfl (hts0 (.initialized RL) (List.mem_of_getElem? (i := 58) (by decide +kernel))) (hts0 (.methodLink RL 219 yL_restoreSnapshot) (List.mem_of_getElem? (i := 1348) (by decide +kernel))) (hts0 (.static yL_restoreSnapshot) (List.mem_of_getElem? (i := 1349) (by decide +kernel))) (by decide +kernel) ⟨Nat.le_of_ble_eq_true rfl, Nat.le_of_ble_eq_true rfl⟩) hK hZ hX hXN hF hF2 hd hS hA rfl hl.1 rfl (Nat.le_of_ble_eq_true rfl) dL_law_1731 ⟨by show _ ≤ 601024; omega, by show _ ≤ 7293034; omega⟩ (fun r_1 f_4 H locs h hF hF2 hd hS => ?_)
  obtain ⟨cs_5, hcs⟩ : ∃ z, z = (cs + ga_2) := ⟨_, rfl⟩; obtain ⟨sl_6, hsl⟩ : ∃ z, z = (sl + gb_3) := ⟨_, rfl⟩
  have hbc : cs_5 + (bc - ga_2) ≤ 601024 := by omega
  have hbs : sl_6 + (bs - gb_3) ≤ 7293034 := by omega
  refine W.widen (k := cs_5) (n := sl_6) (by omega) (by omega) ?_
  clear hcs hsl
  refine lv_istore (lv' := [(5, .int r_1), (0, .ref b), (1, .ref xo), (2, .ref mo), (3, .ref oo), (4, .int y4)]) hx hb dL_law_1734 hl (by decide) rfl (fun ls hl => ?_)
  refine lv_aload_n hx hb dL_law_1736 rfl (lv_at hl 3 rfl) ?_
  refine fl_cV_i (As := []) (rest := []) ⟨hx, hb, hml, hown, hts⟩ (cc_X9_restoreSnapshot l G had h) (⟨callB_of 0 hts ggL_law_X9_restoreSnapshot rfl rfl rfl (hts0 (.initialized RX9) (List.mem_of_getElem? (i := 77) (by decide +kernel))) (hts0 (.methodLink RL 221 yX9_restoreSnapshot) (List.mem_of_getElem? (i := 1763) (by decide +kernel))) (by decide +kernel) ⟨Nat.le_of_ble_eq_true rfl, Nat.le_of_ble_eq_true rfl⟩, (hts0 (.instanceMethod yX9_restoreSnapshot) (List.mem_of_getElem? (i := 1764) (by decide +kernel))), (hts0 (.selects RX9 yX9_restoreSnapshot yX9_restoreSnapshot) (List.mem_of_getElem? (i := 1765) (by decide +kernel)))⟩) rfl mf_obj hK hZ hF2 hF hd.symm hS hA rfl hl.1 rfl (Nat.le_of_ble_eq_true rfl) dL_law_1737 ⟨by show _ + 0 ≤ 601024; omega, by show _ + 0 ≤ 7293034; omega⟩ (fun r_7 f9 H locs h hF2 hF hd hS => ?_)
  have hd := hd.symm
  obtain ⟨n_8, g_9, rfl, h⟩ := h
  simp only [Nat.add_zero]
  refine lv_istore (lv' := [(6, .int r_7), (5, .int r_1), (0, .ref b), (1, .ref xo), (2, .ref mo), (3, .ref oo), (4, .int y4)]) hx hb dL_law_1740 hl (by decide) rfl (fun ls hl => ?_)
  refine lv_aload_n hx hb dL_law_1742 rfl (lv_at hl 4 rfl) ?_
  refine fl_cV_i (As := []) (rest := []) ⟨hx, hb, hml, hown, hts⟩ (cc_X9_thrown l G had h) (⟨callB_of 0 hts ggL_law_X9_thrown rfl rfl rfl (hts0 (.initialized RX9) (List.mem_of_getElem? (i := 77) (by decide +kernel))) (hts0 (.methodLink RL 108 yX9_thrown) (List.mem_of_getElem? (i := 1465) (by decide +kernel))) (by decide +kernel) ⟨Nat.le_of_ble_eq_true rfl, Nat.le_of_ble_eq_true rfl⟩, (hts0 (.instanceMethod yX9_thrown) (List.mem_of_getElem? (i := 1466) (by decide +kernel))), (hts0 (.selects RX9 yX9_thrown yX9_thrown) (List.mem_of_getElem? (i := 1467) (by decide +kernel)))⟩) rfl mf_obj hK hZ hF2 hF hd.symm hS hA rfl hl.1 rfl (Nat.le_of_ble_eq_true rfl) dL_law_1743 ⟨by show _ + 0 ≤ 601024; omega, by show _ + 0 ≤ 7293034; omega⟩ (fun r_10 f9 H locs h hF2 hF hd hS => ?_)
  have hd := hd.symm
  obtain ⟨h, e9⟩ := h; rw [e9] at hF2 hd; clear e9
  simp only [Nat.add_zero]
  refine lv_iload hx hb dL_law_1746 (lv_at hl 1 rfl) ?_
  obtain ⟨h1, h2⟩ := h
  refine lv_icmp_eq (tgt := 1753) hx hb dL_law_1748 (by decide) (fun c_11 => ?_) (fun c_11 => ?_)
  · have h := h1 c_11
    refine lv_iload hx hb dL_law_1753 (lv_at hl 1 rfl) ?_
    obtain ⟨h1, h2⟩ := h
    refine lv_if_ne (tgt := 1770) hx hb dL_law_1755 (by decide) (fun c_12 => ?_) (fun c_12 => ?_)
    · have h := h1 c_12
      refine lv_goto (tgt := 1773) hx hb dL_law_1770 (by decide) ?_
      exact hC y4 f_4 n_8 g_9 (bc - ga_2) (bs - gb_3) _ _ _ _ _ h hbc hbs hF hF2 hd hS (lv_sub hl [2, 3, 4, 5, 6] rfl)
    · have h := h2 c_12
      refine lv_aload_n hx hb dL_law_1758 rfl (lv_at hl 5 rfl) ?_
      refine lv_iconst (v := (0 : Int32)) hx hb dL_law_1759 (by decide) ?_
      obtain ⟨n_q_14, q_14, he_q_14, hi_q_14, h⟩ := h
      refine fw_lald hx hb hK hF he_q_14 hi_q_14 dL_law_1760 ?_
      refine lv_topl (fun v_13 e_v_13 => ?_)
      have h := h v_13 e_v_13
      refine lv_iload hx hb dL_law_1761 (lv_at hl 0 rfl) ?_
      refine lv_i2l (v := (Int32.toInt64 r_7)) hx hb dL_law_1763 rfl ?_
      refine W.lcmp hx hb dL_law_1764 ?_
      obtain ⟨h1, h2⟩ := h
      refine lv_if_eq (tgt := 1770) hx hb dL_law_1765 (by decide) (fun c_16 => ?_) (fun c_16 => ?_)
      · have h := h1 c_16
        refine lv_goto (tgt := 1773) hx hb dL_law_1770 (by decide) ?_
        exact hC y4 f_4 n_8 g_9 (bc - ga_2) (bs - gb_3) _ _ _ _ _ h hbc hbs hF hF2 hd hS (lv_sub hl [2, 3, 4, 5, 6] rfl)
      · have h := h2 c_16
        refine lv_iconst (v := (0 : Int32)) hx hb dL_law_1768 (by decide) ?_
        exact h.elim
  · have h := h2 c_11
    refine lv_iconst (v := (0 : Int32)) hx hb dL_law_1751 (by decide) ?_
    exact h.elim
