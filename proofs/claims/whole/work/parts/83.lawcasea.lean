set_option maxRecDepth 20000 in
theorem ggL_law_L_feed : GoodIn wsL_law wsL_feed := goodIn_ca (goodIn_ca (goodIn_r _ [262, 263, 264, 265, 266, 267, 2, 268, 269, 270, 271, 272, 40, 273, 274, 275, 38, 276, 90, 277, 278, 279, 280, 281, 37, 282, 283, 142, 284, 285, 286, 198, 199, 287, 288, 39, 153, 154, 128, 155, 156, 157, 158, 159, 289, 87, 88, 89, 12, 13, 1148, 1149, 1150, 1151, 1152, 1153, 1154, 1155, 1156, 1209] (by decide +kernel) (by decide +kernel)) (goodIn_sub (fun _ h => List.mem_append_left _ (List.mem_append_left _ (List.mem_append_left _ (List.mem_append_right _ h)))) (by decide +kernel))) (goodIn_sub (fun _ h => List.mem_append_left _ (List.mem_append_left _ (List.mem_append_right _ h))) (by decide +kernel))
set_option maxRecDepth 20000 in
theorem ggL_law_X9_feed : GoodIn wsL_law wsX9_feed := goodIn_r _ [293, 294, 237, 295, 296, 5, 297, 298, 299, 300, 301, 302, 303, 304, 305, 306, 1157, 1158, 1159, 1160, 1161, 1162, 1163, 1164, 1165, 1166, 1167, 1168, 1169, 1170, 1171, 1172, 1173, 1174, 1175, 1176, 1177, 1178, 1179, 1180, 1181, 1182, 1183, 1184, 1185, 1186, 1187, 1188, 1189, 1190] (by decide +kernel) (by decide +kernel)
set_option maxRecDepth 20000 in
theorem ggL_law_X9_thrown : GoodIn wsL_law wsX9_thrown := goodIn_r _ [310, 302, 1157, 1158, 1159, 1160, 1161, 1162, 1163, 1164, 1165, 1166, 1167, 1168, 1169, 1170, 1171, 1172, 1173, 1174, 1175, 1176, 1177, 1178, 1179, 1180, 1181, 1182, 1183, 1184, 1185, 1186, 1187, 1188, 1189, 1190] (by decide +kernel) (by decide +kernel)
set_option maxRecDepth 20000 in
theorem ggL_law_L_setKey : GoodIn wsL_law wsL_setKey := goodIn_ca (goodIn_r _ [313, 263, 314, 315, 316, 2, 317, 269, 270, 39, 318, 36, 37, 38, 40, 232, 87, 88, 89, 12, 13, 90, 1209, 1148, 1149, 1150, 1151, 1152, 1153, 1154, 1155, 1156] (by decide +kernel) (by decide +kernel)) (goodIn_sub (fun _ h => List.mem_append_left _ (List.mem_append_left _ (List.mem_append_left _ (List.mem_append_right _ h)))) (by decide +kernel))
set_option maxRecDepth 20000 in
theorem ggL_law_X9_setKey : GoodIn wsL_law wsX9_setKey := goodIn_r _ [322, 294, 237, 323, 295, 296, 5, 297, 298, 299, 300, 301, 302, 303, 304, 305, 306, 1157, 1158, 1159, 1160, 1161, 1162, 1163, 1164, 1165, 1166, 1167, 1168, 1169, 1170, 1171, 1172, 1173, 1174, 1175, 1176, 1177, 1178, 1179, 1180, 1181, 1182, 1183, 1184, 1185, 1186, 1187, 1188, 1189, 1190] (by decide +kernel) (by decide +kernel)
set_option maxRecDepth 20000 in
theorem ggL_law_L_cutKey : GoodIn wsL_law wsL_cutKey := goodIn_ca (goodIn_r _ [326, 263, 327, 328, 329, 2, 330, 269, 270, 40, 273, 274, 275, 38, 276, 90, 331, 332, 333, 334, 281, 37, 335, 154, 128, 155, 336, 127, 129, 282, 283, 142, 284, 285, 286, 198, 199, 287, 288, 39, 153, 156, 157, 158, 159, 289, 87, 88, 89, 12, 13, 1148, 1149, 1150, 1151, 1152, 1153, 1154, 1155, 1156, 1209] (by decide +kernel) (by decide +kernel)) (goodIn_sub (fun _ h => List.mem_append_left _ (List.mem_append_left _ (List.mem_append_left _ (List.mem_append_right _ h)))) (by decide +kernel))
set_option maxRecDepth 20000 in
theorem ggL_law_X9_cutKey : GoodIn wsL_law wsX9_cutKey := goodIn_r _ [340, 294, 295, 296, 5, 297, 298, 299, 300, 301, 302, 303, 304, 305, 306, 1157, 1158, 1159, 1160, 1161, 1162, 1163, 1164, 1165, 1166, 1167, 1168, 1169, 1170, 1171, 1172, 1173, 1174, 1175, 1176, 1177, 1178, 1179, 1180, 1181, 1182, 1183, 1184, 1185, 1186, 1187, 1188, 1189, 1190] (by decide +kernel) (by decide +kernel)
set_option maxRecDepth 20000 in
theorem ggL_law_L_keyByte : GoodIn wsL_law wsL_keyByte := goodIn_ca (goodIn_r _ [343, 344, 345, 346, 347, 2, 348, 349, 350, 40, 273, 274, 275, 38, 276, 90, 351, 352, 353, 354, 1148, 1149, 1150, 1151, 1152, 1153, 1154, 1155, 1156, 1209] (by decide +kernel) (by decide +kernel)) (goodIn_sub (fun _ h => List.mem_append_left _ (List.mem_append_right _ h)) (by decide +kernel))
set_option maxRecDepth 20000 in
theorem ggL_law_X9_keyByte : GoodIn wsL_law wsX9_keyByte := goodIn_r _ [358, 294, 237, 295, 296, 5, 297, 303, 304, 305, 306, 302, 298, 299, 300, 301, 1157, 1158, 1159, 1160, 1161, 1162, 1163, 1164, 1165, 1166, 1167, 1168, 1169, 1170, 1171, 1172, 1173, 1174, 1175, 1176, 1177, 1178, 1179, 1180, 1181, 1182, 1183, 1184, 1185, 1186, 1187, 1188, 1189, 1190] (by decide +kernel) (by decide +kernel)
set_option maxRecDepth 20000 in
theorem ggL_law_X8_swapBound : GoodIn wsL_law wsX8_swapBound := goodIn_r _ [362, 40, 41, 273, 274, 275, 38, 276, 90, 1148, 1149, 1150, 1151, 1152, 1153, 1154, 1155, 1156, 1209] (by decide +kernel) (by decide +kernel)
set_option maxRecDepth 20000 in
theorem ggL_law_X9_swapBound : GoodIn wsL_law wsX9_swapBound := goodIn_r _ [366, 237, 238, 294, 367, 303, 304, 305, 5, 306, 302, 1157, 1158, 1159, 1160, 1161, 1162, 1163, 1164, 1165, 1166, 1167, 1168, 1169, 1170, 1171, 1172, 1173, 1174, 1175, 1176, 1177, 1178, 1179, 1180, 1181, 1182, 1183, 1184, 1185, 1186, 1187, 1188, 1189, 1190] (by decide +kernel) (by decide +kernel)
set_option maxRecDepth 20000 in
theorem ggL_law_L_setCapacity : GoodIn wsL_law wsL_setCapacity := goodIn_ca (goodIn_ca (goodIn_r _ [370, 263, 264, 371, 372, 373, 2, 374, 269, 270, 271, 272, 17, 375, 376, 377, 48, 378, 68, 379, 104, 105, 57, 106, 107, 1148, 1149, 1150, 1151, 1152, 1153, 1154, 1155, 1156, 1191, 1192, 1193, 1194, 1195, 1196, 1197, 1198, 1210, 1211, 1214, 1215, 1216] (by decide +kernel) (by decide +kernel)) (goodIn_sub (fun _ h => List.mem_append_left _ (List.mem_append_left _ (List.mem_append_left _ (List.mem_append_right _ h)))) (by decide +kernel))) (goodIn_sub (fun _ h => List.mem_append_left _ (List.mem_append_left _ (List.mem_append_right _ h))) (by decide +kernel))
set_option maxRecDepth 20000 in
theorem ggL_law_X9_setCapacity : GoodIn wsL_law wsX9_setCapacity := goodIn_r _ [383, 384, 239, 295, 296, 5, 297, 298, 299, 300, 301, 302, 303, 304, 305, 306, 1157, 1158, 1159, 1160, 1161, 1162, 1163, 1164, 1165, 1166, 1167, 1168, 1169, 1170, 1171, 1172, 1173, 1174, 1175, 1176, 1177, 1178, 1179, 1180, 1181, 1182, 1183, 1184, 1185, 1186, 1187, 1188, 1189, 1190] (by decide +kernel) (by decide +kernel)
set_option maxRecDepth 20000 in
theorem ggL_law_L_put : GoodIn wsL_law wsL_put := goodIn_ca (goodIn_r _ [387, 264, 388, 389, 390, 2, 391, 271, 272, 17, 40, 26, 392, 393, 394, 48, 395, 68, 396, 397, 398, 399, 379, 104, 105, 57, 106, 107, 400, 401, 402, 403, 404, 70, 405, 166, 167, 168, 169, 170, 171, 172, 173, 174, 175, 176, 177, 178, 179, 180, 75, 406, 407, 408, 38, 409, 410, 411, 412, 413, 90, 414, 352, 353, 354, 415, 416, 417, 52, 418, 96, 95, 375, 376, 377, 378, 419, 420, 421, 25, 422, 216, 423, 424, 425, 426, 217, 427, 428, 429, 430, 431, 432, 433, 434, 435, 112, 113, 436, 157, 158, 159, 437, 438, 439, 440, 118, 119, 120, 121, 122, 123, 124, 125, 74, 126, 127, 128, 129, 130, 131, 132, 133, 134, 135, 136, 137, 138, 139, 140, 141, 142, 143, 144, 145, 146, 147, 148, 149, 150, 151, 152, 153, 154, 155, 156, 441, 190, 191, 192, 193, 194, 195, 196, 197, 198, 199, 200, 201, 94, 442, 161, 162, 16, 163, 58, 164, 59, 103, 165, 443, 444, 445, 446, 447, 448, 449, 450, 21, 451, 206, 452, 453, 454, 455, 456, 457, 458, 459, 160, 460, 461, 462, 463, 464, 465, 466, 467, 468, 469, 470, 471, 61, 49, 472, 473, 474, 475, 476, 54, 477, 274, 275, 276, 478, 479, 480, 481, 482, 483, 484, 485, 486, 62, 487, 488, 489, 490, 491, 492, 493, 494, 495, 496, 497, 498, 499, 500, 501, 502, 215, 503, 504, 505, 506, 507, 508, 332, 333, 334, 281, 37, 335, 336, 282, 283, 284, 285, 286, 287, 288, 39, 289, 87, 88, 89, 12, 13, 509, 510, 511, 512, 513, 514, 515, 516, 517, 518, 519, 520, 521, 522, 523, 524, 525, 526, 527, 528, 214, 529, 530, 531, 532, 533, 534, 535, 536, 100, 101, 102, 50, 51, 91, 92, 93, 108, 109, 110, 111, 114, 115, 116, 117, 181, 182, 183, 184, 537, 186, 187, 188, 189, 538, 1148, 1149, 1150, 1151, 1152, 1153, 1154, 1155, 1156, 1191, 1192, 1193, 1194, 1195, 1196, 1197, 1198, 1210, 1211, 1214, 1215, 1216, 1209, 1212, 1213, 1200, 1201, 1202, 1203, 1199] (by decide +kernel) (by decide +kernel)) (goodIn_sub (fun _ h => List.mem_append_left _ (List.mem_append_left _ (List.mem_append_right _ h))) (by decide +kernel))
set_option maxRecDepth 20000 in
theorem ggL_law_X9_put : GoodIn wsL_law wsX9_put := goodIn_r _ [542, 237, 294, 242, 384, 240, 241, 245, 248, 543, 544, 545, 5, 546, 547, 548, 549, 550, 551, 552, 553, 554, 555, 556, 557, 558, 559, 560, 561, 562, 563, 564, 302, 565, 566, 567, 568, 569, 570, 571, 572, 243, 247, 246, 573, 574, 575, 576, 577, 578, 579, 580, 581, 582, 583, 584, 585, 586, 587, 588, 589, 590, 591, 239, 592, 593, 594, 595, 596, 597, 598, 599, 600, 601, 602, 603, 604, 605, 606, 607, 608, 609, 610, 611, 612, 613, 614, 615, 616, 244, 617, 618, 619, 620, 621, 622, 623, 624, 625, 626, 627, 628, 629, 630, 631, 632, 633, 634, 635, 636, 637, 638, 639, 640, 641, 1157, 1158, 1159, 1160, 1161, 1162, 1163, 1164, 1165, 1166, 1167, 1168, 1169, 1170, 1171, 1172, 1173, 1174, 1175, 1176, 1177, 1178, 1179, 1180, 1181, 1182, 1183, 1184, 1185, 1186, 1187, 1188, 1189, 1190] (by decide +kernel) (by decide +kernel)
set_option maxRecDepth 20000 in
theorem ggL_law_L_get : GoodIn wsL_law wsL_get := goodIn_ca (goodIn_r _ [644, 645, 646, 647, 648, 2, 649, 17, 650, 651, 652, 653, 654, 655, 40, 392, 393, 394, 48, 395, 68, 396, 397, 398, 399, 379, 104, 105, 57, 106, 107, 400, 401, 402, 403, 404, 70, 405, 166, 167, 168, 169, 170, 171, 172, 173, 174, 175, 176, 177, 178, 179, 180, 75, 406, 407, 408, 38, 409, 410, 411, 412, 413, 90, 414, 352, 353, 354, 656, 461, 462, 52, 463, 96, 95, 1148, 1149, 1150, 1151, 1152, 1153, 1154, 1155, 1156, 1191, 1192, 1193, 1194, 1195, 1196, 1197, 1198, 1210, 1211, 1214, 1215, 1216, 1209, 1212, 1213] (by decide +kernel) (by decide +kernel)) (goodIn_sub (fun _ h => List.mem_append_right _ h) (by decide +kernel))
set_option maxRecDepth 20000 in
theorem ggL_law_X9_get : GoodIn wsL_law wsX9_get := goodIn_r _ [660, 237, 294, 242, 543, 544, 545, 5, 546, 384, 547, 548, 549, 550, 241, 240, 551, 552, 553, 554, 555, 556, 557, 558, 559, 560, 303, 304, 305, 306, 302, 298, 299, 300, 301, 1157, 1158, 1159, 1160, 1161, 1162, 1163, 1164, 1165, 1166, 1167, 1168, 1169, 1170, 1171, 1172, 1173, 1174, 1175, 1176, 1177, 1178, 1179, 1180, 1181, 1182, 1183, 1184, 1185, 1186, 1187, 1188, 1189, 1190] (by decide +kernel) (by decide +kernel)
set_option maxRecDepth 20000 in
theorem ggL_law_L_remove : GoodIn wsL_law wsL_remove := goodIn_ca (goodIn_r _ [663, 645, 664, 665, 666, 2, 667, 30, 650, 651, 652, 653, 654, 655, 17, 40, 392, 393, 394, 48, 395, 68, 396, 397, 398, 399, 379, 104, 105, 57, 106, 107, 400, 401, 402, 403, 404, 70, 405, 166, 167, 168, 169, 170, 171, 172, 173, 174, 175, 176, 177, 178, 179, 180, 75, 406, 407, 408, 38, 409, 410, 411, 412, 413, 90, 414, 352, 353, 354, 668, 669, 670, 29, 671, 223, 224, 672, 461, 462, 52, 463, 96, 95, 673, 161, 162, 16, 163, 58, 164, 59, 103, 165, 674, 492, 493, 494, 495, 675, 676, 677, 678, 679, 680, 681, 682, 683, 684, 685, 686, 112, 113, 436, 157, 158, 159, 687, 688, 689, 690, 691, 444, 445, 446, 447, 127, 128, 129, 692, 693, 694, 21, 695, 206, 696, 488, 489, 490, 160, 491, 697, 698, 699, 700, 701, 453, 454, 455, 456, 457, 458, 459, 460, 464, 465, 466, 467, 468, 469, 470, 471, 61, 49, 472, 473, 474, 475, 476, 54, 477, 274, 275, 276, 478, 702, 484, 485, 486, 62, 487, 703, 704, 705, 706, 222, 707, 708, 709, 710, 522, 523, 524, 1148, 1149, 1150, 1151, 1152, 1153, 1154, 1155, 1156, 1191, 1192, 1193, 1194, 1195, 1196, 1197, 1198, 1210, 1211, 1214, 1215, 1216, 1209, 1204, 1205, 1206, 1212, 1213, 1199] (by decide +kernel) (by decide +kernel)) (goodIn_sub (fun _ h => List.mem_append_right _ h) (by decide +kernel))
set_option maxRecDepth 20000 in
theorem ggL_law_X9_remove : GoodIn wsL_law wsX9_remove := goodIn_r _ [714, 237, 294, 543, 544, 545, 5, 546, 384, 547, 548, 549, 550, 241, 240, 551, 552, 553, 554, 555, 556, 557, 558, 559, 560, 715, 716, 717, 718, 242, 245, 248, 243, 719, 617, 618, 619, 620, 577, 578, 579, 584, 585, 586, 587, 720, 721, 722, 723, 239, 592, 593, 594, 595, 573, 574, 575, 576, 596, 597, 598, 599, 600, 601, 602, 603, 604, 605, 606, 607, 247, 246, 580, 581, 582, 583, 613, 614, 615, 616, 244, 724, 725, 726, 727, 625, 626, 627, 628, 303, 304, 305, 306, 302, 298, 299, 300, 301, 1157, 1158, 1159, 1160, 1161, 1162, 1163, 1164, 1165, 1166, 1167, 1168, 1169, 1170, 1171, 1172, 1173, 1174, 1175, 1176, 1177, 1178, 1179, 1180, 1181, 1182, 1183, 1184, 1185, 1186, 1187, 1188, 1189, 1190] (by decide +kernel) (by decide +kernel)
set_option maxRecDepth 20000 in
theorem ggL_law_X8_removeRange : GoodIn wsL_law wsX8_removeRange := goodIn_r _ [731, 17, 41, 40, 30, 732, 127, 128, 129, 733, 397, 398, 48, 399, 68, 379, 104, 105, 57, 106, 107, 400, 401, 402, 403, 404, 70, 405, 166, 167, 168, 169, 170, 171, 172, 173, 174, 175, 176, 177, 178, 179, 180, 75, 406, 407, 408, 38, 409, 410, 411, 412, 413, 90, 414, 352, 353, 354, 668, 669, 670, 29, 671, 223, 224, 672, 461, 462, 52, 463, 96, 95, 673, 161, 162, 16, 163, 58, 164, 59, 103, 165, 674, 492, 493, 494, 495, 675, 676, 677, 678, 679, 680, 681, 682, 683, 684, 685, 686, 112, 113, 436, 157, 158, 159, 687, 688, 689, 690, 691, 444, 445, 446, 447, 692, 693, 694, 21, 695, 206, 696, 488, 489, 490, 160, 491, 697, 698, 699, 700, 701, 453, 454, 455, 456, 457, 458, 459, 460, 464, 465, 466, 467, 468, 469, 470, 471, 61, 49, 472, 473, 474, 475, 476, 54, 477, 274, 275, 276, 478, 702, 484, 485, 486, 62, 487, 703, 704, 705, 706, 222, 707, 708, 709, 710, 522, 523, 524, 1148, 1149, 1150, 1151, 1152, 1153, 1154, 1155, 1156, 1191, 1192, 1193, 1194, 1195, 1196, 1197, 1198, 1210, 1211, 1214, 1215, 1216, 1209, 1204, 1205, 1206, 1212, 1213, 1199] (by decide +kernel) (by decide +kernel)
set_option maxRecDepth 20000 in
theorem ggL_law_X9_removeRange : GoodIn wsL_law wsX9_removeRange := goodIn_r _ [737, 238, 367, 384, 237, 294, 543, 544, 545, 5, 546, 547, 548, 549, 550, 241, 240, 551, 552, 553, 554, 555, 556, 715, 716, 717, 718, 242, 245, 248, 243, 719, 617, 618, 619, 620, 577, 578, 579, 584, 585, 586, 587, 720, 721, 722, 723, 239, 592, 593, 594, 595, 573, 574, 575, 576, 596, 597, 598, 599, 600, 601, 602, 603, 604, 605, 606, 607, 247, 246, 580, 581, 582, 583, 613, 614, 615, 616, 244, 724, 725, 726, 727, 625, 626, 627, 628, 303, 304, 305, 306, 302, 1157, 1158, 1159, 1160, 1161, 1162, 1163, 1164, 1165, 1166, 1167, 1168, 1169, 1170, 1171, 1172, 1173, 1174, 1175, 1176, 1177, 1178, 1179, 1180, 1181, 1182, 1183, 1184, 1185, 1186, 1187, 1188, 1189, 1190] (by decide +kernel) (by decide +kernel)
set_option maxRecDepth 20000 in
theorem ggL_law_X8_size : GoodIn wsL_law wsX8_size := goodIn_r _ [741, 17, 375, 376, 377, 48, 378, 68, 379, 104, 105, 57, 106, 107, 1148, 1149, 1150, 1151, 1152, 1153, 1154, 1155, 1156, 1191, 1192, 1193, 1194, 1195, 1196, 1197, 1198, 1210, 1211, 1214, 1215, 1216] (by decide +kernel) (by decide +kernel)
set_option maxRecDepth 20000 in
theorem ggL_law_X9_size : GoodIn wsL_law wsX9_size := goodIn_r _ [745, 384, 303, 304, 305, 5, 306, 302, 1157, 1158, 1159, 1160, 1161, 1162, 1163, 1164, 1165, 1166, 1167, 1168, 1169, 1170, 1171, 1172, 1173, 1174, 1175, 1176, 1177, 1178, 1179, 1180, 1181, 1182, 1183, 1184, 1185, 1186, 1187, 1188, 1189, 1190] (by decide +kernel) (by decide +kernel)
theorem dL_law_184 : decode code 184 = .ok (.aload_n 1, 1) := by decide +kernel
theorem dL_law_185 : decode code 185 = .ok (.aload_n 0, 1) := by decide +kernel
theorem dL_law_186 : decode code 186 = .ok (.iload 4, 2) := by decide +kernel
theorem dL_law_188 : decode code 188 = .ok (.iconst 1, 1) := by decide +kernel
theorem dL_law_189 : decode code 189 = .ok (.iadd, 1) := by decide +kernel
theorem dL_law_190 : decode code 190 = .ok (.iaload, 1) := by decide +kernel
theorem dL_law_191 : decode code 191 = .ok (.aload_n 3, 1) := by decide +kernel
theorem dL_law_192 : decode code 192 = .ok (.invokestatic 102, 3) := by decide +kernel
theorem dL_law_195 : decode code 195 = .ok (.istore 5, 2) := by decide +kernel
theorem dL_law_197 : decode code 197 = .ok (.aload_n 2, 1) := by decide +kernel
theorem dL_law_198 : decode code 198 = .ok (.aload_n 0, 1) := by decide +kernel
theorem dL_law_199 : decode code 199 = .ok (.iload 4, 2) := by decide +kernel
theorem dL_law_201 : decode code 201 = .ok (.iconst 1, 1) := by decide +kernel
theorem dL_law_202 : decode code 202 = .ok (.iadd, 1) := by decide +kernel
theorem dL_law_203 : decode code 203 = .ok (.iaload, 1) := by decide +kernel
theorem dL_law_204 : decode code 204 = .ok (.invokevirtual 107, 3) := by decide +kernel
theorem dL_law_207 : decode code 207 = .ok (.istore 6, 2) := by decide +kernel
theorem dL_law_209 : decode code 209 = .ok (.aload_n 2, 1) := by decide +kernel
theorem dL_law_210 : decode code 210 = .ok (.invokevirtual 108, 3) := by decide +kernel
theorem dL_law_213 : decode code 213 = .ok (.iload 5, 2) := by decide +kernel
theorem dL_law_215 : decode code 215 = .ok (.if_icmp .eq 5, 3) := by decide +kernel
theorem dL_law_218 : decode code 218 = .ok (.iconst 0, 1) := by decide +kernel
theorem dL_law_220 : decode code 220 = .ok (.iload 5, 2) := by decide +kernel
theorem dL_law_222 : decode code 222 = .ok (.ifCond .ne 15, 3) := by decide +kernel
theorem dL_law_225 : decode code 225 = .ok (.aload_n 3, 1) := by decide +kernel
theorem dL_law_226 : decode code 226 = .ok (.iconst 0, 1) := by decide +kernel
theorem dL_law_227 : decode code 227 = .ok (.laload, 1) := by decide +kernel
theorem dL_law_228 : decode code 228 = .ok (.iload 6, 2) := by decide +kernel
theorem dL_law_230 : decode code 230 = .ok (.i2l, 1) := by decide +kernel
theorem dL_law_231 : decode code 231 = .ok (.lcmp, 1) := by decide +kernel
theorem dL_law_232 : decode code 232 = .ok (.ifCond .eq 5, 3) := by decide +kernel
theorem dL_law_235 : decode code 235 = .ok (.iconst 0, 1) := by decide +kernel
theorem dL_law_237 : decode code 237 = .ok (.goto 1536, 3) := by decide +kernel
theorem dL_law_240 : decode code 240 = .ok (.aload_n 1, 1) := by decide +kernel
theorem dL_law_241 : decode code 241 = .ok (.aload_n 0, 1) := by decide +kernel
theorem dL_law_242 : decode code 242 = .ok (.iload 4, 2) := by decide +kernel
theorem dL_law_244 : decode code 244 = .ok (.iconst 1, 1) := by decide +kernel
theorem dL_law_245 : decode code 245 = .ok (.iadd, 1) := by decide +kernel
theorem dL_law_246 : decode code 246 = .ok (.iaload, 1) := by decide +kernel
theorem dL_law_247 : decode code 247 = .ok (.i2l, 1) := by decide +kernel
theorem dL_law_248 : decode code 248 = .ok (.bipush 32, 2) := by decide +kernel
theorem dL_law_250 : decode code 250 = .ok (.lshl, 1) := by decide +kernel
theorem dL_law_251 : decode code 251 = .ok (.aload_n 0, 1) := by decide +kernel
theorem dL_law_252 : decode code 252 = .ok (.iload 4, 2) := by decide +kernel
theorem dL_law_254 : decode code 254 = .ok (.iconst 2, 1) := by decide +kernel
theorem dL_law_255 : decode code 255 = .ok (.iadd, 1) := by decide +kernel
theorem dL_law_256 : decode code 256 = .ok (.iaload, 1) := by decide +kernel
theorem dL_law_257 : decode code 257 = .ok (.i2l, 1) := by decide +kernel
theorem dL_law_258 : decode code 258 = .ok (.ldc2_w 111, 3) := by decide +kernel
theorem dL_law_261 : decode code 261 = .ok (.land, 1) := by decide +kernel
theorem dL_law_262 : decode code 262 = .ok (.lor, 1) := by decide +kernel
theorem dL_law_263 : decode code 263 = .ok (.aload_n 0, 1) := by decide +kernel
theorem dL_law_264 : decode code 264 = .ok (.iload 4, 2) := by decide +kernel
theorem dL_law_266 : decode code 266 = .ok (.iconst 3, 1) := by decide +kernel
theorem dL_law_267 : decode code 267 = .ok (.iadd, 1) := by decide +kernel
theorem dL_law_268 : decode code 268 = .ok (.iaload, 1) := by decide +kernel
theorem dL_law_269 : decode code 269 = .ok (.aload_n 3, 1) := by decide +kernel
theorem dL_law_270 : decode code 270 = .ok (.invokestatic 113, 3) := by decide +kernel
theorem dL_law_273 : decode code 273 = .ok (.istore 5, 2) := by decide +kernel
theorem dL_law_275 : decode code 275 = .ok (.aload_n 2, 1) := by decide +kernel
theorem dL_law_276 : decode code 276 = .ok (.aload_n 0, 1) := by decide +kernel
theorem dL_law_277 : decode code 277 = .ok (.iload 4, 2) := by decide +kernel
theorem dL_law_279 : decode code 279 = .ok (.iconst 1, 1) := by decide +kernel
theorem dL_law_280 : decode code 280 = .ok (.iadd, 1) := by decide +kernel
theorem dL_law_281 : decode code 281 = .ok (.iaload, 1) := by decide +kernel
theorem dL_law_282 : decode code 282 = .ok (.i2l, 1) := by decide +kernel
theorem dL_law_283 : decode code 283 = .ok (.bipush 32, 2) := by decide +kernel
theorem dL_law_285 : decode code 285 = .ok (.lshl, 1) := by decide +kernel
theorem dL_law_286 : decode code 286 = .ok (.aload_n 0, 1) := by decide +kernel
theorem dL_law_287 : decode code 287 = .ok (.iload 4, 2) := by decide +kernel
theorem dL_law_289 : decode code 289 = .ok (.iconst 2, 1) := by decide +kernel
theorem dL_law_290 : decode code 290 = .ok (.iadd, 1) := by decide +kernel
theorem dL_law_291 : decode code 291 = .ok (.iaload, 1) := by decide +kernel
theorem dL_law_292 : decode code 292 = .ok (.i2l, 1) := by decide +kernel
theorem dL_law_293 : decode code 293 = .ok (.ldc2_w 111, 3) := by decide +kernel
theorem dL_law_296 : decode code 296 = .ok (.land, 1) := by decide +kernel
theorem dL_law_297 : decode code 297 = .ok (.lor, 1) := by decide +kernel
theorem dL_law_298 : decode code 298 = .ok (.aload_n 0, 1) := by decide +kernel
theorem dL_law_299 : decode code 299 = .ok (.iload 4, 2) := by decide +kernel
theorem dL_law_301 : decode code 301 = .ok (.iconst 3, 1) := by decide +kernel
theorem dL_law_302 : decode code 302 = .ok (.iadd, 1) := by decide +kernel
theorem dL_law_303 : decode code 303 = .ok (.iaload, 1) := by decide +kernel
theorem dL_law_304 : decode code 304 = .ok (.invokevirtual 116, 3) := by decide +kernel
theorem dL_law_307 : decode code 307 = .ok (.istore 6, 2) := by decide +kernel
theorem dL_law_309 : decode code 309 = .ok (.aload_n 2, 1) := by decide +kernel
theorem dL_law_310 : decode code 310 = .ok (.invokevirtual 108, 3) := by decide +kernel
theorem dL_law_313 : decode code 313 = .ok (.iload 5, 2) := by decide +kernel
theorem dL_law_315 : decode code 315 = .ok (.if_icmp .eq 5, 3) := by decide +kernel
theorem dL_law_318 : decode code 318 = .ok (.iconst 0, 1) := by decide +kernel
theorem dL_law_320 : decode code 320 = .ok (.iload 5, 2) := by decide +kernel
theorem dL_law_322 : decode code 322 = .ok (.ifCond .ne 15, 3) := by decide +kernel
theorem dL_law_325 : decode code 325 = .ok (.aload_n 3, 1) := by decide +kernel
theorem dL_law_326 : decode code 326 = .ok (.iconst 0, 1) := by decide +kernel
theorem dL_law_327 : decode code 327 = .ok (.laload, 1) := by decide +kernel
theorem dL_law_328 : decode code 328 = .ok (.iload 6, 2) := by decide +kernel
theorem dL_law_330 : decode code 330 = .ok (.i2l, 1) := by decide +kernel
theorem dL_law_331 : decode code 331 = .ok (.lcmp, 1) := by decide +kernel
theorem dL_law_332 : decode code 332 = .ok (.ifCond .eq 5, 3) := by decide +kernel
theorem dL_law_335 : decode code 335 = .ok (.iconst 0, 1) := by decide +kernel
theorem dL_law_337 : decode code 337 = .ok (.goto 1436, 3) := by decide +kernel
theorem dL_law_340 : decode code 340 = .ok (.aload_n 1, 1) := by decide +kernel
theorem dL_law_341 : decode code 341 = .ok (.aload_n 0, 1) := by decide +kernel
theorem dL_law_342 : decode code 342 = .ok (.iload 4, 2) := by decide +kernel
theorem dL_law_344 : decode code 344 = .ok (.iconst 1, 1) := by decide +kernel
theorem dL_law_345 : decode code 345 = .ok (.iadd, 1) := by decide +kernel
theorem dL_law_346 : decode code 346 = .ok (.iaload, 1) := by decide +kernel
theorem dL_law_347 : decode code 347 = .ok (.aload_n 3, 1) := by decide +kernel
theorem dL_law_348 : decode code 348 = .ok (.invokestatic 117, 3) := by decide +kernel
theorem dL_law_351 : decode code 351 = .ok (.istore 5, 2) := by decide +kernel
theorem dL_law_353 : decode code 353 = .ok (.aload_n 2, 1) := by decide +kernel
theorem dL_law_354 : decode code 354 = .ok (.aload_n 0, 1) := by decide +kernel
theorem dL_law_355 : decode code 355 = .ok (.iload 4, 2) := by decide +kernel
theorem dL_law_357 : decode code 357 = .ok (.iconst 1, 1) := by decide +kernel
theorem dL_law_358 : decode code 358 = .ok (.iadd, 1) := by decide +kernel
theorem dL_law_359 : decode code 359 = .ok (.iaload, 1) := by decide +kernel
theorem dL_law_360 : decode code 360 = .ok (.invokevirtual 119, 3) := by decide +kernel
theorem dL_law_363 : decode code 363 = .ok (.istore 6, 2) := by decide +kernel
theorem dL_law_365 : decode code 365 = .ok (.aload_n 2, 1) := by decide +kernel
theorem dL_law_366 : decode code 366 = .ok (.invokevirtual 108, 3) := by decide +kernel
theorem dL_law_369 : decode code 369 = .ok (.iload 5, 2) := by decide +kernel
theorem dL_law_371 : decode code 371 = .ok (.if_icmp .eq 5, 3) := by decide +kernel
theorem dL_law_374 : decode code 374 = .ok (.iconst 0, 1) := by decide +kernel
theorem dL_law_376 : decode code 376 = .ok (.iload 5, 2) := by decide +kernel
theorem dL_law_378 : decode code 378 = .ok (.ifCond .ne 15, 3) := by decide +kernel
theorem dL_law_381 : decode code 381 = .ok (.aload_n 3, 1) := by decide +kernel
theorem dL_law_382 : decode code 382 = .ok (.iconst 0, 1) := by decide +kernel
theorem dL_law_383 : decode code 383 = .ok (.laload, 1) := by decide +kernel
theorem dL_law_384 : decode code 384 = .ok (.iload 6, 2) := by decide +kernel
theorem dL_law_386 : decode code 386 = .ok (.i2l, 1) := by decide +kernel
theorem dL_law_387 : decode code 387 = .ok (.lcmp, 1) := by decide +kernel
theorem dL_law_388 : decode code 388 = .ok (.ifCond .eq 5, 3) := by decide +kernel
theorem dL_law_391 : decode code 391 = .ok (.iconst 0, 1) := by decide +kernel
theorem dL_law_393 : decode code 393 = .ok (.goto 1380, 3) := by decide +kernel
theorem dL_law_396 : decode code 396 = .ok (.aload_n 1, 1) := by decide +kernel
theorem dL_law_397 : decode code 397 = .ok (.aload_n 0, 1) := by decide +kernel
theorem dL_law_398 : decode code 398 = .ok (.iload 4, 2) := by decide +kernel
theorem dL_law_400 : decode code 400 = .ok (.iconst 1, 1) := by decide +kernel
theorem dL_law_401 : decode code 401 = .ok (.iadd, 1) := by decide +kernel
theorem dL_law_402 : decode code 402 = .ok (.iaload, 1) := by decide +kernel
theorem dL_law_403 : decode code 403 = .ok (.aload_n 3, 1) := by decide +kernel
theorem dL_law_404 : decode code 404 = .ok (.invokestatic 120, 3) := by decide +kernel
theorem dL_law_407 : decode code 407 = .ok (.istore 5, 2) := by decide +kernel
theorem dL_law_409 : decode code 409 = .ok (.aload_n 2, 1) := by decide +kernel
theorem dL_law_410 : decode code 410 = .ok (.aload_n 0, 1) := by decide +kernel
theorem dL_law_411 : decode code 411 = .ok (.iload 4, 2) := by decide +kernel
theorem dL_law_413 : decode code 413 = .ok (.iconst 1, 1) := by decide +kernel
theorem dL_law_414 : decode code 414 = .ok (.iadd, 1) := by decide +kernel
theorem dL_law_415 : decode code 415 = .ok (.iaload, 1) := by decide +kernel
theorem dL_law_416 : decode code 416 = .ok (.invokevirtual 122, 3) := by decide +kernel
theorem dL_law_419 : decode code 419 = .ok (.istore 6, 2) := by decide +kernel
theorem dL_law_421 : decode code 421 = .ok (.aload_n 2, 1) := by decide +kernel
theorem dL_law_422 : decode code 422 = .ok (.invokevirtual 108, 3) := by decide +kernel
theorem dL_law_425 : decode code 425 = .ok (.iload 5, 2) := by decide +kernel
theorem dL_law_427 : decode code 427 = .ok (.if_icmp .eq 5, 3) := by decide +kernel
theorem dL_law_430 : decode code 430 = .ok (.iconst 0, 1) := by decide +kernel
theorem dL_law_432 : decode code 432 = .ok (.iload 5, 2) := by decide +kernel
theorem dL_law_434 : decode code 434 = .ok (.ifCond .ne 15, 3) := by decide +kernel
theorem dL_law_437 : decode code 437 = .ok (.aload_n 3, 1) := by decide +kernel
theorem dL_law_438 : decode code 438 = .ok (.iconst 0, 1) := by decide +kernel
theorem dL_law_439 : decode code 439 = .ok (.laload, 1) := by decide +kernel
theorem dL_law_440 : decode code 440 = .ok (.iload 6, 2) := by decide +kernel
theorem dL_law_442 : decode code 442 = .ok (.i2l, 1) := by decide +kernel
theorem dL_law_443 : decode code 443 = .ok (.lcmp, 1) := by decide +kernel
theorem dL_law_444 : decode code 444 = .ok (.ifCond .eq 5, 3) := by decide +kernel
theorem dL_law_447 : decode code 447 = .ok (.iconst 0, 1) := by decide +kernel
theorem dL_law_449 : decode code 449 = .ok (.goto 1324, 3) := by decide +kernel
theorem dL_law_452 : decode code 452 = .ok (.aload_n 1, 1) := by decide +kernel
theorem dL_law_453 : decode code 453 = .ok (.invokevirtual 123, 3) := by decide +kernel
theorem dL_law_456 : decode code 456 = .ok (.aload_n 2, 1) := by decide +kernel
theorem dL_law_457 : decode code 457 = .ok (.invokevirtual 126, 3) := by decide +kernel
theorem dL_law_460 : decode code 460 = .ok (.if_icmp .eq 1313, 3) := by decide +kernel
theorem dL_law_463 : decode code 463 = .ok (.iconst 0, 1) := by decide +kernel
theorem dL_law_465 : decode code 465 = .ok (.aload_n 1, 1) := by decide +kernel
theorem dL_law_466 : decode code 466 = .ok (.aload_n 0, 1) := by decide +kernel
theorem dL_law_467 : decode code 467 = .ok (.iload 4, 2) := by decide +kernel
theorem dL_law_469 : decode code 469 = .ok (.iconst 1, 1) := by decide +kernel
theorem dL_law_470 : decode code 470 = .ok (.iadd, 1) := by decide +kernel
theorem dL_law_471 : decode code 471 = .ok (.iaload, 1) := by decide +kernel
theorem dL_law_472 : decode code 472 = .ok (.aload_n 3, 1) := by decide +kernel
theorem dL_law_473 : decode code 473 = .ok (.invokestatic 127, 3) := by decide +kernel
theorem dL_law_476 : decode code 476 = .ok (.istore 5, 2) := by decide +kernel
theorem dL_law_478 : decode code 478 = .ok (.aload_n 2, 1) := by decide +kernel
theorem dL_law_479 : decode code 479 = .ok (.aload_n 0, 1) := by decide +kernel
theorem dL_law_480 : decode code 480 = .ok (.iload 4, 2) := by decide +kernel
theorem dL_law_482 : decode code 482 = .ok (.iconst 1, 1) := by decide +kernel
theorem dL_law_483 : decode code 483 = .ok (.iadd, 1) := by decide +kernel
theorem dL_law_484 : decode code 484 = .ok (.iaload, 1) := by decide +kernel
theorem dL_law_485 : decode code 485 = .ok (.invokevirtual 129, 3) := by decide +kernel
theorem dL_law_488 : decode code 488 = .ok (.istore 6, 2) := by decide +kernel
theorem dL_law_490 : decode code 490 = .ok (.aload_n 2, 1) := by decide +kernel
theorem dL_law_491 : decode code 491 = .ok (.invokevirtual 108, 3) := by decide +kernel
theorem dL_law_494 : decode code 494 = .ok (.iload 5, 2) := by decide +kernel
theorem dL_law_496 : decode code 496 = .ok (.if_icmp .eq 5, 3) := by decide +kernel
theorem dL_law_499 : decode code 499 = .ok (.iconst 0, 1) := by decide +kernel
theorem dL_law_501 : decode code 501 = .ok (.iload 5, 2) := by decide +kernel
theorem dL_law_503 : decode code 503 = .ok (.ifCond .ne 15, 3) := by decide +kernel
theorem dL_law_506 : decode code 506 = .ok (.aload_n 3, 1) := by decide +kernel
theorem dL_law_507 : decode code 507 = .ok (.iconst 0, 1) := by decide +kernel
theorem dL_law_508 : decode code 508 = .ok (.laload, 1) := by decide +kernel
theorem dL_law_509 : decode code 509 = .ok (.iload 6, 2) := by decide +kernel
theorem dL_law_511 : decode code 511 = .ok (.i2l, 1) := by decide +kernel
theorem dL_law_512 : decode code 512 = .ok (.lcmp, 1) := by decide +kernel
theorem dL_law_513 : decode code 513 = .ok (.ifCond .eq 5, 3) := by decide +kernel
theorem dL_law_516 : decode code 516 = .ok (.iconst 0, 1) := by decide +kernel
theorem dL_law_518 : decode code 518 = .ok (.goto 1255, 3) := by decide +kernel
theorem dL_law_521 : decode code 521 = .ok (.aload_n 1, 1) := by decide +kernel
theorem dL_law_522 : decode code 522 = .ok (.aload_n 0, 1) := by decide +kernel
theorem dL_law_523 : decode code 523 = .ok (.iload 4, 2) := by decide +kernel
theorem dL_law_525 : decode code 525 = .ok (.iconst 1, 1) := by decide +kernel
theorem dL_law_526 : decode code 526 = .ok (.iadd, 1) := by decide +kernel
theorem dL_law_527 : decode code 527 = .ok (.iaload, 1) := by decide +kernel
theorem dL_law_528 : decode code 528 = .ok (.aload_n 3, 1) := by decide +kernel
theorem dL_law_529 : decode code 529 = .ok (.invokestatic 130, 3) := by decide +kernel
theorem dL_law_532 : decode code 532 = .ok (.istore 5, 2) := by decide +kernel
theorem dL_law_534 : decode code 534 = .ok (.aload_n 2, 1) := by decide +kernel
theorem dL_law_535 : decode code 535 = .ok (.aload_n 0, 1) := by decide +kernel
theorem dL_law_536 : decode code 536 = .ok (.iload 4, 2) := by decide +kernel
theorem dL_law_538 : decode code 538 = .ok (.iconst 1, 1) := by decide +kernel
theorem dL_law_539 : decode code 539 = .ok (.iadd, 1) := by decide +kernel
theorem dL_law_540 : decode code 540 = .ok (.iaload, 1) := by decide +kernel
theorem dL_law_541 : decode code 541 = .ok (.invokevirtual 132, 3) := by decide +kernel
theorem dL_law_544 : decode code 544 = .ok (.istore 6, 2) := by decide +kernel
theorem dL_law_546 : decode code 546 = .ok (.aload_n 2, 1) := by decide +kernel
theorem dL_law_547 : decode code 547 = .ok (.invokevirtual 108, 3) := by decide +kernel
theorem dL_law_550 : decode code 550 = .ok (.iload 5, 2) := by decide +kernel
theorem dL_law_552 : decode code 552 = .ok (.if_icmp .eq 5, 3) := by decide +kernel
theorem dL_law_555 : decode code 555 = .ok (.iconst 0, 1) := by decide +kernel
theorem dL_law_557 : decode code 557 = .ok (.iload 5, 2) := by decide +kernel
theorem dL_law_559 : decode code 559 = .ok (.ifCond .ne 22, 3) := by decide +kernel
theorem dL_law_562 : decode code 562 = .ok (.aload_n 3, 1) := by decide +kernel
theorem dL_law_563 : decode code 563 = .ok (.iconst 0, 1) := by decide +kernel
theorem dL_law_564 : decode code 564 = .ok (.laload, 1) := by decide +kernel
theorem dL_law_565 : decode code 565 = .ok (.iload 6, 2) := by decide +kernel
theorem dL_law_567 : decode code 567 = .ok (.ifCond .eq 7, 3) := by decide +kernel
theorem dL_law_570 : decode code 570 = .ok (.lconst 1, 1) := by decide +kernel
theorem dL_law_571 : decode code 571 = .ok (.goto 4, 3) := by decide +kernel
theorem dL_law_574 : decode code 574 = .ok (.lconst 0, 1) := by decide +kernel
theorem dL_law_575 : decode code 575 = .ok (.lcmp, 1) := by decide +kernel
theorem dL_law_576 : decode code 576 = .ok (.ifCond .eq 5, 3) := by decide +kernel
theorem dL_law_579 : decode code 579 = .ok (.iconst 0, 1) := by decide +kernel
theorem dL_law_581 : decode code 581 = .ok (.goto 1192, 3) := by decide +kernel
theorem dL_law_584 : decode code 584 = .ok (.aload_n 1, 1) := by decide +kernel
theorem dL_law_585 : decode code 585 = .ok (.aload_n 3, 1) := by decide +kernel
theorem dL_law_586 : decode code 586 = .ok (.invokestatic 133, 3) := by decide +kernel
theorem dL_law_589 : decode code 589 = .ok (.istore 5, 2) := by decide +kernel
theorem dL_law_591 : decode code 591 = .ok (.aload_n 2, 1) := by decide +kernel
theorem dL_law_592 : decode code 592 = .ok (.invokevirtual 136, 3) := by decide +kernel
theorem dL_law_595 : decode code 595 = .ok (.istore 6, 2) := by decide +kernel
theorem dL_law_597 : decode code 597 = .ok (.aload_n 2, 1) := by decide +kernel
theorem dL_law_598 : decode code 598 = .ok (.invokevirtual 108, 3) := by decide +kernel
theorem dL_law_601 : decode code 601 = .ok (.iload 5, 2) := by decide +kernel
theorem dL_law_603 : decode code 603 = .ok (.if_icmp .eq 5, 3) := by decide +kernel
theorem dL_law_606 : decode code 606 = .ok (.iconst 0, 1) := by decide +kernel
theorem dL_law_608 : decode code 608 = .ok (.iload 5, 2) := by decide +kernel
theorem dL_law_610 : decode code 610 = .ok (.ifCond .ne 15, 3) := by decide +kernel
theorem dL_law_613 : decode code 613 = .ok (.aload_n 3, 1) := by decide +kernel
theorem dL_law_614 : decode code 614 = .ok (.iconst 0, 1) := by decide +kernel
theorem dL_law_615 : decode code 615 = .ok (.laload, 1) := by decide +kernel
theorem dL_law_616 : decode code 616 = .ok (.iload 6, 2) := by decide +kernel
theorem dL_law_618 : decode code 618 = .ok (.i2l, 1) := by decide +kernel
theorem dL_law_619 : decode code 619 = .ok (.lcmp, 1) := by decide +kernel
theorem dL_law_620 : decode code 620 = .ok (.ifCond .eq 5, 3) := by decide +kernel
theorem dL_law_623 : decode code 623 = .ok (.iconst 0, 1) := by decide +kernel
theorem dL_law_625 : decode code 625 = .ok (.goto 1148, 3) := by decide +kernel
theorem dL_law_628 : decode code 628 = .ok (.aload_n 1, 1) := by decide +kernel
theorem dL_law_629 : decode code 629 = .ok (.aload_n 3, 1) := by decide +kernel
theorem dL_law_630 : decode code 630 = .ok (.invokestatic 137, 3) := by decide +kernel
theorem dL_law_633 : decode code 633 = .ok (.istore 5, 2) := by decide +kernel
theorem dL_law_635 : decode code 635 = .ok (.aload_n 2, 1) := by decide +kernel
theorem dL_law_636 : decode code 636 = .ok (.invokevirtual 139, 3) := by decide +kernel
theorem dL_law_639 : decode code 639 = .ok (.istore 6, 2) := by decide +kernel
theorem dL_law_641 : decode code 641 = .ok (.aload_n 2, 1) := by decide +kernel
theorem dL_law_642 : decode code 642 = .ok (.invokevirtual 108, 3) := by decide +kernel
theorem dL_law_645 : decode code 645 = .ok (.iload 5, 2) := by decide +kernel
theorem dL_law_647 : decode code 647 = .ok (.if_icmp .eq 5, 3) := by decide +kernel
theorem dL_law_650 : decode code 650 = .ok (.iconst 0, 1) := by decide +kernel
theorem dL_law_652 : decode code 652 = .ok (.iload 5, 2) := by decide +kernel
theorem dL_law_654 : decode code 654 = .ok (.ifCond .ne 15, 3) := by decide +kernel
theorem dL_law_657 : decode code 657 = .ok (.aload_n 3, 1) := by decide +kernel
theorem dL_law_658 : decode code 658 = .ok (.iconst 0, 1) := by decide +kernel
theorem dL_law_659 : decode code 659 = .ok (.laload, 1) := by decide +kernel
theorem dL_law_660 : decode code 660 = .ok (.iload 6, 2) := by decide +kernel
theorem dL_law_662 : decode code 662 = .ok (.i2l, 1) := by decide +kernel
theorem dL_law_663 : decode code 663 = .ok (.lcmp, 1) := by decide +kernel
theorem dL_law_664 : decode code 664 = .ok (.ifCond .eq 5, 3) := by decide +kernel
theorem dL_law_667 : decode code 667 = .ok (.iconst 0, 1) := by decide +kernel
theorem dL_law_669 : decode code 669 = .ok (.goto 1104, 3) := by decide +kernel
theorem dL_law_672 : decode code 672 = .ok (.aload_n 1, 1) := by decide +kernel
theorem dL_law_673 : decode code 673 = .ok (.invokevirtual 140, 3) := by decide +kernel
theorem dL_law_676 : decode code 676 = .ok (.aload_n 2, 1) := by decide +kernel
theorem dL_law_677 : decode code 677 = .ok (.invokevirtual 143, 3) := by decide +kernel
theorem dL_law_680 : decode code 680 = .ok (.if_icmp .eq 1093, 3) := by decide +kernel
theorem dL_law_683 : decode code 683 = .ok (.iconst 0, 1) := by decide +kernel
theorem dL_law_685 : decode code 685 = .ok (.aload_n 1, 1) := by decide +kernel
theorem dL_law_686 : decode code 686 = .ok (.invokevirtual 144, 3) := by decide +kernel
theorem dL_law_689 : decode code 689 = .ok (.aload_n 2, 1) := by decide +kernel
theorem dL_law_690 : decode code 690 = .ok (.invokevirtual 147, 3) := by decide +kernel
theorem dL_law_693 : decode code 693 = .ok (.if_icmp .eq 1080, 3) := by decide +kernel
theorem dL_law_696 : decode code 696 = .ok (.iconst 0, 1) := by decide +kernel
def wp_law_c0 (zd : Nat) (xs : Nat → Int32) (L xo oo : Nat) (y4 : Int32) (f : FT) (n : Nat → Int32) (g : Nat → Nat → Int32) (bc bs : Nat) (C : Int32 × FT × (Nat → Int32) × (Nat → Nat → Int32) × Nat × Nat → Prop) : Prop :=
  vp_in (y4 + (1 : Int32)) L ∧ ∀ v_1 : Int32, v_1 = xs ((y4 + (1 : Int32))).toNatClampNeg → ∃ ga_4 gb_5 : Nat, ga_4 ≤ bc ∧ gb_5 ≤ bs ∧ wp_L_feed xo v_1 oo f ga_4 gb_5 (fun r_3 f_6 => vp_in (y4 + (1 : Int32)) L ∧ ∀ v_9 : Int32, v_9 = xs ((y4 + (1 : Int32))).toNatClampNeg → wp_X9_feed v_9 n g (fun r_11 n_12 g_13 => wp_X9_thrown  n_12 g_13 (fun r_14 => ((r_14 = r_3 → ((¬ r_3 = (0 : Int32) → C (y4, f_6, n_12, g_13, (bc - ga_4), (bs - gb_5))) ∧
 (r_3 = (0 : Int32) → aJ f_6 oo (0 : Int32) fun v_17 => (((lg_cmp v_17 (Int32.toInt64 r_11)) = (0 : Int32) → C (y4, f_6, n_12, g_13, (bc - ga_4), (bs - gb_5))) ∧
 (¬ ((lg_cmp v_17 (Int32.toInt64 r_11)) = (0 : Int32)) → False))))) ∧
 (¬ (r_14 = r_3) → False)))))
set_option maxHeartbeats 4000000 in
set_option maxRecDepth 100000 in
theorem law_c0 {p : Program} {l : Launch} {e : Env} {s : State} {m : MethodId} {below : List Frame} {meth : Method} {c : Code} {b L : Nat} {xs : Nat → Int32} (hlt : l.stackTraces = false) (C0 : lw_At p s m meth c b L xs) {G : GG} (hK : FK G s) (hZ : FZ G (fun q : Nat => s.heap.size ≤ q) s s.heap) (hX : FX9 G (fun q : Nat => s.heap.size ≤ q) s s.heap) (hXN : FXN s) {zd : Nat} (hzd : G.2.2 0 = zd) {xo mo oo : Nat} {ad : Nat → Nat} (had : MAd mo ad) {C : Int32 × FT × (Nat → Int32) × (Nat → Nat → Int32) × Nat × Nat → Prop} : ∀ (y4 : Int32) (f : FT) (n : Nat → Int32) (g : Nat → Nat → Int32) (bc bs : Nat) (H : Heap) (locs : List Loc) (ls : Array Slot) (cs sl : Nat), (∀ (y4 : Int32) (f : FT) (n : Nat → Int32) (g : Nat → Nat → Int32) (bc bs : Nat) (H : Heap) (locs : List Loc) (ls : Array Slot) (cs sl : Nat), C (y4, f, n, g, bc, bs) → cs + bc ≤ 601024 → sl + bs ≤ 7293034 → Fw G (fun q : Nat => s.heap.size ≤ q) f H → Fw G (fun q : Nat => s.heap.size ≤ q) (mf mo ad n g) H → dj f (mf mo ad n g) → va_S (fun q : Nat => s.heap.size ≤ q) s.heap H locs → lv_has ls 7 [(0, .ref b), (1, .ref xo), (2, .ref mo), (3, .ref oo), (4, .int y4)] → W p l e room_1 s m #[Value.ref b] below meth c H locs cs sl (lw_Z below #[Value.ref b] s) (F0 m 1773 ls [])) → wp_law_c0 zd xs L xo oo y4 f n g bc bs C → cs + bc ≤ 601024 → sl + bs ≤ 7293034 → Fw G (fun q : Nat => s.heap.size ≤ q) f H → Fw G (fun q : Nat => s.heap.size ≤ q) (mf mo ad n g) H → dj f (mf mo ad n g) → va_S (fun q : Nat => s.heap.size ≤ q) s.heap H locs → lv_has ls 7 [(0, .ref b), (1, .ref xo), (2, .ref mo), (3, .ref oo), (4, .int y4)] → W p l e room_1 s m #[Value.ref b] below meth c H locs cs sl (lw_Z below #[Value.ref b] s) (F0 m 184 ls []) := by
  obtain ⟨hx, hb, hr, hml, hown, hts0, hXs, hbl, hlocks, hgv⟩ := id C0
  have hts : ∀ w ∈ wsL_law, w.before #[Value.ref b] s = true := fun w h => hts0 w (wsL_law_in w h)
  have hA : ∀ q : Nat, s.heap.size ≤ q → (fun q : Nat => s.heap.size ≤ q) q := fun _ h => h
  have hbA : ¬ (fun q : Nat => s.heap.size ≤ q) b := Nat.not_le.mpr hbl
  intro y4 f n g bc bs H locs ls cs sl hC h hbc hbs hF hF2 hd hS hl
  unfold wp_law_c0 at h
  refine lv_aload_n hx hb dL_law_184 rfl (lv_at hl 1 rfl) ?_
  refine lv_aload_n hx hb dL_law_185 rfl (lv_at hl 0 rfl) ?_
  refine lv_iload hx hb dL_law_186 (lv_at hl 4 rfl) ?_
  refine lv_iconst (v := (1 : Int32)) hx hb dL_law_188 (by decide) ?_
  refine lv_iadd hx hb dL_law_189 ?_
  obtain ⟨hi_i_2, h⟩ := h
  refine va_sld hx hb hXs hbl hbA hS hi_i_2 dL_law_190 ?_
  refine lv_topi (fun v_1 e_v_1 => ?_)
  have h := h v_1 e_v_1
  refine lv_aload_n hx hb dL_law_191 rfl (lv_at hl 3 rfl) ?_
  obtain ⟨ga_4, gb_5, hga_ga_4, hgb_ga_4, h⟩ := h
  refine fl_cSX_i (As := [.ref xo, .int v_1, .ref oo]) (rest := []) ⟨hx, hb, hml, hown, hts⟩ (cc_L_feed l G hlt h) (cwSX 3 hts ggL_law_L_feed rfl rfl rfl (hts0 (.initialized RL) (List.mem_of_getElem? (i := 58) (by decide +kernel))) (hts0 (.methodLink RL 102 yL_feed) (List.mem_of_getElem? (i := 620) (by decide +kernel))) (hts0 (.static yL_feed) (List.mem_of_getElem? (i := 621) (by decide +kernel))) (by decide +kernel) ⟨Nat.le_of_ble_eq_true rfl, Nat.le_of_ble_eq_true rfl⟩) hK hZ hX hXN hF hF2 hd hS hA rfl hl.1 rfl (Nat.le_of_ble_eq_true rfl) dL_law_192 ⟨by show _ ≤ 601024; omega, by show _ ≤ 7293034; omega⟩ (fun r_3 f_6 H locs h hF hF2 hd hS => ?_)
  obtain ⟨cs_7, hcs⟩ : ∃ z, z = (cs + ga_4) := ⟨_, rfl⟩; obtain ⟨sl_8, hsl⟩ : ∃ z, z = (sl + gb_5) := ⟨_, rfl⟩
  have hbc : cs_7 + (bc - ga_4) ≤ 601024 := by omega
  have hbs : sl_8 + (bs - gb_5) ≤ 7293034 := by omega
  refine W.widen (k := cs_7) (n := sl_8) (by omega) (by omega) ?_
  clear hcs hsl
  refine lv_istore (lv' := [(5, .int r_3), (0, .ref b), (1, .ref xo), (2, .ref mo), (3, .ref oo), (4, .int y4)]) hx hb dL_law_195 hl (by decide) rfl (fun ls hl => ?_)
  refine lv_aload_n hx hb dL_law_197 rfl (lv_at hl 3 rfl) ?_
  refine lv_aload_n hx hb dL_law_198 rfl (lv_at hl 1 rfl) ?_
  refine lv_iload hx hb dL_law_199 (lv_at hl 5 rfl) ?_
  refine lv_iconst (v := (1 : Int32)) hx hb dL_law_201 (by decide) ?_
  refine lv_iadd hx hb dL_law_202 ?_
  obtain ⟨hi_i_10, h⟩ := h
  refine va_sld hx hb hXs hbl hbA hS hi_i_10 dL_law_203 ?_
  refine lv_topi (fun v_9 e_v_9 => ?_)
  have h := h v_9 e_v_9
  refine fl_cV_i (As := [.int v_9]) (rest := []) ⟨hx, hb, hml, hown, hts⟩ (cc_X9_feed l G had h) (⟨callB_of 1 hts ggL_law_X9_feed rfl rfl rfl (hts0 (.initialized RX9) (List.mem_of_getElem? (i := 77) (by decide +kernel))) (hts0 (.methodLink RL 107 yX9_feed) (List.mem_of_getElem? (i := 1469) (by decide +kernel))) (by decide +kernel) ⟨Nat.le_of_ble_eq_true rfl, Nat.le_of_ble_eq_true rfl⟩, (hts0 (.instanceMethod yX9_feed) (List.mem_of_getElem? (i := 1470) (by decide +kernel))), (hts0 (.selects RX9 yX9_feed yX9_feed) (List.mem_of_getElem? (i := 1471) (by decide +kernel)))⟩) rfl mf_obj hK hZ hF2 hF hd.symm hS hA rfl hl.1 rfl (Nat.le_of_ble_eq_true rfl) dL_law_204 ⟨by show _ + 0 ≤ 601024; omega, by show _ + 0 ≤ 7293034; omega⟩ (fun r_11 f9 H locs h hF2 hF hd hS => ?_)
  have hd := hd.symm
  obtain ⟨n_12, g_13, rfl, h⟩ := h
  simp only [Nat.add_zero]
  refine lv_istore (lv' := [(6, .int r_11), (5, .int r_3), (0, .ref b), (1, .ref xo), (2, .ref mo), (3, .ref oo), (4, .int y4)]) hx hb dL_law_207 hl (by decide) rfl (fun ls hl => ?_)
  refine lv_aload_n hx hb dL_law_209 rfl (lv_at hl 4 rfl) ?_
  refine fl_cV_i (As := []) (rest := []) ⟨hx, hb, hml, hown, hts⟩ (cc_X9_thrown l G had h) (⟨callB_of 0 hts ggL_law_X9_thrown rfl rfl rfl (hts0 (.initialized RX9) (List.mem_of_getElem? (i := 77) (by decide +kernel))) (hts0 (.methodLink RL 108 yX9_thrown) (List.mem_of_getElem? (i := 1465) (by decide +kernel))) (by decide +kernel) ⟨Nat.le_of_ble_eq_true rfl, Nat.le_of_ble_eq_true rfl⟩, (hts0 (.instanceMethod yX9_thrown) (List.mem_of_getElem? (i := 1466) (by decide +kernel))), (hts0 (.selects RX9 yX9_thrown yX9_thrown) (List.mem_of_getElem? (i := 1467) (by decide +kernel)))⟩) rfl mf_obj hK hZ hF2 hF hd.symm hS hA rfl hl.1 rfl (Nat.le_of_ble_eq_true rfl) dL_law_210 ⟨by show _ + 0 ≤ 601024; omega, by show _ + 0 ≤ 7293034; omega⟩ (fun r_14 f9 H locs h hF2 hF hd hS => ?_)
  have hd := hd.symm
  obtain ⟨h, e9⟩ := h; rw [e9] at hF2 hd; clear e9
  simp only [Nat.add_zero]
  refine lv_iload hx hb dL_law_213 (lv_at hl 1 rfl) ?_
  obtain ⟨h1, h2⟩ := h
  refine lv_icmp_eq (tgt := 220) hx hb dL_law_215 (by decide) (fun c_15 => ?_) (fun c_15 => ?_)
  · have h := h1 c_15
    refine lv_iload hx hb dL_law_220 (lv_at hl 1 rfl) ?_
    obtain ⟨h1, h2⟩ := h
    refine lv_if_ne (tgt := 237) hx hb dL_law_222 (by decide) (fun c_16 => ?_) (fun c_16 => ?_)
    · have h := h1 c_16
      refine lv_goto (tgt := 1773) hx hb dL_law_237 (by decide) ?_
      exact hC y4 f_6 n_12 g_13 (bc - ga_4) (bs - gb_5) _ _ _ _ _ h hbc hbs hF hF2 hd hS (lv_sub hl [2, 3, 4, 5, 6] rfl)
    · have h := h2 c_16
      refine lv_aload_n hx hb dL_law_225 rfl (lv_at hl 5 rfl) ?_
      refine lv_iconst (v := (0 : Int32)) hx hb dL_law_226 (by decide) ?_
      obtain ⟨n_q_18, q_18, he_q_18, hi_q_18, h⟩ := h
      refine fw_lald hx hb hK hF he_q_18 hi_q_18 dL_law_227 ?_
      refine lv_topl (fun v_17 e_v_17 => ?_)
      have h := h v_17 e_v_17
      refine lv_iload hx hb dL_law_228 (lv_at hl 0 rfl) ?_
      refine lv_i2l (v := (Int32.toInt64 r_11)) hx hb dL_law_230 rfl ?_
      refine W.lcmp hx hb dL_law_231 ?_
      obtain ⟨h1, h2⟩ := h
      refine lv_if_eq (tgt := 237) hx hb dL_law_232 (by decide) (fun c_20 => ?_) (fun c_20 => ?_)
      · have h := h1 c_20
        refine lv_goto (tgt := 1773) hx hb dL_law_237 (by decide) ?_
        exact hC y4 f_6 n_12 g_13 (bc - ga_4) (bs - gb_5) _ _ _ _ _ h hbc hbs hF hF2 hd hS (lv_sub hl [2, 3, 4, 5, 6] rfl)
      · have h := h2 c_20
        refine lv_iconst (v := (0 : Int32)) hx hb dL_law_235 (by decide) ?_
        exact h.elim
  · have h := h2 c_15
    refine lv_iconst (v := (0 : Int32)) hx hb dL_law_218 (by decide) ?_
    exact h.elim
def wp_law_c1 (zd : Nat) (xs : Nat → Int32) (L xo oo : Nat) (y4 : Int32) (f : FT) (n : Nat → Int32) (g : Nat → Nat → Int32) (bc bs : Nat) (C : Int32 × FT × (Nat → Int32) × (Nat → Nat → Int32) × Nat × Nat → Prop) : Prop :=
  vp_in (y4 + (1 : Int32)) L ∧ ∀ v_1 : Int32, v_1 = xs ((y4 + (1 : Int32))).toNatClampNeg → vp_in (y4 + (2 : Int32)) L ∧ ∀ v_3 : Int32, v_3 = xs ((y4 + (2 : Int32))).toNatClampNeg → vp_in (y4 + (3 : Int32)) L ∧ ∀ v_5 : Int32, v_5 = xs ((y4 + (3 : Int32))).toNatClampNeg → ∃ ga_8 gb_9 : Nat, ga_8 ≤ bc ∧ gb_9 ≤ bs ∧ wp_L_setKey xo (((Int32.toInt64 v_1) <<< ((32 : Int32).toInt64 &&& 63)) ||| ((Int32.toInt64 v_3) &&& (4294967295 : Int64))) v_5 oo f ga_8 gb_9 (fun r_7 f_10 => vp_in (y4 + (1 : Int32)) L ∧ ∀ v_13 : Int32, v_13 = xs ((y4 + (1 : Int32))).toNatClampNeg → vp_in (y4 + (2 : Int32)) L ∧ ∀ v_15 : Int32, v_15 = xs ((y4 + (2 : Int32))).toNatClampNeg → vp_in (y4 + (3 : Int32)) L ∧ ∀ v_17 : Int32, v_17 = xs ((y4 + (3 : Int32))).toNatClampNeg → wp_X9_setKey (((Int32.toInt64 v_13) <<< ((32 : Int32).toInt64 &&& 63)) ||| ((Int32.toInt64 v_15) &&& (4294967295 : Int64))) v_17 n g (fun r_19 n_20 g_21 => wp_X9_thrown  n_20 g_21 (fun r_22 => ((r_22 = r_7 → ((¬ r_7 = (0 : Int32) → C (y4, f_10, n_20, g_21, (bc - ga_8), (bs - gb_9))) ∧
 (r_7 = (0 : Int32) → aJ f_10 oo (0 : Int32) fun v_25 => (((lg_cmp v_25 (Int32.toInt64 r_19)) = (0 : Int32) → C (y4, f_10, n_20, g_21, (bc - ga_8), (bs - gb_9))) ∧
 (¬ ((lg_cmp v_25 (Int32.toInt64 r_19)) = (0 : Int32)) → False))))) ∧
 (¬ (r_22 = r_7) → False)))))
set_option maxHeartbeats 4000000 in
set_option maxRecDepth 100000 in
theorem law_c1 {p : Program} {l : Launch} {e : Env} {s : State} {m : MethodId} {below : List Frame} {meth : Method} {c : Code} {b L : Nat} {xs : Nat → Int32} (hlt : l.stackTraces = false) (C0 : lw_At p s m meth c b L xs) {G : GG} (hK : FK G s) (hZ : FZ G (fun q : Nat => s.heap.size ≤ q) s s.heap) (hX : FX9 G (fun q : Nat => s.heap.size ≤ q) s s.heap) (hXN : FXN s) {zd : Nat} (hzd : G.2.2 0 = zd) {xo mo oo : Nat} {ad : Nat → Nat} (had : MAd mo ad) {C : Int32 × FT × (Nat → Int32) × (Nat → Nat → Int32) × Nat × Nat → Prop} : ∀ (y4 : Int32) (f : FT) (n : Nat → Int32) (g : Nat → Nat → Int32) (bc bs : Nat) (H : Heap) (locs : List Loc) (ls : Array Slot) (cs sl : Nat), (∀ (y4 : Int32) (f : FT) (n : Nat → Int32) (g : Nat → Nat → Int32) (bc bs : Nat) (H : Heap) (locs : List Loc) (ls : Array Slot) (cs sl : Nat), C (y4, f, n, g, bc, bs) → cs + bc ≤ 601024 → sl + bs ≤ 7293034 → Fw G (fun q : Nat => s.heap.size ≤ q) f H → Fw G (fun q : Nat => s.heap.size ≤ q) (mf mo ad n g) H → dj f (mf mo ad n g) → va_S (fun q : Nat => s.heap.size ≤ q) s.heap H locs → lv_has ls 7 [(0, .ref b), (1, .ref xo), (2, .ref mo), (3, .ref oo), (4, .int y4)] → W p l e room_1 s m #[Value.ref b] below meth c H locs cs sl (lw_Z below #[Value.ref b] s) (F0 m 1773 ls [])) → wp_law_c1 zd xs L xo oo y4 f n g bc bs C → cs + bc ≤ 601024 → sl + bs ≤ 7293034 → Fw G (fun q : Nat => s.heap.size ≤ q) f H → Fw G (fun q : Nat => s.heap.size ≤ q) (mf mo ad n g) H → dj f (mf mo ad n g) → va_S (fun q : Nat => s.heap.size ≤ q) s.heap H locs → lv_has ls 7 [(0, .ref b), (1, .ref xo), (2, .ref mo), (3, .ref oo), (4, .int y4)] → W p l e room_1 s m #[Value.ref b] below meth c H locs cs sl (lw_Z below #[Value.ref b] s) (F0 m 240 ls []) := by
  obtain ⟨hx, hb, hr, hml, hown, hts0, hXs, hbl, hlocks, hgv⟩ := id C0
  have hts : ∀ w ∈ wsL_law, w.before #[Value.ref b] s = true := fun w h => hts0 w (wsL_law_in w h)
  have hA : ∀ q : Nat, s.heap.size ≤ q → (fun q : Nat => s.heap.size ≤ q) q := fun _ h => h
  have hbA : ¬ (fun q : Nat => s.heap.size ≤ q) b := Nat.not_le.mpr hbl
  intro y4 f n g bc bs H locs ls cs sl hC h hbc hbs hF hF2 hd hS hl
  unfold wp_law_c1 at h
  refine lv_aload_n hx hb dL_law_240 rfl (lv_at hl 1 rfl) ?_
  refine lv_aload_n hx hb dL_law_241 rfl (lv_at hl 0 rfl) ?_
  refine lv_iload hx hb dL_law_242 (lv_at hl 4 rfl) ?_
  refine lv_iconst (v := (1 : Int32)) hx hb dL_law_244 (by decide) ?_
  refine lv_iadd hx hb dL_law_245 ?_
  obtain ⟨hi_i_2, h⟩ := h
  refine va_sld hx hb hXs hbl hbA hS hi_i_2 dL_law_246 ?_
  refine lv_topi (fun v_1 e_v_1 => ?_)
  have h := h v_1 e_v_1
  refine lv_i2l (v := (Int32.toInt64 v_1)) hx hb dL_law_247 rfl ?_
  refine lv_bipush (v := (32 : Int32)) hx hb dL_law_248 (by decide) ?_
  refine lv_lshl (v := ((Int32.toInt64 v_1) <<< ((32 : Int32).toInt64 &&& 63))) hx hb dL_law_250 rfl ?_
  refine lv_aload_n hx hb dL_law_251 rfl (lv_at hl 0 rfl) ?_
  refine lv_iload hx hb dL_law_252 (lv_at hl 4 rfl) ?_
  refine lv_iconst (v := (2 : Int32)) hx hb dL_law_254 (by decide) ?_
  refine lv_iadd hx hb dL_law_255 ?_
  obtain ⟨hi_i_4, h⟩ := h
  refine va_sld hx hb hXs hbl hbA hS hi_i_4 dL_law_256 ?_
  refine lv_topi (fun v_3 e_v_3 => ?_)
  have h := h v_3 e_v_3
  refine lv_i2l (v := (Int32.toInt64 v_3)) hx hb dL_law_257 rfl ?_
  refine lv_ldc2 hx hb hown (hts0 (.constantLong RL 111 (4294967295 : Int64)) (List.mem_of_getElem? (i := 1767) (by decide +kernel))) dL_law_258 ?_
  refine lv_land hx hb dL_law_261 ?_
  refine lv_lor hx hb dL_law_262 ?_
  refine lv_aload_n hx hb dL_law_263 rfl (lv_at hl 0 rfl) ?_
  refine lv_iload hx hb dL_law_264 (lv_at hl 4 rfl) ?_
  refine lv_iconst (v := (3 : Int32)) hx hb dL_law_266 (by decide) ?_
  refine lv_iadd hx hb dL_law_267 ?_
  obtain ⟨hi_i_6, h⟩ := h
  refine va_sld hx hb hXs hbl hbA hS hi_i_6 dL_law_268 ?_
  refine lv_topi (fun v_5 e_v_5 => ?_)
  have h := h v_5 e_v_5
  refine lv_aload_n hx hb dL_law_269 rfl (lv_at hl 3 rfl) ?_
  obtain ⟨ga_8, gb_9, hga_ga_8, hgb_ga_8, h⟩ := h
  refine fl_cSX_i (As := [.ref xo, .long (((Int32.toInt64 v_1) <<< ((32 : Int32).toInt64 &&& 63)) ||| ((Int32.toInt64 v_3) &&& (4294967295 : Int64))), .int v_5, .ref oo]) (rest := []) ⟨hx, hb, hml, hown, hts⟩ (cc_L_setKey l G hlt h) (cwSX 4 hts ggL_law_L_setKey rfl rfl rfl (hts0 (.initialized RL) (List.mem_of_getElem? (i := 58) (by decide +kernel))) (hts0 (.methodLink RL 113 yL_setKey) (List.mem_of_getElem? (i := 727) (by decide +kernel))) (hts0 (.static yL_setKey) (List.mem_of_getElem? (i := 728) (by decide +kernel))) (by decide +kernel) ⟨Nat.le_of_ble_eq_true rfl, Nat.le_of_ble_eq_true rfl⟩) hK hZ hX hXN hF hF2 hd hS hA rfl hl.1 rfl (Nat.le_of_ble_eq_true rfl) dL_law_270 ⟨by show _ ≤ 601024; omega, by show _ ≤ 7293034; omega⟩ (fun r_7 f_10 H locs h hF hF2 hd hS => ?_)
  obtain ⟨cs_11, hcs⟩ : ∃ z, z = (cs + ga_8) := ⟨_, rfl⟩; obtain ⟨sl_12, hsl⟩ : ∃ z, z = (sl + gb_9) := ⟨_, rfl⟩
  have hbc : cs_11 + (bc - ga_8) ≤ 601024 := by omega
  have hbs : sl_12 + (bs - gb_9) ≤ 7293034 := by omega
  refine W.widen (k := cs_11) (n := sl_12) (by omega) (by omega) ?_
  clear hcs hsl
  refine lv_istore (lv' := [(5, .int r_7), (0, .ref b), (1, .ref xo), (2, .ref mo), (3, .ref oo), (4, .int y4)]) hx hb dL_law_273 hl (by decide) rfl (fun ls hl => ?_)
  refine lv_aload_n hx hb dL_law_275 rfl (lv_at hl 3 rfl) ?_
  refine lv_aload_n hx hb dL_law_276 rfl (lv_at hl 1 rfl) ?_
  refine lv_iload hx hb dL_law_277 (lv_at hl 5 rfl) ?_
  refine lv_iconst (v := (1 : Int32)) hx hb dL_law_279 (by decide) ?_
  refine lv_iadd hx hb dL_law_280 ?_
  obtain ⟨hi_i_14, h⟩ := h
  refine va_sld hx hb hXs hbl hbA hS hi_i_14 dL_law_281 ?_
  refine lv_topi (fun v_13 e_v_13 => ?_)
  have h := h v_13 e_v_13
  refine lv_i2l (v := (Int32.toInt64 v_13)) hx hb dL_law_282 rfl ?_
  refine lv_bipush (v := (32 : Int32)) hx hb dL_law_283 (by decide) ?_
  refine lv_lshl (v := ((Int32.toInt64 v_13) <<< ((32 : Int32).toInt64 &&& 63))) hx hb dL_law_285 rfl ?_
  refine lv_aload_n hx hb dL_law_286 rfl (lv_at hl 1 rfl) ?_
  refine lv_iload hx hb dL_law_287 (lv_at hl 5 rfl) ?_
  refine lv_iconst (v := (2 : Int32)) hx hb dL_law_289 (by decide) ?_
  refine lv_iadd hx hb dL_law_290 ?_
  obtain ⟨hi_i_16, h⟩ := h
  refine va_sld hx hb hXs hbl hbA hS hi_i_16 dL_law_291 ?_
  refine lv_topi (fun v_15 e_v_15 => ?_)
  have h := h v_15 e_v_15
  refine lv_i2l (v := (Int32.toInt64 v_15)) hx hb dL_law_292 rfl ?_
  refine lv_ldc2 hx hb hown (hts0 (.constantLong RL 111 (4294967295 : Int64)) (List.mem_of_getElem? (i := 1767) (by decide +kernel))) dL_law_293 ?_
  refine lv_land hx hb dL_law_296 ?_
  refine lv_lor hx hb dL_law_297 ?_
  refine lv_aload_n hx hb dL_law_298 rfl (lv_at hl 1 rfl) ?_
  refine lv_iload hx hb dL_law_299 (lv_at hl 5 rfl) ?_
  refine lv_iconst (v := (3 : Int32)) hx hb dL_law_301 (by decide) ?_
  refine lv_iadd hx hb dL_law_302 ?_
  obtain ⟨hi_i_18, h⟩ := h
  refine va_sld hx hb hXs hbl hbA hS hi_i_18 dL_law_303 ?_
  refine lv_topi (fun v_17 e_v_17 => ?_)
  have h := h v_17 e_v_17
  refine fl_cV_i (As := [.long (((Int32.toInt64 v_13) <<< ((32 : Int32).toInt64 &&& 63)) ||| ((Int32.toInt64 v_15) &&& (4294967295 : Int64))), .int v_17]) (rest := []) ⟨hx, hb, hml, hown, hts⟩ (cc_X9_setKey l G had h) (⟨callB_of 2 hts ggL_law_X9_setKey rfl rfl rfl (hts0 (.initialized RX9) (List.mem_of_getElem? (i := 77) (by decide +kernel))) (hts0 (.methodLink RL 116 yX9_setKey) (List.mem_of_getElem? (i := 1484) (by decide +kernel))) (by decide +kernel) ⟨Nat.le_of_ble_eq_true rfl, Nat.le_of_ble_eq_true rfl⟩, (hts0 (.instanceMethod yX9_setKey) (List.mem_of_getElem? (i := 1485) (by decide +kernel))), (hts0 (.selects RX9 yX9_setKey yX9_setKey) (List.mem_of_getElem? (i := 1486) (by decide +kernel)))⟩) rfl mf_obj hK hZ hF2 hF hd.symm hS hA rfl hl.1 rfl (Nat.le_of_ble_eq_true rfl) dL_law_304 ⟨by show _ + 0 ≤ 601024; omega, by show _ + 0 ≤ 7293034; omega⟩ (fun r_19 f9 H locs h hF2 hF hd hS => ?_)
  have hd := hd.symm
  obtain ⟨n_20, g_21, rfl, h⟩ := h
  simp only [Nat.add_zero]
  refine lv_istore (lv' := [(6, .int r_19), (5, .int r_7), (0, .ref b), (1, .ref xo), (2, .ref mo), (3, .ref oo), (4, .int y4)]) hx hb dL_law_307 hl (by decide) rfl (fun ls hl => ?_)
  refine lv_aload_n hx hb dL_law_309 rfl (lv_at hl 4 rfl) ?_
  refine fl_cV_i (As := []) (rest := []) ⟨hx, hb, hml, hown, hts⟩ (cc_X9_thrown l G had h) (⟨callB_of 0 hts ggL_law_X9_thrown rfl rfl rfl (hts0 (.initialized RX9) (List.mem_of_getElem? (i := 77) (by decide +kernel))) (hts0 (.methodLink RL 108 yX9_thrown) (List.mem_of_getElem? (i := 1465) (by decide +kernel))) (by decide +kernel) ⟨Nat.le_of_ble_eq_true rfl, Nat.le_of_ble_eq_true rfl⟩, (hts0 (.instanceMethod yX9_thrown) (List.mem_of_getElem? (i := 1466) (by decide +kernel))), (hts0 (.selects RX9 yX9_thrown yX9_thrown) (List.mem_of_getElem? (i := 1467) (by decide +kernel)))⟩) rfl mf_obj hK hZ hF2 hF hd.symm hS hA rfl hl.1 rfl (Nat.le_of_ble_eq_true rfl) dL_law_310 ⟨by show _ + 0 ≤ 601024; omega, by show _ + 0 ≤ 7293034; omega⟩ (fun r_22 f9 H locs h hF2 hF hd hS => ?_)
  have hd := hd.symm
  obtain ⟨h, e9⟩ := h; rw [e9] at hF2 hd; clear e9
  simp only [Nat.add_zero]
  refine lv_iload hx hb dL_law_313 (lv_at hl 1 rfl) ?_
  obtain ⟨h1, h2⟩ := h
  refine lv_icmp_eq (tgt := 320) hx hb dL_law_315 (by decide) (fun c_23 => ?_) (fun c_23 => ?_)
  · have h := h1 c_23
    refine lv_iload hx hb dL_law_320 (lv_at hl 1 rfl) ?_
    obtain ⟨h1, h2⟩ := h
    refine lv_if_ne (tgt := 337) hx hb dL_law_322 (by decide) (fun c_24 => ?_) (fun c_24 => ?_)
    · have h := h1 c_24
      refine lv_goto (tgt := 1773) hx hb dL_law_337 (by decide) ?_
      exact hC y4 f_10 n_20 g_21 (bc - ga_8) (bs - gb_9) _ _ _ _ _ h hbc hbs hF hF2 hd hS (lv_sub hl [2, 3, 4, 5, 6] rfl)
    · have h := h2 c_24
      refine lv_aload_n hx hb dL_law_325 rfl (lv_at hl 5 rfl) ?_
      refine lv_iconst (v := (0 : Int32)) hx hb dL_law_326 (by decide) ?_
      obtain ⟨n_q_26, q_26, he_q_26, hi_q_26, h⟩ := h
      refine fw_lald hx hb hK hF he_q_26 hi_q_26 dL_law_327 ?_
      refine lv_topl (fun v_25 e_v_25 => ?_)
      have h := h v_25 e_v_25
      refine lv_iload hx hb dL_law_328 (lv_at hl 0 rfl) ?_
      refine lv_i2l (v := (Int32.toInt64 r_19)) hx hb dL_law_330 rfl ?_
      refine W.lcmp hx hb dL_law_331 ?_
      obtain ⟨h1, h2⟩ := h
      refine lv_if_eq (tgt := 337) hx hb dL_law_332 (by decide) (fun c_28 => ?_) (fun c_28 => ?_)
      · have h := h1 c_28
        refine lv_goto (tgt := 1773) hx hb dL_law_337 (by decide) ?_
        exact hC y4 f_10 n_20 g_21 (bc - ga_8) (bs - gb_9) _ _ _ _ _ h hbc hbs hF hF2 hd hS (lv_sub hl [2, 3, 4, 5, 6] rfl)
      · have h := h2 c_28
        refine lv_iconst (v := (0 : Int32)) hx hb dL_law_335 (by decide) ?_
        exact h.elim
  · have h := h2 c_23
    refine lv_iconst (v := (0 : Int32)) hx hb dL_law_318 (by decide) ?_
    exact h.elim
def wp_law_c2 (zd : Nat) (xs : Nat → Int32) (L xo oo : Nat) (y4 : Int32) (f : FT) (n : Nat → Int32) (g : Nat → Nat → Int32) (bc bs : Nat) (C : Int32 × FT × (Nat → Int32) × (Nat → Nat → Int32) × Nat × Nat → Prop) : Prop :=
  vp_in (y4 + (1 : Int32)) L ∧ ∀ v_1 : Int32, v_1 = xs ((y4 + (1 : Int32))).toNatClampNeg → ∃ ga_4 gb_5 : Nat, ga_4 ≤ bc ∧ gb_5 ≤ bs ∧ wp_L_cutKey xo v_1 oo f ga_4 gb_5 (fun r_3 f_6 => vp_in (y4 + (1 : Int32)) L ∧ ∀ v_9 : Int32, v_9 = xs ((y4 + (1 : Int32))).toNatClampNeg → wp_X9_cutKey v_9 n g (fun r_11 n_12 g_13 => wp_X9_thrown  n_12 g_13 (fun r_14 => ((r_14 = r_3 → ((¬ r_3 = (0 : Int32) → C (y4, f_6, n_12, g_13, (bc - ga_4), (bs - gb_5))) ∧
 (r_3 = (0 : Int32) → aJ f_6 oo (0 : Int32) fun v_17 => (((lg_cmp v_17 (Int32.toInt64 r_11)) = (0 : Int32) → C (y4, f_6, n_12, g_13, (bc - ga_4), (bs - gb_5))) ∧
 (¬ ((lg_cmp v_17 (Int32.toInt64 r_11)) = (0 : Int32)) → False))))) ∧
 (¬ (r_14 = r_3) → False)))))
set_option maxHeartbeats 4000000 in
set_option maxRecDepth 100000 in
theorem law_c2 {p : Program} {l : Launch} {e : Env} {s : State} {m : MethodId} {below : List Frame} {meth : Method} {c : Code} {b L : Nat} {xs : Nat → Int32} (hlt : l.stackTraces = false) (C0 : lw_At p s m meth c b L xs) {G : GG} (hK : FK G s) (hZ : FZ G (fun q : Nat => s.heap.size ≤ q) s s.heap) (hX : FX9 G (fun q : Nat => s.heap.size ≤ q) s s.heap) (hXN : FXN s) {zd : Nat} (hzd : G.2.2 0 = zd) {xo mo oo : Nat} {ad : Nat → Nat} (had : MAd mo ad) {C : Int32 × FT × (Nat → Int32) × (Nat → Nat → Int32) × Nat × Nat → Prop} : ∀ (y4 : Int32) (f : FT) (n : Nat → Int32) (g : Nat → Nat → Int32) (bc bs : Nat) (H : Heap) (locs : List Loc) (ls : Array Slot) (cs sl : Nat), (∀ (y4 : Int32) (f : FT) (n : Nat → Int32) (g : Nat → Nat → Int32) (bc bs : Nat) (H : Heap) (locs : List Loc) (ls : Array Slot) (cs sl : Nat), C (y4, f, n, g, bc, bs) → cs + bc ≤ 601024 → sl + bs ≤ 7293034 → Fw G (fun q : Nat => s.heap.size ≤ q) f H → Fw G (fun q : Nat => s.heap.size ≤ q) (mf mo ad n g) H → dj f (mf mo ad n g) → va_S (fun q : Nat => s.heap.size ≤ q) s.heap H locs → lv_has ls 7 [(0, .ref b), (1, .ref xo), (2, .ref mo), (3, .ref oo), (4, .int y4)] → W p l e room_1 s m #[Value.ref b] below meth c H locs cs sl (lw_Z below #[Value.ref b] s) (F0 m 1773 ls [])) → wp_law_c2 zd xs L xo oo y4 f n g bc bs C → cs + bc ≤ 601024 → sl + bs ≤ 7293034 → Fw G (fun q : Nat => s.heap.size ≤ q) f H → Fw G (fun q : Nat => s.heap.size ≤ q) (mf mo ad n g) H → dj f (mf mo ad n g) → va_S (fun q : Nat => s.heap.size ≤ q) s.heap H locs → lv_has ls 7 [(0, .ref b), (1, .ref xo), (2, .ref mo), (3, .ref oo), (4, .int y4)] → W p l e room_1 s m #[Value.ref b] below meth c H locs cs sl (lw_Z below #[Value.ref b] s) (F0 m 340 ls []) := by
  obtain ⟨hx, hb, hr, hml, hown, hts0, hXs, hbl, hlocks, hgv⟩ := id C0
  have hts : ∀ w ∈ wsL_law, w.before #[Value.ref b] s = true := fun w h => hts0 w (wsL_law_in w h)
  have hA : ∀ q : Nat, s.heap.size ≤ q → (fun q : Nat => s.heap.size ≤ q) q := fun _ h => h
  have hbA : ¬ (fun q : Nat => s.heap.size ≤ q) b := Nat.not_le.mpr hbl
  intro y4 f n g bc bs H locs ls cs sl hC h hbc hbs hF hF2 hd hS hl
  unfold wp_law_c2 at h
  refine lv_aload_n hx hb dL_law_340 rfl (lv_at hl 1 rfl) ?_
  refine lv_aload_n hx hb dL_law_341 rfl (lv_at hl 0 rfl) ?_
  refine lv_iload hx hb dL_law_342 (lv_at hl 4 rfl) ?_
  refine lv_iconst (v := (1 : Int32)) hx hb dL_law_344 (by decide) ?_
  refine lv_iadd hx hb dL_law_345 ?_
  obtain ⟨hi_i_2, h⟩ := h
  refine va_sld hx hb hXs hbl hbA hS hi_i_2 dL_law_346 ?_
  refine lv_topi (fun v_1 e_v_1 => ?_)
  have h := h v_1 e_v_1
  refine lv_aload_n hx hb dL_law_347 rfl (lv_at hl 3 rfl) ?_
  obtain ⟨ga_4, gb_5, hga_ga_4, hgb_ga_4, h⟩ := h
  refine fl_cSX_i (As := [.ref xo, .int v_1, .ref oo]) (rest := []) ⟨hx, hb, hml, hown, hts⟩ (cc_L_cutKey l G hlt h) (cwSX 3 hts ggL_law_L_cutKey rfl rfl rfl (hts0 (.initialized RL) (List.mem_of_getElem? (i := 58) (by decide +kernel))) (hts0 (.methodLink RL 117 yL_cutKey) (List.mem_of_getElem? (i := 736) (by decide +kernel))) (hts0 (.static yL_cutKey) (List.mem_of_getElem? (i := 737) (by decide +kernel))) (by decide +kernel) ⟨Nat.le_of_ble_eq_true rfl, Nat.le_of_ble_eq_true rfl⟩) hK hZ hX hXN hF hF2 hd hS hA rfl hl.1 rfl (Nat.le_of_ble_eq_true rfl) dL_law_348 ⟨by show _ ≤ 601024; omega, by show _ ≤ 7293034; omega⟩ (fun r_3 f_6 H locs h hF hF2 hd hS => ?_)
  obtain ⟨cs_7, hcs⟩ : ∃ z, z = (cs + ga_4) := ⟨_, rfl⟩; obtain ⟨sl_8, hsl⟩ : ∃ z, z = (sl + gb_5) := ⟨_, rfl⟩
  have hbc : cs_7 + (bc - ga_4) ≤ 601024 := by omega
  have hbs : sl_8 + (bs - gb_5) ≤ 7293034 := by omega
  refine W.widen (k := cs_7) (n := sl_8) (by omega) (by omega) ?_
  clear hcs hsl
  refine lv_istore (lv' := [(5, .int r_3), (0, .ref b), (1, .ref xo), (2, .ref mo), (3, .ref oo), (4, .int y4)]) hx hb dL_law_351 hl (by decide) rfl (fun ls hl => ?_)
  refine lv_aload_n hx hb dL_law_353 rfl (lv_at hl 3 rfl) ?_
  refine lv_aload_n hx hb dL_law_354 rfl (lv_at hl 1 rfl) ?_
  refine lv_iload hx hb dL_law_355 (lv_at hl 5 rfl) ?_
  refine lv_iconst (v := (1 : Int32)) hx hb dL_law_357 (by decide) ?_
  refine lv_iadd hx hb dL_law_358 ?_
  obtain ⟨hi_i_10, h⟩ := h
  refine va_sld hx hb hXs hbl hbA hS hi_i_10 dL_law_359 ?_
  refine lv_topi (fun v_9 e_v_9 => ?_)
  have h := h v_9 e_v_9
  refine fl_cV_i (As := [.int v_9]) (rest := []) ⟨hx, hb, hml, hown, hts⟩ (cc_X9_cutKey l G had h) (⟨callB_of 1 hts ggL_law_X9_cutKey rfl rfl rfl (hts0 (.initialized RX9) (List.mem_of_getElem? (i := 77) (by decide +kernel))) (hts0 (.methodLink RL 119 yX9_cutKey) (List.mem_of_getElem? (i := 1489) (by decide +kernel))) (by decide +kernel) ⟨Nat.le_of_ble_eq_true rfl, Nat.le_of_ble_eq_true rfl⟩, (hts0 (.instanceMethod yX9_cutKey) (List.mem_of_getElem? (i := 1490) (by decide +kernel))), (hts0 (.selects RX9 yX9_cutKey yX9_cutKey) (List.mem_of_getElem? (i := 1491) (by decide +kernel)))⟩) rfl mf_obj hK hZ hF2 hF hd.symm hS hA rfl hl.1 rfl (Nat.le_of_ble_eq_true rfl) dL_law_360 ⟨by show _ + 0 ≤ 601024; omega, by show _ + 0 ≤ 7293034; omega⟩ (fun r_11 f9 H locs h hF2 hF hd hS => ?_)
  have hd := hd.symm
  obtain ⟨n_12, g_13, rfl, h⟩ := h
  simp only [Nat.add_zero]
  refine lv_istore (lv' := [(6, .int r_11), (5, .int r_3), (0, .ref b), (1, .ref xo), (2, .ref mo), (3, .ref oo), (4, .int y4)]) hx hb dL_law_363 hl (by decide) rfl (fun ls hl => ?_)
  refine lv_aload_n hx hb dL_law_365 rfl (lv_at hl 4 rfl) ?_
  refine fl_cV_i (As := []) (rest := []) ⟨hx, hb, hml, hown, hts⟩ (cc_X9_thrown l G had h) (⟨callB_of 0 hts ggL_law_X9_thrown rfl rfl rfl (hts0 (.initialized RX9) (List.mem_of_getElem? (i := 77) (by decide +kernel))) (hts0 (.methodLink RL 108 yX9_thrown) (List.mem_of_getElem? (i := 1465) (by decide +kernel))) (by decide +kernel) ⟨Nat.le_of_ble_eq_true rfl, Nat.le_of_ble_eq_true rfl⟩, (hts0 (.instanceMethod yX9_thrown) (List.mem_of_getElem? (i := 1466) (by decide +kernel))), (hts0 (.selects RX9 yX9_thrown yX9_thrown) (List.mem_of_getElem? (i := 1467) (by decide +kernel)))⟩) rfl mf_obj hK hZ hF2 hF hd.symm hS hA rfl hl.1 rfl (Nat.le_of_ble_eq_true rfl) dL_law_366 ⟨by show _ + 0 ≤ 601024; omega, by show _ + 0 ≤ 7293034; omega⟩ (fun r_14 f9 H locs h hF2 hF hd hS => ?_)
  have hd := hd.symm
  obtain ⟨h, e9⟩ := h; rw [e9] at hF2 hd; clear e9
  simp only [Nat.add_zero]
  refine lv_iload hx hb dL_law_369 (lv_at hl 1 rfl) ?_
  obtain ⟨h1, h2⟩ := h
  refine lv_icmp_eq (tgt := 376) hx hb dL_law_371 (by decide) (fun c_15 => ?_) (fun c_15 => ?_)
  · have h := h1 c_15
    refine lv_iload hx hb dL_law_376 (lv_at hl 1 rfl) ?_
    obtain ⟨h1, h2⟩ := h
    refine lv_if_ne (tgt := 393) hx hb dL_law_378 (by decide) (fun c_16 => ?_) (fun c_16 => ?_)
    · have h := h1 c_16
      refine lv_goto (tgt := 1773) hx hb dL_law_393 (by decide) ?_
      exact hC y4 f_6 n_12 g_13 (bc - ga_4) (bs - gb_5) _ _ _ _ _ h hbc hbs hF hF2 hd hS (lv_sub hl [2, 3, 4, 5, 6] rfl)
    · have h := h2 c_16
      refine lv_aload_n hx hb dL_law_381 rfl (lv_at hl 5 rfl) ?_
      refine lv_iconst (v := (0 : Int32)) hx hb dL_law_382 (by decide) ?_
      obtain ⟨n_q_18, q_18, he_q_18, hi_q_18, h⟩ := h
      refine fw_lald hx hb hK hF he_q_18 hi_q_18 dL_law_383 ?_
      refine lv_topl (fun v_17 e_v_17 => ?_)
      have h := h v_17 e_v_17
      refine lv_iload hx hb dL_law_384 (lv_at hl 0 rfl) ?_
      refine lv_i2l (v := (Int32.toInt64 r_11)) hx hb dL_law_386 rfl ?_
      refine W.lcmp hx hb dL_law_387 ?_
      obtain ⟨h1, h2⟩ := h
      refine lv_if_eq (tgt := 393) hx hb dL_law_388 (by decide) (fun c_20 => ?_) (fun c_20 => ?_)
      · have h := h1 c_20
        refine lv_goto (tgt := 1773) hx hb dL_law_393 (by decide) ?_
        exact hC y4 f_6 n_12 g_13 (bc - ga_4) (bs - gb_5) _ _ _ _ _ h hbc hbs hF hF2 hd hS (lv_sub hl [2, 3, 4, 5, 6] rfl)
      · have h := h2 c_20
        refine lv_iconst (v := (0 : Int32)) hx hb dL_law_391 (by decide) ?_
        exact h.elim
  · have h := h2 c_15
    refine lv_iconst (v := (0 : Int32)) hx hb dL_law_374 (by decide) ?_
    exact h.elim
def wp_law_c3 (zd : Nat) (xs : Nat → Int32) (L xo oo : Nat) (y4 : Int32) (f : FT) (n : Nat → Int32) (g : Nat → Nat → Int32) (bc bs : Nat) (C : Int32 × FT × (Nat → Int32) × (Nat → Nat → Int32) × Nat × Nat → Prop) : Prop :=
  vp_in (y4 + (1 : Int32)) L ∧ ∀ v_1 : Int32, v_1 = xs ((y4 + (1 : Int32))).toNatClampNeg → ∃ ga_4 gb_5 : Nat, ga_4 ≤ bc ∧ gb_5 ≤ bs ∧ wp_L_keyByte xo v_1 oo f ga_4 gb_5 (fun r_3 f_6 => vp_in (y4 + (1 : Int32)) L ∧ ∀ v_9 : Int32, v_9 = xs ((y4 + (1 : Int32))).toNatClampNeg → wp_X9_keyByte v_9 n g (fun r_11 n_12 g_13 => wp_X9_thrown  n_12 g_13 (fun r_14 => ((r_14 = r_3 → ((¬ r_3 = (0 : Int32) → C (y4, f_6, n_12, g_13, (bc - ga_4), (bs - gb_5))) ∧
 (r_3 = (0 : Int32) → aJ f_6 oo (0 : Int32) fun v_17 => (((lg_cmp v_17 (Int32.toInt64 r_11)) = (0 : Int32) → C (y4, f_6, n_12, g_13, (bc - ga_4), (bs - gb_5))) ∧
 (¬ ((lg_cmp v_17 (Int32.toInt64 r_11)) = (0 : Int32)) → False))))) ∧
 (¬ (r_14 = r_3) → False)))))
set_option maxHeartbeats 4000000 in
set_option maxRecDepth 100000 in
theorem law_c3 {p : Program} {l : Launch} {e : Env} {s : State} {m : MethodId} {below : List Frame} {meth : Method} {c : Code} {b L : Nat} {xs : Nat → Int32} (hlt : l.stackTraces = false) (C0 : lw_At p s m meth c b L xs) {G : GG} (hK : FK G s) (hZ : FZ G (fun q : Nat => s.heap.size ≤ q) s s.heap) (hX : FX9 G (fun q : Nat => s.heap.size ≤ q) s s.heap) (hXN : FXN s) {zd : Nat} (hzd : G.2.2 0 = zd) {xo mo oo : Nat} {ad : Nat → Nat} (had : MAd mo ad) {C : Int32 × FT × (Nat → Int32) × (Nat → Nat → Int32) × Nat × Nat → Prop} : ∀ (y4 : Int32) (f : FT) (n : Nat → Int32) (g : Nat → Nat → Int32) (bc bs : Nat) (H : Heap) (locs : List Loc) (ls : Array Slot) (cs sl : Nat), (∀ (y4 : Int32) (f : FT) (n : Nat → Int32) (g : Nat → Nat → Int32) (bc bs : Nat) (H : Heap) (locs : List Loc) (ls : Array Slot) (cs sl : Nat), C (y4, f, n, g, bc, bs) → cs + bc ≤ 601024 → sl + bs ≤ 7293034 → Fw G (fun q : Nat => s.heap.size ≤ q) f H → Fw G (fun q : Nat => s.heap.size ≤ q) (mf mo ad n g) H → dj f (mf mo ad n g) → va_S (fun q : Nat => s.heap.size ≤ q) s.heap H locs → lv_has ls 7 [(0, .ref b), (1, .ref xo), (2, .ref mo), (3, .ref oo), (4, .int y4)] → W p l e room_1 s m #[Value.ref b] below meth c H locs cs sl (lw_Z below #[Value.ref b] s) (F0 m 1773 ls [])) → wp_law_c3 zd xs L xo oo y4 f n g bc bs C → cs + bc ≤ 601024 → sl + bs ≤ 7293034 → Fw G (fun q : Nat => s.heap.size ≤ q) f H → Fw G (fun q : Nat => s.heap.size ≤ q) (mf mo ad n g) H → dj f (mf mo ad n g) → va_S (fun q : Nat => s.heap.size ≤ q) s.heap H locs → lv_has ls 7 [(0, .ref b), (1, .ref xo), (2, .ref mo), (3, .ref oo), (4, .int y4)] → W p l e room_1 s m #[Value.ref b] below meth c H locs cs sl (lw_Z below #[Value.ref b] s) (F0 m 396 ls []) := by
  obtain ⟨hx, hb, hr, hml, hown, hts0, hXs, hbl, hlocks, hgv⟩ := id C0
  have hts : ∀ w ∈ wsL_law, w.before #[Value.ref b] s = true := fun w h => hts0 w (wsL_law_in w h)
  have hA : ∀ q : Nat, s.heap.size ≤ q → (fun q : Nat => s.heap.size ≤ q) q := fun _ h => h
  have hbA : ¬ (fun q : Nat => s.heap.size ≤ q) b := Nat.not_le.mpr hbl
  intro y4 f n g bc bs H locs ls cs sl hC h hbc hbs hF hF2 hd hS hl
  unfold wp_law_c3 at h
  refine lv_aload_n hx hb dL_law_396 rfl (lv_at hl 1 rfl) ?_
  refine lv_aload_n hx hb dL_law_397 rfl (lv_at hl 0 rfl) ?_
  refine lv_iload hx hb dL_law_398 (lv_at hl 4 rfl) ?_
  refine lv_iconst (v := (1 : Int32)) hx hb dL_law_400 (by decide) ?_
  refine lv_iadd hx hb dL_law_401 ?_
  obtain ⟨hi_i_2, h⟩ := h
  refine va_sld hx hb hXs hbl hbA hS hi_i_2 dL_law_402 ?_
  refine lv_topi (fun v_1 e_v_1 => ?_)
  have h := h v_1 e_v_1
  refine lv_aload_n hx hb dL_law_403 rfl (lv_at hl 3 rfl) ?_
  obtain ⟨ga_4, gb_5, hga_ga_4, hgb_ga_4, h⟩ := h
  refine fl_cSX_i (As := [.ref xo, .int v_1, .ref oo]) (rest := []) ⟨hx, hb, hml, hown, hts⟩ (cc_L_keyByte l G hlt h) (cwSX 3 hts ggL_law_L_keyByte rfl rfl rfl (hts0 (.initialized RL) (List.mem_of_getElem? (i := 58) (by decide +kernel))) (hts0 (.methodLink RL 120 yL_keyByte) (List.mem_of_getElem? (i := 750) (by decide +kernel))) (hts0 (.static yL_keyByte) (List.mem_of_getElem? (i := 751) (by decide +kernel))) (by decide +kernel) ⟨Nat.le_of_ble_eq_true rfl, Nat.le_of_ble_eq_true rfl⟩) hK hZ hX hXN hF hF2 hd hS hA rfl hl.1 rfl (Nat.le_of_ble_eq_true rfl) dL_law_404 ⟨by show _ ≤ 601024; omega, by show _ ≤ 7293034; omega⟩ (fun r_3 f_6 H locs h hF hF2 hd hS => ?_)
  obtain ⟨cs_7, hcs⟩ : ∃ z, z = (cs + ga_4) := ⟨_, rfl⟩; obtain ⟨sl_8, hsl⟩ : ∃ z, z = (sl + gb_5) := ⟨_, rfl⟩
  have hbc : cs_7 + (bc - ga_4) ≤ 601024 := by omega
  have hbs : sl_8 + (bs - gb_5) ≤ 7293034 := by omega
  refine W.widen (k := cs_7) (n := sl_8) (by omega) (by omega) ?_
  clear hcs hsl
  refine lv_istore (lv' := [(5, .int r_3), (0, .ref b), (1, .ref xo), (2, .ref mo), (3, .ref oo), (4, .int y4)]) hx hb dL_law_407 hl (by decide) rfl (fun ls hl => ?_)
  refine lv_aload_n hx hb dL_law_409 rfl (lv_at hl 3 rfl) ?_
  refine lv_aload_n hx hb dL_law_410 rfl (lv_at hl 1 rfl) ?_
  refine lv_iload hx hb dL_law_411 (lv_at hl 5 rfl) ?_
  refine lv_iconst (v := (1 : Int32)) hx hb dL_law_413 (by decide) ?_
  refine lv_iadd hx hb dL_law_414 ?_
  obtain ⟨hi_i_10, h⟩ := h
  refine va_sld hx hb hXs hbl hbA hS hi_i_10 dL_law_415 ?_
  refine lv_topi (fun v_9 e_v_9 => ?_)
  have h := h v_9 e_v_9
  refine fl_cV_i (As := [.int v_9]) (rest := []) ⟨hx, hb, hml, hown, hts⟩ (cc_X9_keyByte l G had h) (⟨callB_of 1 hts ggL_law_X9_keyByte rfl rfl rfl (hts0 (.initialized RX9) (List.mem_of_getElem? (i := 77) (by decide +kernel))) (hts0 (.methodLink RL 122 yX9_keyByte) (List.mem_of_getElem? (i := 1493) (by decide +kernel))) (by decide +kernel) ⟨Nat.le_of_ble_eq_true rfl, Nat.le_of_ble_eq_true rfl⟩, (hts0 (.instanceMethod yX9_keyByte) (List.mem_of_getElem? (i := 1494) (by decide +kernel))), (hts0 (.selects RX9 yX9_keyByte yX9_keyByte) (List.mem_of_getElem? (i := 1495) (by decide +kernel)))⟩) rfl mf_obj hK hZ hF2 hF hd.symm hS hA rfl hl.1 rfl (Nat.le_of_ble_eq_true rfl) dL_law_416 ⟨by show _ + 0 ≤ 601024; omega, by show _ + 0 ≤ 7293034; omega⟩ (fun r_11 f9 H locs h hF2 hF hd hS => ?_)
  have hd := hd.symm
  obtain ⟨n_12, g_13, rfl, h⟩ := h
  simp only [Nat.add_zero]
  refine lv_istore (lv' := [(6, .int r_11), (5, .int r_3), (0, .ref b), (1, .ref xo), (2, .ref mo), (3, .ref oo), (4, .int y4)]) hx hb dL_law_419 hl (by decide) rfl (fun ls hl => ?_)
  refine lv_aload_n hx hb dL_law_421 rfl (lv_at hl 4 rfl) ?_
  refine fl_cV_i (As := []) (rest := []) ⟨hx, hb, hml, hown, hts⟩ (cc_X9_thrown l G had h) (⟨callB_of 0 hts ggL_law_X9_thrown rfl rfl rfl (hts0 (.initialized RX9) (List.mem_of_getElem? (i := 77) (by decide +kernel))) (hts0 (.methodLink RL 108 yX9_thrown) (List.mem_of_getElem? (i := 1465) (by decide +kernel))) (by decide +kernel) ⟨Nat.le_of_ble_eq_true rfl, Nat.le_of_ble_eq_true rfl⟩, (hts0 (.instanceMethod yX9_thrown) (List.mem_of_getElem? (i := 1466) (by decide +kernel))), (hts0 (.selects RX9 yX9_thrown yX9_thrown) (List.mem_of_getElem? (i := 1467) (by decide +kernel)))⟩) rfl mf_obj hK hZ hF2 hF hd.symm hS hA rfl hl.1 rfl (Nat.le_of_ble_eq_true rfl) dL_law_422 ⟨by show _ + 0 ≤ 601024; omega, by show _ + 0 ≤ 7293034; omega⟩ (fun r_14 f9 H locs h hF2 hF hd hS => ?_)
  have hd := hd.symm
  obtain ⟨h, e9⟩ := h; rw [e9] at hF2 hd; clear e9
  simp only [Nat.add_zero]
  refine lv_iload hx hb dL_law_425 (lv_at hl 1 rfl) ?_
  obtain ⟨h1, h2⟩ := h
  refine lv_icmp_eq (tgt := 432) hx hb dL_law_427 (by decide) (fun c_15 => ?_) (fun c_15 => ?_)
  · have h := h1 c_15
    refine lv_iload hx hb dL_law_432 (lv_at hl 1 rfl) ?_
    obtain ⟨h1, h2⟩ := h
    refine lv_if_ne (tgt := 449) hx hb dL_law_434 (by decide) (fun c_16 => ?_) (fun c_16 => ?_)
    · have h := h1 c_16
      refine lv_goto (tgt := 1773) hx hb dL_law_449 (by decide) ?_
      exact hC y4 f_6 n_12 g_13 (bc - ga_4) (bs - gb_5) _ _ _ _ _ h hbc hbs hF hF2 hd hS (lv_sub hl [2, 3, 4, 5, 6] rfl)
    · have h := h2 c_16
      refine lv_aload_n hx hb dL_law_437 rfl (lv_at hl 5 rfl) ?_
      refine lv_iconst (v := (0 : Int32)) hx hb dL_law_438 (by decide) ?_
      obtain ⟨n_q_18, q_18, he_q_18, hi_q_18, h⟩ := h
      refine fw_lald hx hb hK hF he_q_18 hi_q_18 dL_law_439 ?_
      refine lv_topl (fun v_17 e_v_17 => ?_)
      have h := h v_17 e_v_17
      refine lv_iload hx hb dL_law_440 (lv_at hl 0 rfl) ?_
      refine lv_i2l (v := (Int32.toInt64 r_11)) hx hb dL_law_442 rfl ?_
      refine W.lcmp hx hb dL_law_443 ?_
      obtain ⟨h1, h2⟩ := h
      refine lv_if_eq (tgt := 449) hx hb dL_law_444 (by decide) (fun c_20 => ?_) (fun c_20 => ?_)
      · have h := h1 c_20
        refine lv_goto (tgt := 1773) hx hb dL_law_449 (by decide) ?_
        exact hC y4 f_6 n_12 g_13 (bc - ga_4) (bs - gb_5) _ _ _ _ _ h hbc hbs hF hF2 hd hS (lv_sub hl [2, 3, 4, 5, 6] rfl)
      · have h := h2 c_20
        refine lv_iconst (v := (0 : Int32)) hx hb dL_law_447 (by decide) ?_
        exact h.elim
  · have h := h2 c_15
    refine lv_iconst (v := (0 : Int32)) hx hb dL_law_430 (by decide) ?_
    exact h.elim
def wp_law_c4 (zd : Nat) (xs : Nat → Int32) (L xo oo : Nat) (y4 : Int32) (f : FT) (n : Nat → Int32) (g : Nat → Nat → Int32) (bc bs : Nat) (C : Int32 × FT × (Nat → Int32) × (Nat → Nat → Int32) × Nat × Nat → Prop) : Prop :=
  isO f xo 11 ∧ wp_X8_swapBound xo f (fun r_1 f_2 => wp_X9_swapBound  n g (fun r_3 n_4 g_5 => ((r_1 = r_3 → C (y4, f_2, n_4, g_5, bc, bs)) ∧
 (¬ (r_1 = r_3) → False))))
set_option maxHeartbeats 4000000 in
set_option maxRecDepth 100000 in
theorem law_c4 {p : Program} {l : Launch} {e : Env} {s : State} {m : MethodId} {below : List Frame} {meth : Method} {c : Code} {b L : Nat} {xs : Nat → Int32} (hlt : l.stackTraces = false) (C0 : lw_At p s m meth c b L xs) {G : GG} (hK : FK G s) (hZ : FZ G (fun q : Nat => s.heap.size ≤ q) s s.heap) (hX : FX9 G (fun q : Nat => s.heap.size ≤ q) s s.heap) (hXN : FXN s) {zd : Nat} (hzd : G.2.2 0 = zd) {xo mo oo : Nat} {ad : Nat → Nat} (had : MAd mo ad) {C : Int32 × FT × (Nat → Int32) × (Nat → Nat → Int32) × Nat × Nat → Prop} : ∀ (y4 : Int32) (f : FT) (n : Nat → Int32) (g : Nat → Nat → Int32) (bc bs : Nat) (H : Heap) (locs : List Loc) (ls : Array Slot) (cs sl : Nat), (∀ (y4 : Int32) (f : FT) (n : Nat → Int32) (g : Nat → Nat → Int32) (bc bs : Nat) (H : Heap) (locs : List Loc) (ls : Array Slot) (cs sl : Nat), C (y4, f, n, g, bc, bs) → cs + bc ≤ 601024 → sl + bs ≤ 7293034 → Fw G (fun q : Nat => s.heap.size ≤ q) f H → Fw G (fun q : Nat => s.heap.size ≤ q) (mf mo ad n g) H → dj f (mf mo ad n g) → va_S (fun q : Nat => s.heap.size ≤ q) s.heap H locs → lv_has ls 7 [(0, .ref b), (1, .ref xo), (2, .ref mo), (3, .ref oo), (4, .int y4)] → W p l e room_1 s m #[Value.ref b] below meth c H locs cs sl (lw_Z below #[Value.ref b] s) (F0 m 1773 ls [])) → wp_law_c4 zd xs L xo oo y4 f n g bc bs C → cs + bc ≤ 601024 → sl + bs ≤ 7293034 → Fw G (fun q : Nat => s.heap.size ≤ q) f H → Fw G (fun q : Nat => s.heap.size ≤ q) (mf mo ad n g) H → dj f (mf mo ad n g) → va_S (fun q : Nat => s.heap.size ≤ q) s.heap H locs → lv_has ls 7 [(0, .ref b), (1, .ref xo), (2, .ref mo), (3, .ref oo), (4, .int y4)] → W p l e room_1 s m #[Value.ref b] below meth c H locs cs sl (lw_Z below #[Value.ref b] s) (F0 m 452 ls []) := by
  obtain ⟨hx, hb, hr, hml, hown, hts0, hXs, hbl, hlocks, hgv⟩ := id C0
  have hts : ∀ w ∈ wsL_law, w.before #[Value.ref b] s = true := fun w h => hts0 w (wsL_law_in w h)
  have hA : ∀ q : Nat, s.heap.size ≤ q → (fun q : Nat => s.heap.size ≤ q) q := fun _ h => h
  have hbA : ¬ (fun q : Nat => s.heap.size ≤ q) b := Nat.not_le.mpr hbl
  intro y4 f n g bc bs H locs ls cs sl hC h hbc hbs hF hF2 hd hS hl
  unfold wp_law_c4 at h
  refine lv_aload_n hx hb dL_law_452 rfl (lv_at hl 1 rfl) ?_
  obtain ⟨⟨fs_r_1, hrc_r_1⟩, h⟩ := h
  refine fl_cV_i (As := []) (rest := []) ⟨hx, hb, hml, hown, hts⟩ (cc_X8_swapBound l G h) (⟨callB_of 0 hts ggL_law_X8_swapBound rfl rfl rfl (hts0 (.initialized RX8) (List.mem_of_getElem? (i := 59) (by decide +kernel))) (hts0 (.methodLink RL 123 yX8_swapBound) (List.mem_of_getElem? (i := 429) (by decide +kernel))) (by decide +kernel) ⟨Nat.le_of_ble_eq_true rfl, Nat.le_of_ble_eq_true rfl⟩, (hts0 (.instanceMethod yX8_swapBound) (List.mem_of_getElem? (i := 430) (by decide +kernel))), (hts0 (.selects RX8 yX8_swapBound yX8_swapBound) (List.mem_of_getElem? (i := 431) (by decide +kernel)))⟩) rfl hrc_r_1 hK hZ hF hF2 hd hS hA rfl hl.1 rfl (Nat.le_of_ble_eq_true rfl) dL_law_453 ⟨by show _ + 0 ≤ 601024; omega, by show _ + 0 ≤ 7293034; omega⟩ (fun r_1 f_2 H locs h hF hF2 hd hS => ?_)
  simp only [Nat.add_zero]
  refine lv_aload_n hx hb dL_law_456 rfl (lv_at hl 2 rfl) ?_
  refine fl_cV_i (As := []) (rest := [.int r_1]) ⟨hx, hb, hml, hown, hts⟩ (cc_X9_swapBound l G had h) (⟨callB_of 0 hts ggL_law_X9_swapBound rfl rfl rfl (hts0 (.initialized RX9) (List.mem_of_getElem? (i := 77) (by decide +kernel))) (hts0 (.methodLink RL 126 yX9_swapBound) (List.mem_of_getElem? (i := 1497) (by decide +kernel))) (by decide +kernel) ⟨Nat.le_of_ble_eq_true rfl, Nat.le_of_ble_eq_true rfl⟩, (hts0 (.instanceMethod yX9_swapBound) (List.mem_of_getElem? (i := 1498) (by decide +kernel))), (hts0 (.selects RX9 yX9_swapBound yX9_swapBound) (List.mem_of_getElem? (i := 1499) (by decide +kernel)))⟩) rfl mf_obj hK hZ hF2 hF hd.symm hS hA rfl hl.1 rfl (Nat.le_of_ble_eq_true rfl) dL_law_457 ⟨by show _ + 0 ≤ 601024; omega, by show _ + 0 ≤ 7293034; omega⟩ (fun r_3 f9 H locs h hF2 hF hd hS => ?_)
  have hd := hd.symm
  obtain ⟨n_4, g_5, rfl, h⟩ := h
  simp only [Nat.add_zero]
  obtain ⟨h1, h2⟩ := h
  refine lv_icmp_eq (tgt := 1773) hx hb dL_law_460 (by decide) (fun c_6 => ?_) (fun c_6 => ?_)
  · have h := h1 c_6
    exact hC y4 f_2 n_4 g_5 bc bs _ _ _ _ _ h hbc hbs hF hF2 hd hS (lv_sub hl [0, 1, 2, 3, 4] rfl)
  · have h := h2 c_6
    refine lv_iconst (v := (0 : Int32)) hx hb dL_law_463 (by decide) ?_
    exact h.elim
def wp_law_c5 (zd : Nat) (xs : Nat → Int32) (L xo oo : Nat) (y4 : Int32) (f : FT) (n : Nat → Int32) (g : Nat → Nat → Int32) (bc bs : Nat) (C : Int32 × FT × (Nat → Int32) × (Nat → Nat → Int32) × Nat × Nat → Prop) : Prop :=
  vp_in (y4 + (1 : Int32)) L ∧ ∀ v_1 : Int32, v_1 = xs ((y4 + (1 : Int32))).toNatClampNeg → ∃ ga_4 gb_5 : Nat, ga_4 ≤ bc ∧ gb_5 ≤ bs ∧ wp_L_setCapacity xo v_1 oo f ga_4 gb_5 (fun r_3 f_6 => vp_in (y4 + (1 : Int32)) L ∧ ∀ v_9 : Int32, v_9 = xs ((y4 + (1 : Int32))).toNatClampNeg → wp_X9_setCapacity v_9 n g (fun r_11 n_12 g_13 => wp_X9_thrown  n_12 g_13 (fun r_14 => ((r_14 = r_3 → ((¬ r_3 = (0 : Int32) → C (y4, f_6, n_12, g_13, (bc - ga_4), (bs - gb_5))) ∧
 (r_3 = (0 : Int32) → aJ f_6 oo (0 : Int32) fun v_17 => (((lg_cmp v_17 (Int32.toInt64 r_11)) = (0 : Int32) → C (y4, f_6, n_12, g_13, (bc - ga_4), (bs - gb_5))) ∧
 (¬ ((lg_cmp v_17 (Int32.toInt64 r_11)) = (0 : Int32)) → False))))) ∧
 (¬ (r_14 = r_3) → False)))))
set_option maxHeartbeats 4000000 in
set_option maxRecDepth 100000 in
theorem law_c5 {p : Program} {l : Launch} {e : Env} {s : State} {m : MethodId} {below : List Frame} {meth : Method} {c : Code} {b L : Nat} {xs : Nat → Int32} (hlt : l.stackTraces = false) (C0 : lw_At p s m meth c b L xs) {G : GG} (hK : FK G s) (hZ : FZ G (fun q : Nat => s.heap.size ≤ q) s s.heap) (hX : FX9 G (fun q : Nat => s.heap.size ≤ q) s s.heap) (hXN : FXN s) {zd : Nat} (hzd : G.2.2 0 = zd) {xo mo oo : Nat} {ad : Nat → Nat} (had : MAd mo ad) {C : Int32 × FT × (Nat → Int32) × (Nat → Nat → Int32) × Nat × Nat → Prop} : ∀ (y4 : Int32) (f : FT) (n : Nat → Int32) (g : Nat → Nat → Int32) (bc bs : Nat) (H : Heap) (locs : List Loc) (ls : Array Slot) (cs sl : Nat), (∀ (y4 : Int32) (f : FT) (n : Nat → Int32) (g : Nat → Nat → Int32) (bc bs : Nat) (H : Heap) (locs : List Loc) (ls : Array Slot) (cs sl : Nat), C (y4, f, n, g, bc, bs) → cs + bc ≤ 601024 → sl + bs ≤ 7293034 → Fw G (fun q : Nat => s.heap.size ≤ q) f H → Fw G (fun q : Nat => s.heap.size ≤ q) (mf mo ad n g) H → dj f (mf mo ad n g) → va_S (fun q : Nat => s.heap.size ≤ q) s.heap H locs → lv_has ls 7 [(0, .ref b), (1, .ref xo), (2, .ref mo), (3, .ref oo), (4, .int y4)] → W p l e room_1 s m #[Value.ref b] below meth c H locs cs sl (lw_Z below #[Value.ref b] s) (F0 m 1773 ls [])) → wp_law_c5 zd xs L xo oo y4 f n g bc bs C → cs + bc ≤ 601024 → sl + bs ≤ 7293034 → Fw G (fun q : Nat => s.heap.size ≤ q) f H → Fw G (fun q : Nat => s.heap.size ≤ q) (mf mo ad n g) H → dj f (mf mo ad n g) → va_S (fun q : Nat => s.heap.size ≤ q) s.heap H locs → lv_has ls 7 [(0, .ref b), (1, .ref xo), (2, .ref mo), (3, .ref oo), (4, .int y4)] → W p l e room_1 s m #[Value.ref b] below meth c H locs cs sl (lw_Z below #[Value.ref b] s) (F0 m 465 ls []) := by
  obtain ⟨hx, hb, hr, hml, hown, hts0, hXs, hbl, hlocks, hgv⟩ := id C0
  have hts : ∀ w ∈ wsL_law, w.before #[Value.ref b] s = true := fun w h => hts0 w (wsL_law_in w h)
  have hA : ∀ q : Nat, s.heap.size ≤ q → (fun q : Nat => s.heap.size ≤ q) q := fun _ h => h
  have hbA : ¬ (fun q : Nat => s.heap.size ≤ q) b := Nat.not_le.mpr hbl
  intro y4 f n g bc bs H locs ls cs sl hC h hbc hbs hF hF2 hd hS hl
  unfold wp_law_c5 at h
  refine lv_aload_n hx hb dL_law_465 rfl (lv_at hl 1 rfl) ?_
  refine lv_aload_n hx hb dL_law_466 rfl (lv_at hl 0 rfl) ?_
  refine lv_iload hx hb dL_law_467 (lv_at hl 4 rfl) ?_
  refine lv_iconst (v := (1 : Int32)) hx hb dL_law_469 (by decide) ?_
  refine lv_iadd hx hb dL_law_470 ?_
  obtain ⟨hi_i_2, h⟩ := h
  refine va_sld hx hb hXs hbl hbA hS hi_i_2 dL_law_471 ?_
  refine lv_topi (fun v_1 e_v_1 => ?_)
  have h := h v_1 e_v_1
  refine lv_aload_n hx hb dL_law_472 rfl (lv_at hl 3 rfl) ?_
  obtain ⟨ga_4, gb_5, hga_ga_4, hgb_ga_4, h⟩ := h
  refine fl_cSX_i (As := [.ref xo, .int v_1, .ref oo]) (rest := []) ⟨hx, hb, hml, hown, hts⟩ (cc_L_setCapacity l G hlt h) (cwSX 3 hts ggL_law_L_setCapacity rfl rfl rfl (hts0 (.initialized RL) (List.mem_of_getElem? (i := 58) (by decide +kernel))) (hts0 (.methodLink RL 127 yL_setCapacity) (List.mem_of_getElem? (i := 775) (by decide +kernel))) (hts0 (.static yL_setCapacity) (List.mem_of_getElem? (i := 776) (by decide +kernel))) (by decide +kernel) ⟨Nat.le_of_ble_eq_true rfl, Nat.le_of_ble_eq_true rfl⟩) hK hZ hX hXN hF hF2 hd hS hA rfl hl.1 rfl (Nat.le_of_ble_eq_true rfl) dL_law_473 ⟨by show _ ≤ 601024; omega, by show _ ≤ 7293034; omega⟩ (fun r_3 f_6 H locs h hF hF2 hd hS => ?_)
  obtain ⟨cs_7, hcs⟩ : ∃ z, z = (cs + ga_4) := ⟨_, rfl⟩; obtain ⟨sl_8, hsl⟩ : ∃ z, z = (sl + gb_5) := ⟨_, rfl⟩
  have hbc : cs_7 + (bc - ga_4) ≤ 601024 := by omega
  have hbs : sl_8 + (bs - gb_5) ≤ 7293034 := by omega
  refine W.widen (k := cs_7) (n := sl_8) (by omega) (by omega) ?_
  clear hcs hsl
  refine lv_istore (lv' := [(5, .int r_3), (0, .ref b), (1, .ref xo), (2, .ref mo), (3, .ref oo), (4, .int y4)]) hx hb dL_law_476 hl (by decide) rfl (fun ls hl => ?_)
  refine lv_aload_n hx hb dL_law_478 rfl (lv_at hl 3 rfl) ?_
  refine lv_aload_n hx hb dL_law_479 rfl (lv_at hl 1 rfl) ?_
  refine lv_iload hx hb dL_law_480 (lv_at hl 5 rfl) ?_
  refine lv_iconst (v := (1 : Int32)) hx hb dL_law_482 (by decide) ?_
  refine lv_iadd hx hb dL_law_483 ?_
  obtain ⟨hi_i_10, h⟩ := h
  refine va_sld hx hb hXs hbl hbA hS hi_i_10 dL_law_484 ?_
  refine lv_topi (fun v_9 e_v_9 => ?_)
  have h := h v_9 e_v_9
  refine fl_cV_i (As := [.int v_9]) (rest := []) ⟨hx, hb, hml, hown, hts⟩ (cc_X9_setCapacity l G had h) (⟨callB_of 1 hts ggL_law_X9_setCapacity rfl rfl rfl (hts0 (.initialized RX9) (List.mem_of_getElem? (i := 77) (by decide +kernel))) (hts0 (.methodLink RL 129 yX9_setCapacity) (List.mem_of_getElem? (i := 1626) (by decide +kernel))) (by decide +kernel) ⟨Nat.le_of_ble_eq_true rfl, Nat.le_of_ble_eq_true rfl⟩, (hts0 (.instanceMethod yX9_setCapacity) (List.mem_of_getElem? (i := 1627) (by decide +kernel))), (hts0 (.selects RX9 yX9_setCapacity yX9_setCapacity) (List.mem_of_getElem? (i := 1628) (by decide +kernel)))⟩) rfl mf_obj hK hZ hF2 hF hd.symm hS hA rfl hl.1 rfl (Nat.le_of_ble_eq_true rfl) dL_law_485 ⟨by show _ + 0 ≤ 601024; omega, by show _ + 0 ≤ 7293034; omega⟩ (fun r_11 f9 H locs h hF2 hF hd hS => ?_)
  have hd := hd.symm
  obtain ⟨n_12, g_13, rfl, h⟩ := h
  simp only [Nat.add_zero]
  refine lv_istore (lv' := [(6, .int r_11), (5, .int r_3), (0, .ref b), (1, .ref xo), (2, .ref mo), (3, .ref oo), (4, .int y4)]) hx hb dL_law_488 hl (by decide) rfl (fun ls hl => ?_)
  refine lv_aload_n hx hb dL_law_490 rfl (lv_at hl 4 rfl) ?_
  refine fl_cV_i (As := []) (rest := []) ⟨hx, hb, hml, hown, hts⟩ (cc_X9_thrown l G had h) (⟨callB_of 0 hts ggL_law_X9_thrown rfl rfl rfl (hts0 (.initialized RX9) (List.mem_of_getElem? (i := 77) (by decide +kernel))) (hts0 (.methodLink RL 108 yX9_thrown) (List.mem_of_getElem? (i := 1465) (by decide +kernel))) (by decide +kernel) ⟨Nat.le_of_ble_eq_true rfl, Nat.le_of_ble_eq_true rfl⟩, (hts0 (.instanceMethod yX9_thrown) (List.mem_of_getElem? (i := 1466) (by decide +kernel))), (hts0 (.selects RX9 yX9_thrown yX9_thrown) (List.mem_of_getElem? (i := 1467) (by decide +kernel)))⟩) rfl mf_obj hK hZ hF2 hF hd.symm hS hA rfl hl.1 rfl (Nat.le_of_ble_eq_true rfl) dL_law_491 ⟨by show _ + 0 ≤ 601024; omega, by show _ + 0 ≤ 7293034; omega⟩ (fun r_14 f9 H locs h hF2 hF hd hS => ?_)
  have hd := hd.symm
  obtain ⟨h, e9⟩ := h; rw [e9] at hF2 hd; clear e9
  simp only [Nat.add_zero]
  refine lv_iload hx hb dL_law_494 (lv_at hl 1 rfl) ?_
  obtain ⟨h1, h2⟩ := h
  refine lv_icmp_eq (tgt := 501) hx hb dL_law_496 (by decide) (fun c_15 => ?_) (fun c_15 => ?_)
  · have h := h1 c_15
    refine lv_iload hx hb dL_law_501 (lv_at hl 1 rfl) ?_
    obtain ⟨h1, h2⟩ := h
    refine lv_if_ne (tgt := 518) hx hb dL_law_503 (by decide) (fun c_16 => ?_) (fun c_16 => ?_)
    · have h := h1 c_16
      refine lv_goto (tgt := 1773) hx hb dL_law_518 (by decide) ?_
      exact hC y4 f_6 n_12 g_13 (bc - ga_4) (bs - gb_5) _ _ _ _ _ h hbc hbs hF hF2 hd hS (lv_sub hl [2, 3, 4, 5, 6] rfl)
    · have h := h2 c_16
      refine lv_aload_n hx hb dL_law_506 rfl (lv_at hl 5 rfl) ?_
      refine lv_iconst (v := (0 : Int32)) hx hb dL_law_507 (by decide) ?_
      obtain ⟨n_q_18, q_18, he_q_18, hi_q_18, h⟩ := h
      refine fw_lald hx hb hK hF he_q_18 hi_q_18 dL_law_508 ?_
      refine lv_topl (fun v_17 e_v_17 => ?_)
      have h := h v_17 e_v_17
      refine lv_iload hx hb dL_law_509 (lv_at hl 0 rfl) ?_
      refine lv_i2l (v := (Int32.toInt64 r_11)) hx hb dL_law_511 rfl ?_
      refine W.lcmp hx hb dL_law_512 ?_
      obtain ⟨h1, h2⟩ := h
      refine lv_if_eq (tgt := 518) hx hb dL_law_513 (by decide) (fun c_20 => ?_) (fun c_20 => ?_)
      · have h := h1 c_20
        refine lv_goto (tgt := 1773) hx hb dL_law_518 (by decide) ?_
        exact hC y4 f_6 n_12 g_13 (bc - ga_4) (bs - gb_5) _ _ _ _ _ h hbc hbs hF hF2 hd hS (lv_sub hl [2, 3, 4, 5, 6] rfl)
      · have h := h2 c_20
        refine lv_iconst (v := (0 : Int32)) hx hb dL_law_516 (by decide) ?_
        exact h.elim
  · have h := h2 c_15
    refine lv_iconst (v := (0 : Int32)) hx hb dL_law_499 (by decide) ?_
    exact h.elim
def wp_law_c6 (zd : Nat) (xs : Nat → Int32) (L xo oo : Nat) (y4 : Int32) (f : FT) (n : Nat → Int32) (g : Nat → Nat → Int32) (bc bs : Nat) (C : Int32 × FT × (Nat → Int32) × (Nat → Nat → Int32) × Nat × Nat → Prop) : Prop :=
  vp_in (y4 + (1 : Int32)) L ∧ ∀ v_1 : Int32, v_1 = xs ((y4 + (1 : Int32))).toNatClampNeg → ∃ ga_4 gb_5 : Nat, ga_4 ≤ bc ∧ gb_5 ≤ bs ∧ wp_L_put zd xo v_1 oo f ga_4 gb_5 (fun r_3 f_6 => vp_in (y4 + (1 : Int32)) L ∧ ∀ v_9 : Int32, v_9 = xs ((y4 + (1 : Int32))).toNatClampNeg → wp_X9_put v_9 n g (fun r_11 n_12 g_13 => wp_X9_thrown  n_12 g_13 (fun r_14 => ((r_14 = r_3 → ((¬ r_3 = (0 : Int32) → C (y4, f_6, n_12, g_13, (bc - ga_4), (bs - gb_5))) ∧
 (r_3 = (0 : Int32) → aJ f_6 oo (0 : Int32) fun v_17 => ((r_11 = (0 : Int32) → (((lg_cmp v_17 (0 : Int64)) = (0 : Int32) → C (y4, f_6, n_12, g_13, (bc - ga_4), (bs - gb_5))) ∧
 (¬ ((lg_cmp v_17 (0 : Int64)) = (0 : Int32)) → False))) ∧
 (¬ (r_11 = (0 : Int32)) → (((lg_cmp v_17 (1 : Int64)) = (0 : Int32) → C (y4, f_6, n_12, g_13, (bc - ga_4), (bs - gb_5))) ∧
 (¬ ((lg_cmp v_17 (1 : Int64)) = (0 : Int32)) → False))))))) ∧
 (¬ (r_14 = r_3) → False)))))
set_option maxHeartbeats 4000000 in
set_option maxRecDepth 100000 in
theorem law_c6 {p : Program} {l : Launch} {e : Env} {s : State} {m : MethodId} {below : List Frame} {meth : Method} {c : Code} {b L : Nat} {xs : Nat → Int32} (hlt : l.stackTraces = false) (C0 : lw_At p s m meth c b L xs) {G : GG} (hK : FK G s) (hZ : FZ G (fun q : Nat => s.heap.size ≤ q) s s.heap) (hX : FX9 G (fun q : Nat => s.heap.size ≤ q) s s.heap) (hXN : FXN s) {zd : Nat} (hzd : G.2.2 0 = zd) {xo mo oo : Nat} {ad : Nat → Nat} (had : MAd mo ad) {C : Int32 × FT × (Nat → Int32) × (Nat → Nat → Int32) × Nat × Nat → Prop} : ∀ (y4 : Int32) (f : FT) (n : Nat → Int32) (g : Nat → Nat → Int32) (bc bs : Nat) (H : Heap) (locs : List Loc) (ls : Array Slot) (cs sl : Nat), (∀ (y4 : Int32) (f : FT) (n : Nat → Int32) (g : Nat → Nat → Int32) (bc bs : Nat) (H : Heap) (locs : List Loc) (ls : Array Slot) (cs sl : Nat), C (y4, f, n, g, bc, bs) → cs + bc ≤ 601024 → sl + bs ≤ 7293034 → Fw G (fun q : Nat => s.heap.size ≤ q) f H → Fw G (fun q : Nat => s.heap.size ≤ q) (mf mo ad n g) H → dj f (mf mo ad n g) → va_S (fun q : Nat => s.heap.size ≤ q) s.heap H locs → lv_has ls 7 [(0, .ref b), (1, .ref xo), (2, .ref mo), (3, .ref oo), (4, .int y4)] → W p l e room_1 s m #[Value.ref b] below meth c H locs cs sl (lw_Z below #[Value.ref b] s) (F0 m 1773 ls [])) → wp_law_c6 zd xs L xo oo y4 f n g bc bs C → cs + bc ≤ 601024 → sl + bs ≤ 7293034 → Fw G (fun q : Nat => s.heap.size ≤ q) f H → Fw G (fun q : Nat => s.heap.size ≤ q) (mf mo ad n g) H → dj f (mf mo ad n g) → va_S (fun q : Nat => s.heap.size ≤ q) s.heap H locs → lv_has ls 7 [(0, .ref b), (1, .ref xo), (2, .ref mo), (3, .ref oo), (4, .int y4)] → W p l e room_1 s m #[Value.ref b] below meth c H locs cs sl (lw_Z below #[Value.ref b] s) (F0 m 521 ls []) := by
  obtain ⟨hx, hb, hr, hml, hown, hts0, hXs, hbl, hlocks, hgv⟩ := id C0
  have hts : ∀ w ∈ wsL_law, w.before #[Value.ref b] s = true := fun w h => hts0 w (wsL_law_in w h)
  have hA : ∀ q : Nat, s.heap.size ≤ q → (fun q : Nat => s.heap.size ≤ q) q := fun _ h => h
  have hbA : ¬ (fun q : Nat => s.heap.size ≤ q) b := Nat.not_le.mpr hbl
  intro y4 f n g bc bs H locs ls cs sl hC h hbc hbs hF hF2 hd hS hl
  unfold wp_law_c6 at h
  refine lv_aload_n hx hb dL_law_521 rfl (lv_at hl 1 rfl) ?_
  refine lv_aload_n hx hb dL_law_522 rfl (lv_at hl 0 rfl) ?_
  refine lv_iload hx hb dL_law_523 (lv_at hl 4 rfl) ?_
  refine lv_iconst (v := (1 : Int32)) hx hb dL_law_525 (by decide) ?_
  refine lv_iadd hx hb dL_law_526 ?_
  obtain ⟨hi_i_2, h⟩ := h
  refine va_sld hx hb hXs hbl hbA hS hi_i_2 dL_law_527 ?_
  refine lv_topi (fun v_1 e_v_1 => ?_)
  have h := h v_1 e_v_1
  refine lv_aload_n hx hb dL_law_528 rfl (lv_at hl 3 rfl) ?_
  obtain ⟨ga_4, gb_5, hga_ga_4, hgb_ga_4, h⟩ := h
  refine fl_cSX_i (As := [.ref xo, .int v_1, .ref oo]) (rest := []) ⟨hx, hb, hml, hown, hts⟩ (cc_L_put l G hzd hlt h) (cwSX 3 hts ggL_law_L_put rfl rfl rfl (hts0 (.initialized RL) (List.mem_of_getElem? (i := 58) (by decide +kernel))) (hts0 (.methodLink RL 130 yL_put) (List.mem_of_getElem? (i := 784) (by decide +kernel))) (hts0 (.static yL_put) (List.mem_of_getElem? (i := 785) (by decide +kernel))) (by decide +kernel) ⟨Nat.le_of_ble_eq_true rfl, Nat.le_of_ble_eq_true rfl⟩) hK hZ hX hXN hF hF2 hd hS hA rfl hl.1 rfl (Nat.le_of_ble_eq_true rfl) dL_law_529 ⟨by show _ ≤ 601024; omega, by show _ ≤ 7293034; omega⟩ (fun r_3 f_6 H locs h hF hF2 hd hS => ?_)
  obtain ⟨cs_7, hcs⟩ : ∃ z, z = (cs + ga_4) := ⟨_, rfl⟩; obtain ⟨sl_8, hsl⟩ : ∃ z, z = (sl + gb_5) := ⟨_, rfl⟩
  have hbc : cs_7 + (bc - ga_4) ≤ 601024 := by omega
  have hbs : sl_8 + (bs - gb_5) ≤ 7293034 := by omega
  refine W.widen (k := cs_7) (n := sl_8) (by omega) (by omega) ?_
  clear hcs hsl
  refine lv_istore (lv' := [(5, .int r_3), (0, .ref b), (1, .ref xo), (2, .ref mo), (3, .ref oo), (4, .int y4)]) hx hb dL_law_532 hl (by decide) rfl (fun ls hl => ?_)
  refine lv_aload_n hx hb dL_law_534 rfl (lv_at hl 3 rfl) ?_
  refine lv_aload_n hx hb dL_law_535 rfl (lv_at hl 1 rfl) ?_
  refine lv_iload hx hb dL_law_536 (lv_at hl 5 rfl) ?_
  refine lv_iconst (v := (1 : Int32)) hx hb dL_law_538 (by decide) ?_
  refine lv_iadd hx hb dL_law_539 ?_
  obtain ⟨hi_i_10, h⟩ := h
  refine va_sld hx hb hXs hbl hbA hS hi_i_10 dL_law_540 ?_
  refine lv_topi (fun v_9 e_v_9 => ?_)
  have h := h v_9 e_v_9
  refine fl_cV_i (As := [.int v_9]) (rest := []) ⟨hx, hb, hml, hown, hts⟩ (cc_X9_put l G had h) (⟨callB_of 1 hts ggL_law_X9_put rfl rfl rfl (hts0 (.initialized RX9) (List.mem_of_getElem? (i := 77) (by decide +kernel))) (hts0 (.methodLink RL 132 yX9_put) (List.mem_of_getElem? (i := 1501) (by decide +kernel))) (by decide +kernel) ⟨Nat.le_of_ble_eq_true rfl, Nat.le_of_ble_eq_true rfl⟩, (hts0 (.instanceMethod yX9_put) (List.mem_of_getElem? (i := 1502) (by decide +kernel))), (hts0 (.selects RX9 yX9_put yX9_put) (List.mem_of_getElem? (i := 1503) (by decide +kernel)))⟩) rfl mf_obj hK hZ hF2 hF hd.symm hS hA rfl hl.1 rfl (Nat.le_of_ble_eq_true rfl) dL_law_541 ⟨by show _ + 0 ≤ 601024; omega, by show _ + 0 ≤ 7293034; omega⟩ (fun r_11 f9 H locs h hF2 hF hd hS => ?_)
  have hd := hd.symm
  obtain ⟨n_12, g_13, rfl, h⟩ := h
  simp only [Nat.add_zero]
  refine lv_istore (lv' := [(6, .int r_11), (5, .int r_3), (0, .ref b), (1, .ref xo), (2, .ref mo), (3, .ref oo), (4, .int y4)]) hx hb dL_law_544 hl (by decide) rfl (fun ls hl => ?_)
  refine lv_aload_n hx hb dL_law_546 rfl (lv_at hl 4 rfl) ?_
  refine fl_cV_i (As := []) (rest := []) ⟨hx, hb, hml, hown, hts⟩ (cc_X9_thrown l G had h) (⟨callB_of 0 hts ggL_law_X9_thrown rfl rfl rfl (hts0 (.initialized RX9) (List.mem_of_getElem? (i := 77) (by decide +kernel))) (hts0 (.methodLink RL 108 yX9_thrown) (List.mem_of_getElem? (i := 1465) (by decide +kernel))) (by decide +kernel) ⟨Nat.le_of_ble_eq_true rfl, Nat.le_of_ble_eq_true rfl⟩, (hts0 (.instanceMethod yX9_thrown) (List.mem_of_getElem? (i := 1466) (by decide +kernel))), (hts0 (.selects RX9 yX9_thrown yX9_thrown) (List.mem_of_getElem? (i := 1467) (by decide +kernel)))⟩) rfl mf_obj hK hZ hF2 hF hd.symm hS hA rfl hl.1 rfl (Nat.le_of_ble_eq_true rfl) dL_law_547 ⟨by show _ + 0 ≤ 601024; omega, by show _ + 0 ≤ 7293034; omega⟩ (fun r_14 f9 H locs h hF2 hF hd hS => ?_)
  have hd := hd.symm
  obtain ⟨h, e9⟩ := h; rw [e9] at hF2 hd; clear e9
  simp only [Nat.add_zero]
  refine lv_iload hx hb dL_law_550 (lv_at hl 1 rfl) ?_
  obtain ⟨h1, h2⟩ := h
  refine lv_icmp_eq (tgt := 557) hx hb dL_law_552 (by decide) (fun c_15 => ?_) (fun c_15 => ?_)
  · have h := h1 c_15
    refine lv_iload hx hb dL_law_557 (lv_at hl 1 rfl) ?_
    obtain ⟨h1, h2⟩ := h
    refine lv_if_ne (tgt := 581) hx hb dL_law_559 (by decide) (fun c_16 => ?_) (fun c_16 => ?_)
    · have h := h1 c_16
      refine lv_goto (tgt := 1773) hx hb dL_law_581 (by decide) ?_
      exact hC y4 f_6 n_12 g_13 (bc - ga_4) (bs - gb_5) _ _ _ _ _ h hbc hbs hF hF2 hd hS (lv_sub hl [2, 3, 4, 5, 6] rfl)
    · have h := h2 c_16
      refine lv_aload_n hx hb dL_law_562 rfl (lv_at hl 5 rfl) ?_
      refine lv_iconst (v := (0 : Int32)) hx hb dL_law_563 (by decide) ?_
      obtain ⟨n_q_18, q_18, he_q_18, hi_q_18, h⟩ := h
      refine fw_lald hx hb hK hF he_q_18 hi_q_18 dL_law_564 ?_
      refine lv_topl (fun v_17 e_v_17 => ?_)
      have h := h v_17 e_v_17
      refine lv_iload hx hb dL_law_565 (lv_at hl 0 rfl) ?_
      obtain ⟨h1, h2⟩ := h
      refine lv_if_eq (tgt := 574) hx hb dL_law_567 (by decide) (fun c_19 => ?_) (fun c_19 => ?_)
      · have h := h1 c_19
        refine lv_lconst (v := (0 : Int64)) hx hb dL_law_574 (by decide) ?_
        refine W.lcmp hx hb dL_law_575 ?_
        obtain ⟨h1, h2⟩ := h
        refine lv_if_eq (tgt := 581) hx hb dL_law_576 (by decide) (fun c_21 => ?_) (fun c_21 => ?_)
        · have h := h1 c_21
          refine lv_goto (tgt := 1773) hx hb dL_law_581 (by decide) ?_
          exact hC y4 f_6 n_12 g_13 (bc - ga_4) (bs - gb_5) _ _ _ _ _ h hbc hbs hF hF2 hd hS (lv_sub hl [2, 3, 4, 5, 6] rfl)
        · have h := h2 c_21
          refine lv_iconst (v := (0 : Int32)) hx hb dL_law_579 (by decide) ?_
          exact h.elim
      · have h := h2 c_19
        refine lv_lconst (v := (1 : Int64)) hx hb dL_law_570 (by decide) ?_
        refine lv_goto (tgt := 575) hx hb dL_law_571 (by decide) ?_
        refine W.lcmp hx hb dL_law_575 ?_
        obtain ⟨h1, h2⟩ := h
        refine lv_if_eq (tgt := 581) hx hb dL_law_576 (by decide) (fun c_23 => ?_) (fun c_23 => ?_)
        · have h := h1 c_23
          refine lv_goto (tgt := 1773) hx hb dL_law_581 (by decide) ?_
          exact hC y4 f_6 n_12 g_13 (bc - ga_4) (bs - gb_5) _ _ _ _ _ h hbc hbs hF hF2 hd hS (lv_sub hl [2, 3, 4, 5, 6] rfl)
        · have h := h2 c_23
          refine lv_iconst (v := (0 : Int32)) hx hb dL_law_579 (by decide) ?_
          exact h.elim
  · have h := h2 c_15
    refine lv_iconst (v := (0 : Int32)) hx hb dL_law_555 (by decide) ?_
    exact h.elim
def wp_law_c7 (zd : Nat) (xs : Nat → Int32) (L xo oo : Nat) (y4 : Int32) (f : FT) (n : Nat → Int32) (g : Nat → Nat → Int32) (bc bs : Nat) (C : Int32 × FT × (Nat → Int32) × (Nat → Nat → Int32) × Nat × Nat → Prop) : Prop :=
  ∃ ga_2 gb_3 : Nat, ga_2 ≤ bc ∧ gb_3 ≤ bs ∧ wp_L_get xo oo f ga_2 gb_3 (fun r_1 f_4 => wp_X9_get  n g (fun r_7 n_8 g_9 => wp_X9_thrown  n_8 g_9 (fun r_10 => ((r_10 = r_1 → ((¬ r_1 = (0 : Int32) → C (y4, f_4, n_8, g_9, (bc - ga_2), (bs - gb_3))) ∧
 (r_1 = (0 : Int32) → aJ f_4 oo (0 : Int32) fun v_13 => (((lg_cmp v_13 (Int32.toInt64 r_7)) = (0 : Int32) → C (y4, f_4, n_8, g_9, (bc - ga_2), (bs - gb_3))) ∧
 (¬ ((lg_cmp v_13 (Int32.toInt64 r_7)) = (0 : Int32)) → False))))) ∧
 (¬ (r_10 = r_1) → False)))))
set_option maxHeartbeats 4000000 in
set_option maxRecDepth 100000 in
theorem law_c7 {p : Program} {l : Launch} {e : Env} {s : State} {m : MethodId} {below : List Frame} {meth : Method} {c : Code} {b L : Nat} {xs : Nat → Int32} (hlt : l.stackTraces = false) (C0 : lw_At p s m meth c b L xs) {G : GG} (hK : FK G s) (hZ : FZ G (fun q : Nat => s.heap.size ≤ q) s s.heap) (hX : FX9 G (fun q : Nat => s.heap.size ≤ q) s s.heap) (hXN : FXN s) {zd : Nat} (hzd : G.2.2 0 = zd) {xo mo oo : Nat} {ad : Nat → Nat} (had : MAd mo ad) {C : Int32 × FT × (Nat → Int32) × (Nat → Nat → Int32) × Nat × Nat → Prop} : ∀ (y4 : Int32) (f : FT) (n : Nat → Int32) (g : Nat → Nat → Int32) (bc bs : Nat) (H : Heap) (locs : List Loc) (ls : Array Slot) (cs sl : Nat), (∀ (y4 : Int32) (f : FT) (n : Nat → Int32) (g : Nat → Nat → Int32) (bc bs : Nat) (H : Heap) (locs : List Loc) (ls : Array Slot) (cs sl : Nat), C (y4, f, n, g, bc, bs) → cs + bc ≤ 601024 → sl + bs ≤ 7293034 → Fw G (fun q : Nat => s.heap.size ≤ q) f H → Fw G (fun q : Nat => s.heap.size ≤ q) (mf mo ad n g) H → dj f (mf mo ad n g) → va_S (fun q : Nat => s.heap.size ≤ q) s.heap H locs → lv_has ls 7 [(0, .ref b), (1, .ref xo), (2, .ref mo), (3, .ref oo), (4, .int y4)] → W p l e room_1 s m #[Value.ref b] below meth c H locs cs sl (lw_Z below #[Value.ref b] s) (F0 m 1773 ls [])) → wp_law_c7 zd xs L xo oo y4 f n g bc bs C → cs + bc ≤ 601024 → sl + bs ≤ 7293034 → Fw G (fun q : Nat => s.heap.size ≤ q) f H → Fw G (fun q : Nat => s.heap.size ≤ q) (mf mo ad n g) H → dj f (mf mo ad n g) → va_S (fun q : Nat => s.heap.size ≤ q) s.heap H locs → lv_has ls 7 [(0, .ref b), (1, .ref xo), (2, .ref mo), (3, .ref oo), (4, .int y4)] → W p l e room_1 s m #[Value.ref b] below meth c H locs cs sl (lw_Z below #[Value.ref b] s) (F0 m 584 ls []) := by
  obtain ⟨hx, hb, hr, hml, hown, hts0, hXs, hbl, hlocks, hgv⟩ := id C0
  have hts : ∀ w ∈ wsL_law, w.before #[Value.ref b] s = true := fun w h => hts0 w (wsL_law_in w h)
  have hA : ∀ q : Nat, s.heap.size ≤ q → (fun q : Nat => s.heap.size ≤ q) q := fun _ h => h
  have hbA : ¬ (fun q : Nat => s.heap.size ≤ q) b := Nat.not_le.mpr hbl
  intro y4 f n g bc bs H locs ls cs sl hC h hbc hbs hF hF2 hd hS hl
  unfold wp_law_c7 at h
  refine lv_aload_n hx hb dL_law_584 rfl (lv_at hl 1 rfl) ?_
  refine lv_aload_n hx hb dL_law_585 rfl (lv_at hl 3 rfl) ?_
  obtain ⟨ga_2, gb_3, hga_ga_2, hgb_ga_2, h⟩ := h
  refine fl_cSX_i (As := [.ref xo, .ref oo]) (rest := []) ⟨hx, hb, hml, hown, hts⟩ (cc_L_get l G hlt h) (cwSX 2 hts ggL_law_L_get rfl rfl rfl (hts0 (.initialized RL) (List.mem_of_getElem? (i := 58) (by decide +kernel))) (hts0 (.methodLink RL 133 yL_get) (List.mem_of_getElem? (i := 1103) (by decide +kernel))) (hts0 (.static yL_get) (List.mem_of_getElem? (i := 1104) (by decide +kernel))) (by decide +kernel) ⟨Nat.le_of_ble_eq_true rfl, Nat.le_of_ble_eq_true rfl⟩) hK hZ hX hXN hF hF2 hd hS hA rfl hl.1 rfl (Nat.le_of_ble_eq_true rfl) dL_law_586 ⟨by show _ ≤ 601024; omega, by show _ ≤ 7293034; omega⟩ (fun r_1 f_4 H locs h hF hF2 hd hS => ?_)
  obtain ⟨cs_5, hcs⟩ : ∃ z, z = (cs + ga_2) := ⟨_, rfl⟩; obtain ⟨sl_6, hsl⟩ : ∃ z, z = (sl + gb_3) := ⟨_, rfl⟩
  have hbc : cs_5 + (bc - ga_2) ≤ 601024 := by omega
  have hbs : sl_6 + (bs - gb_3) ≤ 7293034 := by omega
  refine W.widen (k := cs_5) (n := sl_6) (by omega) (by omega) ?_
  clear hcs hsl
  refine lv_istore (lv' := [(5, .int r_1), (0, .ref b), (1, .ref xo), (2, .ref mo), (3, .ref oo), (4, .int y4)]) hx hb dL_law_589 hl (by decide) rfl (fun ls hl => ?_)
  refine lv_aload_n hx hb dL_law_591 rfl (lv_at hl 3 rfl) ?_
  refine fl_cV_i (As := []) (rest := []) ⟨hx, hb, hml, hown, hts⟩ (cc_X9_get l G had h) (⟨callB_of 0 hts ggL_law_X9_get rfl rfl rfl (hts0 (.initialized RX9) (List.mem_of_getElem? (i := 77) (by decide +kernel))) (hts0 (.methodLink RL 136 yX9_get) (List.mem_of_getElem? (i := 1602) (by decide +kernel))) (by decide +kernel) ⟨Nat.le_of_ble_eq_true rfl, Nat.le_of_ble_eq_true rfl⟩, (hts0 (.instanceMethod yX9_get) (List.mem_of_getElem? (i := 1603) (by decide +kernel))), (hts0 (.selects RX9 yX9_get yX9_get) (List.mem_of_getElem? (i := 1604) (by decide +kernel)))⟩) rfl mf_obj hK hZ hF2 hF hd.symm hS hA rfl hl.1 rfl (Nat.le_of_ble_eq_true rfl) dL_law_592 ⟨by show _ + 0 ≤ 601024; omega, by show _ + 0 ≤ 7293034; omega⟩ (fun r_7 f9 H locs h hF2 hF hd hS => ?_)
  have hd := hd.symm
  obtain ⟨n_8, g_9, rfl, h⟩ := h
  simp only [Nat.add_zero]
  refine lv_istore (lv' := [(6, .int r_7), (5, .int r_1), (0, .ref b), (1, .ref xo), (2, .ref mo), (3, .ref oo), (4, .int y4)]) hx hb dL_law_595 hl (by decide) rfl (fun ls hl => ?_)
  refine lv_aload_n hx hb dL_law_597 rfl (lv_at hl 4 rfl) ?_
  refine fl_cV_i (As := []) (rest := []) ⟨hx, hb, hml, hown, hts⟩ (cc_X9_thrown l G had h) (⟨callB_of 0 hts ggL_law_X9_thrown rfl rfl rfl (hts0 (.initialized RX9) (List.mem_of_getElem? (i := 77) (by decide +kernel))) (hts0 (.methodLink RL 108 yX9_thrown) (List.mem_of_getElem? (i := 1465) (by decide +kernel))) (by decide +kernel) ⟨Nat.le_of_ble_eq_true rfl, Nat.le_of_ble_eq_true rfl⟩, (hts0 (.instanceMethod yX9_thrown) (List.mem_of_getElem? (i := 1466) (by decide +kernel))), (hts0 (.selects RX9 yX9_thrown yX9_thrown) (List.mem_of_getElem? (i := 1467) (by decide +kernel)))⟩) rfl mf_obj hK hZ hF2 hF hd.symm hS hA rfl hl.1 rfl (Nat.le_of_ble_eq_true rfl) dL_law_598 ⟨by show _ + 0 ≤ 601024; omega, by show _ + 0 ≤ 7293034; omega⟩ (fun r_10 f9 H locs h hF2 hF hd hS => ?_)
  have hd := hd.symm
  obtain ⟨h, e9⟩ := h; rw [e9] at hF2 hd; clear e9
  simp only [Nat.add_zero]
  refine lv_iload hx hb dL_law_601 (lv_at hl 1 rfl) ?_
  obtain ⟨h1, h2⟩ := h
  refine lv_icmp_eq (tgt := 608) hx hb dL_law_603 (by decide) (fun c_11 => ?_) (fun c_11 => ?_)
  · have h := h1 c_11
    refine lv_iload hx hb dL_law_608 (lv_at hl 1 rfl) ?_
    obtain ⟨h1, h2⟩ := h
    refine lv_if_ne (tgt := 625) hx hb dL_law_610 (by decide) (fun c_12 => ?_) (fun c_12 => ?_)
    · have h := h1 c_12
      refine lv_goto (tgt := 1773) hx hb dL_law_625 (by decide) ?_
      exact hC y4 f_4 n_8 g_9 (bc - ga_2) (bs - gb_3) _ _ _ _ _ h hbc hbs hF hF2 hd hS (lv_sub hl [2, 3, 4, 5, 6] rfl)
    · have h := h2 c_12
      refine lv_aload_n hx hb dL_law_613 rfl (lv_at hl 5 rfl) ?_
      refine lv_iconst (v := (0 : Int32)) hx hb dL_law_614 (by decide) ?_
      obtain ⟨n_q_14, q_14, he_q_14, hi_q_14, h⟩ := h
      refine fw_lald hx hb hK hF he_q_14 hi_q_14 dL_law_615 ?_
      refine lv_topl (fun v_13 e_v_13 => ?_)
      have h := h v_13 e_v_13
      refine lv_iload hx hb dL_law_616 (lv_at hl 0 rfl) ?_
      refine lv_i2l (v := (Int32.toInt64 r_7)) hx hb dL_law_618 rfl ?_
      refine W.lcmp hx hb dL_law_619 ?_
      obtain ⟨h1, h2⟩ := h
      refine lv_if_eq (tgt := 625) hx hb dL_law_620 (by decide) (fun c_16 => ?_) (fun c_16 => ?_)
      · have h := h1 c_16
        refine lv_goto (tgt := 1773) hx hb dL_law_625 (by decide) ?_
        exact hC y4 f_4 n_8 g_9 (bc - ga_2) (bs - gb_3) _ _ _ _ _ h hbc hbs hF hF2 hd hS (lv_sub hl [2, 3, 4, 5, 6] rfl)
      · have h := h2 c_16
        refine lv_iconst (v := (0 : Int32)) hx hb dL_law_623 (by decide) ?_
        exact h.elim
  · have h := h2 c_11
    refine lv_iconst (v := (0 : Int32)) hx hb dL_law_606 (by decide) ?_
    exact h.elim
def wp_law_c8 (zd : Nat) (xs : Nat → Int32) (L xo oo : Nat) (y4 : Int32) (f : FT) (n : Nat → Int32) (g : Nat → Nat → Int32) (bc bs : Nat) (C : Int32 × FT × (Nat → Int32) × (Nat → Nat → Int32) × Nat × Nat → Prop) : Prop :=
  ∃ ga_2 gb_3 : Nat, ga_2 ≤ bc ∧ gb_3 ≤ bs ∧ wp_L_remove xo oo f ga_2 gb_3 (fun r_1 f_4 => wp_X9_remove  n g (fun r_7 n_8 g_9 => wp_X9_thrown  n_8 g_9 (fun r_10 => ((r_10 = r_1 → ((¬ r_1 = (0 : Int32) → C (y4, f_4, n_8, g_9, (bc - ga_2), (bs - gb_3))) ∧
 (r_1 = (0 : Int32) → aJ f_4 oo (0 : Int32) fun v_13 => (((lg_cmp v_13 (Int32.toInt64 r_7)) = (0 : Int32) → C (y4, f_4, n_8, g_9, (bc - ga_2), (bs - gb_3))) ∧
 (¬ ((lg_cmp v_13 (Int32.toInt64 r_7)) = (0 : Int32)) → False))))) ∧
 (¬ (r_10 = r_1) → False)))))
set_option maxHeartbeats 4000000 in
set_option maxRecDepth 100000 in
theorem law_c8 {p : Program} {l : Launch} {e : Env} {s : State} {m : MethodId} {below : List Frame} {meth : Method} {c : Code} {b L : Nat} {xs : Nat → Int32} (hlt : l.stackTraces = false) (C0 : lw_At p s m meth c b L xs) {G : GG} (hK : FK G s) (hZ : FZ G (fun q : Nat => s.heap.size ≤ q) s s.heap) (hX : FX9 G (fun q : Nat => s.heap.size ≤ q) s s.heap) (hXN : FXN s) {zd : Nat} (hzd : G.2.2 0 = zd) {xo mo oo : Nat} {ad : Nat → Nat} (had : MAd mo ad) {C : Int32 × FT × (Nat → Int32) × (Nat → Nat → Int32) × Nat × Nat → Prop} : ∀ (y4 : Int32) (f : FT) (n : Nat → Int32) (g : Nat → Nat → Int32) (bc bs : Nat) (H : Heap) (locs : List Loc) (ls : Array Slot) (cs sl : Nat), (∀ (y4 : Int32) (f : FT) (n : Nat → Int32) (g : Nat → Nat → Int32) (bc bs : Nat) (H : Heap) (locs : List Loc) (ls : Array Slot) (cs sl : Nat), C (y4, f, n, g, bc, bs) → cs + bc ≤ 601024 → sl + bs ≤ 7293034 → Fw G (fun q : Nat => s.heap.size ≤ q) f H → Fw G (fun q : Nat => s.heap.size ≤ q) (mf mo ad n g) H → dj f (mf mo ad n g) → va_S (fun q : Nat => s.heap.size ≤ q) s.heap H locs → lv_has ls 7 [(0, .ref b), (1, .ref xo), (2, .ref mo), (3, .ref oo), (4, .int y4)] → W p l e room_1 s m #[Value.ref b] below meth c H locs cs sl (lw_Z below #[Value.ref b] s) (F0 m 1773 ls [])) → wp_law_c8 zd xs L xo oo y4 f n g bc bs C → cs + bc ≤ 601024 → sl + bs ≤ 7293034 → Fw G (fun q : Nat => s.heap.size ≤ q) f H → Fw G (fun q : Nat => s.heap.size ≤ q) (mf mo ad n g) H → dj f (mf mo ad n g) → va_S (fun q : Nat => s.heap.size ≤ q) s.heap H locs → lv_has ls 7 [(0, .ref b), (1, .ref xo), (2, .ref mo), (3, .ref oo), (4, .int y4)] → W p l e room_1 s m #[Value.ref b] below meth c H locs cs sl (lw_Z below #[Value.ref b] s) (F0 m 628 ls []) := by
  obtain ⟨hx, hb, hr, hml, hown, hts0, hXs, hbl, hlocks, hgv⟩ := id C0
  have hts : ∀ w ∈ wsL_law, w.before #[Value.ref b] s = true := fun w h => hts0 w (wsL_law_in w h)
  have hA : ∀ q : Nat, s.heap.size ≤ q → (fun q : Nat => s.heap.size ≤ q) q := fun _ h => h
  have hbA : ¬ (fun q : Nat => s.heap.size ≤ q) b := Nat.not_le.mpr hbl
  intro y4 f n g bc bs H locs ls cs sl hC h hbc hbs hF hF2 hd hS hl
  unfold wp_law_c8 at h
  refine lv_aload_n hx hb dL_law_628 rfl (lv_at hl 1 rfl) ?_
  refine lv_aload_n hx hb dL_law_629 rfl (lv_at hl 3 rfl) ?_
  obtain ⟨ga_2, gb_3, hga_ga_2, hgb_ga_2, h⟩ := h
  refine fl_cSX_i (As := [.ref xo, .ref oo]) (rest := []) ⟨hx, hb, hml, hown, hts⟩ (cc_L_remove l G hlt h) (cwSX 2 hts ggL_law_L_remove rfl rfl rfl (hts0 (.initialized RL) (List.mem_of_getElem? (i := 58) (by decide +kernel))) (hts0 (.methodLink RL 137 yL_remove) (List.mem_of_getElem? (i := 1132) (by decide +kernel))) (hts0 (.static yL_remove) (List.mem_of_getElem? (i := 1133) (by decide +kernel))) (by decide +kernel) ⟨Nat.le_of_ble_eq_true rfl, Nat.le_of_ble_eq_true rfl⟩) hK hZ hX hXN hF hF2 hd hS hA rfl hl.1 rfl (Nat.le_of_ble_eq_true rfl) dL_law_630 ⟨by show _ ≤ 601024; omega, by show _ ≤ 7293034; omega⟩ (fun r_1 f_4 H locs h hF hF2 hd hS => ?_)
  obtain ⟨cs_5, hcs⟩ : ∃ z, z = (cs + ga_2) := ⟨_, rfl⟩; obtain ⟨sl_6, hsl⟩ : ∃ z, z = (sl + gb_3) := ⟨_, rfl⟩
  have hbc : cs_5 + (bc - ga_2) ≤ 601024 := by omega
  have hbs : sl_6 + (bs - gb_3) ≤ 7293034 := by omega
  refine W.widen (k := cs_5) (n := sl_6) (by omega) (by omega) ?_
  clear hcs hsl
  refine lv_istore (lv' := [(5, .int r_1), (0, .ref b), (1, .ref xo), (2, .ref mo), (3, .ref oo), (4, .int y4)]) hx hb dL_law_633 hl (by decide) rfl (fun ls hl => ?_)
  refine lv_aload_n hx hb dL_law_635 rfl (lv_at hl 3 rfl) ?_
  refine fl_cV_i (As := []) (rest := []) ⟨hx, hb, hml, hown, hts⟩ (cc_X9_remove l G had h) (⟨callB_of 0 hts ggL_law_X9_remove rfl rfl rfl (hts0 (.initialized RX9) (List.mem_of_getElem? (i := 77) (by decide +kernel))) (hts0 (.methodLink RL 139 yX9_remove) (List.mem_of_getElem? (i := 1606) (by decide +kernel))) (by decide +kernel) ⟨Nat.le_of_ble_eq_true rfl, Nat.le_of_ble_eq_true rfl⟩, (hts0 (.instanceMethod yX9_remove) (List.mem_of_getElem? (i := 1607) (by decide +kernel))), (hts0 (.selects RX9 yX9_remove yX9_remove) (List.mem_of_getElem? (i := 1608) (by decide +kernel)))⟩) rfl mf_obj hK hZ hF2 hF hd.symm hS hA rfl hl.1 rfl (Nat.le_of_ble_eq_true rfl) dL_law_636 ⟨by show _ + 0 ≤ 601024; omega, by show _ + 0 ≤ 7293034; omega⟩ (fun r_7 f9 H locs h hF2 hF hd hS => ?_)
  have hd := hd.symm
  obtain ⟨n_8, g_9, rfl, h⟩ := h
  simp only [Nat.add_zero]
  refine lv_istore (lv' := [(6, .int r_7), (5, .int r_1), (0, .ref b), (1, .ref xo), (2, .ref mo), (3, .ref oo), (4, .int y4)]) hx hb dL_law_639 hl (by decide) rfl (fun ls hl => ?_)
  refine lv_aload_n hx hb dL_law_641 rfl (lv_at hl 4 rfl) ?_
  refine fl_cV_i (As := []) (rest := []) ⟨hx, hb, hml, hown, hts⟩ (cc_X9_thrown l G had h) (⟨callB_of 0 hts ggL_law_X9_thrown rfl rfl rfl (hts0 (.initialized RX9) (List.mem_of_getElem? (i := 77) (by decide +kernel))) (hts0 (.methodLink RL 108 yX9_thrown) (List.mem_of_getElem? (i := 1465) (by decide +kernel))) (by decide +kernel) ⟨Nat.le_of_ble_eq_true rfl, Nat.le_of_ble_eq_true rfl⟩, (hts0 (.instanceMethod yX9_thrown) (List.mem_of_getElem? (i := 1466) (by decide +kernel))), (hts0 (.selects RX9 yX9_thrown yX9_thrown) (List.mem_of_getElem? (i := 1467) (by decide +kernel)))⟩) rfl mf_obj hK hZ hF2 hF hd.symm hS hA rfl hl.1 rfl (Nat.le_of_ble_eq_true rfl) dL_law_642 ⟨by show _ + 0 ≤ 601024; omega, by show _ + 0 ≤ 7293034; omega⟩ (fun r_10 f9 H locs h hF2 hF hd hS => ?_)
  have hd := hd.symm
  obtain ⟨h, e9⟩ := h; rw [e9] at hF2 hd; clear e9
  simp only [Nat.add_zero]
  refine lv_iload hx hb dL_law_645 (lv_at hl 1 rfl) ?_
  obtain ⟨h1, h2⟩ := h
  refine lv_icmp_eq (tgt := 652) hx hb dL_law_647 (by decide) (fun c_11 => ?_) (fun c_11 => ?_)
  · have h := h1 c_11
    refine lv_iload hx hb dL_law_652 (lv_at hl 1 rfl) ?_
    obtain ⟨h1, h2⟩ := h
    refine lv_if_ne (tgt := 669) hx hb dL_law_654 (by decide) (fun c_12 => ?_) (fun c_12 => ?_)
    · have h := h1 c_12
      refine lv_goto (tgt := 1773) hx hb dL_law_669 (by decide) ?_
      exact hC y4 f_4 n_8 g_9 (bc - ga_2) (bs - gb_3) _ _ _ _ _ h hbc hbs hF hF2 hd hS (lv_sub hl [2, 3, 4, 5, 6] rfl)
    · have h := h2 c_12
      refine lv_aload_n hx hb dL_law_657 rfl (lv_at hl 5 rfl) ?_
      refine lv_iconst (v := (0 : Int32)) hx hb dL_law_658 (by decide) ?_
      obtain ⟨n_q_14, q_14, he_q_14, hi_q_14, h⟩ := h
      refine fw_lald hx hb hK hF he_q_14 hi_q_14 dL_law_659 ?_
      refine lv_topl (fun v_13 e_v_13 => ?_)
      have h := h v_13 e_v_13
      refine lv_iload hx hb dL_law_660 (lv_at hl 0 rfl) ?_
      refine lv_i2l (v := (Int32.toInt64 r_7)) hx hb dL_law_662 rfl ?_
      refine W.lcmp hx hb dL_law_663 ?_
      obtain ⟨h1, h2⟩ := h
      refine lv_if_eq (tgt := 669) hx hb dL_law_664 (by decide) (fun c_16 => ?_) (fun c_16 => ?_)
      · have h := h1 c_16
        refine lv_goto (tgt := 1773) hx hb dL_law_669 (by decide) ?_
        exact hC y4 f_4 n_8 g_9 (bc - ga_2) (bs - gb_3) _ _ _ _ _ h hbc hbs hF hF2 hd hS (lv_sub hl [2, 3, 4, 5, 6] rfl)
      · have h := h2 c_16
        refine lv_iconst (v := (0 : Int32)) hx hb dL_law_667 (by decide) ?_
        exact h.elim
  · have h := h2 c_11
    refine lv_iconst (v := (0 : Int32)) hx hb dL_law_650 (by decide) ?_
    exact h.elim
def wp_law_c9 (zd : Nat) (xs : Nat → Int32) (L xo oo : Nat) (y4 : Int32) (f : FT) (n : Nat → Int32) (g : Nat → Nat → Int32) (bc bs : Nat) (C : Int32 × FT × (Nat → Int32) × (Nat → Nat → Int32) × Nat × Nat → Prop) : Prop :=
  isO f xo 11 ∧ wp_X8_removeRange xo f (fun r_1 f_2 => wp_X9_removeRange  n g (fun r_3 n_4 g_5 => ((r_1 = r_3 → C (y4, f_2, n_4, g_5, bc, bs)) ∧
 (¬ (r_1 = r_3) → False))))
set_option maxHeartbeats 4000000 in
set_option maxRecDepth 100000 in
theorem law_c9 {p : Program} {l : Launch} {e : Env} {s : State} {m : MethodId} {below : List Frame} {meth : Method} {c : Code} {b L : Nat} {xs : Nat → Int32} (hlt : l.stackTraces = false) (C0 : lw_At p s m meth c b L xs) {G : GG} (hK : FK G s) (hZ : FZ G (fun q : Nat => s.heap.size ≤ q) s s.heap) (hX : FX9 G (fun q : Nat => s.heap.size ≤ q) s s.heap) (hXN : FXN s) {zd : Nat} (hzd : G.2.2 0 = zd) {xo mo oo : Nat} {ad : Nat → Nat} (had : MAd mo ad) {C : Int32 × FT × (Nat → Int32) × (Nat → Nat → Int32) × Nat × Nat → Prop} : ∀ (y4 : Int32) (f : FT) (n : Nat → Int32) (g : Nat → Nat → Int32) (bc bs : Nat) (H : Heap) (locs : List Loc) (ls : Array Slot) (cs sl : Nat), (∀ (y4 : Int32) (f : FT) (n : Nat → Int32) (g : Nat → Nat → Int32) (bc bs : Nat) (H : Heap) (locs : List Loc) (ls : Array Slot) (cs sl : Nat), C (y4, f, n, g, bc, bs) → cs + bc ≤ 601024 → sl + bs ≤ 7293034 → Fw G (fun q : Nat => s.heap.size ≤ q) f H → Fw G (fun q : Nat => s.heap.size ≤ q) (mf mo ad n g) H → dj f (mf mo ad n g) → va_S (fun q : Nat => s.heap.size ≤ q) s.heap H locs → lv_has ls 7 [(0, .ref b), (1, .ref xo), (2, .ref mo), (3, .ref oo), (4, .int y4)] → W p l e room_1 s m #[Value.ref b] below meth c H locs cs sl (lw_Z below #[Value.ref b] s) (F0 m 1773 ls [])) → wp_law_c9 zd xs L xo oo y4 f n g bc bs C → cs + bc ≤ 601024 → sl + bs ≤ 7293034 → Fw G (fun q : Nat => s.heap.size ≤ q) f H → Fw G (fun q : Nat => s.heap.size ≤ q) (mf mo ad n g) H → dj f (mf mo ad n g) → va_S (fun q : Nat => s.heap.size ≤ q) s.heap H locs → lv_has ls 7 [(0, .ref b), (1, .ref xo), (2, .ref mo), (3, .ref oo), (4, .int y4)] → W p l e room_1 s m #[Value.ref b] below meth c H locs cs sl (lw_Z below #[Value.ref b] s) (F0 m 672 ls []) := by
  obtain ⟨hx, hb, hr, hml, hown, hts0, hXs, hbl, hlocks, hgv⟩ := id C0
  have hts : ∀ w ∈ wsL_law, w.before #[Value.ref b] s = true := fun w h => hts0 w (wsL_law_in w h)
  have hA : ∀ q : Nat, s.heap.size ≤ q → (fun q : Nat => s.heap.size ≤ q) q := fun _ h => h
  have hbA : ¬ (fun q : Nat => s.heap.size ≤ q) b := Nat.not_le.mpr hbl
  intro y4 f n g bc bs H locs ls cs sl hC h hbc hbs hF hF2 hd hS hl
  unfold wp_law_c9 at h
  refine lv_aload_n hx hb dL_law_672 rfl (lv_at hl 1 rfl) ?_
  obtain ⟨⟨fs_r_1, hrc_r_1⟩, h⟩ := h
  refine fl_cV_i (As := []) (rest := []) ⟨hx, hb, hml, hown, hts⟩ (cc_X8_removeRange l G h) (⟨callB_of 0 hts ggL_law_X8_removeRange rfl rfl rfl (hts0 (.initialized RX8) (List.mem_of_getElem? (i := 59) (by decide +kernel))) (hts0 (.methodLink RL 140 yX8_removeRange) (List.mem_of_getElem? (i := 437) (by decide +kernel))) (by decide +kernel) ⟨Nat.le_of_ble_eq_true rfl, Nat.le_of_ble_eq_true rfl⟩, (hts0 (.instanceMethod yX8_removeRange) (List.mem_of_getElem? (i := 438) (by decide +kernel))), (hts0 (.selects RX8 yX8_removeRange yX8_removeRange) (List.mem_of_getElem? (i := 439) (by decide +kernel)))⟩) rfl hrc_r_1 hK hZ hF hF2 hd hS hA rfl hl.1 rfl (Nat.le_of_ble_eq_true rfl) dL_law_673 ⟨by show _ + 0 ≤ 601024; omega, by show _ + 0 ≤ 7293034; omega⟩ (fun r_1 f_2 H locs h hF hF2 hd hS => ?_)
  simp only [Nat.add_zero]
  refine lv_aload_n hx hb dL_law_676 rfl (lv_at hl 2 rfl) ?_
  refine fl_cV_i (As := []) (rest := [.int r_1]) ⟨hx, hb, hml, hown, hts⟩ (cc_X9_removeRange l G had h) (⟨callB_of 0 hts ggL_law_X9_removeRange rfl rfl rfl (hts0 (.initialized RX9) (List.mem_of_getElem? (i := 77) (by decide +kernel))) (hts0 (.methodLink RL 143 yX9_removeRange) (List.mem_of_getElem? (i := 1622) (by decide +kernel))) (by decide +kernel) ⟨Nat.le_of_ble_eq_true rfl, Nat.le_of_ble_eq_true rfl⟩, (hts0 (.instanceMethod yX9_removeRange) (List.mem_of_getElem? (i := 1623) (by decide +kernel))), (hts0 (.selects RX9 yX9_removeRange yX9_removeRange) (List.mem_of_getElem? (i := 1624) (by decide +kernel)))⟩) rfl mf_obj hK hZ hF2 hF hd.symm hS hA rfl hl.1 rfl (Nat.le_of_ble_eq_true rfl) dL_law_677 ⟨by show _ + 0 ≤ 601024; omega, by show _ + 0 ≤ 7293034; omega⟩ (fun r_3 f9 H locs h hF2 hF hd hS => ?_)
  have hd := hd.symm
  obtain ⟨n_4, g_5, rfl, h⟩ := h
  simp only [Nat.add_zero]
  obtain ⟨h1, h2⟩ := h
  refine lv_icmp_eq (tgt := 1773) hx hb dL_law_680 (by decide) (fun c_6 => ?_) (fun c_6 => ?_)
  · have h := h1 c_6
    exact hC y4 f_2 n_4 g_5 bc bs _ _ _ _ _ h hbc hbs hF hF2 hd hS (lv_sub hl [0, 1, 2, 3, 4] rfl)
  · have h := h2 c_6
    refine lv_iconst (v := (0 : Int32)) hx hb dL_law_683 (by decide) ?_
    exact h.elim
def wp_law_c10 (zd : Nat) (xs : Nat → Int32) (L xo oo : Nat) (y4 : Int32) (f : FT) (n : Nat → Int32) (g : Nat → Nat → Int32) (bc bs : Nat) (C : Int32 × FT × (Nat → Int32) × (Nat → Nat → Int32) × Nat × Nat → Prop) : Prop :=
  isO f xo 11 ∧ wp_X8_size xo f (fun r_1 => wp_X9_size  n g (fun r_2 n_3 g_4 => ((r_1 = r_2 → C (y4, f, n_3, g_4, bc, bs)) ∧
 (¬ (r_1 = r_2) → False))))
set_option maxHeartbeats 4000000 in
set_option maxRecDepth 100000 in
theorem law_c10 {p : Program} {l : Launch} {e : Env} {s : State} {m : MethodId} {below : List Frame} {meth : Method} {c : Code} {b L : Nat} {xs : Nat → Int32} (hlt : l.stackTraces = false) (C0 : lw_At p s m meth c b L xs) {G : GG} (hK : FK G s) (hZ : FZ G (fun q : Nat => s.heap.size ≤ q) s s.heap) (hX : FX9 G (fun q : Nat => s.heap.size ≤ q) s s.heap) (hXN : FXN s) {zd : Nat} (hzd : G.2.2 0 = zd) {xo mo oo : Nat} {ad : Nat → Nat} (had : MAd mo ad) {C : Int32 × FT × (Nat → Int32) × (Nat → Nat → Int32) × Nat × Nat → Prop} : ∀ (y4 : Int32) (f : FT) (n : Nat → Int32) (g : Nat → Nat → Int32) (bc bs : Nat) (H : Heap) (locs : List Loc) (ls : Array Slot) (cs sl : Nat), (∀ (y4 : Int32) (f : FT) (n : Nat → Int32) (g : Nat → Nat → Int32) (bc bs : Nat) (H : Heap) (locs : List Loc) (ls : Array Slot) (cs sl : Nat), C (y4, f, n, g, bc, bs) → cs + bc ≤ 601024 → sl + bs ≤ 7293034 → Fw G (fun q : Nat => s.heap.size ≤ q) f H → Fw G (fun q : Nat => s.heap.size ≤ q) (mf mo ad n g) H → dj f (mf mo ad n g) → va_S (fun q : Nat => s.heap.size ≤ q) s.heap H locs → lv_has ls 7 [(0, .ref b), (1, .ref xo), (2, .ref mo), (3, .ref oo), (4, .int y4)] → W p l e room_1 s m #[Value.ref b] below meth c H locs cs sl (lw_Z below #[Value.ref b] s) (F0 m 1773 ls [])) → wp_law_c10 zd xs L xo oo y4 f n g bc bs C → cs + bc ≤ 601024 → sl + bs ≤ 7293034 → Fw G (fun q : Nat => s.heap.size ≤ q) f H → Fw G (fun q : Nat => s.heap.size ≤ q) (mf mo ad n g) H → dj f (mf mo ad n g) → va_S (fun q : Nat => s.heap.size ≤ q) s.heap H locs → lv_has ls 7 [(0, .ref b), (1, .ref xo), (2, .ref mo), (3, .ref oo), (4, .int y4)] → W p l e room_1 s m #[Value.ref b] below meth c H locs cs sl (lw_Z below #[Value.ref b] s) (F0 m 685 ls []) := by
  obtain ⟨hx, hb, hr, hml, hown, hts0, hXs, hbl, hlocks, hgv⟩ := id C0
  have hts : ∀ w ∈ wsL_law, w.before #[Value.ref b] s = true := fun w h => hts0 w (wsL_law_in w h)
  have hA : ∀ q : Nat, s.heap.size ≤ q → (fun q : Nat => s.heap.size ≤ q) q := fun _ h => h
  have hbA : ¬ (fun q : Nat => s.heap.size ≤ q) b := Nat.not_le.mpr hbl
  intro y4 f n g bc bs H locs ls cs sl hC h hbc hbs hF hF2 hd hS hl
  unfold wp_law_c10 at h
  refine lv_aload_n hx hb dL_law_685 rfl (lv_at hl 1 rfl) ?_
  obtain ⟨⟨fs_r_1, hrc_r_1⟩, h⟩ := h
  refine fl_cV_i (As := []) (rest := []) ⟨hx, hb, hml, hown, hts⟩ (cc_X8_size l G h) (⟨callB_of 0 hts ggL_law_X8_size rfl rfl rfl (hts0 (.initialized RX8) (List.mem_of_getElem? (i := 59) (by decide +kernel))) (hts0 (.methodLink RL 144 yX8_size) (List.mem_of_getElem? (i := 553) (by decide +kernel))) (by decide +kernel) ⟨Nat.le_of_ble_eq_true rfl, Nat.le_of_ble_eq_true rfl⟩, (hts0 (.instanceMethod yX8_size) (List.mem_of_getElem? (i := 554) (by decide +kernel))), (hts0 (.selects RX8 yX8_size yX8_size) (List.mem_of_getElem? (i := 555) (by decide +kernel)))⟩) rfl hrc_r_1 hK hZ hF hF2 hd hS hA rfl hl.1 rfl (Nat.le_of_ble_eq_true rfl) dL_law_686 ⟨by show _ + 0 ≤ 601024; omega, by show _ + 0 ≤ 7293034; omega⟩ (fun r_1 f9 H locs h hF hF2 hd hS => ?_)
  obtain ⟨h, e9⟩ := h; rw [e9] at hF hd; clear e9
  simp only [Nat.add_zero]
  refine lv_aload_n hx hb dL_law_689 rfl (lv_at hl 2 rfl) ?_
  refine fl_cV_i (As := []) (rest := [.int r_1]) ⟨hx, hb, hml, hown, hts⟩ (cc_X9_size l G had h) (⟨callB_of 0 hts ggL_law_X9_size rfl rfl rfl (hts0 (.initialized RX9) (List.mem_of_getElem? (i := 77) (by decide +kernel))) (hts0 (.methodLink RL 147 yX9_size) (List.mem_of_getElem? (i := 1630) (by decide +kernel))) (by decide +kernel) ⟨Nat.le_of_ble_eq_true rfl, Nat.le_of_ble_eq_true rfl⟩, (hts0 (.instanceMethod yX9_size) (List.mem_of_getElem? (i := 1631) (by decide +kernel))), (hts0 (.selects RX9 yX9_size yX9_size) (List.mem_of_getElem? (i := 1632) (by decide +kernel)))⟩) rfl mf_obj hK hZ hF2 hF hd.symm hS hA rfl hl.1 rfl (Nat.le_of_ble_eq_true rfl) dL_law_690 ⟨by show _ + 0 ≤ 601024; omega, by show _ + 0 ≤ 7293034; omega⟩ (fun r_2 f9 H locs h hF2 hF hd hS => ?_)
  have hd := hd.symm
  obtain ⟨n_3, g_4, rfl, h⟩ := h
  simp only [Nat.add_zero]
  obtain ⟨h1, h2⟩ := h
  refine lv_icmp_eq (tgt := 1773) hx hb dL_law_693 (by decide) (fun c_5 => ?_) (fun c_5 => ?_)
  · have h := h1 c_5
    exact hC y4 f n_3 g_4 bc bs _ _ _ _ _ h hbc hbs hF hF2 hd hS (lv_sub hl [0, 1, 2, 3, 4] rfl)
  · have h := h2 c_5
    refine lv_iconst (v := (0 : Int32)) hx hb dL_law_696 (by decide) ?_
    exact h.elim
