set_option maxRecDepth 20000 in
theorem ggL_law_L_at : GoodIn wsL_law wsL_at := goodIn_r _ [234] (by decide +kernel) (by decide +kernel)
set_option maxRecDepth 20000 in
theorem ggL_law_L_build : GoodIn wsL_law wsL_build := goodIn_ca (goodIn_ca (goodIn_r _ [3, 4, 5, 6, 7, 8, 9, 10, 11, 12, 13, 14, 15, 16, 17, 18, 19, 20, 21, 22, 23, 24, 25, 26, 27, 28, 29, 30, 31, 32, 33, 34, 35, 36, 37, 38, 39, 40, 41, 42, 43, 44, 45, 46, 47, 48, 49, 50, 51, 52, 53, 54, 55, 56, 57, 58, 59, 60, 61, 62, 63, 64, 65, 66, 67, 68, 69, 70, 71, 72, 73, 74, 75, 76, 77, 78, 79, 80, 81, 82, 83, 84, 85, 86, 87, 88, 89, 90, 91, 92, 93, 94, 95, 96, 97, 98, 99, 100, 101, 102, 103, 104, 105, 106, 107, 108, 109, 110, 111, 112, 113, 114, 115, 116, 117, 118, 119, 120, 121, 122, 123, 124, 125, 126, 127, 128, 129, 130, 131, 132, 133, 134, 135, 136, 137, 138, 139, 140, 141, 142, 143, 144, 145, 146, 147, 148, 149, 150, 151, 152, 153, 154, 155, 156, 157, 158, 159, 160, 161, 162, 163, 164, 165, 166, 167, 168, 169, 170, 171, 172, 173, 174, 175, 176, 177, 178, 179, 180, 181, 182, 183, 184, 185, 186, 187, 188, 189, 190, 191, 192, 193, 194, 195, 196, 197, 198, 199, 200, 201, 202, 203, 204, 205, 206, 207, 208, 209, 210, 211, 212, 213, 214, 215, 216, 217, 218, 219, 220, 221, 222, 223, 224, 225, 226, 227, 228, 229, 230, 231, 232, 233, 2, 234, 235, 236, 237, 238, 239, 240, 241, 242, 243, 244, 245, 246, 247, 248, 249, 250, 251, 252, 253, 254, 255, 256, 257, 258, 259, 260, 261, 262, 263, 264, 265, 266, 267, 268, 269, 270, 271, 272, 273, 274, 275, 276, 277, 278, 279, 280, 281, 282, 283, 284, 285, 286, 287, 288, 289, 290, 291, 292, 293, 294, 295, 296, 297, 298, 299, 300, 301, 302, 303, 304, 305, 306, 307, 308, 309, 310, 311, 312, 313, 314, 315, 316, 317, 318, 319, 320, 321, 322, 323, 324, 325, 326, 327, 328, 329, 330, 331, 332, 333, 334, 335, 336, 337, 338, 339, 340, 341, 342, 343, 344, 345, 346, 347, 348, 349, 350, 351, 352, 353, 354, 355, 356, 357, 358, 359, 360, 361, 362, 363, 364, 365, 366, 367, 368, 369, 370, 371, 372, 373, 374, 375, 376, 377, 378, 379, 380, 381, 382, 383, 384, 385, 386, 387, 388, 389, 390, 391, 392, 393, 394, 395, 396, 397, 398, 399, 400, 401, 402, 403, 404, 405, 406, 407, 408, 409, 410, 411, 412, 413, 414, 415, 416, 417, 418, 419, 420, 421, 422, 423, 424, 425, 426, 427, 428, 429, 430, 431, 432, 433, 434, 435, 436, 437, 438, 666, 667, 668, 669, 670, 671, 672, 673, 674, 675, 676, 677, 678, 679, 680, 681, 682, 683, 684, 685, 686, 687, 688, 689, 690, 691, 692, 693, 694, 695, 696, 697, 698, 699, 700] (by decide +kernel) (by decide +kernel)) (goodIn_sub (fun _ h => List.mem_append_left _ (List.mem_append_left _ (List.mem_append_left _ (List.mem_append_right _ h)))) (by decide +kernel))) (goodIn_sub (fun _ h => List.mem_append_left _ (List.mem_append_left _ (List.mem_append_right _ h))) (by decide +kernel))
set_option maxRecDepth 20000 in
theorem ggL_law_L_key : GoodIn wsL_law wsL_key := goodIn_ca (goodIn_ca (goodIn_r _ [253, 254, 255, 256, 6, 257, 239, 240, 39, 258, 259, 260, 37, 261, 89, 262, 263, 264, 265, 266, 36, 267, 153, 127, 154, 268, 126, 128, 269, 270, 141, 271, 272, 273, 197, 198, 274, 275, 38, 152, 155, 156, 157, 158, 276, 86, 87, 88, 11, 12, 277, 278, 279, 280, 241, 242, 281, 282, 283, 284, 666, 667, 668, 669, 670, 671, 672, 673, 674, 693] (by decide +kernel) (by decide +kernel)) (goodIn_sub (fun _ h => List.mem_append_left _ (List.mem_append_left _ (List.mem_append_left _ (List.mem_append_right _ h)))) (by decide +kernel))) (goodIn_sub (fun _ h => List.mem_append_left _ (List.mem_append_left _ (List.mem_append_right _ h))) (by decide +kernel))
set_option maxRecDepth 20000 in
theorem ggL_law_L_number : GoodIn wsL_law wsL_number := goodIn_r _ [250, 232, 233, 2, 234] (by decide +kernel) (by decide +kernel)
set_option maxRecDepth 20000 in
theorem ggL_law_X8_advance : GoodIn wsL_law wsX8_advance := goodIn_ca (goodIn_ca (goodIn_ca (goodIn_r _ [489, 21, 16, 468, 469, 470, 6, 471, 472, 473, 474, 475, 476, 477, 241, 242, 447, 448, 449, 450, 239, 240, 460, 461, 462, 20, 463, 205, 243, 244, 245, 47, 246, 67, 247, 103, 104, 56, 105, 106, 452, 453, 454, 455, 666, 667, 668, 669, 670, 671, 672, 673, 674, 675, 676, 677, 678, 679, 680, 681, 682, 683, 694, 695, 698, 699, 700] (by decide +kernel) (by decide +kernel)) (goodIn_sub (fun _ h => List.mem_append_left _ (List.mem_append_right _ h)) (by decide +kernel))) (goodIn_sub (fun _ h => List.mem_append_left _ (List.mem_append_left _ (List.mem_append_right _ h))) (by decide +kernel))) (goodIn_sub (fun _ h => List.mem_append_left _ (List.mem_append_left _ (List.mem_append_left _ (List.mem_append_right _ h)))) (by decide +kernel))
set_option maxRecDepth 20000 in
theorem ggL_law_X8_close : GoodIn wsL_law wsX8_close := goodIn_ca (goodIn_r _ [459, 21, 447, 448, 449, 6, 450, 239, 240, 460, 461, 462, 20, 463, 205, 452, 453, 454, 455, 666, 667, 668, 669, 670, 671, 672, 673, 674, 683] (by decide +kernel) (by decide +kernel)) (goodIn_sub (fun _ h => List.mem_append_left _ (List.mem_append_left _ (List.mem_append_left _ (List.mem_append_right _ h)))) (by decide +kernel))
set_option maxRecDepth 20000 in
theorem ggL_law_X8_current : GoodIn wsL_law wsX8_current := goodIn_ca (goodIn_ca (goodIn_ca (goodIn_r _ [467, 16, 39, 468, 469, 470, 6, 471, 472, 473, 474, 475, 476, 477, 241, 242, 21, 447, 448, 449, 450, 239, 240, 460, 461, 462, 20, 463, 205, 243, 244, 245, 47, 246, 67, 247, 103, 104, 56, 105, 106, 478, 298, 299, 300, 301, 69, 302, 165, 166, 167, 168, 169, 170, 171, 172, 173, 174, 175, 176, 177, 178, 179, 74, 479, 361, 362, 51, 363, 95, 94, 666, 667, 668, 669, 670, 671, 672, 673, 674, 675, 676, 677, 678, 679, 680, 681, 682, 683, 694, 695, 698, 699, 700, 696, 697] (by decide +kernel) (by decide +kernel)) (goodIn_sub (fun _ h => List.mem_append_left _ (List.mem_append_right _ h)) (by decide +kernel))) (goodIn_sub (fun _ h => List.mem_append_left _ (List.mem_append_left _ (List.mem_append_right _ h))) (by decide +kernel))) (goodIn_sub (fun _ h => List.mem_append_left _ (List.mem_append_left _ (List.mem_append_left _ (List.mem_append_right _ h)))) (by decide +kernel))
set_option maxRecDepth 20000 in
theorem ggL_law_X8_cutKey : GoodIn wsL_law wsX8_cutKey := goodIn_ca (goodIn_r _ [257, 239, 240, 39, 258, 259, 260, 37, 261, 89, 262, 263, 264, 265, 266, 36, 267, 153, 127, 154, 268, 126, 128, 269, 270, 141, 271, 272, 273, 197, 198, 274, 275, 38, 152, 155, 156, 157, 158, 276, 86, 87, 88, 11, 12, 666, 667, 668, 669, 670, 671, 672, 673, 674, 693] (by decide +kernel) (by decide +kernel)) (goodIn_sub (fun _ h => List.mem_append_left _ (List.mem_append_left _ (List.mem_append_left _ (List.mem_append_right _ h)))) (by decide +kernel))
set_option maxRecDepth 20000 in
theorem ggL_law_X8_distance : GoodIn wsL_law wsX8_distance := goodIn_ca (goodIn_ca (goodIn_r _ [493, 447, 448, 449, 6, 450, 239, 240, 474, 475, 476, 477, 241, 242, 21, 460, 461, 462, 20, 463, 205, 666, 667, 668, 669, 670, 671, 672, 673, 674, 683] (by decide +kernel) (by decide +kernel)) (goodIn_sub (fun _ h => List.mem_append_left _ (List.mem_append_left _ (List.mem_append_left _ (List.mem_append_right _ h)))) (by decide +kernel))) (goodIn_sub (fun _ h => List.mem_append_left _ (List.mem_append_left _ (List.mem_append_right _ h))) (by decide +kernel))
set_option maxRecDepth 20000 in
theorem ggL_law_X8_get : GoodIn wsL_law wsX8_get := goodIn_ca (goodIn_r _ [577, 16, 578, 579, 580, 6, 581, 472, 473, 39, 289, 290, 291, 47, 292, 67, 293, 294, 295, 296, 247, 103, 104, 56, 105, 106, 297, 298, 299, 300, 301, 69, 302, 165, 166, 167, 168, 169, 170, 171, 172, 173, 174, 175, 176, 177, 178, 179, 74, 303, 304, 305, 37, 306, 307, 308, 309, 310, 89, 311, 312, 313, 314, 479, 361, 362, 51, 363, 95, 94, 666, 667, 668, 669, 670, 671, 672, 673, 674, 675, 676, 677, 678, 679, 680, 681, 682, 694, 695, 698, 699, 700, 693, 696, 697] (by decide +kernel) (by decide +kernel)) (goodIn_sub (fun _ h => List.mem_append_left _ (List.mem_append_right _ h)) (by decide +kernel))
set_option maxRecDepth 20000 in
theorem ggL_law_X8_height : GoodIn wsL_law wsX8_height := goodIn_r _ [563, 16, 666, 667, 668, 669, 670, 671, 672, 673, 674, 675, 676, 677, 678, 679, 680, 681, 682] (by decide +kernel) (by decide +kernel)
set_option maxRecDepth 20000 in
theorem ggL_law_X8_load : GoodIn wsL_law wsX8_load := goodIn_ca (goodIn_r _ [501, 239, 240, 33, 16, 21, 502, 503, 504, 32, 505, 228, 230, 506, 507, 508, 47, 509, 67, 301, 510, 511, 512, 56, 513, 111, 112, 74, 106, 247, 103, 104, 105, 302, 165, 166, 167, 168, 169, 170, 171, 172, 173, 174, 175, 176, 177, 178, 179, 514, 108, 109, 110, 113, 114, 115, 116, 117, 118, 119, 120, 121, 122, 123, 124, 73, 125, 126, 127, 128, 129, 130, 131, 132, 133, 134, 135, 136, 137, 138, 139, 140, 141, 142, 143, 144, 145, 146, 147, 148, 149, 150, 151, 152, 153, 154, 155, 156, 157, 158, 515, 516, 517, 51, 518, 95, 395, 361, 362, 363, 94, 519, 185, 186, 187, 188, 189, 190, 191, 192, 193, 194, 195, 196, 197, 198, 199, 200, 93, 520, 521, 522, 523, 524, 244, 245, 246, 525, 526, 527, 528, 529, 99, 100, 15, 101, 61, 57, 49, 50, 102, 90, 91, 92, 11, 12, 107, 159, 160, 161, 162, 163, 58, 164, 180, 181, 182, 183, 530, 369, 370, 371, 60, 48, 372, 298, 299, 300, 69, 373, 374, 375, 376, 53, 360, 377, 259, 260, 37, 261, 89, 378, 308, 309, 310, 531, 532, 533, 534, 535, 536, 537, 538, 539, 540, 357, 358, 359, 541, 405, 406, 407, 408, 263, 264, 265, 266, 36, 267, 268, 269, 270, 271, 272, 273, 274, 275, 38, 276, 86, 87, 88, 542, 543, 544, 545, 546, 547, 548, 549, 550, 551, 552, 553, 20, 554, 205, 206, 207, 208, 555, 556, 557, 558, 559, 666, 667, 668, 669, 670, 671, 672, 673, 674, 675, 676, 677, 678, 679, 680, 681, 682, 691, 692, 694, 695, 698, 699, 700, 696, 697, 693, 683] (by decide +kernel) (by decide +kernel)) (goodIn_sub (fun _ h => List.mem_append_left _ (List.mem_append_left _ (List.mem_append_left _ (List.mem_append_right _ h)))) (by decide +kernel))
set_option maxRecDepth 20000 in
theorem ggL_law_X8_occupancyBits : GoodIn wsL_law wsX8_occupancyBits := goodIn_r _ [649, 16, 594, 126, 127, 128, 650, 651, 533, 534, 15, 535, 159, 160, 161, 162, 57, 163, 58, 102, 103, 104, 56, 105, 106, 164, 165, 166, 167, 168, 169, 170, 171, 172, 173, 174, 175, 176, 177, 178, 179, 74, 536, 537, 538, 51, 539, 95, 652, 653, 654, 6, 655, 656, 353, 354, 355, 356, 357, 358, 359, 360, 361, 362, 363, 94, 364, 365, 366, 367, 368, 369, 370, 371, 60, 48, 372, 298, 299, 47, 300, 67, 301, 69, 247, 302, 373, 374, 375, 376, 53, 377, 259, 260, 37, 261, 89, 378, 308, 309, 310, 657, 658, 659, 660, 661, 666, 667, 668, 669, 670, 671, 672, 673, 674, 675, 676, 677, 678, 679, 680, 681, 682, 698, 699, 700, 696, 697, 694, 695, 693] (by decide +kernel) (by decide +kernel)
set_option maxRecDepth 20000 in
theorem ggL_law_X8_open : GoodIn wsL_law wsX8_open := goodIn_ca (goodIn_r _ [446, 16, 39, 21, 447, 448, 449, 6, 450, 239, 240, 451, 294, 295, 47, 296, 67, 247, 103, 104, 56, 105, 106, 297, 298, 299, 300, 301, 69, 302, 165, 166, 167, 168, 169, 170, 171, 172, 173, 174, 175, 176, 177, 178, 179, 74, 303, 304, 305, 37, 306, 307, 308, 309, 310, 89, 311, 312, 313, 314, 452, 453, 454, 20, 455, 205, 243, 244, 245, 246, 666, 667, 668, 669, 670, 671, 672, 673, 674, 675, 676, 677, 678, 679, 680, 681, 682, 694, 695, 698, 699, 700, 693, 683] (by decide +kernel) (by decide +kernel)) (goodIn_sub (fun _ h => List.mem_append_left _ (List.mem_append_left _ (List.mem_append_left _ (List.mem_append_right _ h)))) (by decide +kernel))
set_option maxRecDepth 20000 in
theorem ggL_law_X8_put : GoodIn wsL_law wsX8_put := goodIn_ca (goodIn_r _ [288, 241, 242, 16, 39, 25, 289, 290, 291, 47, 292, 67, 293, 294, 295, 296, 247, 103, 104, 56, 105, 106, 297, 298, 299, 300, 301, 69, 302, 165, 166, 167, 168, 169, 170, 171, 172, 173, 174, 175, 176, 177, 178, 179, 74, 303, 304, 305, 37, 306, 307, 308, 309, 310, 89, 311, 312, 313, 314, 315, 316, 317, 51, 318, 95, 94, 243, 244, 245, 246, 319, 320, 321, 24, 322, 215, 323, 324, 325, 326, 216, 327, 328, 329, 330, 331, 332, 333, 334, 335, 111, 112, 336, 156, 157, 158, 337, 338, 339, 340, 117, 118, 119, 120, 121, 122, 123, 124, 73, 125, 126, 127, 128, 129, 130, 131, 132, 133, 134, 135, 136, 137, 138, 139, 140, 141, 142, 143, 144, 145, 146, 147, 148, 149, 150, 151, 152, 153, 154, 155, 341, 189, 190, 191, 192, 193, 194, 195, 196, 197, 198, 199, 200, 93, 342, 160, 161, 15, 162, 57, 163, 58, 102, 164, 343, 344, 345, 346, 347, 348, 349, 350, 20, 351, 205, 352, 353, 354, 355, 356, 357, 358, 359, 159, 360, 361, 362, 363, 364, 365, 366, 367, 368, 369, 370, 371, 60, 48, 372, 373, 374, 375, 376, 53, 377, 259, 260, 261, 378, 379, 380, 381, 382, 383, 384, 385, 386, 61, 387, 388, 389, 390, 391, 392, 393, 394, 395, 396, 397, 398, 399, 400, 401, 402, 214, 403, 404, 405, 406, 407, 408, 263, 264, 265, 266, 36, 267, 268, 269, 270, 271, 272, 273, 274, 275, 38, 276, 86, 87, 88, 11, 12, 409, 410, 411, 412, 413, 414, 415, 416, 417, 418, 419, 420, 421, 422, 423, 424, 425, 426, 427, 428, 213, 429, 430, 431, 432, 433, 434, 435, 436, 99, 100, 101, 49, 50, 90, 91, 92, 107, 108, 109, 110, 113, 114, 115, 116, 180, 181, 182, 183, 437, 185, 186, 187, 188, 438, 666, 667, 668, 669, 670, 671, 672, 673, 674, 675, 676, 677, 678, 679, 680, 681, 682, 694, 695, 698, 699, 700, 693, 696, 697, 684, 685, 686, 687, 683] (by decide +kernel) (by decide +kernel)) (goodIn_sub (fun _ h => List.mem_append_left _ (List.mem_append_left _ (List.mem_append_right _ h))) (by decide +kernel))
set_option maxRecDepth 20000 in
theorem ggL_law_X8_rank : GoodIn wsL_law wsX8_rank := goodIn_r _ [585, 16, 39, 451, 294, 295, 47, 296, 67, 247, 103, 104, 56, 105, 106, 297, 298, 299, 300, 301, 69, 302, 165, 166, 167, 168, 169, 170, 171, 172, 173, 174, 175, 176, 177, 178, 179, 74, 303, 304, 305, 37, 306, 307, 308, 309, 310, 89, 311, 312, 313, 314, 666, 667, 668, 669, 670, 671, 672, 673, 674, 675, 676, 677, 678, 679, 680, 681, 682, 694, 695, 698, 699, 700, 693] (by decide +kernel) (by decide +kernel)
set_option maxRecDepth 20000 in
theorem ggL_law_X8_removeAt : GoodIn wsL_law wsX8_removeAt := goodIn_ca (goodIn_ca (goodIn_ca (goodIn_r _ [641, 29, 468, 469, 470, 6, 471, 472, 473, 16, 474, 475, 476, 477, 241, 242, 21, 447, 448, 449, 450, 239, 240, 460, 461, 462, 20, 463, 205, 243, 244, 245, 47, 246, 67, 247, 103, 104, 56, 105, 106, 595, 596, 597, 28, 598, 222, 223, 599, 361, 362, 51, 363, 95, 94, 600, 160, 161, 15, 162, 57, 163, 58, 102, 164, 165, 166, 167, 168, 169, 170, 171, 172, 173, 174, 175, 176, 177, 178, 179, 74, 601, 392, 393, 394, 395, 602, 603, 604, 605, 606, 607, 608, 609, 610, 611, 612, 613, 111, 112, 336, 156, 157, 158, 614, 615, 616, 617, 618, 344, 345, 346, 347, 126, 127, 128, 619, 620, 621, 622, 623, 388, 389, 390, 159, 391, 624, 625, 626, 627, 628, 353, 354, 355, 356, 357, 358, 359, 360, 364, 365, 366, 367, 368, 369, 370, 371, 60, 48, 372, 298, 299, 300, 301, 69, 302, 373, 374, 375, 376, 53, 377, 259, 260, 37, 261, 89, 378, 308, 309, 310, 629, 384, 385, 386, 61, 387, 630, 631, 632, 633, 221, 634, 635, 636, 637, 422, 423, 424, 666, 667, 668, 669, 670, 671, 672, 673, 674, 675, 676, 677, 678, 679, 680, 681, 682, 683, 694, 695, 698, 699, 700, 688, 689, 690, 696, 697, 693] (by decide +kernel) (by decide +kernel)) (goodIn_sub (fun _ h => List.mem_append_left _ (List.mem_append_right _ h)) (by decide +kernel))) (goodIn_sub (fun _ h => List.mem_append_left _ (List.mem_append_left _ (List.mem_append_right _ h))) (by decide +kernel))) (goodIn_sub (fun _ h => List.mem_append_left _ (List.mem_append_left _ (List.mem_append_left _ (List.mem_append_right _ h)))) (by decide +kernel))
set_option maxRecDepth 20000 in
theorem ggL_law_X8_removeRange : GoodIn wsL_law wsX8_removeRange := goodIn_r _ [593, 16, 40, 39, 29, 594, 126, 127, 128, 451, 294, 295, 47, 296, 67, 247, 103, 104, 56, 105, 106, 297, 298, 299, 300, 301, 69, 302, 165, 166, 167, 168, 169, 170, 171, 172, 173, 174, 175, 176, 177, 178, 179, 74, 303, 304, 305, 37, 306, 307, 308, 309, 310, 89, 311, 312, 313, 314, 595, 596, 597, 28, 598, 222, 223, 599, 361, 362, 51, 363, 95, 94, 600, 160, 161, 15, 162, 57, 163, 58, 102, 164, 601, 392, 393, 394, 395, 602, 603, 604, 605, 606, 607, 608, 609, 610, 611, 612, 613, 111, 112, 336, 156, 157, 158, 614, 615, 616, 617, 618, 344, 345, 346, 347, 619, 620, 621, 20, 622, 205, 623, 388, 389, 390, 159, 391, 624, 625, 626, 627, 628, 353, 354, 355, 356, 357, 358, 359, 360, 364, 365, 366, 367, 368, 369, 370, 371, 60, 48, 372, 373, 374, 375, 376, 53, 377, 259, 260, 261, 378, 629, 384, 385, 386, 61, 387, 630, 631, 632, 633, 221, 634, 635, 636, 637, 422, 423, 424, 666, 667, 668, 669, 670, 671, 672, 673, 674, 675, 676, 677, 678, 679, 680, 681, 682, 694, 695, 698, 699, 700, 693, 688, 689, 690, 696, 697, 683] (by decide +kernel) (by decide +kernel)
set_option maxRecDepth 20000 in
theorem ggL_law_X8_restoreSnapshot : GoodIn wsL_law wsX8_restoreSnapshot := goodIn_ca (goodIn_r _ [645, 241, 242, 34, 16, 17, 21, 568, 569, 570, 15, 571, 48, 52, 53, 62, 61, 572, 507, 508, 47, 509, 67, 301, 510, 511, 512, 56, 513, 111, 112, 74, 106, 247, 103, 104, 105, 302, 165, 166, 167, 168, 169, 170, 171, 172, 173, 174, 175, 176, 177, 178, 179, 514, 108, 109, 110, 113, 114, 115, 116, 117, 118, 119, 120, 121, 122, 123, 124, 73, 125, 126, 127, 128, 129, 130, 131, 132, 133, 134, 135, 136, 137, 138, 139, 140, 141, 142, 143, 144, 145, 146, 147, 148, 149, 150, 151, 152, 153, 154, 155, 156, 157, 158, 573, 516, 517, 51, 518, 95, 395, 361, 362, 363, 94, 519, 185, 186, 187, 188, 189, 190, 191, 192, 193, 194, 195, 196, 197, 198, 199, 200, 93, 98, 99, 100, 101, 57, 49, 50, 102, 90, 91, 92, 11, 12, 107, 159, 160, 161, 162, 163, 58, 164, 180, 181, 182, 183, 551, 552, 553, 20, 554, 205, 206, 207, 208, 243, 244, 245, 246, 666, 667, 668, 669, 670, 671, 672, 673, 674, 675, 676, 677, 678, 679, 680, 681, 682, 694, 695, 698, 699, 700, 696, 697, 683] (by decide +kernel) (by decide +kernel)) (goodIn_sub (fun _ h => List.mem_append_left _ (List.mem_append_left _ (List.mem_append_right _ h))) (by decide +kernel))
set_option maxRecDepth 20000 in
theorem ggL_law_X8_retreat : GoodIn wsL_law wsX8_retreat := goodIn_ca (goodIn_ca (goodIn_ca (goodIn_r _ [497, 472, 473, 21, 16, 474, 475, 476, 6, 477, 241, 242, 447, 448, 449, 450, 239, 240, 460, 461, 462, 20, 463, 205, 452, 453, 454, 455, 479, 361, 362, 51, 363, 95, 94, 666, 667, 668, 669, 670, 671, 672, 673, 674, 675, 676, 677, 678, 679, 680, 681, 682, 683, 696, 697] (by decide +kernel) (by decide +kernel)) (goodIn_sub (fun _ h => List.mem_append_left _ (List.mem_append_right _ h)) (by decide +kernel))) (goodIn_sub (fun _ h => List.mem_append_left _ (List.mem_append_left _ (List.mem_append_right _ h))) (by decide +kernel))) (goodIn_sub (fun _ h => List.mem_append_left _ (List.mem_append_left _ (List.mem_append_left _ (List.mem_append_right _ h)))) (by decide +kernel))
set_option maxRecDepth 20000 in
theorem ggL_law_X8_saveSnapshot : GoodIn wsL_law wsX8_saveSnapshot := goodIn_r _ [567, 17, 16, 34, 568, 569, 570, 15, 571, 48, 52, 53, 62, 61, 572, 507, 508, 47, 509, 67, 301, 510, 511, 512, 56, 513, 111, 112, 74, 106, 247, 103, 104, 105, 302, 165, 166, 167, 168, 169, 170, 171, 172, 173, 174, 175, 176, 177, 178, 179, 514, 108, 109, 110, 113, 114, 115, 116, 117, 118, 119, 120, 121, 122, 123, 124, 73, 125, 126, 127, 128, 129, 130, 131, 132, 133, 134, 135, 136, 137, 138, 139, 140, 141, 142, 143, 144, 145, 146, 147, 148, 149, 150, 151, 152, 153, 154, 155, 156, 157, 158, 573, 516, 517, 51, 518, 95, 395, 361, 362, 363, 94, 519, 185, 186, 187, 188, 189, 190, 191, 192, 193, 194, 195, 196, 197, 198, 199, 200, 93, 98, 99, 100, 101, 57, 49, 50, 102, 90, 91, 92, 11, 12, 107, 159, 160, 161, 162, 163, 58, 164, 180, 181, 182, 183, 243, 244, 245, 246, 666, 667, 668, 669, 670, 671, 672, 673, 674, 675, 676, 677, 678, 679, 680, 681, 682, 694, 695, 698, 699, 700, 696, 697] (by decide +kernel) (by decide +kernel)
set_option maxRecDepth 20000 in
theorem ggL_law_X8_select : GoodIn wsL_law wsX8_select := goodIn_ca (goodIn_r _ [483, 484, 485, 16, 39, 243, 244, 245, 47, 246, 67, 247, 103, 104, 56, 105, 106, 478, 298, 299, 300, 301, 69, 302, 165, 166, 167, 168, 169, 170, 171, 172, 173, 174, 175, 176, 177, 178, 179, 74, 479, 361, 362, 51, 363, 95, 94, 666, 667, 668, 669, 670, 671, 672, 673, 674, 675, 676, 677, 678, 679, 680, 681, 682, 694, 695, 698, 699, 700, 696, 697] (by decide +kernel) (by decide +kernel)) (goodIn_sub (fun _ h => List.mem_append_right _ h) (by decide +kernel))
set_option maxRecDepth 20000 in
theorem ggL_law_X8_size : GoodIn wsL_law wsX8_size := goodIn_r _ [442, 16, 243, 244, 245, 47, 246, 67, 247, 103, 104, 56, 105, 106, 666, 667, 668, 669, 670, 671, 672, 673, 674, 675, 676, 677, 678, 679, 680, 681, 682, 694, 695, 698, 699, 700] (by decide +kernel) (by decide +kernel)
set_option maxRecDepth 20000 in
theorem ggL_law_X8_statistic : GoodIn wsL_law wsX8_statistic := goodIn_ca (goodIn_r _ [665, 239, 240, 16, 25, 29, 652, 653, 654, 6, 655, 651, 533, 534, 15, 535, 159, 160, 161, 162, 57, 163, 58, 102, 103, 104, 56, 105, 106, 164, 165, 166, 167, 168, 169, 170, 171, 172, 173, 174, 175, 176, 177, 178, 179, 74, 536, 537, 538, 51, 539, 95, 656, 353, 354, 355, 356, 357, 358, 359, 360, 361, 362, 363, 94, 364, 365, 366, 367, 368, 369, 370, 371, 60, 48, 372, 298, 299, 47, 300, 67, 301, 69, 247, 302, 373, 374, 375, 376, 53, 377, 259, 260, 37, 261, 89, 378, 308, 309, 310, 555, 556, 557, 558, 61, 559, 666, 667, 668, 669, 670, 671, 672, 673, 674, 675, 676, 677, 678, 679, 680, 681, 682, 684, 685, 686, 687, 688, 689, 690, 698, 699, 700, 696, 697, 694, 695, 693] (by decide +kernel) (by decide +kernel)) (goodIn_sub (fun _ h => List.mem_append_left _ (List.mem_append_left _ (List.mem_append_left _ (List.mem_append_right _ h)))) (by decide +kernel))
set_option maxRecDepth 20000 in
theorem ggL_law_X8_swapBound : GoodIn wsL_law wsX8_swapBound := goodIn_r _ [589, 39, 40, 258, 259, 260, 37, 261, 89, 666, 667, 668, 669, 670, 671, 672, 673, 674, 693] (by decide +kernel) (by decide +kernel)
theorem dL_law_0 : decode code 0 = .ok (.aload_n 0, 1) := by decide +kernel
theorem dL_law_1 : decode code 1 = .ok (.invokestatic 37, 3) := by decide +kernel
theorem dL_law_4 : decode code 4 = .ok (.astore_n 1, 1) := by decide +kernel
theorem dL_law_5 : decode code 5 = .ok (.aload_n 0, 1) := by decide +kernel
theorem dL_law_6 : decode code 6 = .ok (.iconst 0, 1) := by decide +kernel
theorem dL_law_7 : decode code 7 = .ok (.invokestatic 16, 3) := by decide +kernel
theorem dL_law_10 : decode code 10 = .ok (.bipush 63, 2) := by decide +kernel
theorem dL_law_12 : decode code 12 = .ok (.iand, 1) := by decide +kernel
theorem dL_law_13 : decode code 13 = .ok (.istore_n 2, 1) := by decide +kernel
theorem dL_law_14 : decode code 14 = .ok (.aload_n 1, 1) := by decide +kernel
theorem dL_law_15 : decode code 15 = .ok (.invokevirtual 41, 3) := by decide +kernel
theorem dL_law_18 : decode code 18 = .ok (.istore_n 3, 1) := by decide +kernel
theorem dL_law_19 : decode code 19 = .ok (.aload_n 1, 1) := by decide +kernel
theorem dL_law_20 : decode code 20 = .ok (.iconst 0, 1) := by decide +kernel
theorem dL_law_21 : decode code 21 = .ok (.invokevirtual 7, 3) := by decide +kernel
theorem dL_law_24 : decode code 24 = .ok (.pop, 1) := by decide +kernel
theorem dL_law_25 : decode code 25 = .ok (.aload_n 1, 1) := by decide +kernel
theorem dL_law_26 : decode code 26 = .ok (.iconst 0, 1) := by decide +kernel
theorem dL_law_27 : decode code 27 = .ok (.invokevirtual 45, 3) := by decide +kernel
theorem dL_law_30 : decode code 30 = .ok (.iload_n 3, 1) := by decide +kernel
theorem dL_law_31 : decode code 31 = .ok (.ifCond .le 7, 3) := by decide +kernel
theorem dL_law_34 : decode code 34 = .ok (.iconst 1, 1) := by decide +kernel
theorem dL_law_35 : decode code 35 = .ok (.goto 4, 3) := by decide +kernel
theorem dL_law_38 : decode code 38 = .ok (.iconst 0, 1) := by decide +kernel
theorem dL_law_39 : decode code 39 = .ok (.if_icmp .ne 28, 3) := by decide +kernel
theorem dL_law_42 : decode code 42 = .ok (.aload_n 1, 1) := by decide +kernel
theorem dL_law_43 : decode code 43 = .ok (.iconst 3, 1) := by decide +kernel
theorem dL_law_44 : decode code 44 = .ok (.invokevirtual 48, 3) := by decide +kernel
theorem dL_law_47 : decode code 47 = .ok (.ifCond .ne 20, 3) := by decide +kernel
theorem dL_law_50 : decode code 50 = .ok (.aload_n 1, 1) := by decide +kernel
theorem dL_law_51 : decode code 51 = .ok (.iconst 1, 1) := by decide +kernel
theorem dL_law_52 : decode code 52 = .ok (.invokevirtual 45, 3) := by decide +kernel
theorem dL_law_55 : decode code 55 = .ok (.iload_n 3, 1) := by decide +kernel
theorem dL_law_56 : decode code 56 = .ok (.ifCond .le 7, 3) := by decide +kernel
theorem dL_law_59 : decode code 59 = .ok (.iconst 1, 1) := by decide +kernel
theorem dL_law_60 : decode code 60 = .ok (.goto 4, 3) := by decide +kernel
theorem dL_law_63 : decode code 63 = .ok (.iconst 0, 1) := by decide +kernel
theorem dL_law_64 : decode code 64 = .ok (.if_icmp .eq 5, 3) := by decide +kernel
theorem dL_law_67 : decode code 67 = .ok (.iconst 0, 1) := by decide +kernel
theorem dL_law_69 : decode code 69 = .ok (.iconst 0, 1) := by decide +kernel
theorem dL_law_70 : decode code 70 = .ok (.istore 4, 2) := by decide +kernel
theorem dL_law_72 : decode code 72 = .ok (.iload_n 3, 1) := by decide +kernel
theorem dL_law_73 : decode code 73 = .ok (.ifCond .le 7, 3) := by decide +kernel
theorem dL_law_76 : decode code 76 = .ok (.iconst 1, 1) := by decide +kernel
theorem dL_law_77 : decode code 77 = .ok (.goto 4, 3) := by decide +kernel
theorem dL_law_80 : decode code 80 = .ok (.iconst 0, 1) := by decide +kernel
theorem dL_law_81 : decode code 81 = .ok (.istore 5, 2) := by decide +kernel
theorem dL_law_83 : decode code 83 = .ok (.iload 5, 2) := by decide +kernel
theorem dL_law_85 : decode code 85 = .ok (.ifCond .eq 32, 3) := by decide +kernel
theorem dL_law_88 : decode code 88 = .ok (.aload_n 1, 1) := by decide +kernel
theorem dL_law_89 : decode code 89 = .ok (.iconst 0, 1) := by decide +kernel
theorem dL_law_90 : decode code 90 = .ok (.invokevirtual 51, 3) := by decide +kernel
theorem dL_law_93 : decode code 93 = .ok (.aload_n 1, 1) := by decide +kernel
theorem dL_law_94 : decode code 94 = .ok (.iload 4, 2) := by decide +kernel
theorem dL_law_96 : decode code 96 = .ok (.invokevirtual 54, 3) := by decide +kernel
theorem dL_law_99 : decode code 99 = .ok (.if_icmp .eq 5, 3) := by decide +kernel
theorem dL_law_102 : decode code 102 = .ok (.iconst 0, 1) := by decide +kernel
theorem dL_law_104 : decode code 104 = .ok (.aload_n 1, 1) := by decide +kernel
theorem dL_law_105 : decode code 105 = .ok (.iconst 0, 1) := by decide +kernel
theorem dL_law_106 : decode code 106 = .ok (.invokevirtual 57, 3) := by decide +kernel
theorem dL_law_109 : decode code 109 = .ok (.istore 5, 2) := by decide +kernel
theorem dL_law_111 : decode code 111 = .ok (.iinc 4 1, 3) := by decide +kernel
theorem dL_law_114 : decode code 114 = .ok (.goto (-31), 3) := by decide +kernel
theorem dL_law_117 : decode code 117 = .ok (.iload 4, 2) := by decide +kernel
theorem dL_law_119 : decode code 119 = .ok (.iload_n 3, 1) := by decide +kernel
theorem dL_law_120 : decode code 120 = .ok (.if_icmp .ne 24, 3) := by decide +kernel
theorem dL_law_123 : decode code 123 = .ok (.aload_n 1, 1) := by decide +kernel
theorem dL_law_124 : decode code 124 = .ok (.iconst 1, 1) := by decide +kernel
theorem dL_law_125 : decode code 125 = .ok (.iconst 0, 1) := by decide +kernel
theorem dL_law_126 : decode code 126 = .ok (.invokevirtual 60, 3) := by decide +kernel
theorem dL_law_129 : decode code 129 = .ok (.iload_n 3, 1) := by decide +kernel
theorem dL_law_130 : decode code 130 = .ok (.if_icmp .ne 14, 3) := by decide +kernel
theorem dL_law_133 : decode code 133 = .ok (.aload_n 1, 1) := by decide +kernel
theorem dL_law_134 : decode code 134 = .ok (.iconst 0, 1) := by decide +kernel
theorem dL_law_135 : decode code 135 = .ok (.iconst 1, 1) := by decide +kernel
theorem dL_law_136 : decode code 136 = .ok (.invokevirtual 60, 3) := by decide +kernel
theorem dL_law_139 : decode code 139 = .ok (.iload_n 3, 1) := by decide +kernel
theorem dL_law_140 : decode code 140 = .ok (.ineg, 1) := by decide +kernel
theorem dL_law_141 : decode code 141 = .ok (.if_icmp .eq 5, 3) := by decide +kernel
theorem dL_law_144 : decode code 144 = .ok (.iconst 0, 1) := by decide +kernel
theorem dL_law_146 : decode code 146 = .ok (.iload_n 3, 1) := by decide +kernel
theorem dL_law_147 : decode code 147 = .ok (.iconst 1, 1) := by decide +kernel
theorem dL_law_148 : decode code 148 = .ok (.isub, 1) := by decide +kernel
theorem dL_law_149 : decode code 149 = .ok (.istore 6, 2) := by decide +kernel
theorem dL_law_151 : decode code 151 = .ok (.iload 6, 2) := by decide +kernel
theorem dL_law_153 : decode code 153 = .ok (.ifCond .lt 29, 3) := by decide +kernel
theorem dL_law_156 : decode code 156 = .ok (.aload_n 1, 1) := by decide +kernel
theorem dL_law_157 : decode code 157 = .ok (.iconst 0, 1) := by decide +kernel
theorem dL_law_158 : decode code 158 = .ok (.invokevirtual 64, 3) := by decide +kernel
theorem dL_law_161 : decode code 161 = .ok (.istore 7, 2) := by decide +kernel
theorem dL_law_163 : decode code 163 = .ok (.iload 7, 2) := by decide +kernel
theorem dL_law_165 : decode code 165 = .ok (.aload_n 1, 1) := by decide +kernel
theorem dL_law_166 : decode code 166 = .ok (.iload 6, 2) := by decide +kernel
theorem dL_law_168 : decode code 168 = .ok (.invokevirtual 54, 3) := by decide +kernel
theorem dL_law_171 : decode code 171 = .ok (.if_icmp .eq 5, 3) := by decide +kernel
theorem dL_law_174 : decode code 174 = .ok (.iconst 0, 1) := by decide +kernel
theorem dL_law_176 : decode code 176 = .ok (.iinc 6 (-1), 3) := by decide +kernel
theorem dL_law_179 : decode code 179 = .ok (.goto (-28), 3) := by decide +kernel
theorem dL_law_182 : decode code 182 = .ok (.iload_n 3, 1) := by decide +kernel
theorem dL_law_183 : decode code 183 = .ok (.ifCond .ne 42, 3) := by decide +kernel
theorem dL_law_186 : decode code 186 = .ok (.aload_n 1, 1) := by decide +kernel
theorem dL_law_187 : decode code 187 = .ok (.bipush 50, 2) := by decide +kernel
theorem dL_law_189 : decode code 189 = .ok (.invokevirtual 67, 3) := by decide +kernel
theorem dL_law_192 : decode code 192 = .ok (.iconst 1, 1) := by decide +kernel
theorem dL_law_193 : decode code 193 = .ok (.if_icmp .ne 30, 3) := by decide +kernel
theorem dL_law_196 : decode code 196 = .ok (.aload_n 1, 1) := by decide +kernel
theorem dL_law_197 : decode code 197 = .ok (.invokevirtual 70, 3) := by decide +kernel
theorem dL_law_200 : decode code 200 = .ok (.iconst 1, 1) := by decide +kernel
theorem dL_law_201 : decode code 201 = .ok (.if_icmp .ne 22, 3) := by decide +kernel
theorem dL_law_204 : decode code 204 = .ok (.aload_n 1, 1) := by decide +kernel
theorem dL_law_205 : decode code 205 = .ok (.iconst 0, 1) := by decide +kernel
theorem dL_law_206 : decode code 206 = .ok (.invokevirtual 48, 3) := by decide +kernel
theorem dL_law_209 : decode code 209 = .ok (.ifCond .ne 14, 3) := by decide +kernel
theorem dL_law_212 : decode code 212 = .ok (.aload_n 1, 1) := by decide +kernel
theorem dL_law_213 : decode code 213 = .ok (.invokevirtual 73, 3) := by decide +kernel
theorem dL_law_216 : decode code 216 = .ok (.ifCond .ne 7, 3) := by decide +kernel
theorem dL_law_219 : decode code 219 = .ok (.iconst 1, 1) := by decide +kernel
theorem dL_law_220 : decode code 220 = .ok (.goto 4, 3) := by decide +kernel
theorem dL_law_223 : decode code 223 = .ok (.iconst 0, 1) := by decide +kernel
theorem dL_law_224 : decode code 224 = .ok (.ireturn, 1) := by decide +kernel
theorem dL_law_225 : decode code 225 = .ok (.aload_n 0, 1) := by decide +kernel
theorem dL_law_226 : decode code 226 = .ok (.iconst 0, 1) := by decide +kernel
theorem dL_law_227 : decode code 227 = .ok (.invokestatic 16, 3) := by decide +kernel
theorem dL_law_230 : decode code 230 = .ok (.bipush 10, 2) := by decide +kernel
theorem dL_law_232 : decode code 232 = .ok (.ishr, 1) := by decide +kernel
theorem dL_law_233 : decode code 233 = .ok (.bipush 63, 2) := by decide +kernel
theorem dL_law_235 : decode code 235 = .ok (.iand, 1) := by decide +kernel
theorem dL_law_236 : decode code 236 = .ok (.iload_n 3, 1) := by decide +kernel
theorem dL_law_237 : decode code 237 = .ok (.irem, 1) := by decide +kernel
theorem dL_law_238 : decode code 238 = .ok (.istore 6, 2) := by decide +kernel
theorem dL_law_240 : decode code 240 = .ok (.aload_n 1, 1) := by decide +kernel
theorem dL_law_241 : decode code 241 = .ok (.iload 6, 2) := by decide +kernel
theorem dL_law_243 : decode code 243 = .ok (.invokevirtual 54, 3) := by decide +kernel
theorem dL_law_246 : decode code 246 = .ok (.istore 7, 2) := by decide +kernel
theorem dL_law_248 : decode code 248 = .ok (.aload_n 1, 1) := by decide +kernel
theorem dL_law_249 : decode code 249 = .ok (.iconst 2, 1) := by decide +kernel
theorem dL_law_250 : decode code 250 = .ok (.invokevirtual 45, 3) := by decide +kernel
theorem dL_law_253 : decode code 253 = .ok (.pop, 1) := by decide +kernel
theorem dL_law_254 : decode code 254 = .ok (.aload_n 1, 1) := by decide +kernel
theorem dL_law_255 : decode code 255 = .ok (.invokevirtual 73, 3) := by decide +kernel
theorem dL_law_258 : decode code 258 = .ok (.istore 8, 2) := by decide +kernel
theorem dL_law_260 : decode code 260 = .ok (.iconst 0, 1) := by decide +kernel
theorem dL_law_261 : decode code 261 = .ok (.istore 9, 2) := by decide +kernel
theorem dL_law_263 : decode code 263 = .ok (.iload 9, 2) := by decide +kernel
theorem dL_law_265 : decode code 265 = .ok (.iload_n 2, 1) := by decide +kernel
theorem dL_law_266 : decode code 266 = .ok (.if_icmp .ge 31, 3) := by decide +kernel
theorem dL_law_269 : decode code 269 = .ok (.aload_n 1, 1) := by decide +kernel
theorem dL_law_270 : decode code 270 = .ok (.aload_n 0, 1) := by decide +kernel
theorem dL_law_271 : decode code 271 = .ok (.iload 9, 2) := by decide +kernel
theorem dL_law_273 : decode code 273 = .ok (.invokestatic 26, 3) := by decide +kernel
theorem dL_law_276 : decode code 276 = .ok (.bipush 21, 2) := by decide +kernel
theorem dL_law_278 : decode code 278 = .ok (.ixor, 1) := by decide +kernel
theorem dL_law_279 : decode code 279 = .ok (.invokestatic 29, 3) := by decide +kernel
theorem dL_law_282 : decode code 282 = .ok (.aload_n 1, 1) := by decide +kernel
theorem dL_law_283 : decode code 283 = .ok (.iconst (-1), 1) := by decide +kernel
theorem dL_law_284 : decode code 284 = .ok (.iload 9, 2) := by decide +kernel
theorem dL_law_286 : decode code 286 = .ok (.isub, 1) := by decide +kernel
theorem dL_law_287 : decode code 287 = .ok (.invokevirtual 33, 3) := by decide +kernel
theorem dL_law_290 : decode code 290 = .ok (.pop, 1) := by decide +kernel
theorem dL_law_291 : decode code 291 = .ok (.iinc 9 1, 3) := by decide +kernel
theorem dL_law_294 : decode code 294 = .ok (.goto (-31), 3) := by decide +kernel
theorem dL_law_297 : decode code 297 = .ok (.iload 8, 2) := by decide +kernel
theorem dL_law_299 : decode code 299 = .ok (.iload_n 3, 1) := by decide +kernel
theorem dL_law_300 : decode code 300 = .ok (.if_icmp .ne 15, 3) := by decide +kernel
theorem dL_law_303 : decode code 303 = .ok (.aload_n 1, 1) := by decide +kernel
theorem dL_law_304 : decode code 304 = .ok (.iconst 2, 1) := by decide +kernel
theorem dL_law_305 : decode code 305 = .ok (.invokevirtual 51, 3) := by decide +kernel
theorem dL_law_308 : decode code 308 = .ok (.aload_n 1, 1) := by decide +kernel
theorem dL_law_309 : decode code 309 = .ok (.invokevirtual 76, 3) := by decide +kernel
theorem dL_law_312 : decode code 312 = .ok (.if_icmp .eq 5, 3) := by decide +kernel
theorem dL_law_315 : decode code 315 = .ok (.iconst 0, 1) := by decide +kernel
theorem dL_law_317 : decode code 317 = .ok (.aload_n 1, 1) := by decide +kernel
theorem dL_law_318 : decode code 318 = .ok (.invokevirtual 79, 3) := by decide +kernel
theorem dL_law_321 : decode code 321 = .ok (.istore 9, 2) := by decide +kernel
theorem dL_law_323 : decode code 323 = .ok (.aload_n 1, 1) := by decide +kernel
theorem dL_law_324 : decode code 324 = .ok (.iconst 3, 1) := by decide +kernel
theorem dL_law_325 : decode code 325 = .ok (.invokevirtual 45, 3) := by decide +kernel
theorem dL_law_328 : decode code 328 = .ok (.pop, 1) := by decide +kernel
theorem dL_law_329 : decode code 329 = .ok (.aload_n 1, 1) := by decide +kernel
theorem dL_law_330 : decode code 330 = .ok (.iconst 2, 1) := by decide +kernel
theorem dL_law_331 : decode code 331 = .ok (.iconst 3, 1) := by decide +kernel
theorem dL_law_332 : decode code 332 = .ok (.invokevirtual 60, 3) := by decide +kernel
theorem dL_law_335 : decode code 335 = .ok (.ifCond .ne 11, 3) := by decide +kernel
theorem dL_law_338 : decode code 338 = .ok (.aload_n 1, 1) := by decide +kernel
theorem dL_law_339 : decode code 339 = .ok (.invokevirtual 41, 3) := by decide +kernel
theorem dL_law_342 : decode code 342 = .ok (.iload_n 3, 1) := by decide +kernel
theorem dL_law_343 : decode code 343 = .ok (.if_icmp .ge 5, 3) := by decide +kernel
theorem dL_law_346 : decode code 346 = .ok (.iconst 0, 1) := by decide +kernel
theorem dL_law_348 : decode code 348 = .ok (.aload_n 1, 1) := by decide +kernel
theorem dL_law_349 : decode code 349 = .ok (.invokevirtual 41, 3) := by decide +kernel
theorem dL_law_352 : decode code 352 = .ok (.istore 10, 2) := by decide +kernel
theorem dL_law_354 : decode code 354 = .ok (.aload_n 1, 1) := by decide +kernel
theorem dL_law_355 : decode code 355 = .ok (.iload 9, 2) := by decide +kernel
theorem dL_law_357 : decode code 357 = .ok (.iconst 2, 1) := by decide +kernel
theorem dL_law_358 : decode code 358 = .ok (.idiv, 1) := by decide +kernel
theorem dL_law_359 : decode code 359 = .ok (.invokevirtual 54, 3) := by decide +kernel
theorem dL_law_362 : decode code 362 = .ok (.pop, 1) := by decide +kernel
theorem dL_law_363 : decode code 363 = .ok (.aload_n 1, 1) := by decide +kernel
theorem dL_law_364 : decode code 364 = .ok (.invokevirtual 82, 3) := by decide +kernel
theorem dL_law_367 : decode code 367 = .ok (.pop, 1) := by decide +kernel
theorem dL_law_368 : decode code 368 = .ok (.aload_n 1, 1) := by decide +kernel
theorem dL_law_369 : decode code 369 = .ok (.iload 9, 2) := by decide +kernel
theorem dL_law_371 : decode code 371 = .ok (.invokevirtual 54, 3) := by decide +kernel
theorem dL_law_374 : decode code 374 = .ok (.pop, 1) := by decide +kernel
theorem dL_law_375 : decode code 375 = .ok (.aload_n 1, 1) := by decide +kernel
theorem dL_law_376 : decode code 376 = .ok (.invokevirtual 85, 3) := by decide +kernel
theorem dL_law_379 : decode code 379 = .ok (.iload 9, 2) := by decide +kernel
theorem dL_law_381 : decode code 381 = .ok (.iload 9, 2) := by decide +kernel
theorem dL_law_383 : decode code 383 = .ok (.iconst 2, 1) := by decide +kernel
theorem dL_law_384 : decode code 384 = .ok (.idiv, 1) := by decide +kernel
theorem dL_law_385 : decode code 385 = .ok (.isub, 1) := by decide +kernel
theorem dL_law_386 : decode code 386 = .ok (.if_icmp .ne 20, 3) := by decide +kernel
theorem dL_law_389 : decode code 389 = .ok (.aload_n 1, 1) := by decide +kernel
theorem dL_law_390 : decode code 390 = .ok (.invokevirtual 41, 3) := by decide +kernel
theorem dL_law_393 : decode code 393 = .ok (.iload 10, 2) := by decide +kernel
theorem dL_law_395 : decode code 395 = .ok (.iload 9, 2) := by decide +kernel
theorem dL_law_397 : decode code 397 = .ok (.isub, 1) := by decide +kernel
theorem dL_law_398 : decode code 398 = .ok (.iload 9, 2) := by decide +kernel
theorem dL_law_400 : decode code 400 = .ok (.iconst 2, 1) := by decide +kernel
theorem dL_law_401 : decode code 401 = .ok (.idiv, 1) := by decide +kernel
theorem dL_law_402 : decode code 402 = .ok (.iadd, 1) := by decide +kernel
theorem dL_law_403 : decode code 403 = .ok (.if_icmp .eq 5, 3) := by decide +kernel
theorem dL_law_406 : decode code 406 = .ok (.iconst 0, 1) := by decide +kernel
theorem dL_law_408 : decode code 408 = .ok (.aload_n 1, 1) := by decide +kernel
theorem dL_law_409 : decode code 409 = .ok (.iconst 2, 1) := by decide +kernel
theorem dL_law_410 : decode code 410 = .ok (.invokevirtual 51, 3) := by decide +kernel
theorem dL_law_413 : decode code 413 = .ok (.pop, 1) := by decide +kernel
theorem dL_law_414 : decode code 414 = .ok (.aload_n 1, 1) := by decide +kernel
theorem dL_law_415 : decode code 415 = .ok (.invokevirtual 79, 3) := by decide +kernel
theorem dL_law_418 : decode code 418 = .ok (.iload 9, 2) := by decide +kernel
theorem dL_law_420 : decode code 420 = .ok (.iconst 2, 1) := by decide +kernel
theorem dL_law_421 : decode code 421 = .ok (.idiv, 1) := by decide +kernel
theorem dL_law_422 : decode code 422 = .ok (.if_icmp .ne 12, 3) := by decide +kernel
theorem dL_law_425 : decode code 425 = .ok (.aload_n 1, 1) := by decide +kernel
theorem dL_law_426 : decode code 426 = .ok (.iconst 2, 1) := by decide +kernel
theorem dL_law_427 : decode code 427 = .ok (.iconst 3, 1) := by decide +kernel
theorem dL_law_428 : decode code 428 = .ok (.invokevirtual 60, 3) := by decide +kernel
theorem dL_law_431 : decode code 431 = .ok (.ifCond .eq 5, 3) := by decide +kernel
theorem dL_law_434 : decode code 434 = .ok (.iconst 0, 1) := by decide +kernel
theorem dL_law_436 : decode code 436 = .ok (.iload 9, 2) := by decide +kernel
theorem dL_law_438 : decode code 438 = .ok (.iconst 2, 1) := by decide +kernel
theorem dL_law_439 : decode code 439 = .ok (.idiv, 1) := by decide +kernel
theorem dL_law_440 : decode code 440 = .ok (.aload_n 1, 1) := by decide +kernel
theorem dL_law_441 : decode code 441 = .ok (.invokevirtual 41, 3) := by decide +kernel
theorem dL_law_444 : decode code 444 = .ok (.iconst 1, 1) := by decide +kernel
theorem dL_law_445 : decode code 445 = .ok (.isub, 1) := by decide +kernel
theorem dL_law_446 : decode code 446 = .ok (.if_icmp .ne 7, 3) := by decide +kernel
theorem dL_law_449 : decode code 449 = .ok (.iconst 1, 1) := by decide +kernel
theorem dL_law_450 : decode code 450 = .ok (.goto 4, 3) := by decide +kernel
theorem dL_law_453 : decode code 453 = .ok (.iconst 0, 1) := by decide +kernel
theorem dL_law_454 : decode code 454 = .ok (.istore 11, 2) := by decide +kernel
theorem dL_law_456 : decode code 456 = .ok (.iload 11, 2) := by decide +kernel
theorem dL_law_458 : decode code 458 = .ok (.ifCond .eq 7, 3) := by decide +kernel
theorem dL_law_461 : decode code 461 = .ok (.iconst 0, 1) := by decide +kernel
theorem dL_law_462 : decode code 462 = .ok (.goto 13, 3) := by decide +kernel
theorem dL_law_465 : decode code 465 = .ok (.aload_n 1, 1) := by decide +kernel
theorem dL_law_466 : decode code 466 = .ok (.iload 9, 2) := by decide +kernel
theorem dL_law_468 : decode code 468 = .ok (.iconst 2, 1) := by decide +kernel
theorem dL_law_469 : decode code 469 = .ok (.idiv, 1) := by decide +kernel
theorem dL_law_470 : decode code 470 = .ok (.iconst 1, 1) := by decide +kernel
theorem dL_law_471 : decode code 471 = .ok (.iadd, 1) := by decide +kernel
theorem dL_law_472 : decode code 472 = .ok (.invokevirtual 54, 3) := by decide +kernel
theorem dL_law_475 : decode code 475 = .ok (.istore 12, 2) := by decide +kernel
theorem dL_law_477 : decode code 477 = .ok (.aload_n 1, 1) := by decide +kernel
theorem dL_law_478 : decode code 478 = .ok (.iconst 2, 1) := by decide +kernel
theorem dL_law_479 : decode code 479 = .ok (.invokevirtual 88, 3) := by decide +kernel
theorem dL_law_482 : decode code 482 = .ok (.pop, 1) := by decide +kernel
theorem dL_law_483 : decode code 483 = .ok (.aload_n 1, 1) := by decide +kernel
theorem dL_law_484 : decode code 484 = .ok (.iconst 2, 1) := by decide +kernel
theorem dL_law_485 : decode code 485 = .ok (.iconst 3, 1) := by decide +kernel
theorem dL_law_486 : decode code 486 = .ok (.invokevirtual 60, 3) := by decide +kernel
theorem dL_law_489 : decode code 489 = .ok (.ifCond .ne 18, 3) := by decide +kernel
theorem dL_law_492 : decode code 492 = .ok (.iload 11, 2) := by decide +kernel
theorem dL_law_494 : decode code 494 = .ok (.ifCond .ne 15, 3) := by decide +kernel
theorem dL_law_497 : decode code 497 = .ok (.aload_n 1, 1) := by decide +kernel
theorem dL_law_498 : decode code 498 = .ok (.iconst 3, 1) := by decide +kernel
theorem dL_law_499 : decode code 499 = .ok (.invokevirtual 51, 3) := by decide +kernel
theorem dL_law_502 : decode code 502 = .ok (.iload 12, 2) := by decide +kernel
theorem dL_law_504 : decode code 504 = .ok (.if_icmp .eq 5, 3) := by decide +kernel
theorem dL_law_507 : decode code 507 = .ok (.iconst 0, 1) := by decide +kernel
theorem dL_law_509 : decode code 509 = .ok (.aload_n 1, 1) := by decide +kernel
theorem dL_law_510 : decode code 510 = .ok (.invokevirtual 91, 3) := by decide +kernel
theorem dL_law_513 : decode code 513 = .ok (.iload_n 3, 1) := by decide +kernel
theorem dL_law_514 : decode code 514 = .ok (.if_icmp .ne 38, 3) := by decide +kernel
theorem dL_law_517 : decode code 517 = .ok (.aload_n 1, 1) := by decide +kernel
theorem dL_law_518 : decode code 518 = .ok (.iconst 2, 1) := by decide +kernel
theorem dL_law_519 : decode code 519 = .ok (.invokevirtual 48, 3) := by decide +kernel
theorem dL_law_522 : decode code 522 = .ok (.ifCond .ne 30, 3) := by decide +kernel
theorem dL_law_525 : decode code 525 = .ok (.aload_n 1, 1) := by decide +kernel
theorem dL_law_526 : decode code 526 = .ok (.iconst 0, 1) := by decide +kernel
theorem dL_law_527 : decode code 527 = .ok (.invokevirtual 48, 3) := by decide +kernel
theorem dL_law_530 : decode code 530 = .ok (.ifCond .ne 22, 3) := by decide +kernel
theorem dL_law_533 : decode code 533 = .ok (.aload_n 1, 1) := by decide +kernel
theorem dL_law_534 : decode code 534 = .ok (.invokevirtual 41, 3) := by decide +kernel
theorem dL_law_537 : decode code 537 = .ok (.iload_n 3, 1) := by decide +kernel
theorem dL_law_538 : decode code 538 = .ok (.if_icmp .ne 14, 3) := by decide +kernel
theorem dL_law_541 : decode code 541 = .ok (.aload_n 1, 1) := by decide +kernel
theorem dL_law_542 : decode code 542 = .ok (.iload 6, 2) := by decide +kernel
theorem dL_law_544 : decode code 544 = .ok (.invokevirtual 54, 3) := by decide +kernel
theorem dL_law_547 : decode code 547 = .ok (.iload 7, 2) := by decide +kernel
theorem dL_law_549 : decode code 549 = .ok (.if_icmp .eq 5, 3) := by decide +kernel
theorem dL_law_552 : decode code 552 = .ok (.iconst 0, 1) := by decide +kernel
theorem dL_law_554 : decode code 554 = .ok (.aload_n 1, 1) := by decide +kernel
theorem dL_law_555 : decode code 555 = .ok (.invokevirtual 94, 3) := by decide +kernel
theorem dL_law_558 : decode code 558 = .ok (.lconst 0, 1) := by decide +kernel
theorem dL_law_559 : decode code 559 = .ok (.lcmp, 1) := by decide +kernel
theorem dL_law_560 : decode code 560 = .ok (.ifCond .le 23, 3) := by decide +kernel
theorem dL_law_563 : decode code 563 = .ok (.aload_n 1, 1) := by decide +kernel
theorem dL_law_564 : decode code 564 = .ok (.iconst 3, 1) := by decide +kernel
theorem dL_law_565 : decode code 565 = .ok (.invokevirtual 98, 3) := by decide +kernel
theorem dL_law_568 : decode code 568 = .ok (.ifCond .lt 15, 3) := by decide +kernel
theorem dL_law_571 : decode code 571 = .ok (.aload_n 1, 1) := by decide +kernel
theorem dL_law_572 : decode code 572 = .ok (.iconst 4, 1) := by decide +kernel
theorem dL_law_573 : decode code 573 = .ok (.invokevirtual 98, 3) := by decide +kernel
theorem dL_law_576 : decode code 576 = .ok (.ifCond .lt 7, 3) := by decide +kernel
theorem dL_law_579 : decode code 579 = .ok (.iconst 1, 1) := by decide +kernel
theorem dL_law_580 : decode code 580 = .ok (.goto 4, 3) := by decide +kernel
theorem dL_law_583 : decode code 583 = .ok (.iconst 0, 1) := by decide +kernel
theorem dL_law_584 : decode code 584 = .ok (.ireturn, 1) := by decide +kernel
def wp_L_law_509 (zd : Nat) (xs : Nat → Int32) (L : Nat)  (o1 : Nat) (y3 : Int32) (y6 : Int32) (y7 : Int32) (f : FT) (bc bs : Nat) (K : Prop)  : Prop :=
  ∃ ga_3 gb_4 : Nat, ga_3 ≤ bc ∧ gb_4 ≤ bs ∧ isO f o1 11 ∧ wp_X8_restoreSnapshot zd o1 f ga_3 gb_4 (fun r_1 f_2 => ((¬ r_1 = y3 → False) ∧
 (r_1 = y3 → ∃ ga_10 gb_11 : Nat, ga_10 ≤ (bc - ga_3) ∧ gb_11 ≤ (bs - gb_4) ∧ isO f_2 o1 11 ∧ wp_X8_close o1 (2 : Int32) f_2 ga_10 gb_11 (fun r_8 f_9 => ((¬ r_8 = (0 : Int32) → False) ∧
 (r_8 = (0 : Int32) → ∃ ga_17 gb_18 : Nat, ga_17 ≤ ((bc - ga_3) - ga_10) ∧ gb_18 ≤ ((bs - gb_4) - gb_11) ∧ isO f_9 o1 11 ∧ wp_X8_close o1 (0 : Int32) f_9 ga_17 gb_18 (fun r_15 f_16 => ((¬ r_15 = (0 : Int32) → False) ∧
 (r_15 = (0 : Int32) → isO f_16 o1 11 ∧ wp_X8_size o1 f_16 (fun r_22 => ((¬ r_22 = y3 → False) ∧
 (r_22 = y3 → ∃ ga_26 gb_27 : Nat, ga_26 ≤ (((bc - ga_3) - ga_10) - ga_17) ∧ gb_27 ≤ (((bs - gb_4) - gb_11) - gb_18) ∧ isO f_16 o1 11 ∧ wp_X8_select o1 y6 f_16 ga_26 gb_27 (fun r_24 f_25 => ((r_24 = y7 → isO f_25 o1 11 ∧ wp_X8_occupancyBits o1 f_25 (fun r_31 => (((lg_cmp r_31 (0 : Int64)) ≤ (0 : Int32) → False) ∧
 (¬ ((lg_cmp r_31 (0 : Int64)) ≤ (0 : Int32)) → ∃ ga_35 gb_36 : Nat, ga_35 ≤ ((((bc - ga_3) - ga_10) - ga_17) - ga_26) ∧ gb_36 ≤ ((((bs - gb_4) - gb_11) - gb_18) - gb_27) ∧ isO f_25 o1 11 ∧ wp_X8_statistic o1 (3 : Int32) f_25 ga_35 gb_36 (fun r_33 f_34 => ((r_33 < (0 : Int32) → False) ∧
 (¬ (r_33 < (0 : Int32)) → ∃ ga_42 gb_43 : Nat, ga_42 ≤ (((((bc - ga_3) - ga_10) - ga_17) - ga_26) - ga_35) ∧ gb_43 ≤ (((((bs - gb_4) - gb_11) - gb_18) - gb_27) - gb_36) ∧ isO f_34 o1 11 ∧ wp_X8_statistic o1 (4 : Int32) f_34 ga_42 gb_43 (fun r_40 f_41 => ((r_40 < (0 : Int32) → False) ∧
 (¬ (r_40 < (0 : Int32)) → K))) (fun _ _ => False)))) (fun _ _ => False))))) ∧
 (¬ (r_24 = y7) → False))) (fun _ _ => False))))))) (fun _ _ => False)))) (fun _ _ => False)))) (fun _ _ => False)
def wp_L_law_475 (zd : Nat) (xs : Nat → Int32) (L : Nat)  (o1 : Nat) (y3 : Int32) (y6 : Int32) (y7 : Int32) (y11 : Int32) (z0 : Int32) (f : FT) (bc bs : Nat) (K : Prop)  : Prop :=
  ∃ ga_49 gb_50 : Nat, ga_49 ≤ bc ∧ gb_50 ≤ bs ∧ isO f o1 11 ∧ wp_X8_removeAt o1 (2 : Int32) f ga_49 gb_50 (fun r_47 f_48 => ∃ ga_55 gb_56 : Nat, ga_55 ≤ (bc - ga_49) ∧ gb_56 ≤ (bs - gb_50) ∧ isO f_48 o1 11 ∧ wp_X8_distance o1 (2 : Int32) (3 : Int32) f_48 ga_55 gb_56 (fun r_53 f_54 => ((¬ r_53 = (0 : Int32) → False) ∧
 (r_53 = (0 : Int32) → ((¬ y11 = (0 : Int32) → wp_L_law_509 zd xs L o1 y3 y6 y7 f_54 ((bc - ga_49) - ga_55) ((bs - gb_50) - gb_56) K) ∧
 (y11 = (0 : Int32) → ∃ ga_63 gb_64 : Nat, ga_63 ≤ ((bc - ga_49) - ga_55) ∧ gb_64 ≤ ((bs - gb_50) - gb_56) ∧ isO f_54 o1 11 ∧ wp_X8_current o1 (3 : Int32) f_54 ga_63 gb_64 (fun r_61 f_62 => ((r_61 = z0 → wp_L_law_509 zd xs L o1 y3 y6 y7 f_62 (((bc - ga_49) - ga_55) - ga_63) (((bs - gb_50) - gb_56) - gb_64) K) ∧
 (¬ (r_61 = z0) → False))) (fun _ _ => False)))))) (fun _ _ => False)) (fun _ _ => False)
def wp_L_law_454 (zd : Nat) (xs : Nat → Int32) (L : Nat)  (o1 : Nat) (y3 : Int32) (y6 : Int32) (y7 : Int32) (y9 : Int32) (z0 : Int32) (f : FT) (bc bs : Nat) (K : Prop)  : Prop :=
  ((z0 = (0 : Int32) → (¬ (2 : Int32) = 0) ∧ ∃ ga_71 gb_72 : Nat, ga_71 ≤ bc ∧ gb_72 ≤ bs ∧ isO f o1 11 ∧ wp_X8_select o1 ((y9 / (2 : Int32)) + (1 : Int32)) f ga_71 gb_72 (fun r_69 f_70 => wp_L_law_475 zd xs L o1 y3 y6 y7 z0 r_69 f_70 (bc - ga_71) (bs - gb_72) K) (fun _ _ => False)) ∧
 (¬ (z0 = (0 : Int32)) → wp_L_law_475 zd xs L o1 y3 y6 y7 z0 (0 : Int32) f bc bs K))
def wp_L_law_263 (zd : Nat) (xs : Nat → Int32) (L : Nat) (b : Nat) (o1 : Nat) (y2 : Int32) (y3 : Int32) (y6 : Int32) (y7 : Int32) (y8 : Int32) (K : Prop)  (C263 : Int32 × FT × Nat × Nat → Prop) : Int32 × FT × Nat × Nat → Prop := fun s9 => match s9 with
  | (y9, f, bc, bs) => ((y2 ≤ y9 → ((¬ y8 = y3 → False) ∧
 (y8 = y3 → ∃ ga_79 gb_80 : Nat, ga_79 ≤ bc ∧ gb_80 ≤ bs ∧ isO f o1 11 ∧ wp_X8_current o1 (2 : Int32) f ga_79 gb_80 (fun r_77 f_78 => ∃ ga_85 gb_86 : Nat, ga_85 ≤ (bc - ga_79) ∧ gb_86 ≤ (bs - gb_80) ∧ isO f_78 o1 11 ∧ wp_X8_get o1 f_78 ga_85 gb_86 (fun r_83 f_84 => ((r_77 = r_83 → isO f_84 o1 11 ∧ wp_X8_rank o1 f_84 (fun r_90 => ∃ ga_93 gb_94 : Nat, ga_93 ≤ ((bc - ga_79) - ga_85) ∧ gb_94 ≤ ((bs - gb_80) - gb_86) ∧ isO f_84 o1 11 ∧ wp_X8_open o1 (3 : Int32) f_84 ga_93 gb_94 (fun r_91 f_92 => ∃ ga_99 gb_100 : Nat, ga_99 ≤ (((bc - ga_79) - ga_85) - ga_93) ∧ gb_100 ≤ (((bs - gb_80) - gb_86) - gb_94) ∧ isO f_92 o1 11 ∧ wp_X8_distance o1 (2 : Int32) (3 : Int32) f_92 ga_99 gb_100 (fun r_97 f_98 => ((¬ r_97 = (0 : Int32) → False) ∧
 (r_97 = (0 : Int32) → isO f_98 o1 11 ∧ wp_X8_size o1 f_98 (fun r_104 => ((y3 ≤ r_104 → isO f_98 o1 11 ∧ wp_X8_size o1 f_98 (fun r_106 => (¬ (2 : Int32) = 0) ∧ ∃ ga_109 gb_110 : Nat, ga_109 ≤ ((((bc - ga_79) - ga_85) - ga_93) - ga_99) ∧ gb_110 ≤ ((((bs - gb_80) - gb_86) - gb_94) - gb_100) ∧ isO f_98 o1 11 ∧ wp_X8_select o1 (r_90 / (2 : Int32)) f_98 ga_109 gb_110 (fun r_107 f_108 => isO f_108 o1 11 ∧ wp_X8_swapBound o1 f_108 (fun r_113 f_114 => ∃ ga_117 gb_118 : Nat, ga_117 ≤ (((((bc - ga_79) - ga_85) - ga_93) - ga_99) - ga_109) ∧ gb_118 ≤ (((((bs - gb_80) - gb_86) - gb_94) - gb_100) - gb_110) ∧ isO f_114 o1 11 ∧ wp_X8_select o1 r_90 f_114 ga_117 gb_118 (fun r_115 f_116 => isO f_116 o1 11 ∧ wp_X8_removeRange o1 f_116 (fun r_121 f_122 => (¬ (2 : Int32) = 0) ∧ ((¬ r_121 = (r_90 - (r_90 / (2 : Int32))) → False) ∧
 (r_121 = (r_90 - (r_90 / (2 : Int32))) → isO f_122 o1 11 ∧ wp_X8_size o1 f_122 (fun r_124 => (¬ (2 : Int32) = 0) ∧ ((r_124 = ((r_106 - r_90) + (r_90 / (2 : Int32))) → ∃ ga_128 gb_129 : Nat, ga_128 ≤ ((((((bc - ga_79) - ga_85) - ga_93) - ga_99) - ga_109) - ga_117) ∧ gb_129 ≤ ((((((bs - gb_80) - gb_86) - gb_94) - gb_100) - gb_110) - gb_118) ∧ isO f_122 o1 11 ∧ wp_X8_current o1 (2 : Int32) f_122 ga_128 gb_129 (fun r_126 f_127 => isO f_127 o1 11 ∧ wp_X8_rank o1 f_127 (fun r_132 => (¬ (2 : Int32) = 0) ∧ ((¬ r_132 = (r_90 / (2 : Int32)) → False) ∧
 (r_132 = (r_90 / (2 : Int32)) → ∃ ga_136 gb_137 : Nat, ga_136 ≤ (((((((bc - ga_79) - ga_85) - ga_93) - ga_99) - ga_109) - ga_117) - ga_128) ∧ gb_137 ≤ (((((((bs - gb_80) - gb_86) - gb_94) - gb_100) - gb_110) - gb_118) - gb_129) ∧ isO f_127 o1 11 ∧ wp_X8_distance o1 (2 : Int32) (3 : Int32) f_127 ga_136 gb_137 (fun r_134 f_135 => ((r_134 = (0 : Int32) → (¬ (2 : Int32) = 0) ∧ isO f_135 o1 11 ∧ wp_X8_size o1 f_135 (fun r_141 => ((¬ (r_90 / (2 : Int32)) = (r_141 - (1 : Int32)) → wp_L_law_454 zd xs L o1 y3 y6 y7 r_90 (0 : Int32) f_135 ((((((((bc - ga_79) - ga_85) - ga_93) - ga_99) - ga_109) - ga_117) - ga_128) - ga_136) ((((((((bs - gb_80) - gb_86) - gb_94) - gb_100) - gb_110) - gb_118) - gb_129) - gb_137) K) ∧
 ((r_90 / (2 : Int32)) = (r_141 - (1 : Int32)) → wp_L_law_454 zd xs L o1 y3 y6 y7 r_90 (1 : Int32) f_135 ((((((((bc - ga_79) - ga_85) - ga_93) - ga_99) - ga_109) - ga_117) - ga_128) - ga_136) ((((((((bs - gb_80) - gb_86) - gb_94) - gb_100) - gb_110) - gb_118) - gb_129) - gb_137) K)))) ∧
 (¬ (r_134 = (0 : Int32)) → False))) (fun _ _ => False))))) (fun _ _ => False)) ∧
 (¬ (r_124 = ((r_106 - r_90) + (r_90 / (2 : Int32)))) → False))))))) (fun _ _ => False))) (fun _ _ => False))) ∧
 (¬ (y3 ≤ r_104) → False)))))) (fun _ _ => False)) (fun _ _ => False))) ∧
 (¬ (r_77 = r_83) → False))) (fun _ _ => False)) (fun _ _ => False)))) ∧
 (¬ (y2 ≤ y9) → wp_L_number xs L b y9 f (fun r_143 => ∃ ga_146 gb_147 : Nat, ga_146 ≤ bc ∧ gb_147 ≤ bs ∧ wp_L_key o1 (r_143 ^^^ (21 : Int32)) f ga_146 gb_147 (fun f_145 => ∃ ga_152 gb_153 : Nat, ga_152 ≤ (bc - ga_146) ∧ gb_153 ≤ (bs - gb_147) ∧ isO f_145 o1 11 ∧ wp_X8_put zd o1 ((-1 : Int32) - y9) f_145 ga_152 gb_153 (fun r_150 f_151 => ∀ v_156 : Int32, v_156 = y9 + 1 → C263 (v_156, f_151, ((bc - ga_146) - ga_152), ((bs - gb_147) - gb_153))) (fun _ _ => False)))))
def wp_L_law_151 (zd : Nat) (xs : Nat → Int32) (L : Nat) (b : Nat) (o1 : Nat) (y2 : Int32) (y3 : Int32) (K : Prop)  (C151 : Int32 × FT × Nat × Nat → Prop) : Int32 × FT × Nat × Nat → Prop := fun s9 => match s9 with
  | (y6, f, bc, bs) => ((y6 < (0 : Int32) → ((¬ y3 = (0 : Int32) → wp_L_at xs L b (0 : Int32) f (fun r_160 => (¬ y3 = 0) ∧ ∀ v_161 : Int32, v_161 = (((r_160 >>> ((10 : Int32) &&& 31)) &&& (63 : Int32)) - ((r_160 >>> ((10 : Int32) &&& 31)) &&& (63 : Int32)) / y3 * y3) → ∃ ga_165 gb_166 : Nat, ga_165 ≤ bc ∧ gb_166 ≤ bs ∧ isO f o1 11 ∧ wp_X8_select o1 v_161 f ga_165 gb_166 (fun r_163 f_164 => ∃ ga_171 gb_172 : Nat, ga_171 ≤ (bc - ga_165) ∧ gb_172 ≤ (bs - gb_166) ∧ isO f_164 o1 11 ∧ wp_X8_open o1 (2 : Int32) f_164 ga_171 gb_172 (fun r_169 f_170 => ∃ ga_177 gb_178 : Nat, ga_177 ≤ ((bc - ga_165) - ga_171) ∧ gb_178 ≤ ((bs - gb_166) - gb_172) ∧ isO f_170 o1 11 ∧ wp_X8_saveSnapshot zd o1 f_170 ga_177 gb_178 (fun r_175 f_176 => ∃ n_181, loopW (wp_L_law_263 zd xs L b o1 y2 y3 v_161 r_163 r_175 K) n_181 ((0 : Int32), f_176, (((bc - ga_165) - ga_171) - ga_177), (((bs - gb_166) - gb_172) - gb_178)))) (fun _ _ => False)) (fun _ _ => False))) ∧
 (y3 = (0 : Int32) → ∃ ga_184 gb_185 : Nat, ga_184 ≤ bc ∧ gb_185 ≤ bs ∧ isO f o1 11 ∧ wp_X8_load zd o1 (50 : Int32) f ga_184 gb_185 (fun r_182 f_183 => ((¬ r_182 = (1 : Int32) → False) ∧
 (r_182 = (1 : Int32) → isO f_183 o1 11 ∧ wp_X8_height o1 f_183 (fun r_189 => ((¬ r_189 = (1 : Int32) → False) ∧
 (r_189 = (1 : Int32) → ∃ ga_193 gb_194 : Nat, ga_193 ≤ (bc - ga_184) ∧ gb_194 ≤ (bs - gb_185) ∧ isO f_183 o1 11 ∧ wp_X8_close o1 (0 : Int32) f_183 ga_193 gb_194 (fun r_191 f_192 => ((¬ r_191 = (0 : Int32) → False) ∧
 (r_191 = (0 : Int32) → ∃ ga_200 gb_201 : Nat, ga_200 ≤ ((bc - ga_184) - ga_193) ∧ gb_201 ≤ ((bs - gb_185) - gb_194) ∧ isO f_192 o1 11 ∧ wp_X8_saveSnapshot zd o1 f_192 ga_200 gb_201 (fun r_198 f_199 => ((¬ r_198 = (0 : Int32) → False) ∧
 (r_198 = (0 : Int32) → K)))))) (fun _ _ => False))))))) (fun _ _ => False)))) ∧
 (¬ (y6 < (0 : Int32)) → ∃ ga_207 gb_208 : Nat, ga_207 ≤ bc ∧ gb_208 ≤ bs ∧ isO f o1 11 ∧ wp_X8_retreat o1 (0 : Int32) f ga_207 gb_208 (fun r_205 f_206 => ∃ ga_213 gb_214 : Nat, ga_213 ≤ (bc - ga_207) ∧ gb_214 ≤ (bs - gb_208) ∧ isO f_206 o1 11 ∧ wp_X8_select o1 y6 f_206 ga_213 gb_214 (fun r_211 f_212 => ((r_205 = r_211 → ∀ v_218 : Int32, v_218 = y6 + (-1) → C151 (v_218, f_212, ((bc - ga_207) - ga_213), ((bs - gb_208) - gb_214))) ∧
 (¬ (r_205 = r_211) → False))) (fun _ _ => False)) (fun _ _ => False)))
def wp_L_law_83 (zd : Nat) (xs : Nat → Int32) (L : Nat) (b : Nat) (o1 : Nat) (y2 : Int32) (y3 : Int32) (K : Prop)  (C83 : Int32 × Int32 × FT × Nat × Nat → Prop) : Int32 × Int32 × FT × Nat × Nat → Prop := fun s9 => match s9 with
  | (y4, y5, f, bc, bs) => ((y5 = (0 : Int32) → ((¬ y4 = y3 → False) ∧
 (y4 = y3 → ∃ ga_224 gb_225 : Nat, ga_224 ≤ bc ∧ gb_225 ≤ bs ∧ isO f o1 11 ∧ wp_X8_distance o1 (1 : Int32) (0 : Int32) f ga_224 gb_225 (fun r_222 f_223 => ((¬ r_222 = y3 → False) ∧
 (r_222 = y3 → ∃ ga_231 gb_232 : Nat, ga_231 ≤ (bc - ga_224) ∧ gb_232 ≤ (bs - gb_225) ∧ isO f_223 o1 11 ∧ wp_X8_distance o1 (0 : Int32) (1 : Int32) f_223 ga_231 gb_232 (fun r_229 f_230 => ((r_229 = (-y3) → ∀ v_236 : Int32, v_236 = (y3 - (1 : Int32)) → ∃ n_238, loopW (wp_L_law_151 zd xs L b o1 y2 y3 K) n_238 (v_236, f_230, ((bc - ga_224) - ga_231), ((bs - gb_225) - gb_232))) ∧
 (¬ (r_229 = (-y3)) → False))) (fun _ _ => False)))) (fun _ _ => False)))) ∧
 (¬ (y5 = (0 : Int32)) → ∃ ga_241 gb_242 : Nat, ga_241 ≤ bc ∧ gb_242 ≤ bs ∧ isO f o1 11 ∧ wp_X8_current o1 (0 : Int32) f ga_241 gb_242 (fun r_239 f_240 => ∃ ga_247 gb_248 : Nat, ga_247 ≤ (bc - ga_241) ∧ gb_248 ≤ (bs - gb_242) ∧ isO f_240 o1 11 ∧ wp_X8_select o1 y4 f_240 ga_247 gb_248 (fun r_245 f_246 => ((r_239 = r_245 → ∃ ga_254 gb_255 : Nat, ga_254 ≤ ((bc - ga_241) - ga_247) ∧ gb_255 ≤ ((bs - gb_242) - gb_248) ∧ isO f_246 o1 11 ∧ wp_X8_advance o1 (0 : Int32) f_246 ga_254 gb_255 (fun r_252 f_253 => ∀ v_258 : Int32, v_258 = y4 + 1 → C83 (v_258, r_252, f_253, (((bc - ga_241) - ga_247) - ga_254), (((bs - gb_242) - gb_248) - gb_255))) (fun _ _ => False)) ∧
 (¬ (r_239 = r_245) → False))) (fun _ _ => False)) (fun _ _ => False)))
def wp_L_law_81 (zd : Nat) (xs : Nat → Int32) (L : Nat) (b : Nat) (o1 : Nat) (y2 : Int32) (y3 : Int32) (y4 : Int32) (z0 : Int32) (f : FT) (bc bs : Nat) (K : Prop)  : Prop :=
  ∃ n_260, loopW (wp_L_law_83 zd xs L b o1 y2 y3 K) n_260 (y4, z0, f, bc, bs)
def wp_L_law_64 (zd : Nat) (xs : Nat → Int32) (L : Nat) (b : Nat) (o1 : Nat) (y2 : Int32) (y3 : Int32) (z0 : Int32) (z1 : Int32) (f : FT) (bc bs : Nat) (K : Prop)  : Prop :=
  ((z1 = z0 → ((y3 ≤ (0 : Int32) → wp_L_law_81 zd xs L b o1 y2 y3 (0 : Int32) (0 : Int32) f bc bs K) ∧
 (¬ (y3 ≤ (0 : Int32)) → wp_L_law_81 zd xs L b o1 y2 y3 (0 : Int32) (1 : Int32) f bc bs K))) ∧
 (¬ (z1 = z0) → False))
def wp_L_law_39 (zd : Nat) (xs : Nat → Int32) (L : Nat) (b : Nat) (o1 : Nat) (y2 : Int32) (y3 : Int32) (z0 : Int32) (z1 : Int32) (f : FT) (bc bs : Nat) (K : Prop)  : Prop :=
  ((¬ z1 = z0 → False) ∧
 (z1 = z0 → ∃ ga_266 gb_267 : Nat, ga_266 ≤ bc ∧ gb_267 ≤ bs ∧ isO f o1 11 ∧ wp_X8_close o1 (3 : Int32) f ga_266 gb_267 (fun r_264 f_265 => ((¬ r_264 = (0 : Int32) → False) ∧
 (r_264 = (0 : Int32) → ∃ ga_273 gb_274 : Nat, ga_273 ≤ (bc - ga_266) ∧ gb_274 ≤ (bs - gb_267) ∧ isO f_265 o1 11 ∧ wp_X8_open o1 (1 : Int32) f_265 ga_273 gb_274 (fun r_271 f_272 => ((y3 ≤ (0 : Int32) → wp_L_law_64 zd xs L b o1 y2 y3 (0 : Int32) r_271 f_272 ((bc - ga_266) - ga_273) ((bs - gb_267) - gb_274) K) ∧
 (¬ (y3 ≤ (0 : Int32)) → wp_L_law_64 zd xs L b o1 y2 y3 (1 : Int32) r_271 f_272 ((bc - ga_266) - ga_273) ((bs - gb_267) - gb_274) K))) (fun _ _ => False)))) (fun _ _ => False)))
def wp_L_law (zd : Nat) (xs : Nat → Int32) (L : Nat) (b : Nat) (f : FT) (mc ms : Nat) (K : Prop) : Prop :=
  ∃ ga_280 gb_281 : Nat, ga_280 ≤ mc ∧ gb_281 ≤ ms ∧ wp_L_build zd xs L b f ga_280 gb_281 (fun a_278 f_279 => wp_L_at xs L b (0 : Int32) f_279 (fun r_284 => ∀ v_285 : Int32, v_285 = (r_284 &&& (63 : Int32)) → isO f_279 a_278 11 ∧ wp_X8_size a_278 f_279 (fun r_287 => ∃ ga_290 gb_291 : Nat, ga_290 ≤ (mc - ga_280) ∧ gb_291 ≤ (ms - gb_281) ∧ isO f_279 a_278 11 ∧ wp_X8_cutKey a_278 (0 : Int32) f_279 ga_290 gb_291 (fun r_288 f_289 => ∃ ga_296 gb_297 : Nat, ga_296 ≤ ((mc - ga_280) - ga_290) ∧ gb_297 ≤ ((ms - gb_281) - gb_291) ∧ isO f_289 a_278 11 ∧ wp_X8_open a_278 (0 : Int32) f_289 ga_296 gb_297 (fun r_294 f_295 => ((r_287 ≤ (0 : Int32) → wp_L_law_39 zd xs L b a_278 v_285 r_287 (0 : Int32) r_294 f_295 (((mc - ga_280) - ga_290) - ga_296) (((ms - gb_281) - gb_291) - gb_297) K) ∧
 (¬ (r_287 ≤ (0 : Int32)) → wp_L_law_39 zd xs L b a_278 v_285 r_287 (1 : Int32) r_294 f_295 (((mc - ga_280) - ga_290) - ga_296) (((ms - gb_281) - gb_291) - gb_297) K))) (fun _ _ => False)) (fun _ _ => False))))
set_option maxHeartbeats 16000000 in
set_option maxRecDepth 100000 in
theorem law_walk {p : Program} {l : Launch} {e : Env} {s : State} {m : MethodId} {below : List Frame} {meth : Method} {c : Code} {b L : Nat} {xs : Nat → Int32} (hlt : l.stackTraces = false) (C0 : lw_At p s m meth c b L xs) {G : GG} (hK : FK G s) (hZ : FZ G (fun q : Nat => s.heap.size ≤ q) s s.heap) (hX : FX9 G (fun q : Nat => s.heap.size ≤ q) s s.heap) {zd : Nat} (hzd : G.2.2 0 = zd) {f : FT} (hF : Fw G (fun q : Nat => s.heap.size ≤ q) f s.heap) {K : Prop} (h : wp_L_law zd xs L b f 1045538 5964855 K) : W p l e room_1 s m #[Value.ref b] below meth c s.heap [] 0 0 (lw_Z below #[Value.ref b] s) (entryFrame m ([Value.ref b] : List Value).toArray 13) := by
  obtain ⟨hx, hb, hr, hml, hown, hts0, hXs, hbl, hlocks, hgv⟩ := id C0
  have hts : ∀ w ∈ wsL_law, w.before #[Value.ref b] s = true := fun w h => hts0 w (wsL_law_in w h)
  have hbA : ¬ (fun q : Nat => s.heap.size ≤ q) b := Nat.not_le.mpr hbl
  have hA : ∀ q : Nat, s.heap.size ≤ q → (fun q : Nat => s.heap.size ≤ q) q := fun _ h => h
  generalize hAe : (fun q : Nat => s.heap.size ≤ q) = A at hF hZ hX hbA hA
  have hS : va_S A s.heap s.heap [] := va_S.rf
  have hbc : 0 + 1045538 ≤ 1045538 := by omega
  have hbs : 0 + 5964855 ≤ 5964855 := by omega
  have J509 : ∀ (o1 : Nat) (y3 : Int32) (y6 : Int32) (y7 : Int32) (f : FT) (bc : Nat) (bs : Nat) (H : Heap) (locs : List Loc) (ls : Array Slot) (cs sl : Nat), wp_L_law_509 zd xs L o1 y3 y6 y7 f bc bs K  → cs + bc ≤ 1045538 → sl + bs ≤ 5964855 → Fw G A f H → va_S A s.heap H locs → lv_has ls 13 [(1, .ref o1), (3, .int y3), (6, .int y6), (7, .int y7)] → W p l e room_1 s m #[Value.ref b] below meth c H locs cs sl (lw_Z below #[Value.ref b] s) (F0 m 509 ls []) := by
    intro o1 y3 y6 y7 f bc bs H locs ls cs sl h hbc hbs hF hS hl
    unfold wp_L_law_509 at h
    refine lv_aload_n hx hb dL_law_509 rfl (lv_at hl 0 rfl) ?_
    obtain ⟨ga_3, gb_4, hga_ga_3, hgb_ga_3, h⟩ := h
    obtain ⟨⟨fs_r_1, hrc_r_1⟩, h⟩ := h
    refine fy_cV_i (As := []) (rest := []) ⟨hx, hb, hml, hown, hts⟩ (cc_X8_restoreSnapshot l G hzd hlt h) (⟨callB_of 0 hts ggL_law_X8_restoreSnapshot rfl rfl rfl (hts0 (.initialized RX8) (List.mem_of_getElem? (i := 21) (by decide +kernel))) (hts0 (.methodLink RL 91 yX8_restoreSnapshot) (List.mem_of_getElem? (i := 713) (by decide +kernel))) (by decide +kernel) ⟨Nat.le_of_ble_eq_true rfl, Nat.le_of_ble_eq_true rfl⟩, (hts0 (.instanceMethod yX8_restoreSnapshot) (List.mem_of_getElem? (i := 714) (by decide +kernel))), (hts0 (.selects RX8 yX8_restoreSnapshot yX8_restoreSnapshot) (List.mem_of_getElem? (i := 715) (by decide +kernel)))⟩) rfl hrc_r_1 hK hZ hX hF hS hA rfl hl.1 rfl (Nat.le_of_ble_eq_true rfl) dL_law_510 ⟨by show _ ≤ 1045538; omega, by show _ ≤ 5964855; omega⟩ (fun r_1 f_2 H locs h hF hS => ?_)
    obtain ⟨cs_5, hcs⟩ : ∃ z, z = (cs + ga_3) := ⟨_, rfl⟩; obtain ⟨sl_6, hsl⟩ : ∃ z, z = (sl + gb_4) := ⟨_, rfl⟩
    have hbc : cs_5 + (bc - ga_3) ≤ 1045538 := by omega
    have hbs : sl_6 + (bs - gb_4) ≤ 5964855 := by omega
    refine W.widen (k := cs_5) (n := sl_6) (by omega) (by omega) ?_
    clear hcs hsl
    refine lv_iload_n hx hb dL_law_513 rfl (lv_at hl 1 rfl) ?_
    obtain ⟨h1, h2⟩ := h
    refine lv_icmp_ne (tgt := 552) hx hb dL_law_514 (by decide) (fun c_7 => ?_) (fun c_7 => ?_)
    · have h := h1 c_7
      refine lv_iconst (v := (0 : Int32)) hx hb dL_law_552 (by decide) ?_
      exact h.elim
    · have h := h2 c_7
      refine lv_aload_n hx hb dL_law_517 rfl (lv_at hl 0 rfl) ?_
      refine lv_iconst (v := (2 : Int32)) hx hb dL_law_518 (by decide) ?_
      obtain ⟨ga_10, gb_11, hga_ga_10, hgb_ga_10, h⟩ := h
      obtain ⟨⟨fs_r_8, hrc_r_8⟩, h⟩ := h
      refine fy_cV_i (As := [.int (2 : Int32)]) (rest := []) ⟨hx, hb, hml, hown, hts⟩ (cc_X8_close l G hlt h) (⟨callB_of 1 hts ggL_law_X8_close rfl rfl rfl (hts0 (.initialized RX8) (List.mem_of_getElem? (i := 21) (by decide +kernel))) (hts0 (.methodLink RL 48 yX8_close) (List.mem_of_getElem? (i := 608) (by decide +kernel))) (by decide +kernel) ⟨Nat.le_of_ble_eq_true rfl, Nat.le_of_ble_eq_true rfl⟩, (hts0 (.instanceMethod yX8_close) (List.mem_of_getElem? (i := 609) (by decide +kernel))), (hts0 (.selects RX8 yX8_close yX8_close) (List.mem_of_getElem? (i := 610) (by decide +kernel)))⟩) rfl hrc_r_8 hK hZ hX hF hS hA rfl hl.1 rfl (Nat.le_of_ble_eq_true rfl) dL_law_519 ⟨by show _ ≤ 1045538; omega, by show _ ≤ 5964855; omega⟩ (fun r_8 f_9 H locs h hF hS => ?_)
      obtain ⟨cs_12, hcs⟩ : ∃ z, z = (cs_5 + ga_10) := ⟨_, rfl⟩; obtain ⟨sl_13, hsl⟩ : ∃ z, z = (sl_6 + gb_11) := ⟨_, rfl⟩
      have hbc : cs_12 + ((bc - ga_3) - ga_10) ≤ 1045538 := by omega
      have hbs : sl_13 + ((bs - gb_4) - gb_11) ≤ 5964855 := by omega
      refine W.widen (k := cs_12) (n := sl_13) (by omega) (by omega) ?_
      clear hcs hsl
      obtain ⟨h1, h2⟩ := h
      refine lv_if_ne (tgt := 552) hx hb dL_law_522 (by decide) (fun c_14 => ?_) (fun c_14 => ?_)
      · have h := h1 c_14
        refine lv_iconst (v := (0 : Int32)) hx hb dL_law_552 (by decide) ?_
        exact h.elim
      · have h := h2 c_14
        refine lv_aload_n hx hb dL_law_525 rfl (lv_at hl 0 rfl) ?_
        refine lv_iconst (v := (0 : Int32)) hx hb dL_law_526 (by decide) ?_
        obtain ⟨ga_17, gb_18, hga_ga_17, hgb_ga_17, h⟩ := h
        obtain ⟨⟨fs_r_15, hrc_r_15⟩, h⟩ := h
        refine fy_cV_i (As := [.int (0 : Int32)]) (rest := []) ⟨hx, hb, hml, hown, hts⟩ (cc_X8_close l G hlt h) (⟨callB_of 1 hts ggL_law_X8_close rfl rfl rfl (hts0 (.initialized RX8) (List.mem_of_getElem? (i := 21) (by decide +kernel))) (hts0 (.methodLink RL 48 yX8_close) (List.mem_of_getElem? (i := 608) (by decide +kernel))) (by decide +kernel) ⟨Nat.le_of_ble_eq_true rfl, Nat.le_of_ble_eq_true rfl⟩, (hts0 (.instanceMethod yX8_close) (List.mem_of_getElem? (i := 609) (by decide +kernel))), (hts0 (.selects RX8 yX8_close yX8_close) (List.mem_of_getElem? (i := 610) (by decide +kernel)))⟩) rfl hrc_r_15 hK hZ hX hF hS hA rfl hl.1 rfl (Nat.le_of_ble_eq_true rfl) dL_law_527 ⟨by show _ ≤ 1045538; omega, by show _ ≤ 5964855; omega⟩ (fun r_15 f_16 H locs h hF hS => ?_)
        obtain ⟨cs_19, hcs⟩ : ∃ z, z = (cs_12 + ga_17) := ⟨_, rfl⟩; obtain ⟨sl_20, hsl⟩ : ∃ z, z = (sl_13 + gb_18) := ⟨_, rfl⟩
        have hbc : cs_19 + (((bc - ga_3) - ga_10) - ga_17) ≤ 1045538 := by omega
        have hbs : sl_20 + (((bs - gb_4) - gb_11) - gb_18) ≤ 5964855 := by omega
        refine W.widen (k := cs_19) (n := sl_20) (by omega) (by omega) ?_
        clear hcs hsl
        obtain ⟨h1, h2⟩ := h
        refine lv_if_ne (tgt := 552) hx hb dL_law_530 (by decide) (fun c_21 => ?_) (fun c_21 => ?_)
        · have h := h1 c_21
          refine lv_iconst (v := (0 : Int32)) hx hb dL_law_552 (by decide) ?_
          exact h.elim
        · have h := h2 c_21
          refine lv_aload_n hx hb dL_law_533 rfl (lv_at hl 0 rfl) ?_
          obtain ⟨⟨fs_r_22, hrc_r_22⟩, h⟩ := h
          refine fw_cV_i_p (As := []) (rest := []) ⟨hx, hb, hml, hown, hts⟩ (cc_X8_size l G h) (⟨callB_of 0 hts ggL_law_X8_size rfl rfl rfl (hts0 (.initialized RX8) (List.mem_of_getElem? (i := 21) (by decide +kernel))) (hts0 (.methodLink RL 41 yX8_size) (List.mem_of_getElem? (i := 529) (by decide +kernel))) (by decide +kernel) ⟨Nat.le_of_ble_eq_true rfl, Nat.le_of_ble_eq_true rfl⟩, (hts0 (.instanceMethod yX8_size) (List.mem_of_getElem? (i := 530) (by decide +kernel))), (hts0 (.selects RX8 yX8_size yX8_size) (List.mem_of_getElem? (i := 531) (by decide +kernel)))⟩) rfl hrc_r_22 hK hZ hF hS hA rfl hl.1 rfl (Nat.le_of_ble_eq_true rfl) dL_law_534 ⟨by show _ + 0 ≤ 1045538; omega, by show _ + 0 ≤ 5964855; omega⟩ (fun r_22 H locs h hF hS => ?_)
          simp only [Nat.add_zero]
          refine lv_iload_n hx hb dL_law_537 rfl (lv_at hl 1 rfl) ?_
          obtain ⟨h1, h2⟩ := h
          refine lv_icmp_ne (tgt := 552) hx hb dL_law_538 (by decide) (fun c_23 => ?_) (fun c_23 => ?_)
          · have h := h1 c_23
            refine lv_iconst (v := (0 : Int32)) hx hb dL_law_552 (by decide) ?_
            exact h.elim
          · have h := h2 c_23
            refine lv_aload_n hx hb dL_law_541 rfl (lv_at hl 0 rfl) ?_
            refine lv_iload hx hb dL_law_542 (lv_at hl 2 rfl) ?_
            obtain ⟨ga_26, gb_27, hga_ga_26, hgb_ga_26, h⟩ := h
            obtain ⟨⟨fs_r_24, hrc_r_24⟩, h⟩ := h
            refine fy_cV_i (As := [.int y6]) (rest := []) ⟨hx, hb, hml, hown, hts⟩ (cc_X8_select l G hlt h) (⟨callB_of 1 hts ggL_law_X8_select rfl rfl rfl (hts0 (.initialized RX8) (List.mem_of_getElem? (i := 21) (by decide +kernel))) (hts0 (.methodLink RL 54 yX8_select) (List.mem_of_getElem? (i := 537) (by decide +kernel))) (by decide +kernel) ⟨Nat.le_of_ble_eq_true rfl, Nat.le_of_ble_eq_true rfl⟩, (hts0 (.instanceMethod yX8_select) (List.mem_of_getElem? (i := 538) (by decide +kernel))), (hts0 (.selects RX8 yX8_select yX8_select) (List.mem_of_getElem? (i := 539) (by decide +kernel)))⟩) rfl hrc_r_24 hK hZ hX hF hS hA rfl hl.1 rfl (Nat.le_of_ble_eq_true rfl) dL_law_544 ⟨by show _ ≤ 1045538; omega, by show _ ≤ 5964855; omega⟩ (fun r_24 f_25 H locs h hF hS => ?_)
            obtain ⟨cs_28, hcs⟩ : ∃ z, z = (cs_19 + ga_26) := ⟨_, rfl⟩; obtain ⟨sl_29, hsl⟩ : ∃ z, z = (sl_20 + gb_27) := ⟨_, rfl⟩
            have hbc : cs_28 + ((((bc - ga_3) - ga_10) - ga_17) - ga_26) ≤ 1045538 := by omega
            have hbs : sl_29 + ((((bs - gb_4) - gb_11) - gb_18) - gb_27) ≤ 5964855 := by omega
            refine W.widen (k := cs_28) (n := sl_29) (by omega) (by omega) ?_
            clear hcs hsl
            refine lv_iload hx hb dL_law_547 (lv_at hl 3 rfl) ?_
            obtain ⟨h1, h2⟩ := h
            refine lv_icmp_eq (tgt := 554) hx hb dL_law_549 (by decide) (fun c_30 => ?_) (fun c_30 => ?_)
            · have h := h1 c_30
              refine lv_aload_n hx hb dL_law_554 rfl (lv_at hl 0 rfl) ?_
              obtain ⟨⟨fs_r_31, hrc_r_31⟩, h⟩ := h
              refine fw_cV_l_p (As := []) (rest := []) ⟨hx, hb, hml, hown, hts⟩ (cc_X8_occupancyBits l G h) (⟨callB_of 0 hts ggL_law_X8_occupancyBits rfl rfl rfl (hts0 (.initialized RX8) (List.mem_of_getElem? (i := 21) (by decide +kernel))) (hts0 (.methodLink RL 94 yX8_occupancyBits) (List.mem_of_getElem? (i := 585) (by decide +kernel))) (by decide +kernel) ⟨Nat.le_of_ble_eq_true rfl, Nat.le_of_ble_eq_true rfl⟩, (hts0 (.instanceMethod yX8_occupancyBits) (List.mem_of_getElem? (i := 586) (by decide +kernel))), (hts0 (.selects RX8 yX8_occupancyBits yX8_occupancyBits) (List.mem_of_getElem? (i := 587) (by decide +kernel)))⟩) rfl hrc_r_31 hK hZ hF hS hA rfl hl.1 rfl (Nat.le_of_ble_eq_true rfl) dL_law_555 ⟨by show _ + 0 ≤ 1045538; omega, by show _ + 0 ≤ 5964855; omega⟩ (fun r_31 H locs h hF hS => ?_)
              simp only [Nat.add_zero]
              refine lv_lconst (v := (0 : Int64)) hx hb dL_law_558 (by decide) ?_
              refine W.lcmp hx hb dL_law_559 ?_
              obtain ⟨h1, h2⟩ := h
              refine lv_if_le (tgt := 583) hx hb dL_law_560 (by decide) (fun c_32 => ?_) (fun c_32 => ?_)
              · have h := h1 c_32
                refine lv_iconst (v := (0 : Int32)) hx hb dL_law_583 (by decide) ?_
                exact h.elim
              · have h := h2 c_32
                refine lv_aload_n hx hb dL_law_563 rfl (lv_at hl 0 rfl) ?_
                refine lv_iconst (v := (3 : Int32)) hx hb dL_law_564 (by decide) ?_
                obtain ⟨ga_35, gb_36, hga_ga_35, hgb_ga_35, h⟩ := h
                obtain ⟨⟨fs_r_33, hrc_r_33⟩, h⟩ := h
                refine fy_cV_i (As := [.int (3 : Int32)]) (rest := []) ⟨hx, hb, hml, hown, hts⟩ (cc_X8_statistic l G hlt h) (⟨callB_of 1 hts ggL_law_X8_statistic rfl rfl rfl (hts0 (.initialized RX8) (List.mem_of_getElem? (i := 21) (by decide +kernel))) (hts0 (.methodLink RL 98 yX8_statistic) (List.mem_of_getElem? (i := 562) (by decide +kernel))) (by decide +kernel) ⟨Nat.le_of_ble_eq_true rfl, Nat.le_of_ble_eq_true rfl⟩, (hts0 (.instanceMethod yX8_statistic) (List.mem_of_getElem? (i := 563) (by decide +kernel))), (hts0 (.selects RX8 yX8_statistic yX8_statistic) (List.mem_of_getElem? (i := 564) (by decide +kernel)))⟩) rfl hrc_r_33 hK hZ hX hF hS hA rfl hl.1 rfl (Nat.le_of_ble_eq_true rfl) dL_law_565 ⟨by show _ ≤ 1045538; omega, by show _ ≤ 5964855; omega⟩ (fun r_33 f_34 H locs h hF hS => ?_)
                obtain ⟨cs_37, hcs⟩ : ∃ z, z = (cs_28 + ga_35) := ⟨_, rfl⟩; obtain ⟨sl_38, hsl⟩ : ∃ z, z = (sl_29 + gb_36) := ⟨_, rfl⟩
                have hbc : cs_37 + (((((bc - ga_3) - ga_10) - ga_17) - ga_26) - ga_35) ≤ 1045538 := by omega
                have hbs : sl_38 + (((((bs - gb_4) - gb_11) - gb_18) - gb_27) - gb_36) ≤ 5964855 := by omega
                refine W.widen (k := cs_37) (n := sl_38) (by omega) (by omega) ?_
                clear hcs hsl
                obtain ⟨h1, h2⟩ := h
                refine lv_if_lt (tgt := 583) hx hb dL_law_568 (by decide) (fun c_39 => ?_) (fun c_39 => ?_)
                · have h := h1 c_39
                  refine lv_iconst (v := (0 : Int32)) hx hb dL_law_583 (by decide) ?_
                  exact h.elim
                · have h := h2 c_39
                  refine lv_aload_n hx hb dL_law_571 rfl (lv_at hl 0 rfl) ?_
                  refine lv_iconst (v := (4 : Int32)) hx hb dL_law_572 (by decide) ?_
                  obtain ⟨ga_42, gb_43, hga_ga_42, hgb_ga_42, h⟩ := h
                  obtain ⟨⟨fs_r_40, hrc_r_40⟩, h⟩ := h
                  refine fy_cV_i (As := [.int (4 : Int32)]) (rest := []) ⟨hx, hb, hml, hown, hts⟩ (cc_X8_statistic l G hlt h) (⟨callB_of 1 hts ggL_law_X8_statistic rfl rfl rfl (hts0 (.initialized RX8) (List.mem_of_getElem? (i := 21) (by decide +kernel))) (hts0 (.methodLink RL 98 yX8_statistic) (List.mem_of_getElem? (i := 562) (by decide +kernel))) (by decide +kernel) ⟨Nat.le_of_ble_eq_true rfl, Nat.le_of_ble_eq_true rfl⟩, (hts0 (.instanceMethod yX8_statistic) (List.mem_of_getElem? (i := 563) (by decide +kernel))), (hts0 (.selects RX8 yX8_statistic yX8_statistic) (List.mem_of_getElem? (i := 564) (by decide +kernel)))⟩) rfl hrc_r_40 hK hZ hX hF hS hA rfl hl.1 rfl (Nat.le_of_ble_eq_true rfl) dL_law_573 ⟨by show _ ≤ 1045538; omega, by show _ ≤ 5964855; omega⟩ (fun r_40 f_41 H locs h hF hS => ?_)
                  obtain ⟨cs_44, hcs⟩ : ∃ z, z = (cs_37 + ga_42) := ⟨_, rfl⟩; obtain ⟨sl_45, hsl⟩ : ∃ z, z = (sl_38 + gb_43) := ⟨_, rfl⟩
                  have hbc : cs_44 + ((((((bc - ga_3) - ga_10) - ga_17) - ga_26) - ga_35) - ga_42) ≤ 1045538 := by omega
                  have hbs : sl_45 + ((((((bs - gb_4) - gb_11) - gb_18) - gb_27) - gb_36) - gb_43) ≤ 5964855 := by omega
                  refine W.widen (k := cs_44) (n := sl_45) (by omega) (by omega) ?_
                  clear hcs hsl
                  obtain ⟨h1, h2⟩ := h
                  refine lv_if_lt (tgt := 583) hx hb dL_law_576 (by decide) (fun c_46 => ?_) (fun c_46 => ?_)
                  · have h := h1 c_46
                    refine lv_iconst (v := (0 : Int32)) hx hb dL_law_583 (by decide) ?_
                    exact h.elim
                  · have h := h2 c_46
                    refine lv_iconst (v := (1 : Int32)) hx hb dL_law_579 (by decide) ?_
                    refine lv_goto (tgt := 584) hx hb dL_law_580 (by decide) ?_
                    refine va_forget (fun q hq => by have h9 := hS.2.2 q hq; rw [← hAe] at h9; exact h9) ?_
                    refine W.widen (k := 1045538) (n := 5964855) (by omega) (by omega) ?_
                    exact lw_ret (Drawn.sameBut.refl s.drawn lw_cs) hx hb hr hlocks dL_law_584
            · have h := h2 c_30
              refine lv_iconst (v := (0 : Int32)) hx hb dL_law_552 (by decide) ?_
              exact h.elim
  have J475 : ∀ (o1 : Nat) (y3 : Int32) (y6 : Int32) (y7 : Int32) (y11 : Int32) (z0 : Int32) (f : FT) (bc : Nat) (bs : Nat) (H : Heap) (locs : List Loc) (ls : Array Slot) (cs sl : Nat), wp_L_law_475 zd xs L o1 y3 y6 y7 y11 z0 f bc bs K  → cs + bc ≤ 1045538 → sl + bs ≤ 5964855 → Fw G A f H → va_S A s.heap H locs → lv_has ls 13 [(1, .ref o1), (3, .int y3), (6, .int y6), (7, .int y7), (11, .int y11)] → W p l e room_1 s m #[Value.ref b] below meth c H locs cs sl (lw_Z below #[Value.ref b] s) (F0 m 475 ls [.int z0]) := by
    intro o1 y3 y6 y7 y11 z0 f bc bs H locs ls cs sl h hbc hbs hF hS hl
    unfold wp_L_law_475 at h
    refine lv_istore (lv' := [(12, .int z0), (1, .ref o1), (3, .int y3), (6, .int y6), (7, .int y7), (11, .int y11)]) hx hb dL_law_475 hl (by decide) rfl (fun ls hl => ?_)
    refine lv_aload_n hx hb dL_law_477 rfl (lv_at hl 1 rfl) ?_
    refine lv_iconst (v := (2 : Int32)) hx hb dL_law_478 (by decide) ?_
    obtain ⟨ga_49, gb_50, hga_ga_49, hgb_ga_49, h⟩ := h
    obtain ⟨⟨fs_r_47, hrc_r_47⟩, h⟩ := h
    refine fy_cV_i (As := [.int (2 : Int32)]) (rest := []) ⟨hx, hb, hml, hown, hts⟩ (cc_X8_removeAt l G hlt h) (⟨callB_of 1 hts ggL_law_X8_removeAt rfl rfl rfl (hts0 (.initialized RX8) (List.mem_of_getElem? (i := 21) (by decide +kernel))) (hts0 (.methodLink RL 88 yX8_removeAt) (List.mem_of_getElem? (i := 639) (by decide +kernel))) (by decide +kernel) ⟨Nat.le_of_ble_eq_true rfl, Nat.le_of_ble_eq_true rfl⟩, (hts0 (.instanceMethod yX8_removeAt) (List.mem_of_getElem? (i := 640) (by decide +kernel))), (hts0 (.selects RX8 yX8_removeAt yX8_removeAt) (List.mem_of_getElem? (i := 641) (by decide +kernel)))⟩) rfl hrc_r_47 hK hZ hX hF hS hA rfl hl.1 rfl (Nat.le_of_ble_eq_true rfl) dL_law_479 ⟨by show _ ≤ 1045538; omega, by show _ ≤ 5964855; omega⟩ (fun r_47 f_48 H locs h hF hS => ?_)
    obtain ⟨cs_51, hcs⟩ : ∃ z, z = (cs + ga_49) := ⟨_, rfl⟩; obtain ⟨sl_52, hsl⟩ : ∃ z, z = (sl + gb_50) := ⟨_, rfl⟩
    have hbc : cs_51 + (bc - ga_49) ≤ 1045538 := by omega
    have hbs : sl_52 + (bs - gb_50) ≤ 5964855 := by omega
    refine W.widen (k := cs_51) (n := sl_52) (by omega) (by omega) ?_
    clear hcs hsl
    refine lv_pop hx hb dL_law_482 rfl ?_
    refine lv_aload_n hx hb dL_law_483 rfl (lv_at hl 1 rfl) ?_
    refine lv_iconst (v := (2 : Int32)) hx hb dL_law_484 (by decide) ?_
    refine lv_iconst (v := (3 : Int32)) hx hb dL_law_485 (by decide) ?_
    obtain ⟨ga_55, gb_56, hga_ga_55, hgb_ga_55, h⟩ := h
    obtain ⟨⟨fs_r_53, hrc_r_53⟩, h⟩ := h
    refine fy_cV_i (As := [.int (2 : Int32), .int (3 : Int32)]) (rest := []) ⟨hx, hb, hml, hown, hts⟩ (cc_X8_distance l G hlt h) (⟨callB_of 2 hts ggL_law_X8_distance rfl rfl rfl (hts0 (.initialized RX8) (List.mem_of_getElem? (i := 21) (by decide +kernel))) (hts0 (.methodLink RL 60 yX8_distance) (List.mem_of_getElem? (i := 643) (by decide +kernel))) (by decide +kernel) ⟨Nat.le_of_ble_eq_true rfl, Nat.le_of_ble_eq_true rfl⟩, (hts0 (.instanceMethod yX8_distance) (List.mem_of_getElem? (i := 644) (by decide +kernel))), (hts0 (.selects RX8 yX8_distance yX8_distance) (List.mem_of_getElem? (i := 645) (by decide +kernel)))⟩) rfl hrc_r_53 hK hZ hX hF hS hA rfl hl.1 rfl (Nat.le_of_ble_eq_true rfl) dL_law_486 ⟨by show _ ≤ 1045538; omega, by show _ ≤ 5964855; omega⟩ (fun r_53 f_54 H locs h hF hS => ?_)
    obtain ⟨cs_57, hcs⟩ : ∃ z, z = (cs_51 + ga_55) := ⟨_, rfl⟩; obtain ⟨sl_58, hsl⟩ : ∃ z, z = (sl_52 + gb_56) := ⟨_, rfl⟩
    have hbc : cs_57 + ((bc - ga_49) - ga_55) ≤ 1045538 := by omega
    have hbs : sl_58 + ((bs - gb_50) - gb_56) ≤ 5964855 := by omega
    refine W.widen (k := cs_57) (n := sl_58) (by omega) (by omega) ?_
    clear hcs hsl
    obtain ⟨h1, h2⟩ := h
    refine lv_if_ne (tgt := 507) hx hb dL_law_489 (by decide) (fun c_59 => ?_) (fun c_59 => ?_)
    · have h := h1 c_59
      refine lv_iconst (v := (0 : Int32)) hx hb dL_law_507 (by decide) ?_
      exact h.elim
    · have h := h2 c_59
      refine lv_iload hx hb dL_law_492 (lv_at hl 5 rfl) ?_
      obtain ⟨h1, h2⟩ := h
      refine lv_if_ne (tgt := 509) hx hb dL_law_494 (by decide) (fun c_60 => ?_) (fun c_60 => ?_)
      · have h := h1 c_60
        exact J509 o1 y3 y6 y7 f_54 ((bc - ga_49) - ga_55) ((bs - gb_50) - gb_56) _ _ _ _ _ h hbc hbs hF hS (lv_sub hl [1, 2, 3, 4] rfl)
      · have h := h2 c_60
        refine lv_aload_n hx hb dL_law_497 rfl (lv_at hl 1 rfl) ?_
        refine lv_iconst (v := (3 : Int32)) hx hb dL_law_498 (by decide) ?_
        obtain ⟨ga_63, gb_64, hga_ga_63, hgb_ga_63, h⟩ := h
        obtain ⟨⟨fs_r_61, hrc_r_61⟩, h⟩ := h
        refine fy_cV_i (As := [.int (3 : Int32)]) (rest := []) ⟨hx, hb, hml, hown, hts⟩ (cc_X8_current l G hlt h) (⟨callB_of 1 hts ggL_law_X8_current rfl rfl rfl (hts0 (.initialized RX8) (List.mem_of_getElem? (i := 21) (by decide +kernel))) (hts0 (.methodLink RL 51 yX8_current) (List.mem_of_getElem? (i := 635) (by decide +kernel))) (by decide +kernel) ⟨Nat.le_of_ble_eq_true rfl, Nat.le_of_ble_eq_true rfl⟩, (hts0 (.instanceMethod yX8_current) (List.mem_of_getElem? (i := 636) (by decide +kernel))), (hts0 (.selects RX8 yX8_current yX8_current) (List.mem_of_getElem? (i := 637) (by decide +kernel)))⟩) rfl hrc_r_61 hK hZ hX hF hS hA rfl hl.1 rfl (Nat.le_of_ble_eq_true rfl) dL_law_499 ⟨by show _ ≤ 1045538; omega, by show _ ≤ 5964855; omega⟩ (fun r_61 f_62 H locs h hF hS => ?_)
        obtain ⟨cs_65, hcs⟩ : ∃ z, z = (cs_57 + ga_63) := ⟨_, rfl⟩; obtain ⟨sl_66, hsl⟩ : ∃ z, z = (sl_58 + gb_64) := ⟨_, rfl⟩
        have hbc : cs_65 + (((bc - ga_49) - ga_55) - ga_63) ≤ 1045538 := by omega
        have hbs : sl_66 + (((bs - gb_50) - gb_56) - gb_64) ≤ 5964855 := by omega
        refine W.widen (k := cs_65) (n := sl_66) (by omega) (by omega) ?_
        clear hcs hsl
        refine lv_iload hx hb dL_law_502 (lv_at hl 0 rfl) ?_
        obtain ⟨h1, h2⟩ := h
        refine lv_icmp_eq (tgt := 509) hx hb dL_law_504 (by decide) (fun c_67 => ?_) (fun c_67 => ?_)
        · have h := h1 c_67
          exact J509 o1 y3 y6 y7 f_62 (((bc - ga_49) - ga_55) - ga_63) (((bs - gb_50) - gb_56) - gb_64) _ _ _ _ _ h hbc hbs hF hS (lv_sub hl [1, 2, 3, 4] rfl)
        · have h := h2 c_67
          refine lv_iconst (v := (0 : Int32)) hx hb dL_law_507 (by decide) ?_
          exact h.elim
  have J454 : ∀ (o1 : Nat) (y3 : Int32) (y6 : Int32) (y7 : Int32) (y9 : Int32) (z0 : Int32) (f : FT) (bc : Nat) (bs : Nat) (H : Heap) (locs : List Loc) (ls : Array Slot) (cs sl : Nat), wp_L_law_454 zd xs L o1 y3 y6 y7 y9 z0 f bc bs K  → cs + bc ≤ 1045538 → sl + bs ≤ 5964855 → Fw G A f H → va_S A s.heap H locs → lv_has ls 13 [(1, .ref o1), (3, .int y3), (6, .int y6), (7, .int y7), (9, .int y9)] → W p l e room_1 s m #[Value.ref b] below meth c H locs cs sl (lw_Z below #[Value.ref b] s) (F0 m 454 ls [.int z0]) := by
    intro o1 y3 y6 y7 y9 z0 f bc bs H locs ls cs sl h hbc hbs hF hS hl
    unfold wp_L_law_454 at h
    refine lv_istore (lv' := [(11, .int z0), (1, .ref o1), (3, .int y3), (6, .int y6), (7, .int y7), (9, .int y9)]) hx hb dL_law_454 hl (by decide) rfl (fun ls hl => ?_)
    refine lv_iload hx hb dL_law_456 (lv_at hl 0 rfl) ?_
    obtain ⟨h1, h2⟩ := h
    refine lv_if_eq (tgt := 465) hx hb dL_law_458 (by decide) (fun c_68 => ?_) (fun c_68 => ?_)
    · have h := h1 c_68
      refine lv_aload_n hx hb dL_law_465 rfl (lv_at hl 1 rfl) ?_
      refine lv_iload hx hb dL_law_466 (lv_at hl 5 rfl) ?_
      refine lv_iconst (v := (2 : Int32)) hx hb dL_law_468 (by decide) ?_
      obtain ⟨hne, h⟩ := h
      refine lv_idiv hx hb dL_law_469 hne ?_
      refine lv_iconst (v := (1 : Int32)) hx hb dL_law_470 (by decide) ?_
      refine lv_iadd hx hb dL_law_471 ?_
      obtain ⟨ga_71, gb_72, hga_ga_71, hgb_ga_71, h⟩ := h
      obtain ⟨⟨fs_r_69, hrc_r_69⟩, h⟩ := h
      refine fy_cV_i (As := [.int ((y9 / (2 : Int32)) + (1 : Int32))]) (rest := []) ⟨hx, hb, hml, hown, hts⟩ (cc_X8_select l G hlt h) (⟨callB_of 1 hts ggL_law_X8_select rfl rfl rfl (hts0 (.initialized RX8) (List.mem_of_getElem? (i := 21) (by decide +kernel))) (hts0 (.methodLink RL 54 yX8_select) (List.mem_of_getElem? (i := 537) (by decide +kernel))) (by decide +kernel) ⟨Nat.le_of_ble_eq_true rfl, Nat.le_of_ble_eq_true rfl⟩, (hts0 (.instanceMethod yX8_select) (List.mem_of_getElem? (i := 538) (by decide +kernel))), (hts0 (.selects RX8 yX8_select yX8_select) (List.mem_of_getElem? (i := 539) (by decide +kernel)))⟩) rfl hrc_r_69 hK hZ hX hF hS hA rfl hl.1 rfl (Nat.le_of_ble_eq_true rfl) dL_law_472 ⟨by show _ ≤ 1045538; omega, by show _ ≤ 5964855; omega⟩ (fun r_69 f_70 H locs h hF hS => ?_)
      obtain ⟨cs_73, hcs⟩ : ∃ z, z = (cs + ga_71) := ⟨_, rfl⟩; obtain ⟨sl_74, hsl⟩ : ∃ z, z = (sl + gb_72) := ⟨_, rfl⟩
      have hbc : cs_73 + (bc - ga_71) ≤ 1045538 := by omega
      have hbs : sl_74 + (bs - gb_72) ≤ 5964855 := by omega
      refine W.widen (k := cs_73) (n := sl_74) (by omega) (by omega) ?_
      clear hcs hsl
      exact J475 o1 y3 y6 y7 z0 r_69 f_70 (bc - ga_71) (bs - gb_72) _ _ _ _ _ h hbc hbs hF hS (lv_sub hl [1, 2, 3, 4, 0] rfl)
    · have h := h2 c_68
      refine lv_iconst (v := (0 : Int32)) hx hb dL_law_461 (by decide) ?_
      refine lv_goto (tgt := 475) hx hb dL_law_462 (by decide) ?_
      exact J475 o1 y3 y6 y7 z0 (0 : Int32) f bc bs _ _ _ _ _ h hbc hbs hF hS (lv_sub hl [1, 2, 3, 4, 0] rfl)
  have L263 : ∀ (o1 : Nat) (y2 : Int32) (y3 : Int32) (y6 : Int32) (y7 : Int32) (y8 : Int32) (j9 : Nat) (y9 : Int32) (f : FT) (bc : Nat) (bs : Nat) (H : Heap) (locs : List Loc) (ls : Array Slot) (cs sl : Nat), loopW (wp_L_law_263 zd xs L b o1 y2 y3 y6 y7 y8 K ) j9 (y9, f, bc, bs) → cs + bc ≤ 1045538 → sl + bs ≤ 5964855 → Fw G A f H → va_S A s.heap H locs → lv_has ls 13 [(0, .ref b), (1, .ref o1), (2, .int y2), (3, .int y3), (6, .int y6), (7, .int y7), (8, .int y8), (9, .int y9)] → W p l e room_1 s m #[Value.ref b] below meth c H locs cs sl (lw_Z below #[Value.ref b] s) (F0 m 263 ls []) := by
    intro o1 y2 y3 y6 y7 y8 j9
    induction j9 with
    | zero => intro y9 f bc bs H locs ls cs sl h; exact h.elim
    | succ j9 ih263 =>
      intro y9 f bc bs H locs ls cs sl h hbc hbs hF hS hl
      have h : wp_L_law_263 zd xs L b o1 y2 y3 y6 y7 y8 K  (loopW (wp_L_law_263 zd xs L b o1 y2 y3 y6 y7 y8 K ) j9) (y9, f, bc, bs) := h
      generalize loopW (wp_L_law_263 zd xs L b o1 y2 y3 y6 y7 y8 K ) j9 = C263 at ih263 h
      unfold wp_L_law_263 at h
      refine lv_iload hx hb dL_law_263 (lv_at hl 7 rfl) ?_
      refine lv_iload_n hx hb dL_law_265 rfl (lv_at hl 2 rfl) ?_
      obtain ⟨h1, h2⟩ := h
      refine lv_icmp_ge (tgt := 297) hx hb dL_law_266 (by decide) (fun c_75 => ?_) (fun c_75 => ?_)
      · have h := h1 c_75
        refine lv_iload hx hb dL_law_297 (lv_at hl 6 rfl) ?_
        refine lv_iload_n hx hb dL_law_299 rfl (lv_at hl 3 rfl) ?_
        obtain ⟨h1, h2⟩ := h
        refine lv_icmp_ne (tgt := 315) hx hb dL_law_300 (by decide) (fun c_76 => ?_) (fun c_76 => ?_)
        · have h := h1 c_76
          refine lv_iconst (v := (0 : Int32)) hx hb dL_law_315 (by decide) ?_
          exact h.elim
        · have h := h2 c_76
          refine lv_aload_n hx hb dL_law_303 rfl (lv_at hl 1 rfl) ?_
          refine lv_iconst (v := (2 : Int32)) hx hb dL_law_304 (by decide) ?_
          obtain ⟨ga_79, gb_80, hga_ga_79, hgb_ga_79, h⟩ := h
          obtain ⟨⟨fs_r_77, hrc_r_77⟩, h⟩ := h
          refine fy_cV_i (As := [.int (2 : Int32)]) (rest := []) ⟨hx, hb, hml, hown, hts⟩ (cc_X8_current l G hlt h) (⟨callB_of 1 hts ggL_law_X8_current rfl rfl rfl (hts0 (.initialized RX8) (List.mem_of_getElem? (i := 21) (by decide +kernel))) (hts0 (.methodLink RL 51 yX8_current) (List.mem_of_getElem? (i := 635) (by decide +kernel))) (by decide +kernel) ⟨Nat.le_of_ble_eq_true rfl, Nat.le_of_ble_eq_true rfl⟩, (hts0 (.instanceMethod yX8_current) (List.mem_of_getElem? (i := 636) (by decide +kernel))), (hts0 (.selects RX8 yX8_current yX8_current) (List.mem_of_getElem? (i := 637) (by decide +kernel)))⟩) rfl hrc_r_77 hK hZ hX hF hS hA rfl hl.1 rfl (Nat.le_of_ble_eq_true rfl) dL_law_305 ⟨by show _ ≤ 1045538; omega, by show _ ≤ 5964855; omega⟩ (fun r_77 f_78 H locs h hF hS => ?_)
          obtain ⟨cs_81, hcs⟩ : ∃ z, z = (cs + ga_79) := ⟨_, rfl⟩; obtain ⟨sl_82, hsl⟩ : ∃ z, z = (sl + gb_80) := ⟨_, rfl⟩
          have hbc : cs_81 + (bc - ga_79) ≤ 1045538 := by omega
          have hbs : sl_82 + (bs - gb_80) ≤ 5964855 := by omega
          refine W.widen (k := cs_81) (n := sl_82) (by omega) (by omega) ?_
          clear hcs hsl
          refine lv_aload_n hx hb dL_law_308 rfl (lv_at hl 1 rfl) ?_
          obtain ⟨ga_85, gb_86, hga_ga_85, hgb_ga_85, h⟩ := h
          obtain ⟨⟨fs_r_83, hrc_r_83⟩, h⟩ := h
          refine fy_cV_i (As := []) (rest := [.int r_77]) ⟨hx, hb, hml, hown, hts⟩ (cc_X8_get l G hlt h) (⟨callB_of 0 hts ggL_law_X8_get rfl rfl rfl (hts0 (.initialized RX8) (List.mem_of_getElem? (i := 21) (by decide +kernel))) (hts0 (.methodLink RL 76 yX8_get) (List.mem_of_getElem? (i := 453) (by decide +kernel))) (by decide +kernel) ⟨Nat.le_of_ble_eq_true rfl, Nat.le_of_ble_eq_true rfl⟩, (hts0 (.instanceMethod yX8_get) (List.mem_of_getElem? (i := 454) (by decide +kernel))), (hts0 (.selects RX8 yX8_get yX8_get) (List.mem_of_getElem? (i := 455) (by decide +kernel)))⟩) rfl hrc_r_83 hK hZ hX hF hS hA rfl hl.1 rfl (Nat.le_of_ble_eq_true rfl) dL_law_309 ⟨by show _ ≤ 1045538; omega, by show _ ≤ 5964855; omega⟩ (fun r_83 f_84 H locs h hF hS => ?_)
          obtain ⟨cs_87, hcs⟩ : ∃ z, z = (cs_81 + ga_85) := ⟨_, rfl⟩; obtain ⟨sl_88, hsl⟩ : ∃ z, z = (sl_82 + gb_86) := ⟨_, rfl⟩
          have hbc : cs_87 + ((bc - ga_79) - ga_85) ≤ 1045538 := by omega
          have hbs : sl_88 + ((bs - gb_80) - gb_86) ≤ 5964855 := by omega
          refine W.widen (k := cs_87) (n := sl_88) (by omega) (by omega) ?_
          clear hcs hsl
          obtain ⟨h1, h2⟩ := h
          refine lv_icmp_eq (tgt := 317) hx hb dL_law_312 (by decide) (fun c_89 => ?_) (fun c_89 => ?_)
          · have h := h1 c_89
            refine lv_aload_n hx hb dL_law_317 rfl (lv_at hl 1 rfl) ?_
            obtain ⟨⟨fs_r_90, hrc_r_90⟩, h⟩ := h
            refine fw_cV_i_p (As := []) (rest := []) ⟨hx, hb, hml, hown, hts⟩ (cc_X8_rank l G h) (⟨callB_of 0 hts ggL_law_X8_rank rfl rfl rfl (hts0 (.initialized RX8) (List.mem_of_getElem? (i := 21) (by decide +kernel))) (hts0 (.methodLink RL 79 yX8_rank) (List.mem_of_getElem? (i := 533) (by decide +kernel))) (by decide +kernel) ⟨Nat.le_of_ble_eq_true rfl, Nat.le_of_ble_eq_true rfl⟩, (hts0 (.instanceMethod yX8_rank) (List.mem_of_getElem? (i := 534) (by decide +kernel))), (hts0 (.selects RX8 yX8_rank yX8_rank) (List.mem_of_getElem? (i := 535) (by decide +kernel)))⟩) rfl hrc_r_90 hK hZ hF hS hA rfl hl.1 rfl (Nat.le_of_ble_eq_true rfl) dL_law_318 ⟨by show _ + 0 ≤ 1045538; omega, by show _ + 0 ≤ 5964855; omega⟩ (fun r_90 H locs h hF hS => ?_)
            simp only [Nat.add_zero]
            refine lv_istore (lv' := [(9, .int r_90), (0, .ref b), (1, .ref o1), (2, .int y2), (3, .int y3), (6, .int y6), (7, .int y7), (8, .int y8)]) hx hb dL_law_321 hl (by decide) rfl (fun ls hl => ?_)
            refine lv_aload_n hx hb dL_law_323 rfl (lv_at hl 2 rfl) ?_
            refine lv_iconst (v := (3 : Int32)) hx hb dL_law_324 (by decide) ?_
            obtain ⟨ga_93, gb_94, hga_ga_93, hgb_ga_93, h⟩ := h
            obtain ⟨⟨fs_r_91, hrc_r_91⟩, h⟩ := h
            refine fy_cV_i (As := [.int (3 : Int32)]) (rest := []) ⟨hx, hb, hml, hown, hts⟩ (cc_X8_open l G hlt h) (⟨callB_of 1 hts ggL_law_X8_open rfl rfl rfl (hts0 (.initialized RX8) (List.mem_of_getElem? (i := 21) (by decide +kernel))) (hts0 (.methodLink RL 45 yX8_open) (List.mem_of_getElem? (i := 595) (by decide +kernel))) (by decide +kernel) ⟨Nat.le_of_ble_eq_true rfl, Nat.le_of_ble_eq_true rfl⟩, (hts0 (.instanceMethod yX8_open) (List.mem_of_getElem? (i := 596) (by decide +kernel))), (hts0 (.selects RX8 yX8_open yX8_open) (List.mem_of_getElem? (i := 597) (by decide +kernel)))⟩) rfl hrc_r_91 hK hZ hX hF hS hA rfl hl.1 rfl (Nat.le_of_ble_eq_true rfl) dL_law_325 ⟨by show _ ≤ 1045538; omega, by show _ ≤ 5964855; omega⟩ (fun r_91 f_92 H locs h hF hS => ?_)
            obtain ⟨cs_95, hcs⟩ : ∃ z, z = (cs_87 + ga_93) := ⟨_, rfl⟩; obtain ⟨sl_96, hsl⟩ : ∃ z, z = (sl_88 + gb_94) := ⟨_, rfl⟩
            have hbc : cs_95 + (((bc - ga_79) - ga_85) - ga_93) ≤ 1045538 := by omega
            have hbs : sl_96 + (((bs - gb_80) - gb_86) - gb_94) ≤ 5964855 := by omega
            refine W.widen (k := cs_95) (n := sl_96) (by omega) (by omega) ?_
            clear hcs hsl
            refine lv_pop hx hb dL_law_328 rfl ?_
            refine lv_aload_n hx hb dL_law_329 rfl (lv_at hl 2 rfl) ?_
            refine lv_iconst (v := (2 : Int32)) hx hb dL_law_330 (by decide) ?_
            refine lv_iconst (v := (3 : Int32)) hx hb dL_law_331 (by decide) ?_
            obtain ⟨ga_99, gb_100, hga_ga_99, hgb_ga_99, h⟩ := h
            obtain ⟨⟨fs_r_97, hrc_r_97⟩, h⟩ := h
            refine fy_cV_i (As := [.int (2 : Int32), .int (3 : Int32)]) (rest := []) ⟨hx, hb, hml, hown, hts⟩ (cc_X8_distance l G hlt h) (⟨callB_of 2 hts ggL_law_X8_distance rfl rfl rfl (hts0 (.initialized RX8) (List.mem_of_getElem? (i := 21) (by decide +kernel))) (hts0 (.methodLink RL 60 yX8_distance) (List.mem_of_getElem? (i := 643) (by decide +kernel))) (by decide +kernel) ⟨Nat.le_of_ble_eq_true rfl, Nat.le_of_ble_eq_true rfl⟩, (hts0 (.instanceMethod yX8_distance) (List.mem_of_getElem? (i := 644) (by decide +kernel))), (hts0 (.selects RX8 yX8_distance yX8_distance) (List.mem_of_getElem? (i := 645) (by decide +kernel)))⟩) rfl hrc_r_97 hK hZ hX hF hS hA rfl hl.1 rfl (Nat.le_of_ble_eq_true rfl) dL_law_332 ⟨by show _ ≤ 1045538; omega, by show _ ≤ 5964855; omega⟩ (fun r_97 f_98 H locs h hF hS => ?_)
            obtain ⟨cs_101, hcs⟩ : ∃ z, z = (cs_95 + ga_99) := ⟨_, rfl⟩; obtain ⟨sl_102, hsl⟩ : ∃ z, z = (sl_96 + gb_100) := ⟨_, rfl⟩
            have hbc : cs_101 + ((((bc - ga_79) - ga_85) - ga_93) - ga_99) ≤ 1045538 := by omega
            have hbs : sl_102 + ((((bs - gb_80) - gb_86) - gb_94) - gb_100) ≤ 5964855 := by omega
            refine W.widen (k := cs_101) (n := sl_102) (by omega) (by omega) ?_
            clear hcs hsl
            obtain ⟨h1, h2⟩ := h
            refine lv_if_ne (tgt := 346) hx hb dL_law_335 (by decide) (fun c_103 => ?_) (fun c_103 => ?_)
            · have h := h1 c_103
              refine lv_iconst (v := (0 : Int32)) hx hb dL_law_346 (by decide) ?_
              exact h.elim
            · have h := h2 c_103
              refine lv_aload_n hx hb dL_law_338 rfl (lv_at hl 2 rfl) ?_
              obtain ⟨⟨fs_r_104, hrc_r_104⟩, h⟩ := h
              refine fw_cV_i_p (As := []) (rest := []) ⟨hx, hb, hml, hown, hts⟩ (cc_X8_size l G h) (⟨callB_of 0 hts ggL_law_X8_size rfl rfl rfl (hts0 (.initialized RX8) (List.mem_of_getElem? (i := 21) (by decide +kernel))) (hts0 (.methodLink RL 41 yX8_size) (List.mem_of_getElem? (i := 529) (by decide +kernel))) (by decide +kernel) ⟨Nat.le_of_ble_eq_true rfl, Nat.le_of_ble_eq_true rfl⟩, (hts0 (.instanceMethod yX8_size) (List.mem_of_getElem? (i := 530) (by decide +kernel))), (hts0 (.selects RX8 yX8_size yX8_size) (List.mem_of_getElem? (i := 531) (by decide +kernel)))⟩) rfl hrc_r_104 hK hZ hF hS hA rfl hl.1 rfl (Nat.le_of_ble_eq_true rfl) dL_law_339 ⟨by show _ + 0 ≤ 1045538; omega, by show _ + 0 ≤ 5964855; omega⟩ (fun r_104 H locs h hF hS => ?_)
              simp only [Nat.add_zero]
              refine lv_iload_n hx hb dL_law_342 rfl (lv_at hl 4 rfl) ?_
              obtain ⟨h1, h2⟩ := h
              refine lv_icmp_ge (tgt := 348) hx hb dL_law_343 (by decide) (fun c_105 => ?_) (fun c_105 => ?_)
              · have h := h1 c_105
                refine lv_aload_n hx hb dL_law_348 rfl (lv_at hl 2 rfl) ?_
                obtain ⟨⟨fs_r_106, hrc_r_106⟩, h⟩ := h
                refine fw_cV_i_p (As := []) (rest := []) ⟨hx, hb, hml, hown, hts⟩ (cc_X8_size l G h) (⟨callB_of 0 hts ggL_law_X8_size rfl rfl rfl (hts0 (.initialized RX8) (List.mem_of_getElem? (i := 21) (by decide +kernel))) (hts0 (.methodLink RL 41 yX8_size) (List.mem_of_getElem? (i := 529) (by decide +kernel))) (by decide +kernel) ⟨Nat.le_of_ble_eq_true rfl, Nat.le_of_ble_eq_true rfl⟩, (hts0 (.instanceMethod yX8_size) (List.mem_of_getElem? (i := 530) (by decide +kernel))), (hts0 (.selects RX8 yX8_size yX8_size) (List.mem_of_getElem? (i := 531) (by decide +kernel)))⟩) rfl hrc_r_106 hK hZ hF hS hA rfl hl.1 rfl (Nat.le_of_ble_eq_true rfl) dL_law_349 ⟨by show _ + 0 ≤ 1045538; omega, by show _ + 0 ≤ 5964855; omega⟩ (fun r_106 H locs h hF hS => ?_)
                simp only [Nat.add_zero]
                refine lv_istore (lv' := [(10, .int r_106), (9, .int r_90), (0, .ref b), (1, .ref o1), (2, .int y2), (3, .int y3), (6, .int y6), (7, .int y7), (8, .int y8)]) hx hb dL_law_352 hl (by decide) rfl (fun ls hl => ?_)
                refine lv_aload_n hx hb dL_law_354 rfl (lv_at hl 3 rfl) ?_
                refine lv_iload hx hb dL_law_355 (lv_at hl 1 rfl) ?_
                refine lv_iconst (v := (2 : Int32)) hx hb dL_law_357 (by decide) ?_
                obtain ⟨hne, h⟩ := h
                refine lv_idiv hx hb dL_law_358 hne ?_
                obtain ⟨ga_109, gb_110, hga_ga_109, hgb_ga_109, h⟩ := h
                obtain ⟨⟨fs_r_107, hrc_r_107⟩, h⟩ := h
                refine fy_cV_i (As := [.int (r_90 / (2 : Int32))]) (rest := []) ⟨hx, hb, hml, hown, hts⟩ (cc_X8_select l G hlt h) (⟨callB_of 1 hts ggL_law_X8_select rfl rfl rfl (hts0 (.initialized RX8) (List.mem_of_getElem? (i := 21) (by decide +kernel))) (hts0 (.methodLink RL 54 yX8_select) (List.mem_of_getElem? (i := 537) (by decide +kernel))) (by decide +kernel) ⟨Nat.le_of_ble_eq_true rfl, Nat.le_of_ble_eq_true rfl⟩, (hts0 (.instanceMethod yX8_select) (List.mem_of_getElem? (i := 538) (by decide +kernel))), (hts0 (.selects RX8 yX8_select yX8_select) (List.mem_of_getElem? (i := 539) (by decide +kernel)))⟩) rfl hrc_r_107 hK hZ hX hF hS hA rfl hl.1 rfl (Nat.le_of_ble_eq_true rfl) dL_law_359 ⟨by show _ ≤ 1045538; omega, by show _ ≤ 5964855; omega⟩ (fun r_107 f_108 H locs h hF hS => ?_)
                obtain ⟨cs_111, hcs⟩ : ∃ z, z = (cs_101 + ga_109) := ⟨_, rfl⟩; obtain ⟨sl_112, hsl⟩ : ∃ z, z = (sl_102 + gb_110) := ⟨_, rfl⟩
                have hbc : cs_111 + (((((bc - ga_79) - ga_85) - ga_93) - ga_99) - ga_109) ≤ 1045538 := by omega
                have hbs : sl_112 + (((((bs - gb_80) - gb_86) - gb_94) - gb_100) - gb_110) ≤ 5964855 := by omega
                refine W.widen (k := cs_111) (n := sl_112) (by omega) (by omega) ?_
                clear hcs hsl
                refine lv_pop hx hb dL_law_362 rfl ?_
                refine lv_aload_n hx hb dL_law_363 rfl (lv_at hl 3 rfl) ?_
                obtain ⟨⟨fs_r_113, hrc_r_113⟩, h⟩ := h
                refine fw_cV_i (As := []) (rest := []) ⟨hx, hb, hml, hown, hts⟩ (cc_X8_swapBound l G h) (⟨callB_of 0 hts ggL_law_X8_swapBound rfl rfl rfl (hts0 (.initialized RX8) (List.mem_of_getElem? (i := 21) (by decide +kernel))) (hts0 (.methodLink RL 82 yX8_swapBound) (List.mem_of_getElem? (i := 159) (by decide +kernel))) (by decide +kernel) ⟨Nat.le_of_ble_eq_true rfl, Nat.le_of_ble_eq_true rfl⟩, (hts0 (.instanceMethod yX8_swapBound) (List.mem_of_getElem? (i := 160) (by decide +kernel))), (hts0 (.selects RX8 yX8_swapBound yX8_swapBound) (List.mem_of_getElem? (i := 161) (by decide +kernel)))⟩) rfl hrc_r_113 hK hZ hF hS hA rfl hl.1 rfl (Nat.le_of_ble_eq_true rfl) dL_law_364 ⟨by show _ + 0 ≤ 1045538; omega, by show _ + 0 ≤ 5964855; omega⟩ (fun r_113 f_114 H locs h hF hS => ?_)
                simp only [Nat.add_zero]
                refine lv_pop hx hb dL_law_367 rfl ?_
                refine lv_aload_n hx hb dL_law_368 rfl (lv_at hl 3 rfl) ?_
                refine lv_iload hx hb dL_law_369 (lv_at hl 1 rfl) ?_
                obtain ⟨ga_117, gb_118, hga_ga_117, hgb_ga_117, h⟩ := h
                obtain ⟨⟨fs_r_115, hrc_r_115⟩, h⟩ := h
                refine fy_cV_i (As := [.int r_90]) (rest := []) ⟨hx, hb, hml, hown, hts⟩ (cc_X8_select l G hlt h) (⟨callB_of 1 hts ggL_law_X8_select rfl rfl rfl (hts0 (.initialized RX8) (List.mem_of_getElem? (i := 21) (by decide +kernel))) (hts0 (.methodLink RL 54 yX8_select) (List.mem_of_getElem? (i := 537) (by decide +kernel))) (by decide +kernel) ⟨Nat.le_of_ble_eq_true rfl, Nat.le_of_ble_eq_true rfl⟩, (hts0 (.instanceMethod yX8_select) (List.mem_of_getElem? (i := 538) (by decide +kernel))), (hts0 (.selects RX8 yX8_select yX8_select) (List.mem_of_getElem? (i := 539) (by decide +kernel)))⟩) rfl hrc_r_115 hK hZ hX hF hS hA rfl hl.1 rfl (Nat.le_of_ble_eq_true rfl) dL_law_371 ⟨by show _ ≤ 1045538; omega, by show _ ≤ 5964855; omega⟩ (fun r_115 f_116 H locs h hF hS => ?_)
                obtain ⟨cs_119, hcs⟩ : ∃ z, z = (cs_111 + ga_117) := ⟨_, rfl⟩; obtain ⟨sl_120, hsl⟩ : ∃ z, z = (sl_112 + gb_118) := ⟨_, rfl⟩
                have hbc : cs_119 + ((((((bc - ga_79) - ga_85) - ga_93) - ga_99) - ga_109) - ga_117) ≤ 1045538 := by omega
                have hbs : sl_120 + ((((((bs - gb_80) - gb_86) - gb_94) - gb_100) - gb_110) - gb_118) ≤ 5964855 := by omega
                refine W.widen (k := cs_119) (n := sl_120) (by omega) (by omega) ?_
                clear hcs hsl
                refine lv_pop hx hb dL_law_374 rfl ?_
                refine lv_aload_n hx hb dL_law_375 rfl (lv_at hl 3 rfl) ?_
                obtain ⟨⟨fs_r_121, hrc_r_121⟩, h⟩ := h
                refine fw_cV_i (As := []) (rest := []) ⟨hx, hb, hml, hown, hts⟩ (cc_X8_removeRange l G h) (⟨callB_of 0 hts ggL_law_X8_removeRange rfl rfl rfl (hts0 (.initialized RX8) (List.mem_of_getElem? (i := 21) (by decide +kernel))) (hts0 (.methodLink RL 85 yX8_removeRange) (List.mem_of_getElem? (i := 479) (by decide +kernel))) (by decide +kernel) ⟨Nat.le_of_ble_eq_true rfl, Nat.le_of_ble_eq_true rfl⟩, (hts0 (.instanceMethod yX8_removeRange) (List.mem_of_getElem? (i := 480) (by decide +kernel))), (hts0 (.selects RX8 yX8_removeRange yX8_removeRange) (List.mem_of_getElem? (i := 481) (by decide +kernel)))⟩) rfl hrc_r_121 hK hZ hF hS hA rfl hl.1 rfl (Nat.le_of_ble_eq_true rfl) dL_law_376 ⟨by show _ + 0 ≤ 1045538; omega, by show _ + 0 ≤ 5964855; omega⟩ (fun r_121 f_122 H locs h hF hS => ?_)
                simp only [Nat.add_zero]
                refine lv_iload hx hb dL_law_379 (lv_at hl 1 rfl) ?_
                refine lv_iload hx hb dL_law_381 (lv_at hl 1 rfl) ?_
                refine lv_iconst (v := (2 : Int32)) hx hb dL_law_383 (by decide) ?_
                obtain ⟨hne, h⟩ := h
                refine lv_idiv hx hb dL_law_384 hne ?_
                refine lv_isub hx hb dL_law_385 ?_
                obtain ⟨h1, h2⟩ := h
                refine lv_icmp_ne (tgt := 406) hx hb dL_law_386 (by decide) (fun c_123 => ?_) (fun c_123 => ?_)
                · have h := h1 c_123
                  refine lv_iconst (v := (0 : Int32)) hx hb dL_law_406 (by decide) ?_
                  exact h.elim
                · have h := h2 c_123
                  refine lv_aload_n hx hb dL_law_389 rfl (lv_at hl 3 rfl) ?_
                  obtain ⟨⟨fs_r_124, hrc_r_124⟩, h⟩ := h
                  refine fw_cV_i_p (As := []) (rest := []) ⟨hx, hb, hml, hown, hts⟩ (cc_X8_size l G h) (⟨callB_of 0 hts ggL_law_X8_size rfl rfl rfl (hts0 (.initialized RX8) (List.mem_of_getElem? (i := 21) (by decide +kernel))) (hts0 (.methodLink RL 41 yX8_size) (List.mem_of_getElem? (i := 529) (by decide +kernel))) (by decide +kernel) ⟨Nat.le_of_ble_eq_true rfl, Nat.le_of_ble_eq_true rfl⟩, (hts0 (.instanceMethod yX8_size) (List.mem_of_getElem? (i := 530) (by decide +kernel))), (hts0 (.selects RX8 yX8_size yX8_size) (List.mem_of_getElem? (i := 531) (by decide +kernel)))⟩) rfl hrc_r_124 hK hZ hF hS hA rfl hl.1 rfl (Nat.le_of_ble_eq_true rfl) dL_law_390 ⟨by show _ + 0 ≤ 1045538; omega, by show _ + 0 ≤ 5964855; omega⟩ (fun r_124 H locs h hF hS => ?_)
                  simp only [Nat.add_zero]
                  refine lv_iload hx hb dL_law_393 (lv_at hl 0 rfl) ?_
                  refine lv_iload hx hb dL_law_395 (lv_at hl 1 rfl) ?_
                  refine lv_isub hx hb dL_law_397 ?_
                  refine lv_iload hx hb dL_law_398 (lv_at hl 1 rfl) ?_
                  refine lv_iconst (v := (2 : Int32)) hx hb dL_law_400 (by decide) ?_
                  obtain ⟨hne, h⟩ := h
                  refine lv_idiv hx hb dL_law_401 hne ?_
                  refine lv_iadd hx hb dL_law_402 ?_
                  obtain ⟨h1, h2⟩ := h
                  refine lv_icmp_eq (tgt := 408) hx hb dL_law_403 (by decide) (fun c_125 => ?_) (fun c_125 => ?_)
                  · have h := h1 c_125
                    refine lv_aload_n hx hb dL_law_408 rfl (lv_at hl 3 rfl) ?_
                    refine lv_iconst (v := (2 : Int32)) hx hb dL_law_409 (by decide) ?_
                    obtain ⟨ga_128, gb_129, hga_ga_128, hgb_ga_128, h⟩ := h
                    obtain ⟨⟨fs_r_126, hrc_r_126⟩, h⟩ := h
                    refine fy_cV_i (As := [.int (2 : Int32)]) (rest := []) ⟨hx, hb, hml, hown, hts⟩ (cc_X8_current l G hlt h) (⟨callB_of 1 hts ggL_law_X8_current rfl rfl rfl (hts0 (.initialized RX8) (List.mem_of_getElem? (i := 21) (by decide +kernel))) (hts0 (.methodLink RL 51 yX8_current) (List.mem_of_getElem? (i := 635) (by decide +kernel))) (by decide +kernel) ⟨Nat.le_of_ble_eq_true rfl, Nat.le_of_ble_eq_true rfl⟩, (hts0 (.instanceMethod yX8_current) (List.mem_of_getElem? (i := 636) (by decide +kernel))), (hts0 (.selects RX8 yX8_current yX8_current) (List.mem_of_getElem? (i := 637) (by decide +kernel)))⟩) rfl hrc_r_126 hK hZ hX hF hS hA rfl hl.1 rfl (Nat.le_of_ble_eq_true rfl) dL_law_410 ⟨by show _ ≤ 1045538; omega, by show _ ≤ 5964855; omega⟩ (fun r_126 f_127 H locs h hF hS => ?_)
                    obtain ⟨cs_130, hcs⟩ : ∃ z, z = (cs_119 + ga_128) := ⟨_, rfl⟩; obtain ⟨sl_131, hsl⟩ : ∃ z, z = (sl_120 + gb_129) := ⟨_, rfl⟩
                    have hbc : cs_130 + (((((((bc - ga_79) - ga_85) - ga_93) - ga_99) - ga_109) - ga_117) - ga_128) ≤ 1045538 := by omega
                    have hbs : sl_131 + (((((((bs - gb_80) - gb_86) - gb_94) - gb_100) - gb_110) - gb_118) - gb_129) ≤ 5964855 := by omega
                    refine W.widen (k := cs_130) (n := sl_131) (by omega) (by omega) ?_
                    clear hcs hsl
                    refine lv_pop hx hb dL_law_413 rfl ?_
                    refine lv_aload_n hx hb dL_law_414 rfl (lv_at hl 3 rfl) ?_
                    obtain ⟨⟨fs_r_132, hrc_r_132⟩, h⟩ := h
                    refine fw_cV_i_p (As := []) (rest := []) ⟨hx, hb, hml, hown, hts⟩ (cc_X8_rank l G h) (⟨callB_of 0 hts ggL_law_X8_rank rfl rfl rfl (hts0 (.initialized RX8) (List.mem_of_getElem? (i := 21) (by decide +kernel))) (hts0 (.methodLink RL 79 yX8_rank) (List.mem_of_getElem? (i := 533) (by decide +kernel))) (by decide +kernel) ⟨Nat.le_of_ble_eq_true rfl, Nat.le_of_ble_eq_true rfl⟩, (hts0 (.instanceMethod yX8_rank) (List.mem_of_getElem? (i := 534) (by decide +kernel))), (hts0 (.selects RX8 yX8_rank yX8_rank) (List.mem_of_getElem? (i := 535) (by decide +kernel)))⟩) rfl hrc_r_132 hK hZ hF hS hA rfl hl.1 rfl (Nat.le_of_ble_eq_true rfl) dL_law_415 ⟨by show _ + 0 ≤ 1045538; omega, by show _ + 0 ≤ 5964855; omega⟩ (fun r_132 H locs h hF hS => ?_)
                    simp only [Nat.add_zero]
                    refine lv_iload hx hb dL_law_418 (lv_at hl 1 rfl) ?_
                    refine lv_iconst (v := (2 : Int32)) hx hb dL_law_420 (by decide) ?_
                    obtain ⟨hne, h⟩ := h
                    refine lv_idiv hx hb dL_law_421 hne ?_
                    obtain ⟨h1, h2⟩ := h
                    refine lv_icmp_ne (tgt := 434) hx hb dL_law_422 (by decide) (fun c_133 => ?_) (fun c_133 => ?_)
                    · have h := h1 c_133
                      refine lv_iconst (v := (0 : Int32)) hx hb dL_law_434 (by decide) ?_
                      exact h.elim
                    · have h := h2 c_133
                      refine lv_aload_n hx hb dL_law_425 rfl (lv_at hl 3 rfl) ?_
                      refine lv_iconst (v := (2 : Int32)) hx hb dL_law_426 (by decide) ?_
                      refine lv_iconst (v := (3 : Int32)) hx hb dL_law_427 (by decide) ?_
                      obtain ⟨ga_136, gb_137, hga_ga_136, hgb_ga_136, h⟩ := h
                      obtain ⟨⟨fs_r_134, hrc_r_134⟩, h⟩ := h
                      refine fy_cV_i (As := [.int (2 : Int32), .int (3 : Int32)]) (rest := []) ⟨hx, hb, hml, hown, hts⟩ (cc_X8_distance l G hlt h) (⟨callB_of 2 hts ggL_law_X8_distance rfl rfl rfl (hts0 (.initialized RX8) (List.mem_of_getElem? (i := 21) (by decide +kernel))) (hts0 (.methodLink RL 60 yX8_distance) (List.mem_of_getElem? (i := 643) (by decide +kernel))) (by decide +kernel) ⟨Nat.le_of_ble_eq_true rfl, Nat.le_of_ble_eq_true rfl⟩, (hts0 (.instanceMethod yX8_distance) (List.mem_of_getElem? (i := 644) (by decide +kernel))), (hts0 (.selects RX8 yX8_distance yX8_distance) (List.mem_of_getElem? (i := 645) (by decide +kernel)))⟩) rfl hrc_r_134 hK hZ hX hF hS hA rfl hl.1 rfl (Nat.le_of_ble_eq_true rfl) dL_law_428 ⟨by show _ ≤ 1045538; omega, by show _ ≤ 5964855; omega⟩ (fun r_134 f_135 H locs h hF hS => ?_)
                      obtain ⟨cs_138, hcs⟩ : ∃ z, z = (cs_130 + ga_136) := ⟨_, rfl⟩; obtain ⟨sl_139, hsl⟩ : ∃ z, z = (sl_131 + gb_137) := ⟨_, rfl⟩
                      have hbc : cs_138 + ((((((((bc - ga_79) - ga_85) - ga_93) - ga_99) - ga_109) - ga_117) - ga_128) - ga_136) ≤ 1045538 := by omega
                      have hbs : sl_139 + ((((((((bs - gb_80) - gb_86) - gb_94) - gb_100) - gb_110) - gb_118) - gb_129) - gb_137) ≤ 5964855 := by omega
                      refine W.widen (k := cs_138) (n := sl_139) (by omega) (by omega) ?_
                      clear hcs hsl
                      obtain ⟨h1, h2⟩ := h
                      refine lv_if_eq (tgt := 436) hx hb dL_law_431 (by decide) (fun c_140 => ?_) (fun c_140 => ?_)
                      · have h := h1 c_140
                        refine lv_iload hx hb dL_law_436 (lv_at hl 1 rfl) ?_
                        refine lv_iconst (v := (2 : Int32)) hx hb dL_law_438 (by decide) ?_
                        obtain ⟨hne, h⟩ := h
                        refine lv_idiv hx hb dL_law_439 hne ?_
                        refine lv_aload_n hx hb dL_law_440 rfl (lv_at hl 3 rfl) ?_
                        obtain ⟨⟨fs_r_141, hrc_r_141⟩, h⟩ := h
                        refine fw_cV_i_p (As := []) (rest := [.int (r_90 / (2 : Int32))]) ⟨hx, hb, hml, hown, hts⟩ (cc_X8_size l G h) (⟨callB_of 0 hts ggL_law_X8_size rfl rfl rfl (hts0 (.initialized RX8) (List.mem_of_getElem? (i := 21) (by decide +kernel))) (hts0 (.methodLink RL 41 yX8_size) (List.mem_of_getElem? (i := 529) (by decide +kernel))) (by decide +kernel) ⟨Nat.le_of_ble_eq_true rfl, Nat.le_of_ble_eq_true rfl⟩, (hts0 (.instanceMethod yX8_size) (List.mem_of_getElem? (i := 530) (by decide +kernel))), (hts0 (.selects RX8 yX8_size yX8_size) (List.mem_of_getElem? (i := 531) (by decide +kernel)))⟩) rfl hrc_r_141 hK hZ hF hS hA rfl hl.1 rfl (Nat.le_of_ble_eq_true rfl) dL_law_441 ⟨by show _ + 0 ≤ 1045538; omega, by show _ + 0 ≤ 5964855; omega⟩ (fun r_141 H locs h hF hS => ?_)
                        simp only [Nat.add_zero]
                        refine lv_iconst (v := (1 : Int32)) hx hb dL_law_444 (by decide) ?_
                        refine lv_isub hx hb dL_law_445 ?_
                        obtain ⟨h1, h2⟩ := h
                        refine lv_icmp_ne (tgt := 453) hx hb dL_law_446 (by decide) (fun c_142 => ?_) (fun c_142 => ?_)
                        · have h := h1 c_142
                          refine lv_iconst (v := (0 : Int32)) hx hb dL_law_453 (by decide) ?_
                          exact J454 o1 y3 y6 y7 r_90 (0 : Int32) f_135 ((((((((bc - ga_79) - ga_85) - ga_93) - ga_99) - ga_109) - ga_117) - ga_128) - ga_136) ((((((((bs - gb_80) - gb_86) - gb_94) - gb_100) - gb_110) - gb_118) - gb_129) - gb_137) _ _ _ _ _ h hbc hbs hF hS (lv_sub hl [3, 5, 6, 7, 1] rfl)
                        · have h := h2 c_142
                          refine lv_iconst (v := (1 : Int32)) hx hb dL_law_449 (by decide) ?_
                          refine lv_goto (tgt := 454) hx hb dL_law_450 (by decide) ?_
                          exact J454 o1 y3 y6 y7 r_90 (1 : Int32) f_135 ((((((((bc - ga_79) - ga_85) - ga_93) - ga_99) - ga_109) - ga_117) - ga_128) - ga_136) ((((((((bs - gb_80) - gb_86) - gb_94) - gb_100) - gb_110) - gb_118) - gb_129) - gb_137) _ _ _ _ _ h hbc hbs hF hS (lv_sub hl [3, 5, 6, 7, 1] rfl)
                      · have h := h2 c_140
                        refine lv_iconst (v := (0 : Int32)) hx hb dL_law_434 (by decide) ?_
                        exact h.elim
                  · have h := h2 c_125
                    refine lv_iconst (v := (0 : Int32)) hx hb dL_law_406 (by decide) ?_
                    exact h.elim
              · have h := h2 c_105
                refine lv_iconst (v := (0 : Int32)) hx hb dL_law_346 (by decide) ?_
                exact h.elim
          · have h := h2 c_89
            refine lv_iconst (v := (0 : Int32)) hx hb dL_law_315 (by decide) ?_
            exact h.elim
      · have h := h2 c_75
        refine lv_aload_n hx hb dL_law_269 rfl (lv_at hl 1 rfl) ?_
        refine lv_aload_n hx hb dL_law_270 rfl (lv_at hl 0 rfl) ?_
        refine lv_iload hx hb dL_law_271 (lv_at hl 7 rfl) ?_
        refine fs_cS_i_p (As := [.ref b, .int y9]) (rest := [.ref o1]) ⟨hx, hb, hml, hown, hts⟩ (cc_L_number l G h) (⟨callB_of 2 hts ggL_law_L_number rfl rfl rfl (hts0 (.initialized RL) (List.mem_of_getElem? (i := 20) (by decide +kernel))) (hts0 (.methodLink RL 26 yL_number) (List.mem_of_getElem? (i := 734) (by decide +kernel))) (by decide +kernel) ⟨Nat.le_of_ble_eq_true rfl, Nat.le_of_ble_eq_true rfl⟩, (hts0 (.static yL_number) (List.mem_of_getElem? (i := 735) (by decide +kernel)))⟩) hK hZ hXs hbl hbA hF hS hA rfl hl.1 rfl (Nat.le_of_ble_eq_true rfl) dL_law_273 ⟨by show _ + 0 ≤ 1045538; omega, by show _ + 0 ≤ 5964855; omega⟩ (fun r_143 H locs h hF hS => ?_)
        simp only [Nat.add_zero]
        refine lv_bipush (v := (21 : Int32)) hx hb dL_law_276 (by decide) ?_
        refine lv_ixor hx hb dL_law_278 ?_
        obtain ⟨ga_146, gb_147, hga_ga_146, hgb_ga_146, h⟩ := h
        refine fs_cS_v (As := [.ref o1, .int (r_143 ^^^ (21 : Int32))]) (rest := []) ⟨hx, hb, hml, hown, hts⟩ (cc_L_key l G hlt h) (⟨callB_of 2 hts ggL_law_L_key rfl rfl rfl (hts0 (.initialized RL) (List.mem_of_getElem? (i := 20) (by decide +kernel))) (hts0 (.methodLink RL 29 yL_key) (List.mem_of_getElem? (i := 721) (by decide +kernel))) (by decide +kernel) ⟨Nat.le_of_ble_eq_true rfl, Nat.le_of_ble_eq_true rfl⟩, (hts0 (.static yL_key) (List.mem_of_getElem? (i := 722) (by decide +kernel)))⟩) hK hZ hX hF hS hA rfl hl.1 rfl (Nat.le_of_ble_eq_true rfl) dL_law_279 ⟨by show _ ≤ 1045538; omega, by show _ ≤ 5964855; omega⟩ (fun f_145 H locs h hF hS => ?_)
        obtain ⟨cs_148, hcs⟩ : ∃ z, z = (cs + ga_146) := ⟨_, rfl⟩; obtain ⟨sl_149, hsl⟩ : ∃ z, z = (sl + gb_147) := ⟨_, rfl⟩
        have hbc : cs_148 + (bc - ga_146) ≤ 1045538 := by omega
        have hbs : sl_149 + (bs - gb_147) ≤ 5964855 := by omega
        refine W.widen (k := cs_148) (n := sl_149) (by omega) (by omega) ?_
        clear hcs hsl
        refine lv_aload_n hx hb dL_law_282 rfl (lv_at hl 1 rfl) ?_
        refine lv_iconst (v := (-1 : Int32)) hx hb dL_law_283 (by decide) ?_
        refine lv_iload hx hb dL_law_284 (lv_at hl 7 rfl) ?_
        refine lv_isub hx hb dL_law_286 ?_
        obtain ⟨ga_152, gb_153, hga_ga_152, hgb_ga_152, h⟩ := h
        obtain ⟨⟨fs_r_150, hrc_r_150⟩, h⟩ := h
        refine fy_cV_i (As := [.int ((-1 : Int32) - y9)]) (rest := []) ⟨hx, hb, hml, hown, hts⟩ (cc_X8_put l G hzd hlt h) (⟨callB_of 1 hts ggL_law_X8_put rfl rfl rfl (hts0 (.initialized RX8) (List.mem_of_getElem? (i := 21) (by decide +kernel))) (hts0 (.methodLink RL 33 yX8_put) (List.mem_of_getElem? (i := 163) (by decide +kernel))) (by decide +kernel) ⟨Nat.le_of_ble_eq_true rfl, Nat.le_of_ble_eq_true rfl⟩, (hts0 (.instanceMethod yX8_put) (List.mem_of_getElem? (i := 164) (by decide +kernel))), (hts0 (.selects RX8 yX8_put yX8_put) (List.mem_of_getElem? (i := 165) (by decide +kernel)))⟩) rfl hrc_r_150 hK hZ hX hF hS hA rfl hl.1 rfl (Nat.le_of_ble_eq_true rfl) dL_law_287 ⟨by show _ ≤ 1045538; omega, by show _ ≤ 5964855; omega⟩ (fun r_150 f_151 H locs h hF hS => ?_)
        obtain ⟨cs_154, hcs⟩ : ∃ z, z = (cs_148 + ga_152) := ⟨_, rfl⟩; obtain ⟨sl_155, hsl⟩ : ∃ z, z = (sl_149 + gb_153) := ⟨_, rfl⟩
        have hbc : cs_154 + ((bc - ga_146) - ga_152) ≤ 1045538 := by omega
        have hbs : sl_155 + ((bs - gb_147) - gb_153) ≤ 5964855 := by omega
        refine W.widen (k := cs_154) (n := sl_155) (by omega) (by omega) ?_
        clear hcs hsl
        refine lv_pop hx hb dL_law_290 rfl ?_
        obtain ⟨v_156, e_157⟩ : ∃ y : Int32, y = y9 + 1 := ⟨_, rfl⟩
        have h := h v_156 e_157
        refine lv_iinc (v := v_156) (lv' := [(9, .int v_156), (0, .ref b), (1, .ref o1), (2, .int y2), (3, .int y3), (6, .int y6), (7, .int y7), (8, .int y8)]) hx hb dL_law_291 hl (k := 7) rfl (by rw [e_157]; rfl) (by decide) rfl (fun ls hl => ?_)
        refine lv_goto (tgt := 263) hx hb dL_law_294 (by decide) ?_
        exact ih263 v_156 f_151 ((bc - ga_146) - ga_152) ((bs - gb_147) - gb_153) _ _ _ _ _ h hbc hbs hF hS (lv_sub hl [1, 2, 3, 4, 5, 6, 7, 0] rfl)
  have L151 : ∀ (o1 : Nat) (y2 : Int32) (y3 : Int32) (j9 : Nat) (y6 : Int32) (f : FT) (bc : Nat) (bs : Nat) (H : Heap) (locs : List Loc) (ls : Array Slot) (cs sl : Nat), loopW (wp_L_law_151 zd xs L b o1 y2 y3 K ) j9 (y6, f, bc, bs) → cs + bc ≤ 1045538 → sl + bs ≤ 5964855 → Fw G A f H → va_S A s.heap H locs → lv_has ls 13 [(0, .ref b), (1, .ref o1), (2, .int y2), (3, .int y3), (6, .int y6)] → W p l e room_1 s m #[Value.ref b] below meth c H locs cs sl (lw_Z below #[Value.ref b] s) (F0 m 151 ls []) := by
    intro o1 y2 y3 j9
    induction j9 with
    | zero => intro y6 f bc bs H locs ls cs sl h; exact h.elim
    | succ j9 ih151 =>
      intro y6 f bc bs H locs ls cs sl h hbc hbs hF hS hl
      have h : wp_L_law_151 zd xs L b o1 y2 y3 K  (loopW (wp_L_law_151 zd xs L b o1 y2 y3 K ) j9) (y6, f, bc, bs) := h
      generalize loopW (wp_L_law_151 zd xs L b o1 y2 y3 K ) j9 = C151 at ih151 h
      unfold wp_L_law_151 at h
      refine lv_iload hx hb dL_law_151 (lv_at hl 4 rfl) ?_
      obtain ⟨h1, h2⟩ := h
      refine lv_if_lt (tgt := 182) hx hb dL_law_153 (by decide) (fun c_158 => ?_) (fun c_158 => ?_)
      · have h := h1 c_158
        refine lv_iload_n hx hb dL_law_182 rfl (lv_at hl 3 rfl) ?_
        obtain ⟨h1, h2⟩ := h
        refine lv_if_ne (tgt := 225) hx hb dL_law_183 (by decide) (fun c_159 => ?_) (fun c_159 => ?_)
        · have h := h1 c_159
          refine lv_aload_n hx hb dL_law_225 rfl (lv_at hl 0 rfl) ?_
          refine lv_iconst (v := (0 : Int32)) hx hb dL_law_226 (by decide) ?_
          refine fs_cS_i_p (As := [.ref b, .int (0 : Int32)]) (rest := []) ⟨hx, hb, hml, hown, hts⟩ (cc_L_at l G h) (⟨callB_of 2 hts ggL_law_L_at rfl rfl rfl (hts0 (.initialized RL) (List.mem_of_getElem? (i := 20) (by decide +kernel))) (hts0 (.methodLink RL 16 yL_at) (List.mem_of_getElem? (i := 718) (by decide +kernel))) (by decide +kernel) ⟨Nat.le_of_ble_eq_true rfl, Nat.le_of_ble_eq_true rfl⟩, (hts0 (.static yL_at) (List.mem_of_getElem? (i := 719) (by decide +kernel)))⟩) hK hZ hXs hbl hbA hF hS hA rfl hl.1 rfl (Nat.le_of_ble_eq_true rfl) dL_law_227 ⟨by show _ + 0 ≤ 1045538; omega, by show _ + 0 ≤ 5964855; omega⟩ (fun r_160 H locs h hF hS => ?_)
          simp only [Nat.add_zero]
          refine lv_bipush (v := (10 : Int32)) hx hb dL_law_230 (by decide) ?_
          refine lv_ishr hx hb dL_law_232 ?_
          refine lv_bipush (v := (63 : Int32)) hx hb dL_law_233 (by decide) ?_
          refine lv_iand hx hb dL_law_235 ?_
          refine lv_iload_n hx hb dL_law_236 rfl (lv_at hl 3 rfl) ?_
          obtain ⟨hne, h⟩ := h
          refine lv_irem hx hb dL_law_237 hne ?_
          refine lv_topi (fun v_161 e_162 => ?_)
          have h := h v_161 e_162
          refine lv_istore (lv' := [(6, .int v_161), (0, .ref b), (1, .ref o1), (2, .int y2), (3, .int y3)]) hx hb dL_law_238 hl (by decide) rfl (fun ls hl => ?_)
          refine lv_aload_n hx hb dL_law_240 rfl (lv_at hl 2 rfl) ?_
          refine lv_iload hx hb dL_law_241 (lv_at hl 0 rfl) ?_
          obtain ⟨ga_165, gb_166, hga_ga_165, hgb_ga_165, h⟩ := h
          obtain ⟨⟨fs_r_163, hrc_r_163⟩, h⟩ := h
          refine fy_cV_i (As := [.int v_161]) (rest := []) ⟨hx, hb, hml, hown, hts⟩ (cc_X8_select l G hlt h) (⟨callB_of 1 hts ggL_law_X8_select rfl rfl rfl (hts0 (.initialized RX8) (List.mem_of_getElem? (i := 21) (by decide +kernel))) (hts0 (.methodLink RL 54 yX8_select) (List.mem_of_getElem? (i := 537) (by decide +kernel))) (by decide +kernel) ⟨Nat.le_of_ble_eq_true rfl, Nat.le_of_ble_eq_true rfl⟩, (hts0 (.instanceMethod yX8_select) (List.mem_of_getElem? (i := 538) (by decide +kernel))), (hts0 (.selects RX8 yX8_select yX8_select) (List.mem_of_getElem? (i := 539) (by decide +kernel)))⟩) rfl hrc_r_163 hK hZ hX hF hS hA rfl hl.1 rfl (Nat.le_of_ble_eq_true rfl) dL_law_243 ⟨by show _ ≤ 1045538; omega, by show _ ≤ 5964855; omega⟩ (fun r_163 f_164 H locs h hF hS => ?_)
          obtain ⟨cs_167, hcs⟩ : ∃ z, z = (cs + ga_165) := ⟨_, rfl⟩; obtain ⟨sl_168, hsl⟩ : ∃ z, z = (sl + gb_166) := ⟨_, rfl⟩
          have hbc : cs_167 + (bc - ga_165) ≤ 1045538 := by omega
          have hbs : sl_168 + (bs - gb_166) ≤ 5964855 := by omega
          refine W.widen (k := cs_167) (n := sl_168) (by omega) (by omega) ?_
          clear hcs hsl
          refine lv_istore (lv' := [(7, .int r_163), (6, .int v_161), (0, .ref b), (1, .ref o1), (2, .int y2), (3, .int y3)]) hx hb dL_law_246 hl (by decide) rfl (fun ls hl => ?_)
          refine lv_aload_n hx hb dL_law_248 rfl (lv_at hl 3 rfl) ?_
          refine lv_iconst (v := (2 : Int32)) hx hb dL_law_249 (by decide) ?_
          obtain ⟨ga_171, gb_172, hga_ga_171, hgb_ga_171, h⟩ := h
          obtain ⟨⟨fs_r_169, hrc_r_169⟩, h⟩ := h
          refine fy_cV_i (As := [.int (2 : Int32)]) (rest := []) ⟨hx, hb, hml, hown, hts⟩ (cc_X8_open l G hlt h) (⟨callB_of 1 hts ggL_law_X8_open rfl rfl rfl (hts0 (.initialized RX8) (List.mem_of_getElem? (i := 21) (by decide +kernel))) (hts0 (.methodLink RL 45 yX8_open) (List.mem_of_getElem? (i := 595) (by decide +kernel))) (by decide +kernel) ⟨Nat.le_of_ble_eq_true rfl, Nat.le_of_ble_eq_true rfl⟩, (hts0 (.instanceMethod yX8_open) (List.mem_of_getElem? (i := 596) (by decide +kernel))), (hts0 (.selects RX8 yX8_open yX8_open) (List.mem_of_getElem? (i := 597) (by decide +kernel)))⟩) rfl hrc_r_169 hK hZ hX hF hS hA rfl hl.1 rfl (Nat.le_of_ble_eq_true rfl) dL_law_250 ⟨by show _ ≤ 1045538; omega, by show _ ≤ 5964855; omega⟩ (fun r_169 f_170 H locs h hF hS => ?_)
          obtain ⟨cs_173, hcs⟩ : ∃ z, z = (cs_167 + ga_171) := ⟨_, rfl⟩; obtain ⟨sl_174, hsl⟩ : ∃ z, z = (sl_168 + gb_172) := ⟨_, rfl⟩
          have hbc : cs_173 + ((bc - ga_165) - ga_171) ≤ 1045538 := by omega
          have hbs : sl_174 + ((bs - gb_166) - gb_172) ≤ 5964855 := by omega
          refine W.widen (k := cs_173) (n := sl_174) (by omega) (by omega) ?_
          clear hcs hsl
          refine lv_pop hx hb dL_law_253 rfl ?_
          refine lv_aload_n hx hb dL_law_254 rfl (lv_at hl 3 rfl) ?_
          obtain ⟨ga_177, gb_178, hga_ga_177, hgb_ga_177, h⟩ := h
          obtain ⟨⟨fs_r_175, hrc_r_175⟩, h⟩ := h
          refine fw_cV_i (As := []) (rest := []) ⟨hx, hb, hml, hown, hts⟩ (cc_X8_saveSnapshot l G hzd h) (⟨callB_of 0 hts ggL_law_X8_saveSnapshot rfl rfl rfl (hts0 (.initialized RX8) (List.mem_of_getElem? (i := 21) (by decide +kernel))) (hts0 (.methodLink RL 73 yX8_saveSnapshot) (List.mem_of_getElem? (i := 702) (by decide +kernel))) (by decide +kernel) ⟨Nat.le_of_ble_eq_true rfl, Nat.le_of_ble_eq_true rfl⟩, (hts0 (.instanceMethod yX8_saveSnapshot) (List.mem_of_getElem? (i := 703) (by decide +kernel))), (hts0 (.selects RX8 yX8_saveSnapshot yX8_saveSnapshot) (List.mem_of_getElem? (i := 704) (by decide +kernel)))⟩) rfl hrc_r_175 hK hZ hF hS hA rfl hl.1 rfl (Nat.le_of_ble_eq_true rfl) dL_law_255 ⟨by show _ ≤ 1045538; omega, by show _ ≤ 5964855; omega⟩ (fun r_175 f_176 H locs h hF hS => ?_)
          obtain ⟨cs_179, hcs⟩ : ∃ z, z = (cs_173 + ga_177) := ⟨_, rfl⟩; obtain ⟨sl_180, hsl⟩ : ∃ z, z = (sl_174 + gb_178) := ⟨_, rfl⟩
          have hbc : cs_179 + (((bc - ga_165) - ga_171) - ga_177) ≤ 1045538 := by omega
          have hbs : sl_180 + (((bs - gb_166) - gb_172) - gb_178) ≤ 5964855 := by omega
          refine W.widen (k := cs_179) (n := sl_180) (by omega) (by omega) ?_
          clear hcs hsl
          refine lv_istore (lv' := [(8, .int r_175), (7, .int r_163), (6, .int v_161), (0, .ref b), (1, .ref o1), (2, .int y2), (3, .int y3)]) hx hb dL_law_258 hl (by decide) rfl (fun ls hl => ?_)
          refine lv_iconst (v := (0 : Int32)) hx hb dL_law_260 (by decide) ?_
          refine lv_istore (lv' := [(9, .int (0 : Int32)), (8, .int r_175), (7, .int r_163), (6, .int v_161), (0, .ref b), (1, .ref o1), (2, .int y2), (3, .int y3)]) hx hb dL_law_261 hl (by decide) rfl (fun ls hl => ?_)
          obtain ⟨n_181, h⟩ := h
          exact L263 o1 y2 y3 v_161 r_163 r_175 n_181 (0 : Int32) f_176 (((bc - ga_165) - ga_171) - ga_177) (((bs - gb_166) - gb_172) - gb_178) _ _ _ _ _ h hbc hbs hF hS (lv_sub hl [4, 5, 6, 7, 3, 2, 1, 0] rfl)
        · have h := h2 c_159
          refine lv_aload_n hx hb dL_law_186 rfl (lv_at hl 1 rfl) ?_
          refine lv_bipush (v := (50 : Int32)) hx hb dL_law_187 (by decide) ?_
          obtain ⟨ga_184, gb_185, hga_ga_184, hgb_ga_184, h⟩ := h
          obtain ⟨⟨fs_r_182, hrc_r_182⟩, h⟩ := h
          refine fy_cV_i (As := [.int (50 : Int32)]) (rest := []) ⟨hx, hb, hml, hown, hts⟩ (cc_X8_load l G hzd hlt h) (⟨callB_of 1 hts ggL_law_X8_load rfl rfl rfl (hts0 (.initialized RX8) (List.mem_of_getElem? (i := 21) (by decide +kernel))) (hts0 (.methodLink RL 67 yX8_load) (List.mem_of_getElem? (i := 647) (by decide +kernel))) (by decide +kernel) ⟨Nat.le_of_ble_eq_true rfl, Nat.le_of_ble_eq_true rfl⟩, (hts0 (.instanceMethod yX8_load) (List.mem_of_getElem? (i := 648) (by decide +kernel))), (hts0 (.selects RX8 yX8_load yX8_load) (List.mem_of_getElem? (i := 649) (by decide +kernel)))⟩) rfl hrc_r_182 hK hZ hX hF hS hA rfl hl.1 rfl (Nat.le_of_ble_eq_true rfl) dL_law_189 ⟨by show _ ≤ 1045538; omega, by show _ ≤ 5964855; omega⟩ (fun r_182 f_183 H locs h hF hS => ?_)
          obtain ⟨cs_186, hcs⟩ : ∃ z, z = (cs + ga_184) := ⟨_, rfl⟩; obtain ⟨sl_187, hsl⟩ : ∃ z, z = (sl + gb_185) := ⟨_, rfl⟩
          have hbc : cs_186 + (bc - ga_184) ≤ 1045538 := by omega
          have hbs : sl_187 + (bs - gb_185) ≤ 5964855 := by omega
          refine W.widen (k := cs_186) (n := sl_187) (by omega) (by omega) ?_
          clear hcs hsl
          refine lv_iconst (v := (1 : Int32)) hx hb dL_law_192 (by decide) ?_
          obtain ⟨h1, h2⟩ := h
          refine lv_icmp_ne (tgt := 223) hx hb dL_law_193 (by decide) (fun c_188 => ?_) (fun c_188 => ?_)
          · have h := h1 c_188
            refine lv_iconst (v := (0 : Int32)) hx hb dL_law_223 (by decide) ?_
            exact h.elim
          · have h := h2 c_188
            refine lv_aload_n hx hb dL_law_196 rfl (lv_at hl 1 rfl) ?_
            obtain ⟨⟨fs_r_189, hrc_r_189⟩, h⟩ := h
            refine fw_cV_i_p (As := []) (rest := []) ⟨hx, hb, hml, hown, hts⟩ (cc_X8_height l G h) (⟨callB_of 0 hts ggL_law_X8_height rfl rfl rfl (hts0 (.initialized RX8) (List.mem_of_getElem? (i := 21) (by decide +kernel))) (hts0 (.methodLink RL 70 yX8_height) (List.mem_of_getElem? (i := 558) (by decide +kernel))) (by decide +kernel) ⟨Nat.le_of_ble_eq_true rfl, Nat.le_of_ble_eq_true rfl⟩, (hts0 (.instanceMethod yX8_height) (List.mem_of_getElem? (i := 559) (by decide +kernel))), (hts0 (.selects RX8 yX8_height yX8_height) (List.mem_of_getElem? (i := 560) (by decide +kernel)))⟩) rfl hrc_r_189 hK hZ hF hS hA rfl hl.1 rfl (Nat.le_of_ble_eq_true rfl) dL_law_197 ⟨by show _ + 0 ≤ 1045538; omega, by show _ + 0 ≤ 5964855; omega⟩ (fun r_189 H locs h hF hS => ?_)
            simp only [Nat.add_zero]
            refine lv_iconst (v := (1 : Int32)) hx hb dL_law_200 (by decide) ?_
            obtain ⟨h1, h2⟩ := h
            refine lv_icmp_ne (tgt := 223) hx hb dL_law_201 (by decide) (fun c_190 => ?_) (fun c_190 => ?_)
            · have h := h1 c_190
              refine lv_iconst (v := (0 : Int32)) hx hb dL_law_223 (by decide) ?_
              exact h.elim
            · have h := h2 c_190
              refine lv_aload_n hx hb dL_law_204 rfl (lv_at hl 1 rfl) ?_
              refine lv_iconst (v := (0 : Int32)) hx hb dL_law_205 (by decide) ?_
              obtain ⟨ga_193, gb_194, hga_ga_193, hgb_ga_193, h⟩ := h
              obtain ⟨⟨fs_r_191, hrc_r_191⟩, h⟩ := h
              refine fy_cV_i (As := [.int (0 : Int32)]) (rest := []) ⟨hx, hb, hml, hown, hts⟩ (cc_X8_close l G hlt h) (⟨callB_of 1 hts ggL_law_X8_close rfl rfl rfl (hts0 (.initialized RX8) (List.mem_of_getElem? (i := 21) (by decide +kernel))) (hts0 (.methodLink RL 48 yX8_close) (List.mem_of_getElem? (i := 608) (by decide +kernel))) (by decide +kernel) ⟨Nat.le_of_ble_eq_true rfl, Nat.le_of_ble_eq_true rfl⟩, (hts0 (.instanceMethod yX8_close) (List.mem_of_getElem? (i := 609) (by decide +kernel))), (hts0 (.selects RX8 yX8_close yX8_close) (List.mem_of_getElem? (i := 610) (by decide +kernel)))⟩) rfl hrc_r_191 hK hZ hX hF hS hA rfl hl.1 rfl (Nat.le_of_ble_eq_true rfl) dL_law_206 ⟨by show _ ≤ 1045538; omega, by show _ ≤ 5964855; omega⟩ (fun r_191 f_192 H locs h hF hS => ?_)
              obtain ⟨cs_195, hcs⟩ : ∃ z, z = (cs_186 + ga_193) := ⟨_, rfl⟩; obtain ⟨sl_196, hsl⟩ : ∃ z, z = (sl_187 + gb_194) := ⟨_, rfl⟩
              have hbc : cs_195 + ((bc - ga_184) - ga_193) ≤ 1045538 := by omega
              have hbs : sl_196 + ((bs - gb_185) - gb_194) ≤ 5964855 := by omega
              refine W.widen (k := cs_195) (n := sl_196) (by omega) (by omega) ?_
              clear hcs hsl
              obtain ⟨h1, h2⟩ := h
              refine lv_if_ne (tgt := 223) hx hb dL_law_209 (by decide) (fun c_197 => ?_) (fun c_197 => ?_)
              · have h := h1 c_197
                refine lv_iconst (v := (0 : Int32)) hx hb dL_law_223 (by decide) ?_
                exact h.elim
              · have h := h2 c_197
                refine lv_aload_n hx hb dL_law_212 rfl (lv_at hl 1 rfl) ?_
                obtain ⟨ga_200, gb_201, hga_ga_200, hgb_ga_200, h⟩ := h
                obtain ⟨⟨fs_r_198, hrc_r_198⟩, h⟩ := h
                refine fw_cV_i (As := []) (rest := []) ⟨hx, hb, hml, hown, hts⟩ (cc_X8_saveSnapshot l G hzd h) (⟨callB_of 0 hts ggL_law_X8_saveSnapshot rfl rfl rfl (hts0 (.initialized RX8) (List.mem_of_getElem? (i := 21) (by decide +kernel))) (hts0 (.methodLink RL 73 yX8_saveSnapshot) (List.mem_of_getElem? (i := 702) (by decide +kernel))) (by decide +kernel) ⟨Nat.le_of_ble_eq_true rfl, Nat.le_of_ble_eq_true rfl⟩, (hts0 (.instanceMethod yX8_saveSnapshot) (List.mem_of_getElem? (i := 703) (by decide +kernel))), (hts0 (.selects RX8 yX8_saveSnapshot yX8_saveSnapshot) (List.mem_of_getElem? (i := 704) (by decide +kernel)))⟩) rfl hrc_r_198 hK hZ hF hS hA rfl hl.1 rfl (Nat.le_of_ble_eq_true rfl) dL_law_213 ⟨by show _ ≤ 1045538; omega, by show _ ≤ 5964855; omega⟩ (fun r_198 f_199 H locs h hF hS => ?_)
                obtain ⟨cs_202, hcs⟩ : ∃ z, z = (cs_195 + ga_200) := ⟨_, rfl⟩; obtain ⟨sl_203, hsl⟩ : ∃ z, z = (sl_196 + gb_201) := ⟨_, rfl⟩
                have hbc : cs_202 + (((bc - ga_184) - ga_193) - ga_200) ≤ 1045538 := by omega
                have hbs : sl_203 + (((bs - gb_185) - gb_194) - gb_201) ≤ 5964855 := by omega
                refine W.widen (k := cs_202) (n := sl_203) (by omega) (by omega) ?_
                clear hcs hsl
                obtain ⟨h1, h2⟩ := h
                refine lv_if_ne (tgt := 223) hx hb dL_law_216 (by decide) (fun c_204 => ?_) (fun c_204 => ?_)
                · have h := h1 c_204
                  refine lv_iconst (v := (0 : Int32)) hx hb dL_law_223 (by decide) ?_
                  exact h.elim
                · have h := h2 c_204
                  refine lv_iconst (v := (1 : Int32)) hx hb dL_law_219 (by decide) ?_
                  refine lv_goto (tgt := 224) hx hb dL_law_220 (by decide) ?_
                  refine va_forget (fun q hq => by have h9 := hS.2.2 q hq; rw [← hAe] at h9; exact h9) ?_
                  refine W.widen (k := 1045538) (n := 5964855) (by omega) (by omega) ?_
                  exact lw_ret (Drawn.sameBut.refl s.drawn lw_cs) hx hb hr hlocks dL_law_224
      · have h := h2 c_158
        refine lv_aload_n hx hb dL_law_156 rfl (lv_at hl 1 rfl) ?_
        refine lv_iconst (v := (0 : Int32)) hx hb dL_law_157 (by decide) ?_
        obtain ⟨ga_207, gb_208, hga_ga_207, hgb_ga_207, h⟩ := h
        obtain ⟨⟨fs_r_205, hrc_r_205⟩, h⟩ := h
        refine fy_cV_i (As := [.int (0 : Int32)]) (rest := []) ⟨hx, hb, hml, hown, hts⟩ (cc_X8_retreat l G hlt h) (⟨callB_of 1 hts ggL_law_X8_retreat rfl rfl rfl (hts0 (.initialized RX8) (List.mem_of_getElem? (i := 21) (by decide +kernel))) (hts0 (.methodLink RL 64 yX8_retreat) (List.mem_of_getElem? (i := 630) (by decide +kernel))) (by decide +kernel) ⟨Nat.le_of_ble_eq_true rfl, Nat.le_of_ble_eq_true rfl⟩, (hts0 (.instanceMethod yX8_retreat) (List.mem_of_getElem? (i := 631) (by decide +kernel))), (hts0 (.selects RX8 yX8_retreat yX8_retreat) (List.mem_of_getElem? (i := 632) (by decide +kernel)))⟩) rfl hrc_r_205 hK hZ hX hF hS hA rfl hl.1 rfl (Nat.le_of_ble_eq_true rfl) dL_law_158 ⟨by show _ ≤ 1045538; omega, by show _ ≤ 5964855; omega⟩ (fun r_205 f_206 H locs h hF hS => ?_)
        obtain ⟨cs_209, hcs⟩ : ∃ z, z = (cs + ga_207) := ⟨_, rfl⟩; obtain ⟨sl_210, hsl⟩ : ∃ z, z = (sl + gb_208) := ⟨_, rfl⟩
        have hbc : cs_209 + (bc - ga_207) ≤ 1045538 := by omega
        have hbs : sl_210 + (bs - gb_208) ≤ 5964855 := by omega
        refine W.widen (k := cs_209) (n := sl_210) (by omega) (by omega) ?_
        clear hcs hsl
        refine lv_istore (lv' := [(7, .int r_205), (0, .ref b), (1, .ref o1), (2, .int y2), (3, .int y3), (6, .int y6)]) hx hb dL_law_161 hl (by decide) rfl (fun ls hl => ?_)
        refine lv_iload hx hb dL_law_163 (lv_at hl 0 rfl) ?_
        refine lv_aload_n hx hb dL_law_165 rfl (lv_at hl 2 rfl) ?_
        refine lv_iload hx hb dL_law_166 (lv_at hl 5 rfl) ?_
        obtain ⟨ga_213, gb_214, hga_ga_213, hgb_ga_213, h⟩ := h
        obtain ⟨⟨fs_r_211, hrc_r_211⟩, h⟩ := h
        refine fy_cV_i (As := [.int y6]) (rest := [.int r_205]) ⟨hx, hb, hml, hown, hts⟩ (cc_X8_select l G hlt h) (⟨callB_of 1 hts ggL_law_X8_select rfl rfl rfl (hts0 (.initialized RX8) (List.mem_of_getElem? (i := 21) (by decide +kernel))) (hts0 (.methodLink RL 54 yX8_select) (List.mem_of_getElem? (i := 537) (by decide +kernel))) (by decide +kernel) ⟨Nat.le_of_ble_eq_true rfl, Nat.le_of_ble_eq_true rfl⟩, (hts0 (.instanceMethod yX8_select) (List.mem_of_getElem? (i := 538) (by decide +kernel))), (hts0 (.selects RX8 yX8_select yX8_select) (List.mem_of_getElem? (i := 539) (by decide +kernel)))⟩) rfl hrc_r_211 hK hZ hX hF hS hA rfl hl.1 rfl (Nat.le_of_ble_eq_true rfl) dL_law_168 ⟨by show _ ≤ 1045538; omega, by show _ ≤ 5964855; omega⟩ (fun r_211 f_212 H locs h hF hS => ?_)
        obtain ⟨cs_215, hcs⟩ : ∃ z, z = (cs_209 + ga_213) := ⟨_, rfl⟩; obtain ⟨sl_216, hsl⟩ : ∃ z, z = (sl_210 + gb_214) := ⟨_, rfl⟩
        have hbc : cs_215 + ((bc - ga_207) - ga_213) ≤ 1045538 := by omega
        have hbs : sl_216 + ((bs - gb_208) - gb_214) ≤ 5964855 := by omega
        refine W.widen (k := cs_215) (n := sl_216) (by omega) (by omega) ?_
        clear hcs hsl
        obtain ⟨h1, h2⟩ := h
        refine lv_icmp_eq (tgt := 176) hx hb dL_law_171 (by decide) (fun c_217 => ?_) (fun c_217 => ?_)
        · have h := h1 c_217
          obtain ⟨v_218, e_219⟩ : ∃ y : Int32, y = y6 + (-1) := ⟨_, rfl⟩
          have h := h v_218 e_219
          refine lv_iinc (v := v_218) (lv' := [(6, .int v_218), (7, .int r_205), (0, .ref b), (1, .ref o1), (2, .int y2), (3, .int y3)]) hx hb dL_law_176 hl (k := 5) rfl (by rw [e_219]; rfl) (by decide) rfl (fun ls hl => ?_)
          refine lv_goto (tgt := 151) hx hb dL_law_179 (by decide) ?_
          exact ih151 v_218 f_212 ((bc - ga_207) - ga_213) ((bs - gb_208) - gb_214) _ _ _ _ _ h hbc hbs hF hS (lv_sub hl [2, 3, 4, 5, 0] rfl)
        · have h := h2 c_217
          refine lv_iconst (v := (0 : Int32)) hx hb dL_law_174 (by decide) ?_
          exact h.elim
  have L83 : ∀ (o1 : Nat) (y2 : Int32) (y3 : Int32) (j9 : Nat) (y4 : Int32) (y5 : Int32) (f : FT) (bc : Nat) (bs : Nat) (H : Heap) (locs : List Loc) (ls : Array Slot) (cs sl : Nat), loopW (wp_L_law_83 zd xs L b o1 y2 y3 K ) j9 (y4, y5, f, bc, bs) → cs + bc ≤ 1045538 → sl + bs ≤ 5964855 → Fw G A f H → va_S A s.heap H locs → lv_has ls 13 [(0, .ref b), (1, .ref o1), (2, .int y2), (3, .int y3), (4, .int y4), (5, .int y5)] → W p l e room_1 s m #[Value.ref b] below meth c H locs cs sl (lw_Z below #[Value.ref b] s) (F0 m 83 ls []) := by
    intro o1 y2 y3 j9
    induction j9 with
    | zero => intro y4 y5 f bc bs H locs ls cs sl h; exact h.elim
    | succ j9 ih83 =>
      intro y4 y5 f bc bs H locs ls cs sl h hbc hbs hF hS hl
      have h : wp_L_law_83 zd xs L b o1 y2 y3 K  (loopW (wp_L_law_83 zd xs L b o1 y2 y3 K ) j9) (y4, y5, f, bc, bs) := h
      generalize loopW (wp_L_law_83 zd xs L b o1 y2 y3 K ) j9 = C83 at ih83 h
      unfold wp_L_law_83 at h
      refine lv_iload hx hb dL_law_83 (lv_at hl 5 rfl) ?_
      obtain ⟨h1, h2⟩ := h
      refine lv_if_eq (tgt := 117) hx hb dL_law_85 (by decide) (fun c_220 => ?_) (fun c_220 => ?_)
      · have h := h1 c_220
        refine lv_iload hx hb dL_law_117 (lv_at hl 4 rfl) ?_
        refine lv_iload_n hx hb dL_law_119 rfl (lv_at hl 3 rfl) ?_
        obtain ⟨h1, h2⟩ := h
        refine lv_icmp_ne (tgt := 144) hx hb dL_law_120 (by decide) (fun c_221 => ?_) (fun c_221 => ?_)
        · have h := h1 c_221
          refine lv_iconst (v := (0 : Int32)) hx hb dL_law_144 (by decide) ?_
          exact h.elim
        · have h := h2 c_221
          refine lv_aload_n hx hb dL_law_123 rfl (lv_at hl 1 rfl) ?_
          refine lv_iconst (v := (1 : Int32)) hx hb dL_law_124 (by decide) ?_
          refine lv_iconst (v := (0 : Int32)) hx hb dL_law_125 (by decide) ?_
          obtain ⟨ga_224, gb_225, hga_ga_224, hgb_ga_224, h⟩ := h
          obtain ⟨⟨fs_r_222, hrc_r_222⟩, h⟩ := h
          refine fy_cV_i (As := [.int (1 : Int32), .int (0 : Int32)]) (rest := []) ⟨hx, hb, hml, hown, hts⟩ (cc_X8_distance l G hlt h) (⟨callB_of 2 hts ggL_law_X8_distance rfl rfl rfl (hts0 (.initialized RX8) (List.mem_of_getElem? (i := 21) (by decide +kernel))) (hts0 (.methodLink RL 60 yX8_distance) (List.mem_of_getElem? (i := 643) (by decide +kernel))) (by decide +kernel) ⟨Nat.le_of_ble_eq_true rfl, Nat.le_of_ble_eq_true rfl⟩, (hts0 (.instanceMethod yX8_distance) (List.mem_of_getElem? (i := 644) (by decide +kernel))), (hts0 (.selects RX8 yX8_distance yX8_distance) (List.mem_of_getElem? (i := 645) (by decide +kernel)))⟩) rfl hrc_r_222 hK hZ hX hF hS hA rfl hl.1 rfl (Nat.le_of_ble_eq_true rfl) dL_law_126 ⟨by show _ ≤ 1045538; omega, by show _ ≤ 5964855; omega⟩ (fun r_222 f_223 H locs h hF hS => ?_)
          obtain ⟨cs_226, hcs⟩ : ∃ z, z = (cs + ga_224) := ⟨_, rfl⟩; obtain ⟨sl_227, hsl⟩ : ∃ z, z = (sl + gb_225) := ⟨_, rfl⟩
          have hbc : cs_226 + (bc - ga_224) ≤ 1045538 := by omega
          have hbs : sl_227 + (bs - gb_225) ≤ 5964855 := by omega
          refine W.widen (k := cs_226) (n := sl_227) (by omega) (by omega) ?_
          clear hcs hsl
          refine lv_iload_n hx hb dL_law_129 rfl (lv_at hl 3 rfl) ?_
          obtain ⟨h1, h2⟩ := h
          refine lv_icmp_ne (tgt := 144) hx hb dL_law_130 (by decide) (fun c_228 => ?_) (fun c_228 => ?_)
          · have h := h1 c_228
            refine lv_iconst (v := (0 : Int32)) hx hb dL_law_144 (by decide) ?_
            exact h.elim
          · have h := h2 c_228
            refine lv_aload_n hx hb dL_law_133 rfl (lv_at hl 1 rfl) ?_
            refine lv_iconst (v := (0 : Int32)) hx hb dL_law_134 (by decide) ?_
            refine lv_iconst (v := (1 : Int32)) hx hb dL_law_135 (by decide) ?_
            obtain ⟨ga_231, gb_232, hga_ga_231, hgb_ga_231, h⟩ := h
            obtain ⟨⟨fs_r_229, hrc_r_229⟩, h⟩ := h
            refine fy_cV_i (As := [.int (0 : Int32), .int (1 : Int32)]) (rest := []) ⟨hx, hb, hml, hown, hts⟩ (cc_X8_distance l G hlt h) (⟨callB_of 2 hts ggL_law_X8_distance rfl rfl rfl (hts0 (.initialized RX8) (List.mem_of_getElem? (i := 21) (by decide +kernel))) (hts0 (.methodLink RL 60 yX8_distance) (List.mem_of_getElem? (i := 643) (by decide +kernel))) (by decide +kernel) ⟨Nat.le_of_ble_eq_true rfl, Nat.le_of_ble_eq_true rfl⟩, (hts0 (.instanceMethod yX8_distance) (List.mem_of_getElem? (i := 644) (by decide +kernel))), (hts0 (.selects RX8 yX8_distance yX8_distance) (List.mem_of_getElem? (i := 645) (by decide +kernel)))⟩) rfl hrc_r_229 hK hZ hX hF hS hA rfl hl.1 rfl (Nat.le_of_ble_eq_true rfl) dL_law_136 ⟨by show _ ≤ 1045538; omega, by show _ ≤ 5964855; omega⟩ (fun r_229 f_230 H locs h hF hS => ?_)
            obtain ⟨cs_233, hcs⟩ : ∃ z, z = (cs_226 + ga_231) := ⟨_, rfl⟩; obtain ⟨sl_234, hsl⟩ : ∃ z, z = (sl_227 + gb_232) := ⟨_, rfl⟩
            have hbc : cs_233 + ((bc - ga_224) - ga_231) ≤ 1045538 := by omega
            have hbs : sl_234 + ((bs - gb_225) - gb_232) ≤ 5964855 := by omega
            refine W.widen (k := cs_233) (n := sl_234) (by omega) (by omega) ?_
            clear hcs hsl
            refine lv_iload_n hx hb dL_law_139 rfl (lv_at hl 3 rfl) ?_
            refine lv_ineg hx hb dL_law_140 ?_
            obtain ⟨h1, h2⟩ := h
            refine lv_icmp_eq (tgt := 146) hx hb dL_law_141 (by decide) (fun c_235 => ?_) (fun c_235 => ?_)
            · have h := h1 c_235
              refine lv_iload_n hx hb dL_law_146 rfl (lv_at hl 3 rfl) ?_
              refine lv_iconst (v := (1 : Int32)) hx hb dL_law_147 (by decide) ?_
              refine lv_isub hx hb dL_law_148 ?_
              refine lv_topi (fun v_236 e_237 => ?_)
              have h := h v_236 e_237
              refine lv_istore (lv' := [(6, .int v_236), (0, .ref b), (1, .ref o1), (2, .int y2), (3, .int y3), (4, .int y4), (5, .int y5)]) hx hb dL_law_149 hl (by decide) rfl (fun ls hl => ?_)
              obtain ⟨n_238, h⟩ := h
              exact L151 o1 y2 y3 n_238 v_236 f_230 ((bc - ga_224) - ga_231) ((bs - gb_225) - gb_232) _ _ _ _ _ h hbc hbs hF hS (lv_sub hl [1, 2, 3, 4, 0] rfl)
            · have h := h2 c_235
              refine lv_iconst (v := (0 : Int32)) hx hb dL_law_144 (by decide) ?_
              exact h.elim
      · have h := h2 c_220
        refine lv_aload_n hx hb dL_law_88 rfl (lv_at hl 1 rfl) ?_
        refine lv_iconst (v := (0 : Int32)) hx hb dL_law_89 (by decide) ?_
        obtain ⟨ga_241, gb_242, hga_ga_241, hgb_ga_241, h⟩ := h
        obtain ⟨⟨fs_r_239, hrc_r_239⟩, h⟩ := h
        refine fy_cV_i (As := [.int (0 : Int32)]) (rest := []) ⟨hx, hb, hml, hown, hts⟩ (cc_X8_current l G hlt h) (⟨callB_of 1 hts ggL_law_X8_current rfl rfl rfl (hts0 (.initialized RX8) (List.mem_of_getElem? (i := 21) (by decide +kernel))) (hts0 (.methodLink RL 51 yX8_current) (List.mem_of_getElem? (i := 635) (by decide +kernel))) (by decide +kernel) ⟨Nat.le_of_ble_eq_true rfl, Nat.le_of_ble_eq_true rfl⟩, (hts0 (.instanceMethod yX8_current) (List.mem_of_getElem? (i := 636) (by decide +kernel))), (hts0 (.selects RX8 yX8_current yX8_current) (List.mem_of_getElem? (i := 637) (by decide +kernel)))⟩) rfl hrc_r_239 hK hZ hX hF hS hA rfl hl.1 rfl (Nat.le_of_ble_eq_true rfl) dL_law_90 ⟨by show _ ≤ 1045538; omega, by show _ ≤ 5964855; omega⟩ (fun r_239 f_240 H locs h hF hS => ?_)
        obtain ⟨cs_243, hcs⟩ : ∃ z, z = (cs + ga_241) := ⟨_, rfl⟩; obtain ⟨sl_244, hsl⟩ : ∃ z, z = (sl + gb_242) := ⟨_, rfl⟩
        have hbc : cs_243 + (bc - ga_241) ≤ 1045538 := by omega
        have hbs : sl_244 + (bs - gb_242) ≤ 5964855 := by omega
        refine W.widen (k := cs_243) (n := sl_244) (by omega) (by omega) ?_
        clear hcs hsl
        refine lv_aload_n hx hb dL_law_93 rfl (lv_at hl 1 rfl) ?_
        refine lv_iload hx hb dL_law_94 (lv_at hl 4 rfl) ?_
        obtain ⟨ga_247, gb_248, hga_ga_247, hgb_ga_247, h⟩ := h
        obtain ⟨⟨fs_r_245, hrc_r_245⟩, h⟩ := h
        refine fy_cV_i (As := [.int y4]) (rest := [.int r_239]) ⟨hx, hb, hml, hown, hts⟩ (cc_X8_select l G hlt h) (⟨callB_of 1 hts ggL_law_X8_select rfl rfl rfl (hts0 (.initialized RX8) (List.mem_of_getElem? (i := 21) (by decide +kernel))) (hts0 (.methodLink RL 54 yX8_select) (List.mem_of_getElem? (i := 537) (by decide +kernel))) (by decide +kernel) ⟨Nat.le_of_ble_eq_true rfl, Nat.le_of_ble_eq_true rfl⟩, (hts0 (.instanceMethod yX8_select) (List.mem_of_getElem? (i := 538) (by decide +kernel))), (hts0 (.selects RX8 yX8_select yX8_select) (List.mem_of_getElem? (i := 539) (by decide +kernel)))⟩) rfl hrc_r_245 hK hZ hX hF hS hA rfl hl.1 rfl (Nat.le_of_ble_eq_true rfl) dL_law_96 ⟨by show _ ≤ 1045538; omega, by show _ ≤ 5964855; omega⟩ (fun r_245 f_246 H locs h hF hS => ?_)
        obtain ⟨cs_249, hcs⟩ : ∃ z, z = (cs_243 + ga_247) := ⟨_, rfl⟩; obtain ⟨sl_250, hsl⟩ : ∃ z, z = (sl_244 + gb_248) := ⟨_, rfl⟩
        have hbc : cs_249 + ((bc - ga_241) - ga_247) ≤ 1045538 := by omega
        have hbs : sl_250 + ((bs - gb_242) - gb_248) ≤ 5964855 := by omega
        refine W.widen (k := cs_249) (n := sl_250) (by omega) (by omega) ?_
        clear hcs hsl
        obtain ⟨h1, h2⟩ := h
        refine lv_icmp_eq (tgt := 104) hx hb dL_law_99 (by decide) (fun c_251 => ?_) (fun c_251 => ?_)
        · have h := h1 c_251
          refine lv_aload_n hx hb dL_law_104 rfl (lv_at hl 1 rfl) ?_
          refine lv_iconst (v := (0 : Int32)) hx hb dL_law_105 (by decide) ?_
          obtain ⟨ga_254, gb_255, hga_ga_254, hgb_ga_254, h⟩ := h
          obtain ⟨⟨fs_r_252, hrc_r_252⟩, h⟩ := h
          refine fy_cV_i (As := [.int (0 : Int32)]) (rest := []) ⟨hx, hb, hml, hown, hts⟩ (cc_X8_advance l G hlt h) (⟨callB_of 1 hts ggL_law_X8_advance rfl rfl rfl (hts0 (.initialized RX8) (List.mem_of_getElem? (i := 21) (by decide +kernel))) (hts0 (.methodLink RL 57 yX8_advance) (List.mem_of_getElem? (i := 616) (by decide +kernel))) (by decide +kernel) ⟨Nat.le_of_ble_eq_true rfl, Nat.le_of_ble_eq_true rfl⟩, (hts0 (.instanceMethod yX8_advance) (List.mem_of_getElem? (i := 617) (by decide +kernel))), (hts0 (.selects RX8 yX8_advance yX8_advance) (List.mem_of_getElem? (i := 618) (by decide +kernel)))⟩) rfl hrc_r_252 hK hZ hX hF hS hA rfl hl.1 rfl (Nat.le_of_ble_eq_true rfl) dL_law_106 ⟨by show _ ≤ 1045538; omega, by show _ ≤ 5964855; omega⟩ (fun r_252 f_253 H locs h hF hS => ?_)
          obtain ⟨cs_256, hcs⟩ : ∃ z, z = (cs_249 + ga_254) := ⟨_, rfl⟩; obtain ⟨sl_257, hsl⟩ : ∃ z, z = (sl_250 + gb_255) := ⟨_, rfl⟩
          have hbc : cs_256 + (((bc - ga_241) - ga_247) - ga_254) ≤ 1045538 := by omega
          have hbs : sl_257 + (((bs - gb_242) - gb_248) - gb_255) ≤ 5964855 := by omega
          refine W.widen (k := cs_256) (n := sl_257) (by omega) (by omega) ?_
          clear hcs hsl
          refine lv_istore (lv' := [(5, .int r_252), (0, .ref b), (1, .ref o1), (2, .int y2), (3, .int y3), (4, .int y4)]) hx hb dL_law_109 hl (by decide) rfl (fun ls hl => ?_)
          obtain ⟨v_258, e_259⟩ : ∃ y : Int32, y = y4 + 1 := ⟨_, rfl⟩
          have h := h v_258 e_259
          refine lv_iinc (v := v_258) (lv' := [(4, .int v_258), (5, .int r_252), (0, .ref b), (1, .ref o1), (2, .int y2), (3, .int y3)]) hx hb dL_law_111 hl (k := 5) rfl (by rw [e_259]; rfl) (by decide) rfl (fun ls hl => ?_)
          refine lv_goto (tgt := 83) hx hb dL_law_114 (by decide) ?_
          exact ih83 v_258 r_252 f_253 (((bc - ga_241) - ga_247) - ga_254) (((bs - gb_242) - gb_248) - gb_255) _ _ _ _ _ h hbc hbs hF hS (lv_sub hl [2, 3, 4, 5, 0, 1] rfl)
        · have h := h2 c_251
          refine lv_iconst (v := (0 : Int32)) hx hb dL_law_102 (by decide) ?_
          exact h.elim
  have J81 : ∀ (o1 : Nat) (y2 : Int32) (y3 : Int32) (y4 : Int32) (z0 : Int32) (f : FT) (bc : Nat) (bs : Nat) (H : Heap) (locs : List Loc) (ls : Array Slot) (cs sl : Nat), wp_L_law_81 zd xs L b o1 y2 y3 y4 z0 f bc bs K  → cs + bc ≤ 1045538 → sl + bs ≤ 5964855 → Fw G A f H → va_S A s.heap H locs → lv_has ls 13 [(0, .ref b), (1, .ref o1), (2, .int y2), (3, .int y3), (4, .int y4)] → W p l e room_1 s m #[Value.ref b] below meth c H locs cs sl (lw_Z below #[Value.ref b] s) (F0 m 81 ls [.int z0]) := by
    intro o1 y2 y3 y4 z0 f bc bs H locs ls cs sl h hbc hbs hF hS hl
    unfold wp_L_law_81 at h
    refine lv_istore (lv' := [(5, .int z0), (0, .ref b), (1, .ref o1), (2, .int y2), (3, .int y3), (4, .int y4)]) hx hb dL_law_81 hl (by decide) rfl (fun ls hl => ?_)
    obtain ⟨n_260, h⟩ := h
    exact L83 o1 y2 y3 n_260 y4 z0 f bc bs _ _ _ _ _ h hbc hbs hF hS (lv_sub hl [1, 2, 3, 4, 5, 0] rfl)
  have J64 : ∀ (o1 : Nat) (y2 : Int32) (y3 : Int32) (z0 : Int32) (z1 : Int32) (f : FT) (bc : Nat) (bs : Nat) (H : Heap) (locs : List Loc) (ls : Array Slot) (cs sl : Nat), wp_L_law_64 zd xs L b o1 y2 y3 z0 z1 f bc bs K  → cs + bc ≤ 1045538 → sl + bs ≤ 5964855 → Fw G A f H → va_S A s.heap H locs → lv_has ls 13 [(0, .ref b), (1, .ref o1), (2, .int y2), (3, .int y3)] → W p l e room_1 s m #[Value.ref b] below meth c H locs cs sl (lw_Z below #[Value.ref b] s) (F0 m 64 ls [.int z0, .int z1]) := by
    intro o1 y2 y3 z0 z1 f bc bs H locs ls cs sl h hbc hbs hF hS hl
    unfold wp_L_law_64 at h
    obtain ⟨h1, h2⟩ := h
    refine lv_icmp_eq (tgt := 69) hx hb dL_law_64 (by decide) (fun c_261 => ?_) (fun c_261 => ?_)
    · have h := h1 c_261
      refine lv_iconst (v := (0 : Int32)) hx hb dL_law_69 (by decide) ?_
      refine lv_istore (lv' := [(4, .int (0 : Int32)), (0, .ref b), (1, .ref o1), (2, .int y2), (3, .int y3)]) hx hb dL_law_70 hl (by decide) rfl (fun ls hl => ?_)
      refine lv_iload_n hx hb dL_law_72 rfl (lv_at hl 4 rfl) ?_
      obtain ⟨h1, h2⟩ := h
      refine lv_if_le (tgt := 80) hx hb dL_law_73 (by decide) (fun c_262 => ?_) (fun c_262 => ?_)
      · have h := h1 c_262
        refine lv_iconst (v := (0 : Int32)) hx hb dL_law_80 (by decide) ?_
        exact J81 o1 y2 y3 (0 : Int32) (0 : Int32) f bc bs _ _ _ _ _ h hbc hbs hF hS (lv_sub hl [1, 2, 3, 4, 0] rfl)
      · have h := h2 c_262
        refine lv_iconst (v := (1 : Int32)) hx hb dL_law_76 (by decide) ?_
        refine lv_goto (tgt := 81) hx hb dL_law_77 (by decide) ?_
        exact J81 o1 y2 y3 (0 : Int32) (1 : Int32) f bc bs _ _ _ _ _ h hbc hbs hF hS (lv_sub hl [1, 2, 3, 4, 0] rfl)
    · have h := h2 c_261
      refine lv_iconst (v := (0 : Int32)) hx hb dL_law_67 (by decide) ?_
      exact h.elim
  have J39 : ∀ (o1 : Nat) (y2 : Int32) (y3 : Int32) (z0 : Int32) (z1 : Int32) (f : FT) (bc : Nat) (bs : Nat) (H : Heap) (locs : List Loc) (ls : Array Slot) (cs sl : Nat), wp_L_law_39 zd xs L b o1 y2 y3 z0 z1 f bc bs K  → cs + bc ≤ 1045538 → sl + bs ≤ 5964855 → Fw G A f H → va_S A s.heap H locs → lv_has ls 13 [(0, .ref b), (1, .ref o1), (2, .int y2), (3, .int y3)] → W p l e room_1 s m #[Value.ref b] below meth c H locs cs sl (lw_Z below #[Value.ref b] s) (F0 m 39 ls [.int z0, .int z1]) := by
    intro o1 y2 y3 z0 z1 f bc bs H locs ls cs sl h hbc hbs hF hS hl
    unfold wp_L_law_39 at h
    obtain ⟨h1, h2⟩ := h
    refine lv_icmp_ne (tgt := 67) hx hb dL_law_39 (by decide) (fun c_263 => ?_) (fun c_263 => ?_)
    · have h := h1 c_263
      refine lv_iconst (v := (0 : Int32)) hx hb dL_law_67 (by decide) ?_
      exact h.elim
    · have h := h2 c_263
      refine lv_aload_n hx hb dL_law_42 rfl (lv_at hl 1 rfl) ?_
      refine lv_iconst (v := (3 : Int32)) hx hb dL_law_43 (by decide) ?_
      obtain ⟨ga_266, gb_267, hga_ga_266, hgb_ga_266, h⟩ := h
      obtain ⟨⟨fs_r_264, hrc_r_264⟩, h⟩ := h
      refine fy_cV_i (As := [.int (3 : Int32)]) (rest := []) ⟨hx, hb, hml, hown, hts⟩ (cc_X8_close l G hlt h) (⟨callB_of 1 hts ggL_law_X8_close rfl rfl rfl (hts0 (.initialized RX8) (List.mem_of_getElem? (i := 21) (by decide +kernel))) (hts0 (.methodLink RL 48 yX8_close) (List.mem_of_getElem? (i := 608) (by decide +kernel))) (by decide +kernel) ⟨Nat.le_of_ble_eq_true rfl, Nat.le_of_ble_eq_true rfl⟩, (hts0 (.instanceMethod yX8_close) (List.mem_of_getElem? (i := 609) (by decide +kernel))), (hts0 (.selects RX8 yX8_close yX8_close) (List.mem_of_getElem? (i := 610) (by decide +kernel)))⟩) rfl hrc_r_264 hK hZ hX hF hS hA rfl hl.1 rfl (Nat.le_of_ble_eq_true rfl) dL_law_44 ⟨by show _ ≤ 1045538; omega, by show _ ≤ 5964855; omega⟩ (fun r_264 f_265 H locs h hF hS => ?_)
      obtain ⟨cs_268, hcs⟩ : ∃ z, z = (cs + ga_266) := ⟨_, rfl⟩; obtain ⟨sl_269, hsl⟩ : ∃ z, z = (sl + gb_267) := ⟨_, rfl⟩
      have hbc : cs_268 + (bc - ga_266) ≤ 1045538 := by omega
      have hbs : sl_269 + (bs - gb_267) ≤ 5964855 := by omega
      refine W.widen (k := cs_268) (n := sl_269) (by omega) (by omega) ?_
      clear hcs hsl
      obtain ⟨h1, h2⟩ := h
      refine lv_if_ne (tgt := 67) hx hb dL_law_47 (by decide) (fun c_270 => ?_) (fun c_270 => ?_)
      · have h := h1 c_270
        refine lv_iconst (v := (0 : Int32)) hx hb dL_law_67 (by decide) ?_
        exact h.elim
      · have h := h2 c_270
        refine lv_aload_n hx hb dL_law_50 rfl (lv_at hl 1 rfl) ?_
        refine lv_iconst (v := (1 : Int32)) hx hb dL_law_51 (by decide) ?_
        obtain ⟨ga_273, gb_274, hga_ga_273, hgb_ga_273, h⟩ := h
        obtain ⟨⟨fs_r_271, hrc_r_271⟩, h⟩ := h
        refine fy_cV_i (As := [.int (1 : Int32)]) (rest := []) ⟨hx, hb, hml, hown, hts⟩ (cc_X8_open l G hlt h) (⟨callB_of 1 hts ggL_law_X8_open rfl rfl rfl (hts0 (.initialized RX8) (List.mem_of_getElem? (i := 21) (by decide +kernel))) (hts0 (.methodLink RL 45 yX8_open) (List.mem_of_getElem? (i := 595) (by decide +kernel))) (by decide +kernel) ⟨Nat.le_of_ble_eq_true rfl, Nat.le_of_ble_eq_true rfl⟩, (hts0 (.instanceMethod yX8_open) (List.mem_of_getElem? (i := 596) (by decide +kernel))), (hts0 (.selects RX8 yX8_open yX8_open) (List.mem_of_getElem? (i := 597) (by decide +kernel)))⟩) rfl hrc_r_271 hK hZ hX hF hS hA rfl hl.1 rfl (Nat.le_of_ble_eq_true rfl) dL_law_52 ⟨by show _ ≤ 1045538; omega, by show _ ≤ 5964855; omega⟩ (fun r_271 f_272 H locs h hF hS => ?_)
        obtain ⟨cs_275, hcs⟩ : ∃ z, z = (cs_268 + ga_273) := ⟨_, rfl⟩; obtain ⟨sl_276, hsl⟩ : ∃ z, z = (sl_269 + gb_274) := ⟨_, rfl⟩
        have hbc : cs_275 + ((bc - ga_266) - ga_273) ≤ 1045538 := by omega
        have hbs : sl_276 + ((bs - gb_267) - gb_274) ≤ 5964855 := by omega
        refine W.widen (k := cs_275) (n := sl_276) (by omega) (by omega) ?_
        clear hcs hsl
        refine lv_iload_n hx hb dL_law_55 rfl (lv_at hl 3 rfl) ?_
        obtain ⟨h1, h2⟩ := h
        refine lv_if_le (tgt := 63) hx hb dL_law_56 (by decide) (fun c_277 => ?_) (fun c_277 => ?_)
        · have h := h1 c_277
          refine lv_iconst (v := (0 : Int32)) hx hb dL_law_63 (by decide) ?_
          exact J64 o1 y2 y3 (0 : Int32) r_271 f_272 ((bc - ga_266) - ga_273) ((bs - gb_267) - gb_274) _ _ _ _ _ h hbc hbs hF hS (lv_sub hl [0, 1, 2, 3] rfl)
        · have h := h2 c_277
          refine lv_iconst (v := (1 : Int32)) hx hb dL_law_59 (by decide) ?_
          refine lv_goto (tgt := 64) hx hb dL_law_60 (by decide) ?_
          exact J64 o1 y2 y3 (1 : Int32) r_271 f_272 ((bc - ga_266) - ga_273) ((bs - gb_267) - gb_274) _ _ _ _ _ h hbc hbs hF hS (lv_sub hl [0, 1, 2, 3] rfl)
  have hl := lv_entry ([.ref b]) (n := 13) (Nat.le_of_ble_eq_true rfl)
  rw [lg_entry_eq]
  generalize (lg_sl ([.ref b]) ++ List.replicate (13 - (lg_sl ([.ref b])).length) Slot.unset).toArray = ls at hl ⊢
  have hl : lv_has ls 13 [(0, .ref b)] := hl
  unfold wp_L_law at h
  refine lv_aload_n hx hb dL_law_0 rfl (lv_at hl 0 rfl) ?_
  obtain ⟨ga_280, gb_281, hga_ga_280, hgb_ga_280, h⟩ := h
  refine fs_cS_q (As := [.ref b]) (rest := []) ⟨hx, hb, hml, hown, hts⟩ (cc_L_build l G hzd hlt h) (⟨callB_of 1 hts ggL_law_L_build rfl rfl rfl (hts0 (.initialized RL) (List.mem_of_getElem? (i := 20) (by decide +kernel))) (hts0 (.methodLink RL 37 yL_build) (List.mem_of_getElem? (i := 737) (by decide +kernel))) (by decide +kernel) ⟨Nat.le_of_ble_eq_true rfl, Nat.le_of_ble_eq_true rfl⟩, (hts0 (.static yL_build) (List.mem_of_getElem? (i := 738) (by decide +kernel)))⟩) hK hZ hX hXs hbl hbA hF hS hA rfl hl.1 rfl (Nat.le_of_ble_eq_true rfl) dL_law_1 ⟨by show _ ≤ 1045538; omega, by show _ ≤ 5964855; omega⟩ (fun a_278 f_279 H locs h hF hS => ?_)
  obtain ⟨cs_282, hcs⟩ : ∃ z, z = (0 + ga_280) := ⟨_, rfl⟩; obtain ⟨sl_283, hsl⟩ : ∃ z, z = (0 + gb_281) := ⟨_, rfl⟩
  have hbc : cs_282 + (1045538 - ga_280) ≤ 1045538 := by omega
  have hbs : sl_283 + (5964855 - gb_281) ≤ 5964855 := by omega
  refine W.widen (k := cs_282) (n := sl_283) (by omega) (by omega) ?_
  clear hcs hsl
  refine lv_astore_n (lv' := [(1, .ref a_278), (0, .ref b)]) hx hb dL_law_4 rfl hl (by decide) rfl (fun ls hl => ?_)
  refine lv_aload_n hx hb dL_law_5 rfl (lv_at hl 1 rfl) ?_
  refine lv_iconst (v := (0 : Int32)) hx hb dL_law_6 (by decide) ?_
  refine fs_cS_i_p (As := [.ref b, .int (0 : Int32)]) (rest := []) ⟨hx, hb, hml, hown, hts⟩ (cc_L_at l G h) (⟨callB_of 2 hts ggL_law_L_at rfl rfl rfl (hts0 (.initialized RL) (List.mem_of_getElem? (i := 20) (by decide +kernel))) (hts0 (.methodLink RL 16 yL_at) (List.mem_of_getElem? (i := 718) (by decide +kernel))) (by decide +kernel) ⟨Nat.le_of_ble_eq_true rfl, Nat.le_of_ble_eq_true rfl⟩, (hts0 (.static yL_at) (List.mem_of_getElem? (i := 719) (by decide +kernel)))⟩) hK hZ hXs hbl hbA hF hS hA rfl hl.1 rfl (Nat.le_of_ble_eq_true rfl) dL_law_7 ⟨by show _ + 0 ≤ 1045538; omega, by show _ + 0 ≤ 5964855; omega⟩ (fun r_284 H locs h hF hS => ?_)
  simp only [Nat.add_zero]
  refine lv_bipush (v := (63 : Int32)) hx hb dL_law_10 (by decide) ?_
  refine lv_iand hx hb dL_law_12 ?_
  refine lv_topi (fun v_285 e_286 => ?_)
  have h := h v_285 e_286
  refine lv_istore_n (lv' := [(2, .int v_285), (1, .ref a_278), (0, .ref b)]) hx hb dL_law_13 rfl hl (by decide) rfl (fun ls hl => ?_)
  refine lv_aload_n hx hb dL_law_14 rfl (lv_at hl 1 rfl) ?_
  obtain ⟨⟨fs_r_287, hrc_r_287⟩, h⟩ := h
  refine fw_cV_i_p (As := []) (rest := []) ⟨hx, hb, hml, hown, hts⟩ (cc_X8_size l G h) (⟨callB_of 0 hts ggL_law_X8_size rfl rfl rfl (hts0 (.initialized RX8) (List.mem_of_getElem? (i := 21) (by decide +kernel))) (hts0 (.methodLink RL 41 yX8_size) (List.mem_of_getElem? (i := 529) (by decide +kernel))) (by decide +kernel) ⟨Nat.le_of_ble_eq_true rfl, Nat.le_of_ble_eq_true rfl⟩, (hts0 (.instanceMethod yX8_size) (List.mem_of_getElem? (i := 530) (by decide +kernel))), (hts0 (.selects RX8 yX8_size yX8_size) (List.mem_of_getElem? (i := 531) (by decide +kernel)))⟩) rfl hrc_r_287 hK hZ hF hS hA rfl hl.1 rfl (Nat.le_of_ble_eq_true rfl) dL_law_15 ⟨by show _ + 0 ≤ 1045538; omega, by show _ + 0 ≤ 5964855; omega⟩ (fun r_287 H locs h hF hS => ?_)
  simp only [Nat.add_zero]
  refine lv_istore_n (lv' := [(3, .int r_287), (2, .int v_285), (1, .ref a_278), (0, .ref b)]) hx hb dL_law_18 rfl hl (by decide) rfl (fun ls hl => ?_)
  refine lv_aload_n hx hb dL_law_19 rfl (lv_at hl 2 rfl) ?_
  refine lv_iconst (v := (0 : Int32)) hx hb dL_law_20 (by decide) ?_
  obtain ⟨ga_290, gb_291, hga_ga_290, hgb_ga_290, h⟩ := h
  obtain ⟨⟨fs_r_288, hrc_r_288⟩, h⟩ := h
  refine fy_cV_i (As := [.int (0 : Int32)]) (rest := []) ⟨hx, hb, hml, hown, hts⟩ (cc_X8_cutKey l G hlt h) (⟨callB_of 1 hts ggL_law_X8_cutKey rfl rfl rfl (hts0 (.initialized RX8) (List.mem_of_getElem? (i := 21) (by decide +kernel))) (hts0 (.methodLink RL 7 yX8_cutKey) (List.mem_of_getElem? (i := 46) (by decide +kernel))) (by decide +kernel) ⟨Nat.le_of_ble_eq_true rfl, Nat.le_of_ble_eq_true rfl⟩, (hts0 (.instanceMethod yX8_cutKey) (List.mem_of_getElem? (i := 47) (by decide +kernel))), (hts0 (.selects RX8 yX8_cutKey yX8_cutKey) (List.mem_of_getElem? (i := 48) (by decide +kernel)))⟩) rfl hrc_r_288 hK hZ hX hF hS hA rfl hl.1 rfl (Nat.le_of_ble_eq_true rfl) dL_law_21 ⟨by show _ ≤ 1045538; omega, by show _ ≤ 5964855; omega⟩ (fun r_288 f_289 H locs h hF hS => ?_)
  obtain ⟨cs_292, hcs⟩ : ∃ z, z = (cs_282 + ga_290) := ⟨_, rfl⟩; obtain ⟨sl_293, hsl⟩ : ∃ z, z = (sl_283 + gb_291) := ⟨_, rfl⟩
  have hbc : cs_292 + ((1045538 - ga_280) - ga_290) ≤ 1045538 := by omega
  have hbs : sl_293 + ((5964855 - gb_281) - gb_291) ≤ 5964855 := by omega
  refine W.widen (k := cs_292) (n := sl_293) (by omega) (by omega) ?_
  clear hcs hsl
  refine lv_pop hx hb dL_law_24 rfl ?_
  refine lv_aload_n hx hb dL_law_25 rfl (lv_at hl 2 rfl) ?_
  refine lv_iconst (v := (0 : Int32)) hx hb dL_law_26 (by decide) ?_
  obtain ⟨ga_296, gb_297, hga_ga_296, hgb_ga_296, h⟩ := h
  obtain ⟨⟨fs_r_294, hrc_r_294⟩, h⟩ := h
  refine fy_cV_i (As := [.int (0 : Int32)]) (rest := []) ⟨hx, hb, hml, hown, hts⟩ (cc_X8_open l G hlt h) (⟨callB_of 1 hts ggL_law_X8_open rfl rfl rfl (hts0 (.initialized RX8) (List.mem_of_getElem? (i := 21) (by decide +kernel))) (hts0 (.methodLink RL 45 yX8_open) (List.mem_of_getElem? (i := 595) (by decide +kernel))) (by decide +kernel) ⟨Nat.le_of_ble_eq_true rfl, Nat.le_of_ble_eq_true rfl⟩, (hts0 (.instanceMethod yX8_open) (List.mem_of_getElem? (i := 596) (by decide +kernel))), (hts0 (.selects RX8 yX8_open yX8_open) (List.mem_of_getElem? (i := 597) (by decide +kernel)))⟩) rfl hrc_r_294 hK hZ hX hF hS hA rfl hl.1 rfl (Nat.le_of_ble_eq_true rfl) dL_law_27 ⟨by show _ ≤ 1045538; omega, by show _ ≤ 5964855; omega⟩ (fun r_294 f_295 H locs h hF hS => ?_)
  obtain ⟨cs_298, hcs⟩ : ∃ z, z = (cs_292 + ga_296) := ⟨_, rfl⟩; obtain ⟨sl_299, hsl⟩ : ∃ z, z = (sl_293 + gb_297) := ⟨_, rfl⟩
  have hbc : cs_298 + (((1045538 - ga_280) - ga_290) - ga_296) ≤ 1045538 := by omega
  have hbs : sl_299 + (((5964855 - gb_281) - gb_291) - gb_297) ≤ 5964855 := by omega
  refine W.widen (k := cs_298) (n := sl_299) (by omega) (by omega) ?_
  clear hcs hsl
  refine lv_iload_n hx hb dL_law_30 rfl (lv_at hl 0 rfl) ?_
  obtain ⟨h1, h2⟩ := h
  refine lv_if_le (tgt := 38) hx hb dL_law_31 (by decide) (fun c_300 => ?_) (fun c_300 => ?_)
  · have h := h1 c_300
    refine lv_iconst (v := (0 : Int32)) hx hb dL_law_38 (by decide) ?_
    exact J39 a_278 v_285 r_287 (0 : Int32) r_294 f_295 (((1045538 - ga_280) - ga_290) - ga_296) (((5964855 - gb_281) - gb_291) - gb_297) _ _ _ _ _ h hbc hbs hF hS (lv_sub hl [3, 2, 1, 0] rfl)
  · have h := h2 c_300
    refine lv_iconst (v := (1 : Int32)) hx hb dL_law_34 (by decide) ?_
    refine lv_goto (tgt := 39) hx hb dL_law_35 (by decide) ?_
    exact J39 a_278 v_285 r_287 (1 : Int32) r_294 f_295 (((1045538 - ga_280) - ga_290) - ga_296) (((5964855 - gb_281) - gb_291) - gb_297) _ _ _ _ _ h hbc hbs hF hS (lv_sub hl [3, 2, 1, 0] rfl)
