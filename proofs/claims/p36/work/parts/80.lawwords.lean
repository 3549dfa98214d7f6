theorem mem_pos {big ws : List Cond} (ps : List Nat) (hp : ws = ps.filterMap (fun i => big[i]?)) : ∀ w ∈ ws, w ∈ big := by
  intro w hw
  rw [hp] at hw
  obtain ⟨i, -, hi⟩ := List.mem_filterMap.mp hw
  exact List.mem_of_getElem? hi
set_option maxRecDepth 20000 in
theorem lwp_wsL_law0_r1 : ∀ w ∈ wsL_law0_r1, w ∈ lw_tbl := mem_pos [737, 738, 20, 739, 740, 460, 21, 741, 742, 743, 744, 80, 81, 745, 746, 22, 900, 901, 836, 837, 35, 902, 846, 241] (by decide +kernel)
set_option maxRecDepth 20000 in
theorem lwp_wsL_law0_r2 : ∀ w ∈ wsL_law0_r2, w ∈ lw_tbl := mem_pos [36, 903, 866, 516, 37, 904, 882, 678, 38, 905, 906, 898, 130, 27, 124, 907, 908, 747, 748, 749, 750, 751, 752, 23] (by decide +kernel)
set_option maxRecDepth 20000 in
theorem lwp_wsL_law0_r3 : ∀ w ∈ wsL_law0_r3, w ∈ lw_tbl := mem_pos [793, 323, 422, 28, 798, 803, 788, 255, 26, 807, 808, 790, 809, 810, 815, 754, 755, 756, 757, 781, 197, 782, 758, 759] (by decide +kernel)
set_option maxRecDepth 20000 in
theorem lwp_wsL_law0_r4 : ∀ w ∈ wsL_law0_r4, w ∈ lw_tbl := mem_pos [760, 265, 768, 761, 762, 25, 763, 770, 764, 765, 24, 766, 767, 780, 152, 153, 154, 155, 424, 425, 426, 434, 427, 428] (by decide +kernel)
set_option maxRecDepth 20000 in
theorem lwp_wsL_law0_r5 : ∀ w ∈ wsL_law0_r5, w ∈ lw_tbl := mem_pos [789, 791, 712, 419, 420, 421, 321, 176, 177, 178, 769, 435, 436, 437, 438, 771, 772, 439, 441, 10, 442, 257, 259, 3] (by decide +kernel)
set_option maxRecDepth 20000 in
theorem lwp_wsL_law0_r6 : ∀ w ∈ wsL_law0_r6, w ∈ lw_tbl := mem_pos [260, 261, 263, 4, 264, 302, 135, 30, 136, 303, 267, 268, 29, 269, 270, 271, 272, 273, 274, 275, 276, 31, 277, 278] (by decide +kernel)
set_option maxRecDepth 20000 in
theorem lwp_wsL_law0_r7 : ∀ w ∈ wsL_law0_r7, w ∈ lw_tbl := mem_pos [952, 279, 295, 296, 297, 298, 299, 301, 147, 132, 133, 148, 150, 149, 32, 341, 318, 319, 320, 323, 322, 184, 185, 186] (by decide +kernel)
set_option maxRecDepth 20000 in
theorem lwp_wsL_law0_r8 : ∀ w ∈ wsL_law0_r8, w ∈ lw_tbl := mem_pos [187, 188, 33, 189, 190, 191, 34, 192, 193, 194, 195, 196, 443, 444, 445, 446, 792, 448, 449, 450, 451, 306, 307, 308] (by decide +kernel)
set_option maxRecDepth 20000 in
theorem lwp_wsL_law0_r9 : ∀ w ∈ wsL_law0_r9, w ∈ lw_tbl := mem_pos [309, 310, 311, 312, 313, 142, 143, 314, 316, 838, 839, 840, 841, 842, 699, 700, 701, 847, 848, 849, 850, 853, 855, 851] (by decide +kernel)
set_option maxRecDepth 20000 in
theorem lwp_wsL_law0_r10 : ∀ w ∈ wsL_law0_r10, w ∈ lw_tbl := mem_pos [852, 867, 868, 869, 870, 873, 871, 872, 884, 885, 886, 887, 891, 889, 892, 899, 718, 719, 720, 928, 929, 930, 931, 54] (by decide +kernel)
set_option maxRecDepth 20000 in
theorem lwp_wsL_law0_r11 : ∀ w ∈ wsL_law0_r11, w ∈ lw_tbl := mem_pos [42, 218, 43, 214, 215, 216, 217, 175, 734, 735, 736, 721, 722, 723, 46, 47, 48, 49, 50, 51, 52, 53, 125, 126] (by decide +kernel)
set_option maxRecDepth 20000 in
theorem lwp_wsL_law0_r12 : ∀ w ∈ wsL_law0_r12, w ∈ lw_tbl := mem_pos [127, 128, 129, 131, 134, 137, 138, 139, 140, 141, 144, 146, 151, 724, 725, 726, 727, 730, 731, 732, 733, 163, 164, 165] (by decide +kernel)
set_option maxRecDepth 20000 in
theorem lwp_wsL_law0_r13 : ∀ w ∈ wsL_law0_r13, w ∈ lw_tbl := mem_pos [166, 167, 168, 169, 170, 171, 172, 173, 174, 179, 180, 181, 182, 197, 183, 198, 199, 200, 201, 202, 203, 204, 205, 206] (by decide +kernel)
set_option maxRecDepth 20000 in
theorem lwp_wsL_law0_r14 : ∀ w ∈ wsL_law0_r14, w ∈ lw_tbl := mem_pos [207, 208, 209, 210, 211, 212, 213, 234, 235, 236, 237, 238, 240, 1, 242, 243, 244, 245, 246, 247, 248, 249, 250, 251] (by decide +kernel)
set_option maxRecDepth 20000 in
theorem lwp_wsL_law0_r15 : ∀ w ∈ wsL_law0_r15, w ∈ lw_tbl := mem_pos [304, 252, 254, 2, 256, 305, 317, 324, 325, 326, 327, 328, 329, 330, 331, 332, 333, 334, 335, 336, 337, 338, 339, 340] (by decide +kernel)
set_option maxRecDepth 20000 in
theorem lwp_wsL_law0_r16 : ∀ w ∈ wsL_law0_r16, w ∈ lw_tbl := mem_pos [342, 343, 344, 345, 346, 347, 348, 349, 350, 351, 352, 353, 354, 355, 356, 357, 358, 359, 360, 361, 363, 5, 364, 365] (by decide +kernel)
set_option maxRecDepth 20000 in
theorem lwp_wsL_law0_r17 : ∀ w ∈ wsL_law0_r17, w ∈ lw_tbl := mem_pos [366, 367, 368, 369, 370, 371, 372, 373, 374, 375, 376, 377, 378, 379, 380, 381, 383, 6, 384, 385, 386, 387, 388, 389] (by decide +kernel)
set_option maxRecDepth 20000 in
theorem lwp_wsL_law0_r18 : ∀ w ∈ wsL_law0_r18, w ∈ lw_tbl := mem_pos [390, 391, 392, 393, 394, 395, 396, 397, 398, 399, 401, 7, 402, 403, 404, 405, 406, 407, 409, 8, 410, 411, 413, 9] (by decide +kernel)
set_option maxRecDepth 20000 in
theorem lwp_wsL_law0_r19 : ∀ w ∈ wsL_law0_r19, w ∈ lw_tbl := mem_pos [414, 415, 416, 417, 418, 447, 452, 529, 530, 531, 532, 595, 596, 597, 598, 599, 601, 16, 602, 483, 604, 605, 606, 607] (by decide +kernel)
set_option maxRecDepth 20000 in
theorem lwp_wsL_law0_r20 : ∀ w ∈ wsL_law0_r20, w ∈ lw_tbl := mem_pos [608, 609, 610, 611, 612, 613, 614, 615, 635, 636, 637, 638, 620, 622, 17, 623, 462, 44, 624, 626, 18, 627, 557, 478] (by decide +kernel)
set_option maxRecDepth 20000 in
theorem lwp_wsL_law0_r21 : ∀ w ∈ wsL_law0_r21, w ∈ lw_tbl := mem_pos [537, 538, 539, 540, 541, 45, 616, 617, 618, 619, 643, 644, 645, 646, 630, 631, 632, 633, 647, 648, 649, 650, 652, 653] (by decide +kernel)
set_option maxRecDepth 20000 in
theorem lwp_wsL_law0_r22 : ∀ w ∈ wsL_law0_r22, w ∈ lw_tbl := mem_pos [654, 655, 656, 657, 658, 659, 660, 661, 662, 663, 664, 665, 666, 667, 668, 669, 670, 671, 672, 673, 674, 675, 677, 19] (by decide +kernel)
set_option maxRecDepth 20000 in
theorem lwp_wsL_law0_r23 : ∀ w ∈ wsL_law0_r23, w ∈ lw_tbl := mem_pos [679, 680, 681, 682, 683, 571, 572, 573, 574, 575, 576, 577, 684, 685, 686, 687, 688, 689, 690, 691, 692, 693, 694, 695] (by decide +kernel)
set_option maxRecDepth 20000 in
theorem lwp_wsL_law0_r24 : ∀ w ∈ wsL_law0_r24, w ∈ lw_tbl := mem_pos [696, 697, 698, 579, 580, 581, 582, 583, 558, 559, 560, 561, 702, 703, 704, 705, 706, 707, 708, 709, 710, 711, 453, 454] (by decide +kernel)
set_option maxRecDepth 20000 in
theorem lwp_wsL_law0_r25 : ∀ w ∈ wsL_law0_r25, w ∈ lw_tbl := mem_pos [455, 456, 457, 459, 11, 461, 533, 534, 535, 536, 159, 160, 161, 162, 479, 480, 481, 482, 528, 484, 485, 486, 487, 488] (by decide +kernel)
set_option maxRecDepth 20000 in
theorem lwp_wsL_law0_r26 : ∀ w ∈ wsL_law0_r26, w ∈ lw_tbl := mem_pos [489, 490, 491, 492, 493, 494, 495, 496, 497, 498, 499, 501, 12, 502, 503, 504, 505, 506, 507, 508, 509, 510, 511, 512] (by decide +kernel)
set_option maxRecDepth 20000 in
theorem lwp_wsL_law0_r27 : ∀ w ∈ wsL_law0_r27, w ∈ lw_tbl := mem_pos [513, 515, 13, 517, 518, 519, 520, 522, 14, 523, 524, 525, 526, 527, 639, 640, 641, 642, 713, 714, 715, 716, 585, 586] (by decide +kernel)
set_option maxRecDepth 20000 in
theorem lwp_wsL_law0_r28 : ∀ w ∈ wsL_law0_r28, w ∈ lw_tbl := mem_pos [587, 588, 589, 570, 566, 568, 15, 569, 578, 590, 591, 592, 593, 594, 562, 563, 564, 565] (by decide +kernel)
theorem lwp_wsX80 : ∀ w ∈ wsX80, w ∈ lw_tbl := by decide +kernel
theorem lwp_wsX70 : ∀ w ∈ wsX70, w ∈ lw_tbl := by decide +kernel
theorem lwp_wsX00 : ∀ w ∈ wsX00, w ∈ lw_tbl := by decide +kernel
theorem lwp_wsX10 : ∀ w ∈ wsX10, w ∈ lw_tbl := by decide +kernel
theorem lwp_wsX60 : ∀ w ∈ wsX60, w ∈ lw_tbl := by decide +kernel
theorem lwp_wsX50 : ∀ w ∈ wsX50, w ∈ lw_tbl := by decide +kernel
theorem lwp_wsX30 : ∀ w ∈ wsX30, w ∈ lw_tbl := by decide +kernel
theorem lwp_wsX40 : ∀ w ∈ wsX40, w ∈ lw_tbl := by decide +kernel
theorem lwp_wsX20 : ∀ w ∈ wsX20, w ∈ lw_tbl := by decide +kernel
theorem lwp_wsJx4a65c0 : ∀ w ∈ wsJx4a65c0, w ∈ lw_tbl := by decide +kernel
theorem mem_app9 {big a b : List Cond} (ha : ∀ w ∈ a, w ∈ big) (hb : ∀ w ∈ b, w ∈ big) : ∀ w ∈ a ++ b, w ∈ big := fun w h => (List.mem_append.mp h).elim (ha w) (hb w)
theorem lwp_law0 : ∀ w ∈ wsL_law0, w ∈ lw_tbl := (mem_app9 (mem_app9 (mem_app9 (mem_app9 (mem_app9 (mem_app9 (mem_app9 (mem_app9 (mem_app9 (mem_app9 (mem_app9 (mem_app9 lwp_wsL_law0_r1 (mem_app9 lwp_wsL_law0_r2 (mem_app9 lwp_wsL_law0_r3 (mem_app9 lwp_wsL_law0_r4 (mem_app9 lwp_wsL_law0_r5 (mem_app9 lwp_wsL_law0_r6 (mem_app9 lwp_wsL_law0_r7 (mem_app9 lwp_wsL_law0_r8 (mem_app9 lwp_wsL_law0_r9 (mem_app9 lwp_wsL_law0_r10 (mem_app9 lwp_wsL_law0_r11 (mem_app9 lwp_wsL_law0_r12 (mem_app9 lwp_wsL_law0_r13 (mem_app9 lwp_wsL_law0_r14 (mem_app9 lwp_wsL_law0_r15 (mem_app9 lwp_wsL_law0_r16 (mem_app9 lwp_wsL_law0_r17 (mem_app9 lwp_wsL_law0_r18 (mem_app9 lwp_wsL_law0_r19 (mem_app9 lwp_wsL_law0_r20 (mem_app9 lwp_wsL_law0_r21 (mem_app9 lwp_wsL_law0_r22 (mem_app9 lwp_wsL_law0_r23 (mem_app9 lwp_wsL_law0_r24 (mem_app9 lwp_wsL_law0_r25 (mem_app9 lwp_wsL_law0_r26 (mem_app9 lwp_wsL_law0_r27 lwp_wsL_law0_r28))))))))))))))))))))))))))) lwp_wsX80) lwp_wsX70) lwp_wsX00) lwp_wsX10) lwp_wsX60) lwp_wsX50) lwp_wsX30) lwp_wsX40) lwp_wsX20) lwp_wsJx4a65c0) (fun w h => absurd h List.not_mem_nil))
set_option maxRecDepth 20000 in
theorem lwp_x0 : ∀ w ∈ (vx_atS RX8 69 "java/lang/IllegalArgumentException" ["java/lang/RuntimeException", "java/lang/Exception"]).filter goodWord, w ∈ lw_tbl := by decide +kernel
set_option maxRecDepth 20000 in
theorem lwp_x1 : ∀ w ∈ (vx_atS RX8 80 "java/lang/IllegalStateException" ["java/lang/RuntimeException", "java/lang/Exception"]).filter goodWord, w ∈ lw_tbl := by decide +kernel
set_option maxRecDepth 20000 in
theorem lwp_x2 : ∀ w ∈ (vx_at13 RX8 167 "java/util/NoSuchElementException").filter goodWord, w ∈ lw_tbl := by decide +kernel
set_option maxRecDepth 20000 in
theorem lwp_x3 : ∀ w ∈ (vx_atS RX8 98 "java/lang/IndexOutOfBoundsException" ["java/lang/RuntimeException", "java/lang/Exception"]).filter goodWord, w ∈ lw_tbl := by decide +kernel
theorem wsL_law_in : ∀ w ∈ wsL_law, w ∈ lw_tbl := (mem_app9 (mem_app9 (mem_app9 (mem_app9 lwp_law0 lwp_x0) lwp_x1) lwp_x2) lwp_x3)
