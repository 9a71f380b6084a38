/-! ===== the law's words are the tables' ===== -/
set_option maxRecDepth 100000 in
theorem in_wsL_law_r1 : ∀ w ∈ wsL_law_r1, w ∈ lw_tbl := fun w h => (goodIn_r wsL_law_r1 [26, 27, 11, 556, 557, 12, 841, 28, 29, 30, 31, 32, 33, 34, 36, 49, 37, 38, 39, 558, 559, 560, 561, 562] rfl (by decide +kernel) w h).1
set_option maxRecDepth 100000 in
theorem in_wsL_law_r2 : ∀ w ∈ wsL_law_r2, w ∈ lw_tbl := fun w h => (goodIn_r wsL_law_r2 [564, 565, 566, 563, 568, 151, 570, 572, 574, 50, 51, 52, 53, 54, 55, 56, 57, 58, 59, 60, 62, 0, 63, 64] rfl (by decide +kernel) w h).1
set_option maxRecDepth 100000 in
theorem in_wsL_law_r3 : ∀ w ∈ wsL_law_r3, w ∈ lw_tbl := fun w h => (goodIn_r wsL_law_r3 [65, 66, 67, 68, 14, 101, 102, 15, 111, 112, 16, 121, 122, 17, 138, 139, 18, 69, 70, 71, 76, 72, 73, 13] rfl (by decide +kernel) w h).1
set_option maxRecDepth 100000 in
theorem in_wsL_law_r4 : ∀ w ∈ wsL_law_r4, w ∈ lw_tbl := fun w h => (goodIn_r wsL_law_r4 [74, 75, 82, 88, 103, 104, 105, 106, 113, 114, 115, 116, 123, 124, 125, 127, 128, 126, 135, 136, 137, 92, 93, 129] rfl (by decide +kernel) w h).1
set_option maxRecDepth 100000 in
theorem in_wsL_law_r5 : ∀ w ∈ wsL_law_r5, w ∈ lw_tbl := fun w h => (goodIn_r wsL_law_r5 [140, 141, 142, 144, 143, 601, 602, 603, 604, 605, 607, 2, 608, 573, 609, 610, 611, 612, 613, 614, 615, 617, 3, 618] rfl (by decide +kernel) w h).1
set_option maxRecDepth 100000 in
theorem in_wsL_law_r6 : ∀ w ∈ wsL_law_r6, w ∈ lw_tbl := fun w h => (goodIn_r wsL_law_r6 [619, 621, 4, 622, 567, 569, 571, 152, 153, 154, 155, 623, 624, 625, 626, 156, 157, 158, 159, 138, 89, 90, 145, 175] rfl (by decide +kernel) w h).1
set_option maxRecDepth 100000 in
theorem in_wsL_law_r7 : ∀ w ∈ wsL_law_r7, w ∈ lw_tbl := fun w h => (goodIn_r wsL_law_r7 [177, 176, 19, 160, 161, 162, 163, 164, 165, 166, 168, 169, 167, 174, 170, 171, 172, 173, 627, 628, 629, 630, 631, 633] rfl (by decide +kernel) w h).1
set_option maxRecDepth 100000 in
theorem in_wsL_law_r8 : ∀ w ∈ wsL_law_r8, w ∈ lw_tbl := fun w h => (goodIn_r wsL_law_r8 [5, 634, 635, 636, 637, 178, 179, 180, 181, 638, 639, 640, 641, 182, 183, 184, 185, 642, 643, 644, 645, 186, 187, 188] rfl (by decide +kernel) w h).1
set_option maxRecDepth 100000 in
theorem in_wsL_law_r9 : ∀ w ∈ wsL_law_r9, w ∈ lw_tbl := fun w h => (goodIn_r wsL_law_r9 [189, 91, 190, 191, 192, 193, 194, 195, 196, 197, 198, 646, 647, 648, 649, 199, 200, 201, 202, 203, 204, 205, 206, 208] rfl (by decide +kernel) w h).1
set_option maxRecDepth 100000 in
theorem in_wsL_law_r10 : ∀ w ∈ wsL_law_r10, w ∈ lw_tbl := fun w h => (goodIn_r wsL_law_r10 [209, 207, 214, 210, 211, 212, 213, 215, 216, 217, 218, 219, 221, 650, 651, 652, 653, 654, 656, 6, 657, 658, 660, 7] rfl (by decide +kernel) w h).1
set_option maxRecDepth 100000 in
theorem in_wsL_law_r11 : ∀ w ∈ wsL_law_r11, w ∈ lw_tbl := fun w h => (goodIn_r wsL_law_r11 [661, 222, 223, 224, 225, 83, 84, 226, 227, 228, 229, 243, 231, 232, 233, 21, 234, 854, 235, 236, 237, 238, 853, 239] rfl (by decide +kernel) w h).1
set_option maxRecDepth 100000 in
theorem in_wsL_law_r12 : ∀ w ∈ wsL_law_r12, w ∈ lw_tbl := fun w h => (goodIn_r wsL_law_r12 [240, 241, 242, 855, 662, 663, 664, 665, 666, 667, 668, 669, 670, 671, 672, 673, 674, 675, 677, 676, 22, 678, 679, 680] rfl (by decide +kernel) w h).1
set_option maxRecDepth 100000 in
theorem in_wsL_law_r13 : ∀ w ∈ wsL_law_r13, w ∈ lw_tbl := fun w h => (goodIn_r wsL_law_r13 [681, 682, 683, 22, 684, 688, 690, 689, 691, 685, 686, 687, 692, 693, 694, 695, 696, 697, 698, 700, 699, 23, 701, 702] rfl (by decide +kernel) w h).1
set_option maxRecDepth 100000 in
theorem in_wsL_law_r14 : ∀ w ∈ wsL_law_r14, w ∈ lw_tbl := fun w h => (goodIn_r wsL_law_r14 [703, 704, 705, 706, 23, 707, 711, 713, 712, 714, 708, 709, 710, 715, 717, 8, 718, 245, 246, 247, 248, 249, 250, 251] rfl (by decide +kernel) w h).1
set_option maxRecDepth 100000 in
theorem in_wsL_law_r15 : ∀ w ∈ wsL_law_r15, w ∈ lw_tbl := fun w h => (goodIn_r wsL_law_r15 [121, 252, 253, 254, 719, 720, 721, 722, 723, 724, 725, 255, 256, 257, 258, 259, 260, 261, 85, 262, 263, 264, 265, 266] rfl (by decide +kernel) w h).1
set_option maxRecDepth 100000 in
theorem in_wsL_law_r16 : ∀ w ∈ wsL_law_r16, w ∈ lw_tbl := fun w h => (goodIn_r wsL_law_r16 [267, 726, 727, 728, 729, 730, 731, 732, 268, 269, 270, 271, 272, 273, 274, 733, 734, 735, 736, 275, 276, 277, 278, 279] rfl (by decide +kernel) w h).1
set_option maxRecDepth 100000 in
theorem in_wsL_law_r17 : ∀ w ∈ wsL_law_r17, w ∈ lw_tbl := fun w h => (goodIn_r wsL_law_r17 [280, 281, 282, 283, 284, 285, 286, 287, 86, 87, 288, 289, 290, 737, 738, 739, 740, 741, 742, 743, 744, 746, 9, 747] rfl (by decide +kernel) w h).1
set_option maxRecDepth 100000 in
theorem in_wsL_law_r18 : ∀ w ∈ wsL_law_r18, w ∈ lw_tbl := fun w h => (goodIn_r wsL_law_r18 [291, 292, 293, 294, 67, 81, 295, 296, 297, 748, 749, 750, 751, 298, 299, 300, 301, 752, 753, 754, 755, 302, 303, 304] rfl (by decide +kernel) w h).1
set_option maxRecDepth 100000 in
theorem in_wsL_law_r19 : ∀ w ∈ wsL_law_r19, w ∈ lw_tbl := fun w h => (goodIn_r wsL_law_r19 [305, 306, 307, 308, 309, 310, 311, 319, 309, 312, 310, 313, 314, 315, 77, 78, 316, 317, 318, 79, 80, 320, 321, 322] rfl (by decide +kernel) w h).1
set_option maxRecDepth 100000 in
theorem in_wsL_law_r20 : ∀ w ∈ wsL_law_r20, w ∈ lw_tbl := fun w h => (goodIn_r wsL_law_r20 [323, 324, 325, 332, 333, 333, 323, 326, 324, 327, 328, 329, 330, 843, 330, 842, 314, 844, 331, 334, 335, 336, 345, 334] rfl (by decide +kernel) w h).1
set_option maxRecDepth 100000 in
theorem in_wsL_law_r21 : ∀ w ∈ wsL_law_r21, w ∈ lw_tbl := fun w h => (goodIn_r wsL_law_r21 [337, 338, 335, 339, 340, 341, 346, 347, 348, 358, 346, 349, 347, 350, 351, 352, 353, 110, 354, 355, 356, 357, 845, 120] rfl (by decide +kernel) w h).1
set_option maxRecDepth 100000 in
theorem in_wsL_law_r22 : ∀ w ∈ wsL_law_r22, w ∈ lw_tbl := fun w h => (goodIn_r wsL_law_r22 [756, 757, 758, 759, 359, 360, 361, 362, 363, 364, 365, 760, 761, 762, 763, 366, 367, 368, 369, 370, 371, 24, 372, 373] rfl (by decide +kernel) w h).1
set_option maxRecDepth 100000 in
theorem in_wsL_law_r23 : ∀ w ∈ wsL_law_r23, w ∈ lw_tbl := fun w h => (goodIn_r wsL_law_r23 [374, 375, 376, 377, 378, 379, 380, 381, 382, 383, 384, 385, 386, 387, 388, 389, 390, 391, 856, 392, 393, 25, 394, 395] rfl (by decide +kernel) w h).1
set_option maxRecDepth 100000 in
theorem in_wsL_law_r24 : ∀ w ∈ wsL_law_r24, w ∈ lw_tbl := fun w h => (goodIn_r wsL_law_r24 [397, 1, 399, 400, 401, 402, 403, 404, 405, 406, 407, 408, 409, 410, 411, 412, 413, 414, 415, 416, 417, 418, 419, 420] rfl (by decide +kernel) w h).1
set_option maxRecDepth 100000 in
theorem in_wsL_law_r25 : ∀ w ∈ wsL_law_r25, w ∈ lw_tbl := fun w h => (goodIn_r wsL_law_r25 [421, 422, 423, 424, 857, 425, 426, 427, 428, 429, 430, 431, 432, 433, 434, 435, 436, 437, 438, 439, 440, 441, 442, 443] rfl (by decide +kernel) w h).1
set_option maxRecDepth 100000 in
theorem in_wsL_law_r26 : ∀ w ∈ wsL_law_r26, w ∈ lw_tbl := fun w h => (goodIn_r wsL_law_r26 [444, 445, 446, 447, 448, 449, 450, 451, 452, 453, 454, 455, 456, 764, 765, 766, 767, 785, 768, 769, 770, 771, 772, 773] rfl (by decide +kernel) w h).1
set_option maxRecDepth 100000 in
theorem in_wsL_law_r27 : ∀ w ∈ wsL_law_r27, w ∈ lw_tbl := fun w h => (goodIn_r wsL_law_r27 [774, 775, 776, 777, 778, 779, 780, 781, 782, 783, 784, 457, 458, 459, 460, 461, 462, 463, 858, 464, 465, 466, 476, 467] rfl (by decide +kernel) w h).1
set_option maxRecDepth 100000 in
theorem in_wsL_law_r28 : ∀ w ∈ wsL_law_r28, w ∈ lw_tbl := fun w h => (goodIn_r wsL_law_r28 [468, 469, 471, 470, 472, 473, 474, 475, 477, 478, 479, 859, 480, 481, 482, 483, 484, 485, 486, 786, 787, 788, 789, 790] rfl (by decide +kernel) w h).1
set_option maxRecDepth 100000 in
theorem in_wsL_law_r29 : ∀ w ∈ wsL_law_r29, w ∈ lw_tbl := fun w h => (goodIn_r wsL_law_r29 [791, 803, 804, 792, 793, 794, 795, 796, 797, 798, 799, 800, 801, 802, 487, 488, 489, 490, 491, 492, 493, 498, 499, 500] rfl (by decide +kernel) w h).1
set_option maxRecDepth 100000 in
theorem in_wsL_law_r30 : ∀ w ∈ wsL_law_r30, w ∈ lw_tbl := fun w h => (goodIn_r wsL_law_r30 [501, 502, 503, 504, 505, 494, 495, 496, 497, 506, 507, 508, 509, 860, 510, 511, 512, 513, 805, 806, 807, 808, 514, 515] rfl (by decide +kernel) w h).1
set_option maxRecDepth 100000 in
theorem in_wsL_law_r31 : ∀ w ∈ wsL_law_r31, w ∈ lw_tbl := fun w h => (goodIn_r wsL_law_r31 [516, 517, 518, 519, 520, 521, 522, 523, 524, 809, 810, 811, 812, 813, 814, 815, 525, 526, 527, 528, 529, 530, 531, 532] rfl (by decide +kernel) w h).1
set_option maxRecDepth 100000 in
theorem in_wsL_law_r32 : ∀ w ∈ wsL_law_r32, w ∈ lw_tbl := fun w h => (goodIn_r wsL_law_r32 [533, 534, 816, 817, 818, 819, 820, 821, 822, 535, 536, 537, 538, 542, 543, 539, 540, 541, 823, 824, 825, 826, 575, 827] rfl (by decide +kernel) w h).1
set_option maxRecDepth 100000 in
theorem in_wsL_law_r33 : ∀ w ∈ wsL_law_r33, w ∈ lw_tbl := fun w h => (goodIn_r wsL_law_r33 [828, 544, 545, 546, 547, 829, 830, 831, 832, 548, 549, 550, 551, 833, 834, 835, 836, 552, 553, 554, 555, 837, 838, 839] rfl (by decide +kernel) w h).1
set_option maxRecDepth 100000 in
theorem in_wsL_law_r34 : ∀ w ∈ wsL_law_r34, w ∈ lw_tbl := fun w h => (goodIn_r wsL_law_r34 [840] rfl (by decide +kernel) w h).1
set_option maxRecDepth 100000 in
theorem in_wsX80 : ∀ w ∈ wsX80, w ∈ lw_tbl := fun w h => (goodIn_r wsX80 [40, 42, 44, 46] rfl (by decide +kernel) w h).1
set_option maxRecDepth 100000 in
theorem in_wsX90 : ∀ w ∈ wsX90, w ∈ lw_tbl := fun w h => (goodIn_r wsX90 [576, 578, 580, 582, 584, 586, 588, 590, 592, 594, 596, 598] rfl (by decide +kernel) w h).1
set_option maxRecDepth 100000 in
theorem in_wsX20 : ∀ w ∈ wsX20, w ∈ lw_tbl := fun w h => (goodIn_r wsX20 [96, 98, 94] rfl (by decide +kernel) w h).1
set_option maxRecDepth 100000 in
theorem in_wsX40 : ∀ w ∈ wsX40, w ∈ lw_tbl := fun w h => (goodIn_r wsX40 [107, 108, 109] rfl (by decide +kernel) w h).1
set_option maxRecDepth 100000 in
theorem in_wsX50 : ∀ w ∈ wsX50, w ∈ lw_tbl := fun w h => (goodIn_r wsX50 [117, 118, 119] rfl (by decide +kernel) w h).1
set_option maxRecDepth 100000 in
theorem in_wsX70 : ∀ w ∈ wsX70, w ∈ lw_tbl := fun w h => (goodIn_r wsX70 [132, 133, 130] rfl (by decide +kernel) w h).1
set_option maxRecDepth 100000 in
theorem in_wsX10 : ∀ w ∈ wsX10, w ∈ lw_tbl := fun w h => (goodIn_r wsX10 [148, 149, 146] rfl (by decide +kernel) w h).1
theorem wsL_law_in : ∀ w ∈ wsL_law, w ∈ lw_tbl := (fun w h => (List.mem_append.mp h).elim ((fun w h => (List.mem_append.mp h).elim ((fun w h => (List.mem_append.mp h).elim ((fun w h => (List.mem_append.mp h).elim ((fun w h => (List.mem_append.mp h).elim ((fun w h => (List.mem_append.mp h).elim ((fun w h => (List.mem_append.mp h).elim ((fun w h => (List.mem_append.mp h).elim ((fun w h => (List.mem_append.mp h).elim (in_wsL_law_r1 w) ((fun w h => (List.mem_append.mp h).elim (in_wsL_law_r2 w) ((fun w h => (List.mem_append.mp h).elim (in_wsL_law_r3 w) ((fun w h => (List.mem_append.mp h).elim (in_wsL_law_r4 w) ((fun w h => (List.mem_append.mp h).elim (in_wsL_law_r5 w) ((fun w h => (List.mem_append.mp h).elim (in_wsL_law_r6 w) ((fun w h => (List.mem_append.mp h).elim (in_wsL_law_r7 w) ((fun w h => (List.mem_append.mp h).elim (in_wsL_law_r8 w) ((fun w h => (List.mem_append.mp h).elim (in_wsL_law_r9 w) ((fun w h => (List.mem_append.mp h).elim (in_wsL_law_r10 w) ((fun w h => (List.mem_append.mp h).elim (in_wsL_law_r11 w) ((fun w h => (List.mem_append.mp h).elim (in_wsL_law_r12 w) ((fun w h => (List.mem_append.mp h).elim (in_wsL_law_r13 w) ((fun w h => (List.mem_append.mp h).elim (in_wsL_law_r14 w) ((fun w h => (List.mem_append.mp h).elim (in_wsL_law_r15 w) ((fun w h => (List.mem_append.mp h).elim (in_wsL_law_r16 w) ((fun w h => (List.mem_append.mp h).elim (in_wsL_law_r17 w) ((fun w h => (List.mem_append.mp h).elim (in_wsL_law_r18 w) ((fun w h => (List.mem_append.mp h).elim (in_wsL_law_r19 w) ((fun w h => (List.mem_append.mp h).elim (in_wsL_law_r20 w) ((fun w h => (List.mem_append.mp h).elim (in_wsL_law_r21 w) ((fun w h => (List.mem_append.mp h).elim (in_wsL_law_r22 w) ((fun w h => (List.mem_append.mp h).elim (in_wsL_law_r23 w) ((fun w h => (List.mem_append.mp h).elim (in_wsL_law_r24 w) ((fun w h => (List.mem_append.mp h).elim (in_wsL_law_r25 w) ((fun w h => (List.mem_append.mp h).elim (in_wsL_law_r26 w) ((fun w h => (List.mem_append.mp h).elim (in_wsL_law_r27 w) ((fun w h => (List.mem_append.mp h).elim (in_wsL_law_r28 w) ((fun w h => (List.mem_append.mp h).elim (in_wsL_law_r29 w) ((fun w h => (List.mem_append.mp h).elim (in_wsL_law_r30 w) ((fun w h => (List.mem_append.mp h).elim (in_wsL_law_r31 w) ((fun w h => (List.mem_append.mp h).elim (in_wsL_law_r32 w) ((fun w h => (List.mem_append.mp h).elim (in_wsL_law_r33 w) (in_wsL_law_r34 w)) w)) w)) w)) w)) w)) w)) w)) w)) w)) w)) w)) w)) w)) w)) w)) w)) w)) w)) w)) w)) w)) w)) w)) w)) w)) w)) w)) w)) w)) w)) w)) w)) w) (in_wsX80 w)) w) (in_wsX90 w)) w) (in_wsX20 w)) w) (in_wsX40 w)) w) (in_wsX50 w)) w) (in_wsX70 w)) w) (in_wsX10 w)) w) ((fun w h => absurd h List.not_mem_nil) w))
theorem inX0 : ∀ w ∈ wsX00, w ∈ lw_tbl := by decide +kernel
theorem inlX1 : ∀ w ∈ wsX10, w ∈ wsL_law := fun _ h => List.mem_append_left _ (List.mem_append_right _ h)
theorem inX1 : ∀ w ∈ wsX10, w ∈ lw_tbl := fun w h => wsL_law_in w (inlX1 w h)
theorem inlX2 : ∀ w ∈ wsX20, w ∈ wsL_law := fun _ h => List.mem_append_left _ (List.mem_append_left _ (List.mem_append_left _ (List.mem_append_left _ (List.mem_append_left _ (List.mem_append_right _ h)))))
theorem inX2 : ∀ w ∈ wsX20, w ∈ lw_tbl := fun w h => wsL_law_in w (inlX2 w h)
theorem inX3 : ∀ w ∈ wsX30, w ∈ lw_tbl := by decide +kernel
theorem inlX4 : ∀ w ∈ wsX40, w ∈ wsL_law := fun _ h => List.mem_append_left _ (List.mem_append_left _ (List.mem_append_left _ (List.mem_append_left _ (List.mem_append_right _ h))))
theorem inX4 : ∀ w ∈ wsX40, w ∈ lw_tbl := fun w h => wsL_law_in w (inlX4 w h)
theorem inlX5 : ∀ w ∈ wsX50, w ∈ wsL_law := fun _ h => List.mem_append_left _ (List.mem_append_left _ (List.mem_append_left _ (List.mem_append_right _ h)))
theorem inX5 : ∀ w ∈ wsX50, w ∈ lw_tbl := fun w h => wsL_law_in w (inlX5 w h)
theorem inX6 : ∀ w ∈ wsX60, w ∈ lw_tbl := by decide +kernel
theorem inlX7 : ∀ w ∈ wsX70, w ∈ wsL_law := fun _ h => List.mem_append_left _ (List.mem_append_left _ (List.mem_append_right _ h))
theorem inX7 : ∀ w ∈ wsX70, w ∈ lw_tbl := fun w h => wsL_law_in w (inlX7 w h)
theorem inlX8 : ∀ w ∈ wsX80, w ∈ wsL_law := fun _ h => List.mem_append_left _ (List.mem_append_left _ (List.mem_append_left _ (List.mem_append_left _ (List.mem_append_left _ (List.mem_append_left _ (List.mem_append_left _ (List.mem_append_right _ h)))))))
theorem inX8 : ∀ w ∈ wsX80, w ∈ lw_tbl := fun w h => wsL_law_in w (inlX8 w h)
theorem inlX9 : ∀ w ∈ wsX90, w ∈ wsL_law := fun _ h => List.mem_append_left _ (List.mem_append_left _ (List.mem_append_left _ (List.mem_append_left _ (List.mem_append_left _ (List.mem_append_left _ (List.mem_append_right _ h))))))
theorem inX9 : ∀ w ∈ wsX90, w ∈ lw_tbl := fun w h => wsL_law_in w (inlX9 w h)
theorem inJxe99ae : ∀ w ∈ wsJxe99ae0, w ∈ lw_tbl := by decide +kernel
theorem inJx29ce0 : ∀ w ∈ wsJx29ce00, w ∈ lw_tbl := by decide +kernel
theorem inJxf58ca : ∀ w ∈ wsJxf58ca0, w ∈ lw_tbl := by decide +kernel
theorem inJ9 : ∀ w ∈ wsJ90, w ∈ lw_tbl := by decide +kernel
theorem inJ10 : ∀ w ∈ wsJ100, w ∈ lw_tbl := by decide +kernel
