theorem mem_r {big : List Cond} (ws : List Cond) (ps : List Nat) (hp : ws = ps.filterMap (fun i => big[i]?)) : ∀ w ∈ ws, w ∈ big := by
  intro w hw
  rw [hp] at hw
  obtain ⟨i, -, hi⟩ := List.mem_filterMap.mp hw
  exact List.mem_of_getElem? hi
set_option maxRecDepth 20000 in
theorem inr1 : ∀ w ∈ wsL_law_r1, w ∈ lw_tbl := mem_r _ [60, 61, 41, 693, 694, 52, 62, 63, 64, 65, 66, 67, 68, 69, 42, 234, 84, 85, 43, 235, 157, 158, 49, 236] (by decide +kernel)
set_option maxRecDepth 20000 in
theorem inr2 : ∀ w ∈ wsL_law_r2, w ∈ lw_tbl := mem_r _ [237, 201, 202, 50, 238, 200, 239, 240, 241, 219, 220, 51, 242, 243, 244, 245, 71, 72, 73, 83, 74, 76, 87, 88] (by decide +kernel)
set_option maxRecDepth 20000 in
theorem inr3 : ∀ w ∈ wsL_law_r3, w ∈ lw_tbl := mem_r _ [89, 90, 91, 44, 126, 97, 98, 45, 127, 104, 105, 46, 128, 111, 112, 47, 129, 118, 119, 48, 130, 131, 134, 137] (by decide +kernel)
set_option maxRecDepth 20000 in
theorem inr4 : ∀ w ∈ wsL_law_r4, w ∈ lw_tbl := mem_r _ [93, 94, 95, 100, 101, 107, 108, 114, 115, 121, 122, 160, 161, 162, 163, 165, 167, 169, 171, 173, 175, 177, 179, 203] (by decide +kernel)
set_option maxRecDepth 20000 in
theorem inr5 : ∀ w ∈ wsL_law_r5, w ∈ lw_tbl := mem_r _ [204, 205, 206, 208, 210, 207, 222, 223, 224, 225, 227, 228, 695, 696, 697, 698, 701, 702, 703, 710, 711, 384, 714, 717] (by decide +kernel)
set_option maxRecDepth 20000 in
theorem inr6 : ∀ w ∈ wsL_law_r6, w ∈ lw_tbl := mem_r _ [718, 719, 720, 722, 730, 731, 732, 733, 271, 272, 273, 274, 77, 275, 276, 277, 278, 808, 809, 810, 811, 713, 812, 813] (by decide +kernel)
set_option maxRecDepth 20000 in
theorem inr7 : ∀ w ∈ wsL_law_r7, w ∈ lw_tbl := mem_r _ [814, 279, 280, 281, 282, 815, 816, 817, 818, 283, 284, 285, 286, 287, 288, 289, 290, 291, 292, 293, 295, 296, 297, 53] (by decide +kernel)
set_option maxRecDepth 20000 in
theorem inr8 : ∀ w ∈ wsL_law_r8, w ∈ lw_tbl := mem_r _ [298, 299, 300, 301, 302, 1019, 303, 304, 305, 306, 307, 1018, 309, 310, 311, 312, 313, 314, 315, 316, 317, 318, 54, 319] (by decide +kernel)
set_option maxRecDepth 20000 in
theorem inr9 : ∀ w ∈ wsL_law_r9, w ∈ lw_tbl := mem_r _ [323, 324, 55, 325, 326, 327, 328, 320, 321, 322, 329, 330, 331, 332, 333, 56, 334, 335, 336, 337, 338, 339, 340, 341] (by decide +kernel)
set_option maxRecDepth 20000 in
theorem inr10 : ∀ w ∈ wsL_law_r10, w ∈ lw_tbl := mem_r _ [342, 343, 344, 345, 346, 347, 348, 349, 350, 352, 353, 57, 354, 355, 356, 357, 358, 359, 360, 361, 363, 365, 367, 368] (by decide +kernel)
set_option maxRecDepth 20000 in
theorem inr11 : ∀ w ∈ wsL_law_r11, w ∈ lw_tbl := mem_r _ [369, 370, 371, 58, 372, 373, 374, 375, 376, 377, 378, 379, 380, 381, 382, 383, 819, 820, 821, 822, 823, 825, 13, 826] (by decide +kernel)
set_option maxRecDepth 20000 in
theorem inr12 : ∀ w ∈ wsL_law_r12, w ∈ lw_tbl := mem_r _ [715, 716, 827, 828, 829, 830, 832, 14, 833, 385, 386, 387, 388, 136, 389, 390, 391, 392, 393, 394, 395, 396, 397, 398] (by decide +kernel)
set_option maxRecDepth 20000 in
theorem inr13 : ∀ w ∈ wsL_law_r13, w ∈ lw_tbl := mem_r _ [399, 400, 401, 402, 403, 404, 405, 406, 407, 408, 409, 410, 412, 0, 413, 414, 415, 416, 417, 418, 419, 420, 421, 834] (by decide +kernel)
set_option maxRecDepth 20000 in
theorem inr14 : ∀ w ∈ wsL_law_r14, w ∈ lw_tbl := mem_r _ [835, 836, 837, 700, 705, 699, 704, 706, 707, 708, 709, 422, 423, 424, 425, 426, 427, 428, 429, 430, 432, 1, 433, 133] (by decide +kernel)
set_option maxRecDepth 20000 in
theorem inr15 : ∀ w ∈ wsL_law_r15, w ∈ lw_tbl := mem_r _ [164, 174, 209, 434, 436, 2, 437, 166, 438, 439, 440, 441, 135, 442, 443, 444, 445, 446, 447, 450, 448, 451, 452, 453] (by decide +kernel)
set_option maxRecDepth 20000 in
theorem inr16 : ∀ w ∈ wsL_law_r16, w ∈ lw_tbl := mem_r _ [464, 454, 455, 456, 447, 448, 449, 457, 458, 459, 460, 461, 462, 463, 1012, 124, 466, 467, 468, 471, 469, 472, 473, 474] (by decide +kernel)
set_option maxRecDepth 20000 in
theorem inr17 : ∀ w ∈ wsL_law_r17, w ∈ lw_tbl := mem_r _ [484, 475, 476, 477, 468, 469, 470, 478, 479, 480, 481, 482, 483, 485, 486, 487, 488, 489, 490, 491, 492, 493, 494, 132] (by decide +kernel)
set_option maxRecDepth 20000 in
theorem inr18 : ∀ w ∈ wsL_law_r18, w ∈ lw_tbl := mem_r _ [138, 495, 498, 496, 499, 500, 501, 505, 502, 496, 495, 497, 503, 504, 506, 507, 508, 509, 510, 513, 511, 514, 515, 516] (by decide +kernel)
set_option maxRecDepth 20000 in
theorem inr19 : ∀ w ∈ wsL_law_r19, w ∈ lw_tbl := mem_r _ [520, 517, 511, 510, 512, 518, 519, 521, 523, 3, 524, 525, 527, 4, 528, 529, 531, 530, 59, 532, 533, 534, 535, 536] (by decide +kernel)
set_option maxRecDepth 20000 in
theorem inr20 : ∀ w ∈ wsL_law_r20, w ∈ lw_tbl := mem_r _ [537, 538, 539, 540, 541, 542, 543, 544, 545, 838, 839, 840, 841, 842, 844, 15, 845, 846, 848, 16, 849, 850, 852, 17] (by decide +kernel)
set_option maxRecDepth 20000 in
theorem inr21 : ∀ w ∈ wsL_law_r21, w ∈ lw_tbl := mem_r _ [853, 854, 856, 18, 857, 858, 859, 860, 861, 863, 19, 864, 865, 867, 20, 868, 869, 871, 21, 872, 873, 875, 22, 876] (by decide +kernel)
set_option maxRecDepth 20000 in
theorem inr22 : ∀ w ∈ wsL_law_r22, w ∈ lw_tbl := mem_r _ [877, 879, 23, 880, 881, 883, 24, 884, 885, 887, 25, 888, 889, 891, 26, 892, 893, 895, 27, 896, 546, 547, 548, 549] (by decide +kernel)
set_option maxRecDepth 20000 in
theorem inr23 : ∀ w ∈ wsL_law_r23, w ∈ lw_tbl := mem_r _ [550, 551, 552, 553, 554, 555, 556, 897, 898, 899, 900, 557, 558, 559, 560, 901, 902, 903, 904, 561, 562, 563, 564, 905] (by decide +kernel)
set_option maxRecDepth 20000 in
theorem inr24 : ∀ w ∈ wsL_law_r24, w ∈ lw_tbl := mem_r _ [906, 907, 908, 565, 566, 567, 568, 569, 570, 571, 909, 910, 911, 912, 572, 573, 574, 575, 176, 178, 180, 576, 578, 5] (by decide +kernel)
set_option maxRecDepth 20000 in
theorem inr25 : ∀ w ∈ wsL_law_r25, w ∈ lw_tbl := mem_r _ [579, 580, 581, 582, 585, 586, 583, 592, 583, 587, 588, 589, 582, 584, 590, 591, 913, 914, 915, 916, 593, 594, 595, 596] (by decide +kernel)
set_option maxRecDepth 20000 in
theorem inr26 : ∀ w ∈ wsL_law_r26, w ∈ lw_tbl := mem_r _ [597, 599, 6, 600, 601, 602, 603, 917, 918, 919, 920, 712, 921, 923, 28, 924, 925, 926, 928, 29, 929, 930, 932, 30] (by decide +kernel)
set_option maxRecDepth 20000 in
theorem inr27 : ∀ w ∈ wsL_law_r27, w ∈ lw_tbl := mem_r _ [933, 604, 605, 606, 607, 172, 608, 609, 610, 611, 934, 935, 936, 937, 612, 613, 614, 615, 938, 939, 940, 941, 616, 617] (by decide +kernel)
set_option maxRecDepth 20000 in
theorem inr28 : ∀ w ∈ wsL_law_r28, w ∈ lw_tbl := mem_r _ [618, 619, 620, 622, 7, 623, 624, 626, 8, 627, 168, 170, 628, 630, 9, 631, 942, 943, 944, 945, 946, 948, 31, 949] (by decide +kernel)
set_option maxRecDepth 20000 in
theorem inr29 : ∀ w ∈ wsL_law_r29, w ∈ lw_tbl := mem_r _ [950, 952, 32, 953, 632, 633, 634, 635, 636, 638, 10, 639, 640, 641, 642, 643, 644, 645, 646, 647, 648, 649, 650, 651] (by decide +kernel)
set_option maxRecDepth 20000 in
theorem inr30 : ∀ w ∈ wsL_law_r30, w ∈ lw_tbl := mem_r _ [652, 954, 955, 956, 957, 958, 960, 33, 961, 962, 964, 34, 965, 653, 654, 655, 656, 657, 659, 11, 660, 661, 662, 663] (by decide +kernel)
set_option maxRecDepth 20000 in
theorem inr31 : ∀ w ∈ wsL_law_r31, w ∈ lw_tbl := mem_r _ [664, 665, 966, 967, 968, 969, 970, 972, 35, 973, 721, 974, 976, 36, 977, 978, 979, 980, 981, 666, 667, 668, 669, 670] (by decide +kernel)
set_option maxRecDepth 20000 in
theorem inr32 : ∀ w ∈ wsL_law_r32, w ∈ lw_tbl := mem_r _ [671, 672, 673, 674, 982, 983, 984, 985, 723, 724, 725, 726, 727, 728, 729, 675, 676, 677, 678, 986, 987, 988, 989, 679] (by decide +kernel)
set_option maxRecDepth 20000 in
theorem inr33 : ∀ w ∈ wsL_law_r33, w ∈ lw_tbl := mem_r _ [680, 681, 682, 683, 685, 12, 686, 139, 211, 990, 991, 992, 993, 994, 996, 37, 997, 998, 1000, 38, 1001, 687, 688, 689] (by decide +kernel)
set_option maxRecDepth 20000 in
theorem inr34 : ∀ w ∈ wsL_law_r34, w ∈ lw_tbl := mem_r _ [690, 691, 692, 75, 1002, 1003, 1004, 1005, 1006, 734, 1007, 1009, 39, 1010, 1011] (by decide +kernel)
set_option maxRecDepth 20000 in
theorem inX10 : ∀ w ∈ wsX100, w ∈ lw_tbl := mem_r _ [246, 248, 250, 252, 254, 256, 258, 260, 262, 264, 266, 268] (by decide +kernel)
set_option maxRecDepth 20000 in
theorem inX11 : ∀ w ∈ wsX110, w ∈ lw_tbl := mem_r _ [735, 737, 739, 741, 743, 745, 747, 749, 751, 753, 755, 757, 759, 761, 763, 765, 767, 769, 771, 773, 775, 777, 779, 781, 783, 785, 787, 789, 791, 793, 795, 797, 799, 801, 803, 805] (by decide +kernel)
set_option maxRecDepth 20000 in
theorem inX4 : ∀ w ∈ wsX40, w ∈ lw_tbl := mem_r _ [78, 80] (by decide +kernel)
set_option maxRecDepth 20000 in
theorem inX6 : ∀ w ∈ wsX60, w ∈ lw_tbl := mem_r _ [140, 142, 144, 146, 148, 150, 152, 154] (by decide +kernel)
set_option maxRecDepth 20000 in
theorem inX2 : ∀ w ∈ wsX20, w ∈ lw_tbl := mem_r _ [181, 183, 185, 187, 189, 191, 193, 195, 197] (by decide +kernel)
set_option maxRecDepth 20000 in
theorem inX8 : ∀ w ∈ wsX80, w ∈ lw_tbl := mem_r _ [212, 214, 216] (by decide +kernel)
set_option maxRecDepth 20000 in
theorem inX7 : ∀ w ∈ wsX70, w ∈ lw_tbl := mem_r _ [229, 231] (by decide +kernel)
set_option maxRecDepth 20000 in
theorem inX3 : ∀ w ∈ wsX30, w ∈ lw_tbl := mem_r _ [] (by decide +kernel)
set_option maxRecDepth 20000 in
theorem inX5 : ∀ w ∈ wsX50, w ∈ lw_tbl := mem_r _ [] (by decide +kernel)
set_option maxRecDepth 20000 in
theorem inX0 : ∀ w ∈ wsX00, w ∈ lw_tbl := mem_r _ [] (by decide +kernel)
set_option maxRecDepth 20000 in
theorem inX1 : ∀ w ∈ wsX10, w ∈ lw_tbl := mem_r _ [] (by decide +kernel)
set_option maxRecDepth 20000 in
theorem inX9 : ∀ w ∈ wsX90, w ∈ lw_tbl := mem_r _ [] (by decide +kernel)
theorem wsL_law_in : ∀ w ∈ wsL_law, w ∈ lw_tbl := List.forall_mem_append.mpr ⟨List.forall_mem_append.mpr ⟨List.forall_mem_append.mpr ⟨List.forall_mem_append.mpr ⟨List.forall_mem_append.mpr ⟨List.forall_mem_append.mpr ⟨List.forall_mem_append.mpr ⟨List.forall_mem_append.mpr ⟨List.forall_mem_append.mpr ⟨List.forall_mem_append.mpr ⟨List.forall_mem_append.mpr ⟨List.forall_mem_append.mpr ⟨List.forall_mem_append.mpr ⟨List.forall_mem_append.mpr ⟨inr1, List.forall_mem_append.mpr ⟨inr2, List.forall_mem_append.mpr ⟨inr3, List.forall_mem_append.mpr ⟨inr4, List.forall_mem_append.mpr ⟨inr5, List.forall_mem_append.mpr ⟨inr6, List.forall_mem_append.mpr ⟨inr7, List.forall_mem_append.mpr ⟨inr8, List.forall_mem_append.mpr ⟨inr9, List.forall_mem_append.mpr ⟨inr10, List.forall_mem_append.mpr ⟨inr11, List.forall_mem_append.mpr ⟨inr12, List.forall_mem_append.mpr ⟨inr13, List.forall_mem_append.mpr ⟨inr14, List.forall_mem_append.mpr ⟨inr15, List.forall_mem_append.mpr ⟨inr16, List.forall_mem_append.mpr ⟨inr17, List.forall_mem_append.mpr ⟨inr18, List.forall_mem_append.mpr ⟨inr19, List.forall_mem_append.mpr ⟨inr20, List.forall_mem_append.mpr ⟨inr21, List.forall_mem_append.mpr ⟨inr22, List.forall_mem_append.mpr ⟨inr23, List.forall_mem_append.mpr ⟨inr24, List.forall_mem_append.mpr ⟨inr25, List.forall_mem_append.mpr ⟨inr26, List.forall_mem_append.mpr ⟨inr27, List.forall_mem_append.mpr ⟨inr28, List.forall_mem_append.mpr ⟨inr29, List.forall_mem_append.mpr ⟨inr30, List.forall_mem_append.mpr ⟨inr31, List.forall_mem_append.mpr ⟨inr32, List.forall_mem_append.mpr ⟨inr33, inr34⟩⟩⟩⟩⟩⟩⟩⟩⟩⟩⟩⟩⟩⟩⟩⟩⟩⟩⟩⟩⟩⟩⟩⟩⟩⟩⟩⟩⟩⟩⟩⟩⟩, inX10⟩, inX11⟩, inX4⟩, inX6⟩, inX2⟩, inX8⟩, inX7⟩, inX3⟩, inX5⟩, inX0⟩, inX1⟩, inX9⟩, fun _ h => absurd h List.not_mem_nil⟩
theorem inlX0 : ∀ w ∈ wsX00, w ∈ wsL_law := fun _ h => List.mem_append_left _ (List.mem_append_left _ (List.mem_append_left _ (List.mem_append_right _ h)))
theorem inlX1 : ∀ w ∈ wsX10, w ∈ wsL_law := fun _ h => List.mem_append_left _ (List.mem_append_left _ (List.mem_append_right _ h))
theorem inlX2 : ∀ w ∈ wsX20, w ∈ wsL_law := fun _ h => List.mem_append_left _ (List.mem_append_left _ (List.mem_append_left _ (List.mem_append_left _ (List.mem_append_left _ (List.mem_append_left _ (List.mem_append_left _ (List.mem_append_left _ (List.mem_append_right _ h))))))))
theorem inlX3 : ∀ w ∈ wsX30, w ∈ wsL_law := fun _ h => List.mem_append_left _ (List.mem_append_left _ (List.mem_append_left _ (List.mem_append_left _ (List.mem_append_left _ (List.mem_append_right _ h)))))
theorem inlX4 : ∀ w ∈ wsX40, w ∈ wsL_law := fun _ h => List.mem_append_left _ (List.mem_append_left _ (List.mem_append_left _ (List.mem_append_left _ (List.mem_append_left _ (List.mem_append_left _ (List.mem_append_left _ (List.mem_append_left _ (List.mem_append_left _ (List.mem_append_left _ (List.mem_append_right _ h))))))))))
theorem inlX5 : ∀ w ∈ wsX50, w ∈ wsL_law := fun _ h => List.mem_append_left _ (List.mem_append_left _ (List.mem_append_left _ (List.mem_append_left _ (List.mem_append_right _ h))))
theorem inlX6 : ∀ w ∈ wsX60, w ∈ wsL_law := fun _ h => List.mem_append_left _ (List.mem_append_left _ (List.mem_append_left _ (List.mem_append_left _ (List.mem_append_left _ (List.mem_append_left _ (List.mem_append_left _ (List.mem_append_left _ (List.mem_append_left _ (List.mem_append_right _ h)))))))))
theorem inlX7 : ∀ w ∈ wsX70, w ∈ wsL_law := fun _ h => List.mem_append_left _ (List.mem_append_left _ (List.mem_append_left _ (List.mem_append_left _ (List.mem_append_left _ (List.mem_append_left _ (List.mem_append_right _ h))))))
theorem inlX8 : ∀ w ∈ wsX80, w ∈ wsL_law := fun _ h => List.mem_append_left _ (List.mem_append_left _ (List.mem_append_left _ (List.mem_append_left _ (List.mem_append_left _ (List.mem_append_left _ (List.mem_append_left _ (List.mem_append_right _ h)))))))
theorem inlX9 : ∀ w ∈ wsX90, w ∈ wsL_law := fun _ h => List.mem_append_left _ (List.mem_append_right _ h)
theorem inlX10 : ∀ w ∈ wsX100, w ∈ wsL_law := fun _ h => List.mem_append_left _ (List.mem_append_left _ (List.mem_append_left _ (List.mem_append_left _ (List.mem_append_left _ (List.mem_append_left _ (List.mem_append_left _ (List.mem_append_left _ (List.mem_append_left _ (List.mem_append_left _ (List.mem_append_left _ (List.mem_append_left _ (List.mem_append_right _ h))))))))))))
theorem inlX11 : ∀ w ∈ wsX110, w ∈ wsL_law := fun _ h => List.mem_append_left _ (List.mem_append_left _ (List.mem_append_left _ (List.mem_append_left _ (List.mem_append_left _ (List.mem_append_left _ (List.mem_append_left _ (List.mem_append_left _ (List.mem_append_left _ (List.mem_append_left _ (List.mem_append_left _ (List.mem_append_right _ h)))))))))))
