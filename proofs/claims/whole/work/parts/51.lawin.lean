set_option maxRecDepth 100000 in
theorem lin_1 : GoodIn lw_tbl wsL_law0_r1 := goodIn_r _ [54, 55, 38, 773, 774, 44, 1066, 56, 57, 58, 59, 60, 61, 62, 63, 39, 155, 121, 122, 42, 156, 141, 142, 43] (by decide +kernel) (by decide +kernel)
set_option maxRecDepth 100000 in
theorem lin_2 : GoodIn lw_tbl wsL_law0_r2 := goodIn_r _ [157, 65, 66, 67, 68, 69, 40, 97, 82, 83, 41, 99, 81, 101, 70, 71, 72, 73, 74, 75, 85, 86, 87, 88] (by decide +kernel) (by decide +kernel)
set_option maxRecDepth 100000 in
theorem lin_3 : GoodIn lw_tbl wsL_law0_r3 := goodIn_r _ [123, 124, 125, 126, 127, 130, 144, 145, 146, 147, 775, 776, 777, 778, 779, 780, 781, 783, 788, 477, 478, 37, 479, 480] (by decide +kernel) (by decide +kernel)
set_option maxRecDepth 100000 in
theorem lin_4 : GoodIn lw_tbl wsL_law0_r4 := goodIn_r _ [481, 482, 483, 484, 485, 490, 50, 100, 400, 401, 402, 258, 48, 357, 358, 359, 413, 414, 415, 416, 422, 423, 49, 417] (by decide +kernel) (by decide +kernel)
set_option maxRecDepth 100000 in
theorem lin_5 : GoodIn lw_tbl wsL_law0_r5 := goodIn_r _ [418, 419, 420, 391, 392, 393, 394, 208, 209, 210, 211, 421, 243, 244, 245, 424, 425, 426, 427, 428, 431, 434, 444, 446] (by decide +kernel) (by decide +kernel)
set_option maxRecDepth 100000 in
theorem lin_6 : GoodIn lw_tbl wsL_law0_r6 := goodIn_r _ [7, 447, 448, 449, 450, 451, 190, 191, 242, 486, 487, 488, 489, 89, 456, 457, 458, 459, 506, 507, 508, 509, 132, 131] (by decide +kernel) (by decide +kernel)
set_option maxRecDepth 100000 in
theorem lin_7 : GoodIn lw_tbl wsL_law0_r7 := goodIn_r _ [510, 512, 10, 513, 514, 515, 516, 517, 103, 104, 106, 518, 519, 520, 521, 523, 524, 330, 525, 526, 527, 528, 529, 530] (by decide +kernel) (by decide +kernel)
set_option maxRecDepth 100000 in
theorem lin_8 : GoodIn lw_tbl wsL_law0_r8 := goodIn_r _ [531, 534, 535, 536, 537, 538, 539, 540, 541, 542, 544, 11, 545, 547, 548, 549, 550, 429, 432, 435, 551, 553, 12, 554] (by decide +kernel) (by decide +kernel)
set_option maxRecDepth 100000 in
theorem lin_9 : GoodIn lw_tbl wsL_law0_r9 := goodIn_r _ [233, 234, 235, 236, 237, 238, 239, 240, 241, 555, 556, 557, 558, 840, 841, 842, 843, 785, 844, 845, 846, 847, 848, 849] (by decide +kernel) (by decide +kernel)
set_option maxRecDepth 100000 in
theorem lin_10 : GoodIn lw_tbl wsL_law0_r10 := goodIn_r _ [833, 835, 14, 836, 850, 852, 15, 853, 854, 856, 16, 857, 790, 792, 793, 791, 858, 859, 860, 861, 862, 863, 864, 865] (by decide +kernel) (by decide +kernel)
set_option maxRecDepth 100000 in
theorem lin_11 : GoodIn lw_tbl wsL_law0_r11 := goodIn_r _ [866, 867, 868, 869, 870, 872, 17, 873, 874, 875, 876, 877, 878, 879, 880, 882, 18, 883, 782, 837, 838, 839, 884, 886] (by decide +kernel) (by decide +kernel)
set_option maxRecDepth 100000 in
theorem lin_12 : GoodIn lw_tbl wsL_law0_r12 := goodIn_r _ [19, 887, 888, 890, 20, 891, 892, 893, 894, 825, 826, 827, 828, 560, 561, 562, 563, 564, 565, 566, 567, 568, 570, 13] (by decide +kernel) (by decide +kernel)
set_option maxRecDepth 100000 in
theorem lin_13 : GoodIn lw_tbl wsL_law0_r13 := goodIn_r _ [571, 360, 51, 572, 573, 574, 575, 348, 226, 227, 228, 229, 231, 1, 232, 246, 248, 2, 249, 251, 252, 52, 253, 577] (by decide +kernel) (by decide +kernel)
set_option maxRecDepth 100000 in
theorem lin_14 : GoodIn lw_tbl wsL_law0_r14 := goodIn_r _ [578, 579, 580, 581, 582, 583, 584, 895, 896, 897, 898, 899, 900, 901, 902, 903, 904, 905, 906, 907, 908, 909, 910, 911] (by decide +kernel) (by decide +kernel)
set_option maxRecDepth 100000 in
theorem lin_15 : GoodIn lw_tbl wsL_law0_r15 := goodIn_r _ [912, 913, 585, 586, 587, 588, 589, 590, 591, 600, 593, 594, 595, 596, 597, 336, 337, 338, 598, 341, 342, 343, 601, 602] (by decide +kernel) (by decide +kernel)
set_option maxRecDepth 100000 in
theorem lin_16 : GoodIn lw_tbl wsL_law0_r16 := goodIn_r _ [603, 604, 605, 914, 915, 916, 917, 918, 920, 21, 921, 606, 607, 608, 609, 610, 611, 612, 105, 614, 615, 616, 617, 618] (by decide +kernel) (by decide +kernel)
set_option maxRecDepth 100000 in
theorem lin_17 : GoodIn lw_tbl wsL_law0_r17 := goodIn_r _ [922, 923, 924, 925, 926, 928, 22, 929, 620, 621, 622, 623, 624, 625, 626, 98, 627, 628, 629, 632, 633, 634, 635, 636] (by decide +kernel) (by decide +kernel)
set_option maxRecDepth 100000 in
theorem lin_18 : GoodIn lw_tbl wsL_law0_r18 := goodIn_r _ [335, 638, 639, 640, 641, 930, 931, 932, 933, 934, 936, 23, 937, 938, 940, 24, 941, 642, 643, 644, 645, 646, 647, 648] (by decide +kernel) (by decide +kernel)
set_option maxRecDepth 100000 in
theorem lin_19 : GoodIn lw_tbl wsL_law0_r19 := goodIn_r _ [102, 649, 650, 651, 653, 654, 655, 942, 943, 944, 945, 657, 658, 659, 660, 661, 662, 663, 149, 665, 666, 667, 668, 148] (by decide +kernel) (by decide +kernel)
set_option maxRecDepth 100000 in
theorem lin_20 : GoodIn lw_tbl wsL_law0_r20 := goodIn_r _ [670, 671, 672, 673, 946, 947, 948, 949, 784, 165, 166, 167, 168, 169, 170, 171, 172, 950, 951, 952, 953, 173, 174, 175] (by decide +kernel) (by decide +kernel)
set_option maxRecDepth 100000 in
theorem lin_21 : GoodIn lw_tbl wsL_law0_r21 := goodIn_r _ [176, 177, 178, 179, 180, 181, 183, 0, 184, 185, 186, 187, 188, 954, 955, 956, 957, 787, 786, 958, 960, 25, 961, 789] (by decide +kernel) (by decide +kernel)
set_option maxRecDepth 100000 in
theorem lin_22 : GoodIn lw_tbl wsL_law0_r22 := goodIn_r _ [962, 964, 26, 965, 966, 968, 27, 969, 970, 972, 28, 973, 675, 676, 677, 678, 679, 680, 681, 682, 683, 684, 685, 686] (by decide +kernel) (by decide +kernel)
set_option maxRecDepth 100000 in
theorem lin_23 : GoodIn lw_tbl wsL_law0_r23 := goodIn_r _ [688, 689, 690, 691, 692, 693, 694, 695, 696, 697, 698, 699, 700, 701, 702, 703, 704, 705, 706, 974, 975, 976, 977, 707] (by decide +kernel) (by decide +kernel)
set_option maxRecDepth 100000 in
theorem lin_24 : GoodIn lw_tbl wsL_law0_r24 := goodIn_r _ [708, 709, 710, 711, 712, 713, 133, 715, 716, 717, 718, 829, 830, 831, 832, 719, 720, 721, 722, 723, 724, 725, 340, 978] (by decide +kernel) (by decide +kernel)
set_option maxRecDepth 100000 in
theorem lin_25 : GoodIn lw_tbl wsL_law0_r25 := goodIn_r _ [979, 980, 981, 727, 728, 729, 730, 731, 732, 733, 90, 982, 983, 984, 985, 986, 988, 29, 989, 735, 736, 737, 738, 218] (by decide +kernel) (by decide +kernel)
set_option maxRecDepth 100000 in
theorem lin_26 : GoodIn lw_tbl wsL_law0_r26 := goodIn_r _ [219, 220, 107, 221, 222, 223, 224, 91, 225, 254, 255, 256, 257, 196, 197, 198, 199, 990, 991, 992, 993, 994, 996, 30] (by decide +kernel) (by decide +kernel)
set_option maxRecDepth 100000 in
theorem lin_27 : GoodIn lw_tbl wsL_law0_r27 := goodIn_r _ [997, 998, 1000, 31, 1001, 739, 740, 741, 742, 354, 355, 356, 377, 205, 206, 207, 378, 379, 380, 381, 1002, 1003, 1004, 1005] (by decide +kernel) (by decide +kernel)
set_option maxRecDepth 100000 in
theorem lin_28 : GoodIn lw_tbl wsL_law0_r28 := goodIn_r _ [1006, 1008, 32, 1009, 743, 744, 745, 746, 747, 748, 749, 1010, 1011, 1012, 1013, 750, 751, 752, 753, 754, 755, 756, 1014, 1015] (by decide +kernel) (by decide +kernel)
set_option maxRecDepth 100000 in
theorem lin_29 : GoodIn lw_tbl wsL_law0_r29 := goodIn_r _ [1016, 1017, 757, 758, 759, 760, 761, 762, 763, 452, 454, 8, 455, 436, 430, 433, 460, 461, 462, 463, 464, 1018, 1019, 1020] (by decide +kernel) (by decide +kernel)
set_option maxRecDepth 100000 in
theorem lin_30 : GoodIn lw_tbl wsL_law0_r30 := goodIn_r _ [1021, 1022, 1024, 33, 1025, 765, 766, 767, 768, 397, 398, 399, 387, 388, 389, 390, 395, 404, 405, 406, 407, 408, 409, 410] (by decide +kernel) (by decide +kernel)
set_option maxRecDepth 100000 in
theorem lin_31 : GoodIn lw_tbl wsL_law0_r31 := goodIn_r _ [411, 412, 204, 1026, 1027, 1028, 1029, 1030, 1032, 34, 1033, 769, 770, 771, 772, 383, 384, 385, 1034, 1035, 1036, 1037, 1038, 1040] (by decide +kernel) (by decide +kernel)
set_option maxRecDepth 100000 in
theorem lin_32 : GoodIn lw_tbl wsL_law0_r32 := goodIn_r _ [35, 1041, 192, 193, 194, 195, 200, 201, 202, 203, 1042, 1043, 1044, 1045, 1046, 1048, 36, 1049, 212, 213, 214, 215, 216, 217] (by decide +kernel) (by decide +kernel)
set_option maxRecDepth 100000 in
theorem lin_33 : GoodIn lw_tbl wsL_law0_r33 := goodIn_r _ [326, 327, 328, 329, 331, 333, 4, 334, 344, 346, 5, 347, 349, 351, 6, 352, 353, 382, 396, 465, 466, 467, 468, 469] (by decide +kernel) (by decide +kernel)
set_option maxRecDepth 100000 in
theorem lin_34 : GoodIn lw_tbl wsL_law0_r34 := goodIn_r _ [470, 471, 472, 474, 9, 475, 476, 1050, 1051, 1052, 1053, 1054, 1055, 1056, 1057, 53, 1058, 1062, 1064, 1063, 53, 1065, 1059, 1060] (by decide +kernel) (by decide +kernel)
set_option maxRecDepth 100000 in
theorem lin_35 : GoodIn lw_tbl wsL_law0_r35 := goodIn_r _ [1061] (by decide +kernel) (by decide +kernel)
set_option maxRecDepth 100000 in
theorem linC_X6 : GoodIn lw_tbl wsX60 := goodIn_r _ [158, 160, 162] (by decide +kernel) (by decide +kernel)
set_option maxRecDepth 100000 in
theorem linC_X7 : GoodIn lw_tbl wsX70 := goodIn_r _ [794, 796, 798, 800, 802, 804, 806, 808, 810, 812, 814, 816, 818, 820, 822] (by decide +kernel) (by decide +kernel)
set_option maxRecDepth 100000 in
theorem linC_X5 : GoodIn lw_tbl wsX50 := goodIn_r _ [108, 110, 112, 114, 116, 118] (by decide +kernel) (by decide +kernel)
set_option maxRecDepth 100000 in
theorem linC_X1 : GoodIn lw_tbl wsX10 := goodIn_r _ [134, 136, 138] (by decide +kernel) (by decide +kernel)
set_option maxRecDepth 100000 in
theorem linC_X4 : GoodIn lw_tbl wsX40 := goodIn_r _ [150, 152] (by decide +kernel) (by decide +kernel)
set_option maxRecDepth 100000 in
theorem linC_X0 : GoodIn lw_tbl wsX00 := goodIn_r _ [76, 78] (by decide +kernel) (by decide +kernel)
set_option maxRecDepth 100000 in
theorem linC_X3 : GoodIn lw_tbl wsX30 := goodIn_r _ [92, 94] (by decide +kernel) (by decide +kernel)
set_option maxRecDepth 100000 in
theorem linC_X2 : GoodIn lw_tbl wsX20 := goodIn_r _ [437, 439, 441] (by decide +kernel) (by decide +kernel)
set_option maxRecDepth 100000 in
theorem lin_all : GoodIn lw_tbl wsL_law0 := by
  unfold wsL_law0
  exact (goodIn_app (goodIn_app (goodIn_app (goodIn_app (goodIn_app (goodIn_app (goodIn_app (goodIn_app (goodIn_app (goodIn_app lin_1 (goodIn_app lin_2 (goodIn_app lin_3 (goodIn_app lin_4 (goodIn_app lin_5 (goodIn_app lin_6 (goodIn_app lin_7 (goodIn_app lin_8 (goodIn_app lin_9 (goodIn_app lin_10 (goodIn_app lin_11 (goodIn_app lin_12 (goodIn_app lin_13 (goodIn_app lin_14 (goodIn_app lin_15 (goodIn_app lin_16 (goodIn_app lin_17 (goodIn_app lin_18 (goodIn_app lin_19 (goodIn_app lin_20 (goodIn_app lin_21 (goodIn_app lin_22 (goodIn_app lin_23 (goodIn_app lin_24 (goodIn_app lin_25 (goodIn_app lin_26 (goodIn_app lin_27 (goodIn_app lin_28 (goodIn_app lin_29 (goodIn_app lin_30 (goodIn_app lin_31 (goodIn_app lin_32 (goodIn_app lin_33 (goodIn_app lin_34 lin_35)))))))))))))))))))))))))))))))))) linC_X6) linC_X7) linC_X5) linC_X1) linC_X4) linC_X0) linC_X3) linC_X2) (fun w h => absurd h List.not_mem_nil))
theorem wsL_law_in0 : ∀ w ∈ wsL_law0, w ∈ lw_tbl := fun w h => (lin_all w h).1
theorem wsL_law_x0 : ∀ w ∈ (vx_atS RX6 57 "java/lang/IllegalStateException" ["java/lang/RuntimeException", "java/lang/Exception"]).filter goodWord, w ∈ lw_tbl := by decide +kernel
theorem wsL_law_x1 : ∀ w ∈ (vx_atS RX6 120 "java/lang/IllegalArgumentException" ["java/lang/RuntimeException", "java/lang/Exception"]).filter goodWord, w ∈ lw_tbl := by decide +kernel
theorem wsL_law_x2 : ∀ w ∈ (vx_atS RX6 88 "java/lang/IndexOutOfBoundsException" ["java/lang/RuntimeException", "java/lang/Exception"]).filter goodWord, w ∈ lw_tbl := by decide +kernel
theorem wsL_law_in : ∀ w ∈ wsL_law, w ∈ lw_tbl := fun w h => (List.mem_append.mp h).elim (fun h => (List.mem_append.mp h).elim (fun h => (List.mem_append.mp h).elim (fun h => wsL_law_in0 w h) (fun h => wsL_law_x0 w h)) (fun h => wsL_law_x1 w h)) (fun h => wsL_law_x2 w h)
theorem inlX0 : ∀ w ∈ wsX00, w ∈ wsL_law := fun _ h => List.mem_append_left _ (List.mem_append_left _ (List.mem_append_left _ (List.mem_append_left _ (List.mem_append_left _ (List.mem_append_left _ (List.mem_append_right _ h))))))
theorem inX0 : ∀ w ∈ wsX00, w ∈ lw_tbl := fun w h => wsL_law_in w (inlX0 w h)
theorem inlX1 : ∀ w ∈ wsX10, w ∈ wsL_law := fun _ h => List.mem_append_left _ (List.mem_append_left _ (List.mem_append_left _ (List.mem_append_left _ (List.mem_append_left _ (List.mem_append_left _ (List.mem_append_left _ (List.mem_append_left _ (List.mem_append_right _ h))))))))
theorem inX1 : ∀ w ∈ wsX10, w ∈ lw_tbl := fun w h => wsL_law_in w (inlX1 w h)
theorem inlX2 : ∀ w ∈ wsX20, w ∈ wsL_law := fun _ h => List.mem_append_left _ (List.mem_append_left _ (List.mem_append_left _ (List.mem_append_left _ (List.mem_append_right _ h))))
theorem inX2 : ∀ w ∈ wsX20, w ∈ lw_tbl := fun w h => wsL_law_in w (inlX2 w h)
theorem inlX3 : ∀ w ∈ wsX30, w ∈ wsL_law := fun _ h => List.mem_append_left _ (List.mem_append_left _ (List.mem_append_left _ (List.mem_append_left _ (List.mem_append_left _ (List.mem_append_right _ h)))))
theorem inX3 : ∀ w ∈ wsX30, w ∈ lw_tbl := fun w h => wsL_law_in w (inlX3 w h)
theorem inlX4 : ∀ w ∈ wsX40, w ∈ wsL_law := fun _ h => List.mem_append_left _ (List.mem_append_left _ (List.mem_append_left _ (List.mem_append_left _ (List.mem_append_left _ (List.mem_append_left _ (List.mem_append_left _ (List.mem_append_right _ h)))))))
theorem inX4 : ∀ w ∈ wsX40, w ∈ lw_tbl := fun w h => wsL_law_in w (inlX4 w h)
theorem inlX5 : ∀ w ∈ wsX50, w ∈ wsL_law := fun _ h => List.mem_append_left _ (List.mem_append_left _ (List.mem_append_left _ (List.mem_append_left _ (List.mem_append_left _ (List.mem_append_left _ (List.mem_append_left _ (List.mem_append_left _ (List.mem_append_left _ (List.mem_append_right _ h)))))))))
theorem inX5 : ∀ w ∈ wsX50, w ∈ lw_tbl := fun w h => wsL_law_in w (inlX5 w h)
theorem inlX6 : ∀ w ∈ wsX60, w ∈ wsL_law := fun _ h => List.mem_append_left _ (List.mem_append_left _ (List.mem_append_left _ (List.mem_append_left _ (List.mem_append_left _ (List.mem_append_left _ (List.mem_append_left _ (List.mem_append_left _ (List.mem_append_left _ (List.mem_append_left _ (List.mem_append_left _ (List.mem_append_right _ h)))))))))))
theorem inX6 : ∀ w ∈ wsX60, w ∈ lw_tbl := fun w h => wsL_law_in w (inlX6 w h)
theorem inlX7 : ∀ w ∈ wsX70, w ∈ wsL_law := fun _ h => List.mem_append_left _ (List.mem_append_left _ (List.mem_append_left _ (List.mem_append_left _ (List.mem_append_left _ (List.mem_append_left _ (List.mem_append_left _ (List.mem_append_left _ (List.mem_append_left _ (List.mem_append_left _ (List.mem_append_right _ h))))))))))
theorem inX7 : ∀ w ∈ wsX70, w ∈ lw_tbl := fun w h => wsL_law_in w (inlX7 w h)
theorem inJxe99ae : ∀ w ∈ wsJxe99ae0, w ∈ lw_tbl := by decide +kernel
theorem inJ9 : ∀ w ∈ wsJ90, w ∈ lw_tbl := by decide +kernel
theorem inJ0 : ∀ w ∈ wsJ00, w ∈ lw_tbl := by decide +kernel
