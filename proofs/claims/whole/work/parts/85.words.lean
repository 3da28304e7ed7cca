theorem tin {big ws : List Cond} (is : List Nat) (h : is.filterMap (fun i => big[i]?) = ws) : ∀ w ∈ ws, w ∈ big := by
  intro w hw
  rw [← h] at hw
  obtain ⟨i, _, hi⟩ := List.mem_filterMap.mp hw
  exact List.mem_of_getElem? hi
set_option maxRecDepth 20000 in
theorem ti_1 : ∀ w ∈ wsL_law_r1, w ∈ lw_tbl := tin [80, 81, 64, 802, 803, 74, 82, 83, 84, 85, 86, 87, 88, 89, 65, 355, 210, 211, 69, 356, 230, 231, 70, 198] (by decide +kernel)
set_option maxRecDepth 20000 in
theorem ti_2 : ∀ w ∈ wsL_law_r2, w ∈ lw_tbl := tin [357, 300, 301, 72, 358, 315, 316, 73, 359, 360, 361, 362, 91, 92, 93, 94, 95, 66, 197, 139, 140, 67, 199, 201] (by decide +kernel)
set_option maxRecDepth 20000 in
theorem ti_3 : ∀ w ∈ wsL_law_r3, w ∈ lw_tbl := tin [97, 98, 99, 100, 138, 103, 105, 107, 110, 112, 114, 116, 117, 142, 143, 144, 145, 146, 68, 168, 170, 172, 174, 176] (by decide +kernel)
set_option maxRecDepth 20000 in
theorem ti_4 : ∀ w ∈ wsL_law_r4, w ∈ lw_tbl := tin [178, 180, 148, 149, 150, 151, 154, 158, 212, 213, 214, 215, 216, 219, 220, 221, 232, 233, 234, 235, 236, 263, 238, 239] (by decide +kernel)
set_option maxRecDepth 20000 in
theorem ti_5 : ∀ w ∈ wsL_law_r5, w ∈ lw_tbl := tin [71, 264, 266, 267, 268, 269, 270, 271, 273, 275, 262, 241, 242, 243, 261, 244, 245, 246, 247, 248, 303, 304, 305, 306] (by decide +kernel)
set_option maxRecDepth 20000 in
theorem ti_6 : ∀ w ∈ wsL_law_r6, w ∈ lw_tbl := tin [308, 318, 319, 320, 321, 323, 325, 327, 328, 329, 330, 331, 332, 333, 804, 805, 806, 807, 808, 809, 810, 812, 813, 814] (by decide +kernel)
set_option maxRecDepth 20000 in
theorem ti_7 : ∀ w ∈ wsL_law_r7, w ∈ lw_tbl := tin [816, 817, 820, 821, 822, 823, 824, 829, 830, 811, 380, 381, 382, 383, 384, 386, 0, 387, 391, 102, 388, 389, 390, 392] (by decide +kernel)
set_option maxRecDepth 20000 in
theorem ti_8 : ∀ w ∈ wsL_law_r8, w ∈ lw_tbl := tin [394, 1, 395, 396, 397, 398, 399, 428, 429, 76, 430, 400, 402, 2, 403, 404, 405, 406, 407, 408, 409, 410, 411, 412] (by decide +kernel)
set_option maxRecDepth 20000 in
theorem ti_9 : ∀ w ∈ wsL_law_r9, w ∈ lw_tbl := tin [413, 75, 414, 415, 416, 417, 418, 419, 420, 421, 422, 423, 424, 425, 426, 427, 431, 432, 433, 434, 435, 436, 437, 438] (by decide +kernel)
set_option maxRecDepth 20000 in
theorem ti_10 : ∀ w ∈ wsL_law_r10, w ∈ lw_tbl := tin [439, 440, 441, 442, 443, 444, 445, 446, 77, 447, 889, 890, 891, 892, 893, 895, 25, 896, 897, 899, 26, 900, 904, 901] (by decide +kernel)
set_option maxRecDepth 20000 in
theorem ti_11 : ∀ w ∈ wsL_law_r11, w ∈ lw_tbl := tin [902, 903, 905, 907, 27, 908, 885, 887, 24, 888, 909, 911, 28, 912, 449, 450, 451, 452, 453, 455, 3, 456, 457, 458] (by decide +kernel)
set_option maxRecDepth 20000 in
theorem ti_12 : ∀ w ∈ wsL_law_r12, w ∈ lw_tbl := tin [459, 460, 461, 462, 463, 464, 465, 466, 467, 78, 468, 469, 470, 471, 913, 914, 915, 916, 917, 919, 29, 920, 921, 923] (by decide +kernel)
set_option maxRecDepth 20000 in
theorem ti_13 : ∀ w ∈ wsL_law_r13, w ∈ lw_tbl := tin [30, 924, 925, 927, 31, 928, 929, 931, 32, 932, 933, 934, 935, 936, 937, 938, 939, 940, 941, 472, 473, 474, 475, 476] (by decide +kernel)
set_option maxRecDepth 20000 in
theorem ti_14 : ∀ w ∈ wsL_law_r14, w ∈ lw_tbl := tin [478, 4, 479, 480, 481, 482, 483, 484, 485, 486, 487, 488, 942, 943, 944, 945, 946, 948, 33, 949, 489, 490, 491, 492] (by decide +kernel)
set_option maxRecDepth 20000 in
theorem ti_15 : ∀ w ∈ wsL_law_r15, w ∈ lw_tbl := tin [202, 493, 494, 495, 496, 497, 498, 499, 500, 950, 951, 952, 953, 501, 502, 503, 504, 104, 106, 109, 111, 113, 115, 118] (by decide +kernel)
set_option maxRecDepth 20000 in
theorem ti_16 : ∀ w ∈ wsL_law_r16, w ∈ lw_tbl := tin [505, 954, 955, 956, 957, 958, 960, 34, 961, 506, 507, 508, 509, 962, 963, 964, 965, 510, 511, 512, 513, 514, 515, 516] (by decide +kernel)
set_option maxRecDepth 20000 in
theorem ti_17 : ∀ w ∈ wsL_law_r17, w ∈ lw_tbl := tin [517, 518, 519, 520, 521, 966, 967, 968, 969, 970, 972, 35, 973, 522, 523, 524, 525, 526, 527, 528, 529, 101, 530, 531] (by decide +kernel)
set_option maxRecDepth 20000 in
theorem ti_18 : ∀ w ∈ wsL_law_r18, w ∈ lw_tbl := tin [533, 5, 534, 535, 536, 537, 538, 539, 974, 975, 976, 977, 978, 980, 36, 981, 982, 984, 37, 985, 986, 988, 38, 989] (by decide +kernel)
set_option maxRecDepth 20000 in
theorem ti_19 : ∀ w ∈ wsL_law_r19, w ∈ lw_tbl := tin [990, 992, 39, 993, 540, 541, 542, 543, 274, 544, 546, 6, 547, 548, 549, 550, 551, 552, 553, 554, 555, 556, 557, 558] (by decide +kernel)
set_option maxRecDepth 20000 in
theorem ti_20 : ∀ w ∈ wsL_law_r20, w ∈ lw_tbl := tin [559, 560, 561, 562, 152, 156, 159, 563, 565, 7, 566, 567, 568, 569, 570, 155, 583, 584, 571, 572, 573, 574, 575, 576] (by decide +kernel)
set_option maxRecDepth 20000 in
theorem ti_21 : ∀ w ∈ wsL_law_r21, w ∈ lw_tbl := tin [577, 578, 579, 580, 581, 582, 585, 586, 587, 588, 589, 590, 591, 592, 593, 79, 594, 595, 596, 597, 598, 599, 600, 601] (by decide +kernel)
set_option maxRecDepth 20000 in
theorem ti_22 : ∀ w ∈ wsL_law_r22, w ∈ lw_tbl := tin [602, 603, 604, 605, 606, 607, 608, 610, 8, 611, 612, 613, 614, 616, 9, 617, 618, 619, 621, 10, 622, 623, 625, 11] (by decide +kernel)
set_option maxRecDepth 20000 in
theorem ti_23 : ∀ w ∈ wsL_law_r23, w ∈ lw_tbl := tin [626, 627, 628, 629, 630, 631, 632, 633, 634, 635, 637, 12, 638, 276, 994, 995, 996, 997, 998, 1000, 40, 1001, 819, 818] (by decide +kernel)
set_option maxRecDepth 20000 in
theorem ti_24 : ∀ w ∈ wsL_law_r24, w ∈ lw_tbl := tin [1002, 1004, 41, 1005, 1006, 1008, 42, 1009, 1010, 1012, 43, 1013, 1014, 1016, 44, 1017, 815, 1018, 1020, 45, 1021, 1022, 1024, 46] (by decide +kernel)
set_option maxRecDepth 20000 in
theorem ti_25 : ∀ w ∈ wsL_law_r25, w ∈ lw_tbl := tin [1025, 639, 640, 641, 642, 272, 1026, 1027, 1028, 1029, 643, 644, 645, 646, 265, 249, 1030, 1031, 1032, 1033, 1034, 1036, 47, 1037] (by decide +kernel)
set_option maxRecDepth 20000 in
theorem ti_26 : ∀ w ∈ wsL_law_r26, w ∈ lw_tbl := tin [647, 648, 649, 650, 200, 651, 653, 13, 654, 173, 655, 656, 657, 658, 659, 660, 661, 662, 663, 664, 665, 666, 668, 14] (by decide +kernel)
set_option maxRecDepth 20000 in
theorem ti_27 : ∀ w ∈ wsL_law_r27, w ∈ lw_tbl := tin [669, 670, 671, 672, 1038, 1039, 1040, 1041, 1042, 1044, 48, 1045, 1046, 1048, 49, 1049, 1050, 1052, 50, 1053, 673, 674, 675, 676] (by decide +kernel)
set_option maxRecDepth 20000 in
theorem ti_28 : ∀ w ∈ wsL_law_r28, w ∈ lw_tbl := tin [677, 678, 679, 680, 681, 1054, 1055, 1056, 1057, 1058, 1060, 51, 1061, 682, 683, 684, 685, 169, 153, 157, 160, 686, 687, 688] (by decide +kernel)
set_option maxRecDepth 20000 in
theorem ti_29 : ∀ w ∈ wsL_law_r29, w ∈ lw_tbl := tin [689, 108, 690, 691, 692, 1062, 1063, 1064, 1065, 1066, 1068, 52, 1069, 1070, 1072, 53, 1073, 693, 694, 695, 696, 171, 175, 697] (by decide +kernel)
set_option maxRecDepth 20000 in
theorem ti_30 : ∀ w ∈ wsL_law_r30, w ∈ lw_tbl := tin [698, 699, 700, 701, 702, 703, 704, 1074, 1075, 1076, 1077, 1078, 1080, 54, 1081, 705, 706, 707, 708, 177, 179, 181, 1082, 1083] (by decide +kernel)
set_option maxRecDepth 20000 in
theorem ti_31 : ∀ w ∈ wsL_law_r31, w ∈ lw_tbl := tin [1084, 1085, 709, 710, 711, 712, 309, 713, 714, 715, 716, 717, 1086, 1087, 1088, 1089, 825, 718, 719, 720, 721, 1090, 1091, 1092] (by decide +kernel)
set_option maxRecDepth 20000 in
theorem ti_32 : ∀ w ∈ wsL_law_r32, w ∈ lw_tbl := tin [1093, 722, 723, 724, 725, 726, 728, 15, 729, 307, 730, 731, 732, 733, 734, 735, 736, 737, 738, 740, 16, 741, 742, 743] (by decide +kernel)
set_option maxRecDepth 20000 in
theorem ti_33 : ∀ w ∈ wsL_law_r33, w ∈ lw_tbl := tin [744, 745, 747, 17, 748, 749, 751, 18, 752, 753, 755, 19, 756, 757, 758, 760, 20, 761, 762, 764, 21, 765, 766, 767] (by decide +kernel)
set_option maxRecDepth 20000 in
theorem ti_34 : ∀ w ∈ wsL_law_r34, w ∈ lw_tbl := tin [768, 769, 770, 772, 22, 773, 326, 774, 776, 23, 777, 324, 322, 1094, 1095, 1096, 1097, 826, 827, 828, 1098, 1100, 55, 1101] (by decide +kernel)
set_option maxRecDepth 20000 in
theorem ti_35 : ∀ w ∈ wsL_law_r35, w ∈ lw_tbl := tin [1102, 1104, 56, 1105, 1106, 1108, 57, 1109, 1110, 1111, 1112, 1113, 1115, 58, 1116, 1117, 1119, 59, 1120, 1121, 1123, 60, 1124, 778] (by decide +kernel)
set_option maxRecDepth 20000 in
theorem ti_36 : ∀ w ∈ wsL_law_r36, w ∈ lw_tbl := tin [779, 780, 781, 222, 782, 783, 784, 785, 881, 882, 883, 884, 786, 787, 788, 789, 1125, 1126, 1127, 1128, 1129, 1131, 61, 1132] (by decide +kernel)
set_option maxRecDepth 20000 in
theorem ti_37 : ∀ w ∈ wsL_law_r37, w ∈ lw_tbl := tin [790, 791, 792, 793, 794, 795, 796, 797, 798, 799, 800, 801, 1133, 1134, 1135, 1136, 1137, 831, 1138, 1140, 62, 1141, 1142, 1143] (by decide +kernel)
set_option maxRecDepth 20000 in
theorem tu_X11 : ∀ w ∈ wsX110, w ∈ lw_tbl := tin [363, 365, 367, 369, 371, 373, 375, 377] (by decide +kernel)
set_option maxRecDepth 20000 in
theorem tu_X12 : ∀ w ∈ wsX120, w ∈ lw_tbl := tin [832, 834, 836, 838, 840, 842, 844, 846, 848, 850, 852, 854, 856, 858, 860, 862, 864, 866, 868, 870, 872, 874, 876, 878] (by decide +kernel)
set_option maxRecDepth 20000 in
theorem tu_X9 : ∀ w ∈ wsX90, w ∈ lw_tbl := tin [203, 205, 207] (by decide +kernel)
set_option maxRecDepth 20000 in
theorem tu_X3 : ∀ w ∈ wsX30, w ∈ lw_tbl := tin [223, 225, 227] (by decide +kernel)
set_option maxRecDepth 20000 in
theorem tu_X6 : ∀ w ∈ wsX60, w ∈ lw_tbl := tin [277, 279, 281, 283, 285, 287, 289, 291, 293, 295, 297] (by decide +kernel)
set_option maxRecDepth 20000 in
theorem tu_X10 : ∀ w ∈ wsX100, w ∈ lw_tbl := tin [310, 312] (by decide +kernel)
set_option maxRecDepth 20000 in
theorem tu_X4 : ∀ w ∈ wsX40, w ∈ lw_tbl := tin [334, 336, 338, 340, 342, 344, 346, 348, 350, 352] (by decide +kernel)
set_option maxRecDepth 20000 in
theorem tu_X0 : ∀ w ∈ wsX00, w ∈ lw_tbl := tin [119, 121, 123, 125, 127, 129, 131, 133, 135] (by decide +kernel)
set_option maxRecDepth 20000 in
theorem tu_X2 : ∀ w ∈ wsX20, w ∈ lw_tbl := tin [182, 184, 186, 188, 190, 192, 194] (by decide +kernel)
set_option maxRecDepth 20000 in
theorem tu_X7 : ∀ w ∈ wsX70, w ∈ lw_tbl := tin [161, 163, 165] (by decide +kernel)
set_option maxRecDepth 20000 in
theorem tu_X8 : ∀ w ∈ wsX80, w ∈ lw_tbl := tin [250, 252, 254, 256, 258] (by decide +kernel)
theorem wsT : ∀ w ∈ wsL_law, w ∈ lw_tbl := (List.forall_mem_append.mpr ⟨(List.forall_mem_append.mpr ⟨(List.forall_mem_append.mpr ⟨(List.forall_mem_append.mpr ⟨(List.forall_mem_append.mpr ⟨(List.forall_mem_append.mpr ⟨(List.forall_mem_append.mpr ⟨(List.forall_mem_append.mpr ⟨(List.forall_mem_append.mpr ⟨(List.forall_mem_append.mpr ⟨(List.forall_mem_append.mpr ⟨(List.forall_mem_append.mpr ⟨(List.forall_mem_append.mpr ⟨ti_1, (List.forall_mem_append.mpr ⟨ti_2, (List.forall_mem_append.mpr ⟨ti_3, (List.forall_mem_append.mpr ⟨ti_4, (List.forall_mem_append.mpr ⟨ti_5, (List.forall_mem_append.mpr ⟨ti_6, (List.forall_mem_append.mpr ⟨ti_7, (List.forall_mem_append.mpr ⟨ti_8, (List.forall_mem_append.mpr ⟨ti_9, (List.forall_mem_append.mpr ⟨ti_10, (List.forall_mem_append.mpr ⟨ti_11, (List.forall_mem_append.mpr ⟨ti_12, (List.forall_mem_append.mpr ⟨ti_13, (List.forall_mem_append.mpr ⟨ti_14, (List.forall_mem_append.mpr ⟨ti_15, (List.forall_mem_append.mpr ⟨ti_16, (List.forall_mem_append.mpr ⟨ti_17, (List.forall_mem_append.mpr ⟨ti_18, (List.forall_mem_append.mpr ⟨ti_19, (List.forall_mem_append.mpr ⟨ti_20, (List.forall_mem_append.mpr ⟨ti_21, (List.forall_mem_append.mpr ⟨ti_22, (List.forall_mem_append.mpr ⟨ti_23, (List.forall_mem_append.mpr ⟨ti_24, (List.forall_mem_append.mpr ⟨ti_25, (List.forall_mem_append.mpr ⟨ti_26, (List.forall_mem_append.mpr ⟨ti_27, (List.forall_mem_append.mpr ⟨ti_28, (List.forall_mem_append.mpr ⟨ti_29, (List.forall_mem_append.mpr ⟨ti_30, (List.forall_mem_append.mpr ⟨ti_31, (List.forall_mem_append.mpr ⟨ti_32, (List.forall_mem_append.mpr ⟨ti_33, (List.forall_mem_append.mpr ⟨ti_34, (List.forall_mem_append.mpr ⟨ti_35, (List.forall_mem_append.mpr ⟨ti_36, ti_37⟩)⟩)⟩)⟩)⟩)⟩)⟩)⟩)⟩)⟩)⟩)⟩)⟩)⟩)⟩)⟩)⟩)⟩)⟩)⟩)⟩)⟩)⟩)⟩)⟩)⟩)⟩)⟩)⟩)⟩)⟩)⟩)⟩)⟩)⟩)⟩), tu_X11⟩), tu_X12⟩), tu_X9⟩), tu_X3⟩), tu_X6⟩), tu_X10⟩), tu_X4⟩), tu_X0⟩), tu_X2⟩), tu_X7⟩), tu_X8⟩), (fun _ h => absurd h List.not_mem_nil)⟩)
