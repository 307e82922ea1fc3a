/-! THE LAW: its words are the tables' -/
set_option maxRecDepth 20000 in
theorem inL_1 : GoodIn lw_tbl wsL_law_r1 := goodIn_r _ [57, 58, 48, 611, 612, 53, 59, 60, 61, 62, 63, 64, 65, 94, 136, 137, 67, 95, 138, 139, 69, 70, 49, 140] rfl (by decide +kernel)
set_option maxRecDepth 20000 in
theorem inL_2 : GoodIn lw_tbl wsL_law_r2 := goodIn_r _ [96, 97, 50, 141, 142, 131, 104, 51, 143, 144, 147, 149, 123, 72, 73, 74, 75, 78, 80, 98, 99, 100, 101, 102] rfl (by decide +kernel)
set_option maxRecDepth 20000 in
theorem inL_3 : GoodIn lw_tbl wsL_law_r3 := goodIn_r _ [122, 106, 107, 108, 109, 133, 134, 52, 135, 613, 614, 615, 616, 618, 621, 622, 623, 624, 625, 626, 627, 630, 631, 632] rfl (by decide +kernel)
set_option maxRecDepth 20000 in
theorem inL_4 : GoodIn lw_tbl wsL_law_r4 := goodIn_r _ [633, 634, 636, 637, 638, 639, 179, 180, 181, 182, 183, 184, 185, 186, 188, 0, 189, 148, 687, 688, 689, 690, 691, 692] rfl (by decide +kernel)
set_option maxRecDepth 20000 in
theorem inL_5 : GoodIn lw_tbl wsL_law_r5 := goodIn_r _ [693, 694, 695, 696, 697, 698, 700, 19, 701, 617, 190, 191, 192, 193, 145, 194, 196, 1, 197, 198, 200, 2, 201, 702] rfl (by decide +kernel)
set_option maxRecDepth 20000 in
theorem inL_6 : GoodIn lw_tbl wsL_law_r6 := goodIn_r _ [703, 704, 705, 706, 708, 20, 709, 710, 712, 21, 713, 619, 202, 203, 204, 205, 714, 715, 716, 717, 206, 207, 208, 209] rfl (by decide +kernel)
set_option maxRecDepth 20000 in
theorem inL_7 : GoodIn lw_tbl wsL_law_r7 := goodIn_r _ [718, 719, 720, 721, 210, 211, 212, 213, 217, 219, 218, 54, 214, 215, 216, 722, 723, 724, 725, 220, 221, 222, 223, 726] rfl (by decide +kernel)
set_option maxRecDepth 20000 in
theorem inL_8 : GoodIn lw_tbl wsL_law_r8 := goodIn_r _ [727, 728, 729, 224, 225, 226, 227, 228, 229, 230, 231, 232, 233, 730, 731, 732, 733, 734, 735, 736, 737, 234, 235, 236] rfl (by decide +kernel)
set_option maxRecDepth 20000 in
theorem inL_9 : GoodIn lw_tbl wsL_law_r9 := goodIn_r _ [237, 238, 240, 3, 241, 738, 739, 740, 741, 242, 243, 244, 245, 246, 247, 248, 249, 250, 251, 252, 254, 255, 256, 742] rfl (by decide +kernel)
set_option maxRecDepth 20000 in
theorem inL_10 : GoodIn lw_tbl wsL_law_r10 := goodIn_r _ [743, 744, 745, 746, 748, 22, 749, 628, 750, 751, 752, 753, 754, 257, 258, 259, 260, 84, 261, 263, 4, 264, 77, 79] rfl (by decide +kernel)
set_option maxRecDepth 20000 in
theorem inL_11 : GoodIn lw_tbl wsL_law_r11 := goodIn_r _ [81, 110, 265, 266, 267, 268, 124, 269, 270, 271, 755, 756, 757, 758, 629, 635, 272, 273, 274, 275, 276, 278, 5, 279] rfl (by decide +kernel)
set_option maxRecDepth 20000 in
theorem inL_12 : GoodIn lw_tbl wsL_law_r12 := goodIn_r _ [280, 282, 6, 283, 284, 285, 286, 287, 288, 289, 290, 291, 76, 111, 293, 294, 295, 296, 55, 297, 298, 299, 300, 301] rfl (by decide +kernel)
set_option maxRecDepth 20000 in
theorem inL_13 : GoodIn lw_tbl wsL_law_r13 := goodIn_r _ [302, 303, 304, 759, 760, 761, 762, 767, 763, 765, 23, 766, 768, 770, 24, 771, 772, 774, 25, 775, 776, 778, 26, 779] rfl (by decide +kernel)
set_option maxRecDepth 20000 in
theorem inL_14 : GoodIn lw_tbl wsL_law_r14 := goodIn_r _ [780, 782, 27, 783, 784, 786, 28, 787, 788, 789, 790, 791, 793, 29, 794, 306, 307, 308, 309, 310, 311, 312, 313, 314] rfl (by decide +kernel)
set_option maxRecDepth 20000 in
theorem inL_15 : GoodIn lw_tbl wsL_law_r15 := goodIn_r _ [315, 316, 795, 796, 797, 798, 799, 800, 801, 317, 318, 319, 320, 802, 803, 804, 805, 806, 321, 322, 323, 324, 112, 325] rfl (by decide +kernel)
set_option maxRecDepth 20000 in
theorem inL_16 : GoodIn lw_tbl wsL_law_r16 := goodIn_r _ [326, 327, 328, 329, 330, 331, 332, 333, 334, 335, 336, 337, 113, 338, 339, 340, 341, 82, 342, 343, 344, 345, 346, 347] rfl (by decide +kernel)
set_option maxRecDepth 20000 in
theorem inL_17 : GoodIn lw_tbl wsL_law_r17 := goodIn_r _ [348, 807, 808, 809, 810, 811, 813, 30, 814, 815, 817, 31, 818, 349, 350, 351, 352, 114, 353, 354, 355, 356, 357, 358] rfl (by decide +kernel)
set_option maxRecDepth 20000 in
theorem inL_18 : GoodIn lw_tbl wsL_law_r18 := goodIn_r _ [359, 360, 361, 362, 363, 364, 365, 366, 819, 820, 821, 822, 823, 825, 32, 826, 367, 368, 369, 370, 371, 372, 373, 374] rfl (by decide +kernel)
set_option maxRecDepth 20000 in
theorem inL_19 : GoodIn lw_tbl wsL_law_r19 := goodIn_r _ [375, 376, 377, 827, 828, 829, 830, 831, 833, 33, 834, 378, 379, 380, 381, 382, 383, 384, 385, 835, 836, 837, 838, 839] rfl (by decide +kernel)
set_option maxRecDepth 20000 in
theorem inL_20 : GoodIn lw_tbl wsL_law_r20 := goodIn_r _ [841, 34, 842, 386, 387, 388, 389, 843, 844, 845, 846, 390, 391, 392, 393, 847, 848, 849, 850, 394, 395, 396, 397, 398] rfl (by decide +kernel)
set_option maxRecDepth 20000 in
theorem inL_21 : GoodIn lw_tbl wsL_law_r21 := goodIn_r _ [399, 400, 401, 402, 403, 404, 851, 852, 853, 854, 855, 405, 406, 407, 408, 856, 857, 858, 859, 409, 410, 411, 412, 413] rfl (by decide +kernel)
set_option maxRecDepth 20000 in
theorem inL_22 : GoodIn lw_tbl wsL_law_r22 := goodIn_r _ [414, 415, 416, 417, 418, 419, 56, 420, 421, 422, 423, 860, 861, 862, 863, 864, 866, 35, 867, 868, 869, 870, 424, 425] rfl (by decide +kernel)
set_option maxRecDepth 20000 in
theorem inL_23 : GoodIn lw_tbl wsL_law_r23 := goodIn_r _ [426, 427, 428, 871, 872, 873, 874, 875, 876, 878, 36, 879, 880, 882, 37, 883, 884, 886, 38, 887, 429, 430, 431, 432] rfl (by decide +kernel)
set_option maxRecDepth 20000 in
theorem inL_24 : GoodIn lw_tbl wsL_law_r24 := goodIn_r _ [433, 888, 889, 890, 891, 434, 435, 436, 437, 438, 439, 440, 441, 442, 892, 893, 894, 895, 896, 898, 39, 899, 443, 444] rfl (by decide +kernel)
set_option maxRecDepth 20000 in
theorem inL_25 : GoodIn lw_tbl wsL_law_r25 := goodIn_r _ [445, 446, 447, 449, 7, 450, 451, 452, 453, 900, 901, 902, 903, 454, 455, 456, 457, 904, 905, 906, 907, 458, 459, 460] rfl (by decide +kernel)
set_option maxRecDepth 20000 in
theorem inL_26 : GoodIn lw_tbl wsL_law_r26 := goodIn_r _ [461, 462, 464, 8, 465, 908, 909, 910, 911, 466, 467, 468, 469, 470, 472, 9, 473, 474, 476, 10, 477, 912, 913, 914] rfl (by decide +kernel)
set_option maxRecDepth 20000 in
theorem inL_27 : GoodIn lw_tbl wsL_law_r27 := goodIn_r _ [915, 916, 478, 479, 480, 481, 482, 484, 11, 485, 486, 487, 488, 917, 918, 919, 920, 921, 923, 40, 924, 925, 926, 928] rfl (by decide +kernel)
set_option maxRecDepth 20000 in
theorem inL_28 : GoodIn lw_tbl wsL_law_r28 := goodIn_r _ [41, 929, 489, 490, 491, 492, 493, 494, 495, 496, 497, 498, 930, 931, 932, 933, 499, 500, 501, 502, 934, 935, 936, 937] rfl (by decide +kernel)
set_option maxRecDepth 20000 in
theorem inL_29 : GoodIn lw_tbl wsL_law_r29 := goodIn_r _ [503, 504, 505, 506, 507, 508, 509, 510, 511, 512, 513, 514, 515, 516, 938, 939, 940, 941, 942, 944, 42, 945, 946, 948] rfl (by decide +kernel)
set_option maxRecDepth 20000 in
theorem inL_30 : GoodIn lw_tbl wsL_law_r30 := goodIn_r _ [43, 949, 517, 518, 519, 520, 521, 522, 523, 524, 526, 12, 527, 528, 530, 13, 531, 532, 534, 14, 535, 146, 536, 537] rfl (by decide +kernel)
set_option maxRecDepth 20000 in
theorem inL_31 : GoodIn lw_tbl wsL_law_r31 := goodIn_r _ [538, 950, 951, 952, 953, 954, 955, 956, 958, 44, 959, 620, 539, 540, 541, 542, 543, 960, 961, 962, 963, 544, 545, 546] rfl (by decide +kernel)
set_option maxRecDepth 20000 in
theorem inL_32 : GoodIn lw_tbl wsL_law_r32 := goodIn_r _ [547, 548, 549, 550, 551, 553, 15, 554, 964, 965, 966, 967, 968, 969, 970, 971, 972, 555, 556, 557, 558, 973, 974, 975] rfl (by decide +kernel)
set_option maxRecDepth 20000 in
theorem inL_33 : GoodIn lw_tbl wsL_law_r33 := goodIn_r _ [976, 559, 560, 561, 562, 977, 978, 979, 980, 563, 564, 565, 566, 981, 982, 983, 984, 567, 568, 569, 570, 571, 572, 573] rfl (by decide +kernel)
set_option maxRecDepth 20000 in
theorem inL_34 : GoodIn lw_tbl wsL_law_r34 := goodIn_r _ [574, 575, 576, 577, 578, 579, 581, 16, 582, 583, 584, 585, 586, 83, 985, 986, 987, 988, 989, 991, 45, 992, 993, 994] rfl (by decide +kernel)
set_option maxRecDepth 20000 in
theorem inL_35 : GoodIn lw_tbl wsL_law_r35 := goodIn_r _ [995, 996, 998, 46, 999, 588, 589, 590, 591, 1000, 1001, 1002, 1003, 592, 593, 594, 595, 1004, 1005, 1006, 1007, 596, 597, 598] rfl (by decide +kernel)
set_option maxRecDepth 20000 in
theorem inL_36 : GoodIn lw_tbl wsL_law_r36 := goodIn_r _ [599, 600, 601, 602, 603, 605, 17, 606, 607, 609, 18, 610, 1008, 1009, 1010, 1011, 1012, 1013, 1014] rfl (by decide +kernel)
theorem inL_X0 : GoodIn lw_tbl wsX00 := goodIn_sub (by decide +kernel) (by decide +kernel)
theorem inL_X1 : GoodIn lw_tbl wsX10 := goodIn_sub (by decide +kernel) (by decide +kernel)
theorem inL_X2 : GoodIn lw_tbl wsX20 := goodIn_sub (by decide +kernel) (by decide +kernel)
theorem inL_X3 : GoodIn lw_tbl wsX30 := goodIn_sub (by decide +kernel) (by decide +kernel)
theorem inL_X4 : GoodIn lw_tbl wsX40 := goodIn_sub (by decide +kernel) (by decide +kernel)
