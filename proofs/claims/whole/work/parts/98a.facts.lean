/-! The start: where the words stand that it needs. Printed by wip/gen/run98.py. -/
def NL : List Cond := flatC (Jvm.Cond.and given_1 narrow_1)
def tmS (i : Nat) : Term := .string (tOw.getD i ("", 0, "")).1 (tOw.getD i ("", 0, "")).2.1
def tmK (i : Nat) : Term := .static "PlainPages$Kind" (kNm.getD i "") "LPlainPages$Kind;"
def tmV (i : Nat) : Term := .field (tmS i) "java/lang/String" "value" "[B"
def pEx : List Nat := [486, 528, 534, 543, 551, 559, 569, 579, 601, 620, 627, 635, 644, 651, 658, 667, 676, 701, 709, 715, 721, 731, 740, 749, 760, 766, 771, 776, 782, 789, 797, 805, 815, 823, 837, 843, 849, 855, 860, 866, 872, 878, 884, 890, 896, 902, 912, 919, 927]
def pCo : List Nat := [487, 529, 535, 544, 552, 560, 570, 580, 602, 621, 628, 636, 645, 652, 659, 668, 677, 702, 710, 716, 722, 732, 741, 750, 761, 767, 772, 777, 783, 790, 798, 806, 816, 824, 838, 844, 850, 856, 861, 867, 873, 879, 885, 891, 897, 903, 913, 920, 928]
def pAr : List Nat := [488, 530, 536, 545, 553, 561, 571, 581, 603, 622, 629, 637, 646, 653, 660, 669, 678, 703, 711, 717, 723, 733, 742, 751, 762, 768, 773, 778, 784, 791, 799, 807, 817, 825, 839, 845, 851, 857, 862, 868, 874, 880, 886, 892, 898, 904, 914, 921, 929]
def pLn : List Nat := [489, 531, 537, 546, 554, 562, 572, 582, 604, 623, 630, 638, 647, 654, 661, 670, 679, 704, 712, 718, 724, 734, 743, 752, 763, 769, 774, 779, 785, 792, 800, 808, 818, 826, 840, 846, 852, 858, 863, 869, 875, 881, 887, 893, 899, 905, 915, 922, 930]
def pSr : List Nat := [303, 452, 482, 483, 484, 485, 486, 574, 618, 658, 660, 661, 662, 663, 664, 665, 740, 763, 792, 804, 809, 810, 811, 812, 813, 814, 1270, 1271, 1272, 1273, 1274, 1275, 1276, 1277, 1278, 1279, 1280, 1281, 1282, 1283, 1284, 1285, 1286, 1287, 1288, 1289, 1290, 1291, 1292]
def pKs : List Nat := [1250, 1251, 1252, 1253, 1254, 1255, 1256, 1257, 1258, 1259, 1260, 1261, 1262, 1263, 1264, 1265, 1266, 644, 1267, 1268, 1269, 755, 757]
def pKx : List Nat := [63, 73, 84, 96, 109, 123, 138, 154, 171, 189, 208, 228, 249, 271, 294, 318, 343, 39, 369, 396, 424, 46, 54]
def pKl : List Nat := [65, 75, 86, 98, 111, 125, 140, 156, 173, 191, 210, 230, 251, 273, 296, 320, 345, 41, 371, 398, 426, 48, 56]
def pKe : List Nat := [14, 15, 16, 17, 18, 19, 20, 21, 22, 23, 24, 25, 26, 27, 28, 29, 30, 31, 32, 33, 34, 35, 36]
def pXl : List (List Nat) := [[490, 491, 492, 493, 494, 495, 496, 497, 498, 499, 500, 501, 502, 503, 504, 505, 506, 507, 508, 509, 510, 511, 512, 513, 514, 515, 516, 517, 518, 519, 520, 521, 522, 523, 524, 525, 526, 527], [532, 533], [538, 539, 540, 541, 542], [547, 548, 549, 550], [555, 556, 557, 558], [563, 564, 565, 566, 567, 568], [573, 574, 575, 576, 577, 578], [583, 584, 585, 586, 587, 588, 589, 590, 591, 592, 593, 594, 595, 596, 597, 598, 599, 600], [605, 606, 607, 608, 609, 610, 611, 612, 613, 614, 615, 616, 617, 618, 619], [624, 625], [631, 632, 633, 634], [639, 640, 641, 642, 643], [648, 649, 650], [655, 656, 657], [662, 663, 664, 665, 666], [671, 672, 673, 674, 675], [680, 681, 682, 683, 684, 685, 686, 687, 688, 689, 690, 691, 692, 693, 694, 695, 696, 697, 698, 699, 700], [705, 706, 707], [713, 714], [719, 720], [725, 726, 727, 728, 729], [735, 736, 737, 738], [744, 745, 746, 747], [753, 754, 755, 756, 757, 758], [764, 765], [770], [775], [780, 781], [786, 787, 788], [793, 794, 795, 796], [801, 802, 803, 804], [809, 810, 811, 812, 813], [819, 820, 821, 822], [827, 828, 829, 830, 831, 832, 833, 834, 835, 836], [841, 842], [847, 848], [853, 854], [859], [864, 865], [870, 871], [876, 877], [882, 883], [888, 889], [894, 895], [900, 901], [906, 907, 908, 909, 910, 911], [916, 917, 918], [923, 924, 925, 926], [931, 932]]
def pKf : List (List Nat) := [[66, 76, 87, 99, 112, 126, 141, 157, 174, 192, 211, 231, 252, 274, 297, 321, 346, 42, 372, 399, 427, 49, 57], [67, 77, 88, 100, 113, 127, 142, 158, 175, 193, 212, 232, 253, 275, 298, 322, 347, 43, 373, 400, 428, 50, 58], [68, 78, 89, 101, 114, 128, 143, 159, 176, 194, 213, 233, 254, 276, 299, 323, 348, 44, 374, 401, 429, 51, 59], [69, 79, 90, 102, 115, 129, 144, 160, 177, 195, 214, 234, 255, 277, 300, 324, 349, 45, 375, 402, 430, 52, 60]]
def pKd : List (List Nat) := [[0, 83, 94, 106, 119, 133, 148, 164, 181, 199, 218, 238, 259, 281, 304, 328, 353, 70, 379, 406, 434, 71, 72], [83, 0, 95, 107, 120, 134, 149, 165, 182, 200, 219, 239, 260, 282, 305, 329, 354, 80, 380, 407, 435, 81, 82], [94, 95, 0, 108, 121, 135, 150, 166, 183, 201, 220, 240, 261, 283, 306, 330, 355, 91, 381, 408, 436, 92, 93], [106, 107, 108, 0, 122, 136, 151, 167, 184, 202, 221, 241, 262, 284, 307, 331, 356, 103, 382, 409, 437, 104, 105], [119, 120, 121, 122, 0, 137, 152, 168, 185, 203, 222, 242, 263, 285, 308, 332, 357, 116, 383, 410, 438, 117, 118], [133, 134, 135, 136, 137, 0, 153, 169, 186, 204, 223, 243, 264, 286, 309, 333, 358, 130, 384, 411, 439, 131, 132], [148, 149, 150, 151, 152, 153, 0, 170, 187, 205, 224, 244, 265, 287, 310, 334, 359, 145, 385, 412, 440, 146, 147], [164, 165, 166, 167, 168, 169, 170, 0, 188, 206, 225, 245, 266, 288, 311, 335, 360, 161, 386, 413, 441, 162, 163], [181, 182, 183, 184, 185, 186, 187, 188, 0, 207, 226, 246, 267, 289, 312, 336, 361, 178, 387, 414, 442, 179, 180], [199, 200, 201, 202, 203, 204, 205, 206, 207, 0, 227, 247, 268, 290, 313, 337, 362, 196, 388, 415, 443, 197, 198], [218, 219, 220, 221, 222, 223, 224, 225, 226, 227, 0, 248, 269, 291, 314, 338, 363, 215, 389, 416, 444, 216, 217], [238, 239, 240, 241, 242, 243, 244, 245, 246, 247, 248, 0, 270, 292, 315, 339, 364, 235, 390, 417, 445, 236, 237], [259, 260, 261, 262, 263, 264, 265, 266, 267, 268, 269, 270, 0, 293, 316, 340, 365, 256, 391, 418, 446, 257, 258], [281, 282, 283, 284, 285, 286, 287, 288, 289, 290, 291, 292, 293, 0, 317, 341, 366, 278, 392, 419, 447, 279, 280], [304, 305, 306, 307, 308, 309, 310, 311, 312, 313, 314, 315, 316, 317, 0, 342, 367, 301, 393, 420, 448, 302, 303], [328, 329, 330, 331, 332, 333, 334, 335, 336, 337, 338, 339, 340, 341, 342, 0, 368, 325, 394, 421, 449, 326, 327], [353, 354, 355, 356, 357, 358, 359, 360, 361, 362, 363, 364, 365, 366, 367, 368, 0, 350, 395, 422, 450, 351, 352], [70, 80, 91, 103, 116, 130, 145, 161, 178, 196, 215, 235, 256, 278, 301, 325, 350, 0, 376, 403, 431, 53, 61], [379, 380, 381, 382, 383, 384, 385, 386, 387, 388, 389, 390, 391, 392, 393, 394, 395, 376, 0, 423, 451, 377, 378], [406, 407, 408, 409, 410, 411, 412, 413, 414, 415, 416, 417, 418, 419, 420, 421, 422, 403, 423, 0, 452, 404, 405], [434, 435, 436, 437, 438, 439, 440, 441, 442, 443, 444, 445, 446, 447, 448, 449, 450, 431, 451, 452, 0, 432, 433], [71, 81, 92, 104, 117, 131, 146, 162, 179, 197, 216, 236, 257, 279, 302, 326, 351, 53, 377, 404, 432, 0, 62], [72, 82, 93, 105, 118, 132, 147, 163, 180, 198, 217, 237, 258, 280, 303, 327, 352, 61, 378, 405, 433, 62, 0]]
set_option maxRecDepth 100000 in
theorem q_ex : ∀ i, i < 49 → NL[pEx.getD i 0]? = some (Cond.exactly (tmS i) "java/lang/String") := by decide +kernel
set_option maxRecDepth 100000 in
theorem q_co : ∀ i, i < 49 → NL[pCo.getD i 0]? = some (Cond.eq (.field (tmS i) "java/lang/String" "coder" "B") (.int 0)) := by decide +kernel
set_option maxRecDepth 100000 in
theorem q_ar : ∀ i, i < 49 → NL[pAr.getD i 0]? = some (Cond.arrayOf (tmV i) .byte) := by decide +kernel
set_option maxRecDepth 100000 in
theorem q_ln : ∀ i, i < 49 → NL[pLn.getD i 0]? = some (Cond.eq (.length (tmV i)) (.int (Int32.ofNat (tLn.getD i 0)))) := by decide +kernel
set_option maxRecDepth 100000 in
theorem q_el : ∀ i, i < 49 → ∀ j, j < tLn.getD i 0 → NL[(pXl.getD i []).getD j 0]? = some (Cond.eq (.elem (tmV i) (.int (Int32.ofNat j))) (.int ((tBy.getD i []).getD j 0))) := by decide +kernel
set_option maxRecDepth 100000 in
theorem q_sr : ∀ i, i < 49 → tables_1[pSr.getD i 0]? = some (Cond.stringRef (tOw.getD i ("", 0, "")).1 (tOw.getD i ("", 0, "")).2.1 (tOw.getD i ("", 0, "")).2.2) := by decide +kernel
set_option maxRecDepth 100000 in
theorem q_ks : ∀ i, i < 23 → tables_1[pKs.getD i 0]? = some (Cond.laysStatic "PlainPages$Kind" (kNm.getD i "") "LPlainPages$Kind;") := by decide +kernel
set_option maxRecDepth 100000 in
theorem q_kx : ∀ i, i < 23 → NL[pKx.getD i 0]? = some (Cond.exactly (tmK i) "PlainPages$Kind") := by decide +kernel
set_option maxRecDepth 100000 in
theorem q_kf : ∀ f, f < 4 → ∀ i, i < 23 → NL[(pKf.getD f []).getD i 0]? = some (Cond.eq (.field (tmK i) (kF.getD f ("", "", "", [])).1 (kF.getD f ("", "", "", [])).2.1 (kF.getD f ("", "", "", [])).2.2.1) (.int ((kF.getD f ("", "", "", [])).2.2.2.getD i 0))) := by decide +kernel
set_option maxRecDepth 100000 in
theorem q_kd : ∀ i, i < 23 → ∀ j, j < 23 → (i = j ∨ NL[(pKd.getD i []).getD j 0]? = some (Cond.not (Cond.eq (tmK i) (tmK j))) ∨ NL[(pKd.getD i []).getD j 0]? = some (Cond.not (Cond.eq (tmK j) (tmK i)))) := by decide +kernel
set_option maxRecDepth 100000 in
theorem q_kl : ∀ i, i < 23 → NL[pKl.getD i 0]? = some (Cond.eq (.field (tmK i) "PlainPages$Kind" "label" "Ljava/lang/String;") (tmS (kLa.getD i 0))) := by decide +kernel
set_option maxRecDepth 100000 in
theorem q_ke : ∀ j, j < 23 → NL[pKe.getD j 0]? = some (Cond.eq (.elem (.static "PlainPages" "KINDS" "[LPlainPages$Kind;") (.int (Int32.ofNat j))) (tmK j)) := by decide +kernel
set_option maxRecDepth 100000 in
theorem q_ka : NL[11]? = some (Cond.arrayOf (.static "PlainPages" "KINDS" "[LPlainPages$Kind;") (.object "PlainPages$Kind")) := by decide +kernel
set_option maxRecDepth 100000 in
theorem q_kn : NL[12]? = some (Cond.eq (.length (.static "PlainPages" "KINDS" "[LPlainPages$Kind;")) (.int 23)) := by decide +kernel
set_option maxRecDepth 100000 in
theorem q_cs : NL[4]? = some (Cond.eq (.static "java/lang/String" "COMPACT_STRINGS" "Z") (.int 1)) := by decide +kernel
set_option maxRecDepth 100000 in
theorem q_si : NL[5]? = some (Cond.isRef (.static "jdk/internal/util/Preconditions" "SIOOBE_FORMATTER" "Ljava/util/function/BiFunction;")) := by decide +kernel
set_option maxRecDepth 100000 in
theorem q_us : NL[37]? = some (Cond.isRef (.static "java/lang/Throwable" "UNASSIGNED_STACK" "[Ljava/lang/StackTraceElement;")) := by decide +kernel
set_option maxRecDepth 100000 in
theorem q_ss : NL[38]? = some (Cond.isRef (.static "java/lang/Throwable" "SUPPRESSED_SENTINEL" "Ljava/util/List;")) := by decide +kernel
set_option maxRecDepth 100000 in
theorem w_ik : tables_1[21]? = some (Cond.initialized "PlainPages$Kind") := by decide +kernel
set_option maxRecDepth 100000 in
theorem w_ix : tables_1[1]? = some (Cond.initialized "PlainPages") := by decide +kernel
set_option maxRecDepth 100000 in
theorem w_im : tables_1[9]? = some (Cond.initialized "PlainPagesModel") := by decide +kernel
set_option maxRecDepth 100000 in
theorem w_is : tables_1[10]? = some (Cond.initialized "java/lang/String") := by decide +kernel
set_option maxRecDepth 100000 in
theorem w_ip : tables_1[12]? = some (Cond.initialized "jdk/internal/util/Preconditions") := by decide +kernel
set_option maxRecDepth 100000 in
theorem w_lk : tables_1[421]? = some (Cond.laysStatic "PlainPages" "KINDS" "[LPlainPages$Kind;") := by decide +kernel
set_option maxRecDepth 100000 in
theorem w_lc : tables_1[317]? = some (Cond.laysStatic "java/lang/String" "COMPACT_STRINGS" "Z") := by decide +kernel
set_option maxRecDepth 100000 in
theorem w_ls : tables_1[334]? = some (Cond.laysStatic "jdk/internal/util/Preconditions" "SIOOBE_FORMATTER" "Ljava/util/function/BiFunction;") := by decide +kernel
set_option maxRecDepth 100000 in
theorem w_lu : tables_1[560]? = some (Cond.laysStatic "java/lang/Throwable" "UNASSIGNED_STACK" "[Ljava/lang/StackTraceElement;") := by decide +kernel
set_option maxRecDepth 100000 in
theorem w_lp : tables_1[562]? = some (Cond.laysStatic "java/lang/Throwable" "SUPPRESSED_SENTINEL" "Ljava/util/List;") := by decide +kernel
set_option maxRecDepth 100000 in
theorem w_n1 : tables_1[420]? = some (Cond.fieldLinkNest "PlainPages$Book" 51 "PlainPages" "KINDS" "[LPlainPages$Kind;" "PlainPages") := by decide +kernel
set_option maxRecDepth 100000 in
theorem w_n2 : tables_1[1244]? = some (Cond.fieldLinkNest "PlainPages$Book" 90 "PlainPages$Kind" "label" "Ljava/lang/String;" "PlainPages") := by decide +kernel
set_option maxRecDepth 100000 in
theorem w_n3 : tables_1[1245]? = some (Cond.fieldLinkNest "PlainPages$Inspector" 72 "PlainPages$Kind" "as" "I" "PlainPages") := by decide +kernel
set_option maxRecDepth 100000 in
theorem w_n4 : tables_1[1249]? = some (Cond.fieldLinkNest "PlainPages$Inspector" 119 "PlainPages$Kind" "holding" "I" "PlainPages") := by decide +kernel
set_option maxRecDepth 100000 in
theorem w_n5 : tables_1[50]? = some (Cond.methodLinkNest "PlainPages" 27 y_Book_init "PlainPages") := by decide +kernel
set_option maxRecDepth 100000 in
theorem w_d1 : tables_1[537]? = some (Cond.declares ⟨"java/lang/RuntimeException", "<init>", "(Ljava/lang/String;)V"⟩) := by decide +kernel
set_option maxRecDepth 100000 in
theorem w_d2 : tables_1[539]? = some (Cond.declares ⟨"java/lang/Exception", "<init>", "(Ljava/lang/String;)V"⟩) := by decide +kernel
set_option maxRecDepth 100000 in
theorem w_d3 : tables_1[541]? = some (Cond.declares ⟨"java/lang/Throwable", "<init>", "(Ljava/lang/String;)V"⟩) := by decide +kernel
set_option maxRecDepth 100000 in
theorem w_c1 : tables_1[535]? = some (Cond.castable "java/lang/IllegalArgumentException" "java/lang/IllegalArgumentException") := by decide +kernel
set_option maxRecDepth 100000 in
theorem w_c2 : tables_1[611]? = some (Cond.castable "java/lang/IllegalStateException" "java/lang/IllegalStateException") := by decide +kernel
set_option maxRecDepth 100000 in
theorem w_c3 : tables_1[733]? = some (Cond.castable "java/lang/IndexOutOfBoundsException" "java/lang/IndexOutOfBoundsException") := by decide +kernel
set_option maxRecDepth 100000 in
theorem w_jx : tables_1[24]? = some (Cond.instantiable R_X 9) := by decide +kernel
set_option maxRecDepth 100000 in
theorem w_jm : tables_1[816]? = some (Cond.instantiable R_M 37) := by decide +kernel
set_option maxRecDepth 100000 in
theorem w_qx : tables_1[23]? = some (Cond.classLink "PlainPagesLaw" 8 R_X) := by decide +kernel
set_option maxRecDepth 100000 in
theorem w_qm : tables_1[815]? = some (Cond.classLink "PlainPagesLaw" 34 R_M) := by decide +kernel
theorem oi_L_33 : okI "PlainPagesLaw" 33 y_X_init b_X_init 1 0 := ⟨aW_in 108 (by decide +kernel) rfl, aW_in 109 (by decide +kernel) rfl, aW_in 84 (by decide +kernel) rfl, cd_X_init, rfl, by decide +kernel, by decide +kernel, by decide +kernel⟩
theorem oi_L_36 : okI "PlainPagesLaw" 36 y_M_init b_M_init 1 0 := ⟨aW_in 900 (by decide +kernel) rfl, aW_in 901 (by decide +kernel) rfl, aW_in 92 (by decide +kernel) rfl, cd_M_init, rfl, by decide +kernel, by decide +kernel, by decide +kernel⟩
