/-! ===== the law's code: the loop ===== -/
theorem dl_18 : decode code 18 = .ok (.iload_n 3, 1) := by decide +kernel
theorem dl_19 : decode code 19 = .ok (.aload_n 0, 1) := by decide +kernel
theorem dl_20 : decode code 20 = .ok (.arraylength, 1) := by decide +kernel
theorem dl_21 : decode code 21 = .ok (.bipush 7, 2) := by decide +kernel
theorem dl_23 : decode code 23 = .ok (.isub, 1) := by decide +kernel
theorem dl_24 : decode code 24 = .ok (.if_icmp .gt 1433, 3) := by decide +kernel
theorem dl_27 : decode code 27 = .ok (.aload_n 0, 1) := by decide +kernel
theorem dl_28 : decode code 28 = .ok (.iload_n 3, 1) := by decide +kernel
theorem dl_29 : decode code 29 = .ok (.iaload, 1) := by decide +kernel
theorem dl_30 : decode code 30 = .ok (.bipush 63, 2) := by decide +kernel
theorem dl_32 : decode code 32 = .ok (.iand, 1) := by decide +kernel
theorem dl_33 : decode code 33 = .ok (.tableswitch 1418 0 33 #[151, 214, 237, 250, 263, 276, 299, 322, 345, 404, 447, 500, 543, 576, 619, 672, 726, 759, 813, 877, 921, 996, 1071, 1104, 1168, 1211, 1234, 1257, 1280, 1293, 1326, 1349, 1372, 1395], 151) := by decide +kernel
theorem dl_1451 : decode code 1451 = .ok (.iinc 3 7, 3) := by decide +kernel
theorem dl_1454 : decode code 1454 = .ok (.goto (-1436), 3) := by decide +kernel
theorem dl_1457 : decode code 1457 = .ok (.iconst 1, 1) := by decide +kernel
theorem dl_1458 : decode code 1458 = .ok (.ireturn, 1) := by decide +kernel
theorem lc_0 : lkC1 code 184 [1, 2, 3, 4, 5] 13 17 false 1209 = true := by decide +kernel
theorem lc_1 : lkC1 code 247 [1] 18 22 false 1186 = true := by decide +kernel
theorem lc_2 : lkC1 code 270 [] 23 27 false 1173 = true := by decide +kernel
theorem lc_3 : lkC1 code 283 [] 28 31 false 1160 = true := by decide +kernel
theorem lc_4 : lkC1 code 296 [] 32 35 false 1147 = true := by decide +kernel
theorem lc_5 : lkC1 code 309 [1] 36 39 false 1124 = true := by decide +kernel
theorem lc_6 : lkC1 code 332 [1] 40 44 false 1101 = true := by decide +kernel
theorem lc_7 : lkC1 code 355 [1] 45 48 false 1078 = true := by decide +kernel
theorem lc_8 : lkC1 code 378 [1, 2, 13] 49 53 false 1019 = true := by decide +kernel
theorem lc_9 : lkC1 code 437 [1, 2, 3] 54 58 false 976 = true := by decide +kernel
theorem lc_10 : lkC1 code 480 [1, 2, 3, 4] 59 63 false 923 = true := by decide +kernel
theorem lc_11 : lkC1 code 533 [1, 2, 3] 64 67 false 880 = true := by decide +kernel
theorem lc_12 : lkC1 code 576 [1, 2] 68 72 false 847 = true := by decide +kernel
theorem lc_13 : lkC1 code 609 [1, 2, 3] 73 76 false 804 = true := by decide +kernel
theorem lc_14 : lkC1 code 652 [1, 2, 3, 4] 77 80 false 751 = true := by decide +kernel
theorem lc_15 : lkC1 code 705 [1, 2, 3, 4] 81 85 true 697 = true := by decide +kernel
theorem lc_16 : lkC1 code 759 [1, 2] 86 89 false 664 = true := by decide +kernel
theorem lc_17 : lkC1 code 792 [1, 2, 3, 4] 90 93 true 610 = true := by decide +kernel
theorem lc_18 : lkC1 code 846 [1, 2, 3, 4, 5] 94 98 true 546 = true := by decide +kernel
theorem lc_19 : lkC1 code 910 [1, 2, 3] 99 103 true 502 = true := by decide +kernel
theorem lc_20 : lkC1 code 954 [1, 2, 3, 4, 5, 6] 104 108 false 427 = true := by decide +kernel
theorem lc_21 : lkC1 code 1029 [1, 2, 3, 4, 5, 6] 109 112 false 352 = true := by decide +kernel
theorem lc_22 : lkC1 code 1104 [1, 2] 113 116 false 319 = true := by decide +kernel
theorem lc_23 : lkC1 code 1137 [1, 2, 3, 4, 5] 117 120 true 255 = true := by decide +kernel
theorem lc_24 : lkC1 code 1201 [1, 2, 3] 121 124 false 212 = true := by decide +kernel
theorem lc_25 : lkC1 code 1244 [1] 125 128 false 189 = true := by decide +kernel
theorem lc_26 : lkC1 code 1267 [1] 129 132 false 166 = true := by decide +kernel
theorem lc_27 : lkC1 code 1290 [1] 133 136 false 143 = true := by decide +kernel
theorem lc_28 : lkC1 code 1313 [] 137 140 false 130 = true := by decide +kernel
theorem lc_29 : lkC1 code 1326 [1, 2] 141 144 false 97 = true := by decide +kernel
theorem lc_30 : lkC1 code 1359 [1] 145 148 false 74 = true := by decide +kernel
theorem lc_31 : lkC1 code 1382 [1] 149 152 false 51 = true := by decide +kernel
theorem lc_32 : lkC1 code 1405 [1] 153 156 false 28 = true := by decide +kernel
theorem lc_33 : lkC1 code 1428 [1] 157 160 false 5 = true := by decide +kernel
def lTA : List (Nat × Nat × Nat × Nat × Nat) := [(13, 124, 17, 171, 5), (18, 125, 22, 173, 1), (23, 126, 27, 192, 0), (28, 127, 31, 195, 0), (32, 128, 35, 275, 0), (36, 129, 39, 193, 1), (40, 130, 44, 196, 1), (45, 131, 48, 197, 1), (49, 132, 53, 200, 3), (54, 133, 58, 209, 3), (59, 134, 63, 210, 4), (64, 135, 67, 211, 3), (68, 136, 72, 218, 2), (73, 137, 76, 231, 3), (77, 138, 80, 234, 4), (81, 139, 85, 239, 4), (86, 140, 89, 241, 2), (90, 141, 93, 245, 4), (94, 142, 98, 246, 5), (99, 143, 103, 248, 3), (104, 144, 108, 250, 6), (109, 145, 112, 251, 6), (113, 146, 116, 252, 2), (117, 147, 120, 254, 5), (121, 148, 124, 255, 3), (125, 149, 128, 258, 1), (129, 150, 132, 261, 1), (133, 151, 136, 262, 1), (137, 152, 140, 263, 0), (141, 153, 144, 279, 2), (145, 154, 148, 280, 1), (149, 155, 152, 282, 1), (153, 156, 156, 283, 1), (157, 157, 160, 284, 1)]
theorem lt_all : (lTA.all fun q => inCT 13 q.1 q.2.1 && inMV q.2.1 (q.2.2.2.2 + 1) && Nat.beq (mt q.2.1).2.2.2.2.2.2 12 && inCT 13 q.2.2.1 q.2.2.2.1 && inMV q.2.2.2.1 (q.2.2.2.2 + 1) && Nat.beq (mt q.2.2.2.1).2.2.2.2.2.2 0) = true := by decide +kernel
