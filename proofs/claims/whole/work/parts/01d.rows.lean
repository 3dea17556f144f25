theorem dX9_delay_20 : decode cX9_delay 20 = .ok (.aload_n 0, 1) := by decide +kernel
theorem dX9_delay_21 : decode cX9_delay 21 = .ok (.getfield 31, 3) := by decide +kernel
theorem dX9_delay_24 : decode cX9_delay 24 = .ok (.getfield 124, 3) := by decide +kernel
theorem dX9_delay_27 : decode cX9_delay 27 = .ok (.if_icmp .lt 13, 3) := by decide +kernel
theorem dX9_delay_30 : decode cX9_delay 30 = .ok (.new 80, 3) := by decide +kernel
theorem dX9_delay_33 : decode cX9_delay 33 = .ok (.dup, 1) := by decide +kernel
theorem dX9_delay_34 : decode cX9_delay 34 = .ok (.ldc 136, 2) := by decide +kernel
theorem dX9_delay_36 : decode cX9_delay 36 = .ok (.invokespecial 84, 3) := by decide +kernel
theorem dX9_delay_39 : decode cX9_delay 39 = .ok (.athrow, 1) := by decide +kernel
theorem dX9_delay_40 : decode cX9_delay 40 = .ok (.aload_n 0, 1) := by decide +kernel
theorem dX9_delay_41 : decode cX9_delay 41 = .ok (.invokevirtual 138, 3) := by decide +kernel
theorem dX9_delay_44 : decode cX9_delay 44 = .ok (.aload_n 0, 1) := by decide +kernel
theorem dX9_delay_45 : decode cX9_delay 45 = .ok (.getfield 54, 3) := by decide +kernel
theorem dX9_delay_48 : decode cX9_delay 48 = .ok (.iload_n 1, 1) := by decide +kernel
theorem dX9_delay_49 : decode cX9_delay 49 = .ok (.iload_n 2, 1) := by decide +kernel
theorem dX9_delay_50 : decode cX9_delay 50 = .ok (.iload_n 3, 1) := by decide +kernel
theorem dX9_delay_51 : decode cX9_delay 51 = .ok (.invokevirtual 141, 3) := by decide +kernel
theorem dX9_delay_54 : decode cX9_delay 54 = .ok (.istore 4, 2) := by decide +kernel
theorem dX9_delay_56 : decode cX9_delay 56 = .ok (.iload 4, 2) := by decide +kernel
theorem dX9_delay_58 : decode cX9_delay 58 = .ok (.ifCond .ge 13, 3) := by decide +kernel
theorem dX9_delay_61 : decode cX9_delay 61 = .ok (.new 145, 3) := by decide +kernel
theorem dX9_delay_64 : decode cX9_delay 64 = .ok (.dup, 1) := by decide +kernel
theorem dX9_delay_65 : decode cX9_delay 65 = .ok (.ldc 147, 2) := by decide +kernel
theorem dX9_delay_67 : decode cX9_delay 67 = .ok (.invokespecial 149, 3) := by decide +kernel
theorem dX9_delay_70 : decode cX9_delay 70 = .ok (.athrow, 1) := by decide +kernel
theorem dX9_delay_71 : decode cX9_delay 71 = .ok (.aload_n 0, 1) := by decide +kernel
theorem dX9_delay_72 : decode cX9_delay 72 = .ok (.getfield 54, 3) := by decide +kernel
theorem dX9_delay_75 : decode cX9_delay 75 = .ok (.getfield 150, 3) := by decide +kernel
theorem dX9_delay_78 : decode cX9_delay 78 = .ok (.iload 4, 2) := by decide +kernel
theorem dX9_delay_80 : decode cX9_delay 80 = .ok (.iaload, 1) := by decide +kernel
theorem dX9_delay_81 : decode cX9_delay 81 = .ok (.ireturn, 1) := by decide +kernel
set_option maxRecDepth 20000 in
theorem ggX9_lay_X9_learnWaits : GoodIn wsX9_lay wsX9_learnWaits := goodIn_r _ [20, 21, 6, 22, 23, 24, 25, 26, 27, 28, 29, 30, 31, 32, 33, 34, 35, 36, 37, 38, 39, 40, 41, 10, 11, 12, 42, 43, 44, 45, 46, 47, 48, 49, 50, 19, 51, 52, 53, 54, 55, 56, 57, 58, 59, 60, 61, 62, 63, 64, 65, 66, 67, 68, 69, 70, 71, 72, 73, 74, 75, 76, 77, 78, 79, 80, 81, 82, 83, 84, 85, 86, 87, 88, 89, 90, 91, 92, 93, 94, 95, 96, 97, 98, 99, 100, 101, 102, 103, 104, 105, 106, 107, 108, 109, 110, 111, 112, 113, 114, 115, 116, 117, 118, 119, 120, 121, 122, 123, 124, 125, 126, 127, 128, 129, 269, 270, 271, 272, 273, 274, 275, 276, 277, 278, 279, 280, 281, 282, 283, 287, 288, 289, 290, 291, 292, 293, 294, 295, 296, 284, 285, 286, 297, 298, 299, 300, 301, 302, 303, 304, 305, 306, 307] (by decide +kernel) (by decide +kernel)
set_option maxRecDepth 20000 in
theorem gX9_lay_X9_learnWaits : GoodIn wsX9_lay (wsV RX9 138 RX9 yX9_learnWaits wsX9_learnWaits) := goodIn_app (goodIn_of _ (by decide +kernel)) ggX9_lay_X9_learnWaits
set_option maxRecDepth 20000 in
theorem ggX9_lay_X8_findHeights : GoodIn wsX9_lay wsX8_findHeights := goodIn_r _ [121, 122, 28, 29, 123, 124, 82, 125, 126, 127, 128, 25, 129, 27, 77, 79, 78, 76, 287, 288, 289, 290, 291, 292, 293, 294, 295, 296, 284, 285, 286] (by decide +kernel) (by decide +kernel)
set_option maxRecDepth 20000 in
theorem gX9_lay_X8_findHeights : GoodIn wsX9_lay (wsV RX9 173 RX8 yX8_findHeights wsX8_findHeights) := goodIn_app (goodIn_of _ (by decide +kernel)) ggX9_lay_X8_findHeights
set_option maxRecDepth 20000 in
theorem ggX9_lay_X7_fill : GoodIn wsX9_lay wsX7_fill := goodIn_r _ [135, 136, 137, 138, 139, 140, 141, 142, 143, 124, 82, 125, 144, 145, 146, 134, 147, 148, 149, 150, 151, 152, 153, 154, 155, 156, 157, 158, 159, 160, 161, 10, 11, 12, 162, 163, 164, 165, 166, 167, 168, 169, 170, 171, 172, 173, 174, 175, 176, 177, 106, 19, 107, 178, 179, 180, 181, 182, 183, 184, 185, 186, 112, 187, 188, 189, 190, 191, 192, 193, 194, 195, 196, 197, 198, 199, 200, 201, 202, 203, 204, 205, 206, 207, 208, 209, 210, 211, 212, 213, 92, 93, 308, 309, 310, 311, 312, 313, 314, 315, 316, 284, 285, 286, 287, 288, 289, 290, 291, 292, 293, 294, 295, 296, 297, 298, 299, 300, 301, 302, 303, 304, 305] (by decide +kernel) (by decide +kernel)
set_option maxRecDepth 20000 in
theorem gX9_lay_X7_fill : GoodIn wsX9_lay (wsV RX9 177 RX7 yX7_fill wsX7_fill) := goodIn_app (goodIn_of _ (by decide +kernel)) ggX9_lay_X7_fill
set_option maxRecDepth 20000 in
theorem ggX9_lay_X6_fit : GoodIn wsX9_lay wsX6_fit := goodIn_r _ [218, 219, 220, 221, 10, 11, 12, 222, 223, 224, 225, 217, 226, 227, 228, 229, 230, 231, 232, 233, 234, 235, 124, 82, 125, 236, 43, 44, 45, 46, 47, 48, 49, 237, 238, 239, 240, 241, 242, 243, 244, 50, 19, 51, 245, 246, 247, 248, 249, 250, 251, 252, 253, 254, 255, 183, 184, 185, 186, 112, 187, 256, 257, 258, 259, 260, 261, 262, 263, 264, 265, 266, 267, 268, 108, 109, 110, 111, 113, 317, 318, 319, 320, 321, 322, 323, 324, 325, 326, 327, 328, 329, 284, 285, 286, 297, 298, 299, 300, 301, 302, 303, 304, 305, 306, 307, 308, 309, 310, 311, 312, 313, 314, 315, 316] (by decide +kernel) (by decide +kernel)
set_option maxRecDepth 20000 in
theorem gX9_lay_X6_fit : GoodIn wsX9_lay (wsV RX9 180 RX6 yX6_fit wsX6_fit) := goodIn_app (goodIn_of _ (by decide +kernel)) ggX9_lay_X6_fit
theorem dX9_lay_0 : decode cX9_lay 0 = .ok (.aload_n 0, 1) := by decide +kernel
theorem dX9_lay_1 : decode cX9_lay 1 = .ok (.getfield 31, 3) := by decide +kernel
theorem dX9_lay_4 : decode cX9_lay 4 = .ok (.getfield 124, 3) := by decide +kernel
theorem dX9_lay_7 : decode cX9_lay 7 = .ok (.ifCond .ne 13, 3) := by decide +kernel
theorem dX9_lay_10 : decode cX9_lay 10 = .ok (.new 153, 3) := by decide +kernel
theorem dX9_lay_13 : decode cX9_lay 13 = .ok (.dup, 1) := by decide +kernel
theorem dX9_lay_14 : decode cX9_lay 14 = .ok (.ldc 155, 2) := by decide +kernel
theorem dX9_lay_16 : decode cX9_lay 16 = .ok (.invokespecial 157, 3) := by decide +kernel
theorem dX9_lay_19 : decode cX9_lay 19 = .ok (.athrow, 1) := by decide +kernel
theorem dX9_lay_20 : decode cX9_lay 20 = .ok (.aload_n 0, 1) := by decide +kernel
theorem dX9_lay_21 : decode cX9_lay 21 = .ok (.getfield 158, 3) := by decide +kernel
theorem dX9_lay_24 : decode cX9_lay 24 = .ok (.ifCond .ne 88, 3) := by decide +kernel
theorem dX9_lay_27 : decode cX9_lay 27 = .ok (.aload_n 0, 1) := by decide +kernel
theorem dX9_lay_28 : decode cX9_lay 28 = .ok (.invokevirtual 138, 3) := by decide +kernel
theorem dX9_lay_31 : decode cX9_lay 31 = .ok (.aload_n 0, 1) := by decide +kernel
theorem dX9_lay_32 : decode cX9_lay 32 = .ok (.iconst 1, 1) := by decide +kernel
theorem dX9_lay_33 : decode cX9_lay 33 = .ok (.putfield 158, 3) := by decide +kernel
theorem dX9_lay_36 : decode cX9_lay 36 = .ok (.aload_n 0, 1) := by decide +kernel
theorem dX9_lay_37 : decode cX9_lay 37 = .ok (.getfield 54, 3) := by decide +kernel
theorem dX9_lay_40 : decode cX9_lay 40 = .ok (.getfield 161, 3) := by decide +kernel
theorem dX9_lay_43 : decode cX9_lay 43 = .ok (.aload_n 0, 1) := by decide +kernel
theorem dX9_lay_44 : decode cX9_lay 44 = .ok (.getfield 54, 3) := by decide +kernel
theorem dX9_lay_47 : decode cX9_lay 47 = .ok (.getfield 164, 3) := by decide +kernel
theorem dX9_lay_50 : decode cX9_lay 50 = .ok (.invokestatic 167, 3) := by decide +kernel
theorem dX9_lay_53 : decode cX9_lay 53 = .ok (.istore_n 1, 1) := by decide +kernel
theorem dX9_lay_54 : decode cX9_lay 54 = .ok (.aload_n 0, 1) := by decide +kernel
theorem dX9_lay_55 : decode cX9_lay 55 = .ok (.getfield 130, 3) := by decide +kernel
theorem dX9_lay_58 : decode cX9_lay 58 = .ok (.ifCond .ne 54, 3) := by decide +kernel
theorem dX9_lay_61 : decode cX9_lay 61 = .ok (.iload_n 1, 1) := by decide +kernel
theorem dX9_lay_62 : decode cX9_lay 62 = .ok (.sipush 200, 3) := by decide +kernel
theorem dX9_lay_65 : decode cX9_lay 65 = .ok (.if_icmp .gt 47, 3) := by decide +kernel
theorem dX9_lay_68 : decode cX9_lay 68 = .ok (.aload_n 0, 1) := by decide +kernel
theorem dX9_lay_69 : decode cX9_lay 69 = .ok (.getfield 54, 3) := by decide +kernel
theorem dX9_lay_72 : decode cX9_lay 72 = .ok (.iload_n 1, 1) := by decide +kernel
theorem dX9_lay_73 : decode cX9_lay 73 = .ok (.invokevirtual 173, 3) := by decide +kernel
theorem dX9_lay_76 : decode cX9_lay 76 = .ok (.ifCond .eq 30, 3) := by decide +kernel
theorem dX9_lay_79 : decode cX9_lay 79 = .ok (.aload_n 0, 1) := by decide +kernel
theorem dX9_lay_80 : decode cX9_lay 80 = .ok (.getfield 63, 3) := by decide +kernel
theorem dX9_lay_83 : decode cX9_lay 83 = .ok (.iload_n 1, 1) := by decide +kernel
theorem dX9_lay_84 : decode cX9_lay 84 = .ok (.invokevirtual 177, 3) := by decide +kernel
theorem dX9_lay_87 : decode cX9_lay 87 = .ok (.ifCond .eq 19, 3) := by decide +kernel
theorem dX9_lay_90 : decode cX9_lay 90 = .ok (.aload_n 0, 1) := by decide +kernel
theorem dX9_lay_91 : decode cX9_lay 91 = .ok (.getfield 72, 3) := by decide +kernel
theorem dX9_lay_94 : decode cX9_lay 94 = .ok (.iload_n 1, 1) := by decide +kernel
theorem dX9_lay_95 : decode cX9_lay 95 = .ok (.invokevirtual 180, 3) := by decide +kernel
theorem dX9_lay_98 : decode cX9_lay 98 = .ok (.ifCond .eq 8, 3) := by decide +kernel
theorem dX9_lay_101 : decode cX9_lay 101 = .ok (.aload_n 0, 1) := by decide +kernel
theorem dX9_lay_102 : decode cX9_lay 102 = .ok (.iload_n 1, 1) := by decide +kernel
theorem dX9_lay_103 : decode cX9_lay 103 = .ok (.putfield 130, 3) := by decide +kernel
theorem dX9_lay_106 : decode cX9_lay 106 = .ok (.iinc 1 1, 3) := by decide +kernel
theorem dX9_lay_109 : decode cX9_lay 109 = .ok (.goto (-55), 3) := by decide +kernel
theorem dX9_lay_112 : decode cX9_lay 112 = .ok (.aload_n 0, 1) := by decide +kernel
theorem dX9_lay_113 : decode cX9_lay 113 = .ok (.getfield 130, 3) := by decide +kernel
theorem dX9_lay_116 : decode cX9_lay 116 = .ok (.ireturn, 1) := by decide +kernel
theorem dX9_row_0 : decode cX9_row 0 = .ok (.aload_n 0, 1) := by decide +kernel
theorem dX9_row_1 : decode cX9_row 1 = .ok (.getfield 130, 3) := by decide +kernel
theorem dX9_row_4 : decode cX9_row 4 = .ok (.ifCond .ne 13, 3) := by decide +kernel
theorem dX9_row_7 : decode cX9_row 7 = .ok (.new 153, 3) := by decide +kernel
theorem dX9_row_10 : decode cX9_row 10 = .ok (.dup, 1) := by decide +kernel
theorem dX9_row_11 : decode cX9_row 11 = .ok (.ldc 183, 2) := by decide +kernel
theorem dX9_row_13 : decode cX9_row 13 = .ok (.invokespecial 157, 3) := by decide +kernel
theorem dX9_row_16 : decode cX9_row 16 = .ok (.athrow, 1) := by decide +kernel
theorem dX9_row_17 : decode cX9_row 17 = .ok (.iload_n 1, 1) := by decide +kernel
theorem dX9_row_18 : decode cX9_row 18 = .ok (.ifCond .lt 14, 3) := by decide +kernel
theorem dX9_row_21 : decode cX9_row 21 = .ok (.iload_n 1, 1) := by decide +kernel
theorem dX9_row_22 : decode cX9_row 22 = .ok (.aload_n 0, 1) := by decide +kernel
theorem dX9_row_23 : decode cX9_row 23 = .ok (.getfield 31, 3) := by decide +kernel
theorem dX9_row_26 : decode cX9_row 26 = .ok (.getfield 124, 3) := by decide +kernel
theorem dX9_row_29 : decode cX9_row 29 = .ok (.if_icmp .lt 13, 3) := by decide +kernel
theorem dX9_row_32 : decode cX9_row 32 = .ok (.new 80, 3) := by decide +kernel
theorem dX9_row_35 : decode cX9_row 35 = .ok (.dup, 1) := by decide +kernel
theorem dX9_row_36 : decode cX9_row 36 = .ok (.ldc 136, 2) := by decide +kernel
theorem dX9_row_38 : decode cX9_row 38 = .ok (.invokespecial 84, 3) := by decide +kernel
theorem dX9_row_41 : decode cX9_row 41 = .ok (.athrow, 1) := by decide +kernel
theorem dX9_row_42 : decode cX9_row 42 = .ok (.iload_n 2, 1) := by decide +kernel
theorem dX9_row_43 : decode cX9_row 43 = .ok (.tableswitch 83 0 4 #[33, 43, 53, 63, 73], 33) := by decide +kernel
theorem dX9_row_76 : decode cX9_row 76 = .ok (.aload_n 0, 1) := by decide +kernel
theorem dX9_row_77 : decode cX9_row 77 = .ok (.getfield 63, 3) := by decide +kernel
theorem dX9_row_80 : decode cX9_row 80 = .ok (.getfield 185, 3) := by decide +kernel
theorem dX9_row_83 : decode cX9_row 83 = .ok (.iload_n 1, 1) := by decide +kernel
theorem dX9_row_84 : decode cX9_row 84 = .ok (.iaload, 1) := by decide +kernel
theorem dX9_row_85 : decode cX9_row 85 = .ok (.ireturn, 1) := by decide +kernel
theorem dX9_row_86 : decode cX9_row 86 = .ok (.aload_n 0, 1) := by decide +kernel
theorem dX9_row_87 : decode cX9_row 87 = .ok (.getfield 54, 3) := by decide +kernel
theorem dX9_row_90 : decode cX9_row 90 = .ok (.getfield 188, 3) := by decide +kernel
theorem dX9_row_93 : decode cX9_row 93 = .ok (.iload_n 1, 1) := by decide +kernel
theorem dX9_row_94 : decode cX9_row 94 = .ok (.iaload, 1) := by decide +kernel
theorem dX9_row_95 : decode cX9_row 95 = .ok (.ireturn, 1) := by decide +kernel
theorem dX9_row_96 : decode cX9_row 96 = .ok (.aload_n 0, 1) := by decide +kernel
theorem dX9_row_97 : decode cX9_row 97 = .ok (.getfield 72, 3) := by decide +kernel
theorem dX9_row_100 : decode cX9_row 100 = .ok (.getfield 191, 3) := by decide +kernel
theorem dX9_row_103 : decode cX9_row 103 = .ok (.iload_n 1, 1) := by decide +kernel
theorem dX9_row_104 : decode cX9_row 104 = .ok (.iaload, 1) := by decide +kernel
theorem dX9_row_105 : decode cX9_row 105 = .ok (.ireturn, 1) := by decide +kernel
theorem dX9_row_106 : decode cX9_row 106 = .ok (.aload_n 0, 1) := by decide +kernel
theorem dX9_row_107 : decode cX9_row 107 = .ok (.getfield 72, 3) := by decide +kernel
theorem dX9_row_110 : decode cX9_row 110 = .ok (.getfield 194, 3) := by decide +kernel
theorem dX9_row_113 : decode cX9_row 113 = .ok (.iload_n 1, 1) := by decide +kernel
theorem dX9_row_114 : decode cX9_row 114 = .ok (.iaload, 1) := by decide +kernel
theorem dX9_row_115 : decode cX9_row 115 = .ok (.ireturn, 1) := by decide +kernel
theorem dX9_row_116 : decode cX9_row 116 = .ok (.aload_n 0, 1) := by decide +kernel
theorem dX9_row_117 : decode cX9_row 117 = .ok (.getfield 72, 3) := by decide +kernel
theorem dX9_row_120 : decode cX9_row 120 = .ok (.getfield 197, 3) := by decide +kernel
theorem dX9_row_123 : decode cX9_row 123 = .ok (.iload_n 1, 1) := by decide +kernel
theorem dX9_row_124 : decode cX9_row 124 = .ok (.iaload, 1) := by decide +kernel
theorem dX9_row_125 : decode cX9_row 125 = .ok (.ireturn, 1) := by decide +kernel
theorem dX9_row_126 : decode cX9_row 126 = .ok (.new 91, 3) := by decide +kernel
theorem dX9_row_129 : decode cX9_row 129 = .ok (.dup, 1) := by decide +kernel
theorem dX9_row_130 : decode cX9_row 130 = .ok (.ldc 200, 2) := by decide +kernel
theorem dX9_row_132 : decode cX9_row 132 = .ok (.invokespecial 95, 3) := by decide +kernel
theorem dX9_row_135 : decode cX9_row 135 = .ok (.athrow, 1) := by decide +kernel
set_option maxRecDepth 20000 in
theorem ggX9_run_X4_init : GoodIn wsX9_run wsX4_init := goodIn_r _ [17, 18, 19, 20, 21, 22, 23, 24, 25, 26, 27, 28, 29, 30, 162, 163, 164, 165, 166, 167, 168, 169, 170, 171] (by decide +kernel) (by decide +kernel)
set_option maxRecDepth 20000 in
theorem gX9_run_X4_init : GoodIn wsX9_run (wsX4_init) := ggX9_run_X4_init
set_option maxRecDepth 20000 in
theorem ggX9_run_X4_runLaid : GoodIn wsX9_run wsX4_runLaid := goodIn_r _ [34, 35, 36, 37, 38, 9, 39, 22, 40, 41, 42, 43, 26, 44, 27, 45, 29, 46, 47, 48, 49, 50, 51, 52, 53, 54, 55, 28, 56, 25, 57, 58, 24, 59, 60, 61, 62, 63, 64, 65, 66, 67, 68, 69, 70, 71, 72, 73, 74, 75, 76, 77, 78, 79, 80, 81, 82, 83, 84, 85, 86, 87, 88, 89, 90, 91, 92, 93, 94, 95, 96, 97, 98, 99, 100, 101, 102, 30, 103, 104, 105, 106, 107, 108, 109, 110, 111, 112, 113, 114, 115, 116, 117, 118, 119, 120, 121, 122, 123, 124, 125, 126, 23, 162, 163, 164, 165, 166, 167, 168, 169, 170, 171, 159, 160, 161, 172, 173, 174, 175, 176, 177, 178, 179, 180, 181, 182, 183, 184, 185, 186, 187, 188, 189, 190, 191, 192, 193, 194, 195, 196, 197, 198, 199, 200, 201, 202, 203, 204] (by decide +kernel) (by decide +kernel)
set_option maxRecDepth 20000 in
theorem gX9_run_X4_runLaid : GoodIn wsX9_run (wsV RX9 211 RX4 yX4_runLaid wsX4_runLaid) := goodIn_app (goodIn_of _ (by decide +kernel)) ggX9_run_X4_runLaid
set_option maxRecDepth 20000 in
theorem ggX9_run_X4_runWritten : GoodIn wsX9_run wsX4_runWritten := goodIn_r _ [130, 30, 23, 131, 132, 133, 134, 29, 26, 44, 46, 36, 37, 38, 9, 39, 22, 135, 136, 137, 138, 47, 83, 139, 84, 85, 86, 87, 88, 89, 90, 91, 92, 93, 94, 95, 96, 140, 141, 142, 143, 101, 102, 113, 114, 115, 116, 117, 162, 163, 164, 165, 166, 167, 168, 169, 170, 171, 159, 160, 161, 181, 182, 183, 184, 185, 186, 187, 188, 189, 203, 204] (by decide +kernel) (by decide +kernel)
set_option maxRecDepth 20000 in
theorem gX9_run_X4_runWritten : GoodIn wsX9_run (wsV RX9 214 RX4 yX4_runWritten wsX4_runWritten) := goodIn_app (goodIn_of _ (by decide +kernel)) ggX9_run_X4_runWritten
theorem dX9_run_0 : decode cX9_run 0 = .ok (.aload_n 0, 1) := by decide +kernel
theorem dX9_run_1 : decode cX9_run 1 = .ok (.getfield 31, 3) := by decide +kernel
theorem dX9_run_4 : decode cX9_run 4 = .ok (.getfield 124, 3) := by decide +kernel
theorem dX9_run_7 : decode cX9_run 7 = .ok (.ifCond .ne 13, 3) := by decide +kernel
theorem dX9_run_10 : decode cX9_run 10 = .ok (.new 153, 3) := by decide +kernel
theorem dX9_run_13 : decode cX9_run 13 = .ok (.dup, 1) := by decide +kernel
theorem dX9_run_14 : decode cX9_run 14 = .ok (.ldc 155, 2) := by decide +kernel
theorem dX9_run_16 : decode cX9_run 16 = .ok (.invokespecial 157, 3) := by decide +kernel
theorem dX9_run_19 : decode cX9_run 19 = .ok (.athrow, 1) := by decide +kernel
theorem dX9_run_20 : decode cX9_run 20 = .ok (.iload_n 1, 1) := by decide +kernel
theorem dX9_run_21 : decode cX9_run 21 = .ok (.ifCond .eq 20, 3) := by decide +kernel
theorem dX9_run_24 : decode cX9_run 24 = .ok (.aload_n 0, 1) := by decide +kernel
theorem dX9_run_25 : decode cX9_run 25 = .ok (.getfield 130, 3) := by decide +kernel
theorem dX9_run_28 : decode cX9_run 28 = .ok (.ifCond .ne 13, 3) := by decide +kernel
theorem dX9_run_31 : decode cX9_run 31 = .ok (.new 153, 3) := by decide +kernel
theorem dX9_run_34 : decode cX9_run 34 = .ok (.dup, 1) := by decide +kernel
theorem dX9_run_35 : decode cX9_run 35 = .ok (.ldc 183, 2) := by decide +kernel
theorem dX9_run_37 : decode cX9_run 37 = .ok (.invokespecial 157, 3) := by decide +kernel
theorem dX9_run_40 : decode cX9_run 40 = .ok (.athrow, 1) := by decide +kernel
theorem dX9_run_41 : decode cX9_run 41 = .ok (.aload_n 0, 1) := by decide +kernel
theorem dX9_run_42 : decode cX9_run 42 = .ok (.getfield 202, 3) := by decide +kernel
theorem dX9_run_45 : decode cX9_run 45 = .ok (.astore_n 2, 1) := by decide +kernel
theorem dX9_run_46 : decode cX9_run 46 = .ok (.aload_n 2, 1) := by decide +kernel
theorem dX9_run_47 : decode cX9_run 47 = .ok (.ifnonnull 36, 3) := by decide +kernel
theorem dX9_run_50 : decode cX9_run 50 = .ok (.new 206, 3) := by decide +kernel
theorem dX9_run_53 : decode cX9_run 53 = .ok (.dup, 1) := by decide +kernel
theorem dX9_run_54 : decode cX9_run 54 = .ok (.aload_n 0, 1) := by decide +kernel
theorem dX9_run_55 : decode cX9_run 55 = .ok (.getfield 31, 3) := by decide +kernel
theorem dX9_run_58 : decode cX9_run 58 = .ok (.aload_n 0, 1) := by decide +kernel
theorem dX9_run_59 : decode cX9_run 59 = .ok (.getfield 63, 3) := by decide +kernel
theorem dX9_run_62 : decode cX9_run 62 = .ok (.aload_n 0, 1) := by decide +kernel
theorem dX9_run_63 : decode cX9_run 63 = .ok (.getfield 72, 3) := by decide +kernel
theorem dX9_run_66 : decode cX9_run 66 = .ok (.aload_n 0, 1) := by decide +kernel
theorem dX9_run_67 : decode cX9_run 67 = .ok (.getfield 22, 3) := by decide +kernel
theorem dX9_run_70 : decode cX9_run 70 = .ok (.aload_n 0, 1) := by decide +kernel
theorem dX9_run_71 : decode cX9_run 71 = .ok (.getfield 25, 3) := by decide +kernel
theorem dX9_run_74 : decode cX9_run 74 = .ok (.invokespecial 208, 3) := by decide +kernel
theorem dX9_run_77 : decode cX9_run 77 = .ok (.astore_n 2, 1) := by decide +kernel
theorem dX9_run_78 : decode cX9_run 78 = .ok (.aload_n 0, 1) := by decide +kernel
theorem dX9_run_79 : decode cX9_run 79 = .ok (.aload_n 2, 1) := by decide +kernel
theorem dX9_run_80 : decode cX9_run 80 = .ok (.putfield 202, 3) := by decide +kernel
theorem dX9_run_83 : decode cX9_run 83 = .ok (.aload_n 0, 1) := by decide +kernel
theorem dX9_run_84 : decode cX9_run 84 = .ok (.iconst 1, 1) := by decide +kernel
theorem dX9_run_85 : decode cX9_run 85 = .ok (.putfield 118, 3) := by decide +kernel
theorem dX9_run_88 : decode cX9_run 88 = .ok (.iload_n 1, 1) := by decide +kernel
theorem dX9_run_89 : decode cX9_run 89 = .ok (.ifCond .eq 14, 3) := by decide +kernel
theorem dX9_run_92 : decode cX9_run 92 = .ok (.aload_n 2, 1) := by decide +kernel
theorem dX9_run_93 : decode cX9_run 93 = .ok (.aload_n 0, 1) := by decide +kernel
theorem dX9_run_94 : decode cX9_run 94 = .ok (.getfield 130, 3) := by decide +kernel
theorem dX9_run_97 : decode cX9_run 97 = .ok (.invokevirtual 211, 3) := by decide +kernel
theorem dX9_run_100 : decode cX9_run 100 = .ok (.goto 7, 3) := by decide +kernel
theorem dX9_run_103 : decode cX9_run 103 = .ok (.aload_n 2, 1) := by decide +kernel
theorem dX9_run_104 : decode cX9_run 104 = .ok (.invokevirtual 214, 3) := by decide +kernel
theorem dX9_run_107 : decode cX9_run 107 = .ok (.ireturn, 1) := by decide +kernel
theorem dX9_register_0 : decode cX9_register 0 = .ok (.aload_n 0, 1) := by decide +kernel
theorem dX9_register_1 : decode cX9_register 1 = .ok (.getfield 202, 3) := by decide +kernel
theorem dX9_register_4 : decode cX9_register 4 = .ok (.astore_n 2, 1) := by decide +kernel
theorem dX9_register_5 : decode cX9_register 5 = .ok (.aload_n 0, 1) := by decide +kernel
theorem dX9_register_6 : decode cX9_register 6 = .ok (.getfield 118, 3) := by decide +kernel
theorem dX9_register_9 : decode cX9_register 9 = .ok (.ifCond .eq 7, 3) := by decide +kernel
theorem dX9_register_12 : decode cX9_register 12 = .ok (.aload_n 2, 1) := by decide +kernel
theorem dX9_register_13 : decode cX9_register 13 = .ok (.ifnonnull 13, 3) := by decide +kernel
theorem dX9_register_16 : decode cX9_register 16 = .ok (.new 153, 3) := by decide +kernel
theorem dX9_register_19 : decode cX9_register 19 = .ok (.dup, 1) := by decide +kernel
theorem dX9_register_20 : decode cX9_register 20 = .ok (.ldc 218, 2) := by decide +kernel
theorem dX9_register_22 : decode cX9_register 22 = .ok (.invokespecial 157, 3) := by decide +kernel
theorem dX9_register_25 : decode cX9_register 25 = .ok (.athrow, 1) := by decide +kernel
theorem dX9_register_26 : decode cX9_register 26 = .ok (.iload_n 1, 1) := by decide +kernel
theorem dX9_register_27 : decode cX9_register 27 = .ok (.ifCond .lt 9, 3) := by decide +kernel
theorem dX9_register_30 : decode cX9_register 30 = .ok (.iload_n 1, 1) := by decide +kernel
theorem dX9_register_31 : decode cX9_register 31 = .ok (.bipush 32, 2) := by decide +kernel
theorem dX9_register_33 : decode cX9_register 33 = .ok (.if_icmp .lt 13, 3) := by decide +kernel
theorem dX9_register_36 : decode cX9_register 36 = .ok (.new 91, 3) := by decide +kernel
theorem dX9_register_39 : decode cX9_register 39 = .ok (.dup, 1) := by decide +kernel
theorem dX9_register_40 : decode cX9_register 40 = .ok (.ldc 116, 2) := by decide +kernel
theorem dX9_register_42 : decode cX9_register 42 = .ok (.invokespecial 95, 3) := by decide +kernel
theorem dX9_register_45 : decode cX9_register 45 = .ok (.athrow, 1) := by decide +kernel
theorem dX9_register_46 : decode cX9_register 46 = .ok (.aload_n 2, 1) := by decide +kernel
theorem dX9_register_47 : decode cX9_register 47 = .ok (.getfield 220, 3) := by decide +kernel
theorem dX9_register_50 : decode cX9_register 50 = .ok (.iload_n 1, 1) := by decide +kernel
theorem dX9_register_51 : decode cX9_register 51 = .ok (.iaload, 1) := by decide +kernel
theorem dX9_register_52 : decode cX9_register 52 = .ok (.ireturn, 1) := by decide +kernel
theorem dX9_cell_0 : decode cX9_cell 0 = .ok (.aload_n 0, 1) := by decide +kernel
theorem dX9_cell_1 : decode cX9_cell 1 = .ok (.getfield 202, 3) := by decide +kernel
theorem dX9_cell_4 : decode cX9_cell 4 = .ok (.astore_n 3, 1) := by decide +kernel
theorem dX9_cell_5 : decode cX9_cell 5 = .ok (.aload_n 0, 1) := by decide +kernel
theorem dX9_cell_6 : decode cX9_cell 6 = .ok (.getfield 118, 3) := by decide +kernel
theorem dX9_cell_9 : decode cX9_cell 9 = .ok (.ifCond .eq 7, 3) := by decide +kernel
theorem dX9_cell_12 : decode cX9_cell 12 = .ok (.aload_n 3, 1) := by decide +kernel
theorem dX9_cell_13 : decode cX9_cell 13 = .ok (.ifnonnull 13, 3) := by decide +kernel
theorem dX9_cell_16 : decode cX9_cell 16 = .ok (.new 153, 3) := by decide +kernel
theorem dX9_cell_19 : decode cX9_cell 19 = .ok (.dup, 1) := by decide +kernel
theorem dX9_cell_20 : decode cX9_cell 20 = .ok (.ldc 218, 2) := by decide +kernel
theorem dX9_cell_22 : decode cX9_cell 22 = .ok (.invokespecial 157, 3) := by decide +kernel
theorem dX9_cell_25 : decode cX9_cell 25 = .ok (.athrow, 1) := by decide +kernel
theorem dX9_cell_26 : decode cX9_cell 26 = .ok (.iload_n 1, 1) := by decide +kernel
theorem dX9_cell_27 : decode cX9_cell 27 = .ok (.ifCond .lt 19, 3) := by decide +kernel
theorem dX9_cell_30 : decode cX9_cell 30 = .ok (.iload_n 1, 1) := by decide +kernel
theorem dX9_cell_31 : decode cX9_cell 31 = .ok (.iconst 4, 1) := by decide +kernel
theorem dX9_cell_32 : decode cX9_cell 32 = .ok (.if_icmp .ge 14, 3) := by decide +kernel
theorem dX9_cell_35 : decode cX9_cell 35 = .ok (.iload_n 2, 1) := by decide +kernel
theorem dX9_cell_36 : decode cX9_cell 36 = .ok (.ifCond .lt 10, 3) := by decide +kernel
theorem dX9_cell_39 : decode cX9_cell 39 = .ok (.iload_n 2, 1) := by decide +kernel
theorem dX9_cell_40 : decode cX9_cell 40 = .ok (.sipush 1024, 3) := by decide +kernel
theorem dX9_cell_43 : decode cX9_cell 43 = .ok (.if_icmp .lt 13, 3) := by decide +kernel
theorem dX9_cell_46 : decode cX9_cell 46 = .ok (.new 80, 3) := by decide +kernel
theorem dX9_cell_49 : decode cX9_cell 49 = .ok (.dup, 1) := by decide +kernel
theorem dX9_cell_50 : decode cX9_cell 50 = .ok (.ldc 223, 2) := by decide +kernel
theorem dX9_cell_52 : decode cX9_cell 52 = .ok (.invokespecial 84, 3) := by decide +kernel
theorem dX9_cell_55 : decode cX9_cell 55 = .ok (.athrow, 1) := by decide +kernel
theorem dX9_cell_56 : decode cX9_cell 56 = .ok (.aload_n 3, 1) := by decide +kernel
theorem dX9_cell_57 : decode cX9_cell 57 = .ok (.getfield 225, 3) := by decide +kernel
theorem dX9_cell_60 : decode cX9_cell 60 = .ok (.iload_n 1, 1) := by decide +kernel
theorem dX9_cell_61 : decode cX9_cell 61 = .ok (.sipush 1024, 3) := by decide +kernel
theorem dX9_cell_64 : decode cX9_cell 64 = .ok (.imul, 1) := by decide +kernel
theorem dX9_cell_65 : decode cX9_cell 65 = .ok (.iload_n 2, 1) := by decide +kernel
theorem dX9_cell_66 : decode cX9_cell 66 = .ok (.iadd, 1) := by decide +kernel
theorem dX9_cell_67 : decode cX9_cell 67 = .ok (.iaload, 1) := by decide +kernel
theorem dX9_cell_68 : decode cX9_cell 68 = .ok (.ireturn, 1) := by decide +kernel
theorem dX9_appendBytes_0 : decode cX9_appendBytes 0 = .ok (.bipush 24, 2) := by decide +kernel
theorem dX9_appendBytes_2 : decode cX9_appendBytes 2 = .ok (.istore_n 2, 1) := by decide +kernel
theorem dX9_appendBytes_3 : decode cX9_appendBytes 3 = .ok (.iload_n 2, 1) := by decide +kernel
theorem dX9_appendBytes_4 : decode cX9_appendBytes 4 = .ok (.ifCond .lt 42, 3) := by decide +kernel
theorem dX9_appendBytes_7 : decode cX9_appendBytes 7 = .ok (.aload_n 0, 1) := by decide +kernel
theorem dX9_appendBytes_8 : decode cX9_appendBytes 8 = .ok (.getfield 76, 3) := by decide +kernel
theorem dX9_appendBytes_11 : decode cX9_appendBytes 11 = .ok (.sipush 4096, 3) := by decide +kernel
theorem dX9_appendBytes_14 : decode cX9_appendBytes 14 = .ok (.if_icmp .ge 32, 3) := by decide +kernel
theorem dX9_appendBytes_17 : decode cX9_appendBytes 17 = .ok (.aload_n 0, 1) := by decide +kernel
theorem dX9_appendBytes_18 : decode cX9_appendBytes 18 = .ok (.getfield 9, 3) := by decide +kernel
theorem dX9_appendBytes_21 : decode cX9_appendBytes 21 = .ok (.aload_n 0, 1) := by decide +kernel
theorem dX9_appendBytes_22 : decode cX9_appendBytes 22 = .ok (.getfield 76, 3) := by decide +kernel
theorem dX9_appendBytes_25 : decode cX9_appendBytes 25 = .ok (.iload_n 1, 1) := by decide +kernel
theorem dX9_appendBytes_26 : decode cX9_appendBytes 26 = .ok (.iload_n 2, 1) := by decide +kernel
theorem dX9_appendBytes_27 : decode cX9_appendBytes 27 = .ok (.ishr, 1) := by decide +kernel
theorem dX9_appendBytes_28 : decode cX9_appendBytes 28 = .ok (.i2b, 1) := by decide +kernel
theorem dX9_appendBytes_29 : decode cX9_appendBytes 29 = .ok (.bastore, 1) := by decide +kernel
theorem dX9_appendBytes_30 : decode cX9_appendBytes 30 = .ok (.aload_n 0, 1) := by decide +kernel
theorem dX9_appendBytes_31 : decode cX9_appendBytes 31 = .ok (.dup, 1) := by decide +kernel
theorem dX9_appendBytes_32 : decode cX9_appendBytes 32 = .ok (.getfield 76, 3) := by decide +kernel
theorem dX9_appendBytes_35 : decode cX9_appendBytes 35 = .ok (.iconst 1, 1) := by decide +kernel
theorem dX9_appendBytes_36 : decode cX9_appendBytes 36 = .ok (.iadd, 1) := by decide +kernel
theorem dX9_appendBytes_37 : decode cX9_appendBytes 37 = .ok (.putfield 76, 3) := by decide +kernel
theorem dX9_appendBytes_40 : decode cX9_appendBytes 40 = .ok (.iinc 2 (-8), 3) := by decide +kernel
theorem dX9_appendBytes_43 : decode cX9_appendBytes 43 = .ok (.goto (-40), 3) := by decide +kernel
theorem dX9_appendBytes_46 : decode cX9_appendBytes 46 = .ok (.return_, 1) := by decide +kernel
theorem dX9_forgetPlan_0 : decode cX9_forgetPlan 0 = .ok (.aload_n 0, 1) := by decide +kernel
theorem dX9_forgetPlan_1 : decode cX9_forgetPlan 1 = .ok (.iconst 0, 1) := by decide +kernel
theorem dX9_forgetPlan_2 : decode cX9_forgetPlan 2 = .ok (.putfield 228, 3) := by decide +kernel
theorem dX9_forgetPlan_5 : decode cX9_forgetPlan 5 = .ok (.aload_n 0, 1) := by decide +kernel
theorem dX9_forgetPlan_6 : decode cX9_forgetPlan 6 = .ok (.iconst 0, 1) := by decide +kernel
theorem dX9_forgetPlan_7 : decode cX9_forgetPlan 7 = .ok (.putfield 158, 3) := by decide +kernel
theorem dX9_forgetPlan_10 : decode cX9_forgetPlan 10 = .ok (.aload_n 0, 1) := by decide +kernel
theorem dX9_forgetPlan_11 : decode cX9_forgetPlan 11 = .ok (.iconst 0, 1) := by decide +kernel
theorem dX9_forgetPlan_12 : decode cX9_forgetPlan 12 = .ok (.putfield 130, 3) := by decide +kernel
theorem dX9_forgetPlan_15 : decode cX9_forgetPlan 15 = .ok (.aload_n 0, 1) := by decide +kernel
theorem dX9_forgetPlan_16 : decode cX9_forgetPlan 16 = .ok (.iconst 0, 1) := by decide +kernel
theorem dX9_forgetPlan_17 : decode cX9_forgetPlan 17 = .ok (.putfield 118, 3) := by decide +kernel
theorem dX9_forgetPlan_20 : decode cX9_forgetPlan 20 = .ok (.return_, 1) := by decide +kernel
set_option maxRecDepth 20000 in
theorem ggX9_learnWaits_X8_learn : GoodIn wsX9_learnWaits wsX8_learn := goodIn_r _ [7, 8, 9, 10, 11, 12, 13, 14, 15, 6, 16, 17, 18, 19, 20, 21, 22, 23, 24, 25, 26, 27, 28, 29, 30, 31, 32, 33, 34, 35, 36, 37, 38, 39, 40, 41, 42, 43, 44, 45, 46, 47, 48, 49, 50, 51, 52, 53, 54, 55, 56, 57, 58, 59, 60, 61, 62, 63, 64, 65, 66, 67, 68, 69, 70, 71, 72, 73, 74, 75, 76, 77, 78, 79, 80, 81, 82, 83, 84, 85, 86, 87, 88, 89, 90, 91, 92, 93, 94, 95, 96, 97, 98, 99, 100, 101, 102, 103, 104, 105, 106, 107, 108, 109, 110, 111, 112, 113, 114, 130, 131, 132, 133, 134, 135, 136, 137, 138, 139, 140, 141, 142, 143, 144, 145, 146, 147, 148, 149, 150, 151, 152, 153] (by decide +kernel) (by decide +kernel)
set_option maxRecDepth 20000 in
theorem gX9_learnWaits_X8_learn : GoodIn wsX9_learnWaits (wsV RX9 231 RX8 yX8_learn wsX8_learn) := goodIn_app (goodIn_of _ (by decide +kernel)) ggX9_learnWaits_X8_learn
theorem dX9_learnWaits_0 : decode cX9_learnWaits 0 = .ok (.aload_n 0, 1) := by decide +kernel
theorem dX9_learnWaits_1 : decode cX9_learnWaits 1 = .ok (.getfield 228, 3) := by decide +kernel
theorem dX9_learnWaits_4 : decode cX9_learnWaits 4 = .ok (.ifCond .ne 15, 3) := by decide +kernel
theorem dX9_learnWaits_7 : decode cX9_learnWaits 7 = .ok (.aload_n 0, 1) := by decide +kernel
theorem dX9_learnWaits_8 : decode cX9_learnWaits 8 = .ok (.getfield 54, 3) := by decide +kernel
theorem dX9_learnWaits_11 : decode cX9_learnWaits 11 = .ok (.invokevirtual 231, 3) := by decide +kernel
theorem dX9_learnWaits_14 : decode cX9_learnWaits 14 = .ok (.aload_n 0, 1) := by decide +kernel
theorem dX9_learnWaits_15 : decode cX9_learnWaits 15 = .ok (.iconst 1, 1) := by decide +kernel
theorem dX9_learnWaits_16 : decode cX9_learnWaits 16 = .ok (.putfield 228, 3) := by decide +kernel
theorem dX9_learnWaits_19 : decode cX9_learnWaits 19 = .ok (.return_, 1) := by decide +kernel
set_option maxRecDepth 20000 in
theorem ggX9_countWaits_X9_learnWaits : GoodIn wsX9_countWaits wsX9_learnWaits := goodIn_r _ [11, 12, 3, 13, 14, 15, 16, 17, 18, 19, 20, 21, 22, 23, 24, 25, 26, 27, 28, 29, 30, 31, 32, 33, 34, 35, 36, 37, 38, 39, 40, 41, 42, 43, 44, 10, 45, 46, 47, 48, 49, 50, 51, 52, 53, 54, 55, 56, 57, 58, 59, 60, 61, 62, 63, 64, 65, 66, 67, 68, 69, 70, 71, 72, 73, 74, 75, 76, 77, 78, 79, 80, 81, 82, 83, 84, 85, 86, 87, 88, 89, 90, 91, 92, 93, 94, 95, 96, 97, 98, 99, 100, 101, 102, 103, 104, 105, 106, 107, 108, 109, 110, 111, 112, 113, 114, 115, 116, 117, 118, 119, 120, 121, 122, 123, 124, 125, 126, 127, 128, 129, 130, 131, 132, 133, 134, 135, 136, 137, 138, 142, 143, 144, 145, 146, 147, 148, 149, 150, 151, 139, 140, 141, 152, 153, 154, 155, 156, 157, 158, 159, 160, 161, 162] (by decide +kernel) (by decide +kernel)
set_option maxRecDepth 20000 in
theorem gX9_countWaits_X9_learnWaits : GoodIn wsX9_countWaits (wsV RX9 138 RX9 yX9_learnWaits wsX9_learnWaits) := goodIn_app (goodIn_of _ (by decide +kernel)) ggX9_countWaits_X9_learnWaits
theorem dX9_countWaits_0 : decode cX9_countWaits 0 = .ok (.aload_n 0, 1) := by decide +kernel
theorem dX9_countWaits_1 : decode cX9_countWaits 1 = .ok (.getfield 31, 3) := by decide +kernel
theorem dX9_countWaits_4 : decode cX9_countWaits 4 = .ok (.getfield 124, 3) := by decide +kernel
theorem dX9_countWaits_7 : decode cX9_countWaits 7 = .ok (.ifCond .ne 5, 3) := by decide +kernel
theorem dX9_countWaits_10 : decode cX9_countWaits 10 = .ok (.iconst 0, 1) := by decide +kernel
theorem dX9_countWaits_11 : decode cX9_countWaits 11 = .ok (.ireturn, 1) := by decide +kernel
theorem dX9_countWaits_12 : decode cX9_countWaits 12 = .ok (.aload_n 0, 1) := by decide +kernel
theorem dX9_countWaits_13 : decode cX9_countWaits 13 = .ok (.invokevirtual 138, 3) := by decide +kernel
theorem dX9_countWaits_16 : decode cX9_countWaits 16 = .ok (.iload_n 1, 1) := by decide +kernel
theorem dX9_countWaits_17 : decode cX9_countWaits 17 = .ok (.iconst 3, 1) := by decide +kernel
theorem dX9_countWaits_18 : decode cX9_countWaits 18 = .ok (.if_icmp .ne 13, 3) := by decide +kernel
theorem dX9_countWaits_21 : decode cX9_countWaits 21 = .ok (.aload_n 0, 1) := by decide +kernel
theorem dX9_countWaits_22 : decode cX9_countWaits 22 = .ok (.getfield 54, 3) := by decide +kernel
theorem dX9_countWaits_25 : decode cX9_countWaits 25 = .ok (.getfield 234, 3) := by decide +kernel
theorem dX9_countWaits_28 : decode cX9_countWaits 28 = .ok (.goto 25, 3) := by decide +kernel
theorem dX9_countWaits_31 : decode cX9_countWaits 31 = .ok (.iload_n 1, 1) := by decide +kernel
theorem dX9_countWaits_32 : decode cX9_countWaits 32 = .ok (.iconst 4, 1) := by decide +kernel
theorem dX9_countWaits_33 : decode cX9_countWaits 33 = .ok (.if_icmp .ne 13, 3) := by decide +kernel
theorem dX9_countWaits_36 : decode cX9_countWaits 36 = .ok (.aload_n 0, 1) := by decide +kernel
theorem dX9_countWaits_37 : decode cX9_countWaits 37 = .ok (.getfield 54, 3) := by decide +kernel
theorem dX9_countWaits_40 : decode cX9_countWaits 40 = .ok (.getfield 161, 3) := by decide +kernel
theorem dX9_countWaits_43 : decode cX9_countWaits 43 = .ok (.goto 10, 3) := by decide +kernel
theorem dX9_countWaits_46 : decode cX9_countWaits 46 = .ok (.aload_n 0, 1) := by decide +kernel
theorem dX9_countWaits_47 : decode cX9_countWaits 47 = .ok (.getfield 54, 3) := by decide +kernel
theorem dX9_countWaits_50 : decode cX9_countWaits 50 = .ok (.getfield 164, 3) := by decide +kernel
theorem dX9_countWaits_53 : decode cX9_countWaits 53 = .ok (.ireturn, 1) := by decide +kernel
set_option maxRecDepth 20000 in
theorem ggX9_countLaying_X9_quotient : GoodIn wsX9_countLaying wsX9_quotient := goodIn_r _ [11, 12, 13, 14, 15] (by decide +kernel) (by decide +kernel)
set_option maxRecDepth 20000 in
theorem gX9_countLaying_X9_quotient : GoodIn wsX9_countLaying (va_wsS RX9 238 yX9_quotient wsX9_quotient) := goodIn_app (goodIn_of _ (by decide +kernel)) ggX9_countLaying_X9_quotient
theorem dX9_countLaying_0 : decode cX9_countLaying 0 = .ok (.iload_n 1, 1) := by decide +kernel
theorem dX9_countLaying_1 : decode cX9_countLaying 1 = .ok (.tableswitch 81 6 10 #[35, 40, 57, 65, 73], 35) := by decide +kernel
theorem dX9_countLaying_36 : decode cX9_countLaying 36 = .ok (.aload_n 0, 1) := by decide +kernel
theorem dX9_countLaying_37 : decode cX9_countLaying 37 = .ok (.getfield 130, 3) := by decide +kernel
theorem dX9_countLaying_40 : decode cX9_countLaying 40 = .ok (.ireturn, 1) := by decide +kernel
theorem dX9_countLaying_41 : decode cX9_countLaying 41 = .ok (.aload_n 0, 1) := by decide +kernel
theorem dX9_countLaying_42 : decode cX9_countLaying 42 = .ok (.getfield 63, 3) := by decide +kernel
theorem dX9_countLaying_45 : decode cX9_countLaying 45 = .ok (.getfield 235, 3) := by decide +kernel
theorem dX9_countLaying_48 : decode cX9_countLaying 48 = .ok (.aload_n 0, 1) := by decide +kernel
theorem dX9_countLaying_49 : decode cX9_countLaying 49 = .ok (.getfield 130, 3) := by decide +kernel
theorem dX9_countLaying_52 : decode cX9_countLaying 52 = .ok (.invokestatic 238, 3) := by decide +kernel
theorem dX9_countLaying_55 : decode cX9_countLaying 55 = .ok (.iconst 1, 1) := by decide +kernel
theorem dX9_countLaying_56 : decode cX9_countLaying 56 = .ok (.iadd, 1) := by decide +kernel
theorem dX9_countLaying_57 : decode cX9_countLaying 57 = .ok (.ireturn, 1) := by decide +kernel
theorem dX9_countLaying_58 : decode cX9_countLaying 58 = .ok (.aload_n 0, 1) := by decide +kernel
theorem dX9_countLaying_59 : decode cX9_countLaying 59 = .ok (.getfield 63, 3) := by decide +kernel
theorem dX9_countLaying_62 : decode cX9_countLaying 62 = .ok (.getfield 241, 3) := by decide +kernel
theorem dX9_countLaying_65 : decode cX9_countLaying 65 = .ok (.ireturn, 1) := by decide +kernel
theorem dX9_countLaying_66 : decode cX9_countLaying 66 = .ok (.aload_n 0, 1) := by decide +kernel
theorem dX9_countLaying_67 : decode cX9_countLaying 67 = .ok (.getfield 63, 3) := by decide +kernel
theorem dX9_countLaying_70 : decode cX9_countLaying 70 = .ok (.getfield 235, 3) := by decide +kernel
theorem dX9_countLaying_73 : decode cX9_countLaying 73 = .ok (.ireturn, 1) := by decide +kernel
theorem dX9_countLaying_74 : decode cX9_countLaying 74 = .ok (.aload_n 0, 1) := by decide +kernel
theorem dX9_countLaying_75 : decode cX9_countLaying 75 = .ok (.getfield 72, 3) := by decide +kernel
theorem dX9_countLaying_78 : decode cX9_countLaying 78 = .ok (.getfield 244, 3) := by decide +kernel
theorem dX9_countLaying_81 : decode cX9_countLaying 81 = .ok (.ireturn, 1) := by decide +kernel
theorem dX9_countLaying_82 : decode cX9_countLaying 82 = .ok (.aload_n 0, 1) := by decide +kernel
theorem dX9_countLaying_83 : decode cX9_countLaying 83 = .ok (.getfield 72, 3) := by decide +kernel
theorem dX9_countLaying_86 : decode cX9_countLaying 86 = .ok (.getfield 247, 3) := by decide +kernel
theorem dX9_countLaying_89 : decode cX9_countLaying 89 = .ok (.ireturn, 1) := by decide +kernel
set_option maxRecDepth 20000 in
theorem ggX9_quotient_J9_floorDiv_7cf53 : GoodIn wsX9_quotient wsJ9_floorDiv_7cf53 := goodIn_r _ [4] (by decide +kernel) (by decide +kernel)
set_option maxRecDepth 20000 in
theorem gX9_quotient_J9_floorDiv_7cf53 : GoodIn wsX9_quotient (va_wsS RX9 248 yJ9_floorDiv_7cf53 wsJ9_floorDiv_7cf53) := goodIn_app (goodIn_of _ (by decide +kernel)) ggX9_quotient_J9_floorDiv_7cf53
theorem dX9_quotient_0 : decode cX9_quotient 0 = .ok (.iload_n 1, 1) := by decide +kernel
theorem dX9_quotient_1 : decode cX9_quotient 1 = .ok (.ifCond .le 11, 3) := by decide +kernel
theorem dX9_quotient_4 : decode cX9_quotient 4 = .ok (.iload_n 0, 1) := by decide +kernel
theorem dX9_quotient_5 : decode cX9_quotient 5 = .ok (.iload_n 1, 1) := by decide +kernel
theorem dX9_quotient_6 : decode cX9_quotient 6 = .ok (.invokestatic 248, 3) := by decide +kernel
theorem dX9_quotient_9 : decode cX9_quotient 9 = .ok (.goto 4, 3) := by decide +kernel
theorem dX9_quotient_12 : decode cX9_quotient 12 = .ok (.iconst 0, 1) := by decide +kernel
theorem dX9_quotient_13 : decode cX9_quotient 13 = .ok (.ireturn, 1) := by decide +kernel
set_option maxRecDepth 20000 in
theorem ggX9_rest_J9_floorMod_7cf53 : GoodIn wsX9_rest wsJ9_floorMod_7cf53 := goodIn_r _ [4] (by decide +kernel) (by decide +kernel)
set_option maxRecDepth 20000 in
theorem gX9_rest_J9_floorMod_7cf53 : GoodIn wsX9_rest (va_wsS RX9 251 yJ9_floorMod_7cf53 wsJ9_floorMod_7cf53) := goodIn_app (goodIn_of _ (by decide +kernel)) ggX9_rest_J9_floorMod_7cf53
theorem dX9_rest_0 : decode cX9_rest 0 = .ok (.iload_n 1, 1) := by decide +kernel
theorem dX9_rest_1 : decode cX9_rest 1 = .ok (.ifCond .le 11, 3) := by decide +kernel
theorem dX9_rest_4 : decode cX9_rest 4 = .ok (.iload_n 0, 1) := by decide +kernel
theorem dX9_rest_5 : decode cX9_rest 5 = .ok (.iload_n 1, 1) := by decide +kernel
theorem dX9_rest_6 : decode cX9_rest 6 = .ok (.invokestatic 251, 3) := by decide +kernel
theorem dX9_rest_9 : decode cX9_rest 9 = .ok (.goto 4, 3) := by decide +kernel
theorem dX9_rest_12 : decode cX9_rest 12 = .ok (.iconst 0, 1) := by decide +kernel
theorem dX9_rest_13 : decode cX9_rest 13 = .ok (.ireturn, 1) := by decide +kernel
theorem dX9_isInGroup_0 : decode cX9_isInGroup 0 = .ok (.iload_n 1, 1) := by decide +kernel
theorem dX9_isInGroup_1 : decode cX9_isInGroup 1 = .ok (.tableswitch 60 0 2 #[27, 29, 44], 27) := by decide +kernel
theorem dX9_isInGroup_28 : decode cX9_isInGroup 28 = .ok (.iconst 1, 1) := by decide +kernel
theorem dX9_isInGroup_29 : decode cX9_isInGroup 29 = .ok (.ireturn, 1) := by decide +kernel
theorem dX9_isInGroup_30 : decode cX9_isInGroup 30 = .ok (.iload_n 0, 1) := by decide +kernel
theorem dX9_isInGroup_31 : decode cX9_isInGroup 31 = .ok (.ifCond .eq 8, 3) := by decide +kernel
theorem dX9_isInGroup_34 : decode cX9_isInGroup 34 = .ok (.iload_n 0, 1) := by decide +kernel
theorem dX9_isInGroup_35 : decode cX9_isInGroup 35 = .ok (.iconst 1, 1) := by decide +kernel
theorem dX9_isInGroup_36 : decode cX9_isInGroup 36 = .ok (.if_icmp .ne 7, 3) := by decide +kernel
theorem dX9_isInGroup_39 : decode cX9_isInGroup 39 = .ok (.iconst 1, 1) := by decide +kernel
theorem dX9_isInGroup_40 : decode cX9_isInGroup 40 = .ok (.goto 4, 3) := by decide +kernel
theorem dX9_isInGroup_43 : decode cX9_isInGroup 43 = .ok (.iconst 0, 1) := by decide +kernel
theorem dX9_isInGroup_44 : decode cX9_isInGroup 44 = .ok (.ireturn, 1) := by decide +kernel
theorem dX9_isInGroup_45 : decode cX9_isInGroup 45 = .ok (.iload_n 0, 1) := by decide +kernel
theorem dX9_isInGroup_46 : decode cX9_isInGroup 46 = .ok (.iconst 2, 1) := by decide +kernel
theorem dX9_isInGroup_47 : decode cX9_isInGroup 47 = .ok (.if_icmp .eq 8, 3) := by decide +kernel
theorem dX9_isInGroup_50 : decode cX9_isInGroup 50 = .ok (.iload_n 0, 1) := by decide +kernel
theorem dX9_isInGroup_51 : decode cX9_isInGroup 51 = .ok (.iconst 3, 1) := by decide +kernel
theorem dX9_isInGroup_52 : decode cX9_isInGroup 52 = .ok (.if_icmp .ne 7, 3) := by decide +kernel
theorem dX9_isInGroup_55 : decode cX9_isInGroup 55 = .ok (.iconst 1, 1) := by decide +kernel
theorem dX9_isInGroup_56 : decode cX9_isInGroup 56 = .ok (.goto 4, 3) := by decide +kernel
theorem dX9_isInGroup_59 : decode cX9_isInGroup 59 = .ok (.iconst 0, 1) := by decide +kernel
theorem dX9_isInGroup_60 : decode cX9_isInGroup 60 = .ok (.ireturn, 1) := by decide +kernel
theorem dX9_isInGroup_61 : decode cX9_isInGroup 61 = .ok (.iload_n 0, 1) := by decide +kernel
theorem dX9_isInGroup_62 : decode cX9_isInGroup 62 = .ok (.iconst 1, 1) := by decide +kernel
theorem dX9_isInGroup_63 : decode cX9_isInGroup 63 = .ok (.if_icmp .ne 7, 3) := by decide +kernel
theorem dX9_isInGroup_66 : decode cX9_isInGroup 66 = .ok (.iconst 1, 1) := by decide +kernel
theorem dX9_isInGroup_67 : decode cX9_isInGroup 67 = .ok (.goto 4, 3) := by decide +kernel
theorem dX9_isInGroup_70 : decode cX9_isInGroup 70 = .ok (.iconst 0, 1) := by decide +kernel
theorem dX9_isInGroup_71 : decode cX9_isInGroup 71 = .ok (.ireturn, 1) := by decide +kernel
theorem dX9_roundsOfUse_0 : decode cX9_roundsOfUse 0 = .ok (.iload_n 1, 1) := by decide +kernel
theorem dX9_roundsOfUse_1 : decode cX9_roundsOfUse 1 = .ok (.iload_n 0, 1) := by decide +kernel
theorem dX9_roundsOfUse_2 : decode cX9_roundsOfUse 2 = .ok (.if_icmp .le 7, 3) := by decide +kernel
theorem dX9_roundsOfUse_5 : decode cX9_roundsOfUse 5 = .ok (.iconst 0, 1) := by decide +kernel
theorem dX9_roundsOfUse_6 : decode cX9_roundsOfUse 6 = .ok (.goto 4, 3) := by decide +kernel
theorem dX9_roundsOfUse_9 : decode cX9_roundsOfUse 9 = .ok (.iconst 1, 1) := by decide +kernel
theorem dX9_roundsOfUse_10 : decode cX9_roundsOfUse 10 = .ok (.ireturn, 1) := by decide +kernel
theorem dX10_init_0 : decode cX10_init 0 = .ok (.aload_n 0, 1) := by decide +kernel
theorem dX10_init_1 : decode cX10_init 1 = .ok (.aconst_null, 1) := by decide +kernel
theorem dX10_init_2 : decode cX10_init 2 = .ok (.aconst_null, 1) := by decide +kernel
theorem dX10_init_3 : decode cX10_init 3 = .ok (.iconst 0, 1) := by decide +kernel
theorem dX10_init_4 : decode cX10_init 4 = .ok (.iconst 0, 1) := by decide +kernel
theorem dX10_init_5 : decode cX10_init 5 = .ok (.invokespecial 1, 3) := by decide +kernel
theorem dX10_init_8 : decode cX10_init 8 = .ok (.aload_n 0, 1) := by decide +kernel
theorem dX10_init_9 : decode cX10_init 9 = .ok (.iload_n 1, 1) := by decide +kernel
theorem dX10_init_10 : decode cX10_init 10 = .ok (.putfield 7, 3) := by decide +kernel
theorem dX10_init_13 : decode cX10_init 13 = .ok (.return_, 1) := by decide +kernel
theorem dJ11_isValidCodePoint_9a6ad_0 : decode cJ11_isValidCodePoint_9a6ad 0 = .ok (.iload_n 0, 1) := by decide +kernel
theorem dJ11_isValidCodePoint_9a6ad_1 : decode cJ11_isValidCodePoint_9a6ad 1 = .ok (.bipush 16, 2) := by decide +kernel
theorem dJ11_isValidCodePoint_9a6ad_3 : decode cJ11_isValidCodePoint_9a6ad 3 = .ok (.iushr, 1) := by decide +kernel
theorem dJ11_isValidCodePoint_9a6ad_4 : decode cJ11_isValidCodePoint_9a6ad 4 = .ok (.istore_n 1, 1) := by decide +kernel
theorem dJ11_isValidCodePoint_9a6ad_5 : decode cJ11_isValidCodePoint_9a6ad 5 = .ok (.iload_n 1, 1) := by decide +kernel
theorem dJ11_isValidCodePoint_9a6ad_6 : decode cJ11_isValidCodePoint_9a6ad 6 = .ok (.bipush 17, 2) := by decide +kernel
theorem dJ11_isValidCodePoint_9a6ad_8 : decode cJ11_isValidCodePoint_9a6ad 8 = .ok (.if_icmp .ge 7, 3) := by decide +kernel
theorem dJ11_isValidCodePoint_9a6ad_11 : decode cJ11_isValidCodePoint_9a6ad 11 = .ok (.iconst 1, 1) := by decide +kernel
theorem dJ11_isValidCodePoint_9a6ad_12 : decode cJ11_isValidCodePoint_9a6ad 12 = .ok (.goto 4, 3) := by decide +kernel
theorem dJ11_isValidCodePoint_9a6ad_15 : decode cJ11_isValidCodePoint_9a6ad 15 = .ok (.iconst 0, 1) := by decide +kernel
theorem dJ11_isValidCodePoint_9a6ad_16 : decode cJ11_isValidCodePoint_9a6ad 16 = .ok (.ireturn, 1) := by decide +kernel
theorem dJ11_highSurrogate_5068e_0 : decode cJ11_highSurrogate_5068e 0 = .ok (.iload_n 0, 1) := by decide +kernel
theorem dJ11_highSurrogate_5068e_1 : decode cJ11_highSurrogate_5068e 1 = .ok (.bipush 10, 2) := by decide +kernel
theorem dJ11_highSurrogate_5068e_3 : decode cJ11_highSurrogate_5068e 3 = .ok (.iushr, 1) := by decide +kernel
theorem dJ11_highSurrogate_5068e_4 : decode cJ11_highSurrogate_5068e 4 = .ok (.ldc 110, 2) := by decide +kernel
theorem dJ11_highSurrogate_5068e_6 : decode cJ11_highSurrogate_5068e 6 = .ok (.iadd, 1) := by decide +kernel
theorem dJ11_highSurrogate_5068e_7 : decode cJ11_highSurrogate_5068e 7 = .ok (.i2c, 1) := by decide +kernel
theorem dJ11_highSurrogate_5068e_8 : decode cJ11_highSurrogate_5068e 8 = .ok (.ireturn, 1) := by decide +kernel
theorem dJ11_lowSurrogate_5068e_0 : decode cJ11_lowSurrogate_5068e 0 = .ok (.iload_n 0, 1) := by decide +kernel
theorem dJ11_lowSurrogate_5068e_1 : decode cJ11_lowSurrogate_5068e 1 = .ok (.sipush 1023, 3) := by decide +kernel
theorem dJ11_lowSurrogate_5068e_4 : decode cJ11_lowSurrogate_5068e 4 = .ok (.iand, 1) := by decide +kernel
theorem dJ11_lowSurrogate_5068e_5 : decode cJ11_lowSurrogate_5068e 5 = .ok (.ldc 76, 2) := by decide +kernel
theorem dJ11_lowSurrogate_5068e_7 : decode cJ11_lowSurrogate_5068e 7 = .ok (.iadd, 1) := by decide +kernel
theorem dJ11_lowSurrogate_5068e_8 : decode cJ11_lowSurrogate_5068e 8 = .ok (.i2c, 1) := by decide +kernel
theorem dJ11_lowSurrogate_5068e_9 : decode cJ11_lowSurrogate_5068e 9 = .ok (.ireturn, 1) := by decide +kernel
theorem dJ9_floorDiv_7cf53_0 : decode cJ9_floorDiv_7cf53 0 = .ok (.iload_n 0, 1) := by decide +kernel
theorem dJ9_floorDiv_7cf53_1 : decode cJ9_floorDiv_7cf53 1 = .ok (.iload_n 1, 1) := by decide +kernel
theorem dJ9_floorDiv_7cf53_2 : decode cJ9_floorDiv_7cf53 2 = .ok (.idiv, 1) := by decide +kernel
theorem dJ9_floorDiv_7cf53_3 : decode cJ9_floorDiv_7cf53 3 = .ok (.istore_n 2, 1) := by decide +kernel
theorem dJ9_floorDiv_7cf53_4 : decode cJ9_floorDiv_7cf53 4 = .ok (.iload_n 0, 1) := by decide +kernel
theorem dJ9_floorDiv_7cf53_5 : decode cJ9_floorDiv_7cf53 5 = .ok (.iload_n 1, 1) := by decide +kernel
theorem dJ9_floorDiv_7cf53_6 : decode cJ9_floorDiv_7cf53 6 = .ok (.ixor, 1) := by decide +kernel
theorem dJ9_floorDiv_7cf53_7 : decode cJ9_floorDiv_7cf53 7 = .ok (.ifCond .ge 14, 3) := by decide +kernel
theorem dJ9_floorDiv_7cf53_10 : decode cJ9_floorDiv_7cf53 10 = .ok (.iload_n 2, 1) := by decide +kernel
theorem dJ9_floorDiv_7cf53_11 : decode cJ9_floorDiv_7cf53 11 = .ok (.iload_n 1, 1) := by decide +kernel
theorem dJ9_floorDiv_7cf53_12 : decode cJ9_floorDiv_7cf53 12 = .ok (.imul, 1) := by decide +kernel
theorem dJ9_floorDiv_7cf53_13 : decode cJ9_floorDiv_7cf53 13 = .ok (.iload_n 0, 1) := by decide +kernel
theorem dJ9_floorDiv_7cf53_14 : decode cJ9_floorDiv_7cf53 14 = .ok (.if_icmp .eq 7, 3) := by decide +kernel
theorem dJ9_floorDiv_7cf53_17 : decode cJ9_floorDiv_7cf53 17 = .ok (.iload_n 2, 1) := by decide +kernel
theorem dJ9_floorDiv_7cf53_18 : decode cJ9_floorDiv_7cf53 18 = .ok (.iconst 1, 1) := by decide +kernel
theorem dJ9_floorDiv_7cf53_19 : decode cJ9_floorDiv_7cf53 19 = .ok (.isub, 1) := by decide +kernel
theorem dJ9_floorDiv_7cf53_20 : decode cJ9_floorDiv_7cf53 20 = .ok (.ireturn, 1) := by decide +kernel
theorem dJ9_floorDiv_7cf53_21 : decode cJ9_floorDiv_7cf53 21 = .ok (.iload_n 2, 1) := by decide +kernel
theorem dJ9_floorDiv_7cf53_22 : decode cJ9_floorDiv_7cf53 22 = .ok (.ireturn, 1) := by decide +kernel
theorem dJ9_floorMod_7cf53_0 : decode cJ9_floorMod_7cf53 0 = .ok (.iload_n 0, 1) := by decide +kernel
theorem dJ9_floorMod_7cf53_1 : decode cJ9_floorMod_7cf53 1 = .ok (.iload_n 1, 1) := by decide +kernel
theorem dJ9_floorMod_7cf53_2 : decode cJ9_floorMod_7cf53 2 = .ok (.irem, 1) := by decide +kernel
theorem dJ9_floorMod_7cf53_3 : decode cJ9_floorMod_7cf53 3 = .ok (.istore_n 2, 1) := by decide +kernel
theorem dJ9_floorMod_7cf53_4 : decode cJ9_floorMod_7cf53 4 = .ok (.iload_n 0, 1) := by decide +kernel
theorem dJ9_floorMod_7cf53_5 : decode cJ9_floorMod_7cf53 5 = .ok (.iload_n 1, 1) := by decide +kernel
theorem dJ9_floorMod_7cf53_6 : decode cJ9_floorMod_7cf53 6 = .ok (.ixor, 1) := by decide +kernel
theorem dJ9_floorMod_7cf53_7 : decode cJ9_floorMod_7cf53 7 = .ok (.ifCond .ge 11, 3) := by decide +kernel
theorem dJ9_floorMod_7cf53_10 : decode cJ9_floorMod_7cf53 10 = .ok (.iload_n 2, 1) := by decide +kernel
theorem dJ9_floorMod_7cf53_11 : decode cJ9_floorMod_7cf53 11 = .ok (.ifCond .eq 7, 3) := by decide +kernel
theorem dJ9_floorMod_7cf53_14 : decode cJ9_floorMod_7cf53 14 = .ok (.iload_n 2, 1) := by decide +kernel
theorem dJ9_floorMod_7cf53_15 : decode cJ9_floorMod_7cf53 15 = .ok (.iload_n 1, 1) := by decide +kernel
theorem dJ9_floorMod_7cf53_16 : decode cJ9_floorMod_7cf53 16 = .ok (.iadd, 1) := by decide +kernel
theorem dJ9_floorMod_7cf53_17 : decode cJ9_floorMod_7cf53 17 = .ok (.ireturn, 1) := by decide +kernel
theorem dJ9_floorMod_7cf53_18 : decode cJ9_floorMod_7cf53 18 = .ok (.iload_n 2, 1) := by decide +kernel
theorem dJ9_floorMod_7cf53_19 : decode cJ9_floorMod_7cf53 19 = .ok (.ireturn, 1) := by decide +kernel
theorem dJ9_max_7cf53_0 : decode cJ9_max_7cf53 0 = .ok (.iload_n 0, 1) := by decide +kernel
theorem dJ9_max_7cf53_1 : decode cJ9_max_7cf53 1 = .ok (.iload_n 1, 1) := by decide +kernel
theorem dJ9_max_7cf53_2 : decode cJ9_max_7cf53 2 = .ok (.if_icmp .lt 7, 3) := by decide +kernel
theorem dJ9_max_7cf53_5 : decode cJ9_max_7cf53 5 = .ok (.iload_n 0, 1) := by decide +kernel
theorem dJ9_max_7cf53_6 : decode cJ9_max_7cf53 6 = .ok (.goto 4, 3) := by decide +kernel
theorem dJ9_max_7cf53_9 : decode cJ9_max_7cf53 9 = .ok (.iload_n 1, 1) := by decide +kernel
theorem dJ9_max_7cf53_10 : decode cJ9_max_7cf53 10 = .ok (.ireturn, 1) := by decide +kernel
theorem dJ9_min_7cf53_0 : decode cJ9_min_7cf53 0 = .ok (.iload_n 0, 1) := by decide +kernel
theorem dJ9_min_7cf53_1 : decode cJ9_min_7cf53 1 = .ok (.iload_n 1, 1) := by decide +kernel
theorem dJ9_min_7cf53_2 : decode cJ9_min_7cf53 2 = .ok (.if_icmp .gt 7, 3) := by decide +kernel
theorem dJ9_min_7cf53_5 : decode cJ9_min_7cf53 5 = .ok (.iload_n 0, 1) := by decide +kernel
theorem dJ9_min_7cf53_6 : decode cJ9_min_7cf53 6 = .ok (.goto 4, 3) := by decide +kernel
theorem dJ9_min_7cf53_9 : decode cJ9_min_7cf53 9 = .ok (.iload_n 1, 1) := by decide +kernel
theorem dJ9_min_7cf53_10 : decode cJ9_min_7cf53 10 = .ok (.ireturn, 1) := by decide +kernel
set_option maxRecDepth 20000 in
theorem ggJ0_length_8abf5_J0_coder_7d493 : GoodIn wsJ0_length_8abf5 wsJ0_coder_7d493 := goodIn_r _ [6, 7, 8] (by decide +kernel) (by decide +kernel)
set_option maxRecDepth 20000 in
theorem gJ0_length_8abf5_J0_coder_7d493 : GoodIn wsJ0_length_8abf5 (wsV RJ0 335 RJ0 yJ0_coder_7d493 wsJ0_coder_7d493) := goodIn_app (goodIn_of _ (by decide +kernel)) ggJ0_length_8abf5_J0_coder_7d493
theorem dJ0_length_8abf5_0 : decode cJ0_length_8abf5 0 = .ok (.aload_n 0, 1) := by decide +kernel
theorem dJ0_length_8abf5_1 : decode cJ0_length_8abf5 1 = .ok (.getfield 9, 3) := by decide +kernel
theorem dJ0_length_8abf5_4 : decode cJ0_length_8abf5 4 = .ok (.arraylength, 1) := by decide +kernel
theorem dJ0_length_8abf5_5 : decode cJ0_length_8abf5 5 = .ok (.aload_n 0, 1) := by decide +kernel
theorem dJ0_length_8abf5_6 : decode cJ0_length_8abf5 6 = .ok (.invokevirtual 335, 3) := by decide +kernel
theorem dJ0_length_8abf5_9 : decode cJ0_length_8abf5 9 = .ok (.ishr, 1) := by decide +kernel
theorem dJ0_length_8abf5_10 : decode cJ0_length_8abf5 10 = .ok (.ireturn, 1) := by decide +kernel
set_option maxRecDepth 20000 in
theorem ggJ0_indexOf_0f7a4_J0_indexOf_7cf53 : GoodIn wsJ0_indexOf_0f7a4 wsJ0_indexOf_7cf53 := goodIn_r _ [5, 6, 7, 8, 9, 4, 10, 11, 12, 13, 14, 15, 16, 17, 18, 19, 20, 21, 22, 23, 24, 25, 26, 27, 28, 29, 30, 31, 32, 33, 34, 35, 36, 37, 38, 39, 40, 41, 42, 43, 44, 45, 46, 47, 48, 49, 50, 51, 52, 53, 54, 55, 56, 57, 58, 59, 60, 61, 62, 63, 64, 65, 66, 67, 68, 69, 70, 71, 72, 73, 74, 75, 76, 77, 78, 79, 80, 81, 82, 83, 84, 85] (by decide +kernel) (by decide +kernel)
set_option maxRecDepth 20000 in
theorem gJ0_indexOf_0f7a4_J0_indexOf_7cf53 : GoodIn wsJ0_indexOf_0f7a4 (wsV RJ0 633 RJ0 yJ0_indexOf_7cf53 wsJ0_indexOf_7cf53) := goodIn_app (goodIn_of _ (by decide +kernel)) ggJ0_indexOf_0f7a4_J0_indexOf_7cf53
theorem dJ0_indexOf_0f7a4_0 : decode cJ0_indexOf_0f7a4 0 = .ok (.aload_n 0, 1) := by decide +kernel
theorem dJ0_indexOf_0f7a4_1 : decode cJ0_indexOf_0f7a4 1 = .ok (.iload_n 1, 1) := by decide +kernel
theorem dJ0_indexOf_0f7a4_2 : decode cJ0_indexOf_0f7a4 2 = .ok (.iconst 0, 1) := by decide +kernel
theorem dJ0_indexOf_0f7a4_3 : decode cJ0_indexOf_0f7a4 3 = .ok (.invokevirtual 633, 3) := by decide +kernel
theorem dJ0_indexOf_0f7a4_6 : decode cJ0_indexOf_0f7a4 6 = .ok (.ireturn, 1) := by decide +kernel
set_option maxRecDepth 20000 in
theorem ggJ0_indexOf_7cf53_J0_isLatin1_aae02 : GoodIn wsJ0_indexOf_7cf53 wsJ0_isLatin1_aae02 := goodIn_r _ [6, 7, 8] (by decide +kernel) (by decide +kernel)
set_option maxRecDepth 20000 in
theorem gJ0_indexOf_7cf53_J0_isLatin1_aae02 : GoodIn wsJ0_indexOf_7cf53 (wsV RJ0 492 RJ0 yJ0_isLatin1_aae02 wsJ0_isLatin1_aae02) := goodIn_app (goodIn_of _ (by decide +kernel)) ggJ0_indexOf_7cf53_J0_isLatin1_aae02
set_option maxRecDepth 20000 in
theorem ggJ0_indexOf_7cf53_J0_length_8abf5 : GoodIn wsJ0_indexOf_7cf53 wsJ0_length_8abf5 := goodIn_r _ [12, 1, 13, 14, 15, 5, 16, 7, 8] (by decide +kernel) (by decide +kernel)
set_option maxRecDepth 20000 in
theorem gJ0_indexOf_7cf53_J0_length_8abf5 : GoodIn wsJ0_indexOf_7cf53 (wsV RJ0 505 RJ0 yJ0_length_8abf5 wsJ0_length_8abf5) := goodIn_app (goodIn_of _ (by decide +kernel)) ggJ0_indexOf_7cf53_J0_length_8abf5
set_option maxRecDepth 20000 in
theorem ggJ0_indexOf_7cf53_J1_indexOf_4cfef : GoodIn wsJ0_indexOf_7cf53 wsJ1_indexOf_4cfef := goodIn_r _ [20, 21, 22, 23, 24, 25, 26, 27, 28, 29, 19, 30, 31, 32, 33] (by decide +kernel) (by decide +kernel)
set_option maxRecDepth 20000 in
theorem gJ0_indexOf_7cf53_J1_indexOf_4cfef : GoodIn wsJ0_indexOf_7cf53 (va_wsS RJ0 637 yJ1_indexOf_4cfef wsJ1_indexOf_4cfef) := goodIn_app (goodIn_of _ (by decide +kernel)) ggJ0_indexOf_7cf53_J1_indexOf_4cfef
set_option maxRecDepth 20000 in
theorem ggJ0_indexOf_7cf53_J2_indexOf_4cfef : GoodIn wsJ0_indexOf_7cf53 wsJ2_indexOf_4cfef := goodIn_r _ [37, 38, 22, 23, 24, 39, 26, 27, 40, 41, 42, 36, 43, 44, 45, 46, 47, 48, 49, 50, 51, 5, 52, 53, 54, 55, 56, 57, 58, 59, 60, 61, 62, 63, 64, 65, 66, 67, 68, 69, 70, 71, 72, 73, 74, 75, 76, 77, 78, 79, 80, 81] (by decide +kernel) (by decide +kernel)
set_option maxRecDepth 20000 in
theorem gJ0_indexOf_7cf53_J2_indexOf_4cfef : GoodIn wsJ0_indexOf_7cf53 (va_wsS RJ0 640 yJ2_indexOf_4cfef wsJ2_indexOf_4cfef) := goodIn_app (goodIn_of _ (by decide +kernel)) ggJ0_indexOf_7cf53_J2_indexOf_4cfef
theorem dJ0_indexOf_7cf53_0 : decode cJ0_indexOf_7cf53 0 = .ok (.aload_n 0, 1) := by decide +kernel
theorem dJ0_indexOf_7cf53_1 : decode cJ0_indexOf_7cf53 1 = .ok (.invokevirtual 492, 3) := by decide +kernel
theorem dJ0_indexOf_7cf53_4 : decode cJ0_indexOf_7cf53 4 = .ok (.ifCond .eq 19, 3) := by decide +kernel
theorem dJ0_indexOf_7cf53_7 : decode cJ0_indexOf_7cf53 7 = .ok (.aload_n 0, 1) := by decide +kernel
theorem dJ0_indexOf_7cf53_8 : decode cJ0_indexOf_7cf53 8 = .ok (.getfield 9, 3) := by decide +kernel
theorem dJ0_indexOf_7cf53_11 : decode cJ0_indexOf_7cf53 11 = .ok (.iload_n 1, 1) := by decide +kernel
theorem dJ0_indexOf_7cf53_12 : decode cJ0_indexOf_7cf53 12 = .ok (.iload_n 2, 1) := by decide +kernel
theorem dJ0_indexOf_7cf53_13 : decode cJ0_indexOf_7cf53 13 = .ok (.aload_n 0, 1) := by decide +kernel
theorem dJ0_indexOf_7cf53_14 : decode cJ0_indexOf_7cf53 14 = .ok (.invokevirtual 505, 3) := by decide +kernel
theorem dJ0_indexOf_7cf53_17 : decode cJ0_indexOf_7cf53 17 = .ok (.invokestatic 637, 3) := by decide +kernel
theorem dJ0_indexOf_7cf53_20 : decode cJ0_indexOf_7cf53 20 = .ok (.goto 16, 3) := by decide +kernel
theorem dJ0_indexOf_7cf53_23 : decode cJ0_indexOf_7cf53 23 = .ok (.aload_n 0, 1) := by decide +kernel
theorem dJ0_indexOf_7cf53_24 : decode cJ0_indexOf_7cf53 24 = .ok (.getfield 9, 3) := by decide +kernel
theorem dJ0_indexOf_7cf53_27 : decode cJ0_indexOf_7cf53 27 = .ok (.iload_n 1, 1) := by decide +kernel
theorem dJ0_indexOf_7cf53_28 : decode cJ0_indexOf_7cf53 28 = .ok (.iload_n 2, 1) := by decide +kernel
theorem dJ0_indexOf_7cf53_29 : decode cJ0_indexOf_7cf53 29 = .ok (.aload_n 0, 1) := by decide +kernel
theorem dJ0_indexOf_7cf53_30 : decode cJ0_indexOf_7cf53 30 = .ok (.invokevirtual 505, 3) := by decide +kernel
theorem dJ0_indexOf_7cf53_33 : decode cJ0_indexOf_7cf53 33 = .ok (.invokestatic 640, 3) := by decide +kernel
theorem dJ0_indexOf_7cf53_36 : decode cJ0_indexOf_7cf53 36 = .ok (.ireturn, 1) := by decide +kernel
theorem dJ0_coder_7d493_0 : decode cJ0_coder_7d493 0 = .ok (.getstatic 38, 3) := by decide +kernel
theorem dJ0_coder_7d493_3 : decode cJ0_coder_7d493 3 = .ok (.ifCond .eq 10, 3) := by decide +kernel
theorem dJ0_coder_7d493_6 : decode cJ0_coder_7d493 6 = .ok (.aload_n 0, 1) := by decide +kernel
theorem dJ0_coder_7d493_7 : decode cJ0_coder_7d493 7 = .ok (.getfield 15, 3) := by decide +kernel
theorem dJ0_coder_7d493_10 : decode cJ0_coder_7d493 10 = .ok (.goto 4, 3) := by decide +kernel
theorem dJ0_coder_7d493_13 : decode cJ0_coder_7d493 13 = .ok (.iconst 1, 1) := by decide +kernel
theorem dJ0_coder_7d493_14 : decode cJ0_coder_7d493 14 = .ok (.ireturn, 1) := by decide +kernel
theorem dJ0_isLatin1_aae02_0 : decode cJ0_isLatin1_aae02 0 = .ok (.getstatic 38, 3) := by decide +kernel
theorem dJ0_isLatin1_aae02_3 : decode cJ0_isLatin1_aae02 3 = .ok (.ifCond .eq 14, 3) := by decide +kernel
theorem dJ0_isLatin1_aae02_6 : decode cJ0_isLatin1_aae02 6 = .ok (.aload_n 0, 1) := by decide +kernel
theorem dJ0_isLatin1_aae02_7 : decode cJ0_isLatin1_aae02 7 = .ok (.getfield 15, 3) := by decide +kernel
theorem dJ0_isLatin1_aae02_10 : decode cJ0_isLatin1_aae02 10 = .ok (.ifCond .ne 7, 3) := by decide +kernel
theorem dJ0_isLatin1_aae02_13 : decode cJ0_isLatin1_aae02 13 = .ok (.iconst 1, 1) := by decide +kernel
theorem dJ0_isLatin1_aae02_14 : decode cJ0_isLatin1_aae02 14 = .ok (.goto 4, 3) := by decide +kernel
theorem dJ0_isLatin1_aae02_17 : decode cJ0_isLatin1_aae02 17 = .ok (.iconst 0, 1) := by decide +kernel
theorem dJ0_isLatin1_aae02_18 : decode cJ0_isLatin1_aae02 18 = .ok (.ireturn, 1) := by decide +kernel
set_option maxRecDepth 20000 in
theorem ggJ0_checkBoundsBeginEnd_23922_J3_checkFromToIndex_8c36e : GoodIn wsJ0_checkBoundsBeginEnd_23922 wsJ3_checkFromToIndex_8c36e := goodIn_r _ [5] (by decide +kernel) (by decide +kernel)
set_option maxRecDepth 20000 in
theorem gJ0_checkBoundsBeginEnd_23922_J3_checkFromToIndex_8c36e : GoodIn wsJ0_checkBoundsBeginEnd_23922 (va_wsS RJ0 1062 yJ3_checkFromToIndex_8c36e wsJ3_checkFromToIndex_8c36e) := goodIn_app (goodIn_of _ (by decide +kernel)) ggJ0_checkBoundsBeginEnd_23922_J3_checkFromToIndex_8c36e
theorem dJ0_checkBoundsBeginEnd_23922_0 : decode cJ0_checkBoundsBeginEnd_23922 0 = .ok (.iload_n 0, 1) := by decide +kernel
theorem dJ0_checkBoundsBeginEnd_23922_1 : decode cJ0_checkBoundsBeginEnd_23922 1 = .ok (.iload_n 1, 1) := by decide +kernel
theorem dJ0_checkBoundsBeginEnd_23922_2 : decode cJ0_checkBoundsBeginEnd_23922 2 = .ok (.iload_n 2, 1) := by decide +kernel
theorem dJ0_checkBoundsBeginEnd_23922_3 : decode cJ0_checkBoundsBeginEnd_23922 3 = .ok (.getstatic 1053, 3) := by decide +kernel
theorem dJ0_checkBoundsBeginEnd_23922_6 : decode cJ0_checkBoundsBeginEnd_23922 6 = .ok (.invokestatic 1062, 3) := by decide +kernel
theorem dJ0_checkBoundsBeginEnd_23922_9 : decode cJ0_checkBoundsBeginEnd_23922 9 = .ok (.pop, 1) := by decide +kernel
theorem dJ0_checkBoundsBeginEnd_23922_10 : decode cJ0_checkBoundsBeginEnd_23922 10 = .ok (.return_, 1) := by decide +kernel
theorem dJ1_canEncode_9a6ad_0 : decode cJ1_canEncode_9a6ad 0 = .ok (.iload_n 0, 1) := by decide +kernel
theorem dJ1_canEncode_9a6ad_1 : decode cJ1_canEncode_9a6ad 1 = .ok (.ifCond .lt 14, 3) := by decide +kernel
theorem dJ1_canEncode_9a6ad_4 : decode cJ1_canEncode_9a6ad 4 = .ok (.iload_n 0, 1) := by decide +kernel
theorem dJ1_canEncode_9a6ad_5 : decode cJ1_canEncode_9a6ad 5 = .ok (.sipush 255, 3) := by decide +kernel
theorem dJ1_canEncode_9a6ad_8 : decode cJ1_canEncode_9a6ad 8 = .ok (.if_icmp .gt 7, 3) := by decide +kernel
theorem dJ1_canEncode_9a6ad_11 : decode cJ1_canEncode_9a6ad 11 = .ok (.iconst 1, 1) := by decide +kernel
theorem dJ1_canEncode_9a6ad_12 : decode cJ1_canEncode_9a6ad 12 = .ok (.goto 4, 3) := by decide +kernel
theorem dJ1_canEncode_9a6ad_15 : decode cJ1_canEncode_9a6ad 15 = .ok (.iconst 0, 1) := by decide +kernel
theorem dJ1_canEncode_9a6ad_16 : decode cJ1_canEncode_9a6ad 16 = .ok (.ireturn, 1) := by decide +kernel
set_option maxRecDepth 20000 in
theorem ggJ1_indexOf_4cfef_J1_canEncode_9a6ad : GoodIn wsJ1_indexOf_4cfef wsJ1_canEncode_9a6ad := goodIn_r _ [11] (by decide +kernel) (by decide +kernel)
set_option maxRecDepth 20000 in
theorem gJ1_indexOf_4cfef_J1_canEncode_9a6ad : GoodIn wsJ1_indexOf_4cfef (va_wsS RJ1 88 yJ1_canEncode_9a6ad wsJ1_canEncode_9a6ad) := goodIn_app (goodIn_of _ (by decide +kernel)) ggJ1_indexOf_4cfef_J1_canEncode_9a6ad
set_option maxRecDepth 20000 in
theorem ggJ1_indexOf_4cfef_J1_indexOfChar_4cfef : GoodIn wsJ1_indexOf_4cfef wsJ1_indexOfChar_4cfef := goodIn_r _ [14] (by decide +kernel) (by decide +kernel)
set_option maxRecDepth 20000 in
theorem gJ1_indexOf_4cfef_J1_indexOfChar_4cfef : GoodIn wsJ1_indexOf_4cfef (va_wsS RJ1 95 yJ1_indexOfChar_4cfef wsJ1_indexOfChar_4cfef) := goodIn_app (goodIn_of _ (by decide +kernel)) ggJ1_indexOf_4cfef_J1_indexOfChar_4cfef
theorem dJ1_indexOf_4cfef_0 : decode cJ1_indexOf_4cfef 0 = .ok (.iload_n 1, 1) := by decide +kernel
theorem dJ1_indexOf_4cfef_1 : decode cJ1_indexOf_4cfef 1 = .ok (.invokestatic 88, 3) := by decide +kernel
theorem dJ1_indexOf_4cfef_4 : decode cJ1_indexOf_4cfef 4 = .ok (.ifCond .ne 5, 3) := by decide +kernel
theorem dJ1_indexOf_4cfef_7 : decode cJ1_indexOf_4cfef 7 = .ok (.iconst (-1), 1) := by decide +kernel
theorem dJ1_indexOf_4cfef_8 : decode cJ1_indexOf_4cfef 8 = .ok (.ireturn, 1) := by decide +kernel
theorem dJ1_indexOf_4cfef_9 : decode cJ1_indexOf_4cfef 9 = .ok (.iload_n 2, 1) := by decide +kernel
theorem dJ1_indexOf_4cfef_10 : decode cJ1_indexOf_4cfef 10 = .ok (.iconst 0, 1) := by decide +kernel
theorem dJ1_indexOf_4cfef_11 : decode cJ1_indexOf_4cfef 11 = .ok (.invokestatic 92, 3) := by decide +kernel
theorem dJ1_indexOf_4cfef_14 : decode cJ1_indexOf_4cfef 14 = .ok (.istore_n 2, 1) := by decide +kernel
theorem dJ1_indexOf_4cfef_15 : decode cJ1_indexOf_4cfef 15 = .ok (.iload_n 3, 1) := by decide +kernel
theorem dJ1_indexOf_4cfef_16 : decode cJ1_indexOf_4cfef 16 = .ok (.aload_n 0, 1) := by decide +kernel
theorem dJ1_indexOf_4cfef_17 : decode cJ1_indexOf_4cfef 17 = .ok (.arraylength, 1) := by decide +kernel
theorem dJ1_indexOf_4cfef_18 : decode cJ1_indexOf_4cfef 18 = .ok (.invokestatic 38, 3) := by decide +kernel
theorem dJ1_indexOf_4cfef_21 : decode cJ1_indexOf_4cfef 21 = .ok (.istore_n 3, 1) := by decide +kernel
theorem dJ1_indexOf_4cfef_22 : decode cJ1_indexOf_4cfef 22 = .ok (.iload_n 2, 1) := by decide +kernel
theorem dJ1_indexOf_4cfef_23 : decode cJ1_indexOf_4cfef 23 = .ok (.iload_n 3, 1) := by decide +kernel
theorem dJ1_indexOf_4cfef_24 : decode cJ1_indexOf_4cfef 24 = .ok (.if_icmp .lt 5, 3) := by decide +kernel
theorem dJ1_indexOf_4cfef_27 : decode cJ1_indexOf_4cfef 27 = .ok (.iconst (-1), 1) := by decide +kernel
theorem dJ1_indexOf_4cfef_28 : decode cJ1_indexOf_4cfef 28 = .ok (.ireturn, 1) := by decide +kernel
theorem dJ1_indexOf_4cfef_29 : decode cJ1_indexOf_4cfef 29 = .ok (.aload_n 0, 1) := by decide +kernel
theorem dJ1_indexOf_4cfef_30 : decode cJ1_indexOf_4cfef 30 = .ok (.iload_n 1, 1) := by decide +kernel
theorem dJ1_indexOf_4cfef_31 : decode cJ1_indexOf_4cfef 31 = .ok (.iload_n 2, 1) := by decide +kernel
theorem dJ1_indexOf_4cfef_32 : decode cJ1_indexOf_4cfef 32 = .ok (.iload_n 3, 1) := by decide +kernel
theorem dJ1_indexOf_4cfef_33 : decode cJ1_indexOf_4cfef 33 = .ok (.invokestatic 95, 3) := by decide +kernel
theorem dJ1_indexOf_4cfef_36 : decode cJ1_indexOf_4cfef 36 = .ok (.ireturn, 1) := by decide +kernel
theorem dJ1_indexOfChar_4cfef_0 : decode cJ1_indexOfChar_4cfef 0 = .ok (.iload_n 1, 1) := by decide +kernel
theorem dJ1_indexOfChar_4cfef_1 : decode cJ1_indexOfChar_4cfef 1 = .ok (.i2b, 1) := by decide +kernel
theorem dJ1_indexOfChar_4cfef_2 : decode cJ1_indexOfChar_4cfef 2 = .ok (.istore 4, 2) := by decide +kernel
theorem dJ1_indexOfChar_4cfef_4 : decode cJ1_indexOfChar_4cfef 4 = .ok (.iload_n 2, 1) := by decide +kernel
theorem dJ1_indexOfChar_4cfef_5 : decode cJ1_indexOfChar_4cfef 5 = .ok (.istore 5, 2) := by decide +kernel
theorem dJ1_indexOfChar_4cfef_7 : decode cJ1_indexOfChar_4cfef 7 = .ok (.iload 5, 2) := by decide +kernel
theorem dJ1_indexOfChar_4cfef_9 : decode cJ1_indexOfChar_4cfef 9 = .ok (.iload_n 3, 1) := by decide +kernel
theorem dJ1_indexOfChar_4cfef_10 : decode cJ1_indexOfChar_4cfef 10 = .ok (.if_icmp .ge 21, 3) := by decide +kernel
theorem dJ1_indexOfChar_4cfef_13 : decode cJ1_indexOfChar_4cfef 13 = .ok (.aload_n 0, 1) := by decide +kernel
theorem dJ1_indexOfChar_4cfef_14 : decode cJ1_indexOfChar_4cfef 14 = .ok (.iload 5, 2) := by decide +kernel
theorem dJ1_indexOfChar_4cfef_16 : decode cJ1_indexOfChar_4cfef 16 = .ok (.baload, 1) := by decide +kernel
theorem dJ1_indexOfChar_4cfef_17 : decode cJ1_indexOfChar_4cfef 17 = .ok (.iload 4, 2) := by decide +kernel
theorem dJ1_indexOfChar_4cfef_19 : decode cJ1_indexOfChar_4cfef 19 = .ok (.if_icmp .ne 6, 3) := by decide +kernel
theorem dJ1_indexOfChar_4cfef_22 : decode cJ1_indexOfChar_4cfef 22 = .ok (.iload 5, 2) := by decide +kernel
theorem dJ1_indexOfChar_4cfef_24 : decode cJ1_indexOfChar_4cfef 24 = .ok (.ireturn, 1) := by decide +kernel
theorem dJ1_indexOfChar_4cfef_25 : decode cJ1_indexOfChar_4cfef 25 = .ok (.iinc 5 1, 3) := by decide +kernel
theorem dJ1_indexOfChar_4cfef_28 : decode cJ1_indexOfChar_4cfef 28 = .ok (.goto (-21), 3) := by decide +kernel
theorem dJ1_indexOfChar_4cfef_31 : decode cJ1_indexOfChar_4cfef 31 = .ok (.iconst (-1), 1) := by decide +kernel
theorem dJ1_indexOfChar_4cfef_32 : decode cJ1_indexOfChar_4cfef 32 = .ok (.ireturn, 1) := by decide +kernel
set_option maxRecDepth 20000 in
theorem ggJ2_getChar_3b067_J2_length_9d52b : GoodIn wsJ2_getChar_3b067 wsJ2_length_9d52b := goodIn_r _ [7] (by decide +kernel) (by decide +kernel)
set_option maxRecDepth 20000 in
theorem gJ2_getChar_3b067_J2_length_9d52b : GoodIn wsJ2_getChar_3b067 (va_wsS RJ2 48 yJ2_length_9d52b wsJ2_length_9d52b) := goodIn_app (goodIn_of _ (by decide +kernel)) ggJ2_getChar_3b067_J2_length_9d52b
theorem dJ2_getChar_3b067_0 : decode cJ2_getChar_3b067 0 = .ok (.getstatic 44, 3) := by decide +kernel
theorem dJ2_getChar_3b067_3 : decode cJ2_getChar_3b067 3 = .ok (.ifCond .ne 25, 3) := by decide +kernel
theorem dJ2_getChar_3b067_6 : decode cJ2_getChar_3b067 6 = .ok (.iload_n 1, 1) := by decide +kernel
theorem dJ2_getChar_3b067_7 : decode cJ2_getChar_3b067 7 = .ok (.ifCond .lt 11, 3) := by decide +kernel
theorem dJ2_getChar_3b067_10 : decode cJ2_getChar_3b067 10 = .ok (.iload_n 1, 1) := by decide +kernel
theorem dJ2_getChar_3b067_11 : decode cJ2_getChar_3b067 11 = .ok (.aload_n 0, 1) := by decide +kernel
theorem dJ2_getChar_3b067_12 : decode cJ2_getChar_3b067 12 = .ok (.invokestatic 48, 3) := by decide +kernel
theorem dJ2_getChar_3b067_15 : decode cJ2_getChar_3b067 15 = .ok (.if_icmp .lt 13, 3) := by decide +kernel
theorem dJ2_getChar_3b067_18 : decode cJ2_getChar_3b067 18 = .ok (.new 52, 3) := by decide +kernel
theorem dJ2_getChar_3b067_21 : decode cJ2_getChar_3b067 21 = .ok (.dup, 1) := by decide +kernel
theorem dJ2_getChar_3b067_22 : decode cJ2_getChar_3b067 22 = .ok (.ldc 54, 2) := by decide +kernel
theorem dJ2_getChar_3b067_24 : decode cJ2_getChar_3b067 24 = .ok (.invokespecial 56, 3) := by decide +kernel
theorem dJ2_getChar_3b067_27 : decode cJ2_getChar_3b067 27 = .ok (.athrow, 1) := by decide +kernel
theorem dJ2_getChar_3b067_28 : decode cJ2_getChar_3b067 28 = .ok (.iload_n 1, 1) := by decide +kernel
theorem dJ2_getChar_3b067_29 : decode cJ2_getChar_3b067 29 = .ok (.iconst 1, 1) := by decide +kernel
theorem dJ2_getChar_3b067_30 : decode cJ2_getChar_3b067 30 = .ok (.ishl, 1) := by decide +kernel
theorem dJ2_getChar_3b067_31 : decode cJ2_getChar_3b067 31 = .ok (.istore_n 1, 1) := by decide +kernel
theorem dJ2_getChar_3b067_32 : decode cJ2_getChar_3b067 32 = .ok (.aload_n 0, 1) := by decide +kernel
theorem dJ2_getChar_3b067_33 : decode cJ2_getChar_3b067 33 = .ok (.iload_n 1, 1) := by decide +kernel
theorem dJ2_getChar_3b067_34 : decode cJ2_getChar_3b067 34 = .ok (.iinc 1 1, 3) := by decide +kernel
theorem dJ2_getChar_3b067_37 : decode cJ2_getChar_3b067 37 = .ok (.baload, 1) := by decide +kernel
theorem dJ2_getChar_3b067_38 : decode cJ2_getChar_3b067 38 = .ok (.sipush 255, 3) := by decide +kernel
theorem dJ2_getChar_3b067_41 : decode cJ2_getChar_3b067 41 = .ok (.iand, 1) := by decide +kernel
theorem dJ2_getChar_3b067_42 : decode cJ2_getChar_3b067 42 = .ok (.getstatic 59, 3) := by decide +kernel
theorem dJ2_getChar_3b067_45 : decode cJ2_getChar_3b067 45 = .ok (.ishl, 1) := by decide +kernel
theorem dJ2_getChar_3b067_46 : decode cJ2_getChar_3b067 46 = .ok (.aload_n 0, 1) := by decide +kernel
theorem dJ2_getChar_3b067_47 : decode cJ2_getChar_3b067 47 = .ok (.iload_n 1, 1) := by decide +kernel
theorem dJ2_getChar_3b067_48 : decode cJ2_getChar_3b067 48 = .ok (.baload, 1) := by decide +kernel
theorem dJ2_getChar_3b067_49 : decode cJ2_getChar_3b067 49 = .ok (.sipush 255, 3) := by decide +kernel
theorem dJ2_getChar_3b067_52 : decode cJ2_getChar_3b067 52 = .ok (.iand, 1) := by decide +kernel
theorem dJ2_getChar_3b067_53 : decode cJ2_getChar_3b067 53 = .ok (.getstatic 63, 3) := by decide +kernel
theorem dJ2_getChar_3b067_56 : decode cJ2_getChar_3b067 56 = .ok (.ishl, 1) := by decide +kernel
theorem dJ2_getChar_3b067_57 : decode cJ2_getChar_3b067 57 = .ok (.ior, 1) := by decide +kernel
theorem dJ2_getChar_3b067_58 : decode cJ2_getChar_3b067 58 = .ok (.i2c, 1) := by decide +kernel
theorem dJ2_getChar_3b067_59 : decode cJ2_getChar_3b067 59 = .ok (.ireturn, 1) := by decide +kernel
theorem dJ2_length_9d52b_0 : decode cJ2_length_9d52b 0 = .ok (.aload_n 0, 1) := by decide +kernel
theorem dJ2_length_9d52b_1 : decode cJ2_length_9d52b 1 = .ok (.arraylength, 1) := by decide +kernel
theorem dJ2_length_9d52b_2 : decode cJ2_length_9d52b 2 = .ok (.iconst 1, 1) := by decide +kernel
theorem dJ2_length_9d52b_3 : decode cJ2_length_9d52b 3 = .ok (.ishr, 1) := by decide +kernel
theorem dJ2_length_9d52b_4 : decode cJ2_length_9d52b 4 = .ok (.ireturn, 1) := by decide +kernel
set_option maxRecDepth 20000 in
theorem ggJ2_indexOf_4cfef_J2_indexOfChar_4cfef : GoodIn wsJ2_indexOf_4cfef wsJ2_indexOfChar_4cfef := goodIn_r _ [12, 13, 14, 11, 15, 16, 17, 18, 19, 20, 21, 22, 23, 24, 25, 26, 27, 28, 29, 30, 31, 32, 33, 34, 35, 36] (by decide +kernel) (by decide +kernel)
set_option maxRecDepth 20000 in
theorem gJ2_indexOf_4cfef_J2_indexOfChar_4cfef : GoodIn wsJ2_indexOf_4cfef (va_wsS RJ2 228 yJ2_indexOfChar_4cfef wsJ2_indexOfChar_4cfef) := goodIn_app (goodIn_of _ (by decide +kernel)) ggJ2_indexOf_4cfef_J2_indexOfChar_4cfef
set_option maxRecDepth 20000 in
theorem ggJ2_indexOf_4cfef_J2_indexOfSupplementary_4cfef : GoodIn wsJ2_indexOf_4cfef wsJ2_indexOfSupplementary_4cfef := goodIn_r _ [39, 40, 41, 42, 43, 44, 45, 46, 47, 48, 49, 50, 51, 13, 14, 11, 15, 16, 17, 18, 19, 20, 21, 22, 23, 24, 25, 26, 27, 31, 32, 33, 34, 35, 36] (by decide +kernel) (by decide +kernel)
set_option maxRecDepth 20000 in
theorem gJ2_indexOf_4cfef_J2_indexOfSupplementary_4cfef : GoodIn wsJ2_indexOf_4cfef (va_wsS RJ2 232 yJ2_indexOfSupplementary_4cfef wsJ2_indexOfSupplementary_4cfef) := goodIn_app (goodIn_of _ (by decide +kernel)) ggJ2_indexOf_4cfef_J2_indexOfSupplementary_4cfef
theorem dJ2_indexOf_4cfef_0 : decode cJ2_indexOf_4cfef 0 = .ok (.iload_n 2, 1) := by decide +kernel
theorem dJ2_indexOf_4cfef_1 : decode cJ2_indexOf_4cfef 1 = .ok (.iconst 0, 1) := by decide +kernel
theorem dJ2_indexOf_4cfef_2 : decode cJ2_indexOf_4cfef 2 = .ok (.invokestatic 224, 3) := by decide +kernel
theorem dJ2_indexOf_4cfef_5 : decode cJ2_indexOf_4cfef 5 = .ok (.istore_n 2, 1) := by decide +kernel
theorem dJ2_indexOf_4cfef_6 : decode cJ2_indexOf_4cfef 6 = .ok (.iload_n 3, 1) := by decide +kernel
theorem dJ2_indexOf_4cfef_7 : decode cJ2_indexOf_4cfef 7 = .ok (.aload_n 0, 1) := by decide +kernel
theorem dJ2_indexOf_4cfef_8 : decode cJ2_indexOf_4cfef 8 = .ok (.arraylength, 1) := by decide +kernel
theorem dJ2_indexOf_4cfef_9 : decode cJ2_indexOf_4cfef 9 = .ok (.iconst 1, 1) := by decide +kernel
theorem dJ2_indexOf_4cfef_10 : decode cJ2_indexOf_4cfef 10 = .ok (.ishr, 1) := by decide +kernel
theorem dJ2_indexOf_4cfef_11 : decode cJ2_indexOf_4cfef 11 = .ok (.invokestatic 183, 3) := by decide +kernel
theorem dJ2_indexOf_4cfef_14 : decode cJ2_indexOf_4cfef 14 = .ok (.istore_n 3, 1) := by decide +kernel
theorem dJ2_indexOf_4cfef_15 : decode cJ2_indexOf_4cfef 15 = .ok (.iload_n 2, 1) := by decide +kernel
theorem dJ2_indexOf_4cfef_16 : decode cJ2_indexOf_4cfef 16 = .ok (.iload_n 3, 1) := by decide +kernel
theorem dJ2_indexOf_4cfef_17 : decode cJ2_indexOf_4cfef 17 = .ok (.if_icmp .lt 5, 3) := by decide +kernel
theorem dJ2_indexOf_4cfef_20 : decode cJ2_indexOf_4cfef 20 = .ok (.iconst (-1), 1) := by decide +kernel
theorem dJ2_indexOf_4cfef_21 : decode cJ2_indexOf_4cfef 21 = .ok (.ireturn, 1) := by decide +kernel
theorem dJ2_indexOf_4cfef_22 : decode cJ2_indexOf_4cfef 22 = .ok (.iload_n 1, 1) := by decide +kernel
theorem dJ2_indexOf_4cfef_23 : decode cJ2_indexOf_4cfef 23 = .ok (.ldc 227, 2) := by decide +kernel
theorem dJ2_indexOf_4cfef_25 : decode cJ2_indexOf_4cfef 25 = .ok (.if_icmp .ge 11, 3) := by decide +kernel
theorem dJ2_indexOf_4cfef_28 : decode cJ2_indexOf_4cfef 28 = .ok (.aload_n 0, 1) := by decide +kernel
theorem dJ2_indexOf_4cfef_29 : decode cJ2_indexOf_4cfef 29 = .ok (.iload_n 1, 1) := by decide +kernel
theorem dJ2_indexOf_4cfef_30 : decode cJ2_indexOf_4cfef 30 = .ok (.iload_n 2, 1) := by decide +kernel
theorem dJ2_indexOf_4cfef_31 : decode cJ2_indexOf_4cfef 31 = .ok (.iload_n 3, 1) := by decide +kernel
theorem dJ2_indexOf_4cfef_32 : decode cJ2_indexOf_4cfef 32 = .ok (.invokestatic 228, 3) := by decide +kernel
theorem dJ2_indexOf_4cfef_35 : decode cJ2_indexOf_4cfef 35 = .ok (.ireturn, 1) := by decide +kernel
theorem dJ2_indexOf_4cfef_36 : decode cJ2_indexOf_4cfef 36 = .ok (.aload_n 0, 1) := by decide +kernel
theorem dJ2_indexOf_4cfef_37 : decode cJ2_indexOf_4cfef 37 = .ok (.iload_n 1, 1) := by decide +kernel
theorem dJ2_indexOf_4cfef_38 : decode cJ2_indexOf_4cfef 38 = .ok (.iload_n 2, 1) := by decide +kernel
theorem dJ2_indexOf_4cfef_39 : decode cJ2_indexOf_4cfef 39 = .ok (.iload_n 3, 1) := by decide +kernel
theorem dJ2_indexOf_4cfef_40 : decode cJ2_indexOf_4cfef 40 = .ok (.invokestatic 232, 3) := by decide +kernel
theorem dJ2_indexOf_4cfef_43 : decode cJ2_indexOf_4cfef 43 = .ok (.ireturn, 1) := by decide +kernel
set_option maxRecDepth 20000 in
theorem ggJ2_indexOfChar_4cfef_J2_checkBoundsBeginEnd_d044e : GoodIn wsJ2_indexOfChar_4cfef wsJ2_checkBoundsBeginEnd_d044e := goodIn_r _ [4, 5, 6, 3, 7, 8, 9, 10, 11, 12, 13, 14, 15, 16] (by decide +kernel) (by decide +kernel)
set_option maxRecDepth 20000 in
theorem gJ2_indexOfChar_4cfef_J2_checkBoundsBeginEnd_d044e : GoodIn wsJ2_indexOfChar_4cfef (va_wsS RJ2 96 yJ2_checkBoundsBeginEnd_d044e wsJ2_checkBoundsBeginEnd_d044e) := goodIn_app (goodIn_of _ (by decide +kernel)) ggJ2_indexOfChar_4cfef_J2_checkBoundsBeginEnd_d044e
set_option maxRecDepth 20000 in
theorem ggJ2_indexOfChar_4cfef_J2_indexOfCharUnsafe_4cfef : GoodIn wsJ2_indexOfChar_4cfef wsJ2_indexOfCharUnsafe_4cfef := goodIn_r _ [19, 20, 21, 3, 22, 23, 24, 25, 5, 6, 7] (by decide +kernel) (by decide +kernel)
set_option maxRecDepth 20000 in
theorem gJ2_indexOfChar_4cfef_J2_indexOfCharUnsafe_4cfef : GoodIn wsJ2_indexOfChar_4cfef (va_wsS RJ2 244 yJ2_indexOfCharUnsafe_4cfef wsJ2_indexOfCharUnsafe_4cfef) := goodIn_app (goodIn_of _ (by decide +kernel)) ggJ2_indexOfChar_4cfef_J2_indexOfCharUnsafe_4cfef
theorem dJ2_indexOfChar_4cfef_0 : decode cJ2_indexOfChar_4cfef 0 = .ok (.iload_n 2, 1) := by decide +kernel
theorem dJ2_indexOfChar_4cfef_1 : decode cJ2_indexOfChar_4cfef 1 = .ok (.iload_n 3, 1) := by decide +kernel
theorem dJ2_indexOfChar_4cfef_2 : decode cJ2_indexOfChar_4cfef 2 = .ok (.aload_n 0, 1) := by decide +kernel
theorem dJ2_indexOfChar_4cfef_3 : decode cJ2_indexOfChar_4cfef 3 = .ok (.invokestatic 96, 3) := by decide +kernel
theorem dJ2_indexOfChar_4cfef_6 : decode cJ2_indexOfChar_4cfef 6 = .ok (.aload_n 0, 1) := by decide +kernel
theorem dJ2_indexOfChar_4cfef_7 : decode cJ2_indexOfChar_4cfef 7 = .ok (.iload_n 1, 1) := by decide +kernel
theorem dJ2_indexOfChar_4cfef_8 : decode cJ2_indexOfChar_4cfef 8 = .ok (.iload_n 2, 1) := by decide +kernel
theorem dJ2_indexOfChar_4cfef_9 : decode cJ2_indexOfChar_4cfef 9 = .ok (.iload_n 3, 1) := by decide +kernel
theorem dJ2_indexOfChar_4cfef_10 : decode cJ2_indexOfChar_4cfef 10 = .ok (.invokestatic 244, 3) := by decide +kernel
theorem dJ2_indexOfChar_4cfef_13 : decode cJ2_indexOfChar_4cfef 13 = .ok (.ireturn, 1) := by decide +kernel
set_option maxRecDepth 20000 in
theorem ggJ2_indexOfCharUnsafe_4cfef_J2_getChar_3b067 : GoodIn wsJ2_indexOfCharUnsafe_4cfef wsJ2_getChar_3b067 := goodIn_r _ [4, 5, 6, 7, 8, 9, 3, 10] (by decide +kernel) (by decide +kernel)
set_option maxRecDepth 20000 in
theorem gJ2_indexOfCharUnsafe_4cfef_J2_getChar_3b067 : GoodIn wsJ2_indexOfCharUnsafe_4cfef (va_wsS RJ2 71 yJ2_getChar_3b067 wsJ2_getChar_3b067) := goodIn_app (goodIn_of _ (by decide +kernel)) ggJ2_indexOfCharUnsafe_4cfef_J2_getChar_3b067
theorem dJ2_indexOfCharUnsafe_4cfef_0 : decode cJ2_indexOfCharUnsafe_4cfef 0 = .ok (.iload_n 2, 1) := by decide +kernel
theorem dJ2_indexOfCharUnsafe_4cfef_1 : decode cJ2_indexOfCharUnsafe_4cfef 1 = .ok (.istore 4, 2) := by decide +kernel
theorem dJ2_indexOfCharUnsafe_4cfef_3 : decode cJ2_indexOfCharUnsafe_4cfef 3 = .ok (.iload 4, 2) := by decide +kernel
theorem dJ2_indexOfCharUnsafe_4cfef_5 : decode cJ2_indexOfCharUnsafe_4cfef 5 = .ok (.iload_n 3, 1) := by decide +kernel
theorem dJ2_indexOfCharUnsafe_4cfef_6 : decode cJ2_indexOfCharUnsafe_4cfef 6 = .ok (.if_icmp .ge 22, 3) := by decide +kernel
theorem dJ2_indexOfCharUnsafe_4cfef_9 : decode cJ2_indexOfCharUnsafe_4cfef 9 = .ok (.aload_n 0, 1) := by decide +kernel
theorem dJ2_indexOfCharUnsafe_4cfef_10 : decode cJ2_indexOfCharUnsafe_4cfef 10 = .ok (.iload 4, 2) := by decide +kernel
theorem dJ2_indexOfCharUnsafe_4cfef_12 : decode cJ2_indexOfCharUnsafe_4cfef 12 = .ok (.invokestatic 71, 3) := by decide +kernel
theorem dJ2_indexOfCharUnsafe_4cfef_15 : decode cJ2_indexOfCharUnsafe_4cfef 15 = .ok (.iload_n 1, 1) := by decide +kernel
theorem dJ2_indexOfCharUnsafe_4cfef_16 : decode cJ2_indexOfCharUnsafe_4cfef 16 = .ok (.if_icmp .ne 6, 3) := by decide +kernel
theorem dJ2_indexOfCharUnsafe_4cfef_19 : decode cJ2_indexOfCharUnsafe_4cfef 19 = .ok (.iload 4, 2) := by decide +kernel
theorem dJ2_indexOfCharUnsafe_4cfef_21 : decode cJ2_indexOfCharUnsafe_4cfef 21 = .ok (.ireturn, 1) := by decide +kernel
theorem dJ2_indexOfCharUnsafe_4cfef_22 : decode cJ2_indexOfCharUnsafe_4cfef 22 = .ok (.iinc 4 1, 3) := by decide +kernel
theorem dJ2_indexOfCharUnsafe_4cfef_25 : decode cJ2_indexOfCharUnsafe_4cfef 25 = .ok (.goto (-22), 3) := by decide +kernel
theorem dJ2_indexOfCharUnsafe_4cfef_28 : decode cJ2_indexOfCharUnsafe_4cfef 28 = .ok (.iconst (-1), 1) := by decide +kernel
theorem dJ2_indexOfCharUnsafe_4cfef_29 : decode cJ2_indexOfCharUnsafe_4cfef 29 = .ok (.ireturn, 1) := by decide +kernel
set_option maxRecDepth 20000 in
theorem ggJ2_indexOfSupplementary_4cfef_J11_isValidCodePoint_9a6ad : GoodIn wsJ2_indexOfSupplementary_4cfef wsJ11_isValidCodePoint_9a6ad := goodIn_r _ [4] (by decide +kernel) (by decide +kernel)
set_option maxRecDepth 20000 in
theorem gJ2_indexOfSupplementary_4cfef_J11_isValidCodePoint_9a6ad : GoodIn wsJ2_indexOfSupplementary_4cfef (va_wsS RJ2 164 yJ11_isValidCodePoint_9a6ad wsJ11_isValidCodePoint_9a6ad) := goodIn_app (goodIn_of _ (by decide +kernel)) ggJ2_indexOfSupplementary_4cfef_J11_isValidCodePoint_9a6ad
set_option maxRecDepth 20000 in
theorem ggJ2_indexOfSupplementary_4cfef_J11_highSurrogate_5068e : GoodIn wsJ2_indexOfSupplementary_4cfef wsJ11_highSurrogate_5068e := goodIn_r _ [7, 8] (by decide +kernel) (by decide +kernel)
set_option maxRecDepth 20000 in
theorem gJ2_indexOfSupplementary_4cfef_J11_highSurrogate_5068e : GoodIn wsJ2_indexOfSupplementary_4cfef (va_wsS RJ2 157 yJ11_highSurrogate_5068e wsJ11_highSurrogate_5068e) := goodIn_app (goodIn_of _ (by decide +kernel)) ggJ2_indexOfSupplementary_4cfef_J11_highSurrogate_5068e
set_option maxRecDepth 20000 in
theorem ggJ2_indexOfSupplementary_4cfef_J11_lowSurrogate_5068e : GoodIn wsJ2_indexOfSupplementary_4cfef wsJ11_lowSurrogate_5068e := goodIn_r _ [11, 12] (by decide +kernel) (by decide +kernel)
set_option maxRecDepth 20000 in
theorem gJ2_indexOfSupplementary_4cfef_J11_lowSurrogate_5068e : GoodIn wsJ2_indexOfSupplementary_4cfef (va_wsS RJ2 161 yJ11_lowSurrogate_5068e wsJ11_lowSurrogate_5068e) := goodIn_app (goodIn_of _ (by decide +kernel)) ggJ2_indexOfSupplementary_4cfef_J11_lowSurrogate_5068e
set_option maxRecDepth 20000 in
theorem ggJ2_indexOfSupplementary_4cfef_J2_checkBoundsBeginEnd_d044e : GoodIn wsJ2_indexOfSupplementary_4cfef wsJ2_checkBoundsBeginEnd_d044e := goodIn_r _ [16, 17, 18, 15, 19, 20, 21, 22, 23, 24, 25, 26, 27, 28] (by decide +kernel) (by decide +kernel)
set_option maxRecDepth 20000 in
theorem gJ2_indexOfSupplementary_4cfef_J2_checkBoundsBeginEnd_d044e : GoodIn wsJ2_indexOfSupplementary_4cfef (va_wsS RJ2 96 yJ2_checkBoundsBeginEnd_d044e wsJ2_checkBoundsBeginEnd_d044e) := goodIn_app (goodIn_of _ (by decide +kernel)) ggJ2_indexOfSupplementary_4cfef_J2_checkBoundsBeginEnd_d044e
set_option maxRecDepth 20000 in
theorem ggJ2_indexOfSupplementary_4cfef_J2_getChar_3b067 : GoodIn wsJ2_indexOfSupplementary_4cfef wsJ2_getChar_3b067 := goodIn_r _ [31, 32, 33, 34, 17, 18, 15, 19] (by decide +kernel) (by decide +kernel)
set_option maxRecDepth 20000 in
theorem gJ2_indexOfSupplementary_4cfef_J2_getChar_3b067 : GoodIn wsJ2_indexOfSupplementary_4cfef (va_wsS RJ2 71 yJ2_getChar_3b067 wsJ2_getChar_3b067) := goodIn_app (goodIn_of _ (by decide +kernel)) ggJ2_indexOfSupplementary_4cfef_J2_getChar_3b067
theorem dJ2_indexOfSupplementary_4cfef_0 : decode cJ2_indexOfSupplementary_4cfef 0 = .ok (.iload_n 1, 1) := by decide +kernel
theorem dJ2_indexOfSupplementary_4cfef_1 : decode cJ2_indexOfSupplementary_4cfef 1 = .ok (.invokestatic 164, 3) := by decide +kernel
theorem dJ2_indexOfSupplementary_4cfef_4 : decode cJ2_indexOfSupplementary_4cfef 4 = .ok (.ifCond .eq 65, 3) := by decide +kernel
theorem dJ2_indexOfSupplementary_4cfef_7 : decode cJ2_indexOfSupplementary_4cfef 7 = .ok (.iload_n 1, 1) := by decide +kernel
theorem dJ2_indexOfSupplementary_4cfef_8 : decode cJ2_indexOfSupplementary_4cfef 8 = .ok (.invokestatic 157, 3) := by decide +kernel
theorem dJ2_indexOfSupplementary_4cfef_11 : decode cJ2_indexOfSupplementary_4cfef 11 = .ok (.istore 4, 2) := by decide +kernel
theorem dJ2_indexOfSupplementary_4cfef_13 : decode cJ2_indexOfSupplementary_4cfef 13 = .ok (.iload_n 1, 1) := by decide +kernel
theorem dJ2_indexOfSupplementary_4cfef_14 : decode cJ2_indexOfSupplementary_4cfef 14 = .ok (.invokestatic 161, 3) := by decide +kernel
theorem dJ2_indexOfSupplementary_4cfef_17 : decode cJ2_indexOfSupplementary_4cfef 17 = .ok (.istore 5, 2) := by decide +kernel
theorem dJ2_indexOfSupplementary_4cfef_19 : decode cJ2_indexOfSupplementary_4cfef 19 = .ok (.iload_n 2, 1) := by decide +kernel
theorem dJ2_indexOfSupplementary_4cfef_20 : decode cJ2_indexOfSupplementary_4cfef 20 = .ok (.iload_n 3, 1) := by decide +kernel
theorem dJ2_indexOfSupplementary_4cfef_21 : decode cJ2_indexOfSupplementary_4cfef 21 = .ok (.aload_n 0, 1) := by decide +kernel
theorem dJ2_indexOfSupplementary_4cfef_22 : decode cJ2_indexOfSupplementary_4cfef 22 = .ok (.invokestatic 96, 3) := by decide +kernel
theorem dJ2_indexOfSupplementary_4cfef_25 : decode cJ2_indexOfSupplementary_4cfef 25 = .ok (.iload_n 2, 1) := by decide +kernel
theorem dJ2_indexOfSupplementary_4cfef_26 : decode cJ2_indexOfSupplementary_4cfef 26 = .ok (.istore 6, 2) := by decide +kernel
theorem dJ2_indexOfSupplementary_4cfef_28 : decode cJ2_indexOfSupplementary_4cfef 28 = .ok (.iload 6, 2) := by decide +kernel
theorem dJ2_indexOfSupplementary_4cfef_30 : decode cJ2_indexOfSupplementary_4cfef 30 = .ok (.iload_n 3, 1) := by decide +kernel
theorem dJ2_indexOfSupplementary_4cfef_31 : decode cJ2_indexOfSupplementary_4cfef 31 = .ok (.iconst 1, 1) := by decide +kernel
theorem dJ2_indexOfSupplementary_4cfef_32 : decode cJ2_indexOfSupplementary_4cfef 32 = .ok (.isub, 1) := by decide +kernel
theorem dJ2_indexOfSupplementary_4cfef_33 : decode cJ2_indexOfSupplementary_4cfef 33 = .ok (.if_icmp .ge 36, 3) := by decide +kernel
theorem dJ2_indexOfSupplementary_4cfef_36 : decode cJ2_indexOfSupplementary_4cfef 36 = .ok (.aload_n 0, 1) := by decide +kernel
theorem dJ2_indexOfSupplementary_4cfef_37 : decode cJ2_indexOfSupplementary_4cfef 37 = .ok (.iload 6, 2) := by decide +kernel
theorem dJ2_indexOfSupplementary_4cfef_39 : decode cJ2_indexOfSupplementary_4cfef 39 = .ok (.invokestatic 71, 3) := by decide +kernel
theorem dJ2_indexOfSupplementary_4cfef_42 : decode cJ2_indexOfSupplementary_4cfef 42 = .ok (.iload 4, 2) := by decide +kernel
theorem dJ2_indexOfSupplementary_4cfef_44 : decode cJ2_indexOfSupplementary_4cfef 44 = .ok (.if_icmp .ne 19, 3) := by decide +kernel
theorem dJ2_indexOfSupplementary_4cfef_47 : decode cJ2_indexOfSupplementary_4cfef 47 = .ok (.aload_n 0, 1) := by decide +kernel
theorem dJ2_indexOfSupplementary_4cfef_48 : decode cJ2_indexOfSupplementary_4cfef 48 = .ok (.iload 6, 2) := by decide +kernel
theorem dJ2_indexOfSupplementary_4cfef_50 : decode cJ2_indexOfSupplementary_4cfef 50 = .ok (.iconst 1, 1) := by decide +kernel
theorem dJ2_indexOfSupplementary_4cfef_51 : decode cJ2_indexOfSupplementary_4cfef 51 = .ok (.iadd, 1) := by decide +kernel
theorem dJ2_indexOfSupplementary_4cfef_52 : decode cJ2_indexOfSupplementary_4cfef 52 = .ok (.invokestatic 71, 3) := by decide +kernel
theorem dJ2_indexOfSupplementary_4cfef_55 : decode cJ2_indexOfSupplementary_4cfef 55 = .ok (.iload 5, 2) := by decide +kernel
theorem dJ2_indexOfSupplementary_4cfef_57 : decode cJ2_indexOfSupplementary_4cfef 57 = .ok (.if_icmp .ne 6, 3) := by decide +kernel
theorem dJ2_indexOfSupplementary_4cfef_60 : decode cJ2_indexOfSupplementary_4cfef 60 = .ok (.iload 6, 2) := by decide +kernel
theorem dJ2_indexOfSupplementary_4cfef_62 : decode cJ2_indexOfSupplementary_4cfef 62 = .ok (.ireturn, 1) := by decide +kernel
theorem dJ2_indexOfSupplementary_4cfef_63 : decode cJ2_indexOfSupplementary_4cfef 63 = .ok (.iinc 6 1, 3) := by decide +kernel
theorem dJ2_indexOfSupplementary_4cfef_66 : decode cJ2_indexOfSupplementary_4cfef 66 = .ok (.goto (-38), 3) := by decide +kernel
theorem dJ2_indexOfSupplementary_4cfef_69 : decode cJ2_indexOfSupplementary_4cfef 69 = .ok (.iconst (-1), 1) := by decide +kernel
theorem dJ2_indexOfSupplementary_4cfef_70 : decode cJ2_indexOfSupplementary_4cfef 70 = .ok (.ireturn, 1) := by decide +kernel
set_option maxRecDepth 20000 in
theorem ggJ2_checkBoundsBeginEnd_d044e_J2_length_9d52b : GoodIn wsJ2_checkBoundsBeginEnd_d044e wsJ2_length_9d52b := goodIn_r _ [4] (by decide +kernel) (by decide +kernel)
set_option maxRecDepth 20000 in
theorem gJ2_checkBoundsBeginEnd_d044e_J2_length_9d52b : GoodIn wsJ2_checkBoundsBeginEnd_d044e (va_wsS RJ2 48 yJ2_length_9d52b wsJ2_length_9d52b) := goodIn_app (goodIn_of _ (by decide +kernel)) ggJ2_checkBoundsBeginEnd_d044e_J2_length_9d52b
set_option maxRecDepth 20000 in
theorem ggJ2_checkBoundsBeginEnd_d044e_J0_checkBoundsBeginEnd_23922 : GoodIn wsJ2_checkBoundsBeginEnd_d044e wsJ0_checkBoundsBeginEnd_23922 := goodIn_r _ [8, 9, 10, 11, 12, 13] (by decide +kernel) (by decide +kernel)
set_option maxRecDepth 20000 in
theorem gJ2_checkBoundsBeginEnd_d044e_J0_checkBoundsBeginEnd_23922 : GoodIn wsJ2_checkBoundsBeginEnd_d044e (va_wsS RJ2 241 yJ0_checkBoundsBeginEnd_23922 wsJ0_checkBoundsBeginEnd_23922) := goodIn_app (goodIn_of _ (by decide +kernel)) ggJ2_checkBoundsBeginEnd_d044e_J0_checkBoundsBeginEnd_23922
theorem dJ2_checkBoundsBeginEnd_d044e_0 : decode cJ2_checkBoundsBeginEnd_d044e 0 = .ok (.iload_n 0, 1) := by decide +kernel
theorem dJ2_checkBoundsBeginEnd_d044e_1 : decode cJ2_checkBoundsBeginEnd_d044e 1 = .ok (.iload_n 1, 1) := by decide +kernel
theorem dJ2_checkBoundsBeginEnd_d044e_2 : decode cJ2_checkBoundsBeginEnd_d044e 2 = .ok (.aload_n 2, 1) := by decide +kernel
theorem dJ2_checkBoundsBeginEnd_d044e_3 : decode cJ2_checkBoundsBeginEnd_d044e 3 = .ok (.invokestatic 48, 3) := by decide +kernel
theorem dJ2_checkBoundsBeginEnd_d044e_6 : decode cJ2_checkBoundsBeginEnd_d044e 6 = .ok (.invokestatic 241, 3) := by decide +kernel
theorem dJ2_checkBoundsBeginEnd_d044e_9 : decode cJ2_checkBoundsBeginEnd_d044e 9 = .ok (.return_, 1) := by decide +kernel
theorem dJ7_fill_53178_0 : decode cJ7_fill_53178 0 = .ok (.iconst 0, 1) := by decide +kernel
theorem dJ7_fill_53178_1 : decode cJ7_fill_53178 1 = .ok (.istore_n 2, 1) := by decide +kernel
theorem dJ7_fill_53178_2 : decode cJ7_fill_53178 2 = .ok (.aload_n 0, 1) := by decide +kernel
theorem dJ7_fill_53178_3 : decode cJ7_fill_53178 3 = .ok (.arraylength, 1) := by decide +kernel
theorem dJ7_fill_53178_4 : decode cJ7_fill_53178 4 = .ok (.istore_n 3, 1) := by decide +kernel
theorem dJ7_fill_53178_5 : decode cJ7_fill_53178 5 = .ok (.iload_n 2, 1) := by decide +kernel
theorem dJ7_fill_53178_6 : decode cJ7_fill_53178 6 = .ok (.iload_n 3, 1) := by decide +kernel
theorem dJ7_fill_53178_7 : decode cJ7_fill_53178 7 = .ok (.if_icmp .ge 13, 3) := by decide +kernel
theorem dJ7_fill_53178_10 : decode cJ7_fill_53178 10 = .ok (.aload_n 0, 1) := by decide +kernel
theorem dJ7_fill_53178_11 : decode cJ7_fill_53178 11 = .ok (.iload_n 2, 1) := by decide +kernel
theorem dJ7_fill_53178_12 : decode cJ7_fill_53178 12 = .ok (.iload_n 1, 1) := by decide +kernel
theorem dJ7_fill_53178_13 : decode cJ7_fill_53178 13 = .ok (.iastore, 1) := by decide +kernel
theorem dJ7_fill_53178_14 : decode cJ7_fill_53178 14 = .ok (.iinc 2 1, 3) := by decide +kernel
theorem dJ7_fill_53178_17 : decode cJ7_fill_53178 17 = .ok (.goto (-12), 3) := by decide +kernel
theorem dJ7_fill_53178_20 : decode cJ7_fill_53178 20 = .ok (.return_, 1) := by decide +kernel
theorem dJ7_copyOf_59c91_0 : decode cJ7_copyOf_59c91 0 = .ok (.iload_n 1, 1) := by decide +kernel
theorem dJ7_copyOf_59c91_1 : decode cJ7_copyOf_59c91 1 = .ok (.aload_n 0, 1) := by decide +kernel
theorem dJ7_copyOf_59c91_2 : decode cJ7_copyOf_59c91 2 = .ok (.arraylength, 1) := by decide +kernel
theorem dJ7_copyOf_59c91_3 : decode cJ7_copyOf_59c91 3 = .ok (.if_icmp .ne 11, 3) := by decide +kernel
theorem dJ7_copyOf_59c91_6 : decode cJ7_copyOf_59c91 6 = .ok (.aload_n 0, 1) := by decide +kernel
theorem dJ7_copyOf_59c91_7 : decode cJ7_copyOf_59c91 7 = .ok (.invokevirtual 316, 3) := by decide +kernel
theorem dJ7_copyOf_59c91_10 : decode cJ7_copyOf_59c91 10 = .ok (.checkcast 317, 3) := by decide +kernel
theorem dJ7_copyOf_59c91_13 : decode cJ7_copyOf_59c91 13 = .ok (.areturn, 1) := by decide +kernel
theorem dJ7_copyOf_59c91_14 : decode cJ7_copyOf_59c91 14 = .ok (.iload_n 1, 1) := by decide +kernel
theorem dJ7_copyOf_59c91_15 : decode cJ7_copyOf_59c91 15 = .ok (.newarray .int, 2) := by decide +kernel
theorem dJ7_copyOf_59c91_17 : decode cJ7_copyOf_59c91 17 = .ok (.astore_n 2, 1) := by decide +kernel
theorem dJ7_copyOf_59c91_18 : decode cJ7_copyOf_59c91 18 = .ok (.aload_n 0, 1) := by decide +kernel
theorem dJ7_copyOf_59c91_19 : decode cJ7_copyOf_59c91 19 = .ok (.iconst 0, 1) := by decide +kernel
theorem dJ7_copyOf_59c91_20 : decode cJ7_copyOf_59c91 20 = .ok (.aload_n 2, 1) := by decide +kernel
theorem dJ7_copyOf_59c91_21 : decode cJ7_copyOf_59c91 21 = .ok (.iconst 0, 1) := by decide +kernel
theorem dJ7_copyOf_59c91_22 : decode cJ7_copyOf_59c91 22 = .ok (.aload_n 0, 1) := by decide +kernel
theorem dJ7_copyOf_59c91_23 : decode cJ7_copyOf_59c91 23 = .ok (.arraylength, 1) := by decide +kernel
theorem dJ7_copyOf_59c91_24 : decode cJ7_copyOf_59c91 24 = .ok (.iload_n 1, 1) := by decide +kernel
theorem dJ7_copyOf_59c91_25 : decode cJ7_copyOf_59c91 25 = .ok (.invokestatic 304, 3) := by decide +kernel
theorem dJ7_copyOf_59c91_28 : decode cJ7_copyOf_59c91 28 = .ok (.invokestatic 150, 3) := by decide +kernel
theorem dJ7_copyOf_59c91_31 : decode cJ7_copyOf_59c91 31 = .ok (.aload_n 2, 1) := by decide +kernel
theorem dJ7_copyOf_59c91_32 : decode cJ7_copyOf_59c91 32 = .ok (.areturn, 1) := by decide +kernel
theorem dJ3_checkFromToIndex_8c36e_0 : decode cJ3_checkFromToIndex_8c36e 0 = .ok (.iload_n 0, 1) := by decide +kernel
theorem dJ3_checkFromToIndex_8c36e_1 : decode cJ3_checkFromToIndex_8c36e 1 = .ok (.ifCond .lt 13, 3) := by decide +kernel
theorem dJ3_checkFromToIndex_8c36e_4 : decode cJ3_checkFromToIndex_8c36e 4 = .ok (.iload_n 0, 1) := by decide +kernel
theorem dJ3_checkFromToIndex_8c36e_5 : decode cJ3_checkFromToIndex_8c36e 5 = .ok (.iload_n 1, 1) := by decide +kernel
theorem dJ3_checkFromToIndex_8c36e_6 : decode cJ3_checkFromToIndex_8c36e 6 = .ok (.if_icmp .gt 8, 3) := by decide +kernel
theorem dJ3_checkFromToIndex_8c36e_9 : decode cJ3_checkFromToIndex_8c36e 9 = .ok (.iload_n 1, 1) := by decide +kernel
theorem dJ3_checkFromToIndex_8c36e_10 : decode cJ3_checkFromToIndex_8c36e 10 = .ok (.iload_n 2, 1) := by decide +kernel
theorem dJ3_checkFromToIndex_8c36e_11 : decode cJ3_checkFromToIndex_8c36e 11 = .ok (.if_icmp .le 11, 3) := by decide +kernel
theorem dJ3_checkFromToIndex_8c36e_14 : decode cJ3_checkFromToIndex_8c36e 14 = .ok (.aload_n 3, 1) := by decide +kernel
theorem dJ3_checkFromToIndex_8c36e_15 : decode cJ3_checkFromToIndex_8c36e 15 = .ok (.iload_n 0, 1) := by decide +kernel
theorem dJ3_checkFromToIndex_8c36e_16 : decode cJ3_checkFromToIndex_8c36e 16 = .ok (.iload_n 1, 1) := by decide +kernel
theorem dJ3_checkFromToIndex_8c36e_17 : decode cJ3_checkFromToIndex_8c36e 17 = .ok (.iload_n 2, 1) := by decide +kernel
theorem dJ3_checkFromToIndex_8c36e_18 : decode cJ3_checkFromToIndex_8c36e 18 = .ok (.invokestatic 99, 3) := by decide +kernel
theorem dJ3_checkFromToIndex_8c36e_21 : decode cJ3_checkFromToIndex_8c36e 21 = .ok (.athrow, 1) := by decide +kernel
theorem dJ3_checkFromToIndex_8c36e_22 : decode cJ3_checkFromToIndex_8c36e 22 = .ok (.iload_n 0, 1) := by decide +kernel
theorem dJ3_checkFromToIndex_8c36e_23 : decode cJ3_checkFromToIndex_8c36e 23 = .ok (.ireturn, 1) := by decide +kernel
