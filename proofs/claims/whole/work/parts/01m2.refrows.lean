theorem dX11_beginRun_16 : decode cX11_beginRun 16 = .ok (.iload_n 1, 1) := by decide +kernel
theorem dX11_beginRun_17 : decode cX11_beginRun 17 = .ok (.bipush 7, 2) := by decide +kernel
theorem dX11_beginRun_19 : decode cX11_beginRun 19 = .ok (.imul, 1) := by decide +kernel
theorem dX11_beginRun_20 : decode cX11_beginRun 20 = .ok (.bipush 21, 2) := by decide +kernel
theorem dX11_beginRun_22 : decode cX11_beginRun 22 = .ok (.ixor, 1) := by decide +kernel
theorem dX11_beginRun_23 : decode cX11_beginRun 23 = .ok (.iastore, 1) := by decide +kernel
theorem dX11_beginRun_24 : decode cX11_beginRun 24 = .ok (.aload_n 0, 1) := by decide +kernel
theorem dX11_beginRun_25 : decode cX11_beginRun 25 = .ok (.getfield 265, 3) := by decide +kernel
theorem dX11_beginRun_28 : decode cX11_beginRun 28 = .ok (.iconst 1, 1) := by decide +kernel
theorem dX11_beginRun_29 : decode cX11_beginRun 29 = .ok (.aaload, 1) := by decide +kernel
theorem dX11_beginRun_30 : decode cX11_beginRun 30 = .ok (.iload_n 1, 1) := by decide +kernel
theorem dX11_beginRun_31 : decode cX11_beginRun 31 = .ok (.iload_n 1, 1) := by decide +kernel
theorem dX11_beginRun_32 : decode cX11_beginRun 32 = .ok (.iload_n 1, 1) := by decide +kernel
theorem dX11_beginRun_33 : decode cX11_beginRun 33 = .ok (.imul, 1) := by decide +kernel
theorem dX11_beginRun_34 : decode cX11_beginRun 34 = .ok (.iconst 3, 1) := by decide +kernel
theorem dX11_beginRun_35 : decode cX11_beginRun 35 = .ok (.iadd, 1) := by decide +kernel
theorem dX11_beginRun_36 : decode cX11_beginRun 36 = .ok (.iastore, 1) := by decide +kernel
theorem dX11_beginRun_37 : decode cX11_beginRun 37 = .ok (.aload_n 0, 1) := by decide +kernel
theorem dX11_beginRun_38 : decode cX11_beginRun 38 = .ok (.getfield 265, 3) := by decide +kernel
theorem dX11_beginRun_41 : decode cX11_beginRun 41 = .ok (.iconst 2, 1) := by decide +kernel
theorem dX11_beginRun_42 : decode cX11_beginRun 42 = .ok (.aaload, 1) := by decide +kernel
theorem dX11_beginRun_43 : decode cX11_beginRun 43 = .ok (.iload_n 1, 1) := by decide +kernel
theorem dX11_beginRun_44 : decode cX11_beginRun 44 = .ok (.iconst 5, 1) := by decide +kernel
theorem dX11_beginRun_45 : decode cX11_beginRun 45 = .ok (.iload_n 1, 1) := by decide +kernel
theorem dX11_beginRun_46 : decode cX11_beginRun 46 = .ok (.isub, 1) := by decide +kernel
theorem dX11_beginRun_47 : decode cX11_beginRun 47 = .ok (.iastore, 1) := by decide +kernel
theorem dX11_beginRun_48 : decode cX11_beginRun 48 = .ok (.aload_n 0, 1) := by decide +kernel
theorem dX11_beginRun_49 : decode cX11_beginRun 49 = .ok (.getfield 265, 3) := by decide +kernel
theorem dX11_beginRun_52 : decode cX11_beginRun 52 = .ok (.iconst 3, 1) := by decide +kernel
theorem dX11_beginRun_53 : decode cX11_beginRun 53 = .ok (.aaload, 1) := by decide +kernel
theorem dX11_beginRun_54 : decode cX11_beginRun 54 = .ok (.iload_n 1, 1) := by decide +kernel
theorem dX11_beginRun_55 : decode cX11_beginRun 55 = .ok (.iconst 0, 1) := by decide +kernel
theorem dX11_beginRun_56 : decode cX11_beginRun 56 = .ok (.iastore, 1) := by decide +kernel
theorem dX11_beginRun_57 : decode cX11_beginRun 57 = .ok (.iinc 1 1, 3) := by decide +kernel
theorem dX11_beginRun_60 : decode cX11_beginRun 60 = .ok (.goto (-58), 3) := by decide +kernel
theorem dX11_beginRun_63 : decode cX11_beginRun 63 = .ok (.iconst 0, 1) := by decide +kernel
theorem dX11_beginRun_64 : decode cX11_beginRun 64 = .ok (.istore_n 1, 1) := by decide +kernel
theorem dX11_beginRun_65 : decode cX11_beginRun 65 = .ok (.iload_n 1, 1) := by decide +kernel
theorem dX11_beginRun_66 : decode cX11_beginRun 66 = .ok (.bipush 32, 2) := by decide +kernel
theorem dX11_beginRun_68 : decode cX11_beginRun 68 = .ok (.if_icmp .ge 21, 3) := by decide +kernel
theorem dX11_beginRun_71 : decode cX11_beginRun 71 = .ok (.aload_n 0, 1) := by decide +kernel
theorem dX11_beginRun_72 : decode cX11_beginRun 72 = .ok (.getfield 268, 3) := by decide +kernel
theorem dX11_beginRun_75 : decode cX11_beginRun 75 = .ok (.iload_n 1, 1) := by decide +kernel
theorem dX11_beginRun_76 : decode cX11_beginRun 76 = .ok (.aload_n 0, 1) := by decide +kernel
theorem dX11_beginRun_77 : decode cX11_beginRun 77 = .ok (.getfield 271, 3) := by decide +kernel
theorem dX11_beginRun_80 : decode cX11_beginRun 80 = .ok (.iload_n 1, 1) := by decide +kernel
theorem dX11_beginRun_81 : decode cX11_beginRun 81 = .ok (.iaload, 1) := by decide +kernel
theorem dX11_beginRun_82 : decode cX11_beginRun 82 = .ok (.iastore, 1) := by decide +kernel
theorem dX11_beginRun_83 : decode cX11_beginRun 83 = .ok (.iinc 1 1, 3) := by decide +kernel
theorem dX11_beginRun_86 : decode cX11_beginRun 86 = .ok (.goto (-21), 3) := by decide +kernel
theorem dX11_beginRun_89 : decode cX11_beginRun 89 = .ok (.return_, 1) := by decide +kernel
theorem dX11_place_0 : decode cX11_place 0 = .ok (.sipush 512, 3) := by decide +kernel
theorem dX11_place_3 : decode cX11_place 3 = .ok (.aload_n 0, 1) := by decide +kernel
theorem dX11_place_4 : decode cX11_place 4 = .ok (.getfield 85, 3) := by decide +kernel
theorem dX11_place_7 : decode cX11_place 7 = .ok (.iload_n 1, 1) := by decide +kernel
theorem dX11_place_8 : decode cX11_place 8 = .ok (.iaload, 1) := by decide +kernel
theorem dX11_place_9 : decode cX11_place 9 = .ok (.iload_n 2, 1) := by decide +kernel
theorem dX11_place_10 : decode cX11_place 10 = .ok (.imul, 1) := by decide +kernel
theorem dX11_place_11 : decode cX11_place 11 = .ok (.iadd, 1) := by decide +kernel
theorem dX11_place_12 : decode cX11_place 12 = .ok (.aload_n 0, 1) := by decide +kernel
theorem dX11_place_13 : decode cX11_place 13 = .ok (.getfield 88, 3) := by decide +kernel
theorem dX11_place_16 : decode cX11_place 16 = .ok (.iload_n 1, 1) := by decide +kernel
theorem dX11_place_17 : decode cX11_place 17 = .ok (.iaload, 1) := by decide +kernel
theorem dX11_place_18 : decode cX11_place 18 = .ok (.iadd, 1) := by decide +kernel
theorem dX11_place_19 : decode cX11_place 19 = .ok (.ireturn, 1) := by decide +kernel
theorem dX11_written_0 : decode cX11_written 0 = .ok (.iload_n 1, 1) := by decide +kernel
theorem dX11_written_1 : decode cX11_written 1 = .ok (.iconst 1, 1) := by decide +kernel
theorem dX11_written_2 : decode cX11_written 2 = .ok (.if_icmp .ne 12, 3) := by decide +kernel
theorem dX11_written_5 : decode cX11_written 5 = .ok (.aload_n 0, 1) := by decide +kernel
theorem dX11_written_6 : decode cX11_written 6 = .ok (.getfield 268, 3) := by decide +kernel
theorem dX11_written_9 : decode cX11_written 9 = .ok (.iload_n 2, 1) := by decide +kernel
theorem dX11_written_10 : decode cX11_written 10 = .ok (.iaload, 1) := by decide +kernel
theorem dX11_written_11 : decode cX11_written 11 = .ok (.goto 13, 3) := by decide +kernel
theorem dX11_written_14 : decode cX11_written 14 = .ok (.iload_n 1, 1) := by decide +kernel
theorem dX11_written_15 : decode cX11_written 15 = .ok (.iconst 2, 1) := by decide +kernel
theorem dX11_written_16 : decode cX11_written 16 = .ok (.if_icmp .ne 7, 3) := by decide +kernel
theorem dX11_written_19 : decode cX11_written 19 = .ok (.iload_n 3, 1) := by decide +kernel
theorem dX11_written_20 : decode cX11_written 20 = .ok (.goto 4, 3) := by decide +kernel
theorem dX11_written_23 : decode cX11_written 23 = .ok (.iload_n 2, 1) := by decide +kernel
theorem dX11_written_24 : decode cX11_written 24 = .ok (.ireturn, 1) := by decide +kernel
set_option maxRecDepth 20000 in
theorem ggX11_runWritten_X11_beginRun : GoodIn wsX11_runWritten wsX11_beginRun := goodIn_r _ [16, 6, 4, 17, 38, 39, 40, 41, 42, 43, 44, 45, 46, 47, 48, 49, 50, 51, 52, 53, 54, 55, 56, 57, 58, 59, 60, 61, 62, 63, 64, 65, 66, 67, 68, 69, 70, 71, 72, 73, 74, 75, 76, 77, 78, 79, 80, 81, 82, 83, 84, 85, 86, 87, 88] rfl (by decide +kernel)
set_option maxRecDepth 20000 in
theorem gX11_runWritten_X11_beginRun : GoodIn wsX11_runWritten (wsV RX11 274 RX11 yX11_beginRun wsX11_beginRun) := goodIn_app (goodIn_of _ (by decide +kernel)) ggX11_runWritten_X11_beginRun
set_option maxRecDepth 20000 in
theorem ggX11_runWritten_X11_place : GoodIn wsX11_runWritten wsX11_place := goodIn_r _ [21, 22, 23, 38, 39, 40, 41, 42, 43, 44, 45, 46, 47, 48, 49, 50, 51, 52, 53, 54, 55, 56, 57, 58, 59, 60, 61, 62, 63, 64, 65, 66, 67, 68, 69, 70, 71, 72, 73, 74, 75, 76, 77, 78, 79, 80, 81, 82, 83, 84, 85, 86, 87, 88] rfl (by decide +kernel)
set_option maxRecDepth 20000 in
theorem gX11_runWritten_X11_place : GoodIn wsX11_runWritten (wsV RX11 277 RX11 yX11_place wsX11_place) := goodIn_app (goodIn_of _ (by decide +kernel)) ggX11_runWritten_X11_place
set_option maxRecDepth 20000 in
theorem ggX11_runWritten_X11_written : GoodIn wsX11_runWritten wsX11_written := goodIn_r _ [27, 4, 38, 39, 40, 41, 42, 43, 44, 45, 46, 47, 48, 49, 50, 51, 52, 53, 54, 55, 56, 57, 58, 59, 60, 61, 62, 63, 64, 65, 66, 67, 68, 69, 70, 71, 72, 73, 74, 75, 76, 77, 78, 79, 80, 81, 82, 83, 84, 85, 86, 87, 88] rfl (by decide +kernel)
set_option maxRecDepth 20000 in
theorem gX11_runWritten_X11_written : GoodIn wsX11_runWritten (wsV RX11 279 RX11 yX11_written wsX11_written) := goodIn_app (goodIn_of _ (by decide +kernel)) ggX11_runWritten_X11_written
set_option maxRecDepth 20000 in
theorem ggX11_runWritten_X11_result : GoodIn wsX11_runWritten wsX11_result := goodIn_r _ [30, 31, 32, 33, 34, 35, 36, 37] rfl (by decide +kernel)
set_option maxRecDepth 20000 in
theorem gX11_runWritten_X11_result : GoodIn wsX11_runWritten (va_wsS RX11 282 yX11_result wsX11_result) := goodIn_app (goodIn_of _ (by decide +kernel)) ggX11_runWritten_X11_result
theorem dX11_runWritten_0 : decode cX11_runWritten 0 = .ok (.aload_n 0, 1) := by decide +kernel
theorem dX11_runWritten_1 : decode cX11_runWritten 1 = .ok (.invokevirtual 274, 3) := by decide +kernel
theorem dX11_runWritten_4 : decode cX11_runWritten 4 = .ok (.iconst 0, 1) := by decide +kernel
theorem dX11_runWritten_5 : decode cX11_runWritten 5 = .ok (.istore_n 1, 1) := by decide +kernel
theorem dX11_runWritten_6 : decode cX11_runWritten 6 = .ok (.iload_n 1, 1) := by decide +kernel
theorem dX11_runWritten_7 : decode cX11_runWritten 7 = .ok (.aload_n 0, 1) := by decide +kernel
theorem dX11_runWritten_8 : decode cX11_runWritten 8 = .ok (.getfield 157, 3) := by decide +kernel
theorem dX11_runWritten_11 : decode cX11_runWritten 11 = .ok (.if_icmp .ge 171, 3) := by decide +kernel
theorem dX11_runWritten_14 : decode cX11_runWritten 14 = .ok (.iconst 0, 1) := by decide +kernel
theorem dX11_runWritten_15 : decode cX11_runWritten 15 = .ok (.istore_n 2, 1) := by decide +kernel
theorem dX11_runWritten_16 : decode cX11_runWritten 16 = .ok (.iload_n 2, 1) := by decide +kernel
theorem dX11_runWritten_17 : decode cX11_runWritten 17 = .ok (.aload_n 0, 1) := by decide +kernel
theorem dX11_runWritten_18 : decode cX11_runWritten 18 = .ok (.getfield 137, 3) := by decide +kernel
theorem dX11_runWritten_21 : decode cX11_runWritten 21 = .ok (.if_icmp .ge 155, 3) := by decide +kernel
theorem dX11_runWritten_24 : decode cX11_runWritten 24 = .ok (.aload_n 0, 1) := by decide +kernel
theorem dX11_runWritten_25 : decode cX11_runWritten 25 = .ok (.getfield 1, 3) := by decide +kernel
theorem dX11_runWritten_28 : decode cX11_runWritten 28 = .ok (.iload_n 2, 1) := by decide +kernel
theorem dX11_runWritten_29 : decode cX11_runWritten 29 = .ok (.iaload, 1) := by decide +kernel
theorem dX11_runWritten_30 : decode cX11_runWritten 30 = .ok (.bipush 11, 2) := by decide +kernel
theorem dX11_runWritten_32 : decode cX11_runWritten 32 = .ok (.if_icmp .ne 35, 3) := by decide +kernel
theorem dX11_runWritten_35 : decode cX11_runWritten 35 = .ok (.aload_n 0, 1) := by decide +kernel
theorem dX11_runWritten_36 : decode cX11_runWritten 36 = .ok (.getfield 268, 3) := by decide +kernel
theorem dX11_runWritten_39 : decode cX11_runWritten 39 = .ok (.aload_n 0, 1) := by decide +kernel
theorem dX11_runWritten_40 : decode cX11_runWritten 40 = .ok (.getfield 91, 3) := by decide +kernel
theorem dX11_runWritten_43 : decode cX11_runWritten 43 = .ok (.iload_n 2, 1) := by decide +kernel
theorem dX11_runWritten_44 : decode cX11_runWritten 44 = .ok (.iaload, 1) := by decide +kernel
theorem dX11_runWritten_45 : decode cX11_runWritten 45 = .ok (.aload_n 0, 1) := by decide +kernel
theorem dX11_runWritten_46 : decode cX11_runWritten 46 = .ok (.getfield 265, 3) := by decide +kernel
theorem dX11_runWritten_49 : decode cX11_runWritten 49 = .ok (.aload_n 0, 1) := by decide +kernel
theorem dX11_runWritten_50 : decode cX11_runWritten 50 = .ok (.getfield 79, 3) := by decide +kernel
theorem dX11_runWritten_53 : decode cX11_runWritten 53 = .ok (.iload_n 2, 1) := by decide +kernel
theorem dX11_runWritten_54 : decode cX11_runWritten 54 = .ok (.iaload, 1) := by decide +kernel
theorem dX11_runWritten_55 : decode cX11_runWritten 55 = .ok (.aaload, 1) := by decide +kernel
theorem dX11_runWritten_56 : decode cX11_runWritten 56 = .ok (.aload_n 0, 1) := by decide +kernel
theorem dX11_runWritten_57 : decode cX11_runWritten 57 = .ok (.iload_n 2, 1) := by decide +kernel
theorem dX11_runWritten_58 : decode cX11_runWritten 58 = .ok (.iload_n 1, 1) := by decide +kernel
theorem dX11_runWritten_59 : decode cX11_runWritten 59 = .ok (.invokevirtual 277, 3) := by decide +kernel
theorem dX11_runWritten_62 : decode cX11_runWritten 62 = .ok (.iaload, 1) := by decide +kernel
theorem dX11_runWritten_63 : decode cX11_runWritten 63 = .ok (.iastore, 1) := by decide +kernel
theorem dX11_runWritten_64 : decode cX11_runWritten 64 = .ok (.goto 106, 3) := by decide +kernel
theorem dX11_runWritten_67 : decode cX11_runWritten 67 = .ok (.aload_n 0, 1) := by decide +kernel
theorem dX11_runWritten_68 : decode cX11_runWritten 68 = .ok (.getfield 1, 3) := by decide +kernel
theorem dX11_runWritten_71 : decode cX11_runWritten 71 = .ok (.iload_n 2, 1) := by decide +kernel
theorem dX11_runWritten_72 : decode cX11_runWritten 72 = .ok (.iaload, 1) := by decide +kernel
theorem dX11_runWritten_73 : decode cX11_runWritten 73 = .ok (.bipush 12, 2) := by decide +kernel
theorem dX11_runWritten_75 : decode cX11_runWritten 75 = .ok (.if_icmp .ne 41, 3) := by decide +kernel
theorem dX11_runWritten_78 : decode cX11_runWritten 78 = .ok (.aload_n 0, 1) := by decide +kernel
theorem dX11_runWritten_79 : decode cX11_runWritten 79 = .ok (.getfield 265, 3) := by decide +kernel
theorem dX11_runWritten_82 : decode cX11_runWritten 82 = .ok (.aload_n 0, 1) := by decide +kernel
theorem dX11_runWritten_83 : decode cX11_runWritten 83 = .ok (.getfield 79, 3) := by decide +kernel
theorem dX11_runWritten_86 : decode cX11_runWritten 86 = .ok (.iload_n 2, 1) := by decide +kernel
theorem dX11_runWritten_87 : decode cX11_runWritten 87 = .ok (.iaload, 1) := by decide +kernel
theorem dX11_runWritten_88 : decode cX11_runWritten 88 = .ok (.aaload, 1) := by decide +kernel
theorem dX11_runWritten_89 : decode cX11_runWritten 89 = .ok (.aload_n 0, 1) := by decide +kernel
theorem dX11_runWritten_90 : decode cX11_runWritten 90 = .ok (.iload_n 2, 1) := by decide +kernel
theorem dX11_runWritten_91 : decode cX11_runWritten 91 = .ok (.iload_n 1, 1) := by decide +kernel
theorem dX11_runWritten_92 : decode cX11_runWritten 92 = .ok (.invokevirtual 277, 3) := by decide +kernel
theorem dX11_runWritten_95 : decode cX11_runWritten 95 = .ok (.aload_n 0, 1) := by decide +kernel
theorem dX11_runWritten_96 : decode cX11_runWritten 96 = .ok (.aload_n 0, 1) := by decide +kernel
theorem dX11_runWritten_97 : decode cX11_runWritten 97 = .ok (.getfield 7, 3) := by decide +kernel
theorem dX11_runWritten_100 : decode cX11_runWritten 100 = .ok (.iload_n 2, 1) := by decide +kernel
theorem dX11_runWritten_101 : decode cX11_runWritten 101 = .ok (.iaload, 1) := by decide +kernel
theorem dX11_runWritten_102 : decode cX11_runWritten 102 = .ok (.aload_n 0, 1) := by decide +kernel
theorem dX11_runWritten_103 : decode cX11_runWritten 103 = .ok (.getfield 10, 3) := by decide +kernel
theorem dX11_runWritten_106 : decode cX11_runWritten 106 = .ok (.iload_n 2, 1) := by decide +kernel
theorem dX11_runWritten_107 : decode cX11_runWritten 107 = .ok (.iaload, 1) := by decide +kernel
theorem dX11_runWritten_108 : decode cX11_runWritten 108 = .ok (.iload_n 1, 1) := by decide +kernel
theorem dX11_runWritten_109 : decode cX11_runWritten 109 = .ok (.invokevirtual 279, 3) := by decide +kernel
theorem dX11_runWritten_112 : decode cX11_runWritten 112 = .ok (.iastore, 1) := by decide +kernel
theorem dX11_runWritten_113 : decode cX11_runWritten 113 = .ok (.goto 57, 3) := by decide +kernel
theorem dX11_runWritten_116 : decode cX11_runWritten 116 = .ok (.aload_n 0, 1) := by decide +kernel
theorem dX11_runWritten_117 : decode cX11_runWritten 117 = .ok (.getfield 268, 3) := by decide +kernel
theorem dX11_runWritten_120 : decode cX11_runWritten 120 = .ok (.aload_n 0, 1) := by decide +kernel
theorem dX11_runWritten_121 : decode cX11_runWritten 121 = .ok (.getfield 91, 3) := by decide +kernel
theorem dX11_runWritten_124 : decode cX11_runWritten 124 = .ok (.iload_n 2, 1) := by decide +kernel
theorem dX11_runWritten_125 : decode cX11_runWritten 125 = .ok (.iaload, 1) := by decide +kernel
theorem dX11_runWritten_126 : decode cX11_runWritten 126 = .ok (.aload_n 0, 1) := by decide +kernel
theorem dX11_runWritten_127 : decode cX11_runWritten 127 = .ok (.getfield 1, 3) := by decide +kernel
theorem dX11_runWritten_130 : decode cX11_runWritten 130 = .ok (.iload_n 2, 1) := by decide +kernel
theorem dX11_runWritten_131 : decode cX11_runWritten 131 = .ok (.iaload, 1) := by decide +kernel
theorem dX11_runWritten_132 : decode cX11_runWritten 132 = .ok (.aload_n 0, 1) := by decide +kernel
theorem dX11_runWritten_133 : decode cX11_runWritten 133 = .ok (.aload_n 0, 1) := by decide +kernel
theorem dX11_runWritten_134 : decode cX11_runWritten 134 = .ok (.getfield 7, 3) := by decide +kernel
theorem dX11_runWritten_137 : decode cX11_runWritten 137 = .ok (.iload_n 2, 1) := by decide +kernel
theorem dX11_runWritten_138 : decode cX11_runWritten 138 = .ok (.iaload, 1) := by decide +kernel
theorem dX11_runWritten_139 : decode cX11_runWritten 139 = .ok (.aload_n 0, 1) := by decide +kernel
theorem dX11_runWritten_140 : decode cX11_runWritten 140 = .ok (.getfield 10, 3) := by decide +kernel
theorem dX11_runWritten_143 : decode cX11_runWritten 143 = .ok (.iload_n 2, 1) := by decide +kernel
theorem dX11_runWritten_144 : decode cX11_runWritten 144 = .ok (.iaload, 1) := by decide +kernel
theorem dX11_runWritten_145 : decode cX11_runWritten 145 = .ok (.iload_n 1, 1) := by decide +kernel
theorem dX11_runWritten_146 : decode cX11_runWritten 146 = .ok (.invokevirtual 279, 3) := by decide +kernel
theorem dX11_runWritten_149 : decode cX11_runWritten 149 = .ok (.aload_n 0, 1) := by decide +kernel
theorem dX11_runWritten_150 : decode cX11_runWritten 150 = .ok (.aload_n 0, 1) := by decide +kernel
theorem dX11_runWritten_151 : decode cX11_runWritten 151 = .ok (.getfield 13, 3) := by decide +kernel
theorem dX11_runWritten_154 : decode cX11_runWritten 154 = .ok (.iload_n 2, 1) := by decide +kernel
theorem dX11_runWritten_155 : decode cX11_runWritten 155 = .ok (.iaload, 1) := by decide +kernel
theorem dX11_runWritten_156 : decode cX11_runWritten 156 = .ok (.aload_n 0, 1) := by decide +kernel
theorem dX11_runWritten_157 : decode cX11_runWritten 157 = .ok (.getfield 16, 3) := by decide +kernel
theorem dX11_runWritten_160 : decode cX11_runWritten 160 = .ok (.iload_n 2, 1) := by decide +kernel
theorem dX11_runWritten_161 : decode cX11_runWritten 161 = .ok (.iaload, 1) := by decide +kernel
theorem dX11_runWritten_162 : decode cX11_runWritten 162 = .ok (.iload_n 1, 1) := by decide +kernel
theorem dX11_runWritten_163 : decode cX11_runWritten 163 = .ok (.invokevirtual 279, 3) := by decide +kernel
theorem dX11_runWritten_166 : decode cX11_runWritten 166 = .ok (.invokestatic 282, 3) := by decide +kernel
theorem dX11_runWritten_169 : decode cX11_runWritten 169 = .ok (.iastore, 1) := by decide +kernel
theorem dX11_runWritten_170 : decode cX11_runWritten 170 = .ok (.iinc 2 1, 3) := by decide +kernel
theorem dX11_runWritten_173 : decode cX11_runWritten 173 = .ok (.goto (-157), 3) := by decide +kernel
theorem dX11_runWritten_176 : decode cX11_runWritten 176 = .ok (.iinc 1 1, 3) := by decide +kernel
theorem dX11_runWritten_179 : decode cX11_runWritten 179 = .ok (.goto (-173), 3) := by decide +kernel
theorem dX11_runWritten_182 : decode cX11_runWritten 182 = .ok (.aload_n 0, 1) := by decide +kernel
theorem dX11_runWritten_183 : decode cX11_runWritten 183 = .ok (.getfield 137, 3) := by decide +kernel
theorem dX11_runWritten_186 : decode cX11_runWritten 186 = .ok (.aload_n 0, 1) := by decide +kernel
theorem dX11_runWritten_187 : decode cX11_runWritten 187 = .ok (.getfield 157, 3) := by decide +kernel
theorem dX11_runWritten_190 : decode cX11_runWritten 190 = .ok (.imul, 1) := by decide +kernel
theorem dX11_runWritten_191 : decode cX11_runWritten 191 = .ok (.ireturn, 1) := by decide +kernel
set_option maxRecDepth 20000 in
theorem ggX11_laid_X11_setter : GoodIn wsX11_laid wsX11_setter := goodIn_r _ [7, 8, 9, 20, 21, 22, 23, 24, 25, 26, 27, 28, 29, 30, 31, 32, 33, 34, 35, 36, 37, 38, 39, 40, 41, 42, 43, 44, 45, 46, 47, 48, 49, 50, 51, 52, 53, 54, 55, 56, 57, 58, 59, 60, 61, 62, 63, 64, 65, 66, 67, 68, 69, 70] rfl (by decide +kernel)
set_option maxRecDepth 20000 in
theorem gX11_laid_X11_setter : GoodIn wsX11_laid (wsV RX11 285 RX11 yX11_setter wsX11_setter) := goodIn_app (goodIn_of _ (by decide +kernel)) ggX11_laid_X11_setter
set_option maxRecDepth 20000 in
theorem ggX11_laid_X11_useOver : GoodIn wsX11_laid wsX11_useOver := goodIn_r _ [13] rfl (by decide +kernel)
set_option maxRecDepth 20000 in
theorem gX11_laid_X11_useOver : GoodIn wsX11_laid (wsV RX11 144 RX11 yX11_useOver wsX11_useOver) := goodIn_app (goodIn_of _ (by decide +kernel)) ggX11_laid_X11_useOver
set_option maxRecDepth 20000 in
theorem ggX11_laid_X11_spot : GoodIn wsX11_laid wsX11_spot := goodIn_r _ [17, 18, 19, 20, 21, 22, 23, 24, 25, 26, 27, 28, 29, 30, 31, 32, 33, 34, 35, 36, 37, 38, 39, 40, 41, 42, 43, 44, 45, 46, 47, 48, 49, 50, 51, 52, 53, 54, 55, 56, 57, 58, 59, 60, 61, 62, 63, 64, 65, 66, 67, 68, 69, 70] rfl (by decide +kernel)
set_option maxRecDepth 20000 in
theorem gX11_laid_X11_spot : GoodIn wsX11_laid (wsV RX11 291 RX11 yX11_spot wsX11_spot) := goodIn_app (goodIn_of _ (by decide +kernel)) ggX11_laid_X11_spot
theorem dX11_laid_0 : decode cX11_laid 0 = .ok (.iload_n 1, 1) := by decide +kernel
theorem dX11_laid_1 : decode cX11_laid 1 = .ok (.iconst 1, 1) := by decide +kernel
theorem dX11_laid_2 : decode cX11_laid 2 = .ok (.if_icmp .eq 15, 3) := by decide +kernel
theorem dX11_laid_5 : decode cX11_laid 5 = .ok (.iload_n 1, 1) := by decide +kernel
theorem dX11_laid_6 : decode cX11_laid 6 = .ok (.iconst 2, 1) := by decide +kernel
theorem dX11_laid_7 : decode cX11_laid 7 = .ok (.if_icmp .ne 8, 3) := by decide +kernel
theorem dX11_laid_10 : decode cX11_laid 10 = .ok (.iload 4, 2) := by decide +kernel
theorem dX11_laid_12 : decode cX11_laid 12 = .ok (.goto 4, 3) := by decide +kernel
theorem dX11_laid_15 : decode cX11_laid 15 = .ok (.iload_n 2, 1) := by decide +kernel
theorem dX11_laid_16 : decode cX11_laid 16 = .ok (.ireturn, 1) := by decide +kernel
theorem dX11_laid_17 : decode cX11_laid 17 = .ok (.aload_n 0, 1) := by decide +kernel
theorem dX11_laid_18 : decode cX11_laid 18 = .ok (.iload_n 2, 1) := by decide +kernel
theorem dX11_laid_19 : decode cX11_laid 19 = .ok (.invokevirtual 285, 3) := by decide +kernel
theorem dX11_laid_22 : decode cX11_laid 22 = .ok (.istore 5, 2) := by decide +kernel
theorem dX11_laid_24 : decode cX11_laid 24 = .ok (.iload 5, 2) := by decide +kernel
theorem dX11_laid_26 : decode cX11_laid 26 = .ok (.ifCond .ge 10, 3) := by decide +kernel
theorem dX11_laid_29 : decode cX11_laid 29 = .ok (.aload_n 0, 1) := by decide +kernel
theorem dX11_laid_30 : decode cX11_laid 30 = .ok (.getfield 271, 3) := by decide +kernel
theorem dX11_laid_33 : decode cX11_laid 33 = .ok (.iload_n 2, 1) := by decide +kernel
theorem dX11_laid_34 : decode cX11_laid 34 = .ok (.iaload, 1) := by decide +kernel
theorem dX11_laid_35 : decode cX11_laid 35 = .ok (.ireturn, 1) := by decide +kernel
theorem dX11_laid_36 : decode cX11_laid 36 = .ok (.iload 4, 2) := by decide +kernel
theorem dX11_laid_38 : decode cX11_laid 38 = .ok (.aload_n 0, 1) := by decide +kernel
theorem dX11_laid_39 : decode cX11_laid 39 = .ok (.iload 5, 2) := by decide +kernel
theorem dX11_laid_41 : decode cX11_laid 41 = .ok (.iload_n 3, 1) := by decide +kernel
theorem dX11_laid_42 : decode cX11_laid 42 = .ok (.invokevirtual 144, 3) := by decide +kernel
theorem dX11_laid_45 : decode cX11_laid 45 = .ok (.isub, 1) := by decide +kernel
theorem dX11_laid_46 : decode cX11_laid 46 = .ok (.istore 6, 2) := by decide +kernel
theorem dX11_laid_48 : decode cX11_laid 48 = .ok (.iload 6, 2) := by decide +kernel
theorem dX11_laid_50 : decode cX11_laid 50 = .ok (.ifCond .ge 12, 3) := by decide +kernel
theorem dX11_laid_53 : decode cX11_laid 53 = .ok (.aload_n 0, 1) := by decide +kernel
theorem dX11_laid_54 : decode cX11_laid 54 = .ok (.getfield 271, 3) := by decide +kernel
theorem dX11_laid_57 : decode cX11_laid 57 = .ok (.iload_n 2, 1) := by decide +kernel
theorem dX11_laid_58 : decode cX11_laid 58 = .ok (.iaload, 1) := by decide +kernel
theorem dX11_laid_59 : decode cX11_laid 59 = .ok (.goto 16, 3) := by decide +kernel
theorem dX11_laid_62 : decode cX11_laid 62 = .ok (.aload_n 0, 1) := by decide +kernel
theorem dX11_laid_63 : decode cX11_laid 63 = .ok (.getfield 288, 3) := by decide +kernel
theorem dX11_laid_66 : decode cX11_laid 66 = .ok (.aload_n 0, 1) := by decide +kernel
theorem dX11_laid_67 : decode cX11_laid 67 = .ok (.iload 5, 2) := by decide +kernel
theorem dX11_laid_69 : decode cX11_laid 69 = .ok (.iload 6, 2) := by decide +kernel
theorem dX11_laid_71 : decode cX11_laid 71 = .ok (.invokevirtual 291, 3) := by decide +kernel
theorem dX11_laid_74 : decode cX11_laid 74 = .ok (.iaload, 1) := by decide +kernel
theorem dX11_laid_75 : decode cX11_laid 75 = .ok (.ireturn, 1) := by decide +kernel
theorem dX11_spot_0 : decode cX11_spot 0 = .ok (.aload_n 0, 1) := by decide +kernel
theorem dX11_spot_1 : decode cX11_spot 1 = .ok (.getfield 243, 3) := by decide +kernel
theorem dX11_spot_4 : decode cX11_spot 4 = .ok (.iload_n 1, 1) := by decide +kernel
theorem dX11_spot_5 : decode cX11_spot 5 = .ok (.iaload, 1) := by decide +kernel
theorem dX11_spot_6 : decode cX11_spot 6 = .ok (.iload_n 2, 1) := by decide +kernel
theorem dX11_spot_7 : decode cX11_spot 7 = .ok (.isub, 1) := by decide +kernel
theorem dX11_spot_8 : decode cX11_spot 8 = .ok (.aload_n 0, 1) := by decide +kernel
theorem dX11_spot_9 : decode cX11_spot 9 = .ok (.getfield 255, 3) := by decide +kernel
theorem dX11_spot_12 : decode cX11_spot 12 = .ok (.irem, 1) := by decide +kernel
theorem dX11_spot_13 : decode cX11_spot 13 = .ok (.istore_n 3, 1) := by decide +kernel
theorem dX11_spot_14 : decode cX11_spot 14 = .ok (.iload_n 3, 1) := by decide +kernel
theorem dX11_spot_15 : decode cX11_spot 15 = .ok (.ifCond .ge 12, 3) := by decide +kernel
theorem dX11_spot_18 : decode cX11_spot 18 = .ok (.iload_n 3, 1) := by decide +kernel
theorem dX11_spot_19 : decode cX11_spot 19 = .ok (.aload_n 0, 1) := by decide +kernel
theorem dX11_spot_20 : decode cX11_spot 20 = .ok (.getfield 255, 3) := by decide +kernel
theorem dX11_spot_23 : decode cX11_spot 23 = .ok (.iadd, 1) := by decide +kernel
theorem dX11_spot_24 : decode cX11_spot 24 = .ok (.goto 4, 3) := by decide +kernel
theorem dX11_spot_27 : decode cX11_spot 27 = .ok (.iload_n 3, 1) := by decide +kernel
theorem dX11_spot_28 : decode cX11_spot 28 = .ok (.ireturn, 1) := by decide +kernel
set_option maxRecDepth 20000 in
theorem ggX11_runLaid_X11_beginRun : GoodIn wsX11_runLaid wsX11_beginRun := goodIn_r _ [27, 15, 21, 22, 70, 71, 72, 73, 74, 75, 76, 77, 78, 79, 80, 81, 82, 83, 84, 85, 86, 87, 88, 89, 90, 91, 92, 93, 94, 95, 96, 97, 98, 99, 100, 101, 102, 103, 104, 105, 106, 107, 108, 109, 110, 111, 112, 113, 114, 115, 116, 117, 118, 119, 120] rfl (by decide +kernel)
set_option maxRecDepth 20000 in
theorem gX11_runLaid_X11_beginRun : GoodIn wsX11_runLaid (wsV RX11 274 RX11 yX11_beginRun wsX11_beginRun) := goodIn_app (goodIn_of _ (by decide +kernel)) ggX11_runLaid_X11_beginRun
set_option maxRecDepth 20000 in
theorem ggX11_runLaid_X11_time : GoodIn wsX11_runLaid wsX11_time := goodIn_r _ [31, 32, 33, 34, 35, 26, 36, 14, 70, 71, 72, 73, 74, 75, 76, 77, 78, 79, 80, 81, 82, 83, 84, 85, 86, 87, 88, 89, 90, 91, 92, 93, 94, 95, 96, 97, 98, 99, 100, 101, 102, 103, 104, 105, 106, 107, 108, 109, 110, 111, 112, 113, 114, 115, 116, 117, 118, 119, 120] rfl (by decide +kernel)
set_option maxRecDepth 20000 in
theorem gX11_runLaid_X11_time : GoodIn wsX11_runLaid (wsV RX11 147 RX11 yX11_time wsX11_time) := goodIn_app (goodIn_of _ (by decide +kernel)) ggX11_runLaid_X11_time
set_option maxRecDepth 20000 in
theorem ggX11_runLaid_X11_roundAt : GoodIn wsX11_runLaid wsX11_roundAt := goodIn_r _ [40, 5, 11, 10, 70, 71, 72, 73, 74, 75, 76, 77, 78, 79, 80, 81, 82, 83, 84, 85, 86, 87, 88, 89, 90, 91, 92, 93, 94, 95, 96, 97, 98, 99, 100, 101, 102, 103, 104, 105, 106, 107, 108, 109, 110, 111, 112, 113, 114, 115, 116, 117, 118, 119, 120] rfl (by decide +kernel)
set_option maxRecDepth 20000 in
theorem gX11_runLaid_X11_roundAt : GoodIn wsX11_runLaid (wsV RX11 294 RX11 yX11_roundAt wsX11_roundAt) := goodIn_app (goodIn_of _ (by decide +kernel)) ggX11_runLaid_X11_roundAt
set_option maxRecDepth 20000 in
theorem ggX11_runLaid_X11_spot : GoodIn wsX11_runLaid wsX11_spot := goodIn_r _ [44, 12, 2, 70, 71, 72, 73, 74, 75, 76, 77, 78, 79, 80, 81, 82, 83, 84, 85, 86, 87, 88, 89, 90, 91, 92, 93, 94, 95, 96, 97, 98, 99, 100, 101, 102, 103, 104, 105, 106, 107, 108, 109, 110, 111, 112, 113, 114, 115, 116, 117, 118, 119, 120] rfl (by decide +kernel)
set_option maxRecDepth 20000 in
theorem gX11_runLaid_X11_spot : GoodIn wsX11_runLaid (wsV RX11 291 RX11 yX11_spot wsX11_spot) := goodIn_app (goodIn_of _ (by decide +kernel)) ggX11_runLaid_X11_spot
set_option maxRecDepth 20000 in
theorem ggX11_runLaid_X11_place : GoodIn wsX11_runLaid wsX11_place := goodIn_r _ [48, 49, 50, 70, 71, 72, 73, 74, 75, 76, 77, 78, 79, 80, 81, 82, 83, 84, 85, 86, 87, 88, 89, 90, 91, 92, 93, 94, 95, 96, 97, 98, 99, 100, 101, 102, 103, 104, 105, 106, 107, 108, 109, 110, 111, 112, 113, 114, 115, 116, 117, 118, 119, 120] rfl (by decide +kernel)
set_option maxRecDepth 20000 in
theorem gX11_runLaid_X11_place : GoodIn wsX11_runLaid (wsV RX11 277 RX11 yX11_place wsX11_place) := goodIn_app (goodIn_of _ (by decide +kernel)) ggX11_runLaid_X11_place
set_option maxRecDepth 20000 in
theorem ggX11_runLaid_X11_laid : GoodIn wsX11_runLaid wsX11_laid := goodIn_r _ [54, 22, 1, 55, 56, 57, 26, 58, 4, 59, 60, 61, 62, 63, 41, 42, 43, 44, 12, 2, 70, 71, 72, 73, 74, 75, 76, 77, 78, 79, 80, 81, 82, 83, 84, 85, 86, 87, 88, 89, 90, 91, 92, 93, 94, 95, 96, 97, 98, 99, 100, 101, 102, 103, 104, 105, 106, 107, 108, 109, 110, 111, 112, 113, 114, 115, 116, 117, 118, 119, 120] rfl (by decide +kernel)
set_option maxRecDepth 20000 in
theorem gX11_runLaid_X11_laid : GoodIn wsX11_runLaid (wsV RX11 300 RX11 yX11_laid wsX11_laid) := goodIn_app (goodIn_of _ (by decide +kernel)) ggX11_runLaid_X11_laid
set_option maxRecDepth 20000 in
theorem ggX11_runLaid_X11_result : GoodIn wsX11_runLaid wsX11_result := goodIn_r _ [66, 67, 68, 8, 69, 6, 7, 9] rfl (by decide +kernel)
set_option maxRecDepth 20000 in
theorem gX11_runLaid_X11_result : GoodIn wsX11_runLaid (va_wsS RX11 282 yX11_result wsX11_result) := goodIn_app (goodIn_of _ (by decide +kernel)) ggX11_runLaid_X11_result
set_option maxRecDepth 20000 in
theorem ggX11_runLaid_X11_setter : GoodIn wsX11_runLaid wsX11_setter := goodIn_r _ [58, 4, 59, 70, 71, 72, 73, 74, 75, 76, 77, 78, 79, 80, 81, 82, 83, 84, 85, 86, 87, 88, 89, 90, 91, 92, 93, 94, 95, 96, 97, 98, 99, 100, 101, 102, 103, 104, 105, 106, 107, 108, 109, 110, 111, 112, 113, 114, 115, 116, 117, 118, 119, 120] rfl (by decide +kernel)
set_option maxRecDepth 20000 in
theorem gX11_runLaid_X11_setter : GoodIn wsX11_runLaid (wsV RX11 285 RX11 yX11_setter wsX11_setter) := goodIn_app (goodIn_of _ (by decide +kernel)) ggX11_runLaid_X11_setter
theorem dX11_runLaid_0 : decode cX11_runLaid 0 = .ok (.aload_n 0, 1) := by decide +kernel
theorem dX11_runLaid_1 : decode cX11_runLaid 1 = .ok (.invokevirtual 274, 3) := by decide +kernel
theorem dX11_runLaid_4 : decode cX11_runLaid 4 = .ok (.aload_n 0, 1) := by decide +kernel
theorem dX11_runLaid_5 : decode cX11_runLaid 5 = .ok (.getfield 288, 3) := by decide +kernel
theorem dX11_runLaid_8 : decode cX11_runLaid 8 = .ok (.arraylength, 1) := by decide +kernel
theorem dX11_runLaid_9 : decode cX11_runLaid 9 = .ok (.aload_n 0, 1) := by decide +kernel
theorem dX11_runLaid_10 : decode cX11_runLaid 10 = .ok (.getfield 255, 3) := by decide +kernel
theorem dX11_runLaid_13 : decode cX11_runLaid 13 = .ok (.if_icmp .ge 13, 3) := by decide +kernel
theorem dX11_runLaid_16 : decode cX11_runLaid 16 = .ok (.aload_n 0, 1) := by decide +kernel
theorem dX11_runLaid_17 : decode cX11_runLaid 17 = .ok (.aload_n 0, 1) := by decide +kernel
theorem dX11_runLaid_18 : decode cX11_runLaid 18 = .ok (.getfield 255, 3) := by decide +kernel
theorem dX11_runLaid_21 : decode cX11_runLaid 21 = .ok (.newarray .int, 2) := by decide +kernel
theorem dX11_runLaid_23 : decode cX11_runLaid 23 = .ok (.putfield 288, 3) := by decide +kernel
theorem dX11_runLaid_26 : decode cX11_runLaid 26 = .ok (.iconst 0, 1) := by decide +kernel
theorem dX11_runLaid_27 : decode cX11_runLaid 27 = .ok (.istore_n 1, 1) := by decide +kernel
theorem dX11_runLaid_28 : decode cX11_runLaid 28 = .ok (.iconst 0, 1) := by decide +kernel
theorem dX11_runLaid_29 : decode cX11_runLaid 29 = .ok (.istore_n 2, 1) := by decide +kernel
theorem dX11_runLaid_30 : decode cX11_runLaid 30 = .ok (.iload_n 2, 1) := by decide +kernel
theorem dX11_runLaid_31 : decode cX11_runLaid 31 = .ok (.aload_n 0, 1) := by decide +kernel
theorem dX11_runLaid_32 : decode cX11_runLaid 32 = .ok (.getfield 137, 3) := by decide +kernel
theorem dX11_runLaid_35 : decode cX11_runLaid 35 = .ok (.if_icmp .ge 26, 3) := by decide +kernel
theorem dX11_runLaid_38 : decode cX11_runLaid 38 = .ok (.iload_n 1, 1) := by decide +kernel
theorem dX11_runLaid_39 : decode cX11_runLaid 39 = .ok (.aload_n 0, 1) := by decide +kernel
theorem dX11_runLaid_40 : decode cX11_runLaid 40 = .ok (.getfield 189, 3) := by decide +kernel
theorem dX11_runLaid_43 : decode cX11_runLaid 43 = .ok (.iload_n 2, 1) := by decide +kernel
theorem dX11_runLaid_44 : decode cX11_runLaid 44 = .ok (.iaload, 1) := by decide +kernel
theorem dX11_runLaid_45 : decode cX11_runLaid 45 = .ok (.aload_n 0, 1) := by decide +kernel
theorem dX11_runLaid_46 : decode cX11_runLaid 46 = .ok (.iload_n 2, 1) := by decide +kernel
theorem dX11_runLaid_47 : decode cX11_runLaid 47 = .ok (.invokevirtual 147, 3) := by decide +kernel
theorem dX11_runLaid_50 : decode cX11_runLaid 50 = .ok (.iadd, 1) := by decide +kernel
theorem dX11_runLaid_51 : decode cX11_runLaid 51 = .ok (.invokestatic 134, 3) := by decide +kernel
theorem dX11_runLaid_54 : decode cX11_runLaid 54 = .ok (.istore_n 1, 1) := by decide +kernel
theorem dX11_runLaid_55 : decode cX11_runLaid 55 = .ok (.iinc 2 1, 3) := by decide +kernel
theorem dX11_runLaid_58 : decode cX11_runLaid 58 = .ok (.goto (-28), 3) := by decide +kernel
theorem dX11_runLaid_61 : decode cX11_runLaid 61 = .ok (.iload_n 1, 1) := by decide +kernel
theorem dX11_runLaid_62 : decode cX11_runLaid 62 = .ok (.aload_n 0, 1) := by decide +kernel
theorem dX11_runLaid_63 : decode cX11_runLaid 63 = .ok (.getfield 157, 3) := by decide +kernel
theorem dX11_runLaid_66 : decode cX11_runLaid 66 = .ok (.iconst 1, 1) := by decide +kernel
theorem dX11_runLaid_67 : decode cX11_runLaid 67 = .ok (.isub, 1) := by decide +kernel
theorem dX11_runLaid_68 : decode cX11_runLaid 68 = .ok (.aload_n 0, 1) := by decide +kernel
theorem dX11_runLaid_69 : decode cX11_runLaid 69 = .ok (.getfield 216, 3) := by decide +kernel
theorem dX11_runLaid_72 : decode cX11_runLaid 72 = .ok (.imul, 1) := by decide +kernel
theorem dX11_runLaid_73 : decode cX11_runLaid 73 = .ok (.iadd, 1) := by decide +kernel
theorem dX11_runLaid_74 : decode cX11_runLaid 74 = .ok (.istore_n 1, 1) := by decide +kernel
theorem dX11_runLaid_75 : decode cX11_runLaid 75 = .ok (.iconst 0, 1) := by decide +kernel
theorem dX11_runLaid_76 : decode cX11_runLaid 76 = .ok (.istore_n 2, 1) := by decide +kernel
theorem dX11_runLaid_77 : decode cX11_runLaid 77 = .ok (.iload_n 2, 1) := by decide +kernel
theorem dX11_runLaid_78 : decode cX11_runLaid 78 = .ok (.iload_n 1, 1) := by decide +kernel
theorem dX11_runLaid_79 : decode cX11_runLaid 79 = .ok (.if_icmp .gt 320, 3) := by decide +kernel
theorem dX11_runLaid_82 : decode cX11_runLaid 82 = .ok (.iconst 0, 1) := by decide +kernel
theorem dX11_runLaid_83 : decode cX11_runLaid 83 = .ok (.istore_n 3, 1) := by decide +kernel
theorem dX11_runLaid_84 : decode cX11_runLaid 84 = .ok (.iload_n 3, 1) := by decide +kernel
theorem dX11_runLaid_85 : decode cX11_runLaid 85 = .ok (.aload_n 0, 1) := by decide +kernel
theorem dX11_runLaid_86 : decode cX11_runLaid 86 = .ok (.getfield 137, 3) := by decide +kernel
theorem dX11_runLaid_89 : decode cX11_runLaid 89 = .ok (.if_icmp .ge 58, 3) := by decide +kernel
theorem dX11_runLaid_92 : decode cX11_runLaid 92 = .ok (.aload_n 0, 1) := by decide +kernel
theorem dX11_runLaid_93 : decode cX11_runLaid 93 = .ok (.iload_n 3, 1) := by decide +kernel
theorem dX11_runLaid_94 : decode cX11_runLaid 94 = .ok (.iload_n 2, 1) := by decide +kernel
theorem dX11_runLaid_95 : decode cX11_runLaid 95 = .ok (.aload_n 0, 1) := by decide +kernel
theorem dX11_runLaid_96 : decode cX11_runLaid 96 = .ok (.iload_n 3, 1) := by decide +kernel
theorem dX11_runLaid_97 : decode cX11_runLaid 97 = .ok (.invokevirtual 147, 3) := by decide +kernel
theorem dX11_runLaid_100 : decode cX11_runLaid 100 = .ok (.isub, 1) := by decide +kernel
theorem dX11_runLaid_101 : decode cX11_runLaid 101 = .ok (.invokevirtual 294, 3) := by decide +kernel
theorem dX11_runLaid_104 : decode cX11_runLaid 104 = .ok (.istore 4, 2) := by decide +kernel
theorem dX11_runLaid_106 : decode cX11_runLaid 106 = .ok (.iload 4, 2) := by decide +kernel
theorem dX11_runLaid_108 : decode cX11_runLaid 108 = .ok (.ifCond .lt 33, 3) := by decide +kernel
theorem dX11_runLaid_111 : decode cX11_runLaid 111 = .ok (.aload_n 0, 1) := by decide +kernel
theorem dX11_runLaid_112 : decode cX11_runLaid 112 = .ok (.getfield 243, 3) := by decide +kernel
theorem dX11_runLaid_115 : decode cX11_runLaid 115 = .ok (.iload_n 3, 1) := by decide +kernel
theorem dX11_runLaid_116 : decode cX11_runLaid 116 = .ok (.iaload, 1) := by decide +kernel
theorem dX11_runLaid_117 : decode cX11_runLaid 117 = .ok (.ifCond .lt 24, 3) := by decide +kernel
theorem dX11_runLaid_120 : decode cX11_runLaid 120 = .ok (.aload_n 0, 1) := by decide +kernel
theorem dX11_runLaid_121 : decode cX11_runLaid 121 = .ok (.getfield 288, 3) := by decide +kernel
theorem dX11_runLaid_124 : decode cX11_runLaid 124 = .ok (.aload_n 0, 1) := by decide +kernel
theorem dX11_runLaid_125 : decode cX11_runLaid 125 = .ok (.iload_n 3, 1) := by decide +kernel
theorem dX11_runLaid_126 : decode cX11_runLaid 126 = .ok (.iload 4, 2) := by decide +kernel
theorem dX11_runLaid_128 : decode cX11_runLaid 128 = .ok (.invokevirtual 291, 3) := by decide +kernel
theorem dX11_runLaid_131 : decode cX11_runLaid 131 = .ok (.aload_n 0, 1) := by decide +kernel
theorem dX11_runLaid_132 : decode cX11_runLaid 132 = .ok (.getfield 297, 3) := by decide +kernel
theorem dX11_runLaid_135 : decode cX11_runLaid 135 = .ok (.iload_n 3, 1) := by decide +kernel
theorem dX11_runLaid_136 : decode cX11_runLaid 136 = .ok (.aaload, 1) := by decide +kernel
theorem dX11_runLaid_137 : decode cX11_runLaid 137 = .ok (.iload 4, 2) := by decide +kernel
theorem dX11_runLaid_139 : decode cX11_runLaid 139 = .ok (.iaload, 1) := by decide +kernel
theorem dX11_runLaid_140 : decode cX11_runLaid 140 = .ok (.iastore, 1) := by decide +kernel
theorem dX11_runLaid_141 : decode cX11_runLaid 141 = .ok (.iinc 3 1, 3) := by decide +kernel
theorem dX11_runLaid_144 : decode cX11_runLaid 144 = .ok (.goto (-60), 3) := by decide +kernel
theorem dX11_runLaid_147 : decode cX11_runLaid 147 = .ok (.iconst 0, 1) := by decide +kernel
theorem dX11_runLaid_148 : decode cX11_runLaid 148 = .ok (.istore_n 3, 1) := by decide +kernel
theorem dX11_runLaid_149 : decode cX11_runLaid 149 = .ok (.iload_n 3, 1) := by decide +kernel
theorem dX11_runLaid_150 : decode cX11_runLaid 150 = .ok (.aload_n 0, 1) := by decide +kernel
theorem dX11_runLaid_151 : decode cX11_runLaid 151 = .ok (.getfield 137, 3) := by decide +kernel
theorem dX11_runLaid_154 : decode cX11_runLaid 154 = .ok (.if_icmp .ge 144, 3) := by decide +kernel
theorem dX11_runLaid_157 : decode cX11_runLaid 157 = .ok (.aload_n 0, 1) := by decide +kernel
theorem dX11_runLaid_158 : decode cX11_runLaid 158 = .ok (.iload_n 3, 1) := by decide +kernel
theorem dX11_runLaid_159 : decode cX11_runLaid 159 = .ok (.iload_n 2, 1) := by decide +kernel
theorem dX11_runLaid_160 : decode cX11_runLaid 160 = .ok (.invokevirtual 294, 3) := by decide +kernel
theorem dX11_runLaid_163 : decode cX11_runLaid 163 = .ok (.istore 4, 2) := by decide +kernel
theorem dX11_runLaid_165 : decode cX11_runLaid 165 = .ok (.iload 4, 2) := by decide +kernel
theorem dX11_runLaid_167 : decode cX11_runLaid 167 = .ok (.ifCond .lt 125, 3) := by decide +kernel
theorem dX11_runLaid_170 : decode cX11_runLaid 170 = .ok (.aload_n 0, 1) := by decide +kernel
theorem dX11_runLaid_171 : decode cX11_runLaid 171 = .ok (.getfield 297, 3) := by decide +kernel
theorem dX11_runLaid_174 : decode cX11_runLaid 174 = .ok (.iload_n 3, 1) := by decide +kernel
theorem dX11_runLaid_175 : decode cX11_runLaid 175 = .ok (.aaload, 1) := by decide +kernel
theorem dX11_runLaid_176 : decode cX11_runLaid 176 = .ok (.iload 4, 2) := by decide +kernel
theorem dX11_runLaid_178 : decode cX11_runLaid 178 = .ok (.aload_n 0, 1) := by decide +kernel
theorem dX11_runLaid_179 : decode cX11_runLaid 179 = .ok (.getfield 1, 3) := by decide +kernel
theorem dX11_runLaid_182 : decode cX11_runLaid 182 = .ok (.iload_n 3, 1) := by decide +kernel
theorem dX11_runLaid_183 : decode cX11_runLaid 183 = .ok (.iaload, 1) := by decide +kernel
theorem dX11_runLaid_184 : decode cX11_runLaid 184 = .ok (.bipush 11, 2) := by decide +kernel
theorem dX11_runLaid_186 : decode cX11_runLaid 186 = .ok (.if_icmp .ne 25, 3) := by decide +kernel
theorem dX11_runLaid_189 : decode cX11_runLaid 189 = .ok (.aload_n 0, 1) := by decide +kernel
theorem dX11_runLaid_190 : decode cX11_runLaid 190 = .ok (.getfield 265, 3) := by decide +kernel
theorem dX11_runLaid_193 : decode cX11_runLaid 193 = .ok (.aload_n 0, 1) := by decide +kernel
theorem dX11_runLaid_194 : decode cX11_runLaid 194 = .ok (.getfield 79, 3) := by decide +kernel
theorem dX11_runLaid_197 : decode cX11_runLaid 197 = .ok (.iload_n 3, 1) := by decide +kernel
theorem dX11_runLaid_198 : decode cX11_runLaid 198 = .ok (.iaload, 1) := by decide +kernel
theorem dX11_runLaid_199 : decode cX11_runLaid 199 = .ok (.aaload, 1) := by decide +kernel
theorem dX11_runLaid_200 : decode cX11_runLaid 200 = .ok (.aload_n 0, 1) := by decide +kernel
theorem dX11_runLaid_201 : decode cX11_runLaid 201 = .ok (.iload_n 3, 1) := by decide +kernel
theorem dX11_runLaid_202 : decode cX11_runLaid 202 = .ok (.iload 4, 2) := by decide +kernel
theorem dX11_runLaid_204 : decode cX11_runLaid 204 = .ok (.invokevirtual 277, 3) := by decide +kernel
theorem dX11_runLaid_207 : decode cX11_runLaid 207 = .ok (.iaload, 1) := by decide +kernel
theorem dX11_runLaid_208 : decode cX11_runLaid 208 = .ok (.goto 83, 3) := by decide +kernel
theorem dX11_runLaid_211 : decode cX11_runLaid 211 = .ok (.aload_n 0, 1) := by decide +kernel
theorem dX11_runLaid_212 : decode cX11_runLaid 212 = .ok (.getfield 1, 3) := by decide +kernel
theorem dX11_runLaid_215 : decode cX11_runLaid 215 = .ok (.iload_n 3, 1) := by decide +kernel
theorem dX11_runLaid_216 : decode cX11_runLaid 216 = .ok (.iaload, 1) := by decide +kernel
theorem dX11_runLaid_217 : decode cX11_runLaid 217 = .ok (.bipush 12, 2) := by decide +kernel
theorem dX11_runLaid_219 : decode cX11_runLaid 219 = .ok (.if_icmp .ne 25, 3) := by decide +kernel
theorem dX11_runLaid_222 : decode cX11_runLaid 222 = .ok (.aload_n 0, 1) := by decide +kernel
theorem dX11_runLaid_223 : decode cX11_runLaid 223 = .ok (.aload_n 0, 1) := by decide +kernel
theorem dX11_runLaid_224 : decode cX11_runLaid 224 = .ok (.getfield 7, 3) := by decide +kernel
theorem dX11_runLaid_227 : decode cX11_runLaid 227 = .ok (.iload_n 3, 1) := by decide +kernel
theorem dX11_runLaid_228 : decode cX11_runLaid 228 = .ok (.iaload, 1) := by decide +kernel
theorem dX11_runLaid_229 : decode cX11_runLaid 229 = .ok (.aload_n 0, 1) := by decide +kernel
theorem dX11_runLaid_230 : decode cX11_runLaid 230 = .ok (.getfield 10, 3) := by decide +kernel
theorem dX11_runLaid_233 : decode cX11_runLaid 233 = .ok (.iload_n 3, 1) := by decide +kernel
theorem dX11_runLaid_234 : decode cX11_runLaid 234 = .ok (.iaload, 1) := by decide +kernel
theorem dX11_runLaid_235 : decode cX11_runLaid 235 = .ok (.iload_n 3, 1) := by decide +kernel
theorem dX11_runLaid_236 : decode cX11_runLaid 236 = .ok (.iload 4, 2) := by decide +kernel
theorem dX11_runLaid_238 : decode cX11_runLaid 238 = .ok (.invokevirtual 300, 3) := by decide +kernel
theorem dX11_runLaid_241 : decode cX11_runLaid 241 = .ok (.goto 50, 3) := by decide +kernel
theorem dX11_runLaid_244 : decode cX11_runLaid 244 = .ok (.aload_n 0, 1) := by decide +kernel
theorem dX11_runLaid_245 : decode cX11_runLaid 245 = .ok (.getfield 1, 3) := by decide +kernel
theorem dX11_runLaid_248 : decode cX11_runLaid 248 = .ok (.iload_n 3, 1) := by decide +kernel
theorem dX11_runLaid_249 : decode cX11_runLaid 249 = .ok (.iaload, 1) := by decide +kernel
theorem dX11_runLaid_250 : decode cX11_runLaid 250 = .ok (.aload_n 0, 1) := by decide +kernel
theorem dX11_runLaid_251 : decode cX11_runLaid 251 = .ok (.aload_n 0, 1) := by decide +kernel
theorem dX11_runLaid_252 : decode cX11_runLaid 252 = .ok (.getfield 7, 3) := by decide +kernel
theorem dX11_runLaid_255 : decode cX11_runLaid 255 = .ok (.iload_n 3, 1) := by decide +kernel
theorem dX11_runLaid_256 : decode cX11_runLaid 256 = .ok (.iaload, 1) := by decide +kernel
theorem dX11_runLaid_257 : decode cX11_runLaid 257 = .ok (.aload_n 0, 1) := by decide +kernel
theorem dX11_runLaid_258 : decode cX11_runLaid 258 = .ok (.getfield 10, 3) := by decide +kernel
theorem dX11_runLaid_261 : decode cX11_runLaid 261 = .ok (.iload_n 3, 1) := by decide +kernel
theorem dX11_runLaid_262 : decode cX11_runLaid 262 = .ok (.iaload, 1) := by decide +kernel
theorem dX11_runLaid_263 : decode cX11_runLaid 263 = .ok (.iload_n 3, 1) := by decide +kernel
theorem dX11_runLaid_264 : decode cX11_runLaid 264 = .ok (.iload 4, 2) := by decide +kernel
theorem dX11_runLaid_266 : decode cX11_runLaid 266 = .ok (.invokevirtual 300, 3) := by decide +kernel
theorem dX11_runLaid_269 : decode cX11_runLaid 269 = .ok (.aload_n 0, 1) := by decide +kernel
theorem dX11_runLaid_270 : decode cX11_runLaid 270 = .ok (.aload_n 0, 1) := by decide +kernel
theorem dX11_runLaid_271 : decode cX11_runLaid 271 = .ok (.getfield 13, 3) := by decide +kernel
theorem dX11_runLaid_274 : decode cX11_runLaid 274 = .ok (.iload_n 3, 1) := by decide +kernel
theorem dX11_runLaid_275 : decode cX11_runLaid 275 = .ok (.iaload, 1) := by decide +kernel
theorem dX11_runLaid_276 : decode cX11_runLaid 276 = .ok (.aload_n 0, 1) := by decide +kernel
theorem dX11_runLaid_277 : decode cX11_runLaid 277 = .ok (.getfield 16, 3) := by decide +kernel
theorem dX11_runLaid_280 : decode cX11_runLaid 280 = .ok (.iload_n 3, 1) := by decide +kernel
theorem dX11_runLaid_281 : decode cX11_runLaid 281 = .ok (.iaload, 1) := by decide +kernel
theorem dX11_runLaid_282 : decode cX11_runLaid 282 = .ok (.iload_n 3, 1) := by decide +kernel
theorem dX11_runLaid_283 : decode cX11_runLaid 283 = .ok (.iload 4, 2) := by decide +kernel
theorem dX11_runLaid_285 : decode cX11_runLaid 285 = .ok (.invokevirtual 300, 3) := by decide +kernel
theorem dX11_runLaid_288 : decode cX11_runLaid 288 = .ok (.invokestatic 282, 3) := by decide +kernel
theorem dX11_runLaid_291 : decode cX11_runLaid 291 = .ok (.iastore, 1) := by decide +kernel
theorem dX11_runLaid_292 : decode cX11_runLaid 292 = .ok (.iinc 3 1, 3) := by decide +kernel
theorem dX11_runLaid_295 : decode cX11_runLaid 295 = .ok (.goto (-146), 3) := by decide +kernel
theorem dX11_runLaid_298 : decode cX11_runLaid 298 = .ok (.iconst 0, 1) := by decide +kernel
theorem dX11_runLaid_299 : decode cX11_runLaid 299 = .ok (.istore_n 3, 1) := by decide +kernel
theorem dX11_runLaid_300 : decode cX11_runLaid 300 = .ok (.iload_n 3, 1) := by decide +kernel
theorem dX11_runLaid_301 : decode cX11_runLaid 301 = .ok (.aload_n 0, 1) := by decide +kernel
theorem dX11_runLaid_302 : decode cX11_runLaid 302 = .ok (.getfield 157, 3) := by decide +kernel
theorem dX11_runLaid_305 : decode cX11_runLaid 305 = .ok (.if_icmp .ge 88, 3) := by decide +kernel
theorem dX11_runLaid_308 : decode cX11_runLaid 308 = .ok (.iconst 0, 1) := by decide +kernel
theorem dX11_runLaid_309 : decode cX11_runLaid 309 = .ok (.istore 4, 2) := by decide +kernel
theorem dX11_runLaid_311 : decode cX11_runLaid 311 = .ok (.iload 4, 2) := by decide +kernel
theorem dX11_runLaid_313 : decode cX11_runLaid 313 = .ok (.aload_n 0, 1) := by decide +kernel
theorem dX11_runLaid_314 : decode cX11_runLaid 314 = .ok (.getfield 137, 3) := by decide +kernel
theorem dX11_runLaid_317 : decode cX11_runLaid 317 = .ok (.if_icmp .ge 70, 3) := by decide +kernel
theorem dX11_runLaid_320 : decode cX11_runLaid 320 = .ok (.aload_n 0, 1) := by decide +kernel
theorem dX11_runLaid_321 : decode cX11_runLaid 321 = .ok (.getfield 1, 3) := by decide +kernel
theorem dX11_runLaid_324 : decode cX11_runLaid 324 = .ok (.iload 4, 2) := by decide +kernel
theorem dX11_runLaid_326 : decode cX11_runLaid 326 = .ok (.iaload, 1) := by decide +kernel
theorem dX11_runLaid_327 : decode cX11_runLaid 327 = .ok (.bipush 12, 2) := by decide +kernel
theorem dX11_runLaid_329 : decode cX11_runLaid 329 = .ok (.if_icmp .ne 52, 3) := by decide +kernel
theorem dX11_runLaid_332 : decode cX11_runLaid 332 = .ok (.aload_n 0, 1) := by decide +kernel
theorem dX11_runLaid_333 : decode cX11_runLaid 333 = .ok (.iload 4, 2) := by decide +kernel
theorem dX11_runLaid_335 : decode cX11_runLaid 335 = .ok (.iload_n 2, 1) := by decide +kernel
theorem dX11_runLaid_336 : decode cX11_runLaid 336 = .ok (.aload_n 0, 1) := by decide +kernel
theorem dX11_runLaid_337 : decode cX11_runLaid 337 = .ok (.iload 4, 2) := by decide +kernel
theorem dX11_runLaid_339 : decode cX11_runLaid 339 = .ok (.invokevirtual 147, 3) := by decide +kernel
theorem dX11_runLaid_342 : decode cX11_runLaid 342 = .ok (.isub, 1) := by decide +kernel
theorem dX11_runLaid_343 : decode cX11_runLaid 343 = .ok (.iconst 1, 1) := by decide +kernel
theorem dX11_runLaid_344 : decode cX11_runLaid 344 = .ok (.iadd, 1) := by decide +kernel
theorem dX11_runLaid_345 : decode cX11_runLaid 345 = .ok (.invokevirtual 294, 3) := by decide +kernel
theorem dX11_runLaid_348 : decode cX11_runLaid 348 = .ok (.iload_n 3, 1) := by decide +kernel
theorem dX11_runLaid_349 : decode cX11_runLaid 349 = .ok (.if_icmp .ne 32, 3) := by decide +kernel
theorem dX11_runLaid_352 : decode cX11_runLaid 352 = .ok (.aload_n 0, 1) := by decide +kernel
theorem dX11_runLaid_353 : decode cX11_runLaid 353 = .ok (.getfield 265, 3) := by decide +kernel
theorem dX11_runLaid_356 : decode cX11_runLaid 356 = .ok (.aload_n 0, 1) := by decide +kernel
theorem dX11_runLaid_357 : decode cX11_runLaid 357 = .ok (.getfield 79, 3) := by decide +kernel
theorem dX11_runLaid_360 : decode cX11_runLaid 360 = .ok (.iload 4, 2) := by decide +kernel
theorem dX11_runLaid_362 : decode cX11_runLaid 362 = .ok (.iaload, 1) := by decide +kernel
theorem dX11_runLaid_363 : decode cX11_runLaid 363 = .ok (.aaload, 1) := by decide +kernel
theorem dX11_runLaid_364 : decode cX11_runLaid 364 = .ok (.aload_n 0, 1) := by decide +kernel
theorem dX11_runLaid_365 : decode cX11_runLaid 365 = .ok (.iload 4, 2) := by decide +kernel
theorem dX11_runLaid_367 : decode cX11_runLaid 367 = .ok (.iload_n 3, 1) := by decide +kernel
theorem dX11_runLaid_368 : decode cX11_runLaid 368 = .ok (.invokevirtual 277, 3) := by decide +kernel
theorem dX11_runLaid_371 : decode cX11_runLaid 371 = .ok (.aload_n 0, 1) := by decide +kernel
theorem dX11_runLaid_372 : decode cX11_runLaid 372 = .ok (.getfield 297, 3) := by decide +kernel
theorem dX11_runLaid_375 : decode cX11_runLaid 375 = .ok (.iload 4, 2) := by decide +kernel
theorem dX11_runLaid_377 : decode cX11_runLaid 377 = .ok (.aaload, 1) := by decide +kernel
theorem dX11_runLaid_378 : decode cX11_runLaid 378 = .ok (.iload_n 3, 1) := by decide +kernel
theorem dX11_runLaid_379 : decode cX11_runLaid 379 = .ok (.iaload, 1) := by decide +kernel
theorem dX11_runLaid_380 : decode cX11_runLaid 380 = .ok (.iastore, 1) := by decide +kernel
theorem dX11_runLaid_381 : decode cX11_runLaid 381 = .ok (.iinc 4 1, 3) := by decide +kernel
theorem dX11_runLaid_384 : decode cX11_runLaid 384 = .ok (.goto (-73), 3) := by decide +kernel
theorem dX11_runLaid_387 : decode cX11_runLaid 387 = .ok (.iinc 3 1, 3) := by decide +kernel
theorem dX11_runLaid_390 : decode cX11_runLaid 390 = .ok (.goto (-90), 3) := by decide +kernel
theorem dX11_runLaid_393 : decode cX11_runLaid 393 = .ok (.iinc 2 1, 3) := by decide +kernel
theorem dX11_runLaid_396 : decode cX11_runLaid 396 = .ok (.goto (-319), 3) := by decide +kernel
theorem dX11_runLaid_399 : decode cX11_runLaid 399 = .ok (.iconst 0, 1) := by decide +kernel
theorem dX11_runLaid_400 : decode cX11_runLaid 400 = .ok (.istore_n 2, 1) := by decide +kernel
theorem dX11_runLaid_401 : decode cX11_runLaid 401 = .ok (.iload_n 2, 1) := by decide +kernel
theorem dX11_runLaid_402 : decode cX11_runLaid 402 = .ok (.bipush 32, 2) := by decide +kernel
theorem dX11_runLaid_404 : decode cX11_runLaid 404 = .ok (.if_icmp .ge 47, 3) := by decide +kernel
theorem dX11_runLaid_407 : decode cX11_runLaid 407 = .ok (.aload_n 0, 1) := by decide +kernel
theorem dX11_runLaid_408 : decode cX11_runLaid 408 = .ok (.iload_n 2, 1) := by decide +kernel
theorem dX11_runLaid_409 : decode cX11_runLaid 409 = .ok (.invokevirtual 285, 3) := by decide +kernel
theorem dX11_runLaid_412 : decode cX11_runLaid 412 = .ok (.istore_n 3, 1) := by decide +kernel
theorem dX11_runLaid_413 : decode cX11_runLaid 413 = .ok (.aload_n 0, 1) := by decide +kernel
theorem dX11_runLaid_414 : decode cX11_runLaid 414 = .ok (.getfield 268, 3) := by decide +kernel
theorem dX11_runLaid_417 : decode cX11_runLaid 417 = .ok (.iload_n 2, 1) := by decide +kernel
theorem dX11_runLaid_418 : decode cX11_runLaid 418 = .ok (.iload_n 3, 1) := by decide +kernel
theorem dX11_runLaid_419 : decode cX11_runLaid 419 = .ok (.ifCond .ge 12, 3) := by decide +kernel
theorem dX11_runLaid_422 : decode cX11_runLaid 422 = .ok (.aload_n 0, 1) := by decide +kernel
theorem dX11_runLaid_423 : decode cX11_runLaid 423 = .ok (.getfield 271, 3) := by decide +kernel
theorem dX11_runLaid_426 : decode cX11_runLaid 426 = .ok (.iload_n 2, 1) := by decide +kernel
theorem dX11_runLaid_427 : decode cX11_runLaid 427 = .ok (.iaload, 1) := by decide +kernel
theorem dX11_runLaid_428 : decode cX11_runLaid 428 = .ok (.goto 16, 3) := by decide +kernel
theorem dX11_runLaid_431 : decode cX11_runLaid 431 = .ok (.aload_n 0, 1) := by decide +kernel
theorem dX11_runLaid_432 : decode cX11_runLaid 432 = .ok (.getfield 297, 3) := by decide +kernel
theorem dX11_runLaid_435 : decode cX11_runLaid 435 = .ok (.iload_n 3, 1) := by decide +kernel
theorem dX11_runLaid_436 : decode cX11_runLaid 436 = .ok (.aaload, 1) := by decide +kernel
theorem dX11_runLaid_437 : decode cX11_runLaid 437 = .ok (.aload_n 0, 1) := by decide +kernel
theorem dX11_runLaid_438 : decode cX11_runLaid 438 = .ok (.getfield 157, 3) := by decide +kernel
theorem dX11_runLaid_441 : decode cX11_runLaid 441 = .ok (.iconst 1, 1) := by decide +kernel
theorem dX11_runLaid_442 : decode cX11_runLaid 442 = .ok (.isub, 1) := by decide +kernel
theorem dX11_runLaid_443 : decode cX11_runLaid 443 = .ok (.iaload, 1) := by decide +kernel
theorem dX11_runLaid_444 : decode cX11_runLaid 444 = .ok (.iastore, 1) := by decide +kernel
theorem dX11_runLaid_445 : decode cX11_runLaid 445 = .ok (.iinc 2 1, 3) := by decide +kernel
theorem dX11_runLaid_448 : decode cX11_runLaid 448 = .ok (.goto (-47), 3) := by decide +kernel
theorem dX11_runLaid_451 : decode cX11_runLaid 451 = .ok (.iload_n 1, 1) := by decide +kernel
theorem dX11_runLaid_452 : decode cX11_runLaid 452 = .ok (.ireturn, 1) := by decide +kernel
theorem dX11_roundAt_0 : decode cX11_roundAt 0 = .ok (.iload_n 2, 1) := by decide +kernel
theorem dX11_roundAt_1 : decode cX11_roundAt 1 = .ok (.aload_n 0, 1) := by decide +kernel
theorem dX11_roundAt_2 : decode cX11_roundAt 2 = .ok (.getfield 189, 3) := by decide +kernel
theorem dX11_roundAt_5 : decode cX11_roundAt 5 = .ok (.iload_n 1, 1) := by decide +kernel
theorem dX11_roundAt_6 : decode cX11_roundAt 6 = .ok (.iaload, 1) := by decide +kernel
theorem dX11_roundAt_7 : decode cX11_roundAt 7 = .ok (.isub, 1) := by decide +kernel
theorem dX11_roundAt_8 : decode cX11_roundAt 8 = .ok (.istore_n 3, 1) := by decide +kernel
theorem dX11_roundAt_9 : decode cX11_roundAt 9 = .ok (.iload_n 3, 1) := by decide +kernel
theorem dX11_roundAt_10 : decode cX11_roundAt 10 = .ok (.ifCond .lt 34, 3) := by decide +kernel
theorem dX11_roundAt_13 : decode cX11_roundAt 13 = .ok (.iload_n 3, 1) := by decide +kernel
theorem dX11_roundAt_14 : decode cX11_roundAt 14 = .ok (.aload_n 0, 1) := by decide +kernel
theorem dX11_roundAt_15 : decode cX11_roundAt 15 = .ok (.getfield 216, 3) := by decide +kernel
theorem dX11_roundAt_18 : decode cX11_roundAt 18 = .ok (.irem, 1) := by decide +kernel
theorem dX11_roundAt_19 : decode cX11_roundAt 19 = .ok (.ifCond .ne 25, 3) := by decide +kernel
theorem dX11_roundAt_22 : decode cX11_roundAt 22 = .ok (.iload_n 3, 1) := by decide +kernel
theorem dX11_roundAt_23 : decode cX11_roundAt 23 = .ok (.aload_n 0, 1) := by decide +kernel
theorem dX11_roundAt_24 : decode cX11_roundAt 24 = .ok (.getfield 216, 3) := by decide +kernel
theorem dX11_roundAt_27 : decode cX11_roundAt 27 = .ok (.idiv, 1) := by decide +kernel
theorem dX11_roundAt_28 : decode cX11_roundAt 28 = .ok (.aload_n 0, 1) := by decide +kernel
theorem dX11_roundAt_29 : decode cX11_roundAt 29 = .ok (.getfield 157, 3) := by decide +kernel
theorem dX11_roundAt_32 : decode cX11_roundAt 32 = .ok (.if_icmp .ge 12, 3) := by decide +kernel
theorem dX11_roundAt_35 : decode cX11_roundAt 35 = .ok (.iload_n 3, 1) := by decide +kernel
theorem dX11_roundAt_36 : decode cX11_roundAt 36 = .ok (.aload_n 0, 1) := by decide +kernel
theorem dX11_roundAt_37 : decode cX11_roundAt 37 = .ok (.getfield 216, 3) := by decide +kernel
theorem dX11_roundAt_40 : decode cX11_roundAt 40 = .ok (.idiv, 1) := by decide +kernel
theorem dX11_roundAt_41 : decode cX11_roundAt 41 = .ok (.goto 4, 3) := by decide +kernel
theorem dX11_roundAt_44 : decode cX11_roundAt 44 = .ok (.iconst (-1), 1) := by decide +kernel
theorem dX11_roundAt_45 : decode cX11_roundAt 45 = .ok (.ireturn, 1) := by decide +kernel
theorem dX11_init_0 : decode cX11_init 0 = .ok (.aload_n 0, 1) := by decide +kernel
theorem dX11_init_1 : decode cX11_init 1 = .ok (.invokespecial 303, 3) := by decide +kernel
theorem dX11_init_4 : decode cX11_init 4 = .ok (.aload_n 0, 1) := by decide +kernel
theorem dX11_init_5 : decode cX11_init 5 = .ok (.bipush 49, 2) := by decide +kernel
theorem dX11_init_7 : decode cX11_init 7 = .ok (.newarray .int, 2) := by decide +kernel
theorem dX11_init_9 : decode cX11_init 9 = .ok (.putfield 1, 3) := by decide +kernel
theorem dX11_init_12 : decode cX11_init 12 = .ok (.aload_n 0, 1) := by decide +kernel
theorem dX11_init_13 : decode cX11_init 13 = .ok (.bipush 49, 2) := by decide +kernel
theorem dX11_init_15 : decode cX11_init 15 = .ok (.newarray .int, 2) := by decide +kernel
theorem dX11_init_17 : decode cX11_init 17 = .ok (.putfield 91, 3) := by decide +kernel
theorem dX11_init_20 : decode cX11_init 20 = .ok (.aload_n 0, 1) := by decide +kernel
theorem dX11_init_21 : decode cX11_init 21 = .ok (.bipush 49, 2) := by decide +kernel
theorem dX11_init_23 : decode cX11_init 23 = .ok (.newarray .int, 2) := by decide +kernel
theorem dX11_init_25 : decode cX11_init 25 = .ok (.putfield 79, 3) := by decide +kernel
theorem dX11_init_28 : decode cX11_init 28 = .ok (.aload_n 0, 1) := by decide +kernel
theorem dX11_init_29 : decode cX11_init 29 = .ok (.bipush 49, 2) := by decide +kernel
theorem dX11_init_31 : decode cX11_init 31 = .ok (.newarray .int, 2) := by decide +kernel
theorem dX11_init_33 : decode cX11_init 33 = .ok (.putfield 85, 3) := by decide +kernel
theorem dX11_init_36 : decode cX11_init 36 = .ok (.aload_n 0, 1) := by decide +kernel
theorem dX11_init_37 : decode cX11_init 37 = .ok (.bipush 49, 2) := by decide +kernel
theorem dX11_init_39 : decode cX11_init 39 = .ok (.newarray .int, 2) := by decide +kernel
theorem dX11_init_41 : decode cX11_init 41 = .ok (.putfield 88, 3) := by decide +kernel
theorem dX11_init_44 : decode cX11_init 44 = .ok (.aload_n 0, 1) := by decide +kernel
theorem dX11_init_45 : decode cX11_init 45 = .ok (.bipush 49, 2) := by decide +kernel
theorem dX11_init_47 : decode cX11_init 47 = .ok (.newarray .int, 2) := by decide +kernel
theorem dX11_init_49 : decode cX11_init 49 = .ok (.putfield 7, 3) := by decide +kernel
theorem dX11_init_52 : decode cX11_init 52 = .ok (.aload_n 0, 1) := by decide +kernel
theorem dX11_init_53 : decode cX11_init 53 = .ok (.bipush 49, 2) := by decide +kernel
theorem dX11_init_55 : decode cX11_init 55 = .ok (.newarray .int, 2) := by decide +kernel
theorem dX11_init_57 : decode cX11_init 57 = .ok (.putfield 13, 3) := by decide +kernel
theorem dX11_init_60 : decode cX11_init 60 = .ok (.aload_n 0, 1) := by decide +kernel
theorem dX11_init_61 : decode cX11_init 61 = .ok (.bipush 49, 2) := by decide +kernel
theorem dX11_init_63 : decode cX11_init 63 = .ok (.newarray .int, 2) := by decide +kernel
theorem dX11_init_65 : decode cX11_init 65 = .ok (.putfield 10, 3) := by decide +kernel
theorem dX11_init_68 : decode cX11_init 68 = .ok (.aload_n 0, 1) := by decide +kernel
theorem dX11_init_69 : decode cX11_init 69 = .ok (.bipush 49, 2) := by decide +kernel
theorem dX11_init_71 : decode cX11_init 71 = .ok (.newarray .int, 2) := by decide +kernel
theorem dX11_init_73 : decode cX11_init 73 = .ok (.putfield 16, 3) := by decide +kernel
theorem dX11_init_76 : decode cX11_init 76 = .ok (.aload_n 0, 1) := by decide +kernel
theorem dX11_init_77 : decode cX11_init 77 = .ok (.sipush 4096, 3) := by decide +kernel
theorem dX11_init_80 : decode cX11_init 80 = .ok (.newarray .byte, 2) := by decide +kernel
theorem dX11_init_82 : decode cX11_init 82 = .ok (.putfield 23, 3) := by decide +kernel
theorem dX11_init_85 : decode cX11_init 85 = .ok (.aload_n 0, 1) := by decide +kernel
theorem dX11_init_86 : decode cX11_init 86 = .ok (.bipush 16, 2) := by decide +kernel
theorem dX11_init_88 : decode cX11_init 88 = .ok (.putfield 157, 3) := by decide +kernel
theorem dX11_init_91 : decode cX11_init 91 = .ok (.aload_n 0, 1) := by decide +kernel
theorem dX11_init_92 : decode cX11_init 92 = .ok (.iconst 4, 1) := by decide +kernel
theorem dX11_init_93 : decode cX11_init 93 = .ok (.putfield 160, 3) := by decide +kernel
theorem dX11_init_96 : decode cX11_init 96 = .ok (.aload_n 0, 1) := by decide +kernel
theorem dX11_init_97 : decode cX11_init 97 = .ok (.iconst 2, 1) := by decide +kernel
theorem dX11_init_98 : decode cX11_init 98 = .ok (.putfield 163, 3) := by decide +kernel
theorem dX11_init_101 : decode cX11_init 101 = .ok (.aload_n 0, 1) := by decide +kernel
theorem dX11_init_102 : decode cX11_init 102 = .ok (.iconst 1, 1) := by decide +kernel
theorem dX11_init_103 : decode cX11_init 103 = .ok (.putfield 166, 3) := by decide +kernel
theorem dX11_init_106 : decode cX11_init 106 = .ok (.aload_n 0, 1) := by decide +kernel
theorem dX11_init_107 : decode cX11_init 107 = .ok (.iconst 1, 1) := by decide +kernel
theorem dX11_init_108 : decode cX11_init 108 = .ok (.putfield 169, 3) := by decide +kernel
theorem dX11_init_111 : decode cX11_init 111 = .ok (.aload_n 0, 1) := by decide +kernel
theorem dX11_init_112 : decode cX11_init 112 = .ok (.iconst 4, 1) := by decide +kernel
theorem dX11_init_113 : decode cX11_init 113 = .ok (.newarray .int, 2) := by decide +kernel
theorem dX11_init_115 : decode cX11_init 115 = .ok (.dup, 1) := by decide +kernel
theorem dX11_init_116 : decode cX11_init 116 = .ok (.iconst 0, 1) := by decide +kernel
theorem dX11_init_117 : decode cX11_init 117 = .ok (.iconst 1, 1) := by decide +kernel
theorem dX11_init_118 : decode cX11_init 118 = .ok (.iastore, 1) := by decide +kernel
theorem dX11_init_119 : decode cX11_init 119 = .ok (.dup, 1) := by decide +kernel
theorem dX11_init_120 : decode cX11_init 120 = .ok (.iconst 1, 1) := by decide +kernel
theorem dX11_init_121 : decode cX11_init 121 = .ok (.iconst 3, 1) := by decide +kernel
theorem dX11_init_122 : decode cX11_init 122 = .ok (.iastore, 1) := by decide +kernel
theorem dX11_init_123 : decode cX11_init 123 = .ok (.dup, 1) := by decide +kernel
theorem dX11_init_124 : decode cX11_init 124 = .ok (.iconst 2, 1) := by decide +kernel
theorem dX11_init_125 : decode cX11_init 125 = .ok (.iconst 4, 1) := by decide +kernel
theorem dX11_init_126 : decode cX11_init 126 = .ok (.iastore, 1) := by decide +kernel
theorem dX11_init_127 : decode cX11_init 127 = .ok (.dup, 1) := by decide +kernel
theorem dX11_init_128 : decode cX11_init 128 = .ok (.iconst 3, 1) := by decide +kernel
theorem dX11_init_129 : decode cX11_init 129 = .ok (.iconst 1, 1) := by decide +kernel
theorem dX11_init_130 : decode cX11_init 130 = .ok (.iastore, 1) := by decide +kernel
theorem dX11_init_131 : decode cX11_init 131 = .ok (.putfield 113, 3) := by decide +kernel
theorem dX11_init_134 : decode cX11_init 134 = .ok (.aload_n 0, 1) := by decide +kernel
theorem dX11_init_135 : decode cX11_init 135 = .ok (.sipush 4608, 3) := by decide +kernel
theorem dX11_init_138 : decode cX11_init 138 = .ok (.newarray .int, 2) := by decide +kernel
theorem dX11_init_140 : decode cX11_init 140 = .ok (.putfield 122, 3) := by decide +kernel
theorem dX11_init_143 : decode cX11_init 143 = .ok (.aload_n 0, 1) := by decide +kernel
theorem dX11_init_144 : decode cX11_init 144 = .ok (.sipush 4608, 3) := by decide +kernel
theorem dX11_init_147 : decode cX11_init 147 = .ok (.newarray .int, 2) := by decide +kernel
theorem dX11_init_149 : decode cX11_init 149 = .ok (.putfield 125, 3) := by decide +kernel
theorem dX11_init_152 : decode cX11_init 152 = .ok (.aload_n 0, 1) := by decide +kernel
theorem dX11_init_153 : decode cX11_init 153 = .ok (.sipush 4608, 3) := by decide +kernel
theorem dX11_init_156 : decode cX11_init 156 = .ok (.newarray .int, 2) := by decide +kernel
theorem dX11_init_158 : decode cX11_init 158 = .ok (.putfield 128, 3) := by decide +kernel
theorem dX11_init_161 : decode cX11_init 161 = .ok (.aload_n 0, 1) := by decide +kernel
theorem dX11_init_162 : decode cX11_init 162 = .ok (.sipush 4608, 3) := by decide +kernel
theorem dX11_init_165 : decode cX11_init 165 = .ok (.newarray .int, 2) := by decide +kernel
theorem dX11_init_167 : decode cX11_init 167 = .ok (.putfield 131, 3) := by decide +kernel
theorem dX11_init_170 : decode cX11_init 170 = .ok (.aload_n 0, 1) := by decide +kernel
theorem dX11_init_171 : decode cX11_init 171 = .ok (.bipush 48, 2) := by decide +kernel
theorem dX11_init_173 : decode cX11_init 173 = .ok (.bipush 48, 2) := by decide +kernel
theorem dX11_init_175 : decode cX11_init 175 = .ok (.multianewarray 307 2, 4) := by decide +kernel
theorem dX11_init_179 : decode cX11_init 179 = .ok (.putfield 178, 3) := by decide +kernel
theorem dX11_init_182 : decode cX11_init 182 = .ok (.aload_n 0, 1) := by decide +kernel
theorem dX11_init_183 : decode cX11_init 183 = .ok (.bipush 48, 2) := by decide +kernel
theorem dX11_init_185 : decode cX11_init 185 = .ok (.newarray .int, 2) := by decide +kernel
theorem dX11_init_187 : decode cX11_init 187 = .ok (.putfield 189, 3) := by decide +kernel
theorem dX11_init_190 : decode cX11_init 190 = .ok (.aload_n 0, 1) := by decide +kernel
theorem dX11_init_191 : decode cX11_init 191 = .ok (.bipush 48, 2) := by decide +kernel
theorem dX11_init_193 : decode cX11_init 193 = .ok (.newarray .int, 2) := by decide +kernel
theorem dX11_init_195 : decode cX11_init 195 = .ok (.putfield 199, 3) := by decide +kernel
theorem dX11_init_198 : decode cX11_init 198 = .ok (.aload_n 0, 1) := by decide +kernel
theorem dX11_init_199 : decode cX11_init 199 = .ok (.bipush 48, 2) := by decide +kernel
theorem dX11_init_201 : decode cX11_init 201 = .ok (.newarray .int, 2) := by decide +kernel
theorem dX11_init_203 : decode cX11_init 203 = .ok (.putfield 186, 3) := by decide +kernel
theorem dX11_init_206 : decode cX11_init 206 = .ok (.aload_n 0, 1) := by decide +kernel
theorem dX11_init_207 : decode cX11_init 207 = .ok (.bipush 48, 2) := by decide +kernel
theorem dX11_init_209 : decode cX11_init 209 = .ok (.newarray .int, 2) := by decide +kernel
theorem dX11_init_211 : decode cX11_init 211 = .ok (.putfield 234, 3) := by decide +kernel
theorem dX11_init_214 : decode cX11_init 214 = .ok (.aload_n 0, 1) := by decide +kernel
theorem dX11_init_215 : decode cX11_init 215 = .ok (.bipush 48, 2) := by decide +kernel
theorem dX11_init_217 : decode cX11_init 217 = .ok (.newarray .int, 2) := by decide +kernel
theorem dX11_init_219 : decode cX11_init 219 = .ok (.putfield 240, 3) := by decide +kernel
theorem dX11_init_222 : decode cX11_init 222 = .ok (.aload_n 0, 1) := by decide +kernel
theorem dX11_init_223 : decode cX11_init 223 = .ok (.bipush 48, 2) := by decide +kernel
theorem dX11_init_225 : decode cX11_init 225 = .ok (.newarray .int, 2) := by decide +kernel
theorem dX11_init_227 : decode cX11_init 227 = .ok (.putfield 243, 3) := by decide +kernel
theorem dX11_init_230 : decode cX11_init 230 = .ok (.aload_n 0, 1) := by decide +kernel
theorem dX11_init_231 : decode cX11_init 231 = .ok (.bipush 48, 2) := by decide +kernel
theorem dX11_init_233 : decode cX11_init 233 = .ok (.newarray .int, 2) := by decide +kernel
theorem dX11_init_235 : decode cX11_init 235 = .ok (.putfield 246, 3) := by decide +kernel
theorem dX11_init_238 : decode cX11_init 238 = .ok (.aload_n 0, 1) := by decide +kernel
theorem dX11_init_239 : decode cX11_init 239 = .ok (.bipush 32, 2) := by decide +kernel
theorem dX11_init_241 : decode cX11_init 241 = .ok (.newarray .int, 2) := by decide +kernel
theorem dX11_init_243 : decode cX11_init 243 = .ok (.putfield 271, 3) := by decide +kernel
theorem dX11_init_246 : decode cX11_init 246 = .ok (.aload_n 0, 1) := by decide +kernel
theorem dX11_init_247 : decode cX11_init 247 = .ok (.bipush 32, 2) := by decide +kernel
theorem dX11_init_249 : decode cX11_init 249 = .ok (.newarray .int, 2) := by decide +kernel
theorem dX11_init_251 : decode cX11_init 251 = .ok (.putfield 268, 3) := by decide +kernel
theorem dX11_init_254 : decode cX11_init 254 = .ok (.aload_n 0, 1) := by decide +kernel
theorem dX11_init_255 : decode cX11_init 255 = .ok (.iconst 4, 1) := by decide +kernel
theorem dX11_init_256 : decode cX11_init 256 = .ok (.sipush 1024, 3) := by decide +kernel
theorem dX11_init_259 : decode cX11_init 259 = .ok (.multianewarray 307 2, 4) := by decide +kernel
theorem dX11_init_263 : decode cX11_init 263 = .ok (.putfield 265, 3) := by decide +kernel
theorem dX11_init_266 : decode cX11_init 266 = .ok (.aload_n 0, 1) := by decide +kernel
theorem dX11_init_267 : decode cX11_init 267 = .ok (.bipush 48, 2) := by decide +kernel
theorem dX11_init_269 : decode cX11_init 269 = .ok (.bipush 64, 2) := by decide +kernel
theorem dX11_init_271 : decode cX11_init 271 = .ok (.multianewarray 307 2, 4) := by decide +kernel
theorem dX11_init_275 : decode cX11_init 275 = .ok (.putfield 297, 3) := by decide +kernel
theorem dX11_init_278 : decode cX11_init 278 = .ok (.aload_n 0, 1) := by decide +kernel
theorem dX11_init_279 : decode cX11_init 279 = .ok (.bipush 64, 2) := by decide +kernel
theorem dX11_init_281 : decode cX11_init 281 = .ok (.newarray .int, 2) := by decide +kernel
theorem dX11_init_283 : decode cX11_init 283 = .ok (.putfield 288, 3) := by decide +kernel
theorem dX11_init_286 : decode cX11_init 286 = .ok (.return_, 1) := by decide +kernel
theorem dX11_thrown_0 : decode cX11_thrown 0 = .ok (.aload_n 0, 1) := by decide +kernel
theorem dX11_thrown_1 : decode cX11_thrown 1 = .ok (.getfield 308, 3) := by decide +kernel
theorem dX11_thrown_4 : decode cX11_thrown 4 = .ok (.ireturn, 1) := by decide +kernel
theorem dX11_no_0 : decode cX11_no 0 = .ok (.aload_n 0, 1) := by decide +kernel
theorem dX11_no_1 : decode cX11_no 1 = .ok (.iload_n 1, 1) := by decide +kernel
theorem dX11_no_2 : decode cX11_no 2 = .ok (.putfield 308, 3) := by decide +kernel
theorem dX11_no_5 : decode cX11_no 5 = .ok (.iconst 0, 1) := by decide +kernel
theorem dX11_no_6 : decode cX11_no 6 = .ok (.ireturn, 1) := by decide +kernel
set_option maxRecDepth 20000 in
theorem ggX11_feed_X11_no : GoodIn wsX11_feed wsX11_no := goodIn_r _ [7, 1, 13, 14, 15, 16, 17, 18, 19, 20, 21, 22, 23, 24, 25, 26, 27, 28, 29, 30, 31, 32, 33, 34, 35, 36, 37, 38, 39, 40, 41, 42, 43, 44, 45, 46, 47, 48, 49, 50, 51, 52, 53, 54, 55, 56, 57, 58, 59, 60, 61, 62, 63] rfl (by decide +kernel)
set_option maxRecDepth 20000 in
theorem gX11_feed_X11_no : GoodIn wsX11_feed (wsV RX11 311 RX11 yX11_no wsX11_no) := goodIn_app (goodIn_of _ (by decide +kernel)) ggX11_feed_X11_no
set_option maxRecDepth 20000 in
theorem ggX11_feed_X11_word_ : GoodIn wsX11_feed wsX11_word_ := goodIn_r _ [11, 12, 13, 14, 15, 16, 17, 18, 19, 20, 21, 22, 23, 24, 25, 26, 27, 28, 29, 30, 31, 32, 33, 34, 35, 36, 37, 38, 39, 40, 41, 42, 43, 44, 45, 46, 47, 48, 49, 50, 51, 52, 53, 54, 55, 56, 57, 58, 59, 60, 61, 62, 63] rfl (by decide +kernel)
set_option maxRecDepth 20000 in
theorem gX11_feed_X11_word_ : GoodIn wsX11_feed (wsV RX11 314 RX11 yX11_word_ wsX11_word_) := goodIn_app (goodIn_of _ (by decide +kernel)) ggX11_feed_X11_word_
theorem dX11_feed_0 : decode cX11_feed 0 = .ok (.aload_n 0, 1) := by decide +kernel
theorem dX11_feed_1 : decode cX11_feed 1 = .ok (.iconst 0, 1) := by decide +kernel
theorem dX11_feed_2 : decode cX11_feed 2 = .ok (.putfield 308, 3) := by decide +kernel
theorem dX11_feed_5 : decode cX11_feed 5 = .ok (.aload_n 0, 1) := by decide +kernel
theorem dX11_feed_6 : decode cX11_feed 6 = .ok (.getfield 19, 3) := by decide +kernel
theorem dX11_feed_9 : decode cX11_feed 9 = .ok (.bipush 20, 2) := by decide +kernel
theorem dX11_feed_11 : decode cX11_feed 11 = .ok (.iadd, 1) := by decide +kernel
theorem dX11_feed_12 : decode cX11_feed 12 = .ok (.sipush 4096, 3) := by decide +kernel
theorem dX11_feed_15 : decode cX11_feed 15 = .ok (.if_icmp .le 9, 3) := by decide +kernel
theorem dX11_feed_18 : decode cX11_feed 18 = .ok (.aload_n 0, 1) := by decide +kernel
theorem dX11_feed_19 : decode cX11_feed 19 = .ok (.iconst 1, 1) := by decide +kernel
theorem dX11_feed_20 : decode cX11_feed 20 = .ok (.invokevirtual 311, 3) := by decide +kernel
theorem dX11_feed_23 : decode cX11_feed 23 = .ok (.ireturn, 1) := by decide +kernel
theorem dX11_feed_24 : decode cX11_feed 24 = .ok (.aload_n 0, 1) := by decide +kernel
theorem dX11_feed_25 : decode cX11_feed 25 = .ok (.iload_n 1, 1) := by decide +kernel
theorem dX11_feed_26 : decode cX11_feed 26 = .ok (.aload_n 0, 1) := by decide +kernel
theorem dX11_feed_27 : decode cX11_feed 27 = .ok (.getfield 19, 3) := by decide +kernel
theorem dX11_feed_30 : decode cX11_feed 30 = .ok (.invokevirtual 314, 3) := by decide +kernel
theorem dX11_feed_33 : decode cX11_feed 33 = .ok (.aload_n 0, 1) := by decide +kernel
theorem dX11_feed_34 : decode cX11_feed 34 = .ok (.iload_n 2, 1) := by decide +kernel
theorem dX11_feed_35 : decode cX11_feed 35 = .ok (.aload_n 0, 1) := by decide +kernel
theorem dX11_feed_36 : decode cX11_feed 36 = .ok (.getfield 19, 3) := by decide +kernel
theorem dX11_feed_39 : decode cX11_feed 39 = .ok (.iconst 4, 1) := by decide +kernel
theorem dX11_feed_40 : decode cX11_feed 40 = .ok (.iadd, 1) := by decide +kernel
theorem dX11_feed_41 : decode cX11_feed 41 = .ok (.invokevirtual 314, 3) := by decide +kernel
theorem dX11_feed_44 : decode cX11_feed 44 = .ok (.aload_n 0, 1) := by decide +kernel
theorem dX11_feed_45 : decode cX11_feed 45 = .ok (.iload_n 3, 1) := by decide +kernel
theorem dX11_feed_46 : decode cX11_feed 46 = .ok (.aload_n 0, 1) := by decide +kernel
theorem dX11_feed_47 : decode cX11_feed 47 = .ok (.getfield 19, 3) := by decide +kernel
theorem dX11_feed_50 : decode cX11_feed 50 = .ok (.bipush 8, 2) := by decide +kernel
theorem dX11_feed_52 : decode cX11_feed 52 = .ok (.iadd, 1) := by decide +kernel
theorem dX11_feed_53 : decode cX11_feed 53 = .ok (.invokevirtual 314, 3) := by decide +kernel
theorem dX11_feed_56 : decode cX11_feed 56 = .ok (.aload_n 0, 1) := by decide +kernel
theorem dX11_feed_57 : decode cX11_feed 57 = .ok (.iload 4, 2) := by decide +kernel
theorem dX11_feed_59 : decode cX11_feed 59 = .ok (.aload_n 0, 1) := by decide +kernel
theorem dX11_feed_60 : decode cX11_feed 60 = .ok (.getfield 19, 3) := by decide +kernel
theorem dX11_feed_63 : decode cX11_feed 63 = .ok (.bipush 12, 2) := by decide +kernel
theorem dX11_feed_65 : decode cX11_feed 65 = .ok (.iadd, 1) := by decide +kernel
theorem dX11_feed_66 : decode cX11_feed 66 = .ok (.invokevirtual 314, 3) := by decide +kernel
theorem dX11_feed_69 : decode cX11_feed 69 = .ok (.aload_n 0, 1) := by decide +kernel
theorem dX11_feed_70 : decode cX11_feed 70 = .ok (.iload 5, 2) := by decide +kernel
theorem dX11_feed_72 : decode cX11_feed 72 = .ok (.aload_n 0, 1) := by decide +kernel
theorem dX11_feed_73 : decode cX11_feed 73 = .ok (.getfield 19, 3) := by decide +kernel
theorem dX11_feed_76 : decode cX11_feed 76 = .ok (.bipush 16, 2) := by decide +kernel
theorem dX11_feed_78 : decode cX11_feed 78 = .ok (.iadd, 1) := by decide +kernel
theorem dX11_feed_79 : decode cX11_feed 79 = .ok (.invokevirtual 314, 3) := by decide +kernel
theorem dX11_feed_82 : decode cX11_feed 82 = .ok (.aload_n 0, 1) := by decide +kernel
theorem dX11_feed_83 : decode cX11_feed 83 = .ok (.dup, 1) := by decide +kernel
theorem dX11_feed_84 : decode cX11_feed 84 = .ok (.getfield 19, 3) := by decide +kernel
theorem dX11_feed_87 : decode cX11_feed 87 = .ok (.bipush 20, 2) := by decide +kernel
theorem dX11_feed_89 : decode cX11_feed 89 = .ok (.iadd, 1) := by decide +kernel
theorem dX11_feed_90 : decode cX11_feed 90 = .ok (.putfield 19, 3) := by decide +kernel
theorem dX11_feed_93 : decode cX11_feed 93 = .ok (.aload_n 0, 1) := by decide +kernel
theorem dX11_feed_94 : decode cX11_feed 94 = .ok (.getfield 19, 3) := by decide +kernel
theorem dX11_feed_97 : decode cX11_feed 97 = .ok (.ireturn, 1) := by decide +kernel
theorem dX11_word__0 : decode cX11_word_ 0 = .ok (.iconst 0, 1) := by decide +kernel
theorem dX11_word__1 : decode cX11_word_ 1 = .ok (.istore_n 3, 1) := by decide +kernel
theorem dX11_word__2 : decode cX11_word_ 2 = .ok (.iload_n 3, 1) := by decide +kernel
theorem dX11_word__3 : decode cX11_word_ 3 = .ok (.iconst 4, 1) := by decide +kernel
theorem dX11_word__4 : decode cX11_word_ 4 = .ok (.if_icmp .ge 27, 3) := by decide +kernel
theorem dX11_word__7 : decode cX11_word_ 7 = .ok (.aload_n 0, 1) := by decide +kernel
theorem dX11_word__8 : decode cX11_word_ 8 = .ok (.getfield 23, 3) := by decide +kernel
theorem dX11_word__11 : decode cX11_word_ 11 = .ok (.iload_n 2, 1) := by decide +kernel
theorem dX11_word__12 : decode cX11_word_ 12 = .ok (.iload_n 3, 1) := by decide +kernel
theorem dX11_word__13 : decode cX11_word_ 13 = .ok (.iadd, 1) := by decide +kernel
theorem dX11_word__14 : decode cX11_word_ 14 = .ok (.iload_n 1, 1) := by decide +kernel
theorem dX11_word__15 : decode cX11_word_ 15 = .ok (.bipush 24, 2) := by decide +kernel
theorem dX11_word__17 : decode cX11_word_ 17 = .ok (.bipush 8, 2) := by decide +kernel
theorem dX11_word__19 : decode cX11_word_ 19 = .ok (.iload_n 3, 1) := by decide +kernel
theorem dX11_word__20 : decode cX11_word_ 20 = .ok (.imul, 1) := by decide +kernel
theorem dX11_word__21 : decode cX11_word_ 21 = .ok (.isub, 1) := by decide +kernel
theorem dX11_word__22 : decode cX11_word_ 22 = .ok (.ishr, 1) := by decide +kernel
theorem dX11_word__23 : decode cX11_word_ 23 = .ok (.i2b, 1) := by decide +kernel
theorem dX11_word__24 : decode cX11_word_ 24 = .ok (.bastore, 1) := by decide +kernel
theorem dX11_word__25 : decode cX11_word_ 25 = .ok (.iinc 3 1, 3) := by decide +kernel
theorem dX11_word__28 : decode cX11_word_ 28 = .ok (.goto (-26), 3) := by decide +kernel
theorem dX11_word__31 : decode cX11_word_ 31 = .ok (.return_, 1) := by decide +kernel
set_option maxRecDepth 20000 in
theorem ggX11_end_X11_no : GoodIn wsX11_end wsX11_no := goodIn_r _ [7, 1, 8, 9, 10, 11, 12, 13, 14, 15, 16, 17, 18, 19, 20, 21, 22, 23, 24, 25, 26, 27, 28, 29, 30, 31, 32, 33, 34, 35, 36, 37, 38, 39, 40, 41, 42, 43, 44, 45, 46, 47, 48, 49, 50, 51, 52, 53, 54, 55, 56, 57, 58] rfl (by decide +kernel)
set_option maxRecDepth 20000 in
theorem gX11_end_X11_no : GoodIn wsX11_end (wsV RX11 311 RX11 yX11_no wsX11_no) := goodIn_app (goodIn_of _ (by decide +kernel)) ggX11_end_X11_no
theorem dX11_end_0 : decode cX11_end 0 = .ok (.aload_n 0, 1) := by decide +kernel
theorem dX11_end_1 : decode cX11_end 1 = .ok (.iconst 0, 1) := by decide +kernel
theorem dX11_end_2 : decode cX11_end 2 = .ok (.putfield 308, 3) := by decide +kernel
theorem dX11_end_5 : decode cX11_end 5 = .ok (.iload_n 1, 1) := by decide +kernel
theorem dX11_end_6 : decode cX11_end 6 = .ok (.ifCond .lt 11, 3) := by decide +kernel
theorem dX11_end_9 : decode cX11_end 9 = .ok (.iload_n 1, 1) := by decide +kernel
theorem dX11_end_10 : decode cX11_end 10 = .ok (.aload_n 0, 1) := by decide +kernel
theorem dX11_end_11 : decode cX11_end 11 = .ok (.getfield 19, 3) := by decide +kernel
theorem dX11_end_14 : decode cX11_end 14 = .ok (.if_icmp .le 9, 3) := by decide +kernel
theorem dX11_end_17 : decode cX11_end 17 = .ok (.aload_n 0, 1) := by decide +kernel
theorem dX11_end_18 : decode cX11_end 18 = .ok (.iconst 1, 1) := by decide +kernel
theorem dX11_end_19 : decode cX11_end 19 = .ok (.invokevirtual 311, 3) := by decide +kernel
theorem dX11_end_22 : decode cX11_end 22 = .ok (.ireturn, 1) := by decide +kernel
theorem dX11_end_23 : decode cX11_end 23 = .ok (.aload_n 0, 1) := by decide +kernel
theorem dX11_end_24 : decode cX11_end 24 = .ok (.iload_n 1, 1) := by decide +kernel
theorem dX11_end_25 : decode cX11_end 25 = .ok (.putfield 19, 3) := by decide +kernel
theorem dX11_end_28 : decode cX11_end 28 = .ok (.iload_n 1, 1) := by decide +kernel
theorem dX11_end_29 : decode cX11_end 29 = .ok (.ireturn, 1) := by decide +kernel
theorem dX11_away_0 : decode cX11_away 0 = .ok (.aload_n 0, 1) := by decide +kernel
theorem dX11_away_1 : decode cX11_away 1 = .ok (.iconst 0, 1) := by decide +kernel
theorem dX11_away_2 : decode cX11_away 2 = .ok (.putfield 216, 3) := by decide +kernel
theorem dX11_away_5 : decode cX11_away 5 = .ok (.aload_n 0, 1) := by decide +kernel
theorem dX11_away_6 : decode cX11_away 6 = .ok (.iconst 0, 1) := by decide +kernel
theorem dX11_away_7 : decode cX11_away 7 = .ok (.putfield 316, 3) := by decide +kernel
theorem dX11_away_10 : decode cX11_away 10 = .ok (.return_, 1) := by decide +kernel
set_option maxRecDepth 20000 in
theorem ggX11_text_X11_away : GoodIn wsX11_text wsX11_away := goodIn_r _ [18, 19, 20, 168, 169, 170, 171, 172, 173, 174, 175, 176, 177, 178, 179, 180, 181, 182, 183, 184, 185, 186, 187, 188, 189, 190, 191, 192, 193, 194, 195, 196, 197, 198, 199, 200, 201, 202, 203, 204, 205, 206, 207, 208, 209, 210, 211, 212, 213, 214, 215, 216, 217, 218] rfl (by decide +kernel)
set_option maxRecDepth 20000 in
theorem gX11_text_X11_away : GoodIn wsX11_text (wsV RX11 320 RX11 yX11_away wsX11_away) := goodIn_app (goodIn_of _ (by decide +kernel)) ggX11_text_X11_away
set_option maxRecDepth 20000 in
theorem gX11_text_X11_next : GoodIn wsX11_text (wsV RX11 75 RX11 yX11_next wsX11_next) := goodIn_app (goodIn_of _ (by decide +kernel)) ggX11_text_X11_next
set_option maxRecDepth 20000 in
theorem gX11_text_X11_row : GoodIn wsX11_text (wsV RX11 326 RX11 yX11_row wsX11_row) := goodIn_app (goodIn_of _ (by decide +kernel)) ggX11_text_X11_row
theorem dX11_text_0 : decode cX11_text 0 = .ok (.aload_n 0, 1) := by decide +kernel
theorem dX11_text_1 : decode cX11_text 1 = .ok (.iconst 0, 1) := by decide +kernel
theorem dX11_text_2 : decode cX11_text 2 = .ok (.putfield 308, 3) := by decide +kernel
theorem dX11_text_5 : decode cX11_text 5 = .ok (.aload_n 0, 1) := by decide +kernel
theorem dX11_text_6 : decode cX11_text 6 = .ok (.invokevirtual 320, 3) := by decide +kernel
theorem dX11_text_9 : decode cX11_text 9 = .ok (.iconst (-1), 1) := by decide +kernel
theorem dX11_text_10 : decode cX11_text 10 = .ok (.istore_n 1, 1) := by decide +kernel
theorem dX11_text_11 : decode cX11_text 11 = .ok (.aload_n 0, 1) := by decide +kernel
theorem dX11_text_12 : decode cX11_text 12 = .ok (.iconst 0, 1) := by decide +kernel
theorem dX11_text_13 : decode cX11_text 13 = .ok (.putfield 323, 3) := by decide +kernel
theorem dX11_text_16 : decode cX11_text 16 = .ok (.aload_n 0, 1) := by decide +kernel
theorem dX11_text_17 : decode cX11_text 17 = .ok (.iconst 0, 1) := by decide +kernel
theorem dX11_text_18 : decode cX11_text 18 = .ok (.putfield 137, 3) := by decide +kernel
theorem dX11_text_21 : decode cX11_text 21 = .ok (.aload_n 0, 1) := by decide +kernel
theorem dX11_text_22 : decode cX11_text 22 = .ok (.iconst (-1), 1) := by decide +kernel
theorem dX11_text_23 : decode cX11_text 23 = .ok (.putfield 104, 3) := by decide +kernel
theorem dX11_text_26 : decode cX11_text 26 = .ok (.aload_n 0, 1) := by decide +kernel
theorem dX11_text_27 : decode cX11_text 27 = .ok (.iconst 0, 1) := by decide +kernel
theorem dX11_text_28 : decode cX11_text 28 = .ok (.putfield 27, 3) := by decide +kernel
theorem dX11_text_31 : decode cX11_text 31 = .ok (.aload_n 0, 1) := by decide +kernel
theorem dX11_text_32 : decode cX11_text 32 = .ok (.invokevirtual 75, 3) := by decide +kernel
theorem dX11_text_35 : decode cX11_text 35 = .ok (.aload_n 0, 1) := by decide +kernel
theorem dX11_text_36 : decode cX11_text 36 = .ok (.getfield 137, 3) := by decide +kernel
theorem dX11_text_39 : decode cX11_text 39 = .ok (.bipush 48, 2) := by decide +kernel
theorem dX11_text_41 : decode cX11_text 41 = .ok (.if_icmp .ne 15, 3) := by decide +kernel
theorem dX11_text_44 : decode cX11_text 44 = .ok (.new 70, 3) := by decide +kernel
theorem dX11_text_47 : decode cX11_text 47 = .ok (.dup, 1) := by decide +kernel
theorem dX11_text_48 : decode cX11_text 48 = .ok (.aload_n 0, 1) := by decide +kernel
theorem dX11_text_49 : decode cX11_text 49 = .ok (.getfield 30, 3) := by decide +kernel
theorem dX11_text_52 : decode cX11_text 52 = .ok (.invokespecial 72, 3) := by decide +kernel
theorem dX11_text_55 : decode cX11_text 55 = .ok (.athrow, 1) := by decide +kernel
theorem dX11_text_56 : decode cX11_text 56 = .ok (.aload_n 0, 1) := by decide +kernel
theorem dX11_text_57 : decode cX11_text 57 = .ok (.aload_n 0, 1) := by decide +kernel
theorem dX11_text_58 : decode cX11_text 58 = .ok (.getfield 137, 3) := by decide +kernel
theorem dX11_text_61 : decode cX11_text 61 = .ok (.invokevirtual 326, 3) := by decide +kernel
theorem dX11_text_64 : decode cX11_text 64 = .ok (.aload_n 0, 1) := by decide +kernel
theorem dX11_text_65 : decode cX11_text 65 = .ok (.dup, 1) := by decide +kernel
theorem dX11_text_66 : decode cX11_text 66 = .ok (.getfield 137, 3) := by decide +kernel
theorem dX11_text_69 : decode cX11_text 69 = .ok (.iconst 1, 1) := by decide +kernel
theorem dX11_text_70 : decode cX11_text 70 = .ok (.iadd, 1) := by decide +kernel
theorem dX11_text_71 : decode cX11_text 71 = .ok (.putfield 137, 3) := by decide +kernel
theorem dX11_text_74 : decode cX11_text 74 = .ok (.aload_n 0, 1) := by decide +kernel
theorem dX11_text_75 : decode cX11_text 75 = .ok (.getfield 36, 3) := by decide +kernel
theorem dX11_text_78 : decode cX11_text 78 = .ok (.ifCond .ne (-43), 3) := by decide +kernel
theorem dX11_text_81 : decode cX11_text 81 = .ok (.aload_n 0, 1) := by decide +kernel
theorem dX11_text_82 : decode cX11_text 82 = .ok (.getfield 104, 3) := by decide +kernel
theorem dX11_text_85 : decode cX11_text 85 = .ok (.istore_n 1, 1) := by decide +kernel
theorem dX11_text_86 : decode cX11_text 86 = .ok (.aload_n 0, 1) := by decide +kernel
theorem dX11_text_87 : decode cX11_text 87 = .ok (.aload_n 0, 1) := by decide +kernel
theorem dX11_text_88 : decode cX11_text 88 = .ok (.getfield 104, 3) := by decide +kernel
theorem dX11_text_91 : decode cX11_text 91 = .ok (.ifCond .ge 7, 3) := by decide +kernel
theorem dX11_text_94 : decode cX11_text 94 = .ok (.iconst 0, 1) := by decide +kernel
theorem dX11_text_95 : decode cX11_text 95 = .ok (.goto 4, 3) := by decide +kernel
theorem dX11_text_98 : decode cX11_text 98 = .ok (.iconst 2, 1) := by decide +kernel
theorem dX11_text_99 : decode cX11_text 99 = .ok (.putfield 323, 3) := by decide +kernel
theorem dX11_text_102 : decode cX11_text 102 = .ok (.goto 14, 3) := by decide +kernel
theorem dX11_text_105 : decode cX11_text 105 = .ok (.astore_n 2, 1) := by decide +kernel
theorem dX11_text_106 : decode cX11_text 106 = .ok (.aload_n 2, 1) := by decide +kernel
theorem dX11_text_107 : decode cX11_text 107 = .ok (.getfield 329, 3) := by decide +kernel
theorem dX11_text_110 : decode cX11_text 110 = .ok (.istore_n 1, 1) := by decide +kernel
theorem dX11_text_111 : decode cX11_text 111 = .ok (.aload_n 0, 1) := by decide +kernel
theorem dX11_text_112 : decode cX11_text 112 = .ok (.iconst 1, 1) := by decide +kernel
theorem dX11_text_113 : decode cX11_text 113 = .ok (.putfield 323, 3) := by decide +kernel
theorem dX11_text_116 : decode cX11_text 116 = .ok (.aload_n 0, 1) := by decide +kernel
theorem dX11_text_117 : decode cX11_text 117 = .ok (.iconst 0, 1) := by decide +kernel
theorem dX11_text_118 : decode cX11_text 118 = .ok (.putfield 19, 3) := by decide +kernel
theorem dX11_text_121 : decode cX11_text 121 = .ok (.aload_n 0, 1) := by decide +kernel
theorem dX11_text_122 : decode cX11_text 122 = .ok (.iload_n 1, 1) := by decide +kernel
theorem dX11_text_123 : decode cX11_text 123 = .ok (.ifCond .ge 7, 3) := by decide +kernel
theorem dX11_text_126 : decode cX11_text 126 = .ok (.iconst 1, 1) := by decide +kernel
theorem dX11_text_127 : decode cX11_text 127 = .ok (.goto 4, 3) := by decide +kernel
theorem dX11_text_130 : decode cX11_text 130 = .ok (.iconst 0, 1) := by decide +kernel
theorem dX11_text_131 : decode cX11_text 131 = .ok (.putfield 330, 3) := by decide +kernel
theorem dX11_text_134 : decode cX11_text 134 = .ok (.aload_n 0, 1) := by decide +kernel
theorem dX11_text_135 : decode cX11_text 135 = .ok (.getfield 330, 3) := by decide +kernel
theorem dX11_text_138 : decode cX11_text 138 = .ok (.ifCond .ne 8, 3) := by decide +kernel
theorem dX11_text_141 : decode cX11_text 141 = .ok (.aload_n 0, 1) := by decide +kernel
theorem dX11_text_142 : decode cX11_text 142 = .ok (.iconst 0, 1) := by decide +kernel
theorem dX11_text_143 : decode cX11_text 143 = .ok (.putfield 137, 3) := by decide +kernel
theorem dX11_text_146 : decode cX11_text 146 = .ok (.iload_n 1, 1) := by decide +kernel
theorem dX11_text_147 : decode cX11_text 147 = .ok (.ireturn, 1) := by decide +kernel
set_option maxRecDepth 20000 in
theorem ggX11_set_X11_no : GoodIn wsX11_set wsX11_no := goodIn_r _ [12, 1, 19, 20, 21, 22, 23, 24, 25, 26, 27, 28, 29, 30, 31, 32, 33, 34, 35, 36, 37, 38, 39, 40, 41, 42, 43, 44, 45, 46, 47, 48, 49, 50, 51, 52, 53, 54, 55, 56, 57, 58, 59, 60, 61, 62, 63, 64, 65, 66, 67, 68, 69] rfl (by decide +kernel)
set_option maxRecDepth 20000 in
theorem gX11_set_X11_no : GoodIn wsX11_set (wsV RX11 311 RX11 yX11_no wsX11_no) := goodIn_app (goodIn_of _ (by decide +kernel)) ggX11_set_X11_no
set_option maxRecDepth 20000 in
theorem ggX11_set_X11_away : GoodIn wsX11_set wsX11_away := goodIn_r _ [16, 17, 18, 19, 20, 21, 22, 23, 24, 25, 26, 27, 28, 29, 30, 31, 32, 33, 34, 35, 36, 37, 38, 39, 40, 41, 42, 43, 44, 45, 46, 47, 48, 49, 50, 51, 52, 53, 54, 55, 56, 57, 58, 59, 60, 61, 62, 63, 64, 65, 66, 67, 68, 69] rfl (by decide +kernel)
set_option maxRecDepth 20000 in
theorem gX11_set_X11_away : GoodIn wsX11_set (wsV RX11 320 RX11 yX11_away wsX11_away) := goodIn_app (goodIn_of _ (by decide +kernel)) ggX11_set_X11_away
theorem dX11_set_0 : decode cX11_set 0 = .ok (.aload_n 0, 1) := by decide +kernel
theorem dX11_set_1 : decode cX11_set 1 = .ok (.iconst 0, 1) := by decide +kernel
theorem dX11_set_2 : decode cX11_set 2 = .ok (.putfield 308, 3) := by decide +kernel
theorem dX11_set_5 : decode cX11_set 5 = .ok (.iload_n 1, 1) := by decide +kernel
theorem dX11_set_6 : decode cX11_set 6 = .ok (.ifCond .lt 9, 3) := by decide +kernel
theorem dX11_set_9 : decode cX11_set 9 = .ok (.iload_n 1, 1) := by decide +kernel
theorem dX11_set_10 : decode cX11_set 10 = .ok (.bipush 8, 2) := by decide +kernel
theorem dX11_set_12 : decode cX11_set 12 = .ok (.if_icmp .le 9, 3) := by decide +kernel
theorem dX11_set_15 : decode cX11_set 15 = .ok (.aload_n 0, 1) := by decide +kernel
theorem dX11_set_16 : decode cX11_set 16 = .ok (.iconst 1, 1) := by decide +kernel
theorem dX11_set_17 : decode cX11_set 17 = .ok (.invokevirtual 311, 3) := by decide +kernel
theorem dX11_set_20 : decode cX11_set 20 = .ok (.ireturn, 1) := by decide +kernel
theorem dX11_set_21 : decode cX11_set 21 = .ok (.iload_n 1, 1) := by decide +kernel
theorem dX11_set_22 : decode cX11_set 22 = .ok (.iconst 4, 1) := by decide +kernel
theorem dX11_set_23 : decode cX11_set 23 = .ok (.if_icmp .ge 8, 3) := by decide +kernel
theorem dX11_set_26 : decode cX11_set 26 = .ok (.bipush 20, 2) := by decide +kernel
theorem dX11_set_28 : decode cX11_set 28 = .ok (.goto 27, 3) := by decide +kernel
theorem dX11_set_31 : decode cX11_set 31 = .ok (.iload_n 1, 1) := by decide +kernel
theorem dX11_set_32 : decode cX11_set 32 = .ok (.bipush 7, 2) := by decide +kernel
theorem dX11_set_34 : decode cX11_set 34 = .ok (.if_icmp .ge 8, 3) := by decide +kernel
theorem dX11_set_37 : decode cX11_set 37 = .ok (.bipush 8, 2) := by decide +kernel
theorem dX11_set_39 : decode cX11_set 39 = .ok (.goto 16, 3) := by decide +kernel
theorem dX11_set_42 : decode cX11_set 42 = .ok (.iload_n 1, 1) := by decide +kernel
theorem dX11_set_43 : decode cX11_set 43 = .ok (.bipush 7, 2) := by decide +kernel
theorem dX11_set_45 : decode cX11_set 45 = .ok (.if_icmp .ne 8, 3) := by decide +kernel
theorem dX11_set_48 : decode cX11_set 48 = .ok (.bipush 16, 2) := by decide +kernel
theorem dX11_set_50 : decode cX11_set 50 = .ok (.goto 5, 3) := by decide +kernel
theorem dX11_set_53 : decode cX11_set 53 = .ok (.bipush 64, 2) := by decide +kernel
theorem dX11_set_55 : decode cX11_set 55 = .ok (.istore_n 3, 1) := by decide +kernel
theorem dX11_set_56 : decode cX11_set 56 = .ok (.iload_n 2, 1) := by decide +kernel
theorem dX11_set_57 : decode cX11_set 57 = .ok (.iconst 1, 1) := by decide +kernel
theorem dX11_set_58 : decode cX11_set 58 = .ok (.if_icmp .lt 8, 3) := by decide +kernel
theorem dX11_set_61 : decode cX11_set 61 = .ok (.iload_n 2, 1) := by decide +kernel
theorem dX11_set_62 : decode cX11_set 62 = .ok (.iload_n 3, 1) := by decide +kernel
theorem dX11_set_63 : decode cX11_set 63 = .ok (.if_icmp .le 9, 3) := by decide +kernel
theorem dX11_set_66 : decode cX11_set 66 = .ok (.aload_n 0, 1) := by decide +kernel
theorem dX11_set_67 : decode cX11_set 67 = .ok (.iconst 1, 1) := by decide +kernel
theorem dX11_set_68 : decode cX11_set 68 = .ok (.invokevirtual 311, 3) := by decide +kernel
theorem dX11_set_71 : decode cX11_set 71 = .ok (.ireturn, 1) := by decide +kernel
theorem dX11_set_72 : decode cX11_set 72 = .ok (.aload_n 0, 1) := by decide +kernel
theorem dX11_set_73 : decode cX11_set 73 = .ok (.invokevirtual 320, 3) := by decide +kernel
theorem dX11_set_76 : decode cX11_set 76 = .ok (.iload_n 1, 1) := by decide +kernel
theorem dX11_set_77 : decode cX11_set 77 = .ok (.tableswitch 105 4 8 #[35, 49, 63, 77, 91], 35) := by decide +kernel
theorem dX11_set_112 : decode cX11_set 112 = .ok (.aload_n 0, 1) := by decide +kernel
theorem dX11_set_113 : decode cX11_set 113 = .ok (.getfield 163, 3) := by decide +kernel
theorem dX11_set_116 : decode cX11_set 116 = .ok (.istore 4, 2) := by decide +kernel
theorem dX11_set_118 : decode cX11_set 118 = .ok (.aload_n 0, 1) := by decide +kernel
theorem dX11_set_119 : decode cX11_set 119 = .ok (.iload_n 2, 1) := by decide +kernel
theorem dX11_set_120 : decode cX11_set 120 = .ok (.putfield 163, 3) := by decide +kernel
theorem dX11_set_123 : decode cX11_set 123 = .ok (.iload 4, 2) := by decide +kernel
theorem dX11_set_125 : decode cX11_set 125 = .ok (.ireturn, 1) := by decide +kernel
theorem dX11_set_126 : decode cX11_set 126 = .ok (.aload_n 0, 1) := by decide +kernel
theorem dX11_set_127 : decode cX11_set 127 = .ok (.getfield 166, 3) := by decide +kernel
theorem dX11_set_130 : decode cX11_set 130 = .ok (.istore 4, 2) := by decide +kernel
theorem dX11_set_132 : decode cX11_set 132 = .ok (.aload_n 0, 1) := by decide +kernel
theorem dX11_set_133 : decode cX11_set 133 = .ok (.iload_n 2, 1) := by decide +kernel
theorem dX11_set_134 : decode cX11_set 134 = .ok (.putfield 166, 3) := by decide +kernel
theorem dX11_set_137 : decode cX11_set 137 = .ok (.iload 4, 2) := by decide +kernel
theorem dX11_set_139 : decode cX11_set 139 = .ok (.ireturn, 1) := by decide +kernel
theorem dX11_set_140 : decode cX11_set 140 = .ok (.aload_n 0, 1) := by decide +kernel
theorem dX11_set_141 : decode cX11_set 141 = .ok (.getfield 169, 3) := by decide +kernel
theorem dX11_set_144 : decode cX11_set 144 = .ok (.istore 4, 2) := by decide +kernel
theorem dX11_set_146 : decode cX11_set 146 = .ok (.aload_n 0, 1) := by decide +kernel
theorem dX11_set_147 : decode cX11_set 147 = .ok (.iload_n 2, 1) := by decide +kernel
theorem dX11_set_148 : decode cX11_set 148 = .ok (.putfield 169, 3) := by decide +kernel
theorem dX11_set_151 : decode cX11_set 151 = .ok (.iload 4, 2) := by decide +kernel
theorem dX11_set_153 : decode cX11_set 153 = .ok (.ireturn, 1) := by decide +kernel
theorem dX11_set_154 : decode cX11_set 154 = .ok (.aload_n 0, 1) := by decide +kernel
theorem dX11_set_155 : decode cX11_set 155 = .ok (.getfield 160, 3) := by decide +kernel
theorem dX11_set_158 : decode cX11_set 158 = .ok (.istore 4, 2) := by decide +kernel
theorem dX11_set_160 : decode cX11_set 160 = .ok (.aload_n 0, 1) := by decide +kernel
theorem dX11_set_161 : decode cX11_set 161 = .ok (.iload_n 2, 1) := by decide +kernel
theorem dX11_set_162 : decode cX11_set 162 = .ok (.putfield 160, 3) := by decide +kernel
theorem dX11_set_165 : decode cX11_set 165 = .ok (.iload 4, 2) := by decide +kernel
theorem dX11_set_167 : decode cX11_set 167 = .ok (.ireturn, 1) := by decide +kernel
theorem dX11_set_168 : decode cX11_set 168 = .ok (.aload_n 0, 1) := by decide +kernel
theorem dX11_set_169 : decode cX11_set 169 = .ok (.getfield 157, 3) := by decide +kernel
theorem dX11_set_172 : decode cX11_set 172 = .ok (.istore 4, 2) := by decide +kernel
theorem dX11_set_174 : decode cX11_set 174 = .ok (.aload_n 0, 1) := by decide +kernel
theorem dX11_set_175 : decode cX11_set 175 = .ok (.iload_n 2, 1) := by decide +kernel
theorem dX11_set_176 : decode cX11_set 176 = .ok (.putfield 157, 3) := by decide +kernel
theorem dX11_set_179 : decode cX11_set 179 = .ok (.iload 4, 2) := by decide +kernel
theorem dX11_set_181 : decode cX11_set 181 = .ok (.ireturn, 1) := by decide +kernel
theorem dX11_set_182 : decode cX11_set 182 = .ok (.aload_n 0, 1) := by decide +kernel
theorem dX11_set_183 : decode cX11_set 183 = .ok (.getfield 113, 3) := by decide +kernel
theorem dX11_set_186 : decode cX11_set 186 = .ok (.iload_n 1, 1) := by decide +kernel
theorem dX11_set_187 : decode cX11_set 187 = .ok (.iaload, 1) := by decide +kernel
theorem dX11_set_188 : decode cX11_set 188 = .ok (.istore 4, 2) := by decide +kernel
theorem dX11_set_190 : decode cX11_set 190 = .ok (.aload_n 0, 1) := by decide +kernel
theorem dX11_set_191 : decode cX11_set 191 = .ok (.getfield 113, 3) := by decide +kernel
theorem dX11_set_194 : decode cX11_set 194 = .ok (.iload_n 1, 1) := by decide +kernel
theorem dX11_set_195 : decode cX11_set 195 = .ok (.iload_n 2, 1) := by decide +kernel
theorem dX11_set_196 : decode cX11_set 196 = .ok (.iastore, 1) := by decide +kernel
theorem dX11_set_197 : decode cX11_set 197 = .ok (.iload 4, 2) := by decide +kernel
theorem dX11_set_199 : decode cX11_set 199 = .ok (.ireturn, 1) := by decide +kernel
set_option maxRecDepth 20000 in
theorem ggX11_begin_X11_no : GoodIn wsX11_begin wsX11_no := goodIn_r _ [8, 1, 9, 10, 11, 12, 13, 14, 15, 16, 17, 18, 19, 20, 21, 22, 23, 24, 25, 26, 27, 28, 29, 30, 31, 32, 33, 34, 35, 36, 37, 38, 39, 40, 41, 42, 43, 44, 45, 46, 47, 48, 49, 50, 51, 52, 53, 54, 55, 56, 57, 58, 59] rfl (by decide +kernel)
set_option maxRecDepth 20000 in
theorem gX11_begin_X11_no : GoodIn wsX11_begin (wsV RX11 311 RX11 yX11_no wsX11_no) := goodIn_app (goodIn_of _ (by decide +kernel)) ggX11_begin_X11_no
theorem dX11_begin_0 : decode cX11_begin 0 = .ok (.aload_n 0, 1) := by decide +kernel
theorem dX11_begin_1 : decode cX11_begin 1 = .ok (.iconst 0, 1) := by decide +kernel
theorem dX11_begin_2 : decode cX11_begin 2 = .ok (.putfield 308, 3) := by decide +kernel
theorem dX11_begin_5 : decode cX11_begin 5 = .ok (.iload_n 1, 1) := by decide +kernel
theorem dX11_begin_6 : decode cX11_begin 6 = .ok (.ifCond .lt 9, 3) := by decide +kernel
theorem dX11_begin_9 : decode cX11_begin 9 = .ok (.iload_n 1, 1) := by decide +kernel
theorem dX11_begin_10 : decode cX11_begin 10 = .ok (.bipush 31, 2) := by decide +kernel
theorem dX11_begin_12 : decode cX11_begin 12 = .ok (.if_icmp .le 9, 3) := by decide +kernel
theorem dX11_begin_15 : decode cX11_begin 15 = .ok (.aload_n 0, 1) := by decide +kernel
theorem dX11_begin_16 : decode cX11_begin 16 = .ok (.iconst 1, 1) := by decide +kernel
theorem dX11_begin_17 : decode cX11_begin 17 = .ok (.invokevirtual 311, 3) := by decide +kernel
theorem dX11_begin_20 : decode cX11_begin 20 = .ok (.ireturn, 1) := by decide +kernel
theorem dX11_begin_21 : decode cX11_begin 21 = .ok (.aload_n 0, 1) := by decide +kernel
theorem dX11_begin_22 : decode cX11_begin 22 = .ok (.getfield 271, 3) := by decide +kernel
theorem dX11_begin_25 : decode cX11_begin 25 = .ok (.iload_n 1, 1) := by decide +kernel
theorem dX11_begin_26 : decode cX11_begin 26 = .ok (.iaload, 1) := by decide +kernel
theorem dX11_begin_27 : decode cX11_begin 27 = .ok (.istore_n 3, 1) := by decide +kernel
theorem dX11_begin_28 : decode cX11_begin 28 = .ok (.aload_n 0, 1) := by decide +kernel
theorem dX11_begin_29 : decode cX11_begin 29 = .ok (.getfield 271, 3) := by decide +kernel
theorem dX11_begin_32 : decode cX11_begin 32 = .ok (.iload_n 1, 1) := by decide +kernel
theorem dX11_begin_33 : decode cX11_begin 33 = .ok (.iload_n 2, 1) := by decide +kernel
theorem dX11_begin_34 : decode cX11_begin 34 = .ok (.iastore, 1) := by decide +kernel
theorem dX11_begin_35 : decode cX11_begin 35 = .ok (.aload_n 0, 1) := by decide +kernel
theorem dX11_begin_36 : decode cX11_begin 36 = .ok (.iconst 0, 1) := by decide +kernel
theorem dX11_begin_37 : decode cX11_begin 37 = .ok (.putfield 316, 3) := by decide +kernel
theorem dX11_begin_40 : decode cX11_begin 40 = .ok (.iload_n 3, 1) := by decide +kernel
theorem dX11_begin_41 : decode cX11_begin 41 = .ok (.ireturn, 1) := by decide +kernel
set_option maxRecDepth 20000 in
theorem ggX11_count_X11_findWaits : GoodIn wsX11_count wsX11_findWaits := goodIn_r _ [21, 6, 3, 22, 23, 24, 25, 26, 27, 20, 28, 29, 30, 31, 32, 33, 34, 35, 36, 37, 38, 39, 40, 41, 42, 43, 44, 45, 46, 47, 48, 49, 50, 51, 52, 53, 11, 12, 13, 14, 54, 55, 56, 57, 58, 59, 60, 91, 92, 93, 94, 95, 96, 97, 98, 99, 100, 101, 102, 103, 104, 105, 106, 107, 108, 109, 110, 111, 112, 113, 114, 115, 116, 117, 118, 119, 120, 121, 122, 123, 124, 125, 126, 127, 128, 129, 130, 131, 132, 133, 134, 135, 136, 137, 138, 139, 140, 141] rfl (by decide +kernel)
set_option maxRecDepth 20000 in
theorem gX11_count_X11_findWaits : GoodIn wsX11_count (wsV RX11 213 RX11 yX11_findWaits wsX11_findWaits) := goodIn_app (goodIn_of _ (by decide +kernel)) ggX11_count_X11_findWaits
set_option maxRecDepth 20000 in
theorem ggX11_count_X11_leastByUnits : GoodIn wsX11_count wsX11_leastByUnits := goodIn_r _ [64, 3, 11, 12, 13, 14, 65, 66, 67, 20, 68, 42, 43, 44, 45, 24, 69, 70, 71, 72, 73, 74, 75, 76, 91, 92, 93, 94, 95, 96, 97, 98, 99, 100, 101, 102, 103, 104, 105, 106, 107, 108, 109, 110, 111, 112, 113, 114, 115, 116, 117, 118, 119, 120, 121, 122, 123, 124, 125, 126, 127, 128, 129, 130, 131, 132, 133, 134, 135, 136, 137, 138, 139, 140, 141] rfl (by decide +kernel)
set_option maxRecDepth 20000 in
theorem gX11_count_X11_leastByUnits : GoodIn wsX11_count (wsV RX11 219 RX11 yX11_leastByUnits wsX11_leastByUnits) := goodIn_app (goodIn_of _ (by decide +kernel)) ggX11_count_X11_leastByUnits
set_option maxRecDepth 20000 in
theorem ggX11_count_X11_leastByCircles : GoodIn wsX11_count wsX11_leastByCircles := goodIn_r _ [80, 81, 82, 83, 20, 84, 3, 85, 86, 6, 53, 52, 50, 51, 11, 12, 13, 14, 91, 92, 93, 94, 95, 96, 97, 98, 99, 100, 101, 102, 103, 104, 105, 106, 107, 108, 109, 110, 111, 112, 113, 114, 115, 116, 117, 118, 119, 120, 121, 122, 123, 124, 125, 126, 127, 128, 129, 130, 131, 132, 133, 134, 135, 136, 137, 138, 139, 140, 141] rfl (by decide +kernel)
set_option maxRecDepth 20000 in
theorem gX11_count_X11_leastByCircles : GoodIn wsX11_count (wsV RX11 222 RX11 yX11_leastByCircles wsX11_leastByCircles) := goodIn_app (goodIn_of _ (by decide +kernel)) ggX11_count_X11_leastByCircles
set_option maxRecDepth 20000 in
theorem ggX11_count_X11_no : GoodIn wsX11_count wsX11_no := goodIn_r _ [90, 1, 91, 92, 93, 94, 95, 96, 97, 98, 99, 100, 101, 102, 103, 104, 105, 106, 107, 108, 109, 110, 111, 112, 113, 114, 115, 116, 117, 118, 119, 120, 121, 122, 123, 124, 125, 126, 127, 128, 129, 130, 131, 132, 133, 134, 135, 136, 137, 138, 139, 140, 141] rfl (by decide +kernel)
set_option maxRecDepth 20000 in
theorem gX11_count_X11_no : GoodIn wsX11_count (wsV RX11 311 RX11 yX11_no wsX11_no) := goodIn_app (goodIn_of _ (by decide +kernel)) ggX11_count_X11_no
theorem dX11_count_0 : decode cX11_count 0 = .ok (.aload_n 0, 1) := by decide +kernel
theorem dX11_count_1 : decode cX11_count 1 = .ok (.iconst 0, 1) := by decide +kernel
theorem dX11_count_2 : decode cX11_count 2 = .ok (.putfield 308, 3) := by decide +kernel
theorem dX11_count_5 : decode cX11_count 5 = .ok (.aload_n 0, 1) := by decide +kernel
theorem dX11_count_6 : decode cX11_count 6 = .ok (.getfield 216, 3) := by decide +kernel
theorem dX11_count_9 : decode cX11_count 9 = .ok (.ifCond .le 7, 3) := by decide +kernel
theorem dX11_count_12 : decode cX11_count 12 = .ok (.iconst 1, 1) := by decide +kernel
theorem dX11_count_13 : decode cX11_count 13 = .ok (.goto 4, 3) := by decide +kernel
theorem dX11_count_16 : decode cX11_count 16 = .ok (.iconst 0, 1) := by decide +kernel
theorem dX11_count_17 : decode cX11_count 17 = .ok (.istore_n 2, 1) := by decide +kernel
theorem dX11_count_18 : decode cX11_count 18 = .ok (.iload_n 1, 1) := by decide +kernel
theorem dX11_count_19 : decode cX11_count 19 = .ok (.tableswitch 216 0 11 #[61, 66, 71, 76, 85, 101, 121, 126, 139, 152, 190, 203], 61) := by decide +kernel
theorem dX11_count_80 : decode cX11_count 80 = .ok (.aload_n 0, 1) := by decide +kernel
theorem dX11_count_81 : decode cX11_count 81 = .ok (.getfield 137, 3) := by decide +kernel
theorem dX11_count_84 : decode cX11_count 84 = .ok (.ireturn, 1) := by decide +kernel
theorem dX11_count_85 : decode cX11_count 85 = .ok (.aload_n 0, 1) := by decide +kernel
theorem dX11_count_86 : decode cX11_count 86 = .ok (.getfield 323, 3) := by decide +kernel
theorem dX11_count_89 : decode cX11_count 89 = .ok (.ireturn, 1) := by decide +kernel
theorem dX11_count_90 : decode cX11_count 90 = .ok (.aload_n 0, 1) := by decide +kernel
theorem dX11_count_91 : decode cX11_count 91 = .ok (.getfield 19, 3) := by decide +kernel
theorem dX11_count_94 : decode cX11_count 94 = .ok (.ireturn, 1) := by decide +kernel
theorem dX11_count_95 : decode cX11_count 95 = .ok (.aload_n 0, 1) := by decide +kernel
theorem dX11_count_96 : decode cX11_count 96 = .ok (.invokevirtual 213, 3) := by decide +kernel
theorem dX11_count_99 : decode cX11_count 99 = .ok (.aload_n 0, 1) := by decide +kernel
theorem dX11_count_100 : decode cX11_count 100 = .ok (.getfield 119, 3) := by decide +kernel
theorem dX11_count_103 : decode cX11_count 103 = .ok (.ireturn, 1) := by decide +kernel
theorem dX11_count_104 : decode cX11_count 104 = .ok (.aload_n 0, 1) := by decide +kernel
theorem dX11_count_105 : decode cX11_count 105 = .ok (.getfield 330, 3) := by decide +kernel
theorem dX11_count_108 : decode cX11_count 108 = .ok (.ifCond .eq 10, 3) := by decide +kernel
theorem dX11_count_111 : decode cX11_count 111 = .ok (.aload_n 0, 1) := by decide +kernel
theorem dX11_count_112 : decode cX11_count 112 = .ok (.invokevirtual 219, 3) := by decide +kernel
theorem dX11_count_115 : decode cX11_count 115 = .ok (.goto 4, 3) := by decide +kernel
theorem dX11_count_118 : decode cX11_count 118 = .ok (.iconst 0, 1) := by decide +kernel
theorem dX11_count_119 : decode cX11_count 119 = .ok (.ireturn, 1) := by decide +kernel
theorem dX11_count_120 : decode cX11_count 120 = .ok (.aload_n 0, 1) := by decide +kernel
theorem dX11_count_121 : decode cX11_count 121 = .ok (.invokevirtual 213, 3) := by decide +kernel
theorem dX11_count_124 : decode cX11_count 124 = .ok (.aload_n 0, 1) := by decide +kernel
theorem dX11_count_125 : decode cX11_count 125 = .ok (.getfield 330, 3) := by decide +kernel
theorem dX11_count_128 : decode cX11_count 128 = .ok (.ifCond .eq 10, 3) := by decide +kernel
theorem dX11_count_131 : decode cX11_count 131 = .ok (.aload_n 0, 1) := by decide +kernel
theorem dX11_count_132 : decode cX11_count 132 = .ok (.invokevirtual 222, 3) := by decide +kernel
theorem dX11_count_135 : decode cX11_count 135 = .ok (.goto 4, 3) := by decide +kernel
theorem dX11_count_138 : decode cX11_count 138 = .ok (.iconst 0, 1) := by decide +kernel
theorem dX11_count_139 : decode cX11_count 139 = .ok (.ireturn, 1) := by decide +kernel
theorem dX11_count_140 : decode cX11_count 140 = .ok (.aload_n 0, 1) := by decide +kernel
theorem dX11_count_141 : decode cX11_count 141 = .ok (.getfield 216, 3) := by decide +kernel
theorem dX11_count_144 : decode cX11_count 144 = .ok (.ireturn, 1) := by decide +kernel
theorem dX11_count_145 : decode cX11_count 145 = .ok (.iload_n 2, 1) := by decide +kernel
theorem dX11_count_146 : decode cX11_count 146 = .ok (.ifCond .eq 10, 3) := by decide +kernel
theorem dX11_count_149 : decode cX11_count 149 = .ok (.aload_n 0, 1) := by decide +kernel
theorem dX11_count_150 : decode cX11_count 150 = .ok (.getfield 228, 3) := by decide +kernel
theorem dX11_count_153 : decode cX11_count 153 = .ok (.goto 4, 3) := by decide +kernel
theorem dX11_count_156 : decode cX11_count 156 = .ok (.iconst 0, 1) := by decide +kernel
theorem dX11_count_157 : decode cX11_count 157 = .ok (.ireturn, 1) := by decide +kernel
theorem dX11_count_158 : decode cX11_count 158 = .ok (.iload_n 2, 1) := by decide +kernel
theorem dX11_count_159 : decode cX11_count 159 = .ok (.ifCond .eq 10, 3) := by decide +kernel
theorem dX11_count_162 : decode cX11_count 162 = .ok (.aload_n 0, 1) := by decide +kernel
theorem dX11_count_163 : decode cX11_count 163 = .ok (.getfield 202, 3) := by decide +kernel
theorem dX11_count_166 : decode cX11_count 166 = .ok (.goto 4, 3) := by decide +kernel
theorem dX11_count_169 : decode cX11_count 169 = .ok (.iconst 0, 1) := by decide +kernel
theorem dX11_count_170 : decode cX11_count 170 = .ok (.ireturn, 1) := by decide +kernel
theorem dX11_count_171 : decode cX11_count 171 = .ok (.iconst 0, 1) := by decide +kernel
theorem dX11_count_172 : decode cX11_count 172 = .ok (.istore_n 3, 1) := by decide +kernel
theorem dX11_count_173 : decode cX11_count 173 = .ok (.iconst 0, 1) := by decide +kernel
theorem dX11_count_174 : decode cX11_count 174 = .ok (.istore 4, 2) := by decide +kernel
theorem dX11_count_176 : decode cX11_count 176 = .ok (.iload_n 2, 1) := by decide +kernel
theorem dX11_count_177 : decode cX11_count 177 = .ok (.ifCond .eq 30, 3) := by decide +kernel
theorem dX11_count_180 : decode cX11_count 180 = .ok (.iload 4, 2) := by decide +kernel
theorem dX11_count_182 : decode cX11_count 182 = .ok (.aload_n 0, 1) := by decide +kernel
theorem dX11_count_183 : decode cX11_count 183 = .ok (.getfield 137, 3) := by decide +kernel
theorem dX11_count_186 : decode cX11_count 186 = .ok (.if_icmp .ge 21, 3) := by decide +kernel
theorem dX11_count_189 : decode cX11_count 189 = .ok (.iload_n 3, 1) := by decide +kernel
theorem dX11_count_190 : decode cX11_count 190 = .ok (.aload_n 0, 1) := by decide +kernel
theorem dX11_count_191 : decode cX11_count 191 = .ok (.getfield 189, 3) := by decide +kernel
theorem dX11_count_194 : decode cX11_count 194 = .ok (.iload 4, 2) := by decide +kernel
theorem dX11_count_196 : decode cX11_count 196 = .ok (.iaload, 1) := by decide +kernel
theorem dX11_count_197 : decode cX11_count 197 = .ok (.invokestatic 134, 3) := by decide +kernel
theorem dX11_count_200 : decode cX11_count 200 = .ok (.istore_n 3, 1) := by decide +kernel
theorem dX11_count_201 : decode cX11_count 201 = .ok (.iinc 4 1, 3) := by decide +kernel
theorem dX11_count_204 : decode cX11_count 204 = .ok (.goto (-28), 3) := by decide +kernel
theorem dX11_count_207 : decode cX11_count 207 = .ok (.iload_n 3, 1) := by decide +kernel
theorem dX11_count_208 : decode cX11_count 208 = .ok (.ireturn, 1) := by decide +kernel
theorem dX11_count_209 : decode cX11_count 209 = .ok (.iload_n 2, 1) := by decide +kernel
theorem dX11_count_210 : decode cX11_count 210 = .ok (.ifCond .eq 10, 3) := by decide +kernel
theorem dX11_count_213 : decode cX11_count 213 = .ok (.aload_n 0, 1) := by decide +kernel
theorem dX11_count_214 : decode cX11_count 214 = .ok (.getfield 249, 3) := by decide +kernel
theorem dX11_count_217 : decode cX11_count 217 = .ok (.goto 4, 3) := by decide +kernel
theorem dX11_count_220 : decode cX11_count 220 = .ok (.iconst 0, 1) := by decide +kernel
theorem dX11_count_221 : decode cX11_count 221 = .ok (.ireturn, 1) := by decide +kernel
theorem dX11_count_222 : decode cX11_count 222 = .ok (.iload_n 2, 1) := by decide +kernel
theorem dX11_count_223 : decode cX11_count 223 = .ok (.ifCond .eq 10, 3) := by decide +kernel
theorem dX11_count_226 : decode cX11_count 226 = .ok (.aload_n 0, 1) := by decide +kernel
theorem dX11_count_227 : decode cX11_count 227 = .ok (.getfield 255, 3) := by decide +kernel
theorem dX11_count_230 : decode cX11_count 230 = .ok (.goto 4, 3) := by decide +kernel
theorem dX11_count_233 : decode cX11_count 233 = .ok (.iconst 0, 1) := by decide +kernel
theorem dX11_count_234 : decode cX11_count 234 = .ok (.ireturn, 1) := by decide +kernel
theorem dX11_count_235 : decode cX11_count 235 = .ok (.aload_n 0, 1) := by decide +kernel
theorem dX11_count_236 : decode cX11_count 236 = .ok (.iconst 1, 1) := by decide +kernel
theorem dX11_count_237 : decode cX11_count 237 = .ok (.invokevirtual 311, 3) := by decide +kernel
theorem dX11_count_240 : decode cX11_count 240 = .ok (.ireturn, 1) := by decide +kernel
set_option maxRecDepth 20000 in
theorem ggX11_delay_X11_no : GoodIn wsX11_delay wsX11_no := goodIn_r _ [12, 1, 56, 57, 58, 59, 60, 61, 62, 63, 64, 65, 66, 67, 68, 69, 70, 71, 72, 73, 74, 75, 76, 77, 78, 79, 80, 81, 82, 83, 84, 85, 86, 87, 88, 89, 90, 91, 92, 93, 94, 95, 96, 97, 98, 99, 100, 101, 102, 103, 104, 105, 106] rfl (by decide +kernel)
set_option maxRecDepth 20000 in
theorem gX11_delay_X11_no : GoodIn wsX11_delay (wsV RX11 311 RX11 yX11_no wsX11_no) := goodIn_app (goodIn_of _ (by decide +kernel)) ggX11_delay_X11_no
set_option maxRecDepth 20000 in
theorem ggX11_delay_X11_findWaits : GoodIn wsX11_delay wsX11_findWaits := goodIn_r _ [16, 3, 2, 17, 18, 19, 20, 21, 22, 11, 23, 24, 25, 26, 27, 28, 29, 30, 31, 32, 33, 34, 35, 36, 37, 38, 39, 40, 41, 42, 43, 44, 4, 5, 6, 7, 45, 46, 47, 48, 49, 50, 51, 52, 53, 54, 55, 56, 57, 58, 59, 60, 61, 62, 63, 64, 65, 66, 67, 68, 69, 70, 71, 72, 73, 74, 75, 76, 77, 78, 79, 80, 81, 82, 83, 84, 85, 86, 87, 88, 89, 90, 91, 92, 93, 94, 95, 96, 97, 98, 99, 100, 101, 102, 103, 104, 105, 106] rfl (by decide +kernel)
set_option maxRecDepth 20000 in
theorem gX11_delay_X11_findWaits : GoodIn wsX11_delay (wsV RX11 213 RX11 yX11_findWaits wsX11_findWaits) := goodIn_app (goodIn_of _ (by decide +kernel)) ggX11_delay_X11_findWaits
theorem dX11_delay_0 : decode cX11_delay 0 = .ok (.aload_n 0, 1) := by decide +kernel
theorem dX11_delay_1 : decode cX11_delay 1 = .ok (.iconst 0, 1) := by decide +kernel
theorem dX11_delay_2 : decode cX11_delay 2 = .ok (.putfield 308, 3) := by decide +kernel
theorem dX11_delay_5 : decode cX11_delay 5 = .ok (.iload_n 1, 1) := by decide +kernel
theorem dX11_delay_6 : decode cX11_delay 6 = .ok (.ifCond .lt 23, 3) := by decide +kernel
theorem dX11_delay_9 : decode cX11_delay 9 = .ok (.iload_n 1, 1) := by decide +kernel
theorem dX11_delay_10 : decode cX11_delay 10 = .ok (.aload_n 0, 1) := by decide +kernel
theorem dX11_delay_11 : decode cX11_delay 11 = .ok (.getfield 137, 3) := by decide +kernel
theorem dX11_delay_14 : decode cX11_delay 14 = .ok (.if_icmp .ge 15, 3) := by decide +kernel
theorem dX11_delay_17 : decode cX11_delay 17 = .ok (.iload_n 2, 1) := by decide +kernel
theorem dX11_delay_18 : decode cX11_delay 18 = .ok (.ifCond .lt 11, 3) := by decide +kernel
theorem dX11_delay_21 : decode cX11_delay 21 = .ok (.iload_n 2, 1) := by decide +kernel
theorem dX11_delay_22 : decode cX11_delay 22 = .ok (.aload_n 0, 1) := by decide +kernel
theorem dX11_delay_23 : decode cX11_delay 23 = .ok (.getfield 137, 3) := by decide +kernel
theorem dX11_delay_26 : decode cX11_delay 26 = .ok (.if_icmp .lt 9, 3) := by decide +kernel
theorem dX11_delay_29 : decode cX11_delay 29 = .ok (.aload_n 0, 1) := by decide +kernel
theorem dX11_delay_30 : decode cX11_delay 30 = .ok (.iconst 1, 1) := by decide +kernel
theorem dX11_delay_31 : decode cX11_delay 31 = .ok (.invokevirtual 311, 3) := by decide +kernel
theorem dX11_delay_34 : decode cX11_delay 34 = .ok (.ireturn, 1) := by decide +kernel
theorem dX11_delay_35 : decode cX11_delay 35 = .ok (.aload_n 0, 1) := by decide +kernel
theorem dX11_delay_36 : decode cX11_delay 36 = .ok (.invokevirtual 213, 3) := by decide +kernel
theorem dX11_delay_39 : decode cX11_delay 39 = .ok (.iconst 0, 1) := by decide +kernel
theorem dX11_delay_40 : decode cX11_delay 40 = .ok (.istore 4, 2) := by decide +kernel
theorem dX11_delay_42 : decode cX11_delay 42 = .ok (.iload 4, 2) := by decide +kernel
theorem dX11_delay_44 : decode cX11_delay 44 = .ok (.aload_n 0, 1) := by decide +kernel
theorem dX11_delay_45 : decode cX11_delay 45 = .ok (.getfield 119, 3) := by decide +kernel
theorem dX11_delay_48 : decode cX11_delay 48 = .ok (.if_icmp .ge 50, 3) := by decide +kernel
theorem dX11_delay_51 : decode cX11_delay 51 = .ok (.aload_n 0, 1) := by decide +kernel
theorem dX11_delay_52 : decode cX11_delay 52 = .ok (.getfield 122, 3) := by decide +kernel
theorem dX11_delay_55 : decode cX11_delay 55 = .ok (.iload 4, 2) := by decide +kernel
theorem dX11_delay_57 : decode cX11_delay 57 = .ok (.iaload, 1) := by decide +kernel
theorem dX11_delay_58 : decode cX11_delay 58 = .ok (.iload_n 1, 1) := by decide +kernel
theorem dX11_delay_59 : decode cX11_delay 59 = .ok (.if_icmp .ne 33, 3) := by decide +kernel
theorem dX11_delay_62 : decode cX11_delay 62 = .ok (.aload_n 0, 1) := by decide +kernel
theorem dX11_delay_63 : decode cX11_delay 63 = .ok (.getfield 125, 3) := by decide +kernel
