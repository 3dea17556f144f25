set_option maxRecDepth 20000 in
theorem ggX0_init_X3_init : GoodIn wsX0_init wsX3_init := goodIn_r _ [11, 12, 2, 3, 13, 14, 15, 16, 17, 18, 19, 20, 21, 34, 35, 25, 26, 27, 28, 29, 30, 31, 32, 33] (by decide +kernel) (by decide +kernel)
set_option maxRecDepth 20000 in
theorem gX0_init_X3_init_n21 : GoodIn wsX0_init (wsX3_init) := ggX0_init_X3_init
theorem dX0_init_0 : decode cX0_init 0 = .ok (.aload_n 0, 1) := by decide +kernel
theorem dX0_init_1 : decode cX0_init 1 = .ok (.invokespecial 3, 3) := by decide +kernel
theorem dX0_init_4 : decode cX0_init 4 = .ok (.aload_n 0, 1) := by decide +kernel
theorem dX0_init_5 : decode cX0_init 5 = .ok (.bipush 48, 2) := by decide +kernel
theorem dX0_init_7 : decode cX0_init 7 = .ok (.anewarray 9, 3) := by decide +kernel
theorem dX0_init_10 : decode cX0_init 10 = .ok (.putfield 11, 3) := by decide +kernel
theorem dX0_init_13 : decode cX0_init 13 = .ok (.aload_n 0, 1) := by decide +kernel
theorem dX0_init_14 : decode cX0_init 14 = .ok (.bipush 32, 2) := by decide +kernel
theorem dX0_init_16 : decode cX0_init 16 = .ok (.newarray .int, 2) := by decide +kernel
theorem dX0_init_18 : decode cX0_init 18 = .ok (.putfield 17, 3) := by decide +kernel
theorem dX0_init_21 : decode cX0_init 21 = .ok (.iconst 0, 1) := by decide +kernel
theorem dX0_init_22 : decode cX0_init 22 = .ok (.istore_n 1, 1) := by decide +kernel
theorem dX0_init_23 : decode cX0_init 23 = .ok (.iload_n 1, 1) := by decide +kernel
theorem dX0_init_24 : decode cX0_init 24 = .ok (.bipush 48, 2) := by decide +kernel
theorem dX0_init_26 : decode cX0_init 26 = .ok (.if_icmp .ge 22, 3) := by decide +kernel
theorem dX0_init_29 : decode cX0_init 29 = .ok (.aload_n 0, 1) := by decide +kernel
theorem dX0_init_30 : decode cX0_init 30 = .ok (.getfield 11, 3) := by decide +kernel
theorem dX0_init_33 : decode cX0_init 33 = .ok (.iload_n 1, 1) := by decide +kernel
theorem dX0_init_34 : decode cX0_init 34 = .ok (.new 9, 3) := by decide +kernel
theorem dX0_init_37 : decode cX0_init 37 = .ok (.dup, 1) := by decide +kernel
theorem dX0_init_38 : decode cX0_init 38 = .ok (.invokespecial 21, 3) := by decide +kernel
theorem dX0_init_41 : decode cX0_init 41 = .ok (.aastore, 1) := by decide +kernel
theorem dX0_init_42 : decode cX0_init 42 = .ok (.iinc 1 1, 3) := by decide +kernel
theorem dX0_init_45 : decode cX0_init 45 = .ok (.goto (-22), 3) := by decide +kernel
theorem dX0_init_48 : decode cX0_init 48 = .ok (.return_, 1) := by decide +kernel
theorem dX0_source_0 : decode cX0_source 0 = .ok (.aload_n 1, 1) := by decide +kernel
theorem dX0_source_1 : decode cX0_source 1 = .ok (.getfield 22, 3) := by decide +kernel
theorem dX0_source_4 : decode cX0_source 4 = .ok (.bipush 114, 2) := by decide +kernel
theorem dX0_source_6 : decode cX0_source 6 = .ok (.if_icmp .ne 15, 3) := by decide +kernel
theorem dX0_source_9 : decode cX0_source 9 = .ok (.aload_n 0, 1) := by decide +kernel
theorem dX0_source_10 : decode cX0_source 10 = .ok (.getfield 17, 3) := by decide +kernel
theorem dX0_source_13 : decode cX0_source 13 = .ok (.aload_n 1, 1) := by decide +kernel
theorem dX0_source_14 : decode cX0_source 14 = .ok (.getfield 28, 3) := by decide +kernel
theorem dX0_source_17 : decode cX0_source 17 = .ok (.iaload, 1) := by decide +kernel
theorem dX0_source_18 : decode cX0_source 18 = .ok (.goto 4, 3) := by decide +kernel
theorem dX0_source_21 : decode cX0_source 21 = .ok (.iconst (-1), 1) := by decide +kernel
theorem dX0_source_22 : decode cX0_source 22 = .ok (.ireturn, 1) := by decide +kernel
set_option maxRecDepth 20000 in
theorem ggX0_noteSetters_J7_fill_53178 : GoodIn wsX0_noteSetters wsJ7_fill_53178 := goodIn_r _ [8] (by decide +kernel) (by decide +kernel)
set_option maxRecDepth 20000 in
theorem gX0_noteSetters_J7_fill_53178 : GoodIn wsX0_noteSetters (va_wsS RX0 31 yJ7_fill_53178 wsJ7_fill_53178) := goodIn_app (goodIn_of _ (by decide +kernel)) ggX0_noteSetters_J7_fill_53178
theorem dX0_noteSetters_0 : decode cX0_noteSetters 0 = .ok (.aload_n 0, 1) := by decide +kernel
theorem dX0_noteSetters_1 : decode cX0_noteSetters 1 = .ok (.getfield 17, 3) := by decide +kernel
theorem dX0_noteSetters_4 : decode cX0_noteSetters 4 = .ok (.iconst (-1), 1) := by decide +kernel
theorem dX0_noteSetters_5 : decode cX0_noteSetters 5 = .ok (.invokestatic 31, 3) := by decide +kernel
theorem dX0_noteSetters_8 : decode cX0_noteSetters 8 = .ok (.iconst 0, 1) := by decide +kernel
theorem dX0_noteSetters_9 : decode cX0_noteSetters 9 = .ok (.istore_n 2, 1) := by decide +kernel
theorem dX0_noteSetters_10 : decode cX0_noteSetters 10 = .ok (.iload_n 2, 1) := by decide +kernel
theorem dX0_noteSetters_11 : decode cX0_noteSetters 11 = .ok (.iload_n 1, 1) := by decide +kernel
theorem dX0_noteSetters_12 : decode cX0_noteSetters 12 = .ok (.if_icmp .ge 49, 3) := by decide +kernel
theorem dX0_noteSetters_15 : decode cX0_noteSetters 15 = .ok (.aload_n 0, 1) := by decide +kernel
theorem dX0_noteSetters_16 : decode cX0_noteSetters 16 = .ok (.getfield 11, 3) := by decide +kernel
theorem dX0_noteSetters_19 : decode cX0_noteSetters 19 = .ok (.iload_n 2, 1) := by decide +kernel
theorem dX0_noteSetters_20 : decode cX0_noteSetters 20 = .ok (.aaload, 1) := by decide +kernel
theorem dX0_noteSetters_21 : decode cX0_noteSetters 21 = .ok (.getfield 37, 3) := by decide +kernel
theorem dX0_noteSetters_24 : decode cX0_noteSetters 24 = .ok (.istore_n 3, 1) := by decide +kernel
theorem dX0_noteSetters_25 : decode cX0_noteSetters 25 = .ok (.iload_n 3, 1) := by decide +kernel
theorem dX0_noteSetters_26 : decode cX0_noteSetters 26 = .ok (.ifCond .lt 29, 3) := by decide +kernel
theorem dX0_noteSetters_29 : decode cX0_noteSetters 29 = .ok (.aload_n 0, 1) := by decide +kernel
theorem dX0_noteSetters_30 : decode cX0_noteSetters 30 = .ok (.getfield 17, 3) := by decide +kernel
theorem dX0_noteSetters_33 : decode cX0_noteSetters 33 = .ok (.iload_n 3, 1) := by decide +kernel
theorem dX0_noteSetters_34 : decode cX0_noteSetters 34 = .ok (.iaload, 1) := by decide +kernel
theorem dX0_noteSetters_35 : decode cX0_noteSetters 35 = .ok (.ifCond .lt 13, 3) := by decide +kernel
theorem dX0_noteSetters_38 : decode cX0_noteSetters 38 = .ok (.aload_n 0, 1) := by decide +kernel
theorem dX0_noteSetters_39 : decode cX0_noteSetters 39 = .ok (.getfield 11, 3) := by decide +kernel
theorem dX0_noteSetters_42 : decode cX0_noteSetters 42 = .ok (.iload_n 2, 1) := by decide +kernel
theorem dX0_noteSetters_43 : decode cX0_noteSetters 43 = .ok (.aaload, 1) := by decide +kernel
theorem dX0_noteSetters_44 : decode cX0_noteSetters 44 = .ok (.getfield 40, 3) := by decide +kernel
theorem dX0_noteSetters_47 : decode cX0_noteSetters 47 = .ok (.ireturn, 1) := by decide +kernel
theorem dX0_noteSetters_48 : decode cX0_noteSetters 48 = .ok (.aload_n 0, 1) := by decide +kernel
theorem dX0_noteSetters_49 : decode cX0_noteSetters 49 = .ok (.getfield 17, 3) := by decide +kernel
theorem dX0_noteSetters_52 : decode cX0_noteSetters 52 = .ok (.iload_n 3, 1) := by decide +kernel
theorem dX0_noteSetters_53 : decode cX0_noteSetters 53 = .ok (.iload_n 2, 1) := by decide +kernel
theorem dX0_noteSetters_54 : decode cX0_noteSetters 54 = .ok (.iastore, 1) := by decide +kernel
theorem dX0_noteSetters_55 : decode cX0_noteSetters 55 = .ok (.iinc 2 1, 3) := by decide +kernel
theorem dX0_noteSetters_58 : decode cX0_noteSetters 58 = .ok (.goto (-48), 3) := by decide +kernel
theorem dX0_noteSetters_61 : decode cX0_noteSetters 61 = .ok (.iconst (-1), 1) := by decide +kernel
theorem dX0_noteSetters_62 : decode cX0_noteSetters 62 = .ok (.ireturn, 1) := by decide +kernel
theorem dX1_init_0 : decode cX1_init 0 = .ok (.aload_n 0, 1) := by decide +kernel
theorem dX1_init_1 : decode cX1_init 1 = .ok (.invokespecial 3, 3) := by decide +kernel
theorem dX1_init_4 : decode cX1_init 4 = .ok (.aload_n 0, 1) := by decide +kernel
theorem dX1_init_5 : decode cX1_init 5 = .ok (.bipush 48, 2) := by decide +kernel
theorem dX1_init_7 : decode cX1_init 7 = .ok (.putfield 9, 3) := by decide +kernel
theorem dX1_init_10 : decode cX1_init 10 = .ok (.return_, 1) := by decide +kernel
theorem dX1_become_0 : decode cX1_become 0 = .ok (.aload_n 0, 1) := by decide +kernel
theorem dX1_become_1 : decode cX1_become 1 = .ok (.iload_n 1, 1) := by decide +kernel
theorem dX1_become_2 : decode cX1_become 2 = .ok (.putfield 9, 3) := by decide +kernel
theorem dX1_become_5 : decode cX1_become 5 = .ok (.aload_n 0, 1) := by decide +kernel
theorem dX1_become_6 : decode cX1_become 6 = .ok (.iload_n 2, 1) := by decide +kernel
theorem dX1_become_7 : decode cX1_become 7 = .ok (.putfield 15, 3) := by decide +kernel
theorem dX1_become_10 : decode cX1_become 10 = .ok (.return_, 1) := by decide +kernel
theorem dX2_init_0 : decode cX2_init 0 = .ok (.aload_n 0, 1) := by decide +kernel
theorem dX2_init_1 : decode cX2_init 1 = .ok (.invokespecial 3, 3) := by decide +kernel
theorem dX2_init_4 : decode cX2_init 4 = .ok (.aload_n 0, 1) := by decide +kernel
theorem dX2_init_5 : decode cX2_init 5 = .ok (.iconst (-1), 1) := by decide +kernel
theorem dX2_init_6 : decode cX2_init 6 = .ok (.putfield 9, 3) := by decide +kernel
theorem dX2_init_9 : decode cX2_init 9 = .ok (.aload_n 0, 1) := by decide +kernel
theorem dX2_init_10 : decode cX2_init 10 = .ok (.aload_n 1, 1) := by decide +kernel
theorem dX2_init_11 : decode cX2_init 11 = .ok (.putfield 15, 3) := by decide +kernel
theorem dX2_init_14 : decode cX2_init 14 = .ok (.aload_n 0, 1) := by decide +kernel
theorem dX2_init_15 : decode cX2_init 15 = .ok (.aload_n 2, 1) := by decide +kernel
theorem dX2_init_16 : decode cX2_init 16 = .ok (.putfield 19, 3) := by decide +kernel
theorem dX2_init_19 : decode cX2_init 19 = .ok (.return_, 1) := by decide +kernel
set_option maxRecDepth 20000 in
theorem ggX2_readText_X5_cut : GoodIn wsX2_readText wsX5_cut := goodIn_r _ [11, 12, 13, 14, 15, 16, 17, 18, 19, 10, 20, 21, 22, 23, 24, 25, 26, 27, 28, 29, 30, 31, 32, 33, 34, 35, 36, 37, 38, 39, 40, 41, 42, 43, 44, 45, 46, 47, 48, 49, 50, 51, 52, 53, 54, 55, 56, 155, 156, 157, 158, 159, 160] (by decide +kernel) (by decide +kernel)
set_option maxRecDepth 20000 in
theorem gX2_readText_X5_cut : GoodIn wsX2_readText (wsV RX2 28 RX5 yX5_cut wsX5_cut) := goodIn_app (goodIn_of _ (by decide +kernel)) ggX2_readText_X5_cut
set_option maxRecDepth 20000 in
theorem ggX2_readText_X2_sign : GoodIn wsX2_readText wsX2_sign := goodIn_r _ [61, 4, 3, 62, 148, 149, 150, 151, 155, 156, 157, 158, 159, 160] (by decide +kernel) (by decide +kernel)
set_option maxRecDepth 20000 in
theorem gX2_readText_X2_sign : GoodIn wsX2_readText (wsV RX2 37 RX2 yX2_sign wsX2_sign) := goodIn_app (goodIn_of _ (by decide +kernel)) ggX2_readText_X2_sign
set_option maxRecDepth 20000 in
theorem ggX2_readText_X2_readRow : GoodIn wsX2_readText wsX2_readRow := goodIn_r _ [66, 67, 68, 69, 4, 70, 71, 72, 60, 73, 3, 74, 75, 76, 77, 78, 79, 80, 81, 82, 83, 84, 85, 86, 87, 88, 89, 90, 91, 92, 93, 94, 95, 57, 58, 59, 61, 62, 96, 97, 98, 99, 100, 101, 102, 103, 104, 105, 106, 107, 108, 109, 110, 111, 112, 113, 114, 115, 116, 117, 118, 119, 120, 121, 122, 123, 124, 125, 126, 127, 128, 129, 130, 131, 132, 133, 134, 161, 162, 163, 164, 165, 166, 167, 168, 169, 148, 149, 150, 151, 155, 156, 157, 158, 159, 160, 170, 171] (by decide +kernel) (by decide +kernel)
set_option maxRecDepth 20000 in
theorem gX2_readText_X2_readRow : GoodIn wsX2_readText (wsV RX2 45 RX2 yX2_readRow wsX2_readRow) := goodIn_app (goodIn_of _ (by decide +kernel)) ggX2_readText_X2_readRow
set_option maxRecDepth 20000 in
theorem ggX2_readText_X2_place : GoodIn wsX2_readText wsX2_place := goodIn_r _ [73, 4, 3, 74, 148, 149, 150, 151, 155, 156, 157, 158, 159, 160] (by decide +kernel) (by decide +kernel)
set_option maxRecDepth 20000 in
theorem gX2_readText_X2_place : GoodIn wsX2_readText (wsV RX2 49 RX2 yX2_place wsX2_place) := goodIn_app (goodIn_of _ (by decide +kernel)) ggX2_readText_X2_place
set_option maxRecDepth 20000 in
theorem ggX2_readText_X0_noteSetters : GoodIn wsX2_readText wsX0_noteSetters := goodIn_r _ [139, 140, 141, 142, 143, 144, 145, 146, 147, 152, 153, 154, 161, 162, 163, 164, 165, 166, 167, 168, 169] (by decide +kernel) (by decide +kernel)
set_option maxRecDepth 20000 in
theorem gX2_readText_X0_noteSetters : GoodIn wsX2_readText (wsV RX2 52 RX0 yX0_noteSetters wsX0_noteSetters) := goodIn_app (goodIn_of _ (by decide +kernel)) ggX2_readText_X0_noteSetters
theorem dX2_readText_0 : decode cX2_readText 0 = .ok (.aload_n 0, 1) := by decide +kernel
theorem dX2_readText_1 : decode cX2_readText 1 = .ok (.getfield 19, 3) := by decide +kernel
theorem dX2_readText_4 : decode cX2_readText 4 = .ok (.iconst 0, 1) := by decide +kernel
theorem dX2_readText_5 : decode cX2_readText 5 = .ok (.putfield 23, 3) := by decide +kernel
theorem dX2_readText_8 : decode cX2_readText 8 = .ok (.aload_n 0, 1) := by decide +kernel
theorem dX2_readText_9 : decode cX2_readText 9 = .ok (.getfield 15, 3) := by decide +kernel
theorem dX2_readText_12 : decode cX2_readText 12 = .ok (.iload_n 1, 1) := by decide +kernel
theorem dX2_readText_13 : decode cX2_readText 13 = .ok (.invokevirtual 28, 3) := by decide +kernel
theorem dX2_readText_16 : decode cX2_readText 16 = .ok (.aload_n 0, 1) := by decide +kernel
theorem dX2_readText_17 : decode cX2_readText 17 = .ok (.iconst 0, 1) := by decide +kernel
theorem dX2_readText_18 : decode cX2_readText 18 = .ok (.putfield 34, 3) := by decide +kernel
theorem dX2_readText_21 : decode cX2_readText 21 = .ok (.iconst 0, 1) := by decide +kernel
theorem dX2_readText_22 : decode cX2_readText 22 = .ok (.istore_n 2, 1) := by decide +kernel
theorem dX2_readText_23 : decode cX2_readText 23 = .ok (.iconst 1, 1) := by decide +kernel
theorem dX2_readText_24 : decode cX2_readText 24 = .ok (.istore_n 3, 1) := by decide +kernel
theorem dX2_readText_25 : decode cX2_readText 25 = .ok (.iload_n 3, 1) := by decide +kernel
theorem dX2_readText_26 : decode cX2_readText 26 = .ok (.ifCond .eq 41, 3) := by decide +kernel
theorem dX2_readText_29 : decode cX2_readText 29 = .ok (.iload_n 2, 1) := by decide +kernel
theorem dX2_readText_30 : decode cX2_readText 30 = .ok (.bipush 48, 2) := by decide +kernel
theorem dX2_readText_32 : decode cX2_readText 32 = .ok (.if_icmp .ge 35, 3) := by decide +kernel
theorem dX2_readText_35 : decode cX2_readText 35 = .ok (.iload_n 2, 1) := by decide +kernel
theorem dX2_readText_36 : decode cX2_readText 36 = .ok (.ifCond .eq 11, 3) := by decide +kernel
theorem dX2_readText_39 : decode cX2_readText 39 = .ok (.aload_n 0, 1) := by decide +kernel
theorem dX2_readText_40 : decode cX2_readText 40 = .ok (.invokevirtual 37, 3) := by decide +kernel
theorem dX2_readText_43 : decode cX2_readText 43 = .ok (.iconst (-1), 1) := by decide +kernel
theorem dX2_readText_44 : decode cX2_readText 44 = .ok (.if_icmp .eq 23, 3) := by decide +kernel
theorem dX2_readText_47 : decode cX2_readText 47 = .ok (.aload_n 0, 1) := by decide +kernel
theorem dX2_readText_48 : decode cX2_readText 48 = .ok (.aload_n 0, 1) := by decide +kernel
theorem dX2_readText_49 : decode cX2_readText 49 = .ok (.getfield 19, 3) := by decide +kernel
theorem dX2_readText_52 : decode cX2_readText 52 = .ok (.getfield 41, 3) := by decide +kernel
theorem dX2_readText_55 : decode cX2_readText 55 = .ok (.iload_n 2, 1) := by decide +kernel
theorem dX2_readText_56 : decode cX2_readText 56 = .ok (.aaload, 1) := by decide +kernel
theorem dX2_readText_57 : decode cX2_readText 57 = .ok (.invokevirtual 45, 3) := by decide +kernel
theorem dX2_readText_60 : decode cX2_readText 60 = .ok (.istore_n 3, 1) := by decide +kernel
theorem dX2_readText_61 : decode cX2_readText 61 = .ok (.iinc 2 1, 3) := by decide +kernel
theorem dX2_readText_64 : decode cX2_readText 64 = .ok (.goto (-39), 3) := by decide +kernel
theorem dX2_readText_67 : decode cX2_readText 67 = .ok (.iload_n 3, 1) := by decide +kernel
theorem dX2_readText_68 : decode cX2_readText 68 = .ok (.ifCond .eq 11, 3) := by decide +kernel
theorem dX2_readText_71 : decode cX2_readText 71 = .ok (.aload_n 0, 1) := by decide +kernel
theorem dX2_readText_72 : decode cX2_readText 72 = .ok (.invokevirtual 37, 3) := by decide +kernel
theorem dX2_readText_75 : decode cX2_readText 75 = .ok (.iconst (-1), 1) := by decide +kernel
theorem dX2_readText_76 : decode cX2_readText 76 = .ok (.if_icmp .eq 13, 3) := by decide +kernel
theorem dX2_readText_79 : decode cX2_readText 79 = .ok (.aload_n 0, 1) := by decide +kernel
theorem dX2_readText_80 : decode cX2_readText 80 = .ok (.aload_n 0, 1) := by decide +kernel
theorem dX2_readText_81 : decode cX2_readText 81 = .ok (.invokevirtual 49, 3) := by decide +kernel
theorem dX2_readText_84 : decode cX2_readText 84 = .ok (.putfield 9, 3) := by decide +kernel
theorem dX2_readText_87 : decode cX2_readText 87 = .ok (.iconst 1, 1) := by decide +kernel
theorem dX2_readText_88 : decode cX2_readText 88 = .ok (.ireturn, 1) := by decide +kernel
theorem dX2_readText_89 : decode cX2_readText 89 = .ok (.aload_n 0, 1) := by decide +kernel
theorem dX2_readText_90 : decode cX2_readText 90 = .ok (.aload_n 0, 1) := by decide +kernel
theorem dX2_readText_91 : decode cX2_readText 91 = .ok (.getfield 19, 3) := by decide +kernel
theorem dX2_readText_94 : decode cX2_readText 94 = .ok (.iload_n 2, 1) := by decide +kernel
theorem dX2_readText_95 : decode cX2_readText 95 = .ok (.invokevirtual 52, 3) := by decide +kernel
theorem dX2_readText_98 : decode cX2_readText 98 = .ok (.putfield 9, 3) := by decide +kernel
theorem dX2_readText_101 : decode cX2_readText 101 = .ok (.aload_n 0, 1) := by decide +kernel
theorem dX2_readText_102 : decode cX2_readText 102 = .ok (.getfield 9, 3) := by decide +kernel
theorem dX2_readText_105 : decode cX2_readText 105 = .ok (.ifCond .lt 5, 3) := by decide +kernel
theorem dX2_readText_108 : decode cX2_readText 108 = .ok (.iconst 2, 1) := by decide +kernel
theorem dX2_readText_109 : decode cX2_readText 109 = .ok (.ireturn, 1) := by decide +kernel
theorem dX2_readText_110 : decode cX2_readText 110 = .ok (.aload_n 0, 1) := by decide +kernel
theorem dX2_readText_111 : decode cX2_readText 111 = .ok (.getfield 19, 3) := by decide +kernel
theorem dX2_readText_114 : decode cX2_readText 114 = .ok (.iload_n 2, 1) := by decide +kernel
theorem dX2_readText_115 : decode cX2_readText 115 = .ok (.putfield 23, 3) := by decide +kernel
theorem dX2_readText_118 : decode cX2_readText 118 = .ok (.iconst 0, 1) := by decide +kernel
theorem dX2_readText_119 : decode cX2_readText 119 = .ok (.ireturn, 1) := by decide +kernel
set_option maxRecDepth 20000 in
theorem ggX2_readRow_X2_place : GoodIn wsX2_readRow wsX2_place := goodIn_r _ [9, 4, 10, 11, 86, 87, 88, 89, 90, 91, 92, 93, 94, 95] (by decide +kernel) (by decide +kernel)
set_option maxRecDepth 20000 in
theorem gX2_readRow_X2_place : GoodIn wsX2_readRow (wsV RX2 49 RX2 yX2_place wsX2_place) := goodIn_app (goodIn_of _ (by decide +kernel)) ggX2_readRow_X2_place
set_option maxRecDepth 20000 in
theorem ggX2_readRow_X3_clear : GoodIn wsX2_readRow wsX3_clear := goodIn_r _ [16, 17, 18, 19, 20, 21, 22, 23, 24, 25, 26, 27, 28, 29, 30, 31, 32, 77, 78, 79, 80, 81, 82, 83, 84, 85, 96, 97] (by decide +kernel) (by decide +kernel)
set_option maxRecDepth 20000 in
theorem gX2_readRow_X3_clear : GoodIn wsX2_readRow (wsV RX2 56 RX3 yX3_clear wsX3_clear) := goodIn_app (goodIn_of _ (by decide +kernel)) ggX2_readRow_X3_clear
set_option maxRecDepth 20000 in
theorem ggX2_readRow_X2_sign : GoodIn wsX2_readRow wsX2_sign := goodIn_r _ [36, 4, 10, 37, 86, 87, 88, 89, 90, 91, 92, 93, 94, 95] (by decide +kernel) (by decide +kernel)
set_option maxRecDepth 20000 in
theorem gX2_readRow_X2_sign : GoodIn wsX2_readRow (wsV RX2 37 RX2 yX2_sign wsX2_sign) := goodIn_app (goodIn_of _ (by decide +kernel)) ggX2_readRow_X2_sign
set_option maxRecDepth 20000 in
theorem ggX2_readRow_X2_readSpot : GoodIn wsX2_readRow wsX2_readSpot := goodIn_r _ [41, 42, 4, 43, 44, 45, 46, 47, 8, 48, 10, 49, 50, 51, 52, 53, 33, 34, 35, 36, 37, 54, 55, 56, 57, 58, 59, 60, 61, 77, 78, 79, 80, 81, 82, 83, 84, 85, 86, 87, 88, 89, 90, 91, 92, 93, 94, 95] (by decide +kernel) (by decide +kernel)
set_option maxRecDepth 20000 in
theorem gX2_readRow_X2_readSpot : GoodIn wsX2_readRow (wsV RX2 64 RX2 yX2_readSpot wsX2_readSpot) := goodIn_app (goodIn_of _ (by decide +kernel)) ggX2_readRow_X2_readSpot
set_option maxRecDepth 20000 in
theorem ggX2_readRow_X2_skip : GoodIn wsX2_readRow wsX2_skip := goodIn_r _ [53, 4, 33, 34, 35, 8, 36, 10, 37, 86, 87, 88, 89, 90, 91, 92, 93, 94, 95] (by decide +kernel) (by decide +kernel)
set_option maxRecDepth 20000 in
theorem gX2_readRow_X2_skip : GoodIn wsX2_readRow (wsV RX2 67 RX2 yX2_skip wsX2_skip) := goodIn_app (goodIn_of _ (by decide +kernel)) ggX2_readRow_X2_skip
set_option maxRecDepth 20000 in
theorem ggX2_readRow_X2_readOperand : GoodIn wsX2_readRow wsX2_readOperand := goodIn_r _ [65, 4, 50, 51, 52, 8, 53, 33, 34, 35, 36, 10, 37, 45, 46, 47, 48, 49, 66, 27, 28, 29, 30, 31, 32, 86, 87, 88, 89, 90, 91, 92, 93, 94, 95, 96, 97] (by decide +kernel) (by decide +kernel)
set_option maxRecDepth 20000 in
theorem gX2_readRow_X2_readOperand : GoodIn wsX2_readRow (wsV RX2 75 RX2 yX2_readOperand wsX2_readOperand) := goodIn_app (goodIn_of _ (by decide +kernel)) ggX2_readRow_X2_readOperand
set_option maxRecDepth 20000 in
theorem ggX2_readRow_X2_value : GoodIn wsX2_readRow wsX2_value := goodIn_r _ [48, 4, 10, 49, 86, 87, 88, 89, 90, 91, 92, 93, 94, 95] (by decide +kernel) (by decide +kernel)
set_option maxRecDepth 20000 in
theorem gX2_readRow_X2_value : GoodIn wsX2_readRow (wsV RX2 79 RX2 yX2_value wsX2_value) := goodIn_app (goodIn_of _ (by decide +kernel)) ggX2_readRow_X2_value
set_option maxRecDepth 20000 in
theorem ggX2_readRow_X2_readReckoning : GoodIn wsX2_readRow wsX2_readReckoning := goodIn_r _ [70, 2, 71, 72, 4, 33, 34, 35, 8, 36, 10, 37, 62, 63, 64, 65, 50, 51, 52, 53, 45, 46, 47, 48, 49, 66, 27, 28, 29, 30, 31, 32, 73, 74, 75, 76, 1, 77, 78, 79, 80, 81, 82, 83, 84, 85, 86, 87, 88, 89, 90, 91, 92, 93, 94, 95, 96, 97] (by decide +kernel) (by decide +kernel)
set_option maxRecDepth 20000 in
theorem gX2_readRow_X2_readReckoning : GoodIn wsX2_readRow (wsV RX2 85 RX2 yX2_readReckoning wsX2_readReckoning) := goodIn_app (goodIn_of _ (by decide +kernel)) ggX2_readRow_X2_readReckoning
theorem dX2_readRow_0 : decode cX2_readRow 0 = .ok (.aload_n 1, 1) := by decide +kernel
theorem dX2_readRow_1 : decode cX2_readRow 1 = .ok (.aload_n 0, 1) := by decide +kernel
theorem dX2_readRow_2 : decode cX2_readRow 2 = .ok (.invokevirtual 49, 3) := by decide +kernel
theorem dX2_readRow_5 : decode cX2_readRow 5 = .ok (.invokevirtual 56, 3) := by decide +kernel
theorem dX2_readRow_8 : decode cX2_readRow 8 = .ok (.aload_n 0, 1) := by decide +kernel
theorem dX2_readRow_9 : decode cX2_readRow 9 = .ok (.invokevirtual 37, 3) := by decide +kernel
theorem dX2_readRow_12 : decode cX2_readRow 12 = .ok (.bipush 114, 2) := by decide +kernel
theorem dX2_readRow_14 : decode cX2_readRow 14 = .ok (.if_icmp .eq 42, 3) := by decide +kernel
theorem dX2_readRow_17 : decode cX2_readRow 17 = .ok (.aload_n 1, 1) := by decide +kernel
theorem dX2_readRow_18 : decode cX2_readRow 18 = .ok (.iconst 3, 1) := by decide +kernel
theorem dX2_readRow_19 : decode cX2_readRow 19 = .ok (.putfield 61, 3) := by decide +kernel
theorem dX2_readRow_22 : decode cX2_readRow 22 = .ok (.aload_n 0, 1) := by decide +kernel
theorem dX2_readRow_23 : decode cX2_readRow 23 = .ok (.aload_n 1, 1) := by decide +kernel
theorem dX2_readRow_24 : decode cX2_readRow 24 = .ok (.invokevirtual 64, 3) := by decide +kernel
theorem dX2_readRow_27 : decode cX2_readRow 27 = .ok (.ifCond .eq 27, 3) := by decide +kernel
theorem dX2_readRow_30 : decode cX2_readRow 30 = .ok (.aload_n 0, 1) := by decide +kernel
theorem dX2_readRow_31 : decode cX2_readRow 31 = .ok (.bipush 61, 2) := by decide +kernel
theorem dX2_readRow_33 : decode cX2_readRow 33 = .ok (.invokevirtual 67, 3) := by decide +kernel
theorem dX2_readRow_36 : decode cX2_readRow 36 = .ok (.ifCond .eq 18, 3) := by decide +kernel
theorem dX2_readRow_39 : decode cX2_readRow 39 = .ok (.aload_n 0, 1) := by decide +kernel
theorem dX2_readRow_40 : decode cX2_readRow 40 = .ok (.aload_n 1, 1) := by decide +kernel
theorem dX2_readRow_41 : decode cX2_readRow 41 = .ok (.getfield 71, 3) := by decide +kernel
theorem dX2_readRow_44 : decode cX2_readRow 44 = .ok (.invokevirtual 75, 3) := by decide +kernel
theorem dX2_readRow_47 : decode cX2_readRow 47 = .ok (.ifCond .eq 7, 3) := by decide +kernel
theorem dX2_readRow_50 : decode cX2_readRow 50 = .ok (.iconst 1, 1) := by decide +kernel
theorem dX2_readRow_51 : decode cX2_readRow 51 = .ok (.goto 4, 3) := by decide +kernel
theorem dX2_readRow_54 : decode cX2_readRow 54 = .ok (.iconst 0, 1) := by decide +kernel
theorem dX2_readRow_55 : decode cX2_readRow 55 = .ok (.ireturn, 1) := by decide +kernel
theorem dX2_readRow_56 : decode cX2_readRow 56 = .ok (.aload_n 1, 1) := by decide +kernel
theorem dX2_readRow_57 : decode cX2_readRow 57 = .ok (.aload_n 0, 1) := by decide +kernel
theorem dX2_readRow_58 : decode cX2_readRow 58 = .ok (.invokevirtual 79, 3) := by decide +kernel
theorem dX2_readRow_61 : decode cX2_readRow 61 = .ok (.putfield 82, 3) := by decide +kernel
theorem dX2_readRow_64 : decode cX2_readRow 64 = .ok (.aload_n 0, 1) := by decide +kernel
theorem dX2_readRow_65 : decode cX2_readRow 65 = .ok (.dup, 1) := by decide +kernel
theorem dX2_readRow_66 : decode cX2_readRow 66 = .ok (.getfield 34, 3) := by decide +kernel
theorem dX2_readRow_69 : decode cX2_readRow 69 = .ok (.iconst 1, 1) := by decide +kernel
theorem dX2_readRow_70 : decode cX2_readRow 70 = .ok (.iadd, 1) := by decide +kernel
theorem dX2_readRow_71 : decode cX2_readRow 71 = .ok (.putfield 34, 3) := by decide +kernel
theorem dX2_readRow_74 : decode cX2_readRow 74 = .ok (.aload_n 0, 1) := by decide +kernel
theorem dX2_readRow_75 : decode cX2_readRow 75 = .ok (.bipush 61, 2) := by decide +kernel
theorem dX2_readRow_77 : decode cX2_readRow 77 = .ok (.invokevirtual 67, 3) := by decide +kernel
theorem dX2_readRow_80 : decode cX2_readRow 80 = .ok (.ifCond .ne 5, 3) := by decide +kernel
theorem dX2_readRow_83 : decode cX2_readRow 83 = .ok (.iconst 0, 1) := by decide +kernel
theorem dX2_readRow_84 : decode cX2_readRow 84 = .ok (.ireturn, 1) := by decide +kernel
theorem dX2_readRow_85 : decode cX2_readRow 85 = .ok (.aload_n 0, 1) := by decide +kernel
theorem dX2_readRow_86 : decode cX2_readRow 86 = .ok (.invokevirtual 37, 3) := by decide +kernel
theorem dX2_readRow_89 : decode cX2_readRow 89 = .ok (.bipush 97, 2) := by decide +kernel
theorem dX2_readRow_91 : decode cX2_readRow 91 = .ok (.if_icmp .eq 9, 3) := by decide +kernel
theorem dX2_readRow_94 : decode cX2_readRow 94 = .ok (.aload_n 0, 1) := by decide +kernel
theorem dX2_readRow_95 : decode cX2_readRow 95 = .ok (.aload_n 1, 1) := by decide +kernel
theorem dX2_readRow_96 : decode cX2_readRow 96 = .ok (.invokevirtual 85, 3) := by decide +kernel
theorem dX2_readRow_99 : decode cX2_readRow 99 = .ok (.ireturn, 1) := by decide +kernel
theorem dX2_readRow_100 : decode cX2_readRow 100 = .ok (.aload_n 1, 1) := by decide +kernel
theorem dX2_readRow_101 : decode cX2_readRow 101 = .ok (.iconst 2, 1) := by decide +kernel
theorem dX2_readRow_102 : decode cX2_readRow 102 = .ok (.putfield 61, 3) := by decide +kernel
theorem dX2_readRow_105 : decode cX2_readRow 105 = .ok (.aload_n 0, 1) := by decide +kernel
theorem dX2_readRow_106 : decode cX2_readRow 106 = .ok (.aload_n 1, 1) := by decide +kernel
theorem dX2_readRow_107 : decode cX2_readRow 107 = .ok (.invokevirtual 64, 3) := by decide +kernel
theorem dX2_readRow_110 : decode cX2_readRow 110 = .ok (.ireturn, 1) := by decide +kernel
set_option maxRecDepth 20000 in
theorem ggX2_readReckoning_X2_sign : GoodIn wsX2_readReckoning wsX2_sign := goodIn_r _ [9, 4, 10, 11, 46, 47, 48, 49, 50, 51, 52, 53, 54, 55] (by decide +kernel) (by decide +kernel)
set_option maxRecDepth 20000 in
theorem gX2_readReckoning_X2_sign : GoodIn wsX2_readReckoning (wsV RX2 37 RX2 yX2_sign wsX2_sign) := goodIn_app (goodIn_of _ (by decide +kernel)) ggX2_readReckoning_X2_sign
set_option maxRecDepth 20000 in
theorem ggX2_readReckoning_X2_readOperand : GoodIn wsX2_readReckoning wsX2_readOperand := goodIn_r _ [15, 4, 16, 17, 18, 8, 19, 5, 6, 7, 9, 10, 11, 20, 21, 22, 23, 24, 25, 26, 27, 28, 29, 30, 31, 46, 47, 48, 49, 50, 51, 52, 53, 54, 55, 56, 57] (by decide +kernel) (by decide +kernel)
set_option maxRecDepth 20000 in
theorem gX2_readReckoning_X2_readOperand : GoodIn wsX2_readReckoning (wsV RX2 75 RX2 yX2_readOperand wsX2_readOperand) := goodIn_app (goodIn_of _ (by decide +kernel)) ggX2_readReckoning_X2_readOperand
set_option maxRecDepth 20000 in
theorem ggX2_readReckoning_X2_readOperator : GoodIn wsX2_readReckoning wsX2_readOperator := goodIn_r _ [35, 3, 36, 4, 5, 6, 7, 8, 9, 10, 11, 37, 38, 39, 40, 41, 42, 43, 44, 45, 46, 47, 48, 49, 50, 51, 52, 53, 54, 55] (by decide +kernel) (by decide +kernel)
set_option maxRecDepth 20000 in
theorem gX2_readReckoning_X2_readOperator : GoodIn wsX2_readReckoning (wsV RX2 88 RX2 yX2_readOperator wsX2_readOperator) := goodIn_app (goodIn_of _ (by decide +kernel)) ggX2_readReckoning_X2_readOperator
set_option maxRecDepth 20000 in
theorem ggX2_readReckoning_X2_skip : GoodIn wsX2_readReckoning wsX2_skip := goodIn_r _ [19, 4, 5, 6, 7, 8, 9, 10, 11, 46, 47, 48, 49, 50, 51, 52, 53, 54, 55] (by decide +kernel) (by decide +kernel)
set_option maxRecDepth 20000 in
theorem gX2_readReckoning_X2_skip : GoodIn wsX2_readReckoning (wsV RX2 67 RX2 yX2_skip wsX2_skip) := goodIn_app (goodIn_of _ (by decide +kernel)) ggX2_readReckoning_X2_skip
theorem dX2_readReckoning_0 : decode cX2_readReckoning 0 = .ok (.aload_n 0, 1) := by decide +kernel
theorem dX2_readReckoning_1 : decode cX2_readReckoning 1 = .ok (.invokevirtual 37, 3) := by decide +kernel
theorem dX2_readReckoning_4 : decode cX2_readReckoning 4 = .ok (.sipush 258, 3) := by decide +kernel
theorem dX2_readReckoning_7 : decode cX2_readReckoning 7 = .ok (.if_icmp .eq 49, 3) := by decide +kernel
theorem dX2_readReckoning_10 : decode cX2_readReckoning 10 = .ok (.aload_n 0, 1) := by decide +kernel
theorem dX2_readReckoning_11 : decode cX2_readReckoning 11 = .ok (.invokevirtual 37, 3) := by decide +kernel
theorem dX2_readReckoning_14 : decode cX2_readReckoning 14 = .ok (.sipush 259, 3) := by decide +kernel
theorem dX2_readReckoning_17 : decode cX2_readReckoning 17 = .ok (.if_icmp .eq 39, 3) := by decide +kernel
theorem dX2_readReckoning_20 : decode cX2_readReckoning 20 = .ok (.aload_n 0, 1) := by decide +kernel
theorem dX2_readReckoning_21 : decode cX2_readReckoning 21 = .ok (.aload_n 1, 1) := by decide +kernel
theorem dX2_readReckoning_22 : decode cX2_readReckoning 22 = .ok (.getfield 71, 3) := by decide +kernel
theorem dX2_readReckoning_25 : decode cX2_readReckoning 25 = .ok (.invokevirtual 75, 3) := by decide +kernel
theorem dX2_readReckoning_28 : decode cX2_readReckoning 28 = .ok (.ifCond .eq 26, 3) := by decide +kernel
theorem dX2_readReckoning_31 : decode cX2_readReckoning 31 = .ok (.aload_n 0, 1) := by decide +kernel
theorem dX2_readReckoning_32 : decode cX2_readReckoning 32 = .ok (.aload_n 1, 1) := by decide +kernel
theorem dX2_readReckoning_33 : decode cX2_readReckoning 33 = .ok (.invokevirtual 88, 3) := by decide +kernel
theorem dX2_readReckoning_36 : decode cX2_readReckoning 36 = .ok (.ifCond .eq 18, 3) := by decide +kernel
theorem dX2_readReckoning_39 : decode cX2_readReckoning 39 = .ok (.aload_n 0, 1) := by decide +kernel
theorem dX2_readReckoning_40 : decode cX2_readReckoning 40 = .ok (.aload_n 1, 1) := by decide +kernel
theorem dX2_readReckoning_41 : decode cX2_readReckoning 41 = .ok (.getfield 91, 3) := by decide +kernel
theorem dX2_readReckoning_44 : decode cX2_readReckoning 44 = .ok (.invokevirtual 75, 3) := by decide +kernel
theorem dX2_readReckoning_47 : decode cX2_readReckoning 47 = .ok (.ifCond .eq 7, 3) := by decide +kernel
theorem dX2_readReckoning_50 : decode cX2_readReckoning 50 = .ok (.iconst 1, 1) := by decide +kernel
theorem dX2_readReckoning_51 : decode cX2_readReckoning 51 = .ok (.goto 4, 3) := by decide +kernel
theorem dX2_readReckoning_54 : decode cX2_readReckoning 54 = .ok (.iconst 0, 1) := by decide +kernel
theorem dX2_readReckoning_55 : decode cX2_readReckoning 55 = .ok (.ireturn, 1) := by decide +kernel
theorem dX2_readReckoning_56 : decode cX2_readReckoning 56 = .ok (.aload_n 1, 1) := by decide +kernel
theorem dX2_readReckoning_57 : decode cX2_readReckoning 57 = .ok (.aload_n 0, 1) := by decide +kernel
theorem dX2_readReckoning_58 : decode cX2_readReckoning 58 = .ok (.invokevirtual 37, 3) := by decide +kernel
theorem dX2_readReckoning_61 : decode cX2_readReckoning 61 = .ok (.putfield 94, 3) := by decide +kernel
theorem dX2_readReckoning_64 : decode cX2_readReckoning 64 = .ok (.aload_n 0, 1) := by decide +kernel
theorem dX2_readReckoning_65 : decode cX2_readReckoning 65 = .ok (.dup, 1) := by decide +kernel
theorem dX2_readReckoning_66 : decode cX2_readReckoning 66 = .ok (.getfield 34, 3) := by decide +kernel
theorem dX2_readReckoning_69 : decode cX2_readReckoning 69 = .ok (.iconst 1, 1) := by decide +kernel
theorem dX2_readReckoning_70 : decode cX2_readReckoning 70 = .ok (.iadd, 1) := by decide +kernel
theorem dX2_readReckoning_71 : decode cX2_readReckoning 71 = .ok (.putfield 34, 3) := by decide +kernel
theorem dX2_readReckoning_74 : decode cX2_readReckoning 74 = .ok (.aload_n 0, 1) := by decide +kernel
theorem dX2_readReckoning_75 : decode cX2_readReckoning 75 = .ok (.bipush 40, 2) := by decide +kernel
theorem dX2_readReckoning_77 : decode cX2_readReckoning 77 = .ok (.invokevirtual 67, 3) := by decide +kernel
theorem dX2_readReckoning_80 : decode cX2_readReckoning 80 = .ok (.ifCond .eq 38, 3) := by decide +kernel
theorem dX2_readReckoning_83 : decode cX2_readReckoning 83 = .ok (.aload_n 0, 1) := by decide +kernel
theorem dX2_readReckoning_84 : decode cX2_readReckoning 84 = .ok (.aload_n 1, 1) := by decide +kernel
theorem dX2_readReckoning_85 : decode cX2_readReckoning 85 = .ok (.getfield 71, 3) := by decide +kernel
theorem dX2_readReckoning_88 : decode cX2_readReckoning 88 = .ok (.invokevirtual 75, 3) := by decide +kernel
theorem dX2_readReckoning_91 : decode cX2_readReckoning 91 = .ok (.ifCond .eq 27, 3) := by decide +kernel
theorem dX2_readReckoning_94 : decode cX2_readReckoning 94 = .ok (.aload_n 0, 1) := by decide +kernel
theorem dX2_readReckoning_95 : decode cX2_readReckoning 95 = .ok (.aload_n 1, 1) := by decide +kernel
theorem dX2_readReckoning_96 : decode cX2_readReckoning 96 = .ok (.getfield 91, 3) := by decide +kernel
theorem dX2_readReckoning_99 : decode cX2_readReckoning 99 = .ok (.invokevirtual 75, 3) := by decide +kernel
theorem dX2_readReckoning_102 : decode cX2_readReckoning 102 = .ok (.ifCond .eq 16, 3) := by decide +kernel
theorem dX2_readReckoning_105 : decode cX2_readReckoning 105 = .ok (.aload_n 0, 1) := by decide +kernel
theorem dX2_readReckoning_106 : decode cX2_readReckoning 106 = .ok (.bipush 41, 2) := by decide +kernel
theorem dX2_readReckoning_108 : decode cX2_readReckoning 108 = .ok (.invokevirtual 67, 3) := by decide +kernel
theorem dX2_readReckoning_111 : decode cX2_readReckoning 111 = .ok (.ifCond .eq 7, 3) := by decide +kernel
theorem dX2_readReckoning_114 : decode cX2_readReckoning 114 = .ok (.iconst 1, 1) := by decide +kernel
theorem dX2_readReckoning_115 : decode cX2_readReckoning 115 = .ok (.goto 4, 3) := by decide +kernel
theorem dX2_readReckoning_118 : decode cX2_readReckoning 118 = .ok (.iconst 0, 1) := by decide +kernel
theorem dX2_readReckoning_119 : decode cX2_readReckoning 119 = .ok (.ireturn, 1) := by decide +kernel
set_option maxRecDepth 20000 in
theorem ggX2_readOperator_X2_sign : GoodIn wsX2_readOperator wsX2_sign := goodIn_r _ [8, 3, 9, 10, 20, 21, 22, 23, 24, 25, 26, 27, 28, 29] (by decide +kernel) (by decide +kernel)
set_option maxRecDepth 20000 in
theorem gX2_readOperator_X2_sign : GoodIn wsX2_readOperator (wsV RX2 37 RX2 yX2_sign wsX2_sign) := goodIn_app (goodIn_of _ (by decide +kernel)) ggX2_readOperator_X2_sign
theorem dX2_readOperator_0 : decode cX2_readOperator 0 = .ok (.aload_n 0, 1) := by decide +kernel
theorem dX2_readOperator_1 : decode cX2_readOperator 1 = .ok (.invokevirtual 37, 3) := by decide +kernel
theorem dX2_readOperator_4 : decode cX2_readOperator 4 = .ok (.lookupswitch 122 #[(38, 84), (42, 84), (43, 84), (45, 84), (60, 84), (94, 84), (124, 84), (256, 84), (257, 84)], 84) := by decide +kernel
theorem dX2_readOperator_88 : decode cX2_readOperator 88 = .ok (.aload_n 1, 1) := by decide +kernel
theorem dX2_readOperator_89 : decode cX2_readOperator 89 = .ok (.aload_n 0, 1) := by decide +kernel
theorem dX2_readOperator_90 : decode cX2_readOperator 90 = .ok (.invokevirtual 37, 3) := by decide +kernel
theorem dX2_readOperator_93 : decode cX2_readOperator 93 = .ok (.putfield 94, 3) := by decide +kernel
theorem dX2_readOperator_96 : decode cX2_readOperator 96 = .ok (.aload_n 1, 1) := by decide +kernel
theorem dX2_readOperator_97 : decode cX2_readOperator 97 = .ok (.aload_n 1, 1) := by decide +kernel
theorem dX2_readOperator_98 : decode cX2_readOperator 98 = .ok (.getfield 94, 3) := by decide +kernel
theorem dX2_readOperator_101 : decode cX2_readOperator 101 = .ok (.bipush 42, 2) := by decide +kernel
theorem dX2_readOperator_103 : decode cX2_readOperator 103 = .ok (.if_icmp .ne 7, 3) := by decide +kernel
theorem dX2_readOperator_106 : decode cX2_readOperator 106 = .ok (.iconst 1, 1) := by decide +kernel
theorem dX2_readOperator_107 : decode cX2_readOperator 107 = .ok (.goto 4, 3) := by decide +kernel
theorem dX2_readOperator_110 : decode cX2_readOperator 110 = .ok (.iconst 0, 1) := by decide +kernel
theorem dX2_readOperator_111 : decode cX2_readOperator 111 = .ok (.putfield 61, 3) := by decide +kernel
theorem dX2_readOperator_114 : decode cX2_readOperator 114 = .ok (.aload_n 0, 1) := by decide +kernel
theorem dX2_readOperator_115 : decode cX2_readOperator 115 = .ok (.dup, 1) := by decide +kernel
theorem dX2_readOperator_116 : decode cX2_readOperator 116 = .ok (.getfield 34, 3) := by decide +kernel
theorem dX2_readOperator_119 : decode cX2_readOperator 119 = .ok (.iconst 1, 1) := by decide +kernel
theorem dX2_readOperator_120 : decode cX2_readOperator 120 = .ok (.iadd, 1) := by decide +kernel
theorem dX2_readOperator_121 : decode cX2_readOperator 121 = .ok (.putfield 34, 3) := by decide +kernel
theorem dX2_readOperator_124 : decode cX2_readOperator 124 = .ok (.iconst 1, 1) := by decide +kernel
theorem dX2_readOperator_125 : decode cX2_readOperator 125 = .ok (.ireturn, 1) := by decide +kernel
theorem dX2_readOperator_126 : decode cX2_readOperator 126 = .ok (.iconst 0, 1) := by decide +kernel
theorem dX2_readOperator_127 : decode cX2_readOperator 127 = .ok (.ireturn, 1) := by decide +kernel
set_option maxRecDepth 20000 in
theorem ggX2_readOperand_X2_skip : GoodIn wsX2_readOperand wsX2_skip := goodIn_r _ [6, 1, 7, 8, 9, 5, 10, 11, 12, 25, 26, 27, 28, 29, 30, 31, 32, 33, 34] (by decide +kernel) (by decide +kernel)
set_option maxRecDepth 20000 in
theorem gX2_readOperand_X2_skip : GoodIn wsX2_readOperand (wsV RX2 67 RX2 yX2_skip wsX2_skip) := goodIn_app (goodIn_of _ (by decide +kernel)) ggX2_readOperand_X2_skip
set_option maxRecDepth 20000 in
theorem ggX2_readOperand_X2_sign : GoodIn wsX2_readOperand wsX2_sign := goodIn_r _ [10, 1, 11, 12, 25, 26, 27, 28, 29, 30, 31, 32, 33, 34] (by decide +kernel) (by decide +kernel)
set_option maxRecDepth 20000 in
theorem gX2_readOperand_X2_sign : GoodIn wsX2_readOperand (wsV RX2 37 RX2 yX2_sign wsX2_sign) := goodIn_app (goodIn_of _ (by decide +kernel)) ggX2_readOperand_X2_sign
set_option maxRecDepth 20000 in
theorem ggX2_readOperand_X2_value : GoodIn wsX2_readOperand wsX2_value := goodIn_r _ [16, 1, 11, 17, 25, 26, 27, 28, 29, 30, 31, 32, 33, 34] (by decide +kernel) (by decide +kernel)
set_option maxRecDepth 20000 in
theorem gX2_readOperand_X2_value : GoodIn wsX2_readOperand (wsV RX2 79 RX2 yX2_value wsX2_value) := goodIn_app (goodIn_of _ (by decide +kernel)) ggX2_readOperand_X2_value
set_option maxRecDepth 20000 in
theorem ggX2_readOperand_X1_become : GoodIn wsX2_readOperand wsX1_become := goodIn_r _ [22, 23, 24, 35, 36] (by decide +kernel) (by decide +kernel)
set_option maxRecDepth 20000 in
theorem gX2_readOperand_X1_become : GoodIn wsX2_readOperand (wsV RX2 97 RX1 yX1_become wsX1_become) := goodIn_app (goodIn_of _ (by decide +kernel)) ggX2_readOperand_X1_become
theorem dX2_readOperand_0 : decode cX2_readOperand 0 = .ok (.aload_n 0, 1) := by decide +kernel
theorem dX2_readOperand_1 : decode cX2_readOperand 1 = .ok (.bipush 45, 2) := by decide +kernel
theorem dX2_readOperand_3 : decode cX2_readOperand 3 = .ok (.invokevirtual 67, 3) := by decide +kernel
theorem dX2_readOperand_6 : decode cX2_readOperand 6 = .ok (.istore_n 2, 1) := by decide +kernel
theorem dX2_readOperand_7 : decode cX2_readOperand 7 = .ok (.aload_n 0, 1) := by decide +kernel
theorem dX2_readOperand_8 : decode cX2_readOperand 8 = .ok (.invokevirtual 37, 3) := by decide +kernel
theorem dX2_readOperand_11 : decode cX2_readOperand 11 = .ok (.istore_n 3, 1) := by decide +kernel
theorem dX2_readOperand_12 : decode cX2_readOperand 12 = .ok (.iload_n 3, 1) := by decide +kernel
theorem dX2_readOperand_13 : decode cX2_readOperand 13 = .ok (.bipush 48, 2) := by decide +kernel
theorem dX2_readOperand_15 : decode cX2_readOperand 15 = .ok (.if_icmp .eq 21, 3) := by decide +kernel
theorem dX2_readOperand_18 : decode cX2_readOperand 18 = .ok (.iload_n 2, 1) := by decide +kernel
theorem dX2_readOperand_19 : decode cX2_readOperand 19 = .ok (.ifCond .ne 15, 3) := by decide +kernel
theorem dX2_readOperand_22 : decode cX2_readOperand 22 = .ok (.iload_n 3, 1) := by decide +kernel
theorem dX2_readOperand_23 : decode cX2_readOperand 23 = .ok (.bipush 114, 2) := by decide +kernel
theorem dX2_readOperand_25 : decode cX2_readOperand 25 = .ok (.if_icmp .eq 11, 3) := by decide +kernel
theorem dX2_readOperand_28 : decode cX2_readOperand 28 = .ok (.iload_n 3, 1) := by decide +kernel
theorem dX2_readOperand_29 : decode cX2_readOperand 29 = .ok (.bipush 105, 2) := by decide +kernel
theorem dX2_readOperand_31 : decode cX2_readOperand 31 = .ok (.if_icmp .eq 5, 3) := by decide +kernel
theorem dX2_readOperand_34 : decode cX2_readOperand 34 = .ok (.iconst 0, 1) := by decide +kernel
theorem dX2_readOperand_35 : decode cX2_readOperand 35 = .ok (.ireturn, 1) := by decide +kernel
theorem dX2_readOperand_36 : decode cX2_readOperand 36 = .ok (.aload_n 1, 1) := by decide +kernel
theorem dX2_readOperand_37 : decode cX2_readOperand 37 = .ok (.iload_n 3, 1) := by decide +kernel
theorem dX2_readOperand_38 : decode cX2_readOperand 38 = .ok (.iload_n 2, 1) := by decide +kernel
theorem dX2_readOperand_39 : decode cX2_readOperand 39 = .ok (.ifCond .eq 11, 3) := by decide +kernel
theorem dX2_readOperand_42 : decode cX2_readOperand 42 = .ok (.aload_n 0, 1) := by decide +kernel
theorem dX2_readOperand_43 : decode cX2_readOperand 43 = .ok (.invokevirtual 79, 3) := by decide +kernel
theorem dX2_readOperand_46 : decode cX2_readOperand 46 = .ok (.ineg, 1) := by decide +kernel
theorem dX2_readOperand_47 : decode cX2_readOperand 47 = .ok (.goto 7, 3) := by decide +kernel
theorem dX2_readOperand_50 : decode cX2_readOperand 50 = .ok (.aload_n 0, 1) := by decide +kernel
theorem dX2_readOperand_51 : decode cX2_readOperand 51 = .ok (.invokevirtual 79, 3) := by decide +kernel
theorem dX2_readOperand_54 : decode cX2_readOperand 54 = .ok (.invokevirtual 97, 3) := by decide +kernel
theorem dX2_readOperand_57 : decode cX2_readOperand 57 = .ok (.aload_n 0, 1) := by decide +kernel
theorem dX2_readOperand_58 : decode cX2_readOperand 58 = .ok (.dup, 1) := by decide +kernel
theorem dX2_readOperand_59 : decode cX2_readOperand 59 = .ok (.getfield 34, 3) := by decide +kernel
theorem dX2_readOperand_62 : decode cX2_readOperand 62 = .ok (.iconst 1, 1) := by decide +kernel
theorem dX2_readOperand_63 : decode cX2_readOperand 63 = .ok (.iadd, 1) := by decide +kernel
theorem dX2_readOperand_64 : decode cX2_readOperand 64 = .ok (.putfield 34, 3) := by decide +kernel
theorem dX2_readOperand_67 : decode cX2_readOperand 67 = .ok (.iconst 1, 1) := by decide +kernel
theorem dX2_readOperand_68 : decode cX2_readOperand 68 = .ok (.ireturn, 1) := by decide +kernel
set_option maxRecDepth 20000 in
theorem ggX2_readSpot_X2_value : GoodIn wsX2_readSpot wsX2_value := goodIn_r _ [9, 2, 10, 11, 38, 39, 40, 41, 42, 43, 44, 45, 46, 47] (by decide +kernel) (by decide +kernel)
set_option maxRecDepth 20000 in
theorem gX2_readSpot_X2_value : GoodIn wsX2_readSpot (wsV RX2 79 RX2 yX2_value wsX2_value) := goodIn_app (goodIn_of _ (by decide +kernel)) ggX2_readSpot_X2_value
set_option maxRecDepth 20000 in
theorem ggX2_readSpot_X2_skip : GoodIn wsX2_readSpot wsX2_skip := goodIn_r _ [15, 2, 16, 17, 18, 8, 19, 10, 20, 38, 39, 40, 41, 42, 43, 44, 45, 46, 47] (by decide +kernel) (by decide +kernel)
set_option maxRecDepth 20000 in
theorem gX2_readSpot_X2_skip : GoodIn wsX2_readSpot (wsV RX2 67 RX2 yX2_skip wsX2_skip) := goodIn_app (goodIn_of _ (by decide +kernel)) ggX2_readSpot_X2_skip
set_option maxRecDepth 20000 in
theorem ggX2_readSpot_X2_skipNumber : GoodIn wsX2_readSpot wsX2_skipNumber := goodIn_r _ [24, 2, 16, 17, 18, 8, 19, 10, 20, 5, 6, 7, 9, 11, 38, 39, 40, 41, 42, 43, 44, 45, 46, 47] (by decide +kernel) (by decide +kernel)
set_option maxRecDepth 20000 in
theorem gX2_readSpot_X2_skipNumber : GoodIn wsX2_readSpot (wsV RX2 106 RX2 yX2_skipNumber wsX2_skipNumber) := goodIn_app (goodIn_of _ (by decide +kernel)) ggX2_readSpot_X2_skipNumber
set_option maxRecDepth 20000 in
theorem ggX2_readSpot_X2_sign : GoodIn wsX2_readSpot wsX2_sign := goodIn_r _ [19, 2, 10, 20, 38, 39, 40, 41, 42, 43, 44, 45, 46, 47] (by decide +kernel) (by decide +kernel)
set_option maxRecDepth 20000 in
theorem gX2_readSpot_X2_sign : GoodIn wsX2_readSpot (wsV RX2 37 RX2 yX2_sign wsX2_sign) := goodIn_app (goodIn_of _ (by decide +kernel)) ggX2_readSpot_X2_sign
set_option maxRecDepth 20000 in
theorem ggX2_readSpot_X2_readShift : GoodIn wsX2_readSpot wsX2_readShift := goodIn_r _ [28, 2, 3, 16, 17, 18, 8, 19, 10, 20, 5, 6, 7, 9, 11, 21, 22, 23, 24, 38, 39, 40, 41, 29, 30, 31, 32, 33, 34, 35, 36, 37, 42, 43, 44, 45, 46, 47] (by decide +kernel) (by decide +kernel)
set_option maxRecDepth 20000 in
theorem gX2_readSpot_X2_readShift : GoodIn wsX2_readSpot (wsV RX2 115 RX2 yX2_readShift wsX2_readShift) := goodIn_app (goodIn_of _ (by decide +kernel)) ggX2_readSpot_X2_readShift
theorem dX2_readSpot_0 : decode cX2_readSpot 0 = .ok (.aload_n 1, 1) := by decide +kernel
theorem dX2_readSpot_1 : decode cX2_readSpot 1 = .ok (.aload_n 0, 1) := by decide +kernel
theorem dX2_readSpot_2 : decode cX2_readSpot 2 = .ok (.invokevirtual 79, 3) := by decide +kernel
theorem dX2_readSpot_5 : decode cX2_readSpot 5 = .ok (.putfield 103, 3) := by decide +kernel
theorem dX2_readSpot_8 : decode cX2_readSpot 8 = .ok (.aload_n 0, 1) := by decide +kernel
theorem dX2_readSpot_9 : decode cX2_readSpot 9 = .ok (.bipush 97, 2) := by decide +kernel
theorem dX2_readSpot_11 : decode cX2_readSpot 11 = .ok (.invokevirtual 67, 3) := by decide +kernel
theorem dX2_readSpot_14 : decode cX2_readSpot 14 = .ok (.ifCond .eq 12, 3) := by decide +kernel
theorem dX2_readSpot_17 : decode cX2_readSpot 17 = .ok (.aload_n 0, 1) := by decide +kernel
theorem dX2_readSpot_18 : decode cX2_readSpot 18 = .ok (.bipush 91, 2) := by decide +kernel
theorem dX2_readSpot_20 : decode cX2_readSpot 20 = .ok (.invokevirtual 67, 3) := by decide +kernel
theorem dX2_readSpot_23 : decode cX2_readSpot 23 = .ok (.ifCond .ne 5, 3) := by decide +kernel
theorem dX2_readSpot_26 : decode cX2_readSpot 26 = .ok (.iconst 0, 1) := by decide +kernel
theorem dX2_readSpot_27 : decode cX2_readSpot 27 = .ok (.ireturn, 1) := by decide +kernel
theorem dX2_readSpot_28 : decode cX2_readSpot 28 = .ok (.aload_n 0, 1) := by decide +kernel
theorem dX2_readSpot_29 : decode cX2_readSpot 29 = .ok (.bipush 45, 2) := by decide +kernel
theorem dX2_readSpot_31 : decode cX2_readSpot 31 = .ok (.invokevirtual 67, 3) := by decide +kernel
theorem dX2_readSpot_34 : decode cX2_readSpot 34 = .ok (.istore_n 2, 1) := by decide +kernel
theorem dX2_readSpot_35 : decode cX2_readSpot 35 = .ok (.aload_n 0, 1) := by decide +kernel
theorem dX2_readSpot_36 : decode cX2_readSpot 36 = .ok (.getfield 34, 3) := by decide +kernel
theorem dX2_readSpot_39 : decode cX2_readSpot 39 = .ok (.istore_n 3, 1) := by decide +kernel
theorem dX2_readSpot_40 : decode cX2_readSpot 40 = .ok (.aload_n 0, 1) := by decide +kernel
theorem dX2_readSpot_41 : decode cX2_readSpot 41 = .ok (.invokevirtual 79, 3) := by decide +kernel
theorem dX2_readSpot_44 : decode cX2_readSpot 44 = .ok (.istore 4, 2) := by decide +kernel
theorem dX2_readSpot_46 : decode cX2_readSpot 46 = .ok (.aload_n 0, 1) := by decide +kernel
theorem dX2_readSpot_47 : decode cX2_readSpot 47 = .ok (.iload_n 2, 1) := by decide +kernel
theorem dX2_readSpot_48 : decode cX2_readSpot 48 = .ok (.ifCond .eq 7, 3) := by decide +kernel
theorem dX2_readSpot_51 : decode cX2_readSpot 51 = .ok (.iconst 4, 1) := by decide +kernel
theorem dX2_readSpot_52 : decode cX2_readSpot 52 = .ok (.goto 6, 3) := by decide +kernel
theorem dX2_readSpot_55 : decode cX2_readSpot 55 = .ok (.sipush 250, 3) := by decide +kernel
theorem dX2_readSpot_58 : decode cX2_readSpot 58 = .ok (.invokevirtual 106, 3) := by decide +kernel
theorem dX2_readSpot_61 : decode cX2_readSpot 61 = .ok (.ifCond .ne 5, 3) := by decide +kernel
theorem dX2_readSpot_64 : decode cX2_readSpot 64 = .ok (.iconst 0, 1) := by decide +kernel
theorem dX2_readSpot_65 : decode cX2_readSpot 65 = .ok (.ireturn, 1) := by decide +kernel
theorem dX2_readSpot_66 : decode cX2_readSpot 66 = .ok (.iload_n 2, 1) := by decide +kernel
theorem dX2_readSpot_67 : decode cX2_readSpot 67 = .ok (.ifCond .ne 25, 3) := by decide +kernel
theorem dX2_readSpot_70 : decode cX2_readSpot 70 = .ok (.aload_n 0, 1) := by decide +kernel
theorem dX2_readSpot_71 : decode cX2_readSpot 71 = .ok (.invokevirtual 37, 3) := by decide +kernel
theorem dX2_readSpot_74 : decode cX2_readSpot 74 = .ok (.bipush 42, 2) := by decide +kernel
theorem dX2_readSpot_76 : decode cX2_readSpot 76 = .ok (.if_icmp .eq 16, 3) := by decide +kernel
theorem dX2_readSpot_79 : decode cX2_readSpot 79 = .ok (.aload_n 1, 1) := by decide +kernel
theorem dX2_readSpot_80 : decode cX2_readSpot 80 = .ok (.iload 4, 2) := by decide +kernel
theorem dX2_readSpot_82 : decode cX2_readSpot 82 = .ok (.putfield 109, 3) := by decide +kernel
theorem dX2_readSpot_85 : decode cX2_readSpot 85 = .ok (.aload_n 0, 1) := by decide +kernel
theorem dX2_readSpot_86 : decode cX2_readSpot 86 = .ok (.bipush 93, 2) := by decide +kernel
theorem dX2_readSpot_88 : decode cX2_readSpot 88 = .ok (.invokevirtual 67, 3) := by decide +kernel
theorem dX2_readSpot_91 : decode cX2_readSpot 91 = .ok (.ireturn, 1) := by decide +kernel
theorem dX2_readSpot_92 : decode cX2_readSpot 92 = .ok (.iload 4, 2) := by decide +kernel
theorem dX2_readSpot_94 : decode cX2_readSpot 94 = .ok (.iconst 4, 1) := by decide +kernel
theorem dX2_readSpot_95 : decode cX2_readSpot 95 = .ok (.if_icmp .le 10, 3) := by decide +kernel
theorem dX2_readSpot_98 : decode cX2_readSpot 98 = .ok (.aload_n 0, 1) := by decide +kernel
theorem dX2_readSpot_99 : decode cX2_readSpot 99 = .ok (.iload_n 3, 1) := by decide +kernel
theorem dX2_readSpot_100 : decode cX2_readSpot 100 = .ok (.putfield 34, 3) := by decide +kernel
theorem dX2_readSpot_103 : decode cX2_readSpot 103 = .ok (.iconst 0, 1) := by decide +kernel
theorem dX2_readSpot_104 : decode cX2_readSpot 104 = .ok (.ireturn, 1) := by decide +kernel
theorem dX2_readSpot_105 : decode cX2_readSpot 105 = .ok (.aload_n 1, 1) := by decide +kernel
theorem dX2_readSpot_106 : decode cX2_readSpot 106 = .ok (.iload_n 2, 1) := by decide +kernel
theorem dX2_readSpot_107 : decode cX2_readSpot 107 = .ok (.ifCond .eq 9, 3) := by decide +kernel
theorem dX2_readSpot_110 : decode cX2_readSpot 110 = .ok (.iload 4, 2) := by decide +kernel
theorem dX2_readSpot_112 : decode cX2_readSpot 112 = .ok (.ineg, 1) := by decide +kernel
theorem dX2_readSpot_113 : decode cX2_readSpot 113 = .ok (.goto 5, 3) := by decide +kernel
theorem dX2_readSpot_116 : decode cX2_readSpot 116 = .ok (.iload 4, 2) := by decide +kernel
theorem dX2_readSpot_118 : decode cX2_readSpot 118 = .ok (.putfield 112, 3) := by decide +kernel
theorem dX2_readSpot_121 : decode cX2_readSpot 121 = .ok (.aload_n 0, 1) := by decide +kernel
theorem dX2_readSpot_122 : decode cX2_readSpot 122 = .ok (.bipush 42, 2) := by decide +kernel
theorem dX2_readSpot_124 : decode cX2_readSpot 124 = .ok (.invokevirtual 67, 3) := by decide +kernel
theorem dX2_readSpot_127 : decode cX2_readSpot 127 = .ok (.ifCond .eq 33, 3) := by decide +kernel
theorem dX2_readSpot_130 : decode cX2_readSpot 130 = .ok (.aload_n 0, 1) := by decide +kernel
theorem dX2_readSpot_131 : decode cX2_readSpot 131 = .ok (.bipush 105, 2) := by decide +kernel
theorem dX2_readSpot_133 : decode cX2_readSpot 133 = .ok (.invokevirtual 67, 3) := by decide +kernel
theorem dX2_readSpot_136 : decode cX2_readSpot 136 = .ok (.ifCond .eq 24, 3) := by decide +kernel
theorem dX2_readSpot_139 : decode cX2_readSpot 139 = .ok (.aload_n 0, 1) := by decide +kernel
theorem dX2_readSpot_140 : decode cX2_readSpot 140 = .ok (.aload_n 1, 1) := by decide +kernel
theorem dX2_readSpot_141 : decode cX2_readSpot 141 = .ok (.invokevirtual 115, 3) := by decide +kernel
theorem dX2_readSpot_144 : decode cX2_readSpot 144 = .ok (.ifCond .eq 16, 3) := by decide +kernel
theorem dX2_readSpot_147 : decode cX2_readSpot 147 = .ok (.aload_n 0, 1) := by decide +kernel
theorem dX2_readSpot_148 : decode cX2_readSpot 148 = .ok (.bipush 93, 2) := by decide +kernel
theorem dX2_readSpot_150 : decode cX2_readSpot 150 = .ok (.invokevirtual 67, 3) := by decide +kernel
theorem dX2_readSpot_153 : decode cX2_readSpot 153 = .ok (.ifCond .eq 7, 3) := by decide +kernel
theorem dX2_readSpot_156 : decode cX2_readSpot 156 = .ok (.iconst 1, 1) := by decide +kernel
theorem dX2_readSpot_157 : decode cX2_readSpot 157 = .ok (.goto 4, 3) := by decide +kernel
theorem dX2_readSpot_160 : decode cX2_readSpot 160 = .ok (.iconst 0, 1) := by decide +kernel
theorem dX2_readSpot_161 : decode cX2_readSpot 161 = .ok (.ireturn, 1) := by decide +kernel
set_option maxRecDepth 20000 in
theorem ggX2_readShift_X2_sign : GoodIn wsX2_readShift wsX2_sign := goodIn_r _ [7, 1, 8, 9, 19, 20, 21, 22, 32, 33, 34, 35, 36, 37] (by decide +kernel) (by decide +kernel)
set_option maxRecDepth 20000 in
theorem gX2_readShift_X2_sign : GoodIn wsX2_readShift (wsV RX2 37 RX2 yX2_sign wsX2_sign) := goodIn_app (goodIn_of _ (by decide +kernel)) ggX2_readShift_X2_sign
set_option maxRecDepth 20000 in
theorem ggX2_readShift_X2_value : GoodIn wsX2_readShift wsX2_value := goodIn_r _ [13, 1, 8, 14, 19, 20, 21, 22, 32, 33, 34, 35, 36, 37] (by decide +kernel) (by decide +kernel)
set_option maxRecDepth 20000 in
theorem gX2_readShift_X2_value : GoodIn wsX2_readShift (wsV RX2 79 RX2 yX2_value wsX2_value) := goodIn_app (goodIn_of _ (by decide +kernel)) ggX2_readShift_X2_value
set_option maxRecDepth 20000 in
theorem ggX2_readShift_X2_skipNumber : GoodIn wsX2_readShift wsX2_skipNumber := goodIn_r _ [18, 1, 3, 4, 5, 6, 7, 8, 9, 10, 11, 12, 13, 14, 19, 20, 21, 22, 32, 33, 34, 35, 36, 37] (by decide +kernel) (by decide +kernel)
set_option maxRecDepth 20000 in
theorem gX2_readShift_X2_skipNumber : GoodIn wsX2_readShift (wsV RX2 106 RX2 yX2_skipNumber wsX2_skipNumber) := goodIn_app (goodIn_of _ (by decide +kernel)) ggX2_readShift_X2_skipNumber
theorem dX2_readShift_0 : decode cX2_readShift 0 = .ok (.aload_n 0, 1) := by decide +kernel
theorem dX2_readShift_1 : decode cX2_readShift 1 = .ok (.invokevirtual 37, 3) := by decide +kernel
theorem dX2_readShift_4 : decode cX2_readShift 4 = .ok (.bipush 45, 2) := by decide +kernel
theorem dX2_readShift_6 : decode cX2_readShift 6 = .ok (.if_icmp .ne 7, 3) := by decide +kernel
theorem dX2_readShift_9 : decode cX2_readShift 9 = .ok (.iconst 1, 1) := by decide +kernel
theorem dX2_readShift_10 : decode cX2_readShift 10 = .ok (.goto 4, 3) := by decide +kernel
theorem dX2_readShift_13 : decode cX2_readShift 13 = .ok (.iconst 0, 1) := by decide +kernel
theorem dX2_readShift_14 : decode cX2_readShift 14 = .ok (.istore_n 2, 1) := by decide +kernel
theorem dX2_readShift_15 : decode cX2_readShift 15 = .ok (.iload_n 2, 1) := by decide +kernel
theorem dX2_readShift_16 : decode cX2_readShift 16 = .ok (.ifCond .ne 14, 3) := by decide +kernel
theorem dX2_readShift_19 : decode cX2_readShift 19 = .ok (.aload_n 0, 1) := by decide +kernel
theorem dX2_readShift_20 : decode cX2_readShift 20 = .ok (.invokevirtual 37, 3) := by decide +kernel
theorem dX2_readShift_23 : decode cX2_readShift 23 = .ok (.bipush 43, 2) := by decide +kernel
theorem dX2_readShift_25 : decode cX2_readShift 25 = .ok (.if_icmp .eq 5, 3) := by decide +kernel
theorem dX2_readShift_28 : decode cX2_readShift 28 = .ok (.iconst 1, 1) := by decide +kernel
theorem dX2_readShift_29 : decode cX2_readShift 29 = .ok (.ireturn, 1) := by decide +kernel
theorem dX2_readShift_30 : decode cX2_readShift 30 = .ok (.aload_n 0, 1) := by decide +kernel
theorem dX2_readShift_31 : decode cX2_readShift 31 = .ok (.dup, 1) := by decide +kernel
theorem dX2_readShift_32 : decode cX2_readShift 32 = .ok (.getfield 34, 3) := by decide +kernel
theorem dX2_readShift_35 : decode cX2_readShift 35 = .ok (.iconst 1, 1) := by decide +kernel
theorem dX2_readShift_36 : decode cX2_readShift 36 = .ok (.iadd, 1) := by decide +kernel
theorem dX2_readShift_37 : decode cX2_readShift 37 = .ok (.putfield 34, 3) := by decide +kernel
theorem dX2_readShift_40 : decode cX2_readShift 40 = .ok (.aload_n 1, 1) := by decide +kernel
theorem dX2_readShift_41 : decode cX2_readShift 41 = .ok (.iload_n 2, 1) := by decide +kernel
theorem dX2_readShift_42 : decode cX2_readShift 42 = .ok (.ifCond .eq 11, 3) := by decide +kernel
theorem dX2_readShift_45 : decode cX2_readShift 45 = .ok (.aload_n 0, 1) := by decide +kernel
theorem dX2_readShift_46 : decode cX2_readShift 46 = .ok (.invokevirtual 79, 3) := by decide +kernel
theorem dX2_readShift_49 : decode cX2_readShift 49 = .ok (.ineg, 1) := by decide +kernel
theorem dX2_readShift_50 : decode cX2_readShift 50 = .ok (.goto 7, 3) := by decide +kernel
theorem dX2_readShift_53 : decode cX2_readShift 53 = .ok (.aload_n 0, 1) := by decide +kernel
theorem dX2_readShift_54 : decode cX2_readShift 54 = .ok (.invokevirtual 79, 3) := by decide +kernel
theorem dX2_readShift_57 : decode cX2_readShift 57 = .ok (.putfield 109, 3) := by decide +kernel
theorem dX2_readShift_60 : decode cX2_readShift 60 = .ok (.aload_n 0, 1) := by decide +kernel
theorem dX2_readShift_61 : decode cX2_readShift 61 = .ok (.sipush 250, 3) := by decide +kernel
theorem dX2_readShift_64 : decode cX2_readShift 64 = .ok (.invokevirtual 106, 3) := by decide +kernel
theorem dX2_readShift_67 : decode cX2_readShift 67 = .ok (.ireturn, 1) := by decide +kernel
set_option maxRecDepth 20000 in
theorem ggX2_skipNumber_X2_sign : GoodIn wsX2_skipNumber wsX2_sign := goodIn_r _ [6, 1, 7, 8, 14, 15, 16, 17, 18, 19, 20, 21, 22, 23] (by decide +kernel) (by decide +kernel)
set_option maxRecDepth 20000 in
theorem gX2_skipNumber_X2_sign : GoodIn wsX2_skipNumber (wsV RX2 37 RX2 yX2_sign wsX2_sign) := goodIn_app (goodIn_of _ (by decide +kernel)) ggX2_skipNumber_X2_sign
set_option maxRecDepth 20000 in
theorem ggX2_skipNumber_X2_value : GoodIn wsX2_skipNumber wsX2_value := goodIn_r _ [12, 1, 7, 13, 14, 15, 16, 17, 18, 19, 20, 21, 22, 23] (by decide +kernel) (by decide +kernel)
set_option maxRecDepth 20000 in
theorem gX2_skipNumber_X2_value : GoodIn wsX2_skipNumber (wsV RX2 79 RX2 yX2_value wsX2_value) := goodIn_app (goodIn_of _ (by decide +kernel)) ggX2_skipNumber_X2_value
theorem dX2_skipNumber_0 : decode cX2_skipNumber 0 = .ok (.aload_n 0, 1) := by decide +kernel
theorem dX2_skipNumber_1 : decode cX2_skipNumber 1 = .ok (.invokevirtual 37, 3) := by decide +kernel
theorem dX2_skipNumber_4 : decode cX2_skipNumber 4 = .ok (.bipush 48, 2) := by decide +kernel
theorem dX2_skipNumber_6 : decode cX2_skipNumber 6 = .ok (.if_icmp .ne 11, 3) := by decide +kernel
theorem dX2_skipNumber_9 : decode cX2_skipNumber 9 = .ok (.aload_n 0, 1) := by decide +kernel
theorem dX2_skipNumber_10 : decode cX2_skipNumber 10 = .ok (.invokevirtual 79, 3) := by decide +kernel
theorem dX2_skipNumber_13 : decode cX2_skipNumber 13 = .ok (.iload_n 1, 1) := by decide +kernel
theorem dX2_skipNumber_14 : decode cX2_skipNumber 14 = .ok (.if_icmp .le 5, 3) := by decide +kernel
theorem dX2_skipNumber_17 : decode cX2_skipNumber 17 = .ok (.iconst 0, 1) := by decide +kernel
theorem dX2_skipNumber_18 : decode cX2_skipNumber 18 = .ok (.ireturn, 1) := by decide +kernel
theorem dX2_skipNumber_19 : decode cX2_skipNumber 19 = .ok (.aload_n 0, 1) := by decide +kernel
theorem dX2_skipNumber_20 : decode cX2_skipNumber 20 = .ok (.dup, 1) := by decide +kernel
theorem dX2_skipNumber_21 : decode cX2_skipNumber 21 = .ok (.getfield 34, 3) := by decide +kernel
theorem dX2_skipNumber_24 : decode cX2_skipNumber 24 = .ok (.iconst 1, 1) := by decide +kernel
theorem dX2_skipNumber_25 : decode cX2_skipNumber 25 = .ok (.iadd, 1) := by decide +kernel
theorem dX2_skipNumber_26 : decode cX2_skipNumber 26 = .ok (.putfield 34, 3) := by decide +kernel
theorem dX2_skipNumber_29 : decode cX2_skipNumber 29 = .ok (.iconst 1, 1) := by decide +kernel
theorem dX2_skipNumber_30 : decode cX2_skipNumber 30 = .ok (.ireturn, 1) := by decide +kernel
set_option maxRecDepth 20000 in
theorem ggX2_skip_X2_sign : GoodIn wsX2_skip wsX2_sign := goodIn_r _ [6, 1, 7, 8, 9, 10, 11, 12, 13, 14, 15, 16, 17, 18] (by decide +kernel) (by decide +kernel)
set_option maxRecDepth 20000 in
theorem gX2_skip_X2_sign : GoodIn wsX2_skip (wsV RX2 37 RX2 yX2_sign wsX2_sign) := goodIn_app (goodIn_of _ (by decide +kernel)) ggX2_skip_X2_sign
theorem dX2_skip_0 : decode cX2_skip 0 = .ok (.aload_n 0, 1) := by decide +kernel
theorem dX2_skip_1 : decode cX2_skip 1 = .ok (.invokevirtual 37, 3) := by decide +kernel
theorem dX2_skip_4 : decode cX2_skip 4 = .ok (.iload_n 1, 1) := by decide +kernel
theorem dX2_skip_5 : decode cX2_skip 5 = .ok (.if_icmp .eq 5, 3) := by decide +kernel
theorem dX2_skip_8 : decode cX2_skip 8 = .ok (.iconst 0, 1) := by decide +kernel
theorem dX2_skip_9 : decode cX2_skip 9 = .ok (.ireturn, 1) := by decide +kernel
theorem dX2_skip_10 : decode cX2_skip 10 = .ok (.aload_n 0, 1) := by decide +kernel
theorem dX2_skip_11 : decode cX2_skip 11 = .ok (.dup, 1) := by decide +kernel
theorem dX2_skip_12 : decode cX2_skip 12 = .ok (.getfield 34, 3) := by decide +kernel
theorem dX2_skip_15 : decode cX2_skip 15 = .ok (.iconst 1, 1) := by decide +kernel
theorem dX2_skip_16 : decode cX2_skip 16 = .ok (.iadd, 1) := by decide +kernel
theorem dX2_skip_17 : decode cX2_skip 17 = .ok (.putfield 34, 3) := by decide +kernel
theorem dX2_skip_20 : decode cX2_skip 20 = .ok (.iconst 1, 1) := by decide +kernel
theorem dX2_skip_21 : decode cX2_skip 21 = .ok (.ireturn, 1) := by decide +kernel
theorem dX2_sign_0 : decode cX2_sign 0 = .ok (.aload_n 0, 1) := by decide +kernel
theorem dX2_sign_1 : decode cX2_sign 1 = .ok (.getfield 34, 3) := by decide +kernel
theorem dX2_sign_4 : decode cX2_sign 4 = .ok (.sipush 577, 3) := by decide +kernel
theorem dX2_sign_7 : decode cX2_sign 7 = .ok (.if_icmp .ge 18, 3) := by decide +kernel
theorem dX2_sign_10 : decode cX2_sign 10 = .ok (.aload_n 0, 1) := by decide +kernel
theorem dX2_sign_11 : decode cX2_sign 11 = .ok (.getfield 15, 3) := by decide +kernel
theorem dX2_sign_14 : decode cX2_sign 14 = .ok (.getfield 118, 3) := by decide +kernel
theorem dX2_sign_17 : decode cX2_sign 17 = .ok (.aload_n 0, 1) := by decide +kernel
theorem dX2_sign_18 : decode cX2_sign 18 = .ok (.getfield 34, 3) := by decide +kernel
theorem dX2_sign_21 : decode cX2_sign 21 = .ok (.iaload, 1) := by decide +kernel
theorem dX2_sign_22 : decode cX2_sign 22 = .ok (.goto 4, 3) := by decide +kernel
theorem dX2_sign_25 : decode cX2_sign 25 = .ok (.iconst (-1), 1) := by decide +kernel
theorem dX2_sign_26 : decode cX2_sign 26 = .ok (.ireturn, 1) := by decide +kernel
theorem dX2_place_0 : decode cX2_place 0 = .ok (.aload_n 0, 1) := by decide +kernel
theorem dX2_place_1 : decode cX2_place 1 = .ok (.getfield 34, 3) := by decide +kernel
theorem dX2_place_4 : decode cX2_place 4 = .ok (.sipush 577, 3) := by decide +kernel
theorem dX2_place_7 : decode cX2_place 7 = .ok (.if_icmp .ge 18, 3) := by decide +kernel
theorem dX2_place_10 : decode cX2_place 10 = .ok (.aload_n 0, 1) := by decide +kernel
theorem dX2_place_11 : decode cX2_place 11 = .ok (.getfield 15, 3) := by decide +kernel
theorem dX2_place_14 : decode cX2_place 14 = .ok (.getfield 121, 3) := by decide +kernel
theorem dX2_place_17 : decode cX2_place 17 = .ok (.aload_n 0, 1) := by decide +kernel
theorem dX2_place_18 : decode cX2_place 18 = .ok (.getfield 34, 3) := by decide +kernel
theorem dX2_place_21 : decode cX2_place 21 = .ok (.iaload, 1) := by decide +kernel
theorem dX2_place_22 : decode cX2_place 22 = .ok (.goto 4, 3) := by decide +kernel
theorem dX2_place_25 : decode cX2_place 25 = .ok (.iconst 0, 1) := by decide +kernel
theorem dX2_place_26 : decode cX2_place 26 = .ok (.ireturn, 1) := by decide +kernel
theorem dX2_value_0 : decode cX2_value 0 = .ok (.aload_n 0, 1) := by decide +kernel
theorem dX2_value_1 : decode cX2_value 1 = .ok (.getfield 34, 3) := by decide +kernel
theorem dX2_value_4 : decode cX2_value 4 = .ok (.sipush 577, 3) := by decide +kernel
theorem dX2_value_7 : decode cX2_value 7 = .ok (.if_icmp .ge 18, 3) := by decide +kernel
theorem dX2_value_10 : decode cX2_value 10 = .ok (.aload_n 0, 1) := by decide +kernel
theorem dX2_value_11 : decode cX2_value 11 = .ok (.getfield 15, 3) := by decide +kernel
theorem dX2_value_14 : decode cX2_value 14 = .ok (.getfield 123, 3) := by decide +kernel
theorem dX2_value_17 : decode cX2_value 17 = .ok (.aload_n 0, 1) := by decide +kernel
theorem dX2_value_18 : decode cX2_value 18 = .ok (.getfield 34, 3) := by decide +kernel
theorem dX2_value_21 : decode cX2_value 21 = .ok (.iaload, 1) := by decide +kernel
theorem dX2_value_22 : decode cX2_value 22 = .ok (.goto 4, 3) := by decide +kernel
theorem dX2_value_25 : decode cX2_value 25 = .ok (.iconst 0, 1) := by decide +kernel
theorem dX2_value_26 : decode cX2_value 26 = .ok (.ireturn, 1) := by decide +kernel
set_option maxRecDepth 20000 in
theorem ggX3_init_X1_init : GoodIn wsX3_init wsX1_init := goodIn_r _ [10, 11, 2, 3, 12, 13, 14] (by decide +kernel) (by decide +kernel)
set_option maxRecDepth 20000 in
theorem gX3_init_X1_init_n11 : GoodIn wsX3_init (wsX1_init) := ggX3_init_X1_init
theorem dX3_init_0 : decode cX3_init 0 = .ok (.aload_n 0, 1) := by decide +kernel
theorem dX3_init_1 : decode cX3_init 1 = .ok (.invokespecial 3, 3) := by decide +kernel
theorem dX3_init_4 : decode cX3_init 4 = .ok (.aload_n 0, 1) := by decide +kernel
theorem dX3_init_5 : decode cX3_init 5 = .ok (.new 9, 3) := by decide +kernel
theorem dX3_init_8 : decode cX3_init 8 = .ok (.dup, 1) := by decide +kernel
theorem dX3_init_9 : decode cX3_init 9 = .ok (.invokespecial 11, 3) := by decide +kernel
theorem dX3_init_12 : decode cX3_init 12 = .ok (.putfield 12, 3) := by decide +kernel
theorem dX3_init_15 : decode cX3_init 15 = .ok (.aload_n 0, 1) := by decide +kernel
theorem dX3_init_16 : decode cX3_init 16 = .ok (.new 9, 3) := by decide +kernel
theorem dX3_init_19 : decode cX3_init 19 = .ok (.dup, 1) := by decide +kernel
theorem dX3_init_20 : decode cX3_init 20 = .ok (.invokespecial 11, 3) := by decide +kernel
theorem dX3_init_23 : decode cX3_init 23 = .ok (.putfield 18, 3) := by decide +kernel
theorem dX3_init_26 : decode cX3_init 26 = .ok (.return_, 1) := by decide +kernel
set_option maxRecDepth 20000 in
theorem ggX3_clear_X1_become : GoodIn wsX3_clear wsX1_become := goodIn_r _ [14, 15, 16, 26, 27] (by decide +kernel) (by decide +kernel)
set_option maxRecDepth 20000 in
theorem gX3_clear_X1_become : GoodIn wsX3_clear (wsV RX3 43 RX1 yX1_become wsX1_become) := goodIn_app (goodIn_of _ (by decide +kernel)) ggX3_clear_X1_become
theorem dX3_clear_0 : decode cX3_clear 0 = .ok (.aload_n 0, 1) := by decide +kernel
theorem dX3_clear_1 : decode cX3_clear 1 = .ok (.iconst 0, 1) := by decide +kernel
theorem dX3_clear_2 : decode cX3_clear 2 = .ok (.putfield 21, 3) := by decide +kernel
theorem dX3_clear_5 : decode cX3_clear 5 = .ok (.aload_n 0, 1) := by decide +kernel
theorem dX3_clear_6 : decode cX3_clear 6 = .ok (.bipush 43, 2) := by decide +kernel
theorem dX3_clear_8 : decode cX3_clear 8 = .ok (.putfield 25, 3) := by decide +kernel
theorem dX3_clear_11 : decode cX3_clear 11 = .ok (.aload_n 0, 1) := by decide +kernel
theorem dX3_clear_12 : decode cX3_clear 12 = .ok (.iconst (-1), 1) := by decide +kernel
theorem dX3_clear_13 : decode cX3_clear 13 = .ok (.putfield 28, 3) := by decide +kernel
theorem dX3_clear_16 : decode cX3_clear 16 = .ok (.aload_n 0, 1) := by decide +kernel
theorem dX3_clear_17 : decode cX3_clear 17 = .ok (.iload_n 1, 1) := by decide +kernel
theorem dX3_clear_18 : decode cX3_clear 18 = .ok (.putfield 31, 3) := by decide +kernel
theorem dX3_clear_21 : decode cX3_clear 21 = .ok (.aload_n 0, 1) := by decide +kernel
theorem dX3_clear_22 : decode cX3_clear 22 = .ok (.iconst (-1), 1) := by decide +kernel
theorem dX3_clear_23 : decode cX3_clear 23 = .ok (.putfield 34, 3) := by decide +kernel
theorem dX3_clear_26 : decode cX3_clear 26 = .ok (.aload_n 0, 1) := by decide +kernel
theorem dX3_clear_27 : decode cX3_clear 27 = .ok (.iconst 0, 1) := by decide +kernel
theorem dX3_clear_28 : decode cX3_clear 28 = .ok (.putfield 37, 3) := by decide +kernel
theorem dX3_clear_31 : decode cX3_clear 31 = .ok (.aload_n 0, 1) := by decide +kernel
theorem dX3_clear_32 : decode cX3_clear 32 = .ok (.iconst 0, 1) := by decide +kernel
theorem dX3_clear_33 : decode cX3_clear 33 = .ok (.putfield 40, 3) := by decide +kernel
theorem dX3_clear_36 : decode cX3_clear 36 = .ok (.aload_n 0, 1) := by decide +kernel
theorem dX3_clear_37 : decode cX3_clear 37 = .ok (.getfield 12, 3) := by decide +kernel
theorem dX3_clear_40 : decode cX3_clear 40 = .ok (.bipush 48, 2) := by decide +kernel
theorem dX3_clear_42 : decode cX3_clear 42 = .ok (.iconst 0, 1) := by decide +kernel
theorem dX3_clear_43 : decode cX3_clear 43 = .ok (.invokevirtual 43, 3) := by decide +kernel
theorem dX3_clear_46 : decode cX3_clear 46 = .ok (.aload_n 0, 1) := by decide +kernel
theorem dX3_clear_47 : decode cX3_clear 47 = .ok (.getfield 18, 3) := by decide +kernel
theorem dX3_clear_50 : decode cX3_clear 50 = .ok (.bipush 48, 2) := by decide +kernel
theorem dX3_clear_52 : decode cX3_clear 52 = .ok (.iconst 0, 1) := by decide +kernel
theorem dX3_clear_53 : decode cX3_clear 53 = .ok (.invokevirtual 43, 3) := by decide +kernel
theorem dX3_clear_56 : decode cX3_clear 56 = .ok (.return_, 1) := by decide +kernel
theorem dX3_spot_0 : decode cX3_spot 0 = .ok (.aload_n 0, 1) := by decide +kernel
theorem dX3_spot_1 : decode cX3_spot 1 = .ok (.getfield 37, 3) := by decide +kernel
theorem dX3_spot_4 : decode cX3_spot 4 = .ok (.iload_n 1, 1) := by decide +kernel
theorem dX3_spot_5 : decode cX3_spot 5 = .ok (.imul, 1) := by decide +kernel
theorem dX3_spot_6 : decode cX3_spot 6 = .ok (.aload_n 0, 1) := by decide +kernel
theorem dX3_spot_7 : decode cX3_spot 7 = .ok (.getfield 40, 3) := by decide +kernel
theorem dX3_spot_10 : decode cX3_spot 10 = .ok (.iadd, 1) := by decide +kernel
theorem dX3_spot_11 : decode cX3_spot 11 = .ok (.ireturn, 1) := by decide +kernel
theorem dX3_reckon_0 : decode cX3_reckon 0 = .ok (.aload_n 0, 1) := by decide +kernel
theorem dX3_reckon_1 : decode cX3_reckon 1 = .ok (.getfield 25, 3) := by decide +kernel
theorem dX3_reckon_4 : decode cX3_reckon 4 = .ok (.lookupswitch 152 #[(38, 104), (42, 100), (43, 92), (45, 96), (60, 116), (94, 112), (124, 108), (256, 127), (257, 134), (258, 141)], 92) := by decide +kernel
theorem dX3_reckon_96 : decode cX3_reckon 96 = .ok (.iload_n 1, 1) := by decide +kernel
theorem dX3_reckon_97 : decode cX3_reckon 97 = .ok (.iload_n 2, 1) := by decide +kernel
theorem dX3_reckon_98 : decode cX3_reckon 98 = .ok (.iadd, 1) := by decide +kernel
theorem dX3_reckon_99 : decode cX3_reckon 99 = .ok (.ireturn, 1) := by decide +kernel
theorem dX3_reckon_100 : decode cX3_reckon 100 = .ok (.iload_n 1, 1) := by decide +kernel
theorem dX3_reckon_101 : decode cX3_reckon 101 = .ok (.iload_n 2, 1) := by decide +kernel
theorem dX3_reckon_102 : decode cX3_reckon 102 = .ok (.isub, 1) := by decide +kernel
theorem dX3_reckon_103 : decode cX3_reckon 103 = .ok (.ireturn, 1) := by decide +kernel
theorem dX3_reckon_104 : decode cX3_reckon 104 = .ok (.iload_n 1, 1) := by decide +kernel
theorem dX3_reckon_105 : decode cX3_reckon 105 = .ok (.iload_n 2, 1) := by decide +kernel
theorem dX3_reckon_106 : decode cX3_reckon 106 = .ok (.imul, 1) := by decide +kernel
theorem dX3_reckon_107 : decode cX3_reckon 107 = .ok (.ireturn, 1) := by decide +kernel
theorem dX3_reckon_108 : decode cX3_reckon 108 = .ok (.iload_n 1, 1) := by decide +kernel
theorem dX3_reckon_109 : decode cX3_reckon 109 = .ok (.iload_n 2, 1) := by decide +kernel
theorem dX3_reckon_110 : decode cX3_reckon 110 = .ok (.iand, 1) := by decide +kernel
theorem dX3_reckon_111 : decode cX3_reckon 111 = .ok (.ireturn, 1) := by decide +kernel
theorem dX3_reckon_112 : decode cX3_reckon 112 = .ok (.iload_n 1, 1) := by decide +kernel
theorem dX3_reckon_113 : decode cX3_reckon 113 = .ok (.iload_n 2, 1) := by decide +kernel
theorem dX3_reckon_114 : decode cX3_reckon 114 = .ok (.ior, 1) := by decide +kernel
theorem dX3_reckon_115 : decode cX3_reckon 115 = .ok (.ireturn, 1) := by decide +kernel
theorem dX3_reckon_116 : decode cX3_reckon 116 = .ok (.iload_n 1, 1) := by decide +kernel
theorem dX3_reckon_117 : decode cX3_reckon 117 = .ok (.iload_n 2, 1) := by decide +kernel
theorem dX3_reckon_118 : decode cX3_reckon 118 = .ok (.ixor, 1) := by decide +kernel
theorem dX3_reckon_119 : decode cX3_reckon 119 = .ok (.ireturn, 1) := by decide +kernel
theorem dX3_reckon_120 : decode cX3_reckon 120 = .ok (.iload_n 1, 1) := by decide +kernel
theorem dX3_reckon_121 : decode cX3_reckon 121 = .ok (.iload_n 2, 1) := by decide +kernel
theorem dX3_reckon_122 : decode cX3_reckon 122 = .ok (.if_icmp .ge 7, 3) := by decide +kernel
theorem dX3_reckon_125 : decode cX3_reckon 125 = .ok (.iconst 1, 1) := by decide +kernel
theorem dX3_reckon_126 : decode cX3_reckon 126 = .ok (.goto 4, 3) := by decide +kernel
theorem dX3_reckon_129 : decode cX3_reckon 129 = .ok (.iconst 0, 1) := by decide +kernel
theorem dX3_reckon_130 : decode cX3_reckon 130 = .ok (.ireturn, 1) := by decide +kernel
theorem dX3_reckon_131 : decode cX3_reckon 131 = .ok (.iload_n 1, 1) := by decide +kernel
theorem dX3_reckon_132 : decode cX3_reckon 132 = .ok (.iload_n 2, 1) := by decide +kernel
theorem dX3_reckon_133 : decode cX3_reckon 133 = .ok (.bipush 31, 2) := by decide +kernel
theorem dX3_reckon_135 : decode cX3_reckon 135 = .ok (.iand, 1) := by decide +kernel
theorem dX3_reckon_136 : decode cX3_reckon 136 = .ok (.ishl, 1) := by decide +kernel
theorem dX3_reckon_137 : decode cX3_reckon 137 = .ok (.ireturn, 1) := by decide +kernel
theorem dX3_reckon_138 : decode cX3_reckon 138 = .ok (.iload_n 1, 1) := by decide +kernel
theorem dX3_reckon_139 : decode cX3_reckon 139 = .ok (.iload_n 2, 1) := by decide +kernel
theorem dX3_reckon_140 : decode cX3_reckon 140 = .ok (.bipush 31, 2) := by decide +kernel
theorem dX3_reckon_142 : decode cX3_reckon 142 = .ok (.iand, 1) := by decide +kernel
theorem dX3_reckon_143 : decode cX3_reckon 143 = .ok (.ishr, 1) := by decide +kernel
theorem dX3_reckon_144 : decode cX3_reckon 144 = .ok (.ireturn, 1) := by decide +kernel
theorem dX3_reckon_145 : decode cX3_reckon 145 = .ok (.iload_n 1, 1) := by decide +kernel
theorem dX3_reckon_146 : decode cX3_reckon 146 = .ok (.iload_n 2, 1) := by decide +kernel
theorem dX3_reckon_147 : decode cX3_reckon 147 = .ok (.if_icmp .ge 7, 3) := by decide +kernel
theorem dX3_reckon_150 : decode cX3_reckon 150 = .ok (.iload_n 1, 1) := by decide +kernel
theorem dX3_reckon_151 : decode cX3_reckon 151 = .ok (.goto 4, 3) := by decide +kernel
theorem dX3_reckon_154 : decode cX3_reckon 154 = .ok (.iload_n 2, 1) := by decide +kernel
theorem dX3_reckon_155 : decode cX3_reckon 155 = .ok (.ireturn, 1) := by decide +kernel
theorem dX3_reckon_156 : decode cX3_reckon 156 = .ok (.iload_n 1, 1) := by decide +kernel
theorem dX3_reckon_157 : decode cX3_reckon 157 = .ok (.iload_n 2, 1) := by decide +kernel
theorem dX3_reckon_158 : decode cX3_reckon 158 = .ok (.if_icmp .le 7, 3) := by decide +kernel
theorem dX3_reckon_161 : decode cX3_reckon 161 = .ok (.iload_n 1, 1) := by decide +kernel
theorem dX3_reckon_162 : decode cX3_reckon 162 = .ok (.goto 4, 3) := by decide +kernel
theorem dX3_reckon_165 : decode cX3_reckon 165 = .ok (.iload_n 2, 1) := by decide +kernel
theorem dX3_reckon_166 : decode cX3_reckon 166 = .ok (.ireturn, 1) := by decide +kernel
theorem dX4_init_0 : decode cX4_init 0 = .ok (.aload_n 0, 1) := by decide +kernel
theorem dX4_init_1 : decode cX4_init 1 = .ok (.invokespecial 3, 3) := by decide +kernel
theorem dX4_init_4 : decode cX4_init 4 = .ok (.aload_n 0, 1) := by decide +kernel
theorem dX4_init_5 : decode cX4_init 5 = .ok (.sipush 4096, 3) := by decide +kernel
theorem dX4_init_8 : decode cX4_init 8 = .ok (.newarray .int, 2) := by decide +kernel
theorem dX4_init_10 : decode cX4_init 10 = .ok (.putfield 9, 3) := by decide +kernel
theorem dX4_init_13 : decode cX4_init 13 = .ok (.aload_n 0, 1) := by decide +kernel
theorem dX4_init_14 : decode cX4_init 14 = .ok (.bipush 32, 2) := by decide +kernel
theorem dX4_init_16 : decode cX4_init 16 = .ok (.newarray .int, 2) := by decide +kernel
theorem dX4_init_18 : decode cX4_init 18 = .ok (.putfield 15, 3) := by decide +kernel
theorem dX4_init_21 : decode cX4_init 21 = .ok (.aload_n 0, 1) := by decide +kernel
theorem dX4_init_22 : decode cX4_init 22 = .ok (.sipush 3072, 3) := by decide +kernel
theorem dX4_init_25 : decode cX4_init 25 = .ok (.newarray .int, 2) := by decide +kernel
theorem dX4_init_27 : decode cX4_init 27 = .ok (.putfield 18, 3) := by decide +kernel
theorem dX4_init_30 : decode cX4_init 30 = .ok (.aload_n 0, 1) := by decide +kernel
theorem dX4_init_31 : decode cX4_init 31 = .ok (.sipush 128, 3) := by decide +kernel
theorem dX4_init_34 : decode cX4_init 34 = .ok (.newarray .int, 2) := by decide +kernel
theorem dX4_init_36 : decode cX4_init 36 = .ok (.putfield 21, 3) := by decide +kernel
theorem dX4_init_39 : decode cX4_init 39 = .ok (.aload_n 0, 1) := by decide +kernel
theorem dX4_init_40 : decode cX4_init 40 = .ok (.aload_n 1, 1) := by decide +kernel
theorem dX4_init_41 : decode cX4_init 41 = .ok (.putfield 24, 3) := by decide +kernel
theorem dX4_init_44 : decode cX4_init 44 = .ok (.aload_n 0, 1) := by decide +kernel
theorem dX4_init_45 : decode cX4_init 45 = .ok (.aload_n 2, 1) := by decide +kernel
theorem dX4_init_46 : decode cX4_init 46 = .ok (.putfield 28, 3) := by decide +kernel
theorem dX4_init_49 : decode cX4_init 49 = .ok (.aload_n 0, 1) := by decide +kernel
theorem dX4_init_50 : decode cX4_init 50 = .ok (.aload_n 3, 1) := by decide +kernel
theorem dX4_init_51 : decode cX4_init 51 = .ok (.putfield 32, 3) := by decide +kernel
theorem dX4_init_54 : decode cX4_init 54 = .ok (.aload_n 0, 1) := by decide +kernel
theorem dX4_init_55 : decode cX4_init 55 = .ok (.aload 4, 2) := by decide +kernel
theorem dX4_init_57 : decode cX4_init 57 = .ok (.putfield 36, 3) := by decide +kernel
theorem dX4_init_60 : decode cX4_init 60 = .ok (.aload_n 0, 1) := by decide +kernel
theorem dX4_init_61 : decode cX4_init 61 = .ok (.aload 5, 2) := by decide +kernel
theorem dX4_init_63 : decode cX4_init 63 = .ok (.putfield 39, 3) := by decide +kernel
theorem dX4_init_66 : decode cX4_init 66 = .ok (.return_, 1) := by decide +kernel
set_option maxRecDepth 20000 in
theorem ggX4_runWritten_X4_fillCells : GoodIn wsX4_runWritten wsX4_fillCells := goodIn_r _ [15, 16, 48, 49, 50, 51, 52, 53, 54, 55, 56, 57] (by decide +kernel) (by decide +kernel)
set_option maxRecDepth 20000 in
theorem gX4_runWritten_X4_fillCells : GoodIn wsX4_runWritten (wsV RX4 42 RX4 yX4_fillCells wsX4_fillCells) := goodIn_app (goodIn_of _ (by decide +kernel)) ggX4_runWritten_X4_fillCells
set_option maxRecDepth 20000 in
theorem ggX4_runWritten_X4_doWritten : GoodIn wsX4_runWritten wsX4_doWritten := goodIn_r _ [20, 21, 16, 22, 2, 23, 24, 25, 26, 27, 14, 28, 29, 30, 31, 32, 33, 34, 35, 36, 37, 38, 39, 40, 41, 42, 43, 44, 45, 46, 47, 61, 62, 63, 64, 65, 66, 67, 68, 69, 48, 49, 50, 51, 52, 53, 54, 55, 56, 57, 70, 71] (by decide +kernel) (by decide +kernel)
set_option maxRecDepth 20000 in
theorem gX4_runWritten_X4_doWritten : GoodIn wsX4_runWritten (wsV RX4 61 RX4 yX4_doWritten wsX4_doWritten) := goodIn_app (goodIn_of _ (by decide +kernel)) ggX4_runWritten_X4_doWritten
theorem dX4_runWritten_0 : decode cX4_runWritten 0 = .ok (.aload_n 0, 1) := by decide +kernel
theorem dX4_runWritten_1 : decode cX4_runWritten 1 = .ok (.invokevirtual 42, 3) := by decide +kernel
theorem dX4_runWritten_4 : decode cX4_runWritten 4 = .ok (.aload_n 0, 1) := by decide +kernel
theorem dX4_runWritten_5 : decode cX4_runWritten 5 = .ok (.getfield 39, 3) := by decide +kernel
theorem dX4_runWritten_8 : decode cX4_runWritten 8 = .ok (.iconst 0, 1) := by decide +kernel
theorem dX4_runWritten_9 : decode cX4_runWritten 9 = .ok (.aload_n 0, 1) := by decide +kernel
theorem dX4_runWritten_10 : decode cX4_runWritten 10 = .ok (.getfield 15, 3) := by decide +kernel
theorem dX4_runWritten_13 : decode cX4_runWritten 13 = .ok (.iconst 0, 1) := by decide +kernel
theorem dX4_runWritten_14 : decode cX4_runWritten 14 = .ok (.bipush 32, 2) := by decide +kernel
theorem dX4_runWritten_16 : decode cX4_runWritten 16 = .ok (.invokestatic 45, 3) := by decide +kernel
theorem dX4_runWritten_19 : decode cX4_runWritten 19 = .ok (.aload_n 0, 1) := by decide +kernel
theorem dX4_runWritten_20 : decode cX4_runWritten 20 = .ok (.getfield 36, 3) := by decide +kernel
theorem dX4_runWritten_23 : decode cX4_runWritten 23 = .ok (.bipush 8, 2) := by decide +kernel
theorem dX4_runWritten_25 : decode cX4_runWritten 25 = .ok (.iaload, 1) := by decide +kernel
theorem dX4_runWritten_26 : decode cX4_runWritten 26 = .ok (.istore_n 1, 1) := by decide +kernel
theorem dX4_runWritten_27 : decode cX4_runWritten 27 = .ok (.iconst 0, 1) := by decide +kernel
theorem dX4_runWritten_28 : decode cX4_runWritten 28 = .ok (.istore_n 2, 1) := by decide +kernel
theorem dX4_runWritten_29 : decode cX4_runWritten 29 = .ok (.iload_n 2, 1) := by decide +kernel
theorem dX4_runWritten_30 : decode cX4_runWritten 30 = .ok (.iload_n 1, 1) := by decide +kernel
theorem dX4_runWritten_31 : decode cX4_runWritten 31 = .ok (.if_icmp .ge 42, 3) := by decide +kernel
theorem dX4_runWritten_34 : decode cX4_runWritten 34 = .ok (.iconst 0, 1) := by decide +kernel
theorem dX4_runWritten_35 : decode cX4_runWritten 35 = .ok (.istore_n 3, 1) := by decide +kernel
theorem dX4_runWritten_36 : decode cX4_runWritten 36 = .ok (.iload_n 3, 1) := by decide +kernel
theorem dX4_runWritten_37 : decode cX4_runWritten 37 = .ok (.aload_n 0, 1) := by decide +kernel
theorem dX4_runWritten_38 : decode cX4_runWritten 38 = .ok (.getfield 24, 3) := by decide +kernel
theorem dX4_runWritten_41 : decode cX4_runWritten 41 = .ok (.getfield 51, 3) := by decide +kernel
theorem dX4_runWritten_44 : decode cX4_runWritten 44 = .ok (.if_icmp .ge 23, 3) := by decide +kernel
theorem dX4_runWritten_47 : decode cX4_runWritten 47 = .ok (.aload_n 0, 1) := by decide +kernel
theorem dX4_runWritten_48 : decode cX4_runWritten 48 = .ok (.aload_n 0, 1) := by decide +kernel
theorem dX4_runWritten_49 : decode cX4_runWritten 49 = .ok (.getfield 24, 3) := by decide +kernel
theorem dX4_runWritten_52 : decode cX4_runWritten 52 = .ok (.getfield 57, 3) := by decide +kernel
theorem dX4_runWritten_55 : decode cX4_runWritten 55 = .ok (.iload_n 3, 1) := by decide +kernel
theorem dX4_runWritten_56 : decode cX4_runWritten 56 = .ok (.aaload, 1) := by decide +kernel
theorem dX4_runWritten_57 : decode cX4_runWritten 57 = .ok (.iload_n 2, 1) := by decide +kernel
theorem dX4_runWritten_58 : decode cX4_runWritten 58 = .ok (.invokevirtual 61, 3) := by decide +kernel
theorem dX4_runWritten_61 : decode cX4_runWritten 61 = .ok (.iinc 3 1, 3) := by decide +kernel
theorem dX4_runWritten_64 : decode cX4_runWritten 64 = .ok (.goto (-28), 3) := by decide +kernel
theorem dX4_runWritten_67 : decode cX4_runWritten 67 = .ok (.iinc 2 1, 3) := by decide +kernel
theorem dX4_runWritten_70 : decode cX4_runWritten 70 = .ok (.goto (-41), 3) := by decide +kernel
theorem dX4_runWritten_73 : decode cX4_runWritten 73 = .ok (.iload_n 1, 1) := by decide +kernel
theorem dX4_runWritten_74 : decode cX4_runWritten 74 = .ok (.aload_n 0, 1) := by decide +kernel
theorem dX4_runWritten_75 : decode cX4_runWritten 75 = .ok (.getfield 24, 3) := by decide +kernel
theorem dX4_runWritten_78 : decode cX4_runWritten 78 = .ok (.getfield 51, 3) := by decide +kernel
theorem dX4_runWritten_81 : decode cX4_runWritten 81 = .ok (.imul, 1) := by decide +kernel
theorem dX4_runWritten_82 : decode cX4_runWritten 82 = .ok (.ireturn, 1) := by decide +kernel
set_option maxRecDepth 20000 in
theorem ggX4_runLaid_X4_fillCells : GoodIn wsX4_runLaid wsX4_fillCells := goodIn_r _ [6, 7, 103, 104, 105, 106, 107, 108, 109, 110, 111, 112] (by decide +kernel) (by decide +kernel)
set_option maxRecDepth 20000 in
theorem gX4_runLaid_X4_fillCells : GoodIn wsX4_runLaid (wsV RX4 42 RX4 yX4_fillCells wsX4_fillCells) := goodIn_app (goodIn_of _ (by decide +kernel)) ggX4_runLaid_X4_fillCells
set_option maxRecDepth 20000 in
theorem ggX4_runLaid_X4_lastCycle : GoodIn wsX4_runLaid wsX4_lastCycle := goodIn_r _ [11, 12, 13, 14, 15, 16, 17, 18, 19, 20, 21, 22, 1, 103, 104, 105, 106, 107, 108, 109, 110, 111, 112, 113, 114, 115, 116, 117, 118, 119, 120, 121, 122, 123, 124, 125, 126, 127, 128, 129, 130, 131, 132, 133] (by decide +kernel) (by decide +kernel)
set_option maxRecDepth 20000 in
theorem gX4_runLaid_X4_lastCycle : GoodIn wsX4_runLaid (wsV RX4 68 RX4 yX4_lastCycle wsX4_lastCycle) := goodIn_app (goodIn_of _ (by decide +kernel)) ggX4_runLaid_X4_lastCycle
set_option maxRecDepth 20000 in
theorem ggX4_runLaid_X4_bringValues : GoodIn wsX4_runLaid wsX4_bringValues := goodIn_r _ [26, 12, 13, 27, 28, 29, 30, 31, 32, 33, 34, 35, 5, 36, 1, 16, 37, 38, 39, 40, 41, 42, 43, 44, 45, 46, 47, 48, 103, 104, 105, 106, 107, 108, 109, 110, 111, 112, 113, 114, 115, 134, 135, 136, 137, 138, 139, 140, 141, 142, 143, 144, 145, 146] (by decide +kernel) (by decide +kernel)
set_option maxRecDepth 20000 in
theorem gX4_runLaid_X4_bringValues : GoodIn wsX4_runLaid (wsV RX4 72 RX4 yX4_bringValues wsX4_bringValues) := goodIn_app (goodIn_of _ (by decide +kernel)) ggX4_runLaid_X4_bringValues
set_option maxRecDepth 20000 in
theorem ggX4_runLaid_X4_beginRows : GoodIn wsX4_runLaid wsX4_beginRows := goodIn_r _ [52, 12, 13, 14, 15, 32, 33, 34, 35, 5, 36, 1, 16, 37, 38, 39, 40, 41, 42, 43, 53, 54, 55, 56, 17, 18, 7, 57, 58, 59, 60, 61, 62, 63, 64, 65, 66, 67, 68, 69, 70, 71, 72, 73, 74, 75, 76, 77, 29, 27, 30, 31, 78, 79, 80, 81, 82, 83, 84, 85, 86, 87, 44, 45, 46, 47, 48, 88, 89, 90, 91, 92, 103, 104, 105, 106, 107, 108, 109, 110, 111, 112, 113, 114, 115, 116, 117, 118, 119, 120, 121, 122, 123, 124, 125, 126, 127, 128, 129, 130, 131, 132, 133, 147, 148, 134, 135, 136, 137, 138, 139, 140, 141, 142, 143, 144, 145, 146] (by decide +kernel) (by decide +kernel)
set_option maxRecDepth 20000 in
theorem gX4_runLaid_X4_beginRows : GoodIn wsX4_runLaid (wsV RX4 76 RX4 yX4_beginRows wsX4_beginRows) := goodIn_app (goodIn_of _ (by decide +kernel)) ggX4_runLaid_X4_beginRows
set_option maxRecDepth 20000 in
theorem ggX4_runLaid_X4_bringSets : GoodIn wsX4_runLaid wsX4_bringSets := goodIn_r _ [96, 12, 13, 17, 18, 14, 15, 16, 7, 32, 33, 34, 35, 5, 36, 1, 37, 38, 39, 40, 41, 42, 43, 59, 60, 61, 62, 63, 64, 65, 66, 67, 68, 69, 70, 103, 104, 105, 106, 107, 108, 109, 110, 111, 112, 113, 114, 115, 125, 126, 127, 128, 129, 130, 131, 132, 133, 116, 117, 118, 119, 120, 121, 122, 123, 124] (by decide +kernel) (by decide +kernel)
set_option maxRecDepth 20000 in
theorem gX4_runLaid_X4_bringSets : GoodIn wsX4_runLaid (wsV RX4 79 RX4 yX4_bringSets wsX4_bringSets) := goodIn_app (goodIn_of _ (by decide +kernel)) ggX4_runLaid_X4_bringSets
set_option maxRecDepth 20000 in
theorem ggX4_runLaid_X4_keepLast : GoodIn wsX4_runLaid wsX4_keepLast := goodIn_r _ [100, 16, 12, 101, 102, 77, 32, 103, 104, 105, 106, 107, 108, 109, 110, 111, 112, 113, 114, 115] (by decide +kernel) (by decide +kernel)
set_option maxRecDepth 20000 in
theorem gX4_runLaid_X4_keepLast : GoodIn wsX4_runLaid (wsV RX4 82 RX4 yX4_keepLast wsX4_keepLast) := goodIn_app (goodIn_of _ (by decide +kernel)) ggX4_runLaid_X4_keepLast
theorem dX4_runLaid_0 : decode cX4_runLaid 0 = .ok (.aload_n 0, 1) := by decide +kernel
theorem dX4_runLaid_1 : decode cX4_runLaid 1 = .ok (.iload_n 1, 1) := by decide +kernel
theorem dX4_runLaid_2 : decode cX4_runLaid 2 = .ok (.putfield 65, 3) := by decide +kernel
theorem dX4_runLaid_5 : decode cX4_runLaid 5 = .ok (.aload_n 0, 1) := by decide +kernel
theorem dX4_runLaid_6 : decode cX4_runLaid 6 = .ok (.invokevirtual 42, 3) := by decide +kernel
theorem dX4_runLaid_9 : decode cX4_runLaid 9 = .ok (.aload_n 0, 1) := by decide +kernel
theorem dX4_runLaid_10 : decode cX4_runLaid 10 = .ok (.invokevirtual 68, 3) := by decide +kernel
theorem dX4_runLaid_13 : decode cX4_runLaid 13 = .ok (.istore_n 2, 1) := by decide +kernel
theorem dX4_runLaid_14 : decode cX4_runLaid 14 = .ok (.iconst 0, 1) := by decide +kernel
theorem dX4_runLaid_15 : decode cX4_runLaid 15 = .ok (.istore_n 3, 1) := by decide +kernel
theorem dX4_runLaid_16 : decode cX4_runLaid 16 = .ok (.iload_n 3, 1) := by decide +kernel
theorem dX4_runLaid_17 : decode cX4_runLaid 17 = .ok (.iload_n 2, 1) := by decide +kernel
theorem dX4_runLaid_18 : decode cX4_runLaid 18 = .ok (.if_icmp .gt 24, 3) := by decide +kernel
theorem dX4_runLaid_21 : decode cX4_runLaid 21 = .ok (.aload_n 0, 1) := by decide +kernel
theorem dX4_runLaid_22 : decode cX4_runLaid 22 = .ok (.iload_n 3, 1) := by decide +kernel
theorem dX4_runLaid_23 : decode cX4_runLaid 23 = .ok (.invokevirtual 72, 3) := by decide +kernel
theorem dX4_runLaid_26 : decode cX4_runLaid 26 = .ok (.aload_n 0, 1) := by decide +kernel
theorem dX4_runLaid_27 : decode cX4_runLaid 27 = .ok (.iload_n 3, 1) := by decide +kernel
theorem dX4_runLaid_28 : decode cX4_runLaid 28 = .ok (.invokevirtual 76, 3) := by decide +kernel
theorem dX4_runLaid_31 : decode cX4_runLaid 31 = .ok (.aload_n 0, 1) := by decide +kernel
theorem dX4_runLaid_32 : decode cX4_runLaid 32 = .ok (.iload_n 3, 1) := by decide +kernel
theorem dX4_runLaid_33 : decode cX4_runLaid 33 = .ok (.invokevirtual 79, 3) := by decide +kernel
theorem dX4_runLaid_36 : decode cX4_runLaid 36 = .ok (.iinc 3 1, 3) := by decide +kernel
theorem dX4_runLaid_39 : decode cX4_runLaid 39 = .ok (.goto (-23), 3) := by decide +kernel
theorem dX4_runLaid_42 : decode cX4_runLaid 42 = .ok (.aload_n 0, 1) := by decide +kernel
theorem dX4_runLaid_43 : decode cX4_runLaid 43 = .ok (.invokevirtual 82, 3) := by decide +kernel
theorem dX4_runLaid_46 : decode cX4_runLaid 46 = .ok (.iload_n 2, 1) := by decide +kernel
theorem dX4_runLaid_47 : decode cX4_runLaid 47 = .ok (.ireturn, 1) := by decide +kernel
theorem dX4_fillCells_0 : decode cX4_fillCells 0 = .ok (.iconst 0, 1) := by decide +kernel
theorem dX4_fillCells_1 : decode cX4_fillCells 1 = .ok (.istore_n 1, 1) := by decide +kernel
theorem dX4_fillCells_2 : decode cX4_fillCells 2 = .ok (.iload_n 1, 1) := by decide +kernel
theorem dX4_fillCells_3 : decode cX4_fillCells 3 = .ok (.sipush 1024, 3) := by decide +kernel
theorem dX4_fillCells_6 : decode cX4_fillCells 6 = .ok (.if_icmp .ge 61, 3) := by decide +kernel
theorem dX4_fillCells_9 : decode cX4_fillCells 9 = .ok (.aload_n 0, 1) := by decide +kernel
theorem dX4_fillCells_10 : decode cX4_fillCells 10 = .ok (.getfield 9, 3) := by decide +kernel
theorem dX4_fillCells_13 : decode cX4_fillCells 13 = .ok (.iload_n 1, 1) := by decide +kernel
theorem dX4_fillCells_14 : decode cX4_fillCells 14 = .ok (.iload_n 1, 1) := by decide +kernel
theorem dX4_fillCells_15 : decode cX4_fillCells 15 = .ok (.bipush 7, 2) := by decide +kernel
theorem dX4_fillCells_17 : decode cX4_fillCells 17 = .ok (.imul, 1) := by decide +kernel
theorem dX4_fillCells_18 : decode cX4_fillCells 18 = .ok (.bipush 21, 2) := by decide +kernel
theorem dX4_fillCells_20 : decode cX4_fillCells 20 = .ok (.ixor, 1) := by decide +kernel
theorem dX4_fillCells_21 : decode cX4_fillCells 21 = .ok (.iastore, 1) := by decide +kernel
theorem dX4_fillCells_22 : decode cX4_fillCells 22 = .ok (.aload_n 0, 1) := by decide +kernel
theorem dX4_fillCells_23 : decode cX4_fillCells 23 = .ok (.getfield 9, 3) := by decide +kernel
theorem dX4_fillCells_26 : decode cX4_fillCells 26 = .ok (.sipush 1024, 3) := by decide +kernel
theorem dX4_fillCells_29 : decode cX4_fillCells 29 = .ok (.iload_n 1, 1) := by decide +kernel
theorem dX4_fillCells_30 : decode cX4_fillCells 30 = .ok (.iadd, 1) := by decide +kernel
theorem dX4_fillCells_31 : decode cX4_fillCells 31 = .ok (.iload_n 1, 1) := by decide +kernel
theorem dX4_fillCells_32 : decode cX4_fillCells 32 = .ok (.iload_n 1, 1) := by decide +kernel
theorem dX4_fillCells_33 : decode cX4_fillCells 33 = .ok (.imul, 1) := by decide +kernel
theorem dX4_fillCells_34 : decode cX4_fillCells 34 = .ok (.iconst 3, 1) := by decide +kernel
theorem dX4_fillCells_35 : decode cX4_fillCells 35 = .ok (.iadd, 1) := by decide +kernel
theorem dX4_fillCells_36 : decode cX4_fillCells 36 = .ok (.iastore, 1) := by decide +kernel
theorem dX4_fillCells_37 : decode cX4_fillCells 37 = .ok (.aload_n 0, 1) := by decide +kernel
theorem dX4_fillCells_38 : decode cX4_fillCells 38 = .ok (.getfield 9, 3) := by decide +kernel
theorem dX4_fillCells_41 : decode cX4_fillCells 41 = .ok (.sipush 2048, 3) := by decide +kernel
theorem dX4_fillCells_44 : decode cX4_fillCells 44 = .ok (.iload_n 1, 1) := by decide +kernel
theorem dX4_fillCells_45 : decode cX4_fillCells 45 = .ok (.iadd, 1) := by decide +kernel
theorem dX4_fillCells_46 : decode cX4_fillCells 46 = .ok (.iconst 5, 1) := by decide +kernel
theorem dX4_fillCells_47 : decode cX4_fillCells 47 = .ok (.iload_n 1, 1) := by decide +kernel
theorem dX4_fillCells_48 : decode cX4_fillCells 48 = .ok (.isub, 1) := by decide +kernel
theorem dX4_fillCells_49 : decode cX4_fillCells 49 = .ok (.iastore, 1) := by decide +kernel
theorem dX4_fillCells_50 : decode cX4_fillCells 50 = .ok (.aload_n 0, 1) := by decide +kernel
theorem dX4_fillCells_51 : decode cX4_fillCells 51 = .ok (.getfield 9, 3) := by decide +kernel
theorem dX4_fillCells_54 : decode cX4_fillCells 54 = .ok (.sipush 3072, 3) := by decide +kernel
theorem dX4_fillCells_57 : decode cX4_fillCells 57 = .ok (.iload_n 1, 1) := by decide +kernel
theorem dX4_fillCells_58 : decode cX4_fillCells 58 = .ok (.iadd, 1) := by decide +kernel
theorem dX4_fillCells_59 : decode cX4_fillCells 59 = .ok (.iconst 0, 1) := by decide +kernel
theorem dX4_fillCells_60 : decode cX4_fillCells 60 = .ok (.iastore, 1) := by decide +kernel
theorem dX4_fillCells_61 : decode cX4_fillCells 61 = .ok (.iinc 1 1, 3) := by decide +kernel
theorem dX4_fillCells_64 : decode cX4_fillCells 64 = .ok (.goto (-62), 3) := by decide +kernel
theorem dX4_fillCells_67 : decode cX4_fillCells 67 = .ok (.return_, 1) := by decide +kernel
set_option maxRecDepth 20000 in
theorem ggX4_cellOf_X3_spot : GoodIn wsX4_cellOf wsX3_spot := goodIn_r _ [6, 7, 8, 9, 10, 11, 12, 13, 14, 15, 16, 17] (by decide +kernel) (by decide +kernel)
set_option maxRecDepth 20000 in
theorem gX4_cellOf_X3_spot : GoodIn wsX4_cellOf (wsV RX4 90 RX3 yX3_spot wsX3_spot) := goodIn_app (goodIn_of _ (by decide +kernel)) ggX4_cellOf_X3_spot
theorem dX4_cellOf_0 : decode cX4_cellOf 0 = .ok (.aload_n 1, 1) := by decide +kernel
theorem dX4_cellOf_1 : decode cX4_cellOf 1 = .ok (.getfield 85, 3) := by decide +kernel
theorem dX4_cellOf_4 : decode cX4_cellOf 4 = .ok (.sipush 1024, 3) := by decide +kernel
theorem dX4_cellOf_7 : decode cX4_cellOf 7 = .ok (.imul, 1) := by decide +kernel
theorem dX4_cellOf_8 : decode cX4_cellOf 8 = .ok (.sipush 512, 3) := by decide +kernel
theorem dX4_cellOf_11 : decode cX4_cellOf 11 = .ok (.iadd, 1) := by decide +kernel
theorem dX4_cellOf_12 : decode cX4_cellOf 12 = .ok (.aload_n 1, 1) := by decide +kernel
theorem dX4_cellOf_13 : decode cX4_cellOf 13 = .ok (.iload_n 2, 1) := by decide +kernel
theorem dX4_cellOf_14 : decode cX4_cellOf 14 = .ok (.invokevirtual 90, 3) := by decide +kernel
theorem dX4_cellOf_17 : decode cX4_cellOf 17 = .ok (.iadd, 1) := by decide +kernel
theorem dX4_cellOf_18 : decode cX4_cellOf 18 = .ok (.ireturn, 1) := by decide +kernel
set_option maxRecDepth 20000 in
theorem ggX4_doWritten_X4_cellOf : GoodIn wsX4_doWritten wsX4_cellOf := goodIn_r _ [11, 12, 13, 14, 15, 16, 17, 18, 19, 31, 32, 33, 34, 35, 36, 37, 38, 39] (by decide +kernel) (by decide +kernel)
set_option maxRecDepth 20000 in
theorem gX4_doWritten_X4_cellOf : GoodIn wsX4_doWritten (wsV RX4 97 RX4 yX4_cellOf wsX4_cellOf) := goodIn_app (goodIn_of _ (by decide +kernel)) ggX4_doWritten_X4_cellOf
set_option maxRecDepth 20000 in
theorem ggX4_doWritten_X4_writtenValue : GoodIn wsX4_doWritten wsX4_writtenValue := goodIn_r _ [23, 24, 4, 25, 50, 51, 40, 41, 42, 43, 44, 45, 46, 47, 48, 49] (by decide +kernel) (by decide +kernel)
set_option maxRecDepth 20000 in
theorem gX4_doWritten_X4_writtenValue : GoodIn wsX4_doWritten (wsV RX4 105 RX4 yX4_writtenValue wsX4_writtenValue) := goodIn_app (goodIn_of _ (by decide +kernel)) ggX4_doWritten_X4_writtenValue
set_option maxRecDepth 20000 in
theorem ggX4_doWritten_X3_reckon : GoodIn wsX4_doWritten wsX3_reckon := goodIn_r _ [29, 30, 31, 32, 33, 34, 35, 36, 37, 38, 39] (by decide +kernel) (by decide +kernel)
set_option maxRecDepth 20000 in
theorem gX4_doWritten_X3_reckon : GoodIn wsX4_doWritten (wsV RX4 115 RX3 yX3_reckon wsX3_reckon) := goodIn_app (goodIn_of _ (by decide +kernel)) ggX4_doWritten_X3_reckon
theorem dX4_doWritten_0 : decode cX4_doWritten 0 = .ok (.aload_n 1, 1) := by decide +kernel
theorem dX4_doWritten_1 : decode cX4_doWritten 1 = .ok (.getfield 94, 3) := by decide +kernel
theorem dX4_doWritten_4 : decode cX4_doWritten 4 = .ok (.iconst 3, 1) := by decide +kernel
theorem dX4_doWritten_5 : decode cX4_doWritten 5 = .ok (.if_icmp .ne 26, 3) := by decide +kernel
theorem dX4_doWritten_8 : decode cX4_doWritten 8 = .ok (.aload_n 0, 1) := by decide +kernel
theorem dX4_doWritten_9 : decode cX4_doWritten 9 = .ok (.getfield 9, 3) := by decide +kernel
theorem dX4_doWritten_12 : decode cX4_doWritten 12 = .ok (.aload_n 0, 1) := by decide +kernel
theorem dX4_doWritten_13 : decode cX4_doWritten 13 = .ok (.aload_n 1, 1) := by decide +kernel
theorem dX4_doWritten_14 : decode cX4_doWritten 14 = .ok (.iload_n 2, 1) := by decide +kernel
theorem dX4_doWritten_15 : decode cX4_doWritten 15 = .ok (.invokevirtual 97, 3) := by decide +kernel
theorem dX4_doWritten_18 : decode cX4_doWritten 18 = .ok (.aload_n 0, 1) := by decide +kernel
theorem dX4_doWritten_19 : decode cX4_doWritten 19 = .ok (.aload_n 1, 1) := by decide +kernel
theorem dX4_doWritten_20 : decode cX4_doWritten 20 = .ok (.getfield 101, 3) := by decide +kernel
theorem dX4_doWritten_23 : decode cX4_doWritten 23 = .ok (.iload_n 2, 1) := by decide +kernel
theorem dX4_doWritten_24 : decode cX4_doWritten 24 = .ok (.invokevirtual 105, 3) := by decide +kernel
theorem dX4_doWritten_27 : decode cX4_doWritten 27 = .ok (.iastore, 1) := by decide +kernel
theorem dX4_doWritten_28 : decode cX4_doWritten 28 = .ok (.goto 67, 3) := by decide +kernel
theorem dX4_doWritten_31 : decode cX4_doWritten 31 = .ok (.aload_n 1, 1) := by decide +kernel
theorem dX4_doWritten_32 : decode cX4_doWritten 32 = .ok (.getfield 94, 3) := by decide +kernel
theorem dX4_doWritten_35 : decode cX4_doWritten 35 = .ok (.iconst 2, 1) := by decide +kernel
theorem dX4_doWritten_36 : decode cX4_doWritten 36 = .ok (.if_icmp .ne 26, 3) := by decide +kernel
theorem dX4_doWritten_39 : decode cX4_doWritten 39 = .ok (.aload_n 0, 1) := by decide +kernel
theorem dX4_doWritten_40 : decode cX4_doWritten 40 = .ok (.getfield 15, 3) := by decide +kernel
theorem dX4_doWritten_43 : decode cX4_doWritten 43 = .ok (.aload_n 1, 1) := by decide +kernel
theorem dX4_doWritten_44 : decode cX4_doWritten 44 = .ok (.getfield 109, 3) := by decide +kernel
theorem dX4_doWritten_47 : decode cX4_doWritten 47 = .ok (.aload_n 0, 1) := by decide +kernel
theorem dX4_doWritten_48 : decode cX4_doWritten 48 = .ok (.getfield 9, 3) := by decide +kernel
theorem dX4_doWritten_51 : decode cX4_doWritten 51 = .ok (.aload_n 0, 1) := by decide +kernel
theorem dX4_doWritten_52 : decode cX4_doWritten 52 = .ok (.aload_n 1, 1) := by decide +kernel
theorem dX4_doWritten_53 : decode cX4_doWritten 53 = .ok (.iload_n 2, 1) := by decide +kernel
theorem dX4_doWritten_54 : decode cX4_doWritten 54 = .ok (.invokevirtual 97, 3) := by decide +kernel
theorem dX4_doWritten_57 : decode cX4_doWritten 57 = .ok (.iaload, 1) := by decide +kernel
theorem dX4_doWritten_58 : decode cX4_doWritten 58 = .ok (.iastore, 1) := by decide +kernel
theorem dX4_doWritten_59 : decode cX4_doWritten 59 = .ok (.goto 36, 3) := by decide +kernel
theorem dX4_doWritten_62 : decode cX4_doWritten 62 = .ok (.aload_n 0, 1) := by decide +kernel
theorem dX4_doWritten_63 : decode cX4_doWritten 63 = .ok (.aload_n 1, 1) := by decide +kernel
theorem dX4_doWritten_64 : decode cX4_doWritten 64 = .ok (.getfield 101, 3) := by decide +kernel
theorem dX4_doWritten_67 : decode cX4_doWritten 67 = .ok (.iload_n 2, 1) := by decide +kernel
theorem dX4_doWritten_68 : decode cX4_doWritten 68 = .ok (.invokevirtual 105, 3) := by decide +kernel
theorem dX4_doWritten_71 : decode cX4_doWritten 71 = .ok (.istore_n 3, 1) := by decide +kernel
theorem dX4_doWritten_72 : decode cX4_doWritten 72 = .ok (.aload_n 0, 1) := by decide +kernel
theorem dX4_doWritten_73 : decode cX4_doWritten 73 = .ok (.getfield 15, 3) := by decide +kernel
theorem dX4_doWritten_76 : decode cX4_doWritten 76 = .ok (.aload_n 1, 1) := by decide +kernel
theorem dX4_doWritten_77 : decode cX4_doWritten 77 = .ok (.getfield 109, 3) := by decide +kernel
theorem dX4_doWritten_80 : decode cX4_doWritten 80 = .ok (.aload_n 1, 1) := by decide +kernel
theorem dX4_doWritten_81 : decode cX4_doWritten 81 = .ok (.iload_n 3, 1) := by decide +kernel
theorem dX4_doWritten_82 : decode cX4_doWritten 82 = .ok (.aload_n 0, 1) := by decide +kernel
theorem dX4_doWritten_83 : decode cX4_doWritten 83 = .ok (.aload_n 1, 1) := by decide +kernel
theorem dX4_doWritten_84 : decode cX4_doWritten 84 = .ok (.getfield 112, 3) := by decide +kernel
theorem dX4_doWritten_87 : decode cX4_doWritten 87 = .ok (.iload_n 2, 1) := by decide +kernel
theorem dX4_doWritten_88 : decode cX4_doWritten 88 = .ok (.invokevirtual 105, 3) := by decide +kernel
theorem dX4_doWritten_91 : decode cX4_doWritten 91 = .ok (.invokevirtual 115, 3) := by decide +kernel
theorem dX4_doWritten_94 : decode cX4_doWritten 94 = .ok (.iastore, 1) := by decide +kernel
theorem dX4_doWritten_95 : decode cX4_doWritten 95 = .ok (.return_, 1) := by decide +kernel
theorem dX4_writtenValue_0 : decode cX4_writtenValue 0 = .ok (.aload_n 1, 1) := by decide +kernel
theorem dX4_writtenValue_1 : decode cX4_writtenValue 1 = .ok (.getfield 119, 3) := by decide +kernel
theorem dX4_writtenValue_4 : decode cX4_writtenValue 4 = .ok (.bipush 114, 2) := by decide +kernel
theorem dX4_writtenValue_6 : decode cX4_writtenValue 6 = .ok (.if_icmp .ne 13, 3) := by decide +kernel
theorem dX4_writtenValue_9 : decode cX4_writtenValue 9 = .ok (.aload_n 0, 1) := by decide +kernel
theorem dX4_writtenValue_10 : decode cX4_writtenValue 10 = .ok (.getfield 15, 3) := by decide +kernel
theorem dX4_writtenValue_13 : decode cX4_writtenValue 13 = .ok (.aload_n 1, 1) := by decide +kernel
theorem dX4_writtenValue_14 : decode cX4_writtenValue 14 = .ok (.getfield 124, 3) := by decide +kernel
theorem dX4_writtenValue_17 : decode cX4_writtenValue 17 = .ok (.iaload, 1) := by decide +kernel
theorem dX4_writtenValue_18 : decode cX4_writtenValue 18 = .ok (.ireturn, 1) := by decide +kernel
theorem dX4_writtenValue_19 : decode cX4_writtenValue 19 = .ok (.aload_n 1, 1) := by decide +kernel
theorem dX4_writtenValue_20 : decode cX4_writtenValue 20 = .ok (.getfield 119, 3) := by decide +kernel
theorem dX4_writtenValue_23 : decode cX4_writtenValue 23 = .ok (.bipush 105, 2) := by decide +kernel
theorem dX4_writtenValue_25 : decode cX4_writtenValue 25 = .ok (.if_icmp .ne 7, 3) := by decide +kernel
theorem dX4_writtenValue_28 : decode cX4_writtenValue 28 = .ok (.iload_n 2, 1) := by decide +kernel
theorem dX4_writtenValue_29 : decode cX4_writtenValue 29 = .ok (.goto 7, 3) := by decide +kernel
theorem dX4_writtenValue_32 : decode cX4_writtenValue 32 = .ok (.aload_n 1, 1) := by decide +kernel
theorem dX4_writtenValue_33 : decode cX4_writtenValue 33 = .ok (.getfield 124, 3) := by decide +kernel
theorem dX4_writtenValue_36 : decode cX4_writtenValue 36 = .ok (.ireturn, 1) := by decide +kernel
theorem dX4_lastCycle_0 : decode cX4_lastCycle 0 = .ok (.iconst 0, 1) := by decide +kernel
theorem dX4_lastCycle_1 : decode cX4_lastCycle 1 = .ok (.istore_n 1, 1) := by decide +kernel
theorem dX4_lastCycle_2 : decode cX4_lastCycle 2 = .ok (.iconst 0, 1) := by decide +kernel
theorem dX4_lastCycle_3 : decode cX4_lastCycle 3 = .ok (.istore_n 2, 1) := by decide +kernel
theorem dX4_lastCycle_4 : decode cX4_lastCycle 4 = .ok (.iload_n 2, 1) := by decide +kernel
theorem dX4_lastCycle_5 : decode cX4_lastCycle 5 = .ok (.aload_n 0, 1) := by decide +kernel
theorem dX4_lastCycle_6 : decode cX4_lastCycle 6 = .ok (.getfield 24, 3) := by decide +kernel
theorem dX4_lastCycle_9 : decode cX4_lastCycle 9 = .ok (.getfield 51, 3) := by decide +kernel
theorem dX4_lastCycle_12 : decode cX4_lastCycle 12 = .ok (.if_icmp .ge 41, 3) := by decide +kernel
theorem dX4_lastCycle_15 : decode cX4_lastCycle 15 = .ok (.iload_n 1, 1) := by decide +kernel
theorem dX4_lastCycle_16 : decode cX4_lastCycle 16 = .ok (.aload_n 0, 1) := by decide +kernel
theorem dX4_lastCycle_17 : decode cX4_lastCycle 17 = .ok (.getfield 28, 3) := by decide +kernel
theorem dX4_lastCycle_20 : decode cX4_lastCycle 20 = .ok (.getfield 127, 3) := by decide +kernel
theorem dX4_lastCycle_23 : decode cX4_lastCycle 23 = .ok (.iload_n 2, 1) := by decide +kernel
theorem dX4_lastCycle_24 : decode cX4_lastCycle 24 = .ok (.iaload, 1) := by decide +kernel
theorem dX4_lastCycle_25 : decode cX4_lastCycle 25 = .ok (.aload_n 0, 1) := by decide +kernel
theorem dX4_lastCycle_26 : decode cX4_lastCycle 26 = .ok (.getfield 36, 3) := by decide +kernel
theorem dX4_lastCycle_29 : decode cX4_lastCycle 29 = .ok (.aload_n 0, 1) := by decide +kernel
theorem dX4_lastCycle_30 : decode cX4_lastCycle 30 = .ok (.getfield 24, 3) := by decide +kernel
theorem dX4_lastCycle_33 : decode cX4_lastCycle 33 = .ok (.getfield 57, 3) := by decide +kernel
theorem dX4_lastCycle_36 : decode cX4_lastCycle 36 = .ok (.iload_n 2, 1) := by decide +kernel
theorem dX4_lastCycle_37 : decode cX4_lastCycle 37 = .ok (.aaload, 1) := by decide +kernel
theorem dX4_lastCycle_38 : decode cX4_lastCycle 38 = .ok (.getfield 94, 3) := by decide +kernel
theorem dX4_lastCycle_41 : decode cX4_lastCycle 41 = .ok (.iaload, 1) := by decide +kernel
theorem dX4_lastCycle_42 : decode cX4_lastCycle 42 = .ok (.iadd, 1) := by decide +kernel
theorem dX4_lastCycle_43 : decode cX4_lastCycle 43 = .ok (.invokestatic 132, 3) := by decide +kernel
theorem dX4_lastCycle_46 : decode cX4_lastCycle 46 = .ok (.istore_n 1, 1) := by decide +kernel
theorem dX4_lastCycle_47 : decode cX4_lastCycle 47 = .ok (.iinc 2 1, 3) := by decide +kernel
theorem dX4_lastCycle_50 : decode cX4_lastCycle 50 = .ok (.goto (-46), 3) := by decide +kernel
theorem dX4_lastCycle_53 : decode cX4_lastCycle 53 = .ok (.iload_n 1, 1) := by decide +kernel
theorem dX4_lastCycle_54 : decode cX4_lastCycle 54 = .ok (.aload_n 0, 1) := by decide +kernel
theorem dX4_lastCycle_55 : decode cX4_lastCycle 55 = .ok (.getfield 36, 3) := by decide +kernel
theorem dX4_lastCycle_58 : decode cX4_lastCycle 58 = .ok (.bipush 8, 2) := by decide +kernel
theorem dX4_lastCycle_60 : decode cX4_lastCycle 60 = .ok (.iaload, 1) := by decide +kernel
theorem dX4_lastCycle_61 : decode cX4_lastCycle 61 = .ok (.iconst 1, 1) := by decide +kernel
theorem dX4_lastCycle_62 : decode cX4_lastCycle 62 = .ok (.isub, 1) := by decide +kernel
theorem dX4_lastCycle_63 : decode cX4_lastCycle 63 = .ok (.aload_n 0, 1) := by decide +kernel
theorem dX4_lastCycle_64 : decode cX4_lastCycle 64 = .ok (.getfield 65, 3) := by decide +kernel
theorem dX4_lastCycle_67 : decode cX4_lastCycle 67 = .ok (.imul, 1) := by decide +kernel
theorem dX4_lastCycle_68 : decode cX4_lastCycle 68 = .ok (.iadd, 1) := by decide +kernel
theorem dX4_lastCycle_69 : decode cX4_lastCycle 69 = .ok (.ireturn, 1) := by decide +kernel
set_option maxRecDepth 20000 in
theorem ggX4_roundAt_X9_quotient : GoodIn wsX4_roundAt wsX9_quotient := goodIn_r _ [5, 6, 7, 8, 9] (by decide +kernel) (by decide +kernel)
set_option maxRecDepth 20000 in
theorem gX4_roundAt_X9_quotient_n137 : GoodIn wsX4_roundAt (wsX9_quotient) := ggX4_roundAt_X9_quotient
theorem dX4_roundAt_0 : decode cX4_roundAt 0 = .ok (.iload_n 1, 1) := by decide +kernel
theorem dX4_roundAt_1 : decode cX4_roundAt 1 = .ok (.iload_n 2, 1) := by decide +kernel
theorem dX4_roundAt_2 : decode cX4_roundAt 2 = .ok (.isub, 1) := by decide +kernel
theorem dX4_roundAt_3 : decode cX4_roundAt 3 = .ok (.istore_n 3, 1) := by decide +kernel
theorem dX4_roundAt_4 : decode cX4_roundAt 4 = .ok (.iload_n 3, 1) := by decide +kernel
theorem dX4_roundAt_5 : decode cX4_roundAt 5 = .ok (.ifCond .ge 7, 3) := by decide +kernel
theorem dX4_roundAt_8 : decode cX4_roundAt 8 = .ok (.iconst (-1), 1) := by decide +kernel
theorem dX4_roundAt_9 : decode cX4_roundAt 9 = .ok (.goto 11, 3) := by decide +kernel
theorem dX4_roundAt_12 : decode cX4_roundAt 12 = .ok (.iload_n 3, 1) := by decide +kernel
theorem dX4_roundAt_13 : decode cX4_roundAt 13 = .ok (.aload_n 0, 1) := by decide +kernel
theorem dX4_roundAt_14 : decode cX4_roundAt 14 = .ok (.getfield 65, 3) := by decide +kernel
theorem dX4_roundAt_17 : decode cX4_roundAt 17 = .ok (.invokestatic 137, 3) := by decide +kernel
theorem dX4_roundAt_20 : decode cX4_roundAt 20 = .ok (.istore 4, 2) := by decide +kernel
theorem dX4_roundAt_22 : decode cX4_roundAt 22 = .ok (.iload 4, 2) := by decide +kernel
theorem dX4_roundAt_24 : decode cX4_roundAt 24 = .ok (.aload_n 0, 1) := by decide +kernel
theorem dX4_roundAt_25 : decode cX4_roundAt 25 = .ok (.getfield 36, 3) := by decide +kernel
theorem dX4_roundAt_28 : decode cX4_roundAt 28 = .ok (.bipush 8, 2) := by decide +kernel
theorem dX4_roundAt_30 : decode cX4_roundAt 30 = .ok (.iaload, 1) := by decide +kernel
theorem dX4_roundAt_31 : decode cX4_roundAt 31 = .ok (.if_icmp .ge 19, 3) := by decide +kernel
theorem dX4_roundAt_34 : decode cX4_roundAt 34 = .ok (.iload 4, 2) := by decide +kernel
theorem dX4_roundAt_36 : decode cX4_roundAt 36 = .ok (.aload_n 0, 1) := by decide +kernel
theorem dX4_roundAt_37 : decode cX4_roundAt 37 = .ok (.getfield 65, 3) := by decide +kernel
theorem dX4_roundAt_40 : decode cX4_roundAt 40 = .ok (.imul, 1) := by decide +kernel
theorem dX4_roundAt_41 : decode cX4_roundAt 41 = .ok (.iload_n 3, 1) := by decide +kernel
theorem dX4_roundAt_42 : decode cX4_roundAt 42 = .ok (.if_icmp .ne 8, 3) := by decide +kernel
theorem dX4_roundAt_45 : decode cX4_roundAt 45 = .ok (.iload 4, 2) := by decide +kernel
theorem dX4_roundAt_47 : decode cX4_roundAt 47 = .ok (.goto 4, 3) := by decide +kernel
theorem dX4_roundAt_50 : decode cX4_roundAt 50 = .ok (.iconst (-1), 1) := by decide +kernel
theorem dX4_roundAt_51 : decode cX4_roundAt 51 = .ok (.ireturn, 1) := by decide +kernel
set_option maxRecDepth 20000 in
theorem ggX4_bringValues_X4_roundAt : GoodIn wsX4_bringValues wsX4_roundAt := goodIn_r _ [13, 14, 15, 16, 17, 18, 19, 20, 21, 22, 28, 29, 30, 31, 32, 33, 34, 35, 36, 37] (by decide +kernel) (by decide +kernel)
set_option maxRecDepth 20000 in
theorem gX4_bringValues_X4_roundAt : GoodIn wsX4_bringValues (wsV RX4 145 RX4 yX4_roundAt wsX4_roundAt) := goodIn_app (goodIn_of _ (by decide +kernel)) ggX4_bringValues_X4_roundAt
set_option maxRecDepth 20000 in
theorem ggX4_bringValues_X9_rest : GoodIn wsX4_bringValues wsX9_rest := goodIn_r _ [24, 25, 26, 21, 27] (by decide +kernel) (by decide +kernel)
set_option maxRecDepth 20000 in
theorem gX4_bringValues_X9_rest_n152 : GoodIn wsX4_bringValues (wsX9_rest) := ggX4_bringValues_X9_rest
theorem dX4_bringValues_0 : decode cX4_bringValues 0 = .ok (.iconst 0, 1) := by decide +kernel
theorem dX4_bringValues_1 : decode cX4_bringValues 1 = .ok (.istore_n 2, 1) := by decide +kernel
theorem dX4_bringValues_2 : decode cX4_bringValues 2 = .ok (.iload_n 2, 1) := by decide +kernel
theorem dX4_bringValues_3 : decode cX4_bringValues 3 = .ok (.aload_n 0, 1) := by decide +kernel
theorem dX4_bringValues_4 : decode cX4_bringValues 4 = .ok (.getfield 24, 3) := by decide +kernel
theorem dX4_bringValues_7 : decode cX4_bringValues 7 = .ok (.getfield 51, 3) := by decide +kernel
theorem dX4_bringValues_10 : decode cX4_bringValues 10 = .ok (.if_icmp .ge 77, 3) := by decide +kernel
theorem dX4_bringValues_13 : decode cX4_bringValues 13 = .ok (.aload_n 0, 1) := by decide +kernel
theorem dX4_bringValues_14 : decode cX4_bringValues 14 = .ok (.getfield 32, 3) := by decide +kernel
theorem dX4_bringValues_17 : decode cX4_bringValues 17 = .ok (.getfield 140, 3) := by decide +kernel
theorem dX4_bringValues_20 : decode cX4_bringValues 20 = .ok (.iload_n 2, 1) := by decide +kernel
theorem dX4_bringValues_21 : decode cX4_bringValues 21 = .ok (.iaload, 1) := by decide +kernel
theorem dX4_bringValues_22 : decode cX4_bringValues 22 = .ok (.ifCond .lt 59, 3) := by decide +kernel
theorem dX4_bringValues_25 : decode cX4_bringValues 25 = .ok (.aload_n 0, 1) := by decide +kernel
theorem dX4_bringValues_26 : decode cX4_bringValues 26 = .ok (.iload_n 1, 1) := by decide +kernel
theorem dX4_bringValues_27 : decode cX4_bringValues 27 = .ok (.aload_n 0, 1) := by decide +kernel
theorem dX4_bringValues_28 : decode cX4_bringValues 28 = .ok (.getfield 32, 3) := by decide +kernel
theorem dX4_bringValues_31 : decode cX4_bringValues 31 = .ok (.getfield 140, 3) := by decide +kernel
theorem dX4_bringValues_34 : decode cX4_bringValues 34 = .ok (.iload_n 2, 1) := by decide +kernel
theorem dX4_bringValues_35 : decode cX4_bringValues 35 = .ok (.iaload, 1) := by decide +kernel
theorem dX4_bringValues_36 : decode cX4_bringValues 36 = .ok (.invokevirtual 145, 3) := by decide +kernel
theorem dX4_bringValues_39 : decode cX4_bringValues 39 = .ok (.istore_n 3, 1) := by decide +kernel
theorem dX4_bringValues_40 : decode cX4_bringValues 40 = .ok (.iload_n 3, 1) := by decide +kernel
theorem dX4_bringValues_41 : decode cX4_bringValues 41 = .ok (.ifCond .lt 40, 3) := by decide +kernel
theorem dX4_bringValues_44 : decode cX4_bringValues 44 = .ok (.aload_n 0, 1) := by decide +kernel
theorem dX4_bringValues_45 : decode cX4_bringValues 45 = .ok (.getfield 21, 3) := by decide +kernel
theorem dX4_bringValues_48 : decode cX4_bringValues 48 = .ok (.aload_n 0, 1) := by decide +kernel
theorem dX4_bringValues_49 : decode cX4_bringValues 49 = .ok (.getfield 32, 3) := by decide +kernel
theorem dX4_bringValues_52 : decode cX4_bringValues 52 = .ok (.getfield 148, 3) := by decide +kernel
theorem dX4_bringValues_55 : decode cX4_bringValues 55 = .ok (.iload_n 2, 1) := by decide +kernel
theorem dX4_bringValues_56 : decode cX4_bringValues 56 = .ok (.iaload, 1) := by decide +kernel
theorem dX4_bringValues_57 : decode cX4_bringValues 57 = .ok (.iload_n 3, 1) := by decide +kernel
theorem dX4_bringValues_58 : decode cX4_bringValues 58 = .ok (.isub, 1) := by decide +kernel
theorem dX4_bringValues_59 : decode cX4_bringValues 59 = .ok (.aload_n 0, 1) := by decide +kernel
theorem dX4_bringValues_60 : decode cX4_bringValues 60 = .ok (.getfield 32, 3) := by decide +kernel
theorem dX4_bringValues_63 : decode cX4_bringValues 63 = .ok (.getfield 151, 3) := by decide +kernel
theorem dX4_bringValues_66 : decode cX4_bringValues 66 = .ok (.invokestatic 152, 3) := by decide +kernel
theorem dX4_bringValues_69 : decode cX4_bringValues 69 = .ok (.aload_n 0, 1) := by decide +kernel
theorem dX4_bringValues_70 : decode cX4_bringValues 70 = .ok (.getfield 18, 3) := by decide +kernel
theorem dX4_bringValues_73 : decode cX4_bringValues 73 = .ok (.iload_n 2, 1) := by decide +kernel
theorem dX4_bringValues_74 : decode cX4_bringValues 74 = .ok (.bipush 64, 2) := by decide +kernel
theorem dX4_bringValues_76 : decode cX4_bringValues 76 = .ok (.imul, 1) := by decide +kernel
theorem dX4_bringValues_77 : decode cX4_bringValues 77 = .ok (.iload_n 3, 1) := by decide +kernel
theorem dX4_bringValues_78 : decode cX4_bringValues 78 = .ok (.iadd, 1) := by decide +kernel
theorem dX4_bringValues_79 : decode cX4_bringValues 79 = .ok (.iaload, 1) := by decide +kernel
theorem dX4_bringValues_80 : decode cX4_bringValues 80 = .ok (.iastore, 1) := by decide +kernel
theorem dX4_bringValues_81 : decode cX4_bringValues 81 = .ok (.iinc 2 1, 3) := by decide +kernel
theorem dX4_bringValues_84 : decode cX4_bringValues 84 = .ok (.goto (-82), 3) := by decide +kernel
theorem dX4_bringValues_87 : decode cX4_bringValues 87 = .ok (.return_, 1) := by decide +kernel
set_option maxRecDepth 20000 in
theorem ggX4_beginRows_X4_roundAt : GoodIn wsX4_beginRows wsX4_roundAt := goodIn_r _ [10, 11, 12, 13, 14, 15, 16, 17, 18, 19, 72, 73, 74, 75, 76, 77, 78, 79, 80, 81] (by decide +kernel) (by decide +kernel)
set_option maxRecDepth 20000 in
theorem gX4_beginRows_X4_roundAt : GoodIn wsX4_beginRows (wsV RX4 145 RX4 yX4_roundAt wsX4_roundAt) := goodIn_app (goodIn_of _ (by decide +kernel)) ggX4_beginRows_X4_roundAt
set_option maxRecDepth 20000 in
theorem ggX4_beginRows_X4_giveLaid : GoodIn wsX4_beginRows wsX4_giveLaid := goodIn_r _ [23, 1, 24, 25, 26, 27, 28, 29, 30, 31, 9, 32, 33, 34, 35, 36, 37, 38, 39, 40, 41, 42, 43, 44, 45, 46, 47, 48, 49, 50, 51, 52, 53, 54, 55, 56, 57, 58, 59, 60, 14, 61, 62, 63, 64, 65, 18, 66, 67, 68, 69, 70, 71, 72, 73, 74, 75, 76, 77, 78, 79, 80, 81, 82, 83, 84, 94, 95, 96, 97, 98, 99, 100, 101, 102, 103, 104, 105, 106, 107, 108, 109, 110, 111, 112, 113, 114, 115, 116, 117] (by decide +kernel) (by decide +kernel)
set_option maxRecDepth 20000 in
theorem gX4_beginRows_X4_giveLaid : GoodIn wsX4_beginRows (wsV RX4 155 RX4 yX4_giveLaid wsX4_giveLaid) := goodIn_app (goodIn_of _ (by decide +kernel)) ggX4_beginRows_X4_giveLaid
theorem dX4_beginRows_0 : decode cX4_beginRows 0 = .ok (.iconst 0, 1) := by decide +kernel
theorem dX4_beginRows_1 : decode cX4_beginRows 1 = .ok (.istore_n 2, 1) := by decide +kernel
theorem dX4_beginRows_2 : decode cX4_beginRows 2 = .ok (.iload_n 2, 1) := by decide +kernel
theorem dX4_beginRows_3 : decode cX4_beginRows 3 = .ok (.aload_n 0, 1) := by decide +kernel
theorem dX4_beginRows_4 : decode cX4_beginRows 4 = .ok (.getfield 24, 3) := by decide +kernel
theorem dX4_beginRows_7 : decode cX4_beginRows 7 = .ok (.getfield 51, 3) := by decide +kernel
theorem dX4_beginRows_10 : decode cX4_beginRows 10 = .ok (.if_icmp .ge 45, 3) := by decide +kernel
theorem dX4_beginRows_13 : decode cX4_beginRows 13 = .ok (.aload_n 0, 1) := by decide +kernel
theorem dX4_beginRows_14 : decode cX4_beginRows 14 = .ok (.iload_n 1, 1) := by decide +kernel
theorem dX4_beginRows_15 : decode cX4_beginRows 15 = .ok (.aload_n 0, 1) := by decide +kernel
theorem dX4_beginRows_16 : decode cX4_beginRows 16 = .ok (.getfield 28, 3) := by decide +kernel
theorem dX4_beginRows_19 : decode cX4_beginRows 19 = .ok (.getfield 127, 3) := by decide +kernel
theorem dX4_beginRows_22 : decode cX4_beginRows 22 = .ok (.iload_n 2, 1) := by decide +kernel
theorem dX4_beginRows_23 : decode cX4_beginRows 23 = .ok (.iaload, 1) := by decide +kernel
theorem dX4_beginRows_24 : decode cX4_beginRows 24 = .ok (.invokevirtual 145, 3) := by decide +kernel
theorem dX4_beginRows_27 : decode cX4_beginRows 27 = .ok (.istore_n 3, 1) := by decide +kernel
theorem dX4_beginRows_28 : decode cX4_beginRows 28 = .ok (.iload_n 3, 1) := by decide +kernel
theorem dX4_beginRows_29 : decode cX4_beginRows 29 = .ok (.ifCond .lt 20, 3) := by decide +kernel
theorem dX4_beginRows_32 : decode cX4_beginRows 32 = .ok (.aload_n 0, 1) := by decide +kernel
theorem dX4_beginRows_33 : decode cX4_beginRows 33 = .ok (.getfield 18, 3) := by decide +kernel
theorem dX4_beginRows_36 : decode cX4_beginRows 36 = .ok (.iload_n 2, 1) := by decide +kernel
theorem dX4_beginRows_37 : decode cX4_beginRows 37 = .ok (.bipush 64, 2) := by decide +kernel
theorem dX4_beginRows_39 : decode cX4_beginRows 39 = .ok (.imul, 1) := by decide +kernel
theorem dX4_beginRows_40 : decode cX4_beginRows 40 = .ok (.iload_n 3, 1) := by decide +kernel
theorem dX4_beginRows_41 : decode cX4_beginRows 41 = .ok (.iadd, 1) := by decide +kernel
theorem dX4_beginRows_42 : decode cX4_beginRows 42 = .ok (.aload_n 0, 1) := by decide +kernel
theorem dX4_beginRows_43 : decode cX4_beginRows 43 = .ok (.iload_n 2, 1) := by decide +kernel
theorem dX4_beginRows_44 : decode cX4_beginRows 44 = .ok (.iload_n 3, 1) := by decide +kernel
theorem dX4_beginRows_45 : decode cX4_beginRows 45 = .ok (.invokevirtual 155, 3) := by decide +kernel
theorem dX4_beginRows_48 : decode cX4_beginRows 48 = .ok (.iastore, 1) := by decide +kernel
theorem dX4_beginRows_49 : decode cX4_beginRows 49 = .ok (.iinc 2 1, 3) := by decide +kernel
theorem dX4_beginRows_52 : decode cX4_beginRows 52 = .ok (.goto (-50), 3) := by decide +kernel
theorem dX4_beginRows_55 : decode cX4_beginRows 55 = .ok (.return_, 1) := by decide +kernel
set_option maxRecDepth 20000 in
theorem ggX4_giveLaid_X4_cellOf : GoodIn wsX4_giveLaid wsX4_cellOf := goodIn_r _ [11, 12, 13, 14, 15, 16, 17, 18, 19, 66, 67, 68, 69, 70, 71, 72, 73, 74] (by decide +kernel) (by decide +kernel)
set_option maxRecDepth 20000 in
theorem gX4_giveLaid_X4_cellOf : GoodIn wsX4_giveLaid (wsV RX4 97 RX4 yX4_cellOf wsX4_cellOf) := goodIn_app (goodIn_of _ (by decide +kernel)) ggX4_giveLaid_X4_cellOf
set_option maxRecDepth 20000 in
theorem ggX4_giveLaid_X4_laidValue : GoodIn wsX4_giveLaid wsX4_laidValue := goodIn_r _ [23, 24, 25, 1, 26, 27, 28, 29, 30, 31, 32, 33, 34, 35, 36, 37, 38, 39, 40, 41, 42, 43, 44, 45, 46, 47, 75, 76, 53, 54, 55, 56, 57, 58, 59, 60, 61, 62, 77, 78, 79, 80, 81, 82, 83, 84, 85, 86, 87, 88, 89, 63, 64, 65] (by decide +kernel) (by decide +kernel)
set_option maxRecDepth 20000 in
theorem gX4_giveLaid_X4_laidValue : GoodIn wsX4_giveLaid (wsV RX4 158 RX4 yX4_laidValue wsX4_laidValue) := goodIn_app (goodIn_of _ (by decide +kernel)) ggX4_giveLaid_X4_laidValue
set_option maxRecDepth 20000 in
theorem ggX4_giveLaid_X3_reckon : GoodIn wsX4_giveLaid wsX3_reckon := goodIn_r _ [51, 52, 66, 67, 68, 69, 70, 71, 72, 73, 74] (by decide +kernel) (by decide +kernel)
set_option maxRecDepth 20000 in
theorem gX4_giveLaid_X3_reckon : GoodIn wsX4_giveLaid (wsV RX4 115 RX3 yX3_reckon wsX3_reckon) := goodIn_app (goodIn_of _ (by decide +kernel)) ggX4_giveLaid_X3_reckon
theorem dX4_giveLaid_0 : decode cX4_giveLaid 0 = .ok (.aload_n 0, 1) := by decide +kernel
theorem dX4_giveLaid_1 : decode cX4_giveLaid 1 = .ok (.getfield 24, 3) := by decide +kernel
theorem dX4_giveLaid_4 : decode cX4_giveLaid 4 = .ok (.getfield 57, 3) := by decide +kernel
theorem dX4_giveLaid_7 : decode cX4_giveLaid 7 = .ok (.iload_n 1, 1) := by decide +kernel
theorem dX4_giveLaid_8 : decode cX4_giveLaid 8 = .ok (.aaload, 1) := by decide +kernel
theorem dX4_giveLaid_9 : decode cX4_giveLaid 9 = .ok (.astore_n 3, 1) := by decide +kernel
theorem dX4_giveLaid_10 : decode cX4_giveLaid 10 = .ok (.aload_n 3, 1) := by decide +kernel
theorem dX4_giveLaid_11 : decode cX4_giveLaid 11 = .ok (.getfield 94, 3) := by decide +kernel
theorem dX4_giveLaid_14 : decode cX4_giveLaid 14 = .ok (.iconst 2, 1) := by decide +kernel
theorem dX4_giveLaid_15 : decode cX4_giveLaid 15 = .ok (.if_icmp .ne 15, 3) := by decide +kernel
theorem dX4_giveLaid_18 : decode cX4_giveLaid 18 = .ok (.aload_n 0, 1) := by decide +kernel
theorem dX4_giveLaid_19 : decode cX4_giveLaid 19 = .ok (.getfield 9, 3) := by decide +kernel
theorem dX4_giveLaid_22 : decode cX4_giveLaid 22 = .ok (.aload_n 0, 1) := by decide +kernel
theorem dX4_giveLaid_23 : decode cX4_giveLaid 23 = .ok (.aload_n 3, 1) := by decide +kernel
theorem dX4_giveLaid_24 : decode cX4_giveLaid 24 = .ok (.iload_n 2, 1) := by decide +kernel
theorem dX4_giveLaid_25 : decode cX4_giveLaid 25 = .ok (.invokevirtual 97, 3) := by decide +kernel
theorem dX4_giveLaid_28 : decode cX4_giveLaid 28 = .ok (.iaload, 1) := by decide +kernel
theorem dX4_giveLaid_29 : decode cX4_giveLaid 29 = .ok (.ireturn, 1) := by decide +kernel
theorem dX4_giveLaid_30 : decode cX4_giveLaid 30 = .ok (.aload_n 0, 1) := by decide +kernel
theorem dX4_giveLaid_31 : decode cX4_giveLaid 31 = .ok (.aload_n 3, 1) := by decide +kernel
theorem dX4_giveLaid_32 : decode cX4_giveLaid 32 = .ok (.getfield 101, 3) := by decide +kernel
theorem dX4_giveLaid_35 : decode cX4_giveLaid 35 = .ok (.iload_n 1, 1) := by decide +kernel
theorem dX4_giveLaid_36 : decode cX4_giveLaid 36 = .ok (.iload_n 2, 1) := by decide +kernel
theorem dX4_giveLaid_37 : decode cX4_giveLaid 37 = .ok (.invokevirtual 158, 3) := by decide +kernel
theorem dX4_giveLaid_40 : decode cX4_giveLaid 40 = .ok (.istore 4, 2) := by decide +kernel
theorem dX4_giveLaid_42 : decode cX4_giveLaid 42 = .ok (.aload_n 3, 1) := by decide +kernel
theorem dX4_giveLaid_43 : decode cX4_giveLaid 43 = .ok (.getfield 94, 3) := by decide +kernel
theorem dX4_giveLaid_46 : decode cX4_giveLaid 46 = .ok (.iconst 3, 1) := by decide +kernel
theorem dX4_giveLaid_47 : decode cX4_giveLaid 47 = .ok (.if_icmp .ne 8, 3) := by decide +kernel
theorem dX4_giveLaid_50 : decode cX4_giveLaid 50 = .ok (.iload 4, 2) := by decide +kernel
theorem dX4_giveLaid_52 : decode cX4_giveLaid 52 = .ok (.goto 19, 3) := by decide +kernel
theorem dX4_giveLaid_55 : decode cX4_giveLaid 55 = .ok (.aload_n 3, 1) := by decide +kernel
theorem dX4_giveLaid_56 : decode cX4_giveLaid 56 = .ok (.iload 4, 2) := by decide +kernel
theorem dX4_giveLaid_58 : decode cX4_giveLaid 58 = .ok (.aload_n 0, 1) := by decide +kernel
theorem dX4_giveLaid_59 : decode cX4_giveLaid 59 = .ok (.aload_n 3, 1) := by decide +kernel
theorem dX4_giveLaid_60 : decode cX4_giveLaid 60 = .ok (.getfield 112, 3) := by decide +kernel
theorem dX4_giveLaid_63 : decode cX4_giveLaid 63 = .ok (.iload_n 1, 1) := by decide +kernel
theorem dX4_giveLaid_64 : decode cX4_giveLaid 64 = .ok (.iload_n 2, 1) := by decide +kernel
theorem dX4_giveLaid_65 : decode cX4_giveLaid 65 = .ok (.invokevirtual 158, 3) := by decide +kernel
theorem dX4_giveLaid_68 : decode cX4_giveLaid 68 = .ok (.invokevirtual 115, 3) := by decide +kernel
theorem dX4_giveLaid_71 : decode cX4_giveLaid 71 = .ok (.ireturn, 1) := by decide +kernel
set_option maxRecDepth 20000 in
theorem ggX4_laidValue_X0_source : GoodIn wsX4_laidValue wsX0_source := goodIn_r _ [13, 14, 15, 16, 26, 27, 51, 52, 53] (by decide +kernel) (by decide +kernel)
set_option maxRecDepth 20000 in
theorem gX4_laidValue_X0_source : GoodIn wsX4_laidValue (wsV RX4 162 RX0 yX0_source wsX0_source) := goodIn_app (goodIn_of _ (by decide +kernel)) ggX4_laidValue_X0_source
set_option maxRecDepth 20000 in
theorem ggX4_laidValue_X9_roundsOfUse : GoodIn wsX4_laidValue wsX9_roundsOfUse := goodIn_r _ [19] (by decide +kernel) (by decide +kernel)
set_option maxRecDepth 20000 in
theorem gX4_laidValue_X9_roundsOfUse_n166 : GoodIn wsX4_laidValue (wsX9_roundsOfUse) := ggX4_laidValue_X9_roundsOfUse
set_option maxRecDepth 20000 in
theorem ggX4_laidValue_X9_rest : GoodIn wsX4_laidValue wsX9_rest := goodIn_r _ [21, 22, 23, 24, 25] (by decide +kernel) (by decide +kernel)
set_option maxRecDepth 20000 in
theorem gX4_laidValue_X9_rest_n152 : GoodIn wsX4_laidValue (wsX9_rest) := ggX4_laidValue_X9_rest
theorem dX4_laidValue_0 : decode cX4_laidValue 0 = .ok (.aload_n 1, 1) := by decide +kernel
theorem dX4_laidValue_1 : decode cX4_laidValue 1 = .ok (.getfield 119, 3) := by decide +kernel
theorem dX4_laidValue_4 : decode cX4_laidValue 4 = .ok (.bipush 114, 2) := by decide +kernel
