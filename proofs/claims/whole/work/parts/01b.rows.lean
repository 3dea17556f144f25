theorem dX4_laidValue_6 : decode cX4_laidValue 6 = .ok (.if_icmp .eq 21, 3) := by decide +kernel
theorem dX4_laidValue_9 : decode cX4_laidValue 9 = .ok (.aload_n 1, 1) := by decide +kernel
theorem dX4_laidValue_10 : decode cX4_laidValue 10 = .ok (.getfield 119, 3) := by decide +kernel
theorem dX4_laidValue_13 : decode cX4_laidValue 13 = .ok (.bipush 105, 2) := by decide +kernel
theorem dX4_laidValue_15 : decode cX4_laidValue 15 = .ok (.if_icmp .ne 7, 3) := by decide +kernel
theorem dX4_laidValue_18 : decode cX4_laidValue 18 = .ok (.iload_n 3, 1) := by decide +kernel
theorem dX4_laidValue_19 : decode cX4_laidValue 19 = .ok (.goto 7, 3) := by decide +kernel
theorem dX4_laidValue_22 : decode cX4_laidValue 22 = .ok (.aload_n 1, 1) := by decide +kernel
theorem dX4_laidValue_23 : decode cX4_laidValue 23 = .ok (.getfield 124, 3) := by decide +kernel
theorem dX4_laidValue_26 : decode cX4_laidValue 26 = .ok (.ireturn, 1) := by decide +kernel
theorem dX4_laidValue_27 : decode cX4_laidValue 27 = .ok (.aload_n 0, 1) := by decide +kernel
theorem dX4_laidValue_28 : decode cX4_laidValue 28 = .ok (.getfield 24, 3) := by decide +kernel
theorem dX4_laidValue_31 : decode cX4_laidValue 31 = .ok (.aload_n 1, 1) := by decide +kernel
theorem dX4_laidValue_32 : decode cX4_laidValue 32 = .ok (.invokevirtual 162, 3) := by decide +kernel
theorem dX4_laidValue_35 : decode cX4_laidValue 35 = .ok (.istore 4, 2) := by decide +kernel
theorem dX4_laidValue_37 : decode cX4_laidValue 37 = .ok (.iload_n 3, 1) := by decide +kernel
theorem dX4_laidValue_38 : decode cX4_laidValue 38 = .ok (.iload 4, 2) := by decide +kernel
theorem dX4_laidValue_40 : decode cX4_laidValue 40 = .ok (.iload_n 2, 1) := by decide +kernel
theorem dX4_laidValue_41 : decode cX4_laidValue 41 = .ok (.invokestatic 166, 3) := by decide +kernel
theorem dX4_laidValue_44 : decode cX4_laidValue 44 = .ok (.isub, 1) := by decide +kernel
theorem dX4_laidValue_45 : decode cX4_laidValue 45 = .ok (.istore 5, 2) := by decide +kernel
theorem dX4_laidValue_47 : decode cX4_laidValue 47 = .ok (.iload 4, 2) := by decide +kernel
theorem dX4_laidValue_49 : decode cX4_laidValue 49 = .ok (.ifCond .lt 8, 3) := by decide +kernel
theorem dX4_laidValue_52 : decode cX4_laidValue 52 = .ok (.iload 5, 2) := by decide +kernel
theorem dX4_laidValue_54 : decode cX4_laidValue 54 = .ok (.ifCond .ge 13, 3) := by decide +kernel
theorem dX4_laidValue_57 : decode cX4_laidValue 57 = .ok (.aload_n 0, 1) := by decide +kernel
theorem dX4_laidValue_58 : decode cX4_laidValue 58 = .ok (.getfield 39, 3) := by decide +kernel
theorem dX4_laidValue_61 : decode cX4_laidValue 61 = .ok (.aload_n 1, 1) := by decide +kernel
theorem dX4_laidValue_62 : decode cX4_laidValue 62 = .ok (.getfield 124, 3) := by decide +kernel
theorem dX4_laidValue_65 : decode cX4_laidValue 65 = .ok (.iaload, 1) := by decide +kernel
theorem dX4_laidValue_66 : decode cX4_laidValue 66 = .ok (.ireturn, 1) := by decide +kernel
theorem dX4_laidValue_67 : decode cX4_laidValue 67 = .ok (.aload_n 0, 1) := by decide +kernel
theorem dX4_laidValue_68 : decode cX4_laidValue 68 = .ok (.getfield 21, 3) := by decide +kernel
theorem dX4_laidValue_71 : decode cX4_laidValue 71 = .ok (.aload_n 0, 1) := by decide +kernel
theorem dX4_laidValue_72 : decode cX4_laidValue 72 = .ok (.getfield 32, 3) := by decide +kernel
theorem dX4_laidValue_75 : decode cX4_laidValue 75 = .ok (.getfield 148, 3) := by decide +kernel
theorem dX4_laidValue_78 : decode cX4_laidValue 78 = .ok (.iload 4, 2) := by decide +kernel
theorem dX4_laidValue_80 : decode cX4_laidValue 80 = .ok (.iaload, 1) := by decide +kernel
theorem dX4_laidValue_81 : decode cX4_laidValue 81 = .ok (.iload 5, 2) := by decide +kernel
theorem dX4_laidValue_83 : decode cX4_laidValue 83 = .ok (.isub, 1) := by decide +kernel
theorem dX4_laidValue_84 : decode cX4_laidValue 84 = .ok (.aload_n 0, 1) := by decide +kernel
theorem dX4_laidValue_85 : decode cX4_laidValue 85 = .ok (.getfield 32, 3) := by decide +kernel
theorem dX4_laidValue_88 : decode cX4_laidValue 88 = .ok (.getfield 151, 3) := by decide +kernel
theorem dX4_laidValue_91 : decode cX4_laidValue 91 = .ok (.invokestatic 152, 3) := by decide +kernel
theorem dX4_laidValue_94 : decode cX4_laidValue 94 = .ok (.iaload, 1) := by decide +kernel
theorem dX4_laidValue_95 : decode cX4_laidValue 95 = .ok (.ireturn, 1) := by decide +kernel
set_option maxRecDepth 20000 in
theorem ggX4_bringSets_X4_roundAt : GoodIn wsX4_bringSets wsX4_roundAt := goodIn_r _ [14, 15, 7, 16, 17, 18, 19, 20, 21, 22, 35, 36, 37, 38, 39, 40, 41, 42, 43, 44] (by decide +kernel) (by decide +kernel)
set_option maxRecDepth 20000 in
theorem gX4_bringSets_X4_roundAt : GoodIn wsX4_bringSets (wsV RX4 145 RX4 yX4_roundAt wsX4_roundAt) := goodIn_app (goodIn_of _ (by decide +kernel)) ggX4_bringSets_X4_roundAt
set_option maxRecDepth 20000 in
theorem ggX4_bringSets_X4_cellOf : GoodIn wsX4_bringSets wsX4_cellOf := goodIn_r _ [26, 27, 28, 29, 30, 31, 32, 33, 34, 48, 49, 50, 51, 52, 53, 54, 55, 56] (by decide +kernel) (by decide +kernel)
set_option maxRecDepth 20000 in
theorem gX4_bringSets_X4_cellOf : GoodIn wsX4_bringSets (wsV RX4 97 RX4 yX4_cellOf wsX4_cellOf) := goodIn_app (goodIn_of _ (by decide +kernel)) ggX4_bringSets_X4_cellOf
theorem dX4_bringSets_0 : decode cX4_bringSets 0 = .ok (.iconst 0, 1) := by decide +kernel
theorem dX4_bringSets_1 : decode cX4_bringSets 1 = .ok (.istore_n 2, 1) := by decide +kernel
theorem dX4_bringSets_2 : decode cX4_bringSets 2 = .ok (.iload_n 2, 1) := by decide +kernel
theorem dX4_bringSets_3 : decode cX4_bringSets 3 = .ok (.aload_n 0, 1) := by decide +kernel
theorem dX4_bringSets_4 : decode cX4_bringSets 4 = .ok (.getfield 24, 3) := by decide +kernel
theorem dX4_bringSets_7 : decode cX4_bringSets 7 = .ok (.getfield 51, 3) := by decide +kernel
theorem dX4_bringSets_10 : decode cX4_bringSets 10 = .ok (.if_icmp .ge 81, 3) := by decide +kernel
theorem dX4_bringSets_13 : decode cX4_bringSets 13 = .ok (.aload_n 0, 1) := by decide +kernel
theorem dX4_bringSets_14 : decode cX4_bringSets 14 = .ok (.getfield 24, 3) := by decide +kernel
theorem dX4_bringSets_17 : decode cX4_bringSets 17 = .ok (.getfield 57, 3) := by decide +kernel
theorem dX4_bringSets_20 : decode cX4_bringSets 20 = .ok (.iload_n 2, 1) := by decide +kernel
theorem dX4_bringSets_21 : decode cX4_bringSets 21 = .ok (.aaload, 1) := by decide +kernel
theorem dX4_bringSets_22 : decode cX4_bringSets 22 = .ok (.astore_n 3, 1) := by decide +kernel
theorem dX4_bringSets_23 : decode cX4_bringSets 23 = .ok (.aload_n 3, 1) := by decide +kernel
theorem dX4_bringSets_24 : decode cX4_bringSets 24 = .ok (.getfield 94, 3) := by decide +kernel
theorem dX4_bringSets_27 : decode cX4_bringSets 27 = .ok (.iconst 3, 1) := by decide +kernel
theorem dX4_bringSets_28 : decode cX4_bringSets 28 = .ok (.if_icmp .ne 57, 3) := by decide +kernel
theorem dX4_bringSets_31 : decode cX4_bringSets 31 = .ok (.aload_n 0, 1) := by decide +kernel
theorem dX4_bringSets_32 : decode cX4_bringSets 32 = .ok (.iload_n 1, 1) := by decide +kernel
theorem dX4_bringSets_33 : decode cX4_bringSets 33 = .ok (.aload_n 0, 1) := by decide +kernel
theorem dX4_bringSets_34 : decode cX4_bringSets 34 = .ok (.getfield 28, 3) := by decide +kernel
theorem dX4_bringSets_37 : decode cX4_bringSets 37 = .ok (.getfield 127, 3) := by decide +kernel
theorem dX4_bringSets_40 : decode cX4_bringSets 40 = .ok (.iload_n 2, 1) := by decide +kernel
theorem dX4_bringSets_41 : decode cX4_bringSets 41 = .ok (.iaload, 1) := by decide +kernel
theorem dX4_bringSets_42 : decode cX4_bringSets 42 = .ok (.aload_n 0, 1) := by decide +kernel
theorem dX4_bringSets_43 : decode cX4_bringSets 43 = .ok (.getfield 36, 3) := by decide +kernel
theorem dX4_bringSets_46 : decode cX4_bringSets 46 = .ok (.iconst 3, 1) := by decide +kernel
theorem dX4_bringSets_47 : decode cX4_bringSets 47 = .ok (.iaload, 1) := by decide +kernel
theorem dX4_bringSets_48 : decode cX4_bringSets 48 = .ok (.iadd, 1) := by decide +kernel
theorem dX4_bringSets_49 : decode cX4_bringSets 49 = .ok (.iconst 1, 1) := by decide +kernel
theorem dX4_bringSets_50 : decode cX4_bringSets 50 = .ok (.isub, 1) := by decide +kernel
theorem dX4_bringSets_51 : decode cX4_bringSets 51 = .ok (.invokevirtual 145, 3) := by decide +kernel
theorem dX4_bringSets_54 : decode cX4_bringSets 54 = .ok (.istore 4, 2) := by decide +kernel
theorem dX4_bringSets_56 : decode cX4_bringSets 56 = .ok (.iload 4, 2) := by decide +kernel
theorem dX4_bringSets_58 : decode cX4_bringSets 58 = .ok (.ifCond .lt 27, 3) := by decide +kernel
theorem dX4_bringSets_61 : decode cX4_bringSets 61 = .ok (.aload_n 0, 1) := by decide +kernel
theorem dX4_bringSets_62 : decode cX4_bringSets 62 = .ok (.getfield 9, 3) := by decide +kernel
theorem dX4_bringSets_65 : decode cX4_bringSets 65 = .ok (.aload_n 0, 1) := by decide +kernel
theorem dX4_bringSets_66 : decode cX4_bringSets 66 = .ok (.aload_n 3, 1) := by decide +kernel
theorem dX4_bringSets_67 : decode cX4_bringSets 67 = .ok (.iload 4, 2) := by decide +kernel
theorem dX4_bringSets_69 : decode cX4_bringSets 69 = .ok (.invokevirtual 97, 3) := by decide +kernel
theorem dX4_bringSets_72 : decode cX4_bringSets 72 = .ok (.aload_n 0, 1) := by decide +kernel
theorem dX4_bringSets_73 : decode cX4_bringSets 73 = .ok (.getfield 18, 3) := by decide +kernel
theorem dX4_bringSets_76 : decode cX4_bringSets 76 = .ok (.iload_n 2, 1) := by decide +kernel
theorem dX4_bringSets_77 : decode cX4_bringSets 77 = .ok (.bipush 64, 2) := by decide +kernel
theorem dX4_bringSets_79 : decode cX4_bringSets 79 = .ok (.imul, 1) := by decide +kernel
theorem dX4_bringSets_80 : decode cX4_bringSets 80 = .ok (.iload 4, 2) := by decide +kernel
theorem dX4_bringSets_82 : decode cX4_bringSets 82 = .ok (.iadd, 1) := by decide +kernel
theorem dX4_bringSets_83 : decode cX4_bringSets 83 = .ok (.iaload, 1) := by decide +kernel
theorem dX4_bringSets_84 : decode cX4_bringSets 84 = .ok (.iastore, 1) := by decide +kernel
theorem dX4_bringSets_85 : decode cX4_bringSets 85 = .ok (.iinc 2 1, 3) := by decide +kernel
theorem dX4_bringSets_88 : decode cX4_bringSets 88 = .ok (.goto (-86), 3) := by decide +kernel
theorem dX4_bringSets_91 : decode cX4_bringSets 91 = .ok (.return_, 1) := by decide +kernel
theorem dX4_keepLast_0 : decode cX4_keepLast 0 = .ok (.aload_n 0, 1) := by decide +kernel
theorem dX4_keepLast_1 : decode cX4_keepLast 1 = .ok (.getfield 36, 3) := by decide +kernel
theorem dX4_keepLast_4 : decode cX4_keepLast 4 = .ok (.bipush 8, 2) := by decide +kernel
theorem dX4_keepLast_6 : decode cX4_keepLast 6 = .ok (.iaload, 1) := by decide +kernel
theorem dX4_keepLast_7 : decode cX4_keepLast 7 = .ok (.iconst 1, 1) := by decide +kernel
theorem dX4_keepLast_8 : decode cX4_keepLast 8 = .ok (.isub, 1) := by decide +kernel
theorem dX4_keepLast_9 : decode cX4_keepLast 9 = .ok (.istore_n 1, 1) := by decide +kernel
theorem dX4_keepLast_10 : decode cX4_keepLast 10 = .ok (.iconst 0, 1) := by decide +kernel
theorem dX4_keepLast_11 : decode cX4_keepLast 11 = .ok (.istore_n 2, 1) := by decide +kernel
theorem dX4_keepLast_12 : decode cX4_keepLast 12 = .ok (.iload_n 2, 1) := by decide +kernel
theorem dX4_keepLast_13 : decode cX4_keepLast 13 = .ok (.bipush 32, 2) := by decide +kernel
theorem dX4_keepLast_15 : decode cX4_keepLast 15 = .ok (.if_icmp .ge 49, 3) := by decide +kernel
theorem dX4_keepLast_18 : decode cX4_keepLast 18 = .ok (.aload_n 0, 1) := by decide +kernel
theorem dX4_keepLast_19 : decode cX4_keepLast 19 = .ok (.getfield 24, 3) := by decide +kernel
theorem dX4_keepLast_22 : decode cX4_keepLast 22 = .ok (.getfield 169, 3) := by decide +kernel
theorem dX4_keepLast_25 : decode cX4_keepLast 25 = .ok (.iload_n 2, 1) := by decide +kernel
theorem dX4_keepLast_26 : decode cX4_keepLast 26 = .ok (.iaload, 1) := by decide +kernel
theorem dX4_keepLast_27 : decode cX4_keepLast 27 = .ok (.istore_n 3, 1) := by decide +kernel
theorem dX4_keepLast_28 : decode cX4_keepLast 28 = .ok (.aload_n 0, 1) := by decide +kernel
theorem dX4_keepLast_29 : decode cX4_keepLast 29 = .ok (.getfield 15, 3) := by decide +kernel
theorem dX4_keepLast_32 : decode cX4_keepLast 32 = .ok (.iload_n 2, 1) := by decide +kernel
theorem dX4_keepLast_33 : decode cX4_keepLast 33 = .ok (.iload_n 3, 1) := by decide +kernel
theorem dX4_keepLast_34 : decode cX4_keepLast 34 = .ok (.ifCond .ge 12, 3) := by decide +kernel
theorem dX4_keepLast_37 : decode cX4_keepLast 37 = .ok (.aload_n 0, 1) := by decide +kernel
theorem dX4_keepLast_38 : decode cX4_keepLast 38 = .ok (.getfield 39, 3) := by decide +kernel
theorem dX4_keepLast_41 : decode cX4_keepLast 41 = .ok (.iload_n 2, 1) := by decide +kernel
theorem dX4_keepLast_42 : decode cX4_keepLast 42 = .ok (.iaload, 1) := by decide +kernel
theorem dX4_keepLast_43 : decode cX4_keepLast 43 = .ok (.goto 14, 3) := by decide +kernel
theorem dX4_keepLast_46 : decode cX4_keepLast 46 = .ok (.aload_n 0, 1) := by decide +kernel
theorem dX4_keepLast_47 : decode cX4_keepLast 47 = .ok (.getfield 18, 3) := by decide +kernel
theorem dX4_keepLast_50 : decode cX4_keepLast 50 = .ok (.iload_n 3, 1) := by decide +kernel
theorem dX4_keepLast_51 : decode cX4_keepLast 51 = .ok (.bipush 64, 2) := by decide +kernel
theorem dX4_keepLast_53 : decode cX4_keepLast 53 = .ok (.imul, 1) := by decide +kernel
theorem dX4_keepLast_54 : decode cX4_keepLast 54 = .ok (.iload_n 1, 1) := by decide +kernel
theorem dX4_keepLast_55 : decode cX4_keepLast 55 = .ok (.iadd, 1) := by decide +kernel
theorem dX4_keepLast_56 : decode cX4_keepLast 56 = .ok (.iaload, 1) := by decide +kernel
theorem dX4_keepLast_57 : decode cX4_keepLast 57 = .ok (.iastore, 1) := by decide +kernel
theorem dX4_keepLast_58 : decode cX4_keepLast 58 = .ok (.iinc 2 1, 3) := by decide +kernel
theorem dX4_keepLast_61 : decode cX4_keepLast 61 = .ok (.goto (-49), 3) := by decide +kernel
theorem dX4_keepLast_64 : decode cX4_keepLast 64 = .ok (.return_, 1) := by decide +kernel
theorem dX5_init_0 : decode cX5_init 0 = .ok (.aload_n 0, 1) := by decide +kernel
theorem dX5_init_1 : decode cX5_init 1 = .ok (.invokespecial 3, 3) := by decide +kernel
theorem dX5_init_4 : decode cX5_init 4 = .ok (.aload_n 0, 1) := by decide +kernel
theorem dX5_init_5 : decode cX5_init 5 = .ok (.sipush 577, 3) := by decide +kernel
theorem dX5_init_8 : decode cX5_init 8 = .ok (.newarray .int, 2) := by decide +kernel
theorem dX5_init_10 : decode cX5_init 10 = .ok (.putfield 9, 3) := by decide +kernel
theorem dX5_init_13 : decode cX5_init 13 = .ok (.aload_n 0, 1) := by decide +kernel
theorem dX5_init_14 : decode cX5_init 14 = .ok (.sipush 577, 3) := by decide +kernel
theorem dX5_init_17 : decode cX5_init 17 = .ok (.newarray .int, 2) := by decide +kernel
theorem dX5_init_19 : decode cX5_init 19 = .ok (.putfield 15, 3) := by decide +kernel
theorem dX5_init_22 : decode cX5_init 22 = .ok (.aload_n 0, 1) := by decide +kernel
theorem dX5_init_23 : decode cX5_init 23 = .ok (.sipush 577, 3) := by decide +kernel
theorem dX5_init_26 : decode cX5_init 26 = .ok (.newarray .int, 2) := by decide +kernel
theorem dX5_init_28 : decode cX5_init 28 = .ok (.putfield 18, 3) := by decide +kernel
theorem dX5_init_31 : decode cX5_init 31 = .ok (.aload_n 0, 1) := by decide +kernel
theorem dX5_init_32 : decode cX5_init 32 = .ok (.aload_n 1, 1) := by decide +kernel
theorem dX5_init_33 : decode cX5_init 33 = .ok (.putfield 21, 3) := by decide +kernel
theorem dX5_init_36 : decode cX5_init 36 = .ok (.return_, 1) := by decide +kernel
set_option maxRecDepth 20000 in
theorem ggX5_cut_X5_skipBlanks : GoodIn wsX5_cut wsX5_skipBlanks := goodIn_r _ [10, 2, 1, 11, 12, 13, 9, 14, 15, 47, 48, 49, 50, 51, 52] (by decide +kernel) (by decide +kernel)
set_option maxRecDepth 20000 in
theorem gX5_cut_X5_skipBlanks : GoodIn wsX5_cut (wsV RX5 32 RX5 yX5_skipBlanks wsX5_skipBlanks) := goodIn_app (goodIn_of _ (by decide +kernel)) ggX5_cut_X5_skipBlanks
set_option maxRecDepth 20000 in
theorem ggX5_cut_X5_cutOne : GoodIn wsX5_cut wsX5_cutOne := goodIn_r _ [19, 2, 4, 11, 12, 13, 9, 14, 1, 15, 20, 21, 22, 23, 24, 25, 26, 27, 28, 29, 30, 31, 32, 33, 34, 35, 36, 37, 38, 39, 40, 41, 42, 43, 44, 45, 46, 47, 48, 49, 50, 51, 52] (by decide +kernel) (by decide +kernel)
set_option maxRecDepth 20000 in
theorem gX5_cut_X5_cutOne : GoodIn wsX5_cut (wsV RX5 35 RX5 yX5_cutOne wsX5_cutOne) := goodIn_app (goodIn_of _ (by decide +kernel)) ggX5_cut_X5_cutOne
theorem dX5_cut_0 : decode cX5_cut 0 = .ok (.aload_n 0, 1) := by decide +kernel
theorem dX5_cut_1 : decode cX5_cut 1 = .ok (.iload_n 1, 1) := by decide +kernel
theorem dX5_cut_2 : decode cX5_cut 2 = .ok (.putfield 25, 3) := by decide +kernel
theorem dX5_cut_5 : decode cX5_cut 5 = .ok (.aload_n 0, 1) := by decide +kernel
theorem dX5_cut_6 : decode cX5_cut 6 = .ok (.iconst 0, 1) := by decide +kernel
theorem dX5_cut_7 : decode cX5_cut 7 = .ok (.putfield 29, 3) := by decide +kernel
theorem dX5_cut_10 : decode cX5_cut 10 = .ok (.iconst 0, 1) := by decide +kernel
theorem dX5_cut_11 : decode cX5_cut 11 = .ok (.istore_n 2, 1) := by decide +kernel
theorem dX5_cut_12 : decode cX5_cut 12 = .ok (.iload_n 2, 1) := by decide +kernel
theorem dX5_cut_13 : decode cX5_cut 13 = .ok (.sipush 577, 3) := by decide +kernel
theorem dX5_cut_16 : decode cX5_cut 16 = .ok (.if_icmp .ge 63, 3) := by decide +kernel
theorem dX5_cut_19 : decode cX5_cut 19 = .ok (.aload_n 0, 1) := by decide +kernel
theorem dX5_cut_20 : decode cX5_cut 20 = .ok (.invokevirtual 32, 3) := by decide +kernel
theorem dX5_cut_23 : decode cX5_cut 23 = .ok (.aload_n 0, 1) := by decide +kernel
theorem dX5_cut_24 : decode cX5_cut 24 = .ok (.getfield 15, 3) := by decide +kernel
theorem dX5_cut_27 : decode cX5_cut 27 = .ok (.iload_n 2, 1) := by decide +kernel
theorem dX5_cut_28 : decode cX5_cut 28 = .ok (.aload_n 0, 1) := by decide +kernel
theorem dX5_cut_29 : decode cX5_cut 29 = .ok (.getfield 29, 3) := by decide +kernel
theorem dX5_cut_32 : decode cX5_cut 32 = .ok (.iastore, 1) := by decide +kernel
theorem dX5_cut_33 : decode cX5_cut 33 = .ok (.aload_n 0, 1) := by decide +kernel
theorem dX5_cut_34 : decode cX5_cut 34 = .ok (.getfield 18, 3) := by decide +kernel
theorem dX5_cut_37 : decode cX5_cut 37 = .ok (.iload_n 2, 1) := by decide +kernel
theorem dX5_cut_38 : decode cX5_cut 38 = .ok (.iconst 0, 1) := by decide +kernel
theorem dX5_cut_39 : decode cX5_cut 39 = .ok (.iastore, 1) := by decide +kernel
theorem dX5_cut_40 : decode cX5_cut 40 = .ok (.aload_n 0, 1) := by decide +kernel
theorem dX5_cut_41 : decode cX5_cut 41 = .ok (.getfield 9, 3) := by decide +kernel
theorem dX5_cut_44 : decode cX5_cut 44 = .ok (.iload_n 2, 1) := by decide +kernel
theorem dX5_cut_45 : decode cX5_cut 45 = .ok (.aload_n 0, 1) := by decide +kernel
theorem dX5_cut_46 : decode cX5_cut 46 = .ok (.iload_n 2, 1) := by decide +kernel
theorem dX5_cut_47 : decode cX5_cut 47 = .ok (.invokevirtual 35, 3) := by decide +kernel
theorem dX5_cut_50 : decode cX5_cut 50 = .ok (.iastore, 1) := by decide +kernel
theorem dX5_cut_51 : decode cX5_cut 51 = .ok (.aload_n 0, 1) := by decide +kernel
theorem dX5_cut_52 : decode cX5_cut 52 = .ok (.getfield 9, 3) := by decide +kernel
theorem dX5_cut_55 : decode cX5_cut 55 = .ok (.iload_n 2, 1) := by decide +kernel
theorem dX5_cut_56 : decode cX5_cut 56 = .ok (.iaload, 1) := by decide +kernel
theorem dX5_cut_57 : decode cX5_cut 57 = .ok (.iconst (-1), 1) := by decide +kernel
theorem dX5_cut_58 : decode cX5_cut 58 = .ok (.if_icmp .eq 14, 3) := by decide +kernel
theorem dX5_cut_61 : decode cX5_cut 61 = .ok (.aload_n 0, 1) := by decide +kernel
theorem dX5_cut_62 : decode cX5_cut 62 = .ok (.getfield 9, 3) := by decide +kernel
theorem dX5_cut_65 : decode cX5_cut 65 = .ok (.iload_n 2, 1) := by decide +kernel
theorem dX5_cut_66 : decode cX5_cut 66 = .ok (.iaload, 1) := by decide +kernel
theorem dX5_cut_67 : decode cX5_cut 67 = .ok (.bipush (-2), 2) := by decide +kernel
theorem dX5_cut_69 : decode cX5_cut 69 = .ok (.if_icmp .ne 4, 3) := by decide +kernel
theorem dX5_cut_72 : decode cX5_cut 72 = .ok (.return_, 1) := by decide +kernel
theorem dX5_cut_73 : decode cX5_cut 73 = .ok (.iinc 2 1, 3) := by decide +kernel
theorem dX5_cut_76 : decode cX5_cut 76 = .ok (.goto (-64), 3) := by decide +kernel
theorem dX5_cut_79 : decode cX5_cut 79 = .ok (.return_, 1) := by decide +kernel
set_option maxRecDepth 20000 in
theorem ggX5_skipBlanks_X5_byteAt : GoodIn wsX5_skipBlanks wsX5_byteAt := goodIn_r _ [7, 2, 8, 9, 10, 11, 12, 13, 14] (by decide +kernel) (by decide +kernel)
set_option maxRecDepth 20000 in
theorem gX5_skipBlanks_X5_byteAt : GoodIn wsX5_skipBlanks (wsV RX5 39 RX5 yX5_byteAt wsX5_byteAt) := goodIn_app (goodIn_of _ (by decide +kernel)) ggX5_skipBlanks_X5_byteAt
theorem dX5_skipBlanks_0 : decode cX5_skipBlanks 0 = .ok (.iconst 0, 1) := by decide +kernel
theorem dX5_skipBlanks_1 : decode cX5_skipBlanks 1 = .ok (.istore_n 1, 1) := by decide +kernel
theorem dX5_skipBlanks_2 : decode cX5_skipBlanks 2 = .ok (.aload_n 0, 1) := by decide +kernel
theorem dX5_skipBlanks_3 : decode cX5_skipBlanks 3 = .ok (.getfield 29, 3) := by decide +kernel
theorem dX5_skipBlanks_6 : decode cX5_skipBlanks 6 = .ok (.aload_n 0, 1) := by decide +kernel
theorem dX5_skipBlanks_7 : decode cX5_skipBlanks 7 = .ok (.getfield 25, 3) := by decide +kernel
theorem dX5_skipBlanks_10 : decode cX5_skipBlanks 10 = .ok (.if_icmp .ge 70, 3) := by decide +kernel
theorem dX5_skipBlanks_13 : decode cX5_skipBlanks 13 = .ok (.aload_n 0, 1) := by decide +kernel
theorem dX5_skipBlanks_14 : decode cX5_skipBlanks 14 = .ok (.aload_n 0, 1) := by decide +kernel
theorem dX5_skipBlanks_15 : decode cX5_skipBlanks 15 = .ok (.getfield 29, 3) := by decide +kernel
theorem dX5_skipBlanks_18 : decode cX5_skipBlanks 18 = .ok (.invokevirtual 39, 3) := by decide +kernel
theorem dX5_skipBlanks_21 : decode cX5_skipBlanks 21 = .ok (.istore_n 2, 1) := by decide +kernel
theorem dX5_skipBlanks_22 : decode cX5_skipBlanks 22 = .ok (.iload_n 2, 1) := by decide +kernel
theorem dX5_skipBlanks_23 : decode cX5_skipBlanks 23 = .ok (.bipush 59, 2) := by decide +kernel
theorem dX5_skipBlanks_25 : decode cX5_skipBlanks 25 = .ok (.if_icmp .ne 8, 3) := by decide +kernel
theorem dX5_skipBlanks_28 : decode cX5_skipBlanks 28 = .ok (.iconst 1, 1) := by decide +kernel
theorem dX5_skipBlanks_29 : decode cX5_skipBlanks 29 = .ok (.istore_n 1, 1) := by decide +kernel
theorem dX5_skipBlanks_30 : decode cX5_skipBlanks 30 = .ok (.goto 37, 3) := by decide +kernel
theorem dX5_skipBlanks_33 : decode cX5_skipBlanks 33 = .ok (.iload_n 2, 1) := by decide +kernel
theorem dX5_skipBlanks_34 : decode cX5_skipBlanks 34 = .ok (.bipush 10, 2) := by decide +kernel
theorem dX5_skipBlanks_36 : decode cX5_skipBlanks 36 = .ok (.if_icmp .ne 8, 3) := by decide +kernel
theorem dX5_skipBlanks_39 : decode cX5_skipBlanks 39 = .ok (.iconst 0, 1) := by decide +kernel
theorem dX5_skipBlanks_40 : decode cX5_skipBlanks 40 = .ok (.istore_n 1, 1) := by decide +kernel
theorem dX5_skipBlanks_41 : decode cX5_skipBlanks 41 = .ok (.goto 26, 3) := by decide +kernel
theorem dX5_skipBlanks_44 : decode cX5_skipBlanks 44 = .ok (.iload_n 1, 1) := by decide +kernel
theorem dX5_skipBlanks_45 : decode cX5_skipBlanks 45 = .ok (.ifCond .ne 22, 3) := by decide +kernel
theorem dX5_skipBlanks_48 : decode cX5_skipBlanks 48 = .ok (.iload_n 2, 1) := by decide +kernel
theorem dX5_skipBlanks_49 : decode cX5_skipBlanks 49 = .ok (.bipush 9, 2) := by decide +kernel
theorem dX5_skipBlanks_51 : decode cX5_skipBlanks 51 = .ok (.if_icmp .eq 16, 3) := by decide +kernel
theorem dX5_skipBlanks_54 : decode cX5_skipBlanks 54 = .ok (.iload_n 2, 1) := by decide +kernel
theorem dX5_skipBlanks_55 : decode cX5_skipBlanks 55 = .ok (.bipush 13, 2) := by decide +kernel
theorem dX5_skipBlanks_57 : decode cX5_skipBlanks 57 = .ok (.if_icmp .eq 10, 3) := by decide +kernel
theorem dX5_skipBlanks_60 : decode cX5_skipBlanks 60 = .ok (.iload_n 2, 1) := by decide +kernel
theorem dX5_skipBlanks_61 : decode cX5_skipBlanks 61 = .ok (.bipush 32, 2) := by decide +kernel
theorem dX5_skipBlanks_63 : decode cX5_skipBlanks 63 = .ok (.if_icmp .eq 4, 3) := by decide +kernel
theorem dX5_skipBlanks_66 : decode cX5_skipBlanks 66 = .ok (.return_, 1) := by decide +kernel
theorem dX5_skipBlanks_67 : decode cX5_skipBlanks 67 = .ok (.aload_n 0, 1) := by decide +kernel
theorem dX5_skipBlanks_68 : decode cX5_skipBlanks 68 = .ok (.dup, 1) := by decide +kernel
theorem dX5_skipBlanks_69 : decode cX5_skipBlanks 69 = .ok (.getfield 29, 3) := by decide +kernel
theorem dX5_skipBlanks_72 : decode cX5_skipBlanks 72 = .ok (.iconst 1, 1) := by decide +kernel
theorem dX5_skipBlanks_73 : decode cX5_skipBlanks 73 = .ok (.iadd, 1) := by decide +kernel
theorem dX5_skipBlanks_74 : decode cX5_skipBlanks 74 = .ok (.putfield 29, 3) := by decide +kernel
theorem dX5_skipBlanks_77 : decode cX5_skipBlanks 77 = .ok (.goto (-75), 3) := by decide +kernel
theorem dX5_skipBlanks_80 : decode cX5_skipBlanks 80 = .ok (.return_, 1) := by decide +kernel
set_option maxRecDepth 20000 in
theorem ggX5_cutOne_X5_byteAt : GoodIn wsX5_cutOne wsX5_byteAt := goodIn_r _ [7, 8, 9, 37, 38, 39, 40, 41, 42] (by decide +kernel) (by decide +kernel)
set_option maxRecDepth 20000 in
theorem gX5_cutOne_X5_byteAt : GoodIn wsX5_cutOne (wsV RX5 39 RX5 yX5_byteAt wsX5_byteAt) := goodIn_app (goodIn_of _ (by decide +kernel)) ggX5_cutOne_X5_byteAt
set_option maxRecDepth 20000 in
theorem ggX5_cutOne_X5_isDigit : GoodIn wsX5_cutOne wsX5_isDigit := goodIn_r _ [12] (by decide +kernel) (by decide +kernel)
set_option maxRecDepth 20000 in
theorem gX5_cutOne_X5_isDigit : GoodIn wsX5_cutOne (va_wsS RX5 42 yX5_isDigit wsX5_isDigit) := goodIn_app (goodIn_of _ (by decide +kernel)) ggX5_cutOne_X5_isDigit
set_option maxRecDepth 20000 in
theorem ggX5_cutOne_X5_cutNumber : GoodIn wsX5_cutOne wsX5_cutNumber := goodIn_r _ [16, 1, 8, 17, 18, 19, 20, 2, 3, 4, 5, 6, 7, 9, 10, 11, 12, 37, 38, 39, 40, 41, 42] (by decide +kernel) (by decide +kernel)
set_option maxRecDepth 20000 in
theorem gX5_cutOne_X5_cutNumber : GoodIn wsX5_cutOne (wsV RX5 46 RX5 yX5_cutNumber wsX5_cutNumber) := goodIn_app (goodIn_of _ (by decide +kernel)) ggX5_cutOne_X5_cutNumber
set_option maxRecDepth 20000 in
theorem ggX5_cutOne_X5_cutRegister : GoodIn wsX5_cutOne wsX5_cutRegister := goodIn_r _ [24, 1, 2, 3, 4, 5, 6, 7, 8, 9, 10, 11, 12, 37, 38, 39, 40, 41, 42] (by decide +kernel) (by decide +kernel)
set_option maxRecDepth 20000 in
theorem gX5_cutOne_X5_cutRegister : GoodIn wsX5_cutOne (wsV RX5 49 RX5 yX5_cutRegister wsX5_cutRegister) := goodIn_app (goodIn_of _ (by decide +kernel)) ggX5_cutOne_X5_cutRegister
set_option maxRecDepth 20000 in
theorem ggX5_cutOne_X5_pass : GoodIn wsX5_cutOne wsX5_pass := goodIn_r _ [28, 1, 37, 38, 39, 40, 41, 42] (by decide +kernel) (by decide +kernel)
set_option maxRecDepth 20000 in
theorem gX5_cutOne_X5_pass : GoodIn wsX5_cutOne (wsV RX5 52 RX5 yX5_pass wsX5_pass) := goodIn_app (goodIn_of _ (by decide +kernel)) ggX5_cutOne_X5_pass
set_option maxRecDepth 20000 in
theorem ggX5_cutOne_X5_cutMark : GoodIn wsX5_cutOne wsX5_cutMark := goodIn_r _ [32, 1, 3, 4, 5, 6, 7, 8, 9, 25, 26, 27, 28, 33, 34, 35, 36, 37, 38, 39, 40, 41, 42] (by decide +kernel) (by decide +kernel)
set_option maxRecDepth 20000 in
theorem gX5_cutOne_X5_cutMark : GoodIn wsX5_cutOne (wsV RX5 56 RX5 yX5_cutMark wsX5_cutMark) := goodIn_app (goodIn_of _ (by decide +kernel)) ggX5_cutOne_X5_cutMark
theorem dX5_cutOne_0 : decode cX5_cutOne 0 = .ok (.aload_n 0, 1) := by decide +kernel
theorem dX5_cutOne_1 : decode cX5_cutOne 1 = .ok (.aload_n 0, 1) := by decide +kernel
theorem dX5_cutOne_2 : decode cX5_cutOne 2 = .ok (.getfield 29, 3) := by decide +kernel
theorem dX5_cutOne_5 : decode cX5_cutOne 5 = .ok (.invokevirtual 39, 3) := by decide +kernel
theorem dX5_cutOne_8 : decode cX5_cutOne 8 = .ok (.istore_n 2, 1) := by decide +kernel
theorem dX5_cutOne_9 : decode cX5_cutOne 9 = .ok (.iload_n 2, 1) := by decide +kernel
theorem dX5_cutOne_10 : decode cX5_cutOne 10 = .ok (.ifCond .ge 5, 3) := by decide +kernel
theorem dX5_cutOne_13 : decode cX5_cutOne 13 = .ok (.iconst (-1), 1) := by decide +kernel
theorem dX5_cutOne_14 : decode cX5_cutOne 14 = .ok (.ireturn, 1) := by decide +kernel
theorem dX5_cutOne_15 : decode cX5_cutOne 15 = .ok (.iload_n 2, 1) := by decide +kernel
theorem dX5_cutOne_16 : decode cX5_cutOne 16 = .ok (.invokestatic 42, 3) := by decide +kernel
theorem dX5_cutOne_19 : decode cX5_cutOne 19 = .ok (.ifCond .eq 9, 3) := by decide +kernel
theorem dX5_cutOne_22 : decode cX5_cutOne 22 = .ok (.aload_n 0, 1) := by decide +kernel
theorem dX5_cutOne_23 : decode cX5_cutOne 23 = .ok (.iload_n 1, 1) := by decide +kernel
theorem dX5_cutOne_24 : decode cX5_cutOne 24 = .ok (.invokevirtual 46, 3) := by decide +kernel
theorem dX5_cutOne_27 : decode cX5_cutOne 27 = .ok (.ireturn, 1) := by decide +kernel
theorem dX5_cutOne_28 : decode cX5_cutOne 28 = .ok (.iload_n 2, 1) := by decide +kernel
theorem dX5_cutOne_29 : decode cX5_cutOne 29 = .ok (.bipush 114, 2) := by decide +kernel
theorem dX5_cutOne_31 : decode cX5_cutOne 31 = .ok (.if_icmp .ne 9, 3) := by decide +kernel
theorem dX5_cutOne_34 : decode cX5_cutOne 34 = .ok (.aload_n 0, 1) := by decide +kernel
theorem dX5_cutOne_35 : decode cX5_cutOne 35 = .ok (.iload_n 1, 1) := by decide +kernel
theorem dX5_cutOne_36 : decode cX5_cutOne 36 = .ok (.invokevirtual 49, 3) := by decide +kernel
theorem dX5_cutOne_39 : decode cX5_cutOne 39 = .ok (.ireturn, 1) := by decide +kernel
theorem dX5_cutOne_40 : decode cX5_cutOne 40 = .ok (.iload_n 2, 1) := by decide +kernel
theorem dX5_cutOne_41 : decode cX5_cutOne 41 = .ok (.bipush 97, 2) := by decide +kernel
theorem dX5_cutOne_43 : decode cX5_cutOne 43 = .ok (.if_icmp .lt 27, 3) := by decide +kernel
theorem dX5_cutOne_46 : decode cX5_cutOne 46 = .ok (.iload_n 2, 1) := by decide +kernel
theorem dX5_cutOne_47 : decode cX5_cutOne 47 = .ok (.bipush 100, 2) := by decide +kernel
theorem dX5_cutOne_49 : decode cX5_cutOne 49 = .ok (.if_icmp .gt 21, 3) := by decide +kernel
theorem dX5_cutOne_52 : decode cX5_cutOne 52 = .ok (.aload_n 0, 1) := by decide +kernel
theorem dX5_cutOne_53 : decode cX5_cutOne 53 = .ok (.getfield 18, 3) := by decide +kernel
theorem dX5_cutOne_56 : decode cX5_cutOne 56 = .ok (.iload_n 1, 1) := by decide +kernel
theorem dX5_cutOne_57 : decode cX5_cutOne 57 = .ok (.iload_n 2, 1) := by decide +kernel
theorem dX5_cutOne_58 : decode cX5_cutOne 58 = .ok (.bipush 97, 2) := by decide +kernel
theorem dX5_cutOne_60 : decode cX5_cutOne 60 = .ok (.isub, 1) := by decide +kernel
theorem dX5_cutOne_61 : decode cX5_cutOne 61 = .ok (.iastore, 1) := by decide +kernel
theorem dX5_cutOne_62 : decode cX5_cutOne 62 = .ok (.aload_n 0, 1) := by decide +kernel
theorem dX5_cutOne_63 : decode cX5_cutOne 63 = .ok (.iconst 1, 1) := by decide +kernel
theorem dX5_cutOne_64 : decode cX5_cutOne 64 = .ok (.bipush 97, 2) := by decide +kernel
theorem dX5_cutOne_66 : decode cX5_cutOne 66 = .ok (.invokevirtual 52, 3) := by decide +kernel
theorem dX5_cutOne_69 : decode cX5_cutOne 69 = .ok (.ireturn, 1) := by decide +kernel
theorem dX5_cutOne_70 : decode cX5_cutOne 70 = .ok (.aload_n 0, 1) := by decide +kernel
theorem dX5_cutOne_71 : decode cX5_cutOne 71 = .ok (.iload_n 2, 1) := by decide +kernel
theorem dX5_cutOne_72 : decode cX5_cutOne 72 = .ok (.invokevirtual 56, 3) := by decide +kernel
theorem dX5_cutOne_75 : decode cX5_cutOne 75 = .ok (.ireturn, 1) := by decide +kernel
set_option maxRecDepth 20000 in
theorem ggX5_cutNumber_X5_byteAt : GoodIn wsX5_cutNumber wsX5_byteAt := goodIn_r _ [12, 2, 13, 17, 18, 19, 20, 21, 22] (by decide +kernel) (by decide +kernel)
set_option maxRecDepth 20000 in
theorem gX5_cutNumber_X5_byteAt : GoodIn wsX5_cutNumber (wsV RX5 39 RX5 yX5_byteAt wsX5_byteAt) := goodIn_app (goodIn_of _ (by decide +kernel)) ggX5_cutNumber_X5_byteAt
set_option maxRecDepth 20000 in
theorem ggX5_cutNumber_X5_isDigit : GoodIn wsX5_cutNumber wsX5_isDigit := goodIn_r _ [16] (by decide +kernel) (by decide +kernel)
set_option maxRecDepth 20000 in
theorem gX5_cutNumber_X5_isDigit : GoodIn wsX5_cutNumber (va_wsS RX5 42 yX5_isDigit wsX5_isDigit) := goodIn_app (goodIn_of _ (by decide +kernel)) ggX5_cutNumber_X5_isDigit
theorem dX5_cutNumber_0 : decode cX5_cutNumber 0 = .ok (.iconst 0, 1) := by decide +kernel
theorem dX5_cutNumber_1 : decode cX5_cutNumber 1 = .ok (.istore_n 2, 1) := by decide +kernel
theorem dX5_cutNumber_2 : decode cX5_cutNumber 2 = .ok (.aload_n 0, 1) := by decide +kernel
theorem dX5_cutNumber_3 : decode cX5_cutNumber 3 = .ok (.getfield 29, 3) := by decide +kernel
theorem dX5_cutNumber_6 : decode cX5_cutNumber 6 = .ok (.aload_n 0, 1) := by decide +kernel
theorem dX5_cutNumber_7 : decode cX5_cutNumber 7 = .ok (.getfield 25, 3) := by decide +kernel
theorem dX5_cutNumber_10 : decode cX5_cutNumber 10 = .ok (.if_icmp .ge 53, 3) := by decide +kernel
theorem dX5_cutNumber_13 : decode cX5_cutNumber 13 = .ok (.aload_n 0, 1) := by decide +kernel
theorem dX5_cutNumber_14 : decode cX5_cutNumber 14 = .ok (.aload_n 0, 1) := by decide +kernel
theorem dX5_cutNumber_15 : decode cX5_cutNumber 15 = .ok (.getfield 29, 3) := by decide +kernel
theorem dX5_cutNumber_18 : decode cX5_cutNumber 18 = .ok (.invokevirtual 39, 3) := by decide +kernel
theorem dX5_cutNumber_21 : decode cX5_cutNumber 21 = .ok (.invokestatic 42, 3) := by decide +kernel
theorem dX5_cutNumber_24 : decode cX5_cutNumber 24 = .ok (.ifCond .eq 39, 3) := by decide +kernel
theorem dX5_cutNumber_27 : decode cX5_cutNumber 27 = .ok (.iload_n 2, 1) := by decide +kernel
theorem dX5_cutNumber_28 : decode cX5_cutNumber 28 = .ok (.bipush 10, 2) := by decide +kernel
theorem dX5_cutNumber_30 : decode cX5_cutNumber 30 = .ok (.imul, 1) := by decide +kernel
theorem dX5_cutNumber_31 : decode cX5_cutNumber 31 = .ok (.aload_n 0, 1) := by decide +kernel
theorem dX5_cutNumber_32 : decode cX5_cutNumber 32 = .ok (.aload_n 0, 1) := by decide +kernel
theorem dX5_cutNumber_33 : decode cX5_cutNumber 33 = .ok (.getfield 29, 3) := by decide +kernel
theorem dX5_cutNumber_36 : decode cX5_cutNumber 36 = .ok (.invokevirtual 39, 3) := by decide +kernel
theorem dX5_cutNumber_39 : decode cX5_cutNumber 39 = .ok (.iadd, 1) := by decide +kernel
theorem dX5_cutNumber_40 : decode cX5_cutNumber 40 = .ok (.bipush 48, 2) := by decide +kernel
theorem dX5_cutNumber_42 : decode cX5_cutNumber 42 = .ok (.isub, 1) := by decide +kernel
theorem dX5_cutNumber_43 : decode cX5_cutNumber 43 = .ok (.sipush 1001, 3) := by decide +kernel
theorem dX5_cutNumber_46 : decode cX5_cutNumber 46 = .ok (.invokestatic 59, 3) := by decide +kernel
theorem dX5_cutNumber_49 : decode cX5_cutNumber 49 = .ok (.istore_n 2, 1) := by decide +kernel
theorem dX5_cutNumber_50 : decode cX5_cutNumber 50 = .ok (.aload_n 0, 1) := by decide +kernel
theorem dX5_cutNumber_51 : decode cX5_cutNumber 51 = .ok (.dup, 1) := by decide +kernel
theorem dX5_cutNumber_52 : decode cX5_cutNumber 52 = .ok (.getfield 29, 3) := by decide +kernel
theorem dX5_cutNumber_55 : decode cX5_cutNumber 55 = .ok (.iconst 1, 1) := by decide +kernel
theorem dX5_cutNumber_56 : decode cX5_cutNumber 56 = .ok (.iadd, 1) := by decide +kernel
theorem dX5_cutNumber_57 : decode cX5_cutNumber 57 = .ok (.putfield 29, 3) := by decide +kernel
theorem dX5_cutNumber_60 : decode cX5_cutNumber 60 = .ok (.goto (-58), 3) := by decide +kernel
theorem dX5_cutNumber_63 : decode cX5_cutNumber 63 = .ok (.aload_n 0, 1) := by decide +kernel
theorem dX5_cutNumber_64 : decode cX5_cutNumber 64 = .ok (.getfield 18, 3) := by decide +kernel
theorem dX5_cutNumber_67 : decode cX5_cutNumber 67 = .ok (.iload_n 1, 1) := by decide +kernel
theorem dX5_cutNumber_68 : decode cX5_cutNumber 68 = .ok (.iload_n 2, 1) := by decide +kernel
theorem dX5_cutNumber_69 : decode cX5_cutNumber 69 = .ok (.iastore, 1) := by decide +kernel
theorem dX5_cutNumber_70 : decode cX5_cutNumber 70 = .ok (.iload_n 2, 1) := by decide +kernel
theorem dX5_cutNumber_71 : decode cX5_cutNumber 71 = .ok (.sipush 1000, 3) := by decide +kernel
theorem dX5_cutNumber_74 : decode cX5_cutNumber 74 = .ok (.if_icmp .le 8, 3) := by decide +kernel
theorem dX5_cutNumber_77 : decode cX5_cutNumber 77 = .ok (.bipush (-2), 2) := by decide +kernel
theorem dX5_cutNumber_79 : decode cX5_cutNumber 79 = .ok (.goto 5, 3) := by decide +kernel
theorem dX5_cutNumber_82 : decode cX5_cutNumber 82 = .ok (.bipush 48, 2) := by decide +kernel
theorem dX5_cutNumber_84 : decode cX5_cutNumber 84 = .ok (.ireturn, 1) := by decide +kernel
set_option maxRecDepth 20000 in
theorem ggX5_cutRegister_X5_byteAt : GoodIn wsX5_cutRegister wsX5_byteAt := goodIn_r _ [7, 8, 9, 13, 14, 15, 16, 17, 18] (by decide +kernel) (by decide +kernel)
set_option maxRecDepth 20000 in
theorem gX5_cutRegister_X5_byteAt : GoodIn wsX5_cutRegister (wsV RX5 39 RX5 yX5_byteAt wsX5_byteAt) := goodIn_app (goodIn_of _ (by decide +kernel)) ggX5_cutRegister_X5_byteAt
set_option maxRecDepth 20000 in
theorem ggX5_cutRegister_X5_isDigit : GoodIn wsX5_cutRegister wsX5_isDigit := goodIn_r _ [12] (by decide +kernel) (by decide +kernel)
set_option maxRecDepth 20000 in
theorem gX5_cutRegister_X5_isDigit : GoodIn wsX5_cutRegister (va_wsS RX5 42 yX5_isDigit wsX5_isDigit) := goodIn_app (goodIn_of _ (by decide +kernel)) ggX5_cutRegister_X5_isDigit
theorem dX5_cutRegister_0 : decode cX5_cutRegister 0 = .ok (.aload_n 0, 1) := by decide +kernel
theorem dX5_cutRegister_1 : decode cX5_cutRegister 1 = .ok (.dup, 1) := by decide +kernel
theorem dX5_cutRegister_2 : decode cX5_cutRegister 2 = .ok (.getfield 29, 3) := by decide +kernel
theorem dX5_cutRegister_5 : decode cX5_cutRegister 5 = .ok (.iconst 1, 1) := by decide +kernel
theorem dX5_cutRegister_6 : decode cX5_cutRegister 6 = .ok (.iadd, 1) := by decide +kernel
theorem dX5_cutRegister_7 : decode cX5_cutRegister 7 = .ok (.putfield 29, 3) := by decide +kernel
theorem dX5_cutRegister_10 : decode cX5_cutRegister 10 = .ok (.iconst 0, 1) := by decide +kernel
theorem dX5_cutRegister_11 : decode cX5_cutRegister 11 = .ok (.istore_n 2, 1) := by decide +kernel
theorem dX5_cutRegister_12 : decode cX5_cutRegister 12 = .ok (.iconst 0, 1) := by decide +kernel
theorem dX5_cutRegister_13 : decode cX5_cutRegister 13 = .ok (.istore_n 3, 1) := by decide +kernel
theorem dX5_cutRegister_14 : decode cX5_cutRegister 14 = .ok (.iload_n 2, 1) := by decide +kernel
theorem dX5_cutRegister_15 : decode cX5_cutRegister 15 = .ok (.iconst 2, 1) := by decide +kernel
theorem dX5_cutRegister_16 : decode cX5_cutRegister 16 = .ok (.if_icmp .ge 50, 3) := by decide +kernel
theorem dX5_cutRegister_19 : decode cX5_cutRegister 19 = .ok (.aload_n 0, 1) := by decide +kernel
theorem dX5_cutRegister_20 : decode cX5_cutRegister 20 = .ok (.aload_n 0, 1) := by decide +kernel
theorem dX5_cutRegister_21 : decode cX5_cutRegister 21 = .ok (.getfield 29, 3) := by decide +kernel
theorem dX5_cutRegister_24 : decode cX5_cutRegister 24 = .ok (.invokevirtual 39, 3) := by decide +kernel
theorem dX5_cutRegister_27 : decode cX5_cutRegister 27 = .ok (.invokestatic 42, 3) := by decide +kernel
theorem dX5_cutRegister_30 : decode cX5_cutRegister 30 = .ok (.ifCond .eq 36, 3) := by decide +kernel
theorem dX5_cutRegister_33 : decode cX5_cutRegister 33 = .ok (.iload_n 3, 1) := by decide +kernel
theorem dX5_cutRegister_34 : decode cX5_cutRegister 34 = .ok (.bipush 10, 2) := by decide +kernel
theorem dX5_cutRegister_36 : decode cX5_cutRegister 36 = .ok (.imul, 1) := by decide +kernel
theorem dX5_cutRegister_37 : decode cX5_cutRegister 37 = .ok (.aload_n 0, 1) := by decide +kernel
theorem dX5_cutRegister_38 : decode cX5_cutRegister 38 = .ok (.aload_n 0, 1) := by decide +kernel
theorem dX5_cutRegister_39 : decode cX5_cutRegister 39 = .ok (.getfield 29, 3) := by decide +kernel
theorem dX5_cutRegister_42 : decode cX5_cutRegister 42 = .ok (.invokevirtual 39, 3) := by decide +kernel
theorem dX5_cutRegister_45 : decode cX5_cutRegister 45 = .ok (.iadd, 1) := by decide +kernel
theorem dX5_cutRegister_46 : decode cX5_cutRegister 46 = .ok (.bipush 48, 2) := by decide +kernel
theorem dX5_cutRegister_48 : decode cX5_cutRegister 48 = .ok (.isub, 1) := by decide +kernel
theorem dX5_cutRegister_49 : decode cX5_cutRegister 49 = .ok (.istore_n 3, 1) := by decide +kernel
theorem dX5_cutRegister_50 : decode cX5_cutRegister 50 = .ok (.iinc 2 1, 3) := by decide +kernel
theorem dX5_cutRegister_53 : decode cX5_cutRegister 53 = .ok (.aload_n 0, 1) := by decide +kernel
theorem dX5_cutRegister_54 : decode cX5_cutRegister 54 = .ok (.dup, 1) := by decide +kernel
theorem dX5_cutRegister_55 : decode cX5_cutRegister 55 = .ok (.getfield 29, 3) := by decide +kernel
theorem dX5_cutRegister_58 : decode cX5_cutRegister 58 = .ok (.iconst 1, 1) := by decide +kernel
theorem dX5_cutRegister_59 : decode cX5_cutRegister 59 = .ok (.iadd, 1) := by decide +kernel
theorem dX5_cutRegister_60 : decode cX5_cutRegister 60 = .ok (.putfield 29, 3) := by decide +kernel
theorem dX5_cutRegister_63 : decode cX5_cutRegister 63 = .ok (.goto (-49), 3) := by decide +kernel
theorem dX5_cutRegister_66 : decode cX5_cutRegister 66 = .ok (.aload_n 0, 1) := by decide +kernel
theorem dX5_cutRegister_67 : decode cX5_cutRegister 67 = .ok (.getfield 18, 3) := by decide +kernel
theorem dX5_cutRegister_70 : decode cX5_cutRegister 70 = .ok (.iload_n 1, 1) := by decide +kernel
theorem dX5_cutRegister_71 : decode cX5_cutRegister 71 = .ok (.iload_n 3, 1) := by decide +kernel
theorem dX5_cutRegister_72 : decode cX5_cutRegister 72 = .ok (.iastore, 1) := by decide +kernel
theorem dX5_cutRegister_73 : decode cX5_cutRegister 73 = .ok (.iload_n 2, 1) := by decide +kernel
theorem dX5_cutRegister_74 : decode cX5_cutRegister 74 = .ok (.ifCond .eq 9, 3) := by decide +kernel
theorem dX5_cutRegister_77 : decode cX5_cutRegister 77 = .ok (.iload_n 3, 1) := by decide +kernel
theorem dX5_cutRegister_78 : decode cX5_cutRegister 78 = .ok (.bipush 32, 2) := by decide +kernel
theorem dX5_cutRegister_80 : decode cX5_cutRegister 80 = .ok (.if_icmp .lt 8, 3) := by decide +kernel
theorem dX5_cutRegister_83 : decode cX5_cutRegister 83 = .ok (.bipush (-2), 2) := by decide +kernel
theorem dX5_cutRegister_85 : decode cX5_cutRegister 85 = .ok (.goto 5, 3) := by decide +kernel
theorem dX5_cutRegister_88 : decode cX5_cutRegister 88 = .ok (.bipush 114, 2) := by decide +kernel
theorem dX5_cutRegister_90 : decode cX5_cutRegister 90 = .ok (.ireturn, 1) := by decide +kernel
set_option maxRecDepth 20000 in
theorem ggX5_cutMark_X5_byteAt : GoodIn wsX5_cutMark wsX5_byteAt := goodIn_r _ [6, 7, 8, 17, 18, 19, 20, 21, 22] (by decide +kernel) (by decide +kernel)
set_option maxRecDepth 20000 in
theorem gX5_cutMark_X5_byteAt : GoodIn wsX5_cutMark (wsV RX5 39 RX5 yX5_byteAt wsX5_byteAt) := goodIn_app (goodIn_of _ (by decide +kernel)) ggX5_cutMark_X5_byteAt
set_option maxRecDepth 20000 in
theorem ggX5_cutMark_X5_pass : GoodIn wsX5_cutMark wsX5_pass := goodIn_r _ [12, 1, 17, 18, 19, 20, 21, 22] (by decide +kernel) (by decide +kernel)
set_option maxRecDepth 20000 in
theorem gX5_cutMark_X5_pass : GoodIn wsX5_cutMark (wsV RX5 52 RX5 yX5_pass wsX5_pass) := goodIn_app (goodIn_of _ (by decide +kernel)) ggX5_cutMark_X5_pass
set_option maxRecDepth 20000 in
theorem ggX5_cutMark_X5_cutWord : GoodIn wsX5_cutMark wsX5_cutWord := goodIn_r _ [16, 1, 2, 3, 4, 5, 6, 7, 8, 9, 10, 11, 12, 17, 18, 19, 20, 21, 22] (by decide +kernel) (by decide +kernel)
set_option maxRecDepth 20000 in
theorem gX5_cutMark_X5_cutWord : GoodIn wsX5_cutMark (wsV RX5 64 RX5 yX5_cutWord wsX5_cutWord) := goodIn_app (goodIn_of _ (by decide +kernel)) ggX5_cutMark_X5_cutWord
theorem dX5_cutMark_0 : decode cX5_cutMark 0 = .ok (.iload_n 1, 1) := by decide +kernel
theorem dX5_cutMark_1 : decode cX5_cutMark 1 = .ok (.lookupswitch 205 #[(38, 198), (40, 198), (41, 198), (42, 198), (43, 198), (45, 198), (60, 131), (61, 198), (62, 164), (91, 198), (93, 198), (94, 198), (105, 198), (109, 193), (124, 198)], 131) := by decide +kernel
theorem dX5_cutMark_132 : decode cX5_cutMark 132 = .ok (.aload_n 0, 1) := by decide +kernel
theorem dX5_cutMark_133 : decode cX5_cutMark 133 = .ok (.aload_n 0, 1) := by decide +kernel
theorem dX5_cutMark_134 : decode cX5_cutMark 134 = .ok (.getfield 29, 3) := by decide +kernel
theorem dX5_cutMark_137 : decode cX5_cutMark 137 = .ok (.iconst 1, 1) := by decide +kernel
theorem dX5_cutMark_138 : decode cX5_cutMark 138 = .ok (.iadd, 1) := by decide +kernel
theorem dX5_cutMark_139 : decode cX5_cutMark 139 = .ok (.invokevirtual 39, 3) := by decide +kernel
theorem dX5_cutMark_142 : decode cX5_cutMark 142 = .ok (.bipush 60, 2) := by decide +kernel
theorem dX5_cutMark_144 : decode cX5_cutMark 144 = .ok (.if_icmp .ne 14, 3) := by decide +kernel
theorem dX5_cutMark_147 : decode cX5_cutMark 147 = .ok (.aload_n 0, 1) := by decide +kernel
theorem dX5_cutMark_148 : decode cX5_cutMark 148 = .ok (.iconst 2, 1) := by decide +kernel
theorem dX5_cutMark_149 : decode cX5_cutMark 149 = .ok (.sipush 256, 3) := by decide +kernel
theorem dX5_cutMark_152 : decode cX5_cutMark 152 = .ok (.invokevirtual 52, 3) := by decide +kernel
theorem dX5_cutMark_155 : decode cX5_cutMark 155 = .ok (.goto 9, 3) := by decide +kernel
theorem dX5_cutMark_158 : decode cX5_cutMark 158 = .ok (.aload_n 0, 1) := by decide +kernel
theorem dX5_cutMark_159 : decode cX5_cutMark 159 = .ok (.iconst 1, 1) := by decide +kernel
theorem dX5_cutMark_160 : decode cX5_cutMark 160 = .ok (.iload_n 1, 1) := by decide +kernel
theorem dX5_cutMark_161 : decode cX5_cutMark 161 = .ok (.invokevirtual 52, 3) := by decide +kernel
theorem dX5_cutMark_164 : decode cX5_cutMark 164 = .ok (.ireturn, 1) := by decide +kernel
theorem dX5_cutMark_165 : decode cX5_cutMark 165 = .ok (.aload_n 0, 1) := by decide +kernel
theorem dX5_cutMark_166 : decode cX5_cutMark 166 = .ok (.aload_n 0, 1) := by decide +kernel
theorem dX5_cutMark_167 : decode cX5_cutMark 167 = .ok (.getfield 29, 3) := by decide +kernel
theorem dX5_cutMark_170 : decode cX5_cutMark 170 = .ok (.iconst 1, 1) := by decide +kernel
theorem dX5_cutMark_171 : decode cX5_cutMark 171 = .ok (.iadd, 1) := by decide +kernel
theorem dX5_cutMark_172 : decode cX5_cutMark 172 = .ok (.invokevirtual 39, 3) := by decide +kernel
theorem dX5_cutMark_175 : decode cX5_cutMark 175 = .ok (.bipush 62, 2) := by decide +kernel
theorem dX5_cutMark_177 : decode cX5_cutMark 177 = .ok (.if_icmp .ne 14, 3) := by decide +kernel
theorem dX5_cutMark_180 : decode cX5_cutMark 180 = .ok (.aload_n 0, 1) := by decide +kernel
theorem dX5_cutMark_181 : decode cX5_cutMark 181 = .ok (.iconst 2, 1) := by decide +kernel
theorem dX5_cutMark_182 : decode cX5_cutMark 182 = .ok (.sipush 257, 3) := by decide +kernel
theorem dX5_cutMark_185 : decode cX5_cutMark 185 = .ok (.invokevirtual 52, 3) := by decide +kernel
theorem dX5_cutMark_188 : decode cX5_cutMark 188 = .ok (.goto 5, 3) := by decide +kernel
theorem dX5_cutMark_191 : decode cX5_cutMark 191 = .ok (.bipush (-2), 2) := by decide +kernel
theorem dX5_cutMark_193 : decode cX5_cutMark 193 = .ok (.ireturn, 1) := by decide +kernel
theorem dX5_cutMark_194 : decode cX5_cutMark 194 = .ok (.aload_n 0, 1) := by decide +kernel
theorem dX5_cutMark_195 : decode cX5_cutMark 195 = .ok (.invokevirtual 64, 3) := by decide +kernel
theorem dX5_cutMark_198 : decode cX5_cutMark 198 = .ok (.ireturn, 1) := by decide +kernel
theorem dX5_cutMark_199 : decode cX5_cutMark 199 = .ok (.aload_n 0, 1) := by decide +kernel
theorem dX5_cutMark_200 : decode cX5_cutMark 200 = .ok (.iconst 1, 1) := by decide +kernel
theorem dX5_cutMark_201 : decode cX5_cutMark 201 = .ok (.iload_n 1, 1) := by decide +kernel
theorem dX5_cutMark_202 : decode cX5_cutMark 202 = .ok (.invokevirtual 52, 3) := by decide +kernel
theorem dX5_cutMark_205 : decode cX5_cutMark 205 = .ok (.ireturn, 1) := by decide +kernel
theorem dX5_cutMark_206 : decode cX5_cutMark 206 = .ok (.bipush (-2), 2) := by decide +kernel
theorem dX5_cutMark_208 : decode cX5_cutMark 208 = .ok (.ireturn, 1) := by decide +kernel
set_option maxRecDepth 20000 in
theorem ggX5_cutWord_X5_byteAt : GoodIn wsX5_cutWord wsX5_byteAt := goodIn_r _ [6, 7, 8, 13, 14, 15, 16, 17, 18] (by decide +kernel) (by decide +kernel)
set_option maxRecDepth 20000 in
theorem gX5_cutWord_X5_byteAt : GoodIn wsX5_cutWord (wsV RX5 39 RX5 yX5_byteAt wsX5_byteAt) := goodIn_app (goodIn_of _ (by decide +kernel)) ggX5_cutWord_X5_byteAt
set_option maxRecDepth 20000 in
theorem ggX5_cutWord_X5_pass : GoodIn wsX5_cutWord wsX5_pass := goodIn_r _ [12, 1, 13, 14, 15, 16, 17, 18] (by decide +kernel) (by decide +kernel)
set_option maxRecDepth 20000 in
theorem gX5_cutWord_X5_pass : GoodIn wsX5_cutWord (wsV RX5 52 RX5 yX5_pass wsX5_pass) := goodIn_app (goodIn_of _ (by decide +kernel)) ggX5_cutWord_X5_pass
theorem dX5_cutWord_0 : decode cX5_cutWord 0 = .ok (.aload_n 0, 1) := by decide +kernel
theorem dX5_cutWord_1 : decode cX5_cutWord 1 = .ok (.aload_n 0, 1) := by decide +kernel
theorem dX5_cutWord_2 : decode cX5_cutWord 2 = .ok (.getfield 29, 3) := by decide +kernel
theorem dX5_cutWord_5 : decode cX5_cutWord 5 = .ok (.iconst 1, 1) := by decide +kernel
theorem dX5_cutWord_6 : decode cX5_cutWord 6 = .ok (.iadd, 1) := by decide +kernel
theorem dX5_cutWord_7 : decode cX5_cutWord 7 = .ok (.invokevirtual 39, 3) := by decide +kernel
theorem dX5_cutWord_10 : decode cX5_cutWord 10 = .ok (.istore_n 1, 1) := by decide +kernel
theorem dX5_cutWord_11 : decode cX5_cutWord 11 = .ok (.aload_n 0, 1) := by decide +kernel
theorem dX5_cutWord_12 : decode cX5_cutWord 12 = .ok (.aload_n 0, 1) := by decide +kernel
theorem dX5_cutWord_13 : decode cX5_cutWord 13 = .ok (.getfield 29, 3) := by decide +kernel
theorem dX5_cutWord_16 : decode cX5_cutWord 16 = .ok (.iconst 2, 1) := by decide +kernel
theorem dX5_cutWord_17 : decode cX5_cutWord 17 = .ok (.iadd, 1) := by decide +kernel
theorem dX5_cutWord_18 : decode cX5_cutWord 18 = .ok (.invokevirtual 39, 3) := by decide +kernel
theorem dX5_cutWord_21 : decode cX5_cutWord 21 = .ok (.istore_n 2, 1) := by decide +kernel
theorem dX5_cutWord_22 : decode cX5_cutWord 22 = .ok (.iload_n 1, 1) := by decide +kernel
theorem dX5_cutWord_23 : decode cX5_cutWord 23 = .ok (.bipush 105, 2) := by decide +kernel
theorem dX5_cutWord_25 : decode cX5_cutWord 25 = .ok (.if_icmp .ne 18, 3) := by decide +kernel
theorem dX5_cutWord_28 : decode cX5_cutWord 28 = .ok (.iload_n 2, 1) := by decide +kernel
theorem dX5_cutWord_29 : decode cX5_cutWord 29 = .ok (.bipush 110, 2) := by decide +kernel
theorem dX5_cutWord_31 : decode cX5_cutWord 31 = .ok (.if_icmp .ne 12, 3) := by decide +kernel
theorem dX5_cutWord_34 : decode cX5_cutWord 34 = .ok (.aload_n 0, 1) := by decide +kernel
theorem dX5_cutWord_35 : decode cX5_cutWord 35 = .ok (.iconst 3, 1) := by decide +kernel
theorem dX5_cutWord_36 : decode cX5_cutWord 36 = .ok (.sipush 258, 3) := by decide +kernel
theorem dX5_cutWord_39 : decode cX5_cutWord 39 = .ok (.invokevirtual 52, 3) := by decide +kernel
theorem dX5_cutWord_42 : decode cX5_cutWord 42 = .ok (.ireturn, 1) := by decide +kernel
theorem dX5_cutWord_43 : decode cX5_cutWord 43 = .ok (.iload_n 1, 1) := by decide +kernel
theorem dX5_cutWord_44 : decode cX5_cutWord 44 = .ok (.bipush 97, 2) := by decide +kernel
theorem dX5_cutWord_46 : decode cX5_cutWord 46 = .ok (.if_icmp .ne 20, 3) := by decide +kernel
theorem dX5_cutWord_49 : decode cX5_cutWord 49 = .ok (.iload_n 2, 1) := by decide +kernel
theorem dX5_cutWord_50 : decode cX5_cutWord 50 = .ok (.bipush 120, 2) := by decide +kernel
theorem dX5_cutWord_52 : decode cX5_cutWord 52 = .ok (.if_icmp .ne 14, 3) := by decide +kernel
theorem dX5_cutWord_55 : decode cX5_cutWord 55 = .ok (.aload_n 0, 1) := by decide +kernel
theorem dX5_cutWord_56 : decode cX5_cutWord 56 = .ok (.iconst 3, 1) := by decide +kernel
theorem dX5_cutWord_57 : decode cX5_cutWord 57 = .ok (.sipush 259, 3) := by decide +kernel
theorem dX5_cutWord_60 : decode cX5_cutWord 60 = .ok (.invokevirtual 52, 3) := by decide +kernel
theorem dX5_cutWord_63 : decode cX5_cutWord 63 = .ok (.goto 5, 3) := by decide +kernel
theorem dX5_cutWord_66 : decode cX5_cutWord 66 = .ok (.bipush (-2), 2) := by decide +kernel
theorem dX5_cutWord_68 : decode cX5_cutWord 68 = .ok (.ireturn, 1) := by decide +kernel
theorem dX5_pass_0 : decode cX5_pass 0 = .ok (.aload_n 0, 1) := by decide +kernel
theorem dX5_pass_1 : decode cX5_pass 1 = .ok (.dup, 1) := by decide +kernel
theorem dX5_pass_2 : decode cX5_pass 2 = .ok (.getfield 29, 3) := by decide +kernel
theorem dX5_pass_5 : decode cX5_pass 5 = .ok (.iload_n 1, 1) := by decide +kernel
theorem dX5_pass_6 : decode cX5_pass 6 = .ok (.iadd, 1) := by decide +kernel
theorem dX5_pass_7 : decode cX5_pass 7 = .ok (.putfield 29, 3) := by decide +kernel
theorem dX5_pass_10 : decode cX5_pass 10 = .ok (.iload_n 2, 1) := by decide +kernel
theorem dX5_pass_11 : decode cX5_pass 11 = .ok (.ireturn, 1) := by decide +kernel
theorem dX5_byteAt_0 : decode cX5_byteAt 0 = .ok (.iload_n 1, 1) := by decide +kernel
theorem dX5_byteAt_1 : decode cX5_byteAt 1 = .ok (.ifCond .lt 33, 3) := by decide +kernel
theorem dX5_byteAt_4 : decode cX5_byteAt 4 = .ok (.iload_n 1, 1) := by decide +kernel
theorem dX5_byteAt_5 : decode cX5_byteAt 5 = .ok (.aload_n 0, 1) := by decide +kernel
theorem dX5_byteAt_6 : decode cX5_byteAt 6 = .ok (.getfield 25, 3) := by decide +kernel
theorem dX5_byteAt_9 : decode cX5_byteAt 9 = .ok (.if_icmp .ge 25, 3) := by decide +kernel
theorem dX5_byteAt_12 : decode cX5_byteAt 12 = .ok (.iload_n 1, 1) := by decide +kernel
theorem dX5_byteAt_13 : decode cX5_byteAt 13 = .ok (.aload_n 0, 1) := by decide +kernel
theorem dX5_byteAt_14 : decode cX5_byteAt 14 = .ok (.getfield 21, 3) := by decide +kernel
theorem dX5_byteAt_17 : decode cX5_byteAt 17 = .ok (.arraylength, 1) := by decide +kernel
theorem dX5_byteAt_18 : decode cX5_byteAt 18 = .ok (.if_icmp .ge 16, 3) := by decide +kernel
theorem dX5_byteAt_21 : decode cX5_byteAt 21 = .ok (.aload_n 0, 1) := by decide +kernel
theorem dX5_byteAt_22 : decode cX5_byteAt 22 = .ok (.getfield 21, 3) := by decide +kernel
theorem dX5_byteAt_25 : decode cX5_byteAt 25 = .ok (.iload_n 1, 1) := by decide +kernel
theorem dX5_byteAt_26 : decode cX5_byteAt 26 = .ok (.baload, 1) := by decide +kernel
theorem dX5_byteAt_27 : decode cX5_byteAt 27 = .ok (.sipush 255, 3) := by decide +kernel
theorem dX5_byteAt_30 : decode cX5_byteAt 30 = .ok (.iand, 1) := by decide +kernel
theorem dX5_byteAt_31 : decode cX5_byteAt 31 = .ok (.goto 4, 3) := by decide +kernel
theorem dX5_byteAt_34 : decode cX5_byteAt 34 = .ok (.iconst (-1), 1) := by decide +kernel
theorem dX5_byteAt_35 : decode cX5_byteAt 35 = .ok (.ireturn, 1) := by decide +kernel
theorem dX5_isDigit_0 : decode cX5_isDigit 0 = .ok (.iload_n 0, 1) := by decide +kernel
theorem dX5_isDigit_1 : decode cX5_isDigit 1 = .ok (.bipush 48, 2) := by decide +kernel
theorem dX5_isDigit_3 : decode cX5_isDigit 3 = .ok (.if_icmp .lt 13, 3) := by decide +kernel
theorem dX5_isDigit_6 : decode cX5_isDigit 6 = .ok (.iload_n 0, 1) := by decide +kernel
theorem dX5_isDigit_7 : decode cX5_isDigit 7 = .ok (.bipush 57, 2) := by decide +kernel
theorem dX5_isDigit_9 : decode cX5_isDigit 9 = .ok (.if_icmp .gt 7, 3) := by decide +kernel
theorem dX5_isDigit_12 : decode cX5_isDigit 12 = .ok (.iconst 1, 1) := by decide +kernel
theorem dX5_isDigit_13 : decode cX5_isDigit 13 = .ok (.goto 4, 3) := by decide +kernel
theorem dX5_isDigit_16 : decode cX5_isDigit 16 = .ok (.iconst 0, 1) := by decide +kernel
theorem dX5_isDigit_17 : decode cX5_isDigit 17 = .ok (.ireturn, 1) := by decide +kernel
theorem dX6_init_0 : decode cX6_init 0 = .ok (.aload_n 0, 1) := by decide +kernel
theorem dX6_init_1 : decode cX6_init 1 = .ok (.invokespecial 3, 3) := by decide +kernel
theorem dX6_init_4 : decode cX6_init 4 = .ok (.aload_n 0, 1) := by decide +kernel
theorem dX6_init_5 : decode cX6_init 5 = .ok (.bipush 48, 2) := by decide +kernel
theorem dX6_init_7 : decode cX6_init 7 = .ok (.newarray .int, 2) := by decide +kernel
theorem dX6_init_9 : decode cX6_init 9 = .ok (.putfield 9, 3) := by decide +kernel
theorem dX6_init_12 : decode cX6_init 12 = .ok (.aload_n 0, 1) := by decide +kernel
theorem dX6_init_13 : decode cX6_init 13 = .ok (.bipush 48, 2) := by decide +kernel
theorem dX6_init_15 : decode cX6_init 15 = .ok (.newarray .int, 2) := by decide +kernel
theorem dX6_init_17 : decode cX6_init 17 = .ok (.putfield 15, 3) := by decide +kernel
theorem dX6_init_20 : decode cX6_init 20 = .ok (.aload_n 0, 1) := by decide +kernel
theorem dX6_init_21 : decode cX6_init 21 = .ok (.bipush 48, 2) := by decide +kernel
theorem dX6_init_23 : decode cX6_init 23 = .ok (.newarray .int, 2) := by decide +kernel
theorem dX6_init_25 : decode cX6_init 25 = .ok (.putfield 18, 3) := by decide +kernel
theorem dX6_init_28 : decode cX6_init 28 = .ok (.aload_n 0, 1) := by decide +kernel
theorem dX6_init_29 : decode cX6_init 29 = .ok (.bipush 48, 2) := by decide +kernel
theorem dX6_init_31 : decode cX6_init 31 = .ok (.newarray .int, 2) := by decide +kernel
theorem dX6_init_33 : decode cX6_init 33 = .ok (.putfield 21, 3) := by decide +kernel
theorem dX6_init_36 : decode cX6_init 36 = .ok (.aload_n 0, 1) := by decide +kernel
theorem dX6_init_37 : decode cX6_init 37 = .ok (.sipush 200, 3) := by decide +kernel
theorem dX6_init_40 : decode cX6_init 40 = .ok (.newarray .int, 2) := by decide +kernel
theorem dX6_init_42 : decode cX6_init 42 = .ok (.putfield 24, 3) := by decide +kernel
theorem dX6_init_45 : decode cX6_init 45 = .ok (.aload_n 0, 1) := by decide +kernel
theorem dX6_init_46 : decode cX6_init 46 = .ok (.sipush 128, 3) := by decide +kernel
theorem dX6_init_49 : decode cX6_init 49 = .ok (.newarray .int, 2) := by decide +kernel
theorem dX6_init_51 : decode cX6_init 51 = .ok (.putfield 27, 3) := by decide +kernel
theorem dX6_init_54 : decode cX6_init 54 = .ok (.aload_n 0, 1) := by decide +kernel
theorem dX6_init_55 : decode cX6_init 55 = .ok (.aload_n 1, 1) := by decide +kernel
theorem dX6_init_56 : decode cX6_init 56 = .ok (.putfield 30, 3) := by decide +kernel
theorem dX6_init_59 : decode cX6_init 59 = .ok (.aload_n 0, 1) := by decide +kernel
theorem dX6_init_60 : decode cX6_init 60 = .ok (.aload_n 2, 1) := by decide +kernel
theorem dX6_init_61 : decode cX6_init 61 = .ok (.putfield 34, 3) := by decide +kernel
theorem dX6_init_64 : decode cX6_init 64 = .ok (.aload_n 0, 1) := by decide +kernel
theorem dX6_init_65 : decode cX6_init 65 = .ok (.aload_n 3, 1) := by decide +kernel
theorem dX6_init_66 : decode cX6_init 66 = .ok (.putfield 38, 3) := by decide +kernel
theorem dX6_init_69 : decode cX6_init 69 = .ok (.return_, 1) := by decide +kernel
set_option maxRecDepth 20000 in
theorem ggX6_fit_X6_findSpans : GoodIn wsX6_fit wsX6_findSpans := goodIn_r _ [12, 13, 14, 15, 16, 17, 18, 19, 20, 21, 22, 23, 24, 25, 26, 27, 28, 29, 30, 31, 32, 33, 34, 35, 11, 36, 37, 38, 39, 40, 1, 3, 4, 5, 6, 41, 42, 43, 79, 80, 81, 82, 83, 84, 85, 86, 87, 88, 89, 90, 91, 92, 93, 94, 95, 96, 97, 98, 99, 100, 101, 102, 103, 104, 105, 106, 107, 108, 109, 110, 111, 112, 113, 114] (by decide +kernel) (by decide +kernel)
set_option maxRecDepth 20000 in
theorem gX6_fit_X6_findSpans : GoodIn wsX6_fit (wsV RX6 45 RX6 yX6_findSpans wsX6_findSpans) := goodIn_app (goodIn_of _ (by decide +kernel)) ggX6_fit_X6_findSpans
set_option maxRecDepth 20000 in
theorem ggX6_fit_X6_orderSpans : GoodIn wsX6_fit wsX6_orderSpans := goodIn_r _ [47, 48, 16, 17, 13, 49, 79, 80, 81, 82, 83, 84, 85, 86, 87, 88, 89, 90, 91, 92, 93, 94] (by decide +kernel) (by decide +kernel)
set_option maxRecDepth 20000 in
theorem gX6_fit_X6_orderSpans : GoodIn wsX6_fit (wsV RX6 48 RX6 yX6_orderSpans wsX6_orderSpans) := goodIn_app (goodIn_of _ (by decide +kernel)) ggX6_fit_X6_orderSpans
set_option maxRecDepth 20000 in
theorem ggX6_fit_X6_findNeed : GoodIn wsX6_fit wsX6_findNeed := goodIn_r _ [53, 54, 48, 49, 13, 14, 1, 3, 4, 5, 6, 21, 22, 23, 24, 55, 42, 56, 57, 58, 59, 60, 79, 80, 81, 82, 83, 84, 85, 86, 87, 88, 89, 90, 91] (by decide +kernel) (by decide +kernel)
set_option maxRecDepth 20000 in
theorem gX6_fit_X6_findNeed : GoodIn wsX6_fit (wsV RX6 51 RX6 yX6_findNeed wsX6_findNeed) := goodIn_app (goodIn_of _ (by decide +kernel)) ggX6_fit_X6_findNeed
set_option maxRecDepth 20000 in
theorem ggX6_fit_X6_colourAll : GoodIn wsX6_fit wsX6_colourAll := goodIn_r _ [64, 48, 15, 49, 65, 66, 67, 11, 68, 69, 7, 21, 22, 23, 24, 70, 71, 72, 73, 14, 13, 1, 74, 42, 75, 76, 77, 59, 78, 55, 56, 57, 58, 60, 79, 80, 81, 82, 83, 84, 85, 86, 87, 88, 89, 90, 91] (by decide +kernel) (by decide +kernel)
set_option maxRecDepth 20000 in
theorem gX6_fit_X6_colourAll : GoodIn wsX6_fit (wsV RX6 67 RX6 yX6_colourAll wsX6_colourAll) := goodIn_app (goodIn_of _ (by decide +kernel)) ggX6_fit_X6_colourAll
theorem dX6_fit_0 : decode cX6_fit 0 = .ok (.iload_n 1, 1) := by decide +kernel
theorem dX6_fit_1 : decode cX6_fit 1 = .ok (.iconst 1, 1) := by decide +kernel
theorem dX6_fit_2 : decode cX6_fit 2 = .ok (.if_icmp .lt 10, 3) := by decide +kernel
theorem dX6_fit_5 : decode cX6_fit 5 = .ok (.iload_n 1, 1) := by decide +kernel
theorem dX6_fit_6 : decode cX6_fit 6 = .ok (.sipush 200, 3) := by decide +kernel
theorem dX6_fit_9 : decode cX6_fit 9 = .ok (.if_icmp .le 5, 3) := by decide +kernel
theorem dX6_fit_12 : decode cX6_fit 12 = .ok (.iconst 0, 1) := by decide +kernel
theorem dX6_fit_13 : decode cX6_fit 13 = .ok (.ireturn, 1) := by decide +kernel
theorem dX6_fit_14 : decode cX6_fit 14 = .ok (.aload_n 0, 1) := by decide +kernel
theorem dX6_fit_15 : decode cX6_fit 15 = .ok (.iload_n 1, 1) := by decide +kernel
theorem dX6_fit_16 : decode cX6_fit 16 = .ok (.putfield 41, 3) := by decide +kernel
theorem dX6_fit_19 : decode cX6_fit 19 = .ok (.aload_n 0, 1) := by decide +kernel
theorem dX6_fit_20 : decode cX6_fit 20 = .ok (.invokevirtual 45, 3) := by decide +kernel
theorem dX6_fit_23 : decode cX6_fit 23 = .ok (.aload_n 0, 1) := by decide +kernel
theorem dX6_fit_24 : decode cX6_fit 24 = .ok (.invokevirtual 48, 3) := by decide +kernel
theorem dX6_fit_27 : decode cX6_fit 27 = .ok (.aload_n 0, 1) := by decide +kernel
theorem dX6_fit_28 : decode cX6_fit 28 = .ok (.aload_n 0, 1) := by decide +kernel
theorem dX6_fit_29 : decode cX6_fit 29 = .ok (.invokevirtual 51, 3) := by decide +kernel
theorem dX6_fit_32 : decode cX6_fit 32 = .ok (.putfield 55, 3) := by decide +kernel
theorem dX6_fit_35 : decode cX6_fit 35 = .ok (.aload_n 0, 1) := by decide +kernel
theorem dX6_fit_36 : decode cX6_fit 36 = .ok (.getfield 55, 3) := by decide +kernel
theorem dX6_fit_39 : decode cX6_fit 39 = .ok (.bipush 96, 2) := by decide +kernel
theorem dX6_fit_41 : decode cX6_fit 41 = .ok (.if_icmp .le 5, 3) := by decide +kernel
theorem dX6_fit_44 : decode cX6_fit 44 = .ok (.iconst 0, 1) := by decide +kernel
theorem dX6_fit_45 : decode cX6_fit 45 = .ok (.ireturn, 1) := by decide +kernel
theorem dX6_fit_46 : decode cX6_fit 46 = .ok (.aload_n 0, 1) := by decide +kernel
theorem dX6_fit_47 : decode cX6_fit 47 = .ok (.aload_n 0, 1) := by decide +kernel
theorem dX6_fit_48 : decode cX6_fit 48 = .ok (.getfield 55, 3) := by decide +kernel
theorem dX6_fit_51 : decode cX6_fit 51 = .ok (.iconst 1, 1) := by decide +kernel
theorem dX6_fit_52 : decode cX6_fit 52 = .ok (.invokestatic 58, 3) := by decide +kernel
theorem dX6_fit_55 : decode cX6_fit 55 = .ok (.putfield 64, 3) := by decide +kernel
theorem dX6_fit_58 : decode cX6_fit 58 = .ok (.aload_n 0, 1) := by decide +kernel
theorem dX6_fit_59 : decode cX6_fit 59 = .ok (.getfield 64, 3) := by decide +kernel
theorem dX6_fit_62 : decode cX6_fit 62 = .ok (.sipush 128, 3) := by decide +kernel
theorem dX6_fit_65 : decode cX6_fit 65 = .ok (.if_icmp .gt 25, 3) := by decide +kernel
theorem dX6_fit_68 : decode cX6_fit 68 = .ok (.aload_n 0, 1) := by decide +kernel
theorem dX6_fit_69 : decode cX6_fit 69 = .ok (.invokevirtual 67, 3) := by decide +kernel
theorem dX6_fit_72 : decode cX6_fit 72 = .ok (.ifCond .eq 5, 3) := by decide +kernel
theorem dX6_fit_75 : decode cX6_fit 75 = .ok (.iconst 1, 1) := by decide +kernel
theorem dX6_fit_76 : decode cX6_fit 76 = .ok (.ireturn, 1) := by decide +kernel
theorem dX6_fit_77 : decode cX6_fit 77 = .ok (.aload_n 0, 1) := by decide +kernel
theorem dX6_fit_78 : decode cX6_fit 78 = .ok (.dup, 1) := by decide +kernel
theorem dX6_fit_79 : decode cX6_fit 79 = .ok (.getfield 64, 3) := by decide +kernel
theorem dX6_fit_82 : decode cX6_fit 82 = .ok (.iconst 1, 1) := by decide +kernel
theorem dX6_fit_83 : decode cX6_fit 83 = .ok (.iadd, 1) := by decide +kernel
theorem dX6_fit_84 : decode cX6_fit 84 = .ok (.putfield 64, 3) := by decide +kernel
theorem dX6_fit_87 : decode cX6_fit 87 = .ok (.goto (-29), 3) := by decide +kernel
theorem dX6_fit_90 : decode cX6_fit 90 = .ok (.iconst 0, 1) := by decide +kernel
theorem dX6_fit_91 : decode cX6_fit 91 = .ok (.ireturn, 1) := by decide +kernel
set_option maxRecDepth 20000 in
theorem ggX6_findSpans_J7_fill_53178 : GoodIn wsX6_findSpans wsJ7_fill_53178 := goodIn_r _ [12] (by decide +kernel) (by decide +kernel)
set_option maxRecDepth 20000 in
theorem gX6_findSpans_J7_fill_53178 : GoodIn wsX6_findSpans (va_wsS RX6 71 yJ7_fill_53178 wsJ7_fill_53178) := goodIn_app (goodIn_of _ (by decide +kernel)) ggX6_findSpans_J7_fill_53178
set_option maxRecDepth 20000 in
theorem ggX6_findSpans_X0_source : GoodIn wsX6_findSpans wsX0_source := goodIn_r _ [17, 18, 19, 20, 63, 64, 51, 52, 53] (by decide +kernel) (by decide +kernel)
set_option maxRecDepth 20000 in
theorem gX6_findSpans_X0_source : GoodIn wsX6_findSpans (wsV RX6 90 RX0 yX0_source wsX0_source) := goodIn_app (goodIn_of _ (by decide +kernel)) ggX6_findSpans_X0_source
set_option maxRecDepth 20000 in
theorem ggX6_findSpans_X6_stretch : GoodIn wsX6_findSpans wsX6_stretch := goodIn_r _ [25, 1, 26, 27, 28, 4, 6, 29, 2, 30, 31, 32, 33, 34, 35, 36, 37, 38, 39, 40, 41, 42, 43, 44, 45, 46, 47, 48, 49, 50, 65, 66, 67, 68, 69, 70, 71, 72, 73, 51, 52, 53, 54, 55, 56, 57, 58, 59, 60, 61, 62] (by decide +kernel) (by decide +kernel)
set_option maxRecDepth 20000 in
theorem gX6_findSpans_X6_stretch : GoodIn wsX6_findSpans (wsV RX6 94 RX6 yX6_stretch wsX6_stretch) := goodIn_app (goodIn_of _ (by decide +kernel)) ggX6_findSpans_X6_stretch
theorem dX6_findSpans_0 : decode cX6_findSpans 0 = .ok (.aload_n 0, 1) := by decide +kernel
theorem dX6_findSpans_1 : decode cX6_findSpans 1 = .ok (.getfield 9, 3) := by decide +kernel
theorem dX6_findSpans_4 : decode cX6_findSpans 4 = .ok (.iconst (-1), 1) := by decide +kernel
theorem dX6_findSpans_5 : decode cX6_findSpans 5 = .ok (.invokestatic 71, 3) := by decide +kernel
theorem dX6_findSpans_8 : decode cX6_findSpans 8 = .ok (.aload_n 0, 1) := by decide +kernel
theorem dX6_findSpans_9 : decode cX6_findSpans 9 = .ok (.getfield 15, 3) := by decide +kernel
theorem dX6_findSpans_12 : decode cX6_findSpans 12 = .ok (.iconst (-1), 1) := by decide +kernel
theorem dX6_findSpans_13 : decode cX6_findSpans 13 = .ok (.invokestatic 71, 3) := by decide +kernel
theorem dX6_findSpans_16 : decode cX6_findSpans 16 = .ok (.aload_n 0, 1) := by decide +kernel
theorem dX6_findSpans_17 : decode cX6_findSpans 17 = .ok (.getfield 18, 3) := by decide +kernel
theorem dX6_findSpans_20 : decode cX6_findSpans 20 = .ok (.iconst (-1), 1) := by decide +kernel
theorem dX6_findSpans_21 : decode cX6_findSpans 21 = .ok (.invokestatic 71, 3) := by decide +kernel
theorem dX6_findSpans_24 : decode cX6_findSpans 24 = .ok (.iconst 0, 1) := by decide +kernel
theorem dX6_findSpans_25 : decode cX6_findSpans 25 = .ok (.istore_n 1, 1) := by decide +kernel
theorem dX6_findSpans_26 : decode cX6_findSpans 26 = .ok (.iload_n 1, 1) := by decide +kernel
theorem dX6_findSpans_27 : decode cX6_findSpans 27 = .ok (.aload_n 0, 1) := by decide +kernel
theorem dX6_findSpans_28 : decode cX6_findSpans 28 = .ok (.getfield 30, 3) := by decide +kernel
theorem dX6_findSpans_31 : decode cX6_findSpans 31 = .ok (.getfield 77, 3) := by decide +kernel
theorem dX6_findSpans_34 : decode cX6_findSpans 34 = .ok (.if_icmp .ge 57, 3) := by decide +kernel
theorem dX6_findSpans_37 : decode cX6_findSpans 37 = .ok (.aload_n 0, 1) := by decide +kernel
theorem dX6_findSpans_38 : decode cX6_findSpans 38 = .ok (.aload_n 0, 1) := by decide +kernel
theorem dX6_findSpans_39 : decode cX6_findSpans 39 = .ok (.getfield 30, 3) := by decide +kernel
theorem dX6_findSpans_42 : decode cX6_findSpans 42 = .ok (.aload_n 0, 1) := by decide +kernel
theorem dX6_findSpans_43 : decode cX6_findSpans 43 = .ok (.getfield 30, 3) := by decide +kernel
theorem dX6_findSpans_46 : decode cX6_findSpans 46 = .ok (.getfield 80, 3) := by decide +kernel
theorem dX6_findSpans_49 : decode cX6_findSpans 49 = .ok (.iload_n 1, 1) := by decide +kernel
theorem dX6_findSpans_50 : decode cX6_findSpans 50 = .ok (.aaload, 1) := by decide +kernel
theorem dX6_findSpans_51 : decode cX6_findSpans 51 = .ok (.getfield 84, 3) := by decide +kernel
theorem dX6_findSpans_54 : decode cX6_findSpans 54 = .ok (.invokevirtual 90, 3) := by decide +kernel
theorem dX6_findSpans_57 : decode cX6_findSpans 57 = .ok (.iload_n 1, 1) := by decide +kernel
theorem dX6_findSpans_58 : decode cX6_findSpans 58 = .ok (.invokevirtual 94, 3) := by decide +kernel
theorem dX6_findSpans_61 : decode cX6_findSpans 61 = .ok (.aload_n 0, 1) := by decide +kernel
theorem dX6_findSpans_62 : decode cX6_findSpans 62 = .ok (.aload_n 0, 1) := by decide +kernel
theorem dX6_findSpans_63 : decode cX6_findSpans 63 = .ok (.getfield 30, 3) := by decide +kernel
theorem dX6_findSpans_66 : decode cX6_findSpans 66 = .ok (.aload_n 0, 1) := by decide +kernel
theorem dX6_findSpans_67 : decode cX6_findSpans 67 = .ok (.getfield 30, 3) := by decide +kernel
theorem dX6_findSpans_70 : decode cX6_findSpans 70 = .ok (.getfield 80, 3) := by decide +kernel
theorem dX6_findSpans_73 : decode cX6_findSpans 73 = .ok (.iload_n 1, 1) := by decide +kernel
theorem dX6_findSpans_74 : decode cX6_findSpans 74 = .ok (.aaload, 1) := by decide +kernel
theorem dX6_findSpans_75 : decode cX6_findSpans 75 = .ok (.getfield 98, 3) := by decide +kernel
theorem dX6_findSpans_78 : decode cX6_findSpans 78 = .ok (.invokevirtual 90, 3) := by decide +kernel
theorem dX6_findSpans_81 : decode cX6_findSpans 81 = .ok (.iload_n 1, 1) := by decide +kernel
theorem dX6_findSpans_82 : decode cX6_findSpans 82 = .ok (.invokevirtual 94, 3) := by decide +kernel
theorem dX6_findSpans_85 : decode cX6_findSpans 85 = .ok (.iinc 1 1, 3) := by decide +kernel
theorem dX6_findSpans_88 : decode cX6_findSpans 88 = .ok (.goto (-62), 3) := by decide +kernel
theorem dX6_findSpans_91 : decode cX6_findSpans 91 = .ok (.return_, 1) := by decide +kernel
set_option maxRecDepth 20000 in
theorem ggX6_stretch_X9_roundsOfUse : GoodIn wsX6_stretch wsX9_roundsOfUse := goodIn_r _ [16] (by decide +kernel) (by decide +kernel)
set_option maxRecDepth 20000 in
theorem gX6_stretch_X9_roundsOfUse_n109 : GoodIn wsX6_stretch (wsX9_roundsOfUse) := ggX6_stretch_X9_roundsOfUse
theorem dX6_stretch_0 : decode cX6_stretch 0 = .ok (.iload_n 1, 1) := by decide +kernel
theorem dX6_stretch_1 : decode cX6_stretch 1 = .ok (.ifCond .lt 71, 3) := by decide +kernel
theorem dX6_stretch_4 : decode cX6_stretch 4 = .ok (.aload_n 0, 1) := by decide +kernel
theorem dX6_stretch_5 : decode cX6_stretch 5 = .ok (.getfield 9, 3) := by decide +kernel
theorem dX6_stretch_8 : decode cX6_stretch 8 = .ok (.iload_n 1, 1) := by decide +kernel
theorem dX6_stretch_9 : decode cX6_stretch 9 = .ok (.aload_n 0, 1) := by decide +kernel
theorem dX6_stretch_10 : decode cX6_stretch 10 = .ok (.getfield 34, 3) := by decide +kernel
theorem dX6_stretch_13 : decode cX6_stretch 13 = .ok (.getfield 101, 3) := by decide +kernel
theorem dX6_stretch_16 : decode cX6_stretch 16 = .ok (.iload_n 1, 1) := by decide +kernel
theorem dX6_stretch_17 : decode cX6_stretch 17 = .ok (.iaload, 1) := by decide +kernel
theorem dX6_stretch_18 : decode cX6_stretch 18 = .ok (.aload_n 0, 1) := by decide +kernel
theorem dX6_stretch_19 : decode cX6_stretch 19 = .ok (.getfield 38, 3) := by decide +kernel
theorem dX6_stretch_22 : decode cX6_stretch 22 = .ok (.aload_n 0, 1) := by decide +kernel
theorem dX6_stretch_23 : decode cX6_stretch 23 = .ok (.getfield 30, 3) := by decide +kernel
theorem dX6_stretch_26 : decode cX6_stretch 26 = .ok (.getfield 80, 3) := by decide +kernel
theorem dX6_stretch_29 : decode cX6_stretch 29 = .ok (.iload_n 1, 1) := by decide +kernel
theorem dX6_stretch_30 : decode cX6_stretch 30 = .ok (.aaload, 1) := by decide +kernel
theorem dX6_stretch_31 : decode cX6_stretch 31 = .ok (.getfield 106, 3) := by decide +kernel
theorem dX6_stretch_34 : decode cX6_stretch 34 = .ok (.iaload, 1) := by decide +kernel
theorem dX6_stretch_35 : decode cX6_stretch 35 = .ok (.iadd, 1) := by decide +kernel
theorem dX6_stretch_36 : decode cX6_stretch 36 = .ok (.iastore, 1) := by decide +kernel
theorem dX6_stretch_37 : decode cX6_stretch 37 = .ok (.aload_n 0, 1) := by decide +kernel
theorem dX6_stretch_38 : decode cX6_stretch 38 = .ok (.getfield 15, 3) := by decide +kernel
theorem dX6_stretch_41 : decode cX6_stretch 41 = .ok (.iload_n 1, 1) := by decide +kernel
theorem dX6_stretch_42 : decode cX6_stretch 42 = .ok (.aload_n 0, 1) := by decide +kernel
theorem dX6_stretch_43 : decode cX6_stretch 43 = .ok (.getfield 15, 3) := by decide +kernel
theorem dX6_stretch_46 : decode cX6_stretch 46 = .ok (.iload_n 1, 1) := by decide +kernel
theorem dX6_stretch_47 : decode cX6_stretch 47 = .ok (.iaload, 1) := by decide +kernel
theorem dX6_stretch_48 : decode cX6_stretch 48 = .ok (.aload_n 0, 1) := by decide +kernel
theorem dX6_stretch_49 : decode cX6_stretch 49 = .ok (.getfield 34, 3) := by decide +kernel
theorem dX6_stretch_52 : decode cX6_stretch 52 = .ok (.getfield 101, 3) := by decide +kernel
theorem dX6_stretch_55 : decode cX6_stretch 55 = .ok (.iload_n 2, 1) := by decide +kernel
theorem dX6_stretch_56 : decode cX6_stretch 56 = .ok (.iaload, 1) := by decide +kernel
theorem dX6_stretch_57 : decode cX6_stretch 57 = .ok (.iload_n 1, 1) := by decide +kernel
theorem dX6_stretch_58 : decode cX6_stretch 58 = .ok (.iload_n 2, 1) := by decide +kernel
theorem dX6_stretch_59 : decode cX6_stretch 59 = .ok (.invokestatic 109, 3) := by decide +kernel
theorem dX6_stretch_62 : decode cX6_stretch 62 = .ok (.aload_n 0, 1) := by decide +kernel
theorem dX6_stretch_63 : decode cX6_stretch 63 = .ok (.getfield 41, 3) := by decide +kernel
theorem dX6_stretch_66 : decode cX6_stretch 66 = .ok (.imul, 1) := by decide +kernel
theorem dX6_stretch_67 : decode cX6_stretch 67 = .ok (.iadd, 1) := by decide +kernel
theorem dX6_stretch_68 : decode cX6_stretch 68 = .ok (.invokestatic 58, 3) := by decide +kernel
theorem dX6_stretch_71 : decode cX6_stretch 71 = .ok (.iastore, 1) := by decide +kernel
theorem dX6_stretch_72 : decode cX6_stretch 72 = .ok (.return_, 1) := by decide +kernel
theorem dX6_orderSpans_0 : decode cX6_orderSpans 0 = .ok (.aload_n 0, 1) := by decide +kernel
theorem dX6_orderSpans_1 : decode cX6_orderSpans 1 = .ok (.iconst 0, 1) := by decide +kernel
theorem dX6_orderSpans_2 : decode cX6_orderSpans 2 = .ok (.putfield 112, 3) := by decide +kernel
theorem dX6_orderSpans_5 : decode cX6_orderSpans 5 = .ok (.iconst 0, 1) := by decide +kernel
theorem dX6_orderSpans_6 : decode cX6_orderSpans 6 = .ok (.istore_n 1, 1) := by decide +kernel
theorem dX6_orderSpans_7 : decode cX6_orderSpans 7 = .ok (.iload_n 1, 1) := by decide +kernel
theorem dX6_orderSpans_8 : decode cX6_orderSpans 8 = .ok (.aload_n 0, 1) := by decide +kernel
theorem dX6_orderSpans_9 : decode cX6_orderSpans 9 = .ok (.getfield 30, 3) := by decide +kernel
theorem dX6_orderSpans_12 : decode cX6_orderSpans 12 = .ok (.getfield 77, 3) := by decide +kernel
theorem dX6_orderSpans_15 : decode cX6_orderSpans 15 = .ok (.if_icmp .ge 86, 3) := by decide +kernel
theorem dX6_orderSpans_18 : decode cX6_orderSpans 18 = .ok (.aload_n 0, 1) := by decide +kernel
theorem dX6_orderSpans_19 : decode cX6_orderSpans 19 = .ok (.getfield 9, 3) := by decide +kernel
theorem dX6_orderSpans_22 : decode cX6_orderSpans 22 = .ok (.iload_n 1, 1) := by decide +kernel
theorem dX6_orderSpans_23 : decode cX6_orderSpans 23 = .ok (.iaload, 1) := by decide +kernel
theorem dX6_orderSpans_24 : decode cX6_orderSpans 24 = .ok (.ifCond .lt 71, 3) := by decide +kernel
theorem dX6_orderSpans_27 : decode cX6_orderSpans 27 = .ok (.aload_n 0, 1) := by decide +kernel
theorem dX6_orderSpans_28 : decode cX6_orderSpans 28 = .ok (.getfield 112, 3) := by decide +kernel
theorem dX6_orderSpans_31 : decode cX6_orderSpans 31 = .ok (.istore_n 2, 1) := by decide +kernel
theorem dX6_orderSpans_32 : decode cX6_orderSpans 32 = .ok (.iload_n 2, 1) := by decide +kernel
theorem dX6_orderSpans_33 : decode cX6_orderSpans 33 = .ok (.ifCond .le 45, 3) := by decide +kernel
theorem dX6_orderSpans_36 : decode cX6_orderSpans 36 = .ok (.aload_n 0, 1) := by decide +kernel
theorem dX6_orderSpans_37 : decode cX6_orderSpans 37 = .ok (.getfield 9, 3) := by decide +kernel
theorem dX6_orderSpans_40 : decode cX6_orderSpans 40 = .ok (.aload_n 0, 1) := by decide +kernel
theorem dX6_orderSpans_41 : decode cX6_orderSpans 41 = .ok (.getfield 21, 3) := by decide +kernel
theorem dX6_orderSpans_44 : decode cX6_orderSpans 44 = .ok (.iload_n 2, 1) := by decide +kernel
theorem dX6_orderSpans_45 : decode cX6_orderSpans 45 = .ok (.iconst 1, 1) := by decide +kernel
theorem dX6_orderSpans_46 : decode cX6_orderSpans 46 = .ok (.isub, 1) := by decide +kernel
theorem dX6_orderSpans_47 : decode cX6_orderSpans 47 = .ok (.iaload, 1) := by decide +kernel
theorem dX6_orderSpans_48 : decode cX6_orderSpans 48 = .ok (.iaload, 1) := by decide +kernel
theorem dX6_orderSpans_49 : decode cX6_orderSpans 49 = .ok (.aload_n 0, 1) := by decide +kernel
theorem dX6_orderSpans_50 : decode cX6_orderSpans 50 = .ok (.getfield 9, 3) := by decide +kernel
theorem dX6_orderSpans_53 : decode cX6_orderSpans 53 = .ok (.iload_n 1, 1) := by decide +kernel
theorem dX6_orderSpans_54 : decode cX6_orderSpans 54 = .ok (.iaload, 1) := by decide +kernel
theorem dX6_orderSpans_55 : decode cX6_orderSpans 55 = .ok (.if_icmp .le 23, 3) := by decide +kernel
theorem dX6_orderSpans_58 : decode cX6_orderSpans 58 = .ok (.aload_n 0, 1) := by decide +kernel
theorem dX6_orderSpans_59 : decode cX6_orderSpans 59 = .ok (.getfield 21, 3) := by decide +kernel
theorem dX6_orderSpans_62 : decode cX6_orderSpans 62 = .ok (.iload_n 2, 1) := by decide +kernel
theorem dX6_orderSpans_63 : decode cX6_orderSpans 63 = .ok (.aload_n 0, 1) := by decide +kernel
theorem dX6_orderSpans_64 : decode cX6_orderSpans 64 = .ok (.getfield 21, 3) := by decide +kernel
theorem dX6_orderSpans_67 : decode cX6_orderSpans 67 = .ok (.iload_n 2, 1) := by decide +kernel
theorem dX6_orderSpans_68 : decode cX6_orderSpans 68 = .ok (.iconst 1, 1) := by decide +kernel
theorem dX6_orderSpans_69 : decode cX6_orderSpans 69 = .ok (.isub, 1) := by decide +kernel
theorem dX6_orderSpans_70 : decode cX6_orderSpans 70 = .ok (.iaload, 1) := by decide +kernel
theorem dX6_orderSpans_71 : decode cX6_orderSpans 71 = .ok (.iastore, 1) := by decide +kernel
theorem dX6_orderSpans_72 : decode cX6_orderSpans 72 = .ok (.iinc 2 (-1), 3) := by decide +kernel
theorem dX6_orderSpans_75 : decode cX6_orderSpans 75 = .ok (.goto (-43), 3) := by decide +kernel
theorem dX6_orderSpans_78 : decode cX6_orderSpans 78 = .ok (.aload_n 0, 1) := by decide +kernel
theorem dX6_orderSpans_79 : decode cX6_orderSpans 79 = .ok (.getfield 21, 3) := by decide +kernel
theorem dX6_orderSpans_82 : decode cX6_orderSpans 82 = .ok (.iload_n 2, 1) := by decide +kernel
theorem dX6_orderSpans_83 : decode cX6_orderSpans 83 = .ok (.iload_n 1, 1) := by decide +kernel
theorem dX6_orderSpans_84 : decode cX6_orderSpans 84 = .ok (.iastore, 1) := by decide +kernel
theorem dX6_orderSpans_85 : decode cX6_orderSpans 85 = .ok (.aload_n 0, 1) := by decide +kernel
theorem dX6_orderSpans_86 : decode cX6_orderSpans 86 = .ok (.dup, 1) := by decide +kernel
theorem dX6_orderSpans_87 : decode cX6_orderSpans 87 = .ok (.getfield 112, 3) := by decide +kernel
theorem dX6_orderSpans_90 : decode cX6_orderSpans 90 = .ok (.iconst 1, 1) := by decide +kernel
theorem dX6_orderSpans_91 : decode cX6_orderSpans 91 = .ok (.iadd, 1) := by decide +kernel
theorem dX6_orderSpans_92 : decode cX6_orderSpans 92 = .ok (.putfield 112, 3) := by decide +kernel
theorem dX6_orderSpans_95 : decode cX6_orderSpans 95 = .ok (.iinc 1 1, 3) := by decide +kernel
theorem dX6_orderSpans_98 : decode cX6_orderSpans 98 = .ok (.goto (-91), 3) := by decide +kernel
theorem dX6_orderSpans_101 : decode cX6_orderSpans 101 = .ok (.return_, 1) := by decide +kernel
set_option maxRecDepth 20000 in
theorem ggX6_findNeed_J7_fill_53178 : GoodIn wsX6_findNeed wsJ7_fill_53178 := goodIn_r _ [14] (by decide +kernel) (by decide +kernel)
set_option maxRecDepth 20000 in
theorem gX6_findNeed_J7_fill_53178 : GoodIn wsX6_findNeed (va_wsS RX6 71 yJ7_fill_53178 wsJ7_fill_53178) := goodIn_app (goodIn_of _ (by decide +kernel)) ggX6_findNeed_J7_fill_53178
set_option maxRecDepth 20000 in
theorem ggX6_findNeed_X9_rest : GoodIn wsX6_findNeed wsX9_rest := goodIn_r _ [17, 18, 19, 20, 21] (by decide +kernel) (by decide +kernel)
set_option maxRecDepth 20000 in
theorem gX6_findNeed_X9_rest_n115 : GoodIn wsX6_findNeed (wsX9_rest) := ggX6_findNeed_X9_rest
theorem dX6_findNeed_0 : decode cX6_findNeed 0 = .ok (.aload_n 0, 1) := by decide +kernel
theorem dX6_findNeed_1 : decode cX6_findNeed 1 = .ok (.getfield 24, 3) := by decide +kernel
theorem dX6_findNeed_4 : decode cX6_findNeed 4 = .ok (.iconst 0, 1) := by decide +kernel
theorem dX6_findNeed_5 : decode cX6_findNeed 5 = .ok (.invokestatic 71, 3) := by decide +kernel
theorem dX6_findNeed_8 : decode cX6_findNeed 8 = .ok (.iconst 0, 1) := by decide +kernel
theorem dX6_findNeed_9 : decode cX6_findNeed 9 = .ok (.istore_n 1, 1) := by decide +kernel
theorem dX6_findNeed_10 : decode cX6_findNeed 10 = .ok (.iload_n 1, 1) := by decide +kernel
theorem dX6_findNeed_11 : decode cX6_findNeed 11 = .ok (.aload_n 0, 1) := by decide +kernel
theorem dX6_findNeed_12 : decode cX6_findNeed 12 = .ok (.getfield 112, 3) := by decide +kernel
theorem dX6_findNeed_15 : decode cX6_findNeed 15 = .ok (.if_icmp .ge 56, 3) := by decide +kernel
theorem dX6_findNeed_18 : decode cX6_findNeed 18 = .ok (.aload_n 0, 1) := by decide +kernel
theorem dX6_findNeed_19 : decode cX6_findNeed 19 = .ok (.getfield 21, 3) := by decide +kernel
theorem dX6_findNeed_22 : decode cX6_findNeed 22 = .ok (.iload_n 1, 1) := by decide +kernel
theorem dX6_findNeed_23 : decode cX6_findNeed 23 = .ok (.iaload, 1) := by decide +kernel
theorem dX6_findNeed_24 : decode cX6_findNeed 24 = .ok (.istore_n 2, 1) := by decide +kernel
theorem dX6_findNeed_25 : decode cX6_findNeed 25 = .ok (.aload_n 0, 1) := by decide +kernel
theorem dX6_findNeed_26 : decode cX6_findNeed 26 = .ok (.getfield 9, 3) := by decide +kernel
theorem dX6_findNeed_29 : decode cX6_findNeed 29 = .ok (.iload_n 2, 1) := by decide +kernel
theorem dX6_findNeed_30 : decode cX6_findNeed 30 = .ok (.iaload, 1) := by decide +kernel
theorem dX6_findNeed_31 : decode cX6_findNeed 31 = .ok (.istore_n 3, 1) := by decide +kernel
theorem dX6_findNeed_32 : decode cX6_findNeed 32 = .ok (.iload_n 3, 1) := by decide +kernel
theorem dX6_findNeed_33 : decode cX6_findNeed 33 = .ok (.aload_n 0, 1) := by decide +kernel
theorem dX6_findNeed_34 : decode cX6_findNeed 34 = .ok (.getfield 15, 3) := by decide +kernel
theorem dX6_findNeed_37 : decode cX6_findNeed 37 = .ok (.iload_n 2, 1) := by decide +kernel
theorem dX6_findNeed_38 : decode cX6_findNeed 38 = .ok (.iaload, 1) := by decide +kernel
theorem dX6_findNeed_39 : decode cX6_findNeed 39 = .ok (.if_icmp .gt 26, 3) := by decide +kernel
theorem dX6_findNeed_42 : decode cX6_findNeed 42 = .ok (.aload_n 0, 1) := by decide +kernel
theorem dX6_findNeed_43 : decode cX6_findNeed 43 = .ok (.getfield 24, 3) := by decide +kernel
theorem dX6_findNeed_46 : decode cX6_findNeed 46 = .ok (.iload_n 3, 1) := by decide +kernel
theorem dX6_findNeed_47 : decode cX6_findNeed 47 = .ok (.aload_n 0, 1) := by decide +kernel
theorem dX6_findNeed_48 : decode cX6_findNeed 48 = .ok (.getfield 41, 3) := by decide +kernel
theorem dX6_findNeed_51 : decode cX6_findNeed 51 = .ok (.invokestatic 115, 3) := by decide +kernel
theorem dX6_findNeed_54 : decode cX6_findNeed 54 = .ok (.dup2, 1) := by decide +kernel
theorem dX6_findNeed_55 : decode cX6_findNeed 55 = .ok (.iaload, 1) := by decide +kernel
theorem dX6_findNeed_56 : decode cX6_findNeed 56 = .ok (.iconst 1, 1) := by decide +kernel
theorem dX6_findNeed_57 : decode cX6_findNeed 57 = .ok (.iadd, 1) := by decide +kernel
theorem dX6_findNeed_58 : decode cX6_findNeed 58 = .ok (.iastore, 1) := by decide +kernel
theorem dX6_findNeed_59 : decode cX6_findNeed 59 = .ok (.iinc 3 1, 3) := by decide +kernel
theorem dX6_findNeed_62 : decode cX6_findNeed 62 = .ok (.goto (-30), 3) := by decide +kernel
theorem dX6_findNeed_65 : decode cX6_findNeed 65 = .ok (.iinc 1 1, 3) := by decide +kernel
theorem dX6_findNeed_68 : decode cX6_findNeed 68 = .ok (.goto (-58), 3) := by decide +kernel
theorem dX6_findNeed_71 : decode cX6_findNeed 71 = .ok (.iconst 0, 1) := by decide +kernel
theorem dX6_findNeed_72 : decode cX6_findNeed 72 = .ok (.istore_n 1, 1) := by decide +kernel
theorem dX6_findNeed_73 : decode cX6_findNeed 73 = .ok (.iconst 0, 1) := by decide +kernel
theorem dX6_findNeed_74 : decode cX6_findNeed 74 = .ok (.istore_n 2, 1) := by decide +kernel
theorem dX6_findNeed_75 : decode cX6_findNeed 75 = .ok (.iload_n 2, 1) := by decide +kernel
theorem dX6_findNeed_76 : decode cX6_findNeed 76 = .ok (.aload_n 0, 1) := by decide +kernel
theorem dX6_findNeed_77 : decode cX6_findNeed 77 = .ok (.getfield 41, 3) := by decide +kernel
theorem dX6_findNeed_80 : decode cX6_findNeed 80 = .ok (.if_icmp .ge 20, 3) := by decide +kernel
theorem dX6_findNeed_83 : decode cX6_findNeed 83 = .ok (.iload_n 1, 1) := by decide +kernel
theorem dX6_findNeed_84 : decode cX6_findNeed 84 = .ok (.aload_n 0, 1) := by decide +kernel
theorem dX6_findNeed_85 : decode cX6_findNeed 85 = .ok (.getfield 24, 3) := by decide +kernel
theorem dX6_findNeed_88 : decode cX6_findNeed 88 = .ok (.iload_n 2, 1) := by decide +kernel
theorem dX6_findNeed_89 : decode cX6_findNeed 89 = .ok (.iaload, 1) := by decide +kernel
theorem dX6_findNeed_90 : decode cX6_findNeed 90 = .ok (.invokestatic 58, 3) := by decide +kernel
theorem dX6_findNeed_93 : decode cX6_findNeed 93 = .ok (.istore_n 1, 1) := by decide +kernel
theorem dX6_findNeed_94 : decode cX6_findNeed 94 = .ok (.iinc 2 1, 3) := by decide +kernel
theorem dX6_findNeed_97 : decode cX6_findNeed 97 = .ok (.goto (-22), 3) := by decide +kernel
theorem dX6_findNeed_100 : decode cX6_findNeed 100 = .ok (.iload_n 1, 1) := by decide +kernel
theorem dX6_findNeed_101 : decode cX6_findNeed 101 = .ok (.ireturn, 1) := by decide +kernel
set_option maxRecDepth 20000 in
theorem ggX6_colourAll_X6_leastFree : GoodIn wsX6_colourAll wsX6_leastFree := goodIn_r _ [8, 9, 3, 10, 11, 12, 13, 14, 15, 16, 17, 7, 18, 19, 20, 21, 2, 22, 23, 24, 25, 26, 27, 28, 29, 30, 31, 32, 33, 34, 35, 36, 37, 38, 39, 40, 41, 42, 43, 44, 45, 46] (by decide +kernel) (by decide +kernel)
set_option maxRecDepth 20000 in
theorem gX6_colourAll_X6_leastFree : GoodIn wsX6_colourAll (wsV RX6 118 RX6 yX6_leastFree wsX6_leastFree) := goodIn_app (goodIn_of _ (by decide +kernel)) ggX6_colourAll_X6_leastFree
theorem dX6_colourAll_0 : decode cX6_colourAll 0 = .ok (.iconst 0, 1) := by decide +kernel
theorem dX6_colourAll_1 : decode cX6_colourAll 1 = .ok (.istore_n 1, 1) := by decide +kernel
theorem dX6_colourAll_2 : decode cX6_colourAll 2 = .ok (.iload_n 1, 1) := by decide +kernel
theorem dX6_colourAll_3 : decode cX6_colourAll 3 = .ok (.aload_n 0, 1) := by decide +kernel
theorem dX6_colourAll_4 : decode cX6_colourAll 4 = .ok (.getfield 112, 3) := by decide +kernel
theorem dX6_colourAll_7 : decode cX6_colourAll 7 = .ok (.if_icmp .ge 33, 3) := by decide +kernel
theorem dX6_colourAll_10 : decode cX6_colourAll 10 = .ok (.aload_n 0, 1) := by decide +kernel
theorem dX6_colourAll_11 : decode cX6_colourAll 11 = .ok (.iload_n 1, 1) := by decide +kernel
theorem dX6_colourAll_12 : decode cX6_colourAll 12 = .ok (.invokevirtual 118, 3) := by decide +kernel
theorem dX6_colourAll_15 : decode cX6_colourAll 15 = .ok (.istore_n 2, 1) := by decide +kernel
theorem dX6_colourAll_16 : decode cX6_colourAll 16 = .ok (.iload_n 2, 1) := by decide +kernel
theorem dX6_colourAll_17 : decode cX6_colourAll 17 = .ok (.ifCond .ge 5, 3) := by decide +kernel
theorem dX6_colourAll_20 : decode cX6_colourAll 20 = .ok (.iconst 0, 1) := by decide +kernel
theorem dX6_colourAll_21 : decode cX6_colourAll 21 = .ok (.ireturn, 1) := by decide +kernel
theorem dX6_colourAll_22 : decode cX6_colourAll 22 = .ok (.aload_n 0, 1) := by decide +kernel
theorem dX6_colourAll_23 : decode cX6_colourAll 23 = .ok (.getfield 18, 3) := by decide +kernel
theorem dX6_colourAll_26 : decode cX6_colourAll 26 = .ok (.aload_n 0, 1) := by decide +kernel
theorem dX6_colourAll_27 : decode cX6_colourAll 27 = .ok (.getfield 21, 3) := by decide +kernel
theorem dX6_colourAll_30 : decode cX6_colourAll 30 = .ok (.iload_n 1, 1) := by decide +kernel
theorem dX6_colourAll_31 : decode cX6_colourAll 31 = .ok (.iaload, 1) := by decide +kernel
theorem dX6_colourAll_32 : decode cX6_colourAll 32 = .ok (.iload_n 2, 1) := by decide +kernel
theorem dX6_colourAll_33 : decode cX6_colourAll 33 = .ok (.iastore, 1) := by decide +kernel
theorem dX6_colourAll_34 : decode cX6_colourAll 34 = .ok (.iinc 1 1, 3) := by decide +kernel
theorem dX6_colourAll_37 : decode cX6_colourAll 37 = .ok (.goto (-35), 3) := by decide +kernel
theorem dX6_colourAll_40 : decode cX6_colourAll 40 = .ok (.iconst 1, 1) := by decide +kernel
theorem dX6_colourAll_41 : decode cX6_colourAll 41 = .ok (.ireturn, 1) := by decide +kernel
set_option maxRecDepth 20000 in
theorem ggX6_leastFree_J7_fill_53178 : GoodIn wsX6_leastFree wsJ7_fill_53178 := goodIn_r _ [7] (by decide +kernel) (by decide +kernel)
set_option maxRecDepth 20000 in
theorem gX6_leastFree_J7_fill_53178 : GoodIn wsX6_leastFree (va_wsS RX6 71 yJ7_fill_53178 wsJ7_fill_53178) := goodIn_app (goodIn_of _ (by decide +kernel)) ggX6_leastFree_J7_fill_53178
set_option maxRecDepth 20000 in
theorem ggX6_leastFree_X6_markMeetings : GoodIn wsX6_leastFree wsX6_markMeetings := goodIn_r _ [12, 13, 14, 15, 1, 16, 3, 17, 18, 19, 20, 21, 22, 23, 24, 25, 26, 27, 28, 29, 30, 31, 32, 33, 34, 35, 36, 37, 38, 39, 40, 41] (by decide +kernel) (by decide +kernel)
set_option maxRecDepth 20000 in
theorem gX6_leastFree_X6_markMeetings : GoodIn wsX6_leastFree (wsV RX6 122 RX6 yX6_markMeetings wsX6_markMeetings) := goodIn_app (goodIn_of _ (by decide +kernel)) ggX6_leastFree_X6_markMeetings
theorem dX6_leastFree_0 : decode cX6_leastFree 0 = .ok (.aload_n 0, 1) := by decide +kernel
theorem dX6_leastFree_1 : decode cX6_leastFree 1 = .ok (.getfield 27, 3) := by decide +kernel
theorem dX6_leastFree_4 : decode cX6_leastFree 4 = .ok (.iconst 0, 1) := by decide +kernel
theorem dX6_leastFree_5 : decode cX6_leastFree 5 = .ok (.invokestatic 71, 3) := by decide +kernel
theorem dX6_leastFree_8 : decode cX6_leastFree 8 = .ok (.iconst 0, 1) := by decide +kernel
theorem dX6_leastFree_9 : decode cX6_leastFree 9 = .ok (.istore_n 2, 1) := by decide +kernel
theorem dX6_leastFree_10 : decode cX6_leastFree 10 = .ok (.iload_n 2, 1) := by decide +kernel
theorem dX6_leastFree_11 : decode cX6_leastFree 11 = .ok (.iload_n 1, 1) := by decide +kernel
theorem dX6_leastFree_12 : decode cX6_leastFree 12 = .ok (.if_icmp .ge 25, 3) := by decide +kernel
theorem dX6_leastFree_15 : decode cX6_leastFree 15 = .ok (.aload_n 0, 1) := by decide +kernel
theorem dX6_leastFree_16 : decode cX6_leastFree 16 = .ok (.aload_n 0, 1) := by decide +kernel
theorem dX6_leastFree_17 : decode cX6_leastFree 17 = .ok (.getfield 21, 3) := by decide +kernel
theorem dX6_leastFree_20 : decode cX6_leastFree 20 = .ok (.iload_n 2, 1) := by decide +kernel
theorem dX6_leastFree_21 : decode cX6_leastFree 21 = .ok (.iaload, 1) := by decide +kernel
theorem dX6_leastFree_22 : decode cX6_leastFree 22 = .ok (.aload_n 0, 1) := by decide +kernel
theorem dX6_leastFree_23 : decode cX6_leastFree 23 = .ok (.getfield 21, 3) := by decide +kernel
theorem dX6_leastFree_26 : decode cX6_leastFree 26 = .ok (.iload_n 1, 1) := by decide +kernel
theorem dX6_leastFree_27 : decode cX6_leastFree 27 = .ok (.iaload, 1) := by decide +kernel
theorem dX6_leastFree_28 : decode cX6_leastFree 28 = .ok (.invokevirtual 122, 3) := by decide +kernel
theorem dX6_leastFree_31 : decode cX6_leastFree 31 = .ok (.iinc 2 1, 3) := by decide +kernel
theorem dX6_leastFree_34 : decode cX6_leastFree 34 = .ok (.goto (-24), 3) := by decide +kernel
theorem dX6_leastFree_37 : decode cX6_leastFree 37 = .ok (.iconst 0, 1) := by decide +kernel
theorem dX6_leastFree_38 : decode cX6_leastFree 38 = .ok (.istore_n 2, 1) := by decide +kernel
theorem dX6_leastFree_39 : decode cX6_leastFree 39 = .ok (.iload_n 2, 1) := by decide +kernel
theorem dX6_leastFree_40 : decode cX6_leastFree 40 = .ok (.aload_n 0, 1) := by decide +kernel
theorem dX6_leastFree_41 : decode cX6_leastFree 41 = .ok (.getfield 64, 3) := by decide +kernel
theorem dX6_leastFree_44 : decode cX6_leastFree 44 = .ok (.if_icmp .ge 20, 3) := by decide +kernel
theorem dX6_leastFree_47 : decode cX6_leastFree 47 = .ok (.aload_n 0, 1) := by decide +kernel
theorem dX6_leastFree_48 : decode cX6_leastFree 48 = .ok (.getfield 27, 3) := by decide +kernel
theorem dX6_leastFree_51 : decode cX6_leastFree 51 = .ok (.iload_n 2, 1) := by decide +kernel
theorem dX6_leastFree_52 : decode cX6_leastFree 52 = .ok (.iaload, 1) := by decide +kernel
theorem dX6_leastFree_53 : decode cX6_leastFree 53 = .ok (.ifCond .ne 5, 3) := by decide +kernel
theorem dX6_leastFree_56 : decode cX6_leastFree 56 = .ok (.iload_n 2, 1) := by decide +kernel
theorem dX6_leastFree_57 : decode cX6_leastFree 57 = .ok (.ireturn, 1) := by decide +kernel
theorem dX6_leastFree_58 : decode cX6_leastFree 58 = .ok (.iinc 2 1, 3) := by decide +kernel
theorem dX6_leastFree_61 : decode cX6_leastFree 61 = .ok (.goto (-22), 3) := by decide +kernel
theorem dX6_leastFree_64 : decode cX6_leastFree 64 = .ok (.iconst (-1), 1) := by decide +kernel
theorem dX6_leastFree_65 : decode cX6_leastFree 65 = .ok (.ireturn, 1) := by decide +kernel
set_option maxRecDepth 20000 in
theorem ggX6_markMeetings_X9_quotient : GoodIn wsX6_markMeetings wsX9_quotient := goodIn_r _ [9, 10, 11, 12, 13] (by decide +kernel) (by decide +kernel)
set_option maxRecDepth 20000 in
theorem gX6_markMeetings_X9_quotient_n125 : GoodIn wsX6_markMeetings (wsX9_quotient) := ggX6_markMeetings_X9_quotient
set_option maxRecDepth 20000 in
theorem ggX6_markMeetings_X9_rest : GoodIn wsX6_markMeetings wsX9_rest := goodIn_r _ [15, 16, 17, 12, 18] (by decide +kernel) (by decide +kernel)
set_option maxRecDepth 20000 in
theorem gX6_markMeetings_X9_rest_n115 : GoodIn wsX6_markMeetings (wsX9_rest) := ggX6_markMeetings_X9_rest
theorem dX6_markMeetings_0 : decode cX6_markMeetings 0 = .ok (.aload_n 0, 1) := by decide +kernel
theorem dX6_markMeetings_1 : decode cX6_markMeetings 1 = .ok (.getfield 15, 3) := by decide +kernel
theorem dX6_markMeetings_4 : decode cX6_markMeetings 4 = .ok (.iload_n 2, 1) := by decide +kernel
theorem dX6_markMeetings_5 : decode cX6_markMeetings 5 = .ok (.iaload, 1) := by decide +kernel
theorem dX6_markMeetings_6 : decode cX6_markMeetings 6 = .ok (.aload_n 0, 1) := by decide +kernel
theorem dX6_markMeetings_7 : decode cX6_markMeetings 7 = .ok (.getfield 9, 3) := by decide +kernel
theorem dX6_markMeetings_10 : decode cX6_markMeetings 10 = .ok (.iload_n 1, 1) := by decide +kernel
theorem dX6_markMeetings_11 : decode cX6_markMeetings 11 = .ok (.iaload, 1) := by decide +kernel
theorem dX6_markMeetings_12 : decode cX6_markMeetings 12 = .ok (.isub, 1) := by decide +kernel
theorem dX6_markMeetings_13 : decode cX6_markMeetings 13 = .ok (.aload_n 0, 1) := by decide +kernel
theorem dX6_markMeetings_14 : decode cX6_markMeetings 14 = .ok (.getfield 41, 3) := by decide +kernel
theorem dX6_markMeetings_17 : decode cX6_markMeetings 17 = .ok (.invokestatic 125, 3) := by decide +kernel
theorem dX6_markMeetings_20 : decode cX6_markMeetings 20 = .ok (.ineg, 1) := by decide +kernel
theorem dX6_markMeetings_21 : decode cX6_markMeetings 21 = .ok (.istore_n 3, 1) := by decide +kernel
theorem dX6_markMeetings_22 : decode cX6_markMeetings 22 = .ok (.aload_n 0, 1) := by decide +kernel
theorem dX6_markMeetings_23 : decode cX6_markMeetings 23 = .ok (.getfield 15, 3) := by decide +kernel
theorem dX6_markMeetings_26 : decode cX6_markMeetings 26 = .ok (.iload_n 1, 1) := by decide +kernel
theorem dX6_markMeetings_27 : decode cX6_markMeetings 27 = .ok (.iaload, 1) := by decide +kernel
theorem dX6_markMeetings_28 : decode cX6_markMeetings 28 = .ok (.aload_n 0, 1) := by decide +kernel
theorem dX6_markMeetings_29 : decode cX6_markMeetings 29 = .ok (.getfield 9, 3) := by decide +kernel
theorem dX6_markMeetings_32 : decode cX6_markMeetings 32 = .ok (.iload_n 2, 1) := by decide +kernel
theorem dX6_markMeetings_33 : decode cX6_markMeetings 33 = .ok (.iaload, 1) := by decide +kernel
theorem dX6_markMeetings_34 : decode cX6_markMeetings 34 = .ok (.isub, 1) := by decide +kernel
theorem dX6_markMeetings_35 : decode cX6_markMeetings 35 = .ok (.aload_n 0, 1) := by decide +kernel
theorem dX6_markMeetings_36 : decode cX6_markMeetings 36 = .ok (.getfield 41, 3) := by decide +kernel
theorem dX6_markMeetings_39 : decode cX6_markMeetings 39 = .ok (.invokestatic 125, 3) := by decide +kernel
theorem dX6_markMeetings_42 : decode cX6_markMeetings 42 = .ok (.istore 4, 2) := by decide +kernel
theorem dX6_markMeetings_44 : decode cX6_markMeetings 44 = .ok (.iload_n 3, 1) := by decide +kernel
theorem dX6_markMeetings_45 : decode cX6_markMeetings 45 = .ok (.istore 5, 2) := by decide +kernel
theorem dX6_markMeetings_47 : decode cX6_markMeetings 47 = .ok (.iload 5, 2) := by decide +kernel
theorem dX6_markMeetings_49 : decode cX6_markMeetings 49 = .ok (.iload 4, 2) := by decide +kernel
theorem dX6_markMeetings_51 : decode cX6_markMeetings 51 = .ok (.if_icmp .gt 31, 3) := by decide +kernel
theorem dX6_markMeetings_54 : decode cX6_markMeetings 54 = .ok (.aload_n 0, 1) := by decide +kernel
theorem dX6_markMeetings_55 : decode cX6_markMeetings 55 = .ok (.getfield 27, 3) := by decide +kernel
theorem dX6_markMeetings_58 : decode cX6_markMeetings 58 = .ok (.aload_n 0, 1) := by decide +kernel
theorem dX6_markMeetings_59 : decode cX6_markMeetings 59 = .ok (.getfield 18, 3) := by decide +kernel
theorem dX6_markMeetings_62 : decode cX6_markMeetings 62 = .ok (.iload_n 1, 1) := by decide +kernel
theorem dX6_markMeetings_63 : decode cX6_markMeetings 63 = .ok (.iaload, 1) := by decide +kernel
theorem dX6_markMeetings_64 : decode cX6_markMeetings 64 = .ok (.iload 5, 2) := by decide +kernel
theorem dX6_markMeetings_66 : decode cX6_markMeetings 66 = .ok (.iadd, 1) := by decide +kernel
theorem dX6_markMeetings_67 : decode cX6_markMeetings 67 = .ok (.aload_n 0, 1) := by decide +kernel
theorem dX6_markMeetings_68 : decode cX6_markMeetings 68 = .ok (.getfield 64, 3) := by decide +kernel
theorem dX6_markMeetings_71 : decode cX6_markMeetings 71 = .ok (.invokestatic 115, 3) := by decide +kernel
theorem dX6_markMeetings_74 : decode cX6_markMeetings 74 = .ok (.iconst 1, 1) := by decide +kernel
theorem dX6_markMeetings_75 : decode cX6_markMeetings 75 = .ok (.iastore, 1) := by decide +kernel
theorem dX6_markMeetings_76 : decode cX6_markMeetings 76 = .ok (.iinc 5 1, 3) := by decide +kernel
theorem dX6_markMeetings_79 : decode cX6_markMeetings 79 = .ok (.goto (-32), 3) := by decide +kernel
theorem dX6_markMeetings_82 : decode cX6_markMeetings 82 = .ok (.return_, 1) := by decide +kernel
theorem dX7_init_0 : decode cX7_init 0 = .ok (.aload_n 0, 1) := by decide +kernel
theorem dX7_init_1 : decode cX7_init 1 = .ok (.invokespecial 3, 3) := by decide +kernel
theorem dX7_init_4 : decode cX7_init 4 = .ok (.aload_n 0, 1) := by decide +kernel
theorem dX7_init_5 : decode cX7_init 5 = .ok (.bipush 48, 2) := by decide +kernel
theorem dX7_init_7 : decode cX7_init 7 = .ok (.newarray .int, 2) := by decide +kernel
theorem dX7_init_9 : decode cX7_init 9 = .ok (.putfield 9, 3) := by decide +kernel
theorem dX7_init_12 : decode cX7_init 12 = .ok (.aload_n 0, 1) := by decide +kernel
theorem dX7_init_13 : decode cX7_init 13 = .ok (.bipush 48, 2) := by decide +kernel
theorem dX7_init_15 : decode cX7_init 15 = .ok (.newarray .int, 2) := by decide +kernel
theorem dX7_init_17 : decode cX7_init 17 = .ok (.putfield 15, 3) := by decide +kernel
theorem dX7_init_20 : decode cX7_init 20 = .ok (.aload_n 0, 1) := by decide +kernel
theorem dX7_init_21 : decode cX7_init 21 = .ok (.sipush 800, 3) := by decide +kernel
theorem dX7_init_24 : decode cX7_init 24 = .ok (.newarray .int, 2) := by decide +kernel
theorem dX7_init_26 : decode cX7_init 26 = .ok (.putfield 18, 3) := by decide +kernel
theorem dX7_init_29 : decode cX7_init 29 = .ok (.aload_n 0, 1) := by decide +kernel
theorem dX7_init_30 : decode cX7_init 30 = .ok (.aload_n 1, 1) := by decide +kernel
theorem dX7_init_31 : decode cX7_init 31 = .ok (.putfield 21, 3) := by decide +kernel
theorem dX7_init_34 : decode cX7_init 34 = .ok (.aload_n 0, 1) := by decide +kernel
theorem dX7_init_35 : decode cX7_init 35 = .ok (.aload_n 2, 1) := by decide +kernel
theorem dX7_init_36 : decode cX7_init 36 = .ok (.putfield 25, 3) := by decide +kernel
theorem dX7_init_39 : decode cX7_init 39 = .ok (.aload_n 0, 1) := by decide +kernel
theorem dX7_init_40 : decode cX7_init 40 = .ok (.aload_n 3, 1) := by decide +kernel
theorem dX7_init_41 : decode cX7_init 41 = .ok (.putfield 29, 3) := by decide +kernel
theorem dX7_init_44 : decode cX7_init 44 = .ok (.return_, 1) := by decide +kernel
set_option maxRecDepth 20000 in
theorem ggX7_fill_J7_fill_53178 : GoodIn wsX7_fill wsJ7_fill_53178 := goodIn_r _ [11] (by decide +kernel) (by decide +kernel)
set_option maxRecDepth 20000 in
theorem gX7_fill_J7_fill_53178 : GoodIn wsX7_fill (va_wsS RX7 36 yJ7_fill_53178 wsJ7_fill_53178) := goodIn_app (goodIn_of _ (by decide +kernel)) ggX7_fill_J7_fill_53178
set_option maxRecDepth 20000 in
theorem ggX7_fill_X7_highestWithout : GoodIn wsX7_fill wsX7_highestWithout := goodIn_r _ [16, 5, 6, 2, 17, 18, 92, 93, 94, 95, 96, 97, 98, 99, 100, 101, 102, 103, 104, 105, 106, 107, 108, 109, 110, 111, 112, 113] (by decide +kernel) (by decide +kernel)
set_option maxRecDepth 20000 in
theorem gX7_fill_X7_highestWithout : GoodIn wsX7_fill (wsV RX7 47 RX7 yX7_highestWithout wsX7_highestWithout) := goodIn_app (goodIn_of _ (by decide +kernel)) ggX7_fill_X7_highestWithout
set_option maxRecDepth 20000 in
theorem ggX7_fill_X7_tryRow : GoodIn wsX7_fill wsX7_tryRow := goodIn_r _ [22, 3, 2, 23, 24, 25, 15, 26, 17, 27, 28, 29, 30, 31, 32, 33, 34, 35, 36, 37, 38, 39, 1, 40, 41, 42, 43, 44, 45, 46, 47, 5, 48, 49, 50, 51, 52, 53, 54, 55, 56, 4, 57, 58, 59, 60, 61, 62, 63, 64, 65, 66, 67, 6, 68, 69, 70, 71, 72, 73, 74, 75, 76, 77, 78, 79, 80, 81, 82, 83, 92, 93, 94, 95, 96, 97, 98, 99, 100, 104, 105, 106, 107, 108, 109, 110, 111, 112, 113, 101, 102, 103, 114, 115, 116, 117, 118, 119, 120, 121, 122] (by decide +kernel) (by decide +kernel)
set_option maxRecDepth 20000 in
theorem gX7_fill_X7_tryRow : GoodIn wsX7_fill (wsV RX7 54 RX7 yX7_tryRow wsX7_tryRow) := goodIn_app (goodIn_of _ (by decide +kernel)) ggX7_fill_X7_tryRow
set_option maxRecDepth 20000 in
theorem ggX7_fill_X7_moveToZero : GoodIn wsX7_fill wsX7_moveToZero := goodIn_r _ [87, 2, 88, 5, 6, 89, 90, 32, 91, 30, 31, 33, 92, 93, 94, 95, 96, 97, 98, 99, 100, 101, 102, 103] (by decide +kernel) (by decide +kernel)
set_option maxRecDepth 20000 in
theorem gX7_fill_X7_moveToZero : GoodIn wsX7_fill (wsV RX7 58 RX7 yX7_moveToZero wsX7_moveToZero) := goodIn_app (goodIn_of _ (by decide +kernel)) ggX7_fill_X7_moveToZero
theorem dX7_fill_0 : decode cX7_fill 0 = .ok (.iload_n 1, 1) := by decide +kernel
theorem dX7_fill_1 : decode cX7_fill 1 = .ok (.iconst 1, 1) := by decide +kernel
theorem dX7_fill_2 : decode cX7_fill 2 = .ok (.if_icmp .lt 10, 3) := by decide +kernel
theorem dX7_fill_5 : decode cX7_fill 5 = .ok (.iload_n 1, 1) := by decide +kernel
theorem dX7_fill_6 : decode cX7_fill 6 = .ok (.sipush 200, 3) := by decide +kernel
theorem dX7_fill_9 : decode cX7_fill 9 = .ok (.if_icmp .le 5, 3) := by decide +kernel
theorem dX7_fill_12 : decode cX7_fill 12 = .ok (.iconst 0, 1) := by decide +kernel
theorem dX7_fill_13 : decode cX7_fill 13 = .ok (.ireturn, 1) := by decide +kernel
theorem dX7_fill_14 : decode cX7_fill 14 = .ok (.aload_n 0, 1) := by decide +kernel
theorem dX7_fill_15 : decode cX7_fill 15 = .ok (.iload_n 1, 1) := by decide +kernel
theorem dX7_fill_16 : decode cX7_fill 16 = .ok (.putfield 32, 3) := by decide +kernel
theorem dX7_fill_19 : decode cX7_fill 19 = .ok (.aload_n 0, 1) := by decide +kernel
theorem dX7_fill_20 : decode cX7_fill 20 = .ok (.getfield 9, 3) := by decide +kernel
theorem dX7_fill_23 : decode cX7_fill 23 = .ok (.iconst (-1), 1) := by decide +kernel
theorem dX7_fill_24 : decode cX7_fill 24 = .ok (.invokestatic 36, 3) := by decide +kernel
theorem dX7_fill_27 : decode cX7_fill 27 = .ok (.aload_n 0, 1) := by decide +kernel
theorem dX7_fill_28 : decode cX7_fill 28 = .ok (.getfield 15, 3) := by decide +kernel
theorem dX7_fill_31 : decode cX7_fill 31 = .ok (.iconst (-1), 1) := by decide +kernel
theorem dX7_fill_32 : decode cX7_fill 32 = .ok (.invokestatic 36, 3) := by decide +kernel
theorem dX7_fill_35 : decode cX7_fill 35 = .ok (.aload_n 0, 1) := by decide +kernel
theorem dX7_fill_36 : decode cX7_fill 36 = .ok (.getfield 18, 3) := by decide +kernel
theorem dX7_fill_39 : decode cX7_fill 39 = .ok (.iconst 0, 1) := by decide +kernel
theorem dX7_fill_40 : decode cX7_fill 40 = .ok (.invokestatic 36, 3) := by decide +kernel
theorem dX7_fill_43 : decode cX7_fill 43 = .ok (.bipush 8, 2) := by decide +kernel
theorem dX7_fill_45 : decode cX7_fill 45 = .ok (.aload_n 0, 1) := by decide +kernel
theorem dX7_fill_46 : decode cX7_fill 46 = .ok (.getfield 21, 3) := by decide +kernel
theorem dX7_fill_49 : decode cX7_fill 49 = .ok (.getfield 42, 3) := by decide +kernel
theorem dX7_fill_52 : decode cX7_fill 52 = .ok (.imul, 1) := by decide +kernel
theorem dX7_fill_53 : decode cX7_fill 53 = .ok (.istore_n 2, 1) := by decide +kernel
theorem dX7_fill_54 : decode cX7_fill 54 = .ok (.aload_n 0, 1) := by decide +kernel
theorem dX7_fill_55 : decode cX7_fill 55 = .ok (.invokevirtual 47, 3) := by decide +kernel
theorem dX7_fill_58 : decode cX7_fill 58 = .ok (.istore_n 3, 1) := by decide +kernel
theorem dX7_fill_59 : decode cX7_fill 59 = .ok (.aload_n 0, 1) := by decide +kernel
theorem dX7_fill_60 : decode cX7_fill 60 = .ok (.iconst 0, 1) := by decide +kernel
theorem dX7_fill_61 : decode cX7_fill 61 = .ok (.putfield 51, 3) := by decide +kernel
theorem dX7_fill_64 : decode cX7_fill 64 = .ok (.aload_n 0, 1) := by decide +kernel
theorem dX7_fill_65 : decode cX7_fill 65 = .ok (.getfield 51, 3) := by decide +kernel
theorem dX7_fill_68 : decode cX7_fill 68 = .ok (.iload_n 2, 1) := by decide +kernel
theorem dX7_fill_69 : decode cX7_fill 69 = .ok (.if_icmp .ge 30, 3) := by decide +kernel
theorem dX7_fill_72 : decode cX7_fill 72 = .ok (.iload_n 3, 1) := by decide +kernel
theorem dX7_fill_73 : decode cX7_fill 73 = .ok (.ifCond .lt 26, 3) := by decide +kernel
theorem dX7_fill_76 : decode cX7_fill 76 = .ok (.aload_n 0, 1) := by decide +kernel
theorem dX7_fill_77 : decode cX7_fill 77 = .ok (.iload_n 3, 1) := by decide +kernel
theorem dX7_fill_78 : decode cX7_fill 78 = .ok (.invokevirtual 54, 3) := by decide +kernel
theorem dX7_fill_81 : decode cX7_fill 81 = .ok (.aload_n 0, 1) := by decide +kernel
theorem dX7_fill_82 : decode cX7_fill 82 = .ok (.invokevirtual 47, 3) := by decide +kernel
theorem dX7_fill_85 : decode cX7_fill 85 = .ok (.istore_n 3, 1) := by decide +kernel
theorem dX7_fill_86 : decode cX7_fill 86 = .ok (.aload_n 0, 1) := by decide +kernel
theorem dX7_fill_87 : decode cX7_fill 87 = .ok (.dup, 1) := by decide +kernel
theorem dX7_fill_88 : decode cX7_fill 88 = .ok (.getfield 51, 3) := by decide +kernel
theorem dX7_fill_91 : decode cX7_fill 91 = .ok (.iconst 1, 1) := by decide +kernel
theorem dX7_fill_92 : decode cX7_fill 92 = .ok (.iadd, 1) := by decide +kernel
theorem dX7_fill_93 : decode cX7_fill 93 = .ok (.putfield 51, 3) := by decide +kernel
theorem dX7_fill_96 : decode cX7_fill 96 = .ok (.goto (-32), 3) := by decide +kernel
theorem dX7_fill_99 : decode cX7_fill 99 = .ok (.iload_n 3, 1) := by decide +kernel
theorem dX7_fill_100 : decode cX7_fill 100 = .ok (.ifCond .lt 5, 3) := by decide +kernel
theorem dX7_fill_103 : decode cX7_fill 103 = .ok (.iconst 0, 1) := by decide +kernel
theorem dX7_fill_104 : decode cX7_fill 104 = .ok (.ireturn, 1) := by decide +kernel
theorem dX7_fill_105 : decode cX7_fill 105 = .ok (.aload_n 0, 1) := by decide +kernel
theorem dX7_fill_106 : decode cX7_fill 106 = .ok (.invokevirtual 58, 3) := by decide +kernel
theorem dX7_fill_109 : decode cX7_fill 109 = .ok (.iconst 1, 1) := by decide +kernel
theorem dX7_fill_110 : decode cX7_fill 110 = .ok (.ireturn, 1) := by decide +kernel
theorem dX7_highestWithout_0 : decode cX7_highestWithout 0 = .ok (.iconst (-1), 1) := by decide +kernel
theorem dX7_highestWithout_1 : decode cX7_highestWithout 1 = .ok (.istore_n 1, 1) := by decide +kernel
theorem dX7_highestWithout_2 : decode cX7_highestWithout 2 = .ok (.iconst 0, 1) := by decide +kernel
theorem dX7_highestWithout_3 : decode cX7_highestWithout 3 = .ok (.istore_n 2, 1) := by decide +kernel
theorem dX7_highestWithout_4 : decode cX7_highestWithout 4 = .ok (.iload_n 2, 1) := by decide +kernel
theorem dX7_highestWithout_5 : decode cX7_highestWithout 5 = .ok (.aload_n 0, 1) := by decide +kernel
theorem dX7_highestWithout_6 : decode cX7_highestWithout 6 = .ok (.getfield 21, 3) := by decide +kernel
theorem dX7_highestWithout_9 : decode cX7_highestWithout 9 = .ok (.getfield 42, 3) := by decide +kernel
theorem dX7_highestWithout_12 : decode cX7_highestWithout 12 = .ok (.if_icmp .ge 46, 3) := by decide +kernel
theorem dX7_highestWithout_15 : decode cX7_highestWithout 15 = .ok (.aload_n 0, 1) := by decide +kernel
theorem dX7_highestWithout_16 : decode cX7_highestWithout 16 = .ok (.getfield 9, 3) := by decide +kernel
theorem dX7_highestWithout_19 : decode cX7_highestWithout 19 = .ok (.iload_n 2, 1) := by decide +kernel
theorem dX7_highestWithout_20 : decode cX7_highestWithout 20 = .ok (.iaload, 1) := by decide +kernel
theorem dX7_highestWithout_21 : decode cX7_highestWithout 21 = .ok (.iconst (-1), 1) := by decide +kernel
theorem dX7_highestWithout_22 : decode cX7_highestWithout 22 = .ok (.if_icmp .ne 30, 3) := by decide +kernel
theorem dX7_highestWithout_25 : decode cX7_highestWithout 25 = .ok (.iload_n 1, 1) := by decide +kernel
theorem dX7_highestWithout_26 : decode cX7_highestWithout 26 = .ok (.ifCond .lt 24, 3) := by decide +kernel
theorem dX7_highestWithout_29 : decode cX7_highestWithout 29 = .ok (.aload_n 0, 1) := by decide +kernel
theorem dX7_highestWithout_30 : decode cX7_highestWithout 30 = .ok (.getfield 25, 3) := by decide +kernel
theorem dX7_highestWithout_33 : decode cX7_highestWithout 33 = .ok (.getfield 61, 3) := by decide +kernel
theorem dX7_highestWithout_36 : decode cX7_highestWithout 36 = .ok (.iload_n 2, 1) := by decide +kernel
theorem dX7_highestWithout_37 : decode cX7_highestWithout 37 = .ok (.iaload, 1) := by decide +kernel
theorem dX7_highestWithout_38 : decode cX7_highestWithout 38 = .ok (.aload_n 0, 1) := by decide +kernel
theorem dX7_highestWithout_39 : decode cX7_highestWithout 39 = .ok (.getfield 25, 3) := by decide +kernel
theorem dX7_highestWithout_42 : decode cX7_highestWithout 42 = .ok (.getfield 61, 3) := by decide +kernel
theorem dX7_highestWithout_45 : decode cX7_highestWithout 45 = .ok (.iload_n 1, 1) := by decide +kernel
theorem dX7_highestWithout_46 : decode cX7_highestWithout 46 = .ok (.iaload, 1) := by decide +kernel
theorem dX7_highestWithout_47 : decode cX7_highestWithout 47 = .ok (.if_icmp .le 5, 3) := by decide +kernel
theorem dX7_highestWithout_50 : decode cX7_highestWithout 50 = .ok (.iload_n 2, 1) := by decide +kernel
theorem dX7_highestWithout_51 : decode cX7_highestWithout 51 = .ok (.istore_n 1, 1) := by decide +kernel
theorem dX7_highestWithout_52 : decode cX7_highestWithout 52 = .ok (.iinc 2 1, 3) := by decide +kernel
theorem dX7_highestWithout_55 : decode cX7_highestWithout 55 = .ok (.goto (-51), 3) := by decide +kernel
theorem dX7_highestWithout_58 : decode cX7_highestWithout 58 = .ok (.iload_n 1, 1) := by decide +kernel
theorem dX7_highestWithout_59 : decode cX7_highestWithout 59 = .ok (.ireturn, 1) := by decide +kernel
set_option maxRecDepth 20000 in
theorem ggX7_tryRow_X7_earliestOf : GoodIn wsX7_tryRow wsX7_earliestOf := goodIn_r _ [7, 8, 9, 10, 11, 2, 12, 13, 14, 15, 16, 17, 18, 6, 19, 20, 21, 22, 70, 71, 72, 73, 74, 75, 76, 77, 78, 79, 80, 81, 82, 83, 84, 85, 86, 87, 88] (by decide +kernel) (by decide +kernel)
set_option maxRecDepth 20000 in
theorem gX7_tryRow_X7_earliestOf : GoodIn wsX7_tryRow (wsV RX7 66 RX7 yX7_earliestOf wsX7_earliestOf) := goodIn_app (goodIn_of _ (by decide +kernel)) ggX7_tryRow_X7_earliestOf
set_option maxRecDepth 20000 in
theorem ggX7_tryRow_X7_firstWithRoom : GoodIn wsX7_tryRow wsX7_firstWithRoom := goodIn_r _ [26, 22, 27, 28, 29, 6, 30, 31, 32, 33, 34, 35, 36, 37, 38, 39, 40, 41, 42, 43, 44, 45, 46, 47, 48, 70, 71, 72, 73, 74, 75, 76, 77, 78, 89, 90, 91, 92, 93, 94, 95, 96, 97, 98, 99, 100] (by decide +kernel) (by decide +kernel)
set_option maxRecDepth 20000 in
theorem gX7_tryRow_X7_firstWithRoom : GoodIn wsX7_tryRow (wsV RX7 70 RX7 yX7_firstWithRoom wsX7_firstWithRoom) := goodIn_app (goodIn_of _ (by decide +kernel)) ggX7_tryRow_X7_firstWithRoom
set_option maxRecDepth 20000 in
theorem ggX7_tryRow_X7_makeRoom : GoodIn wsX7_tryRow wsX7_makeRoom := goodIn_r _ [52, 31, 32, 33, 53, 34, 35, 36, 37, 38, 39, 6, 40, 41, 22, 42, 43, 44, 45, 46, 47, 48, 54, 55, 56, 57, 2, 58, 59, 60, 61, 62, 63, 64, 65, 70, 71, 72, 73, 74, 75, 76, 77, 78, 89, 90, 91, 92, 93, 94, 95, 96, 97, 98, 99, 100] (by decide +kernel) (by decide +kernel)
set_option maxRecDepth 20000 in
theorem gX7_tryRow_X7_makeRoom : GoodIn wsX7_tryRow (wsV RX7 74 RX7 yX7_makeRoom wsX7_makeRoom) := goodIn_app (goodIn_of _ (by decide +kernel)) ggX7_tryRow_X7_makeRoom
set_option maxRecDepth 20000 in
theorem ggX7_tryRow_X7_changeUse : GoodIn wsX7_tryRow wsX7_changeUse := goodIn_r _ [65, 31, 32, 33, 41, 2, 22, 34, 35, 36, 43, 44, 45, 46, 47, 48, 70, 71, 72, 73, 74, 75, 76, 77, 78, 89, 90, 91, 92, 93, 94, 95, 96, 97, 98, 99, 100] (by decide +kernel) (by decide +kernel)
set_option maxRecDepth 20000 in
theorem gX7_tryRow_X7_changeUse : GoodIn wsX7_tryRow (wsV RX7 78 RX7 yX7_changeUse wsX7_changeUse) := goodIn_app (goodIn_of _ (by decide +kernel)) ggX7_tryRow_X7_changeUse
set_option maxRecDepth 20000 in
theorem ggX7_tryRow_X7_dropBroken : GoodIn wsX7_tryRow wsX7_dropBroken := goodIn_r _ [69, 8, 9, 10, 11, 2, 16, 17, 18, 6, 19, 20, 21, 22, 58, 59, 60, 61, 62, 63, 64, 65, 31, 32, 33, 41, 34, 35, 36, 43, 44, 45, 46, 47, 48, 70, 71, 72, 73, 74, 75, 76, 77, 78, 79, 80, 81, 82, 83, 84, 85, 86, 87, 88, 89, 90, 91, 92, 93, 94, 95, 96, 97, 98, 99, 100] (by decide +kernel) (by decide +kernel)
set_option maxRecDepth 20000 in
theorem gX7_tryRow_X7_dropBroken : GoodIn wsX7_tryRow (wsV RX7 81 RX7 yX7_dropBroken wsX7_dropBroken) := goodIn_app (goodIn_of _ (by decide +kernel)) ggX7_tryRow_X7_dropBroken
theorem dX7_tryRow_0 : decode cX7_tryRow 0 = .ok (.aload_n 0, 1) := by decide +kernel
theorem dX7_tryRow_1 : decode cX7_tryRow 1 = .ok (.iload_n 1, 1) := by decide +kernel
theorem dX7_tryRow_2 : decode cX7_tryRow 2 = .ok (.invokevirtual 66, 3) := by decide +kernel
theorem dX7_tryRow_5 : decode cX7_tryRow 5 = .ok (.istore_n 2, 1) := by decide +kernel
theorem dX7_tryRow_6 : decode cX7_tryRow 6 = .ok (.aload_n 0, 1) := by decide +kernel
theorem dX7_tryRow_7 : decode cX7_tryRow 7 = .ok (.iload_n 1, 1) := by decide +kernel
theorem dX7_tryRow_8 : decode cX7_tryRow 8 = .ok (.iload_n 2, 1) := by decide +kernel
theorem dX7_tryRow_9 : decode cX7_tryRow 9 = .ok (.invokevirtual 70, 3) := by decide +kernel
theorem dX7_tryRow_12 : decode cX7_tryRow 12 = .ok (.istore_n 3, 1) := by decide +kernel
theorem dX7_tryRow_13 : decode cX7_tryRow 13 = .ok (.iload_n 3, 1) := by decide +kernel
theorem dX7_tryRow_14 : decode cX7_tryRow 14 = .ok (.iconst (-1), 1) := by decide +kernel
theorem dX7_tryRow_15 : decode cX7_tryRow 15 = .ok (.if_icmp .ne 42, 3) := by decide +kernel
theorem dX7_tryRow_18 : decode cX7_tryRow 18 = .ok (.aload_n 0, 1) := by decide +kernel
theorem dX7_tryRow_19 : decode cX7_tryRow 19 = .ok (.getfield 15, 3) := by decide +kernel
theorem dX7_tryRow_22 : decode cX7_tryRow 22 = .ok (.iload_n 1, 1) := by decide +kernel
theorem dX7_tryRow_23 : decode cX7_tryRow 23 = .ok (.iaload, 1) := by decide +kernel
theorem dX7_tryRow_24 : decode cX7_tryRow 24 = .ok (.iconst (-1), 1) := by decide +kernel
theorem dX7_tryRow_25 : decode cX7_tryRow 25 = .ok (.if_icmp .eq 24, 3) := by decide +kernel
theorem dX7_tryRow_28 : decode cX7_tryRow 28 = .ok (.iload_n 2, 1) := by decide +kernel
theorem dX7_tryRow_29 : decode cX7_tryRow 29 = .ok (.aload_n 0, 1) := by decide +kernel
theorem dX7_tryRow_30 : decode cX7_tryRow 30 = .ok (.getfield 15, 3) := by decide +kernel
theorem dX7_tryRow_33 : decode cX7_tryRow 33 = .ok (.iload_n 1, 1) := by decide +kernel
theorem dX7_tryRow_34 : decode cX7_tryRow 34 = .ok (.iaload, 1) := by decide +kernel
theorem dX7_tryRow_35 : decode cX7_tryRow 35 = .ok (.if_icmp .gt 14, 3) := by decide +kernel
theorem dX7_tryRow_38 : decode cX7_tryRow 38 = .ok (.aload_n 0, 1) := by decide +kernel
theorem dX7_tryRow_39 : decode cX7_tryRow 39 = .ok (.getfield 15, 3) := by decide +kernel
theorem dX7_tryRow_42 : decode cX7_tryRow 42 = .ok (.iload_n 1, 1) := by decide +kernel
theorem dX7_tryRow_43 : decode cX7_tryRow 43 = .ok (.iaload, 1) := by decide +kernel
theorem dX7_tryRow_44 : decode cX7_tryRow 44 = .ok (.iconst 1, 1) := by decide +kernel
theorem dX7_tryRow_45 : decode cX7_tryRow 45 = .ok (.iadd, 1) := by decide +kernel
theorem dX7_tryRow_46 : decode cX7_tryRow 46 = .ok (.goto 4, 3) := by decide +kernel
theorem dX7_tryRow_49 : decode cX7_tryRow 49 = .ok (.iload_n 2, 1) := by decide +kernel
theorem dX7_tryRow_50 : decode cX7_tryRow 50 = .ok (.istore_n 3, 1) := by decide +kernel
theorem dX7_tryRow_51 : decode cX7_tryRow 51 = .ok (.aload_n 0, 1) := by decide +kernel
theorem dX7_tryRow_52 : decode cX7_tryRow 52 = .ok (.iload_n 1, 1) := by decide +kernel
theorem dX7_tryRow_53 : decode cX7_tryRow 53 = .ok (.iload_n 3, 1) := by decide +kernel
theorem dX7_tryRow_54 : decode cX7_tryRow 54 = .ok (.invokevirtual 74, 3) := by decide +kernel
theorem dX7_tryRow_57 : decode cX7_tryRow 57 = .ok (.aload_n 0, 1) := by decide +kernel
theorem dX7_tryRow_58 : decode cX7_tryRow 58 = .ok (.getfield 9, 3) := by decide +kernel
theorem dX7_tryRow_61 : decode cX7_tryRow 61 = .ok (.iload_n 1, 1) := by decide +kernel
theorem dX7_tryRow_62 : decode cX7_tryRow 62 = .ok (.iload_n 3, 1) := by decide +kernel
theorem dX7_tryRow_63 : decode cX7_tryRow 63 = .ok (.iastore, 1) := by decide +kernel
theorem dX7_tryRow_64 : decode cX7_tryRow 64 = .ok (.aload_n 0, 1) := by decide +kernel
theorem dX7_tryRow_65 : decode cX7_tryRow 65 = .ok (.getfield 15, 3) := by decide +kernel
theorem dX7_tryRow_68 : decode cX7_tryRow 68 = .ok (.iload_n 1, 1) := by decide +kernel
theorem dX7_tryRow_69 : decode cX7_tryRow 69 = .ok (.iload_n 3, 1) := by decide +kernel
theorem dX7_tryRow_70 : decode cX7_tryRow 70 = .ok (.iastore, 1) := by decide +kernel
theorem dX7_tryRow_71 : decode cX7_tryRow 71 = .ok (.aload_n 0, 1) := by decide +kernel
theorem dX7_tryRow_72 : decode cX7_tryRow 72 = .ok (.iload_n 1, 1) := by decide +kernel
theorem dX7_tryRow_73 : decode cX7_tryRow 73 = .ok (.iconst 1, 1) := by decide +kernel
theorem dX7_tryRow_74 : decode cX7_tryRow 74 = .ok (.invokevirtual 78, 3) := by decide +kernel
theorem dX7_tryRow_77 : decode cX7_tryRow 77 = .ok (.aload_n 0, 1) := by decide +kernel
theorem dX7_tryRow_78 : decode cX7_tryRow 78 = .ok (.iload_n 1, 1) := by decide +kernel
theorem dX7_tryRow_79 : decode cX7_tryRow 79 = .ok (.invokevirtual 81, 3) := by decide +kernel
theorem dX7_tryRow_82 : decode cX7_tryRow 82 = .ok (.return_, 1) := by decide +kernel
set_option maxRecDepth 20000 in
theorem ggX7_earliestOf_X7_boundOf : GoodIn wsX7_earliestOf wsX7_boundOf := goodIn_r _ [14, 5, 1, 3, 15, 16, 17, 18, 19, 20, 21, 22, 23, 24, 25, 26, 27, 28, 29, 30, 31, 32, 33, 34, 35, 36] (by decide +kernel) (by decide +kernel)
set_option maxRecDepth 20000 in
theorem gX7_earliestOf_X7_boundOf : GoodIn wsX7_earliestOf (wsV RX7 91 RX7 yX7_boundOf wsX7_boundOf) := goodIn_app (goodIn_of _ (by decide +kernel)) ggX7_earliestOf_X7_boundOf
theorem dX7_earliestOf_0 : decode cX7_earliestOf 0 = .ok (.iconst 0, 1) := by decide +kernel
theorem dX7_earliestOf_1 : decode cX7_earliestOf 1 = .ok (.istore_n 2, 1) := by decide +kernel
theorem dX7_earliestOf_2 : decode cX7_earliestOf 2 = .ok (.iconst 0, 1) := by decide +kernel
theorem dX7_earliestOf_3 : decode cX7_earliestOf 3 = .ok (.istore_n 3, 1) := by decide +kernel
theorem dX7_earliestOf_4 : decode cX7_earliestOf 4 = .ok (.iload_n 3, 1) := by decide +kernel
theorem dX7_earliestOf_5 : decode cX7_earliestOf 5 = .ok (.aload_n 0, 1) := by decide +kernel
theorem dX7_earliestOf_6 : decode cX7_earliestOf 6 = .ok (.getfield 25, 3) := by decide +kernel
theorem dX7_earliestOf_9 : decode cX7_earliestOf 9 = .ok (.getfield 84, 3) := by decide +kernel
theorem dX7_earliestOf_12 : decode cX7_earliestOf 12 = .ok (.if_icmp .ge 60, 3) := by decide +kernel
theorem dX7_earliestOf_15 : decode cX7_earliestOf 15 = .ok (.aload_n 0, 1) := by decide +kernel
theorem dX7_earliestOf_16 : decode cX7_earliestOf 16 = .ok (.getfield 25, 3) := by decide +kernel
theorem dX7_earliestOf_19 : decode cX7_earliestOf 19 = .ok (.getfield 85, 3) := by decide +kernel
theorem dX7_earliestOf_22 : decode cX7_earliestOf 22 = .ok (.iload_n 3, 1) := by decide +kernel
theorem dX7_earliestOf_23 : decode cX7_earliestOf 23 = .ok (.iaload, 1) := by decide +kernel
theorem dX7_earliestOf_24 : decode cX7_earliestOf 24 = .ok (.istore 4, 2) := by decide +kernel
theorem dX7_earliestOf_26 : decode cX7_earliestOf 26 = .ok (.aload_n 0, 1) := by decide +kernel
theorem dX7_earliestOf_27 : decode cX7_earliestOf 27 = .ok (.getfield 25, 3) := by decide +kernel
theorem dX7_earliestOf_30 : decode cX7_earliestOf 30 = .ok (.getfield 88, 3) := by decide +kernel
