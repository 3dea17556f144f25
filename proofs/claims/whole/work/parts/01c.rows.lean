theorem dX7_earliestOf_33 : decode cX7_earliestOf 33 = .ok (.iload_n 3, 1) := by decide +kernel
theorem dX7_earliestOf_34 : decode cX7_earliestOf 34 = .ok (.iaload, 1) := by decide +kernel
theorem dX7_earliestOf_35 : decode cX7_earliestOf 35 = .ok (.iload_n 1, 1) := by decide +kernel
theorem dX7_earliestOf_36 : decode cX7_earliestOf 36 = .ok (.if_icmp .ne 30, 3) := by decide +kernel
theorem dX7_earliestOf_39 : decode cX7_earliestOf 39 = .ok (.iload 4, 2) := by decide +kernel
theorem dX7_earliestOf_41 : decode cX7_earliestOf 41 = .ok (.iload_n 1, 1) := by decide +kernel
theorem dX7_earliestOf_42 : decode cX7_earliestOf 42 = .ok (.if_icmp .eq 24, 3) := by decide +kernel
theorem dX7_earliestOf_45 : decode cX7_earliestOf 45 = .ok (.aload_n 0, 1) := by decide +kernel
theorem dX7_earliestOf_46 : decode cX7_earliestOf 46 = .ok (.getfield 9, 3) := by decide +kernel
theorem dX7_earliestOf_49 : decode cX7_earliestOf 49 = .ok (.iload 4, 2) := by decide +kernel
theorem dX7_earliestOf_51 : decode cX7_earliestOf 51 = .ok (.iaload, 1) := by decide +kernel
theorem dX7_earliestOf_52 : decode cX7_earliestOf 52 = .ok (.iconst (-1), 1) := by decide +kernel
theorem dX7_earliestOf_53 : decode cX7_earliestOf 53 = .ok (.if_icmp .eq 13, 3) := by decide +kernel
theorem dX7_earliestOf_56 : decode cX7_earliestOf 56 = .ok (.iload_n 2, 1) := by decide +kernel
theorem dX7_earliestOf_57 : decode cX7_earliestOf 57 = .ok (.aload_n 0, 1) := by decide +kernel
theorem dX7_earliestOf_58 : decode cX7_earliestOf 58 = .ok (.iload_n 3, 1) := by decide +kernel
theorem dX7_earliestOf_59 : decode cX7_earliestOf 59 = .ok (.invokevirtual 91, 3) := by decide +kernel
theorem dX7_earliestOf_62 : decode cX7_earliestOf 62 = .ok (.invokestatic 94, 3) := by decide +kernel
theorem dX7_earliestOf_65 : decode cX7_earliestOf 65 = .ok (.istore_n 2, 1) := by decide +kernel
theorem dX7_earliestOf_66 : decode cX7_earliestOf 66 = .ok (.iinc 3 1, 3) := by decide +kernel
theorem dX7_earliestOf_69 : decode cX7_earliestOf 69 = .ok (.goto (-65), 3) := by decide +kernel
theorem dX7_earliestOf_72 : decode cX7_earliestOf 72 = .ok (.iload_n 2, 1) := by decide +kernel
theorem dX7_earliestOf_73 : decode cX7_earliestOf 73 = .ok (.ireturn, 1) := by decide +kernel
theorem dX7_boundOf_0 : decode cX7_boundOf 0 = .ok (.aload_n 0, 1) := by decide +kernel
theorem dX7_boundOf_1 : decode cX7_boundOf 1 = .ok (.getfield 9, 3) := by decide +kernel
theorem dX7_boundOf_4 : decode cX7_boundOf 4 = .ok (.aload_n 0, 1) := by decide +kernel
theorem dX7_boundOf_5 : decode cX7_boundOf 5 = .ok (.getfield 25, 3) := by decide +kernel
theorem dX7_boundOf_8 : decode cX7_boundOf 8 = .ok (.getfield 85, 3) := by decide +kernel
theorem dX7_boundOf_11 : decode cX7_boundOf 11 = .ok (.iload_n 1, 1) := by decide +kernel
theorem dX7_boundOf_12 : decode cX7_boundOf 12 = .ok (.iaload, 1) := by decide +kernel
theorem dX7_boundOf_13 : decode cX7_boundOf 13 = .ok (.iaload, 1) := by decide +kernel
theorem dX7_boundOf_14 : decode cX7_boundOf 14 = .ok (.aload_n 0, 1) := by decide +kernel
theorem dX7_boundOf_15 : decode cX7_boundOf 15 = .ok (.getfield 25, 3) := by decide +kernel
theorem dX7_boundOf_18 : decode cX7_boundOf 18 = .ok (.getfield 99, 3) := by decide +kernel
theorem dX7_boundOf_21 : decode cX7_boundOf 21 = .ok (.iload_n 1, 1) := by decide +kernel
theorem dX7_boundOf_22 : decode cX7_boundOf 22 = .ok (.iaload, 1) := by decide +kernel
theorem dX7_boundOf_23 : decode cX7_boundOf 23 = .ok (.iadd, 1) := by decide +kernel
theorem dX7_boundOf_24 : decode cX7_boundOf 24 = .ok (.aload_n 0, 1) := by decide +kernel
theorem dX7_boundOf_25 : decode cX7_boundOf 25 = .ok (.getfield 25, 3) := by decide +kernel
theorem dX7_boundOf_28 : decode cX7_boundOf 28 = .ok (.getfield 102, 3) := by decide +kernel
theorem dX7_boundOf_31 : decode cX7_boundOf 31 = .ok (.iload_n 1, 1) := by decide +kernel
theorem dX7_boundOf_32 : decode cX7_boundOf 32 = .ok (.iaload, 1) := by decide +kernel
theorem dX7_boundOf_33 : decode cX7_boundOf 33 = .ok (.aload_n 0, 1) := by decide +kernel
theorem dX7_boundOf_34 : decode cX7_boundOf 34 = .ok (.getfield 32, 3) := by decide +kernel
theorem dX7_boundOf_37 : decode cX7_boundOf 37 = .ok (.imul, 1) := by decide +kernel
theorem dX7_boundOf_38 : decode cX7_boundOf 38 = .ok (.isub, 1) := by decide +kernel
theorem dX7_boundOf_39 : decode cX7_boundOf 39 = .ok (.ireturn, 1) := by decide +kernel
set_option maxRecDepth 20000 in
theorem ggX7_firstWithRoom_X7_hasRoom : GoodIn wsX7_firstWithRoom wsX7_hasRoom := goodIn_r _ [6, 7, 8, 9, 10, 11, 12, 13, 14, 15, 5, 16, 17, 1, 18, 19, 20, 21, 22, 23, 24, 25, 26, 27, 28, 29, 30, 31, 32, 33, 34, 35, 36, 37, 38, 39, 40, 41, 42, 43, 44, 45] (by decide +kernel) (by decide +kernel)
set_option maxRecDepth 20000 in
theorem gX7_firstWithRoom_X7_hasRoom : GoodIn wsX7_firstWithRoom (wsV RX7 105 RX7 yX7_hasRoom wsX7_hasRoom) := goodIn_app (goodIn_of _ (by decide +kernel)) ggX7_firstWithRoom_X7_hasRoom
theorem dX7_firstWithRoom_0 : decode cX7_firstWithRoom 0 = .ok (.iload_n 2, 1) := by decide +kernel
theorem dX7_firstWithRoom_1 : decode cX7_firstWithRoom 1 = .ok (.istore_n 3, 1) := by decide +kernel
theorem dX7_firstWithRoom_2 : decode cX7_firstWithRoom 2 = .ok (.iload_n 3, 1) := by decide +kernel
theorem dX7_firstWithRoom_3 : decode cX7_firstWithRoom 3 = .ok (.iload_n 2, 1) := by decide +kernel
theorem dX7_firstWithRoom_4 : decode cX7_firstWithRoom 4 = .ok (.aload_n 0, 1) := by decide +kernel
theorem dX7_firstWithRoom_5 : decode cX7_firstWithRoom 5 = .ok (.getfield 32, 3) := by decide +kernel
theorem dX7_firstWithRoom_8 : decode cX7_firstWithRoom 8 = .ok (.iadd, 1) := by decide +kernel
theorem dX7_firstWithRoom_9 : decode cX7_firstWithRoom 9 = .ok (.if_icmp .ge 20, 3) := by decide +kernel
theorem dX7_firstWithRoom_12 : decode cX7_firstWithRoom 12 = .ok (.aload_n 0, 1) := by decide +kernel
theorem dX7_firstWithRoom_13 : decode cX7_firstWithRoom 13 = .ok (.iload_n 1, 1) := by decide +kernel
theorem dX7_firstWithRoom_14 : decode cX7_firstWithRoom 14 = .ok (.iload_n 3, 1) := by decide +kernel
theorem dX7_firstWithRoom_15 : decode cX7_firstWithRoom 15 = .ok (.invokevirtual 105, 3) := by decide +kernel
theorem dX7_firstWithRoom_18 : decode cX7_firstWithRoom 18 = .ok (.ifCond .eq 5, 3) := by decide +kernel
theorem dX7_firstWithRoom_21 : decode cX7_firstWithRoom 21 = .ok (.iload_n 3, 1) := by decide +kernel
theorem dX7_firstWithRoom_22 : decode cX7_firstWithRoom 22 = .ok (.ireturn, 1) := by decide +kernel
theorem dX7_firstWithRoom_23 : decode cX7_firstWithRoom 23 = .ok (.iinc 3 1, 3) := by decide +kernel
theorem dX7_firstWithRoom_26 : decode cX7_firstWithRoom 26 = .ok (.goto (-24), 3) := by decide +kernel
theorem dX7_firstWithRoom_29 : decode cX7_firstWithRoom 29 = .ok (.iconst (-1), 1) := by decide +kernel
theorem dX7_firstWithRoom_30 : decode cX7_firstWithRoom 30 = .ok (.ireturn, 1) := by decide +kernel
set_option maxRecDepth 20000 in
theorem ggX7_hasRoom_X9_isInGroup : GoodIn wsX7_hasRoom wsX9_isInGroup := goodIn_r _ [6] (by decide +kernel) (by decide +kernel)
set_option maxRecDepth 20000 in
theorem gX7_hasRoom_X9_isInGroup_n118 : GoodIn wsX7_hasRoom (wsX9_isInGroup) := ggX7_hasRoom_X9_isInGroup
set_option maxRecDepth 20000 in
theorem ggX7_hasRoom_X7_isFull : GoodIn wsX7_hasRoom wsX7_isFull := goodIn_r _ [11, 12, 13, 14, 15, 5, 16, 17, 18, 19, 20, 21, 22, 23, 24, 25, 26, 27, 28, 29] (by decide +kernel) (by decide +kernel)
set_option maxRecDepth 20000 in
theorem gX7_hasRoom_X7_isFull : GoodIn wsX7_hasRoom (wsV RX7 121 RX7 yX7_isFull wsX7_isFull) := goodIn_app (goodIn_of _ (by decide +kernel)) ggX7_hasRoom_X7_isFull
theorem dX7_hasRoom_0 : decode cX7_hasRoom 0 = .ok (.iconst 0, 1) := by decide +kernel
theorem dX7_hasRoom_1 : decode cX7_hasRoom 1 = .ok (.istore_n 3, 1) := by decide +kernel
theorem dX7_hasRoom_2 : decode cX7_hasRoom 2 = .ok (.iload_n 3, 1) := by decide +kernel
theorem dX7_hasRoom_3 : decode cX7_hasRoom 3 = .ok (.iconst 4, 1) := by decide +kernel
theorem dX7_hasRoom_4 : decode cX7_hasRoom 4 = .ok (.if_icmp .ge 39, 3) := by decide +kernel
theorem dX7_hasRoom_7 : decode cX7_hasRoom 7 = .ok (.aload_n 0, 1) := by decide +kernel
theorem dX7_hasRoom_8 : decode cX7_hasRoom 8 = .ok (.getfield 21, 3) := by decide +kernel
theorem dX7_hasRoom_11 : decode cX7_hasRoom 11 = .ok (.getfield 109, 3) := by decide +kernel
theorem dX7_hasRoom_14 : decode cX7_hasRoom 14 = .ok (.iload_n 1, 1) := by decide +kernel
theorem dX7_hasRoom_15 : decode cX7_hasRoom 15 = .ok (.aaload, 1) := by decide +kernel
theorem dX7_hasRoom_16 : decode cX7_hasRoom 16 = .ok (.getfield 113, 3) := by decide +kernel
theorem dX7_hasRoom_19 : decode cX7_hasRoom 19 = .ok (.iload_n 3, 1) := by decide +kernel
theorem dX7_hasRoom_20 : decode cX7_hasRoom 20 = .ok (.invokestatic 118, 3) := by decide +kernel
theorem dX7_hasRoom_23 : decode cX7_hasRoom 23 = .ok (.ifCond .eq 14, 3) := by decide +kernel
theorem dX7_hasRoom_26 : decode cX7_hasRoom 26 = .ok (.aload_n 0, 1) := by decide +kernel
theorem dX7_hasRoom_27 : decode cX7_hasRoom 27 = .ok (.iload_n 3, 1) := by decide +kernel
theorem dX7_hasRoom_28 : decode cX7_hasRoom 28 = .ok (.iload_n 2, 1) := by decide +kernel
theorem dX7_hasRoom_29 : decode cX7_hasRoom 29 = .ok (.invokevirtual 121, 3) := by decide +kernel
theorem dX7_hasRoom_32 : decode cX7_hasRoom 32 = .ok (.ifCond .eq 5, 3) := by decide +kernel
theorem dX7_hasRoom_35 : decode cX7_hasRoom 35 = .ok (.iconst 0, 1) := by decide +kernel
theorem dX7_hasRoom_36 : decode cX7_hasRoom 36 = .ok (.ireturn, 1) := by decide +kernel
theorem dX7_hasRoom_37 : decode cX7_hasRoom 37 = .ok (.iinc 3 1, 3) := by decide +kernel
theorem dX7_hasRoom_40 : decode cX7_hasRoom 40 = .ok (.goto (-38), 3) := by decide +kernel
theorem dX7_hasRoom_43 : decode cX7_hasRoom 43 = .ok (.iconst 1, 1) := by decide +kernel
theorem dX7_hasRoom_44 : decode cX7_hasRoom 44 = .ok (.ireturn, 1) := by decide +kernel
set_option maxRecDepth 20000 in
theorem ggX7_isFull_X9_rest : GoodIn wsX7_isFull wsX9_rest := goodIn_r _ [6, 7, 8, 9, 10] (by decide +kernel) (by decide +kernel)
set_option maxRecDepth 20000 in
theorem gX7_isFull_X9_rest_n124 : GoodIn wsX7_isFull (wsX9_rest) := ggX7_isFull_X9_rest
theorem dX7_isFull_0 : decode cX7_isFull 0 = .ok (.aload_n 0, 1) := by decide +kernel
theorem dX7_isFull_1 : decode cX7_isFull 1 = .ok (.getfield 18, 3) := by decide +kernel
theorem dX7_isFull_4 : decode cX7_isFull 4 = .ok (.iload_n 1, 1) := by decide +kernel
theorem dX7_isFull_5 : decode cX7_isFull 5 = .ok (.sipush 200, 3) := by decide +kernel
theorem dX7_isFull_8 : decode cX7_isFull 8 = .ok (.imul, 1) := by decide +kernel
theorem dX7_isFull_9 : decode cX7_isFull 9 = .ok (.iload_n 2, 1) := by decide +kernel
theorem dX7_isFull_10 : decode cX7_isFull 10 = .ok (.aload_n 0, 1) := by decide +kernel
theorem dX7_isFull_11 : decode cX7_isFull 11 = .ok (.getfield 32, 3) := by decide +kernel
theorem dX7_isFull_14 : decode cX7_isFull 14 = .ok (.invokestatic 124, 3) := by decide +kernel
theorem dX7_isFull_17 : decode cX7_isFull 17 = .ok (.iadd, 1) := by decide +kernel
theorem dX7_isFull_18 : decode cX7_isFull 18 = .ok (.iaload, 1) := by decide +kernel
theorem dX7_isFull_19 : decode cX7_isFull 19 = .ok (.aload_n 0, 1) := by decide +kernel
theorem dX7_isFull_20 : decode cX7_isFull 20 = .ok (.getfield 29, 3) := by decide +kernel
theorem dX7_isFull_23 : decode cX7_isFull 23 = .ok (.getstatic 127, 3) := by decide +kernel
theorem dX7_isFull_26 : decode cX7_isFull 26 = .ok (.iload_n 1, 1) := by decide +kernel
theorem dX7_isFull_27 : decode cX7_isFull 27 = .ok (.iaload, 1) := by decide +kernel
theorem dX7_isFull_28 : decode cX7_isFull 28 = .ok (.iaload, 1) := by decide +kernel
theorem dX7_isFull_29 : decode cX7_isFull 29 = .ok (.if_icmp .lt 7, 3) := by decide +kernel
theorem dX7_isFull_32 : decode cX7_isFull 32 = .ok (.iconst 1, 1) := by decide +kernel
theorem dX7_isFull_33 : decode cX7_isFull 33 = .ok (.goto 4, 3) := by decide +kernel
theorem dX7_isFull_36 : decode cX7_isFull 36 = .ok (.iconst 0, 1) := by decide +kernel
theorem dX7_isFull_37 : decode cX7_isFull 37 = .ok (.ireturn, 1) := by decide +kernel
set_option maxRecDepth 20000 in
theorem ggX7_makeRoom_X9_isInGroup : GoodIn wsX7_makeRoom wsX9_isInGroup := goodIn_r _ [7] (by decide +kernel) (by decide +kernel)
set_option maxRecDepth 20000 in
theorem gX7_makeRoom_X9_isInGroup_n118 : GoodIn wsX7_makeRoom (wsX9_isInGroup) := ggX7_makeRoom_X9_isInGroup
set_option maxRecDepth 20000 in
theorem ggX7_makeRoom_X7_isFull : GoodIn wsX7_makeRoom wsX7_isFull := goodIn_r _ [12, 13, 14, 15, 16, 6, 17, 18, 19, 20, 21, 35, 36, 37, 38, 39, 40, 41, 42, 43] (by decide +kernel) (by decide +kernel)
set_option maxRecDepth 20000 in
theorem gX7_makeRoom_X7_isFull : GoodIn wsX7_makeRoom (wsV RX7 121 RX7 yX7_isFull wsX7_isFull) := goodIn_app (goodIn_of _ (by decide +kernel)) ggX7_makeRoom_X7_isFull
set_option maxRecDepth 20000 in
theorem ggX7_makeRoom_X7_sharesRest : GoodIn wsX7_makeRoom wsX7_sharesRest := goodIn_r _ [25, 26, 14, 16, 6, 17, 18, 19, 20, 21, 35, 36, 37, 38, 39, 40, 41, 42, 43] (by decide +kernel) (by decide +kernel)
set_option maxRecDepth 20000 in
theorem gX7_makeRoom_X7_sharesRest : GoodIn wsX7_makeRoom (wsV RX7 130 RX7 yX7_sharesRest wsX7_sharesRest) := goodIn_app (goodIn_of _ (by decide +kernel)) ggX7_makeRoom_X7_sharesRest
set_option maxRecDepth 20000 in
theorem ggX7_makeRoom_X7_drop : GoodIn wsX7_makeRoom wsX7_drop := goodIn_r _ [30, 26, 31, 32, 33, 11, 34, 1, 2, 3, 13, 14, 5, 6, 7, 16, 17, 18, 19, 20, 21, 35, 36, 37, 38, 39, 40, 41, 42, 43, 44, 45, 46, 47, 48, 49, 50, 51, 52, 53, 54, 55] (by decide +kernel) (by decide +kernel)
set_option maxRecDepth 20000 in
theorem gX7_makeRoom_X7_drop : GoodIn wsX7_makeRoom (wsV RX7 133 RX7 yX7_drop wsX7_drop) := goodIn_app (goodIn_of _ (by decide +kernel)) ggX7_makeRoom_X7_drop
theorem dX7_makeRoom_0 : decode cX7_makeRoom 0 = .ok (.iconst 0, 1) := by decide +kernel
theorem dX7_makeRoom_1 : decode cX7_makeRoom 1 = .ok (.istore_n 3, 1) := by decide +kernel
theorem dX7_makeRoom_2 : decode cX7_makeRoom 2 = .ok (.iload_n 3, 1) := by decide +kernel
theorem dX7_makeRoom_3 : decode cX7_makeRoom 3 = .ok (.iconst 4, 1) := by decide +kernel
theorem dX7_makeRoom_4 : decode cX7_makeRoom 4 = .ok (.if_icmp .ge 95, 3) := by decide +kernel
theorem dX7_makeRoom_7 : decode cX7_makeRoom 7 = .ok (.aload_n 0, 1) := by decide +kernel
theorem dX7_makeRoom_8 : decode cX7_makeRoom 8 = .ok (.getfield 21, 3) := by decide +kernel
theorem dX7_makeRoom_11 : decode cX7_makeRoom 11 = .ok (.getfield 109, 3) := by decide +kernel
theorem dX7_makeRoom_14 : decode cX7_makeRoom 14 = .ok (.iload_n 1, 1) := by decide +kernel
theorem dX7_makeRoom_15 : decode cX7_makeRoom 15 = .ok (.aaload, 1) := by decide +kernel
theorem dX7_makeRoom_16 : decode cX7_makeRoom 16 = .ok (.getfield 113, 3) := by decide +kernel
theorem dX7_makeRoom_19 : decode cX7_makeRoom 19 = .ok (.iload_n 3, 1) := by decide +kernel
theorem dX7_makeRoom_20 : decode cX7_makeRoom 20 = .ok (.invokestatic 118, 3) := by decide +kernel
theorem dX7_makeRoom_23 : decode cX7_makeRoom 23 = .ok (.ifCond .eq 70, 3) := by decide +kernel
theorem dX7_makeRoom_26 : decode cX7_makeRoom 26 = .ok (.aload_n 0, 1) := by decide +kernel
theorem dX7_makeRoom_27 : decode cX7_makeRoom 27 = .ok (.getfield 21, 3) := by decide +kernel
theorem dX7_makeRoom_30 : decode cX7_makeRoom 30 = .ok (.getfield 42, 3) := by decide +kernel
theorem dX7_makeRoom_33 : decode cX7_makeRoom 33 = .ok (.iconst 1, 1) := by decide +kernel
theorem dX7_makeRoom_34 : decode cX7_makeRoom 34 = .ok (.isub, 1) := by decide +kernel
theorem dX7_makeRoom_35 : decode cX7_makeRoom 35 = .ok (.istore 4, 2) := by decide +kernel
theorem dX7_makeRoom_37 : decode cX7_makeRoom 37 = .ok (.iload 4, 2) := by decide +kernel
theorem dX7_makeRoom_39 : decode cX7_makeRoom 39 = .ok (.ifCond .lt 54, 3) := by decide +kernel
theorem dX7_makeRoom_42 : decode cX7_makeRoom 42 = .ok (.aload_n 0, 1) := by decide +kernel
theorem dX7_makeRoom_43 : decode cX7_makeRoom 43 = .ok (.iload_n 3, 1) := by decide +kernel
theorem dX7_makeRoom_44 : decode cX7_makeRoom 44 = .ok (.iload_n 2, 1) := by decide +kernel
theorem dX7_makeRoom_45 : decode cX7_makeRoom 45 = .ok (.invokevirtual 121, 3) := by decide +kernel
theorem dX7_makeRoom_48 : decode cX7_makeRoom 48 = .ok (.ifCond .eq 45, 3) := by decide +kernel
theorem dX7_makeRoom_51 : decode cX7_makeRoom 51 = .ok (.aload_n 0, 1) := by decide +kernel
theorem dX7_makeRoom_52 : decode cX7_makeRoom 52 = .ok (.getfield 21, 3) := by decide +kernel
theorem dX7_makeRoom_55 : decode cX7_makeRoom 55 = .ok (.getfield 109, 3) := by decide +kernel
theorem dX7_makeRoom_58 : decode cX7_makeRoom 58 = .ok (.iload 4, 2) := by decide +kernel
theorem dX7_makeRoom_60 : decode cX7_makeRoom 60 = .ok (.aaload, 1) := by decide +kernel
theorem dX7_makeRoom_61 : decode cX7_makeRoom 61 = .ok (.getfield 113, 3) := by decide +kernel
theorem dX7_makeRoom_64 : decode cX7_makeRoom 64 = .ok (.iload_n 3, 1) := by decide +kernel
theorem dX7_makeRoom_65 : decode cX7_makeRoom 65 = .ok (.invokestatic 118, 3) := by decide +kernel
theorem dX7_makeRoom_68 : decode cX7_makeRoom 68 = .ok (.ifCond .eq 19, 3) := by decide +kernel
theorem dX7_makeRoom_71 : decode cX7_makeRoom 71 = .ok (.aload_n 0, 1) := by decide +kernel
theorem dX7_makeRoom_72 : decode cX7_makeRoom 72 = .ok (.iload 4, 2) := by decide +kernel
theorem dX7_makeRoom_74 : decode cX7_makeRoom 74 = .ok (.iload_n 2, 1) := by decide +kernel
theorem dX7_makeRoom_75 : decode cX7_makeRoom 75 = .ok (.invokevirtual 130, 3) := by decide +kernel
theorem dX7_makeRoom_78 : decode cX7_makeRoom 78 = .ok (.ifCond .eq 9, 3) := by decide +kernel
theorem dX7_makeRoom_81 : decode cX7_makeRoom 81 = .ok (.aload_n 0, 1) := by decide +kernel
theorem dX7_makeRoom_82 : decode cX7_makeRoom 82 = .ok (.iload 4, 2) := by decide +kernel
theorem dX7_makeRoom_84 : decode cX7_makeRoom 84 = .ok (.invokevirtual 133, 3) := by decide +kernel
theorem dX7_makeRoom_87 : decode cX7_makeRoom 87 = .ok (.iinc 4 (-1), 3) := by decide +kernel
theorem dX7_makeRoom_90 : decode cX7_makeRoom 90 = .ok (.goto (-53), 3) := by decide +kernel
theorem dX7_makeRoom_93 : decode cX7_makeRoom 93 = .ok (.iinc 3 1, 3) := by decide +kernel
theorem dX7_makeRoom_96 : decode cX7_makeRoom 96 = .ok (.goto (-94), 3) := by decide +kernel
theorem dX7_makeRoom_99 : decode cX7_makeRoom 99 = .ok (.return_, 1) := by decide +kernel
set_option maxRecDepth 20000 in
theorem ggX7_sharesRest_X9_rest : GoodIn wsX7_sharesRest wsX9_rest := goodIn_r _ [5, 6, 7, 8, 9] (by decide +kernel) (by decide +kernel)
set_option maxRecDepth 20000 in
theorem gX7_sharesRest_X9_rest_n124 : GoodIn wsX7_sharesRest (wsX9_rest) := ggX7_sharesRest_X9_rest
theorem dX7_sharesRest_0 : decode cX7_sharesRest 0 = .ok (.aload_n 0, 1) := by decide +kernel
theorem dX7_sharesRest_1 : decode cX7_sharesRest 1 = .ok (.getfield 9, 3) := by decide +kernel
theorem dX7_sharesRest_4 : decode cX7_sharesRest 4 = .ok (.iload_n 1, 1) := by decide +kernel
theorem dX7_sharesRest_5 : decode cX7_sharesRest 5 = .ok (.iaload, 1) := by decide +kernel
theorem dX7_sharesRest_6 : decode cX7_sharesRest 6 = .ok (.iconst (-1), 1) := by decide +kernel
theorem dX7_sharesRest_7 : decode cX7_sharesRest 7 = .ok (.if_icmp .eq 31, 3) := by decide +kernel
theorem dX7_sharesRest_10 : decode cX7_sharesRest 10 = .ok (.aload_n 0, 1) := by decide +kernel
theorem dX7_sharesRest_11 : decode cX7_sharesRest 11 = .ok (.getfield 9, 3) := by decide +kernel
theorem dX7_sharesRest_14 : decode cX7_sharesRest 14 = .ok (.iload_n 1, 1) := by decide +kernel
theorem dX7_sharesRest_15 : decode cX7_sharesRest 15 = .ok (.iaload, 1) := by decide +kernel
theorem dX7_sharesRest_16 : decode cX7_sharesRest 16 = .ok (.aload_n 0, 1) := by decide +kernel
theorem dX7_sharesRest_17 : decode cX7_sharesRest 17 = .ok (.getfield 32, 3) := by decide +kernel
theorem dX7_sharesRest_20 : decode cX7_sharesRest 20 = .ok (.invokestatic 124, 3) := by decide +kernel
theorem dX7_sharesRest_23 : decode cX7_sharesRest 23 = .ok (.iload_n 2, 1) := by decide +kernel
theorem dX7_sharesRest_24 : decode cX7_sharesRest 24 = .ok (.aload_n 0, 1) := by decide +kernel
theorem dX7_sharesRest_25 : decode cX7_sharesRest 25 = .ok (.getfield 32, 3) := by decide +kernel
theorem dX7_sharesRest_28 : decode cX7_sharesRest 28 = .ok (.invokestatic 124, 3) := by decide +kernel
theorem dX7_sharesRest_31 : decode cX7_sharesRest 31 = .ok (.if_icmp .ne 7, 3) := by decide +kernel
theorem dX7_sharesRest_34 : decode cX7_sharesRest 34 = .ok (.iconst 1, 1) := by decide +kernel
theorem dX7_sharesRest_35 : decode cX7_sharesRest 35 = .ok (.goto 4, 3) := by decide +kernel
theorem dX7_sharesRest_38 : decode cX7_sharesRest 38 = .ok (.iconst 0, 1) := by decide +kernel
theorem dX7_sharesRest_39 : decode cX7_sharesRest 39 = .ok (.ireturn, 1) := by decide +kernel
set_option maxRecDepth 20000 in
theorem ggX7_dropBroken_X7_boundOf : GoodIn wsX7_dropBroken wsX7_boundOf := goodIn_r _ [10, 5, 1, 3, 11, 12, 13, 35, 36, 37, 38, 39, 40, 41, 42, 43, 44, 45, 46, 47, 48, 49, 50, 51, 52, 53] (by decide +kernel) (by decide +kernel)
set_option maxRecDepth 20000 in
theorem gX7_dropBroken_X7_boundOf : GoodIn wsX7_dropBroken (wsV RX7 91 RX7 yX7_boundOf wsX7_boundOf) := goodIn_app (goodIn_of _ (by decide +kernel)) ggX7_dropBroken_X7_boundOf
set_option maxRecDepth 20000 in
theorem ggX7_dropBroken_X7_drop : GoodIn wsX7_dropBroken wsX7_drop := goodIn_r _ [17, 5, 18, 19, 20, 9, 21, 22, 23, 24, 25, 13, 26, 27, 28, 29, 30, 31, 32, 33, 34, 35, 36, 37, 38, 39, 40, 41, 42, 43, 54, 55, 56, 57, 58, 59, 60, 61, 62, 63, 64, 65] (by decide +kernel) (by decide +kernel)
set_option maxRecDepth 20000 in
theorem gX7_dropBroken_X7_drop : GoodIn wsX7_dropBroken (wsV RX7 133 RX7 yX7_drop wsX7_drop) := goodIn_app (goodIn_of _ (by decide +kernel)) ggX7_dropBroken_X7_drop
theorem dX7_dropBroken_0 : decode cX7_dropBroken 0 = .ok (.iconst 0, 1) := by decide +kernel
theorem dX7_dropBroken_1 : decode cX7_dropBroken 1 = .ok (.istore_n 2, 1) := by decide +kernel
theorem dX7_dropBroken_2 : decode cX7_dropBroken 2 = .ok (.iload_n 2, 1) := by decide +kernel
theorem dX7_dropBroken_3 : decode cX7_dropBroken 3 = .ok (.aload_n 0, 1) := by decide +kernel
theorem dX7_dropBroken_4 : decode cX7_dropBroken 4 = .ok (.getfield 25, 3) := by decide +kernel
theorem dX7_dropBroken_7 : decode cX7_dropBroken 7 = .ok (.getfield 84, 3) := by decide +kernel
theorem dX7_dropBroken_10 : decode cX7_dropBroken 10 = .ok (.if_icmp .ge 101, 3) := by decide +kernel
theorem dX7_dropBroken_13 : decode cX7_dropBroken 13 = .ok (.aload_n 0, 1) := by decide +kernel
theorem dX7_dropBroken_14 : decode cX7_dropBroken 14 = .ok (.getfield 25, 3) := by decide +kernel
theorem dX7_dropBroken_17 : decode cX7_dropBroken 17 = .ok (.getfield 85, 3) := by decide +kernel
theorem dX7_dropBroken_20 : decode cX7_dropBroken 20 = .ok (.iload_n 2, 1) := by decide +kernel
theorem dX7_dropBroken_21 : decode cX7_dropBroken 21 = .ok (.iaload, 1) := by decide +kernel
theorem dX7_dropBroken_22 : decode cX7_dropBroken 22 = .ok (.istore_n 3, 1) := by decide +kernel
theorem dX7_dropBroken_23 : decode cX7_dropBroken 23 = .ok (.aload_n 0, 1) := by decide +kernel
theorem dX7_dropBroken_24 : decode cX7_dropBroken 24 = .ok (.getfield 25, 3) := by decide +kernel
theorem dX7_dropBroken_27 : decode cX7_dropBroken 27 = .ok (.getfield 88, 3) := by decide +kernel
theorem dX7_dropBroken_30 : decode cX7_dropBroken 30 = .ok (.iload_n 2, 1) := by decide +kernel
theorem dX7_dropBroken_31 : decode cX7_dropBroken 31 = .ok (.iaload, 1) := by decide +kernel
theorem dX7_dropBroken_32 : decode cX7_dropBroken 32 = .ok (.istore 4, 2) := by decide +kernel
theorem dX7_dropBroken_34 : decode cX7_dropBroken 34 = .ok (.iload_n 3, 1) := by decide +kernel
theorem dX7_dropBroken_35 : decode cX7_dropBroken 35 = .ok (.iload 4, 2) := by decide +kernel
theorem dX7_dropBroken_37 : decode cX7_dropBroken 37 = .ok (.if_icmp .eq 68, 3) := by decide +kernel
theorem dX7_dropBroken_40 : decode cX7_dropBroken 40 = .ok (.iload_n 3, 1) := by decide +kernel
theorem dX7_dropBroken_41 : decode cX7_dropBroken 41 = .ok (.iload_n 1, 1) := by decide +kernel
theorem dX7_dropBroken_42 : decode cX7_dropBroken 42 = .ok (.if_icmp .eq 12, 3) := by decide +kernel
theorem dX7_dropBroken_45 : decode cX7_dropBroken 45 = .ok (.iload 4, 2) := by decide +kernel
theorem dX7_dropBroken_47 : decode cX7_dropBroken 47 = .ok (.iload_n 1, 1) := by decide +kernel
theorem dX7_dropBroken_48 : decode cX7_dropBroken 48 = .ok (.if_icmp .eq 6, 3) := by decide +kernel
theorem dX7_dropBroken_51 : decode cX7_dropBroken 51 = .ok (.goto 54, 3) := by decide +kernel
theorem dX7_dropBroken_54 : decode cX7_dropBroken 54 = .ok (.aload_n 0, 1) := by decide +kernel
theorem dX7_dropBroken_55 : decode cX7_dropBroken 55 = .ok (.getfield 9, 3) := by decide +kernel
theorem dX7_dropBroken_58 : decode cX7_dropBroken 58 = .ok (.iload_n 3, 1) := by decide +kernel
theorem dX7_dropBroken_59 : decode cX7_dropBroken 59 = .ok (.iaload, 1) := by decide +kernel
theorem dX7_dropBroken_60 : decode cX7_dropBroken 60 = .ok (.iconst (-1), 1) := by decide +kernel
theorem dX7_dropBroken_61 : decode cX7_dropBroken 61 = .ok (.if_icmp .eq 44, 3) := by decide +kernel
theorem dX7_dropBroken_64 : decode cX7_dropBroken 64 = .ok (.aload_n 0, 1) := by decide +kernel
theorem dX7_dropBroken_65 : decode cX7_dropBroken 65 = .ok (.getfield 9, 3) := by decide +kernel
theorem dX7_dropBroken_68 : decode cX7_dropBroken 68 = .ok (.iload 4, 2) := by decide +kernel
theorem dX7_dropBroken_70 : decode cX7_dropBroken 70 = .ok (.iaload, 1) := by decide +kernel
theorem dX7_dropBroken_71 : decode cX7_dropBroken 71 = .ok (.iconst (-1), 1) := by decide +kernel
theorem dX7_dropBroken_72 : decode cX7_dropBroken 72 = .ok (.if_icmp .eq 33, 3) := by decide +kernel
theorem dX7_dropBroken_75 : decode cX7_dropBroken 75 = .ok (.aload_n 0, 1) := by decide +kernel
theorem dX7_dropBroken_76 : decode cX7_dropBroken 76 = .ok (.getfield 9, 3) := by decide +kernel
theorem dX7_dropBroken_79 : decode cX7_dropBroken 79 = .ok (.iload 4, 2) := by decide +kernel
theorem dX7_dropBroken_81 : decode cX7_dropBroken 81 = .ok (.iaload, 1) := by decide +kernel
theorem dX7_dropBroken_82 : decode cX7_dropBroken 82 = .ok (.aload_n 0, 1) := by decide +kernel
theorem dX7_dropBroken_83 : decode cX7_dropBroken 83 = .ok (.iload_n 2, 1) := by decide +kernel
theorem dX7_dropBroken_84 : decode cX7_dropBroken 84 = .ok (.invokevirtual 91, 3) := by decide +kernel
theorem dX7_dropBroken_87 : decode cX7_dropBroken 87 = .ok (.if_icmp .ge 18, 3) := by decide +kernel
theorem dX7_dropBroken_90 : decode cX7_dropBroken 90 = .ok (.aload_n 0, 1) := by decide +kernel
theorem dX7_dropBroken_91 : decode cX7_dropBroken 91 = .ok (.iload_n 3, 1) := by decide +kernel
theorem dX7_dropBroken_92 : decode cX7_dropBroken 92 = .ok (.iload_n 1, 1) := by decide +kernel
theorem dX7_dropBroken_93 : decode cX7_dropBroken 93 = .ok (.if_icmp .ne 8, 3) := by decide +kernel
theorem dX7_dropBroken_96 : decode cX7_dropBroken 96 = .ok (.iload 4, 2) := by decide +kernel
theorem dX7_dropBroken_98 : decode cX7_dropBroken 98 = .ok (.goto 4, 3) := by decide +kernel
theorem dX7_dropBroken_101 : decode cX7_dropBroken 101 = .ok (.iload_n 3, 1) := by decide +kernel
theorem dX7_dropBroken_102 : decode cX7_dropBroken 102 = .ok (.invokevirtual 133, 3) := by decide +kernel
theorem dX7_dropBroken_105 : decode cX7_dropBroken 105 = .ok (.iinc 2 1, 3) := by decide +kernel
theorem dX7_dropBroken_108 : decode cX7_dropBroken 108 = .ok (.goto (-106), 3) := by decide +kernel
theorem dX7_dropBroken_111 : decode cX7_dropBroken 111 = .ok (.return_, 1) := by decide +kernel
set_option maxRecDepth 20000 in
theorem ggX7_drop_X7_changeUse : GoodIn wsX7_drop wsX7_changeUse := goodIn_r _ [6, 7, 8, 9, 10, 1, 11, 12, 13, 14, 15, 16, 17, 18, 19, 20, 21, 22, 23, 24, 25, 26, 27, 28, 29, 30, 31, 32, 33, 34, 35, 36, 37, 38, 39, 40, 41] (by decide +kernel) (by decide +kernel)
set_option maxRecDepth 20000 in
theorem gX7_drop_X7_changeUse : GoodIn wsX7_drop (wsV RX7 78 RX7 yX7_changeUse wsX7_changeUse) := goodIn_app (goodIn_of _ (by decide +kernel)) ggX7_drop_X7_changeUse
theorem dX7_drop_0 : decode cX7_drop 0 = .ok (.aload_n 0, 1) := by decide +kernel
theorem dX7_drop_1 : decode cX7_drop 1 = .ok (.iload_n 1, 1) := by decide +kernel
theorem dX7_drop_2 : decode cX7_drop 2 = .ok (.iconst (-1), 1) := by decide +kernel
theorem dX7_drop_3 : decode cX7_drop 3 = .ok (.invokevirtual 78, 3) := by decide +kernel
theorem dX7_drop_6 : decode cX7_drop 6 = .ok (.aload_n 0, 1) := by decide +kernel
theorem dX7_drop_7 : decode cX7_drop 7 = .ok (.getfield 9, 3) := by decide +kernel
theorem dX7_drop_10 : decode cX7_drop 10 = .ok (.iload_n 1, 1) := by decide +kernel
theorem dX7_drop_11 : decode cX7_drop 11 = .ok (.iconst (-1), 1) := by decide +kernel
theorem dX7_drop_12 : decode cX7_drop 12 = .ok (.iastore, 1) := by decide +kernel
theorem dX7_drop_13 : decode cX7_drop 13 = .ok (.return_, 1) := by decide +kernel
set_option maxRecDepth 20000 in
theorem ggX7_changeUse_X9_isInGroup : GoodIn wsX7_changeUse wsX9_isInGroup := goodIn_r _ [9] (by decide +kernel) (by decide +kernel)
set_option maxRecDepth 20000 in
theorem gX7_changeUse_X9_isInGroup_n118 : GoodIn wsX7_changeUse (wsX9_isInGroup) := ggX7_changeUse_X9_isInGroup
set_option maxRecDepth 20000 in
theorem ggX7_changeUse_X9_rest : GoodIn wsX7_changeUse wsX9_rest := goodIn_r _ [11, 12, 13, 14, 15] (by decide +kernel) (by decide +kernel)
set_option maxRecDepth 20000 in
theorem gX7_changeUse_X9_rest_n124 : GoodIn wsX7_changeUse (wsX9_rest) := ggX7_changeUse_X9_rest
theorem dX7_changeUse_0 : decode cX7_changeUse 0 = .ok (.iconst 0, 1) := by decide +kernel
theorem dX7_changeUse_1 : decode cX7_changeUse 1 = .ok (.istore_n 3, 1) := by decide +kernel
theorem dX7_changeUse_2 : decode cX7_changeUse 2 = .ok (.iload_n 3, 1) := by decide +kernel
theorem dX7_changeUse_3 : decode cX7_changeUse 3 = .ok (.iconst 4, 1) := by decide +kernel
theorem dX7_changeUse_4 : decode cX7_changeUse 4 = .ok (.if_icmp .ge 56, 3) := by decide +kernel
theorem dX7_changeUse_7 : decode cX7_changeUse 7 = .ok (.aload_n 0, 1) := by decide +kernel
theorem dX7_changeUse_8 : decode cX7_changeUse 8 = .ok (.getfield 21, 3) := by decide +kernel
theorem dX7_changeUse_11 : decode cX7_changeUse 11 = .ok (.getfield 109, 3) := by decide +kernel
theorem dX7_changeUse_14 : decode cX7_changeUse 14 = .ok (.iload_n 1, 1) := by decide +kernel
theorem dX7_changeUse_15 : decode cX7_changeUse 15 = .ok (.aaload, 1) := by decide +kernel
theorem dX7_changeUse_16 : decode cX7_changeUse 16 = .ok (.getfield 113, 3) := by decide +kernel
theorem dX7_changeUse_19 : decode cX7_changeUse 19 = .ok (.iload_n 3, 1) := by decide +kernel
theorem dX7_changeUse_20 : decode cX7_changeUse 20 = .ok (.invokestatic 118, 3) := by decide +kernel
theorem dX7_changeUse_23 : decode cX7_changeUse 23 = .ok (.ifCond .eq 31, 3) := by decide +kernel
theorem dX7_changeUse_26 : decode cX7_changeUse 26 = .ok (.aload_n 0, 1) := by decide +kernel
theorem dX7_changeUse_27 : decode cX7_changeUse 27 = .ok (.getfield 18, 3) := by decide +kernel
theorem dX7_changeUse_30 : decode cX7_changeUse 30 = .ok (.iload_n 3, 1) := by decide +kernel
theorem dX7_changeUse_31 : decode cX7_changeUse 31 = .ok (.sipush 200, 3) := by decide +kernel
theorem dX7_changeUse_34 : decode cX7_changeUse 34 = .ok (.imul, 1) := by decide +kernel
theorem dX7_changeUse_35 : decode cX7_changeUse 35 = .ok (.aload_n 0, 1) := by decide +kernel
theorem dX7_changeUse_36 : decode cX7_changeUse 36 = .ok (.getfield 9, 3) := by decide +kernel
theorem dX7_changeUse_39 : decode cX7_changeUse 39 = .ok (.iload_n 1, 1) := by decide +kernel
theorem dX7_changeUse_40 : decode cX7_changeUse 40 = .ok (.iaload, 1) := by decide +kernel
theorem dX7_changeUse_41 : decode cX7_changeUse 41 = .ok (.aload_n 0, 1) := by decide +kernel
theorem dX7_changeUse_42 : decode cX7_changeUse 42 = .ok (.getfield 32, 3) := by decide +kernel
theorem dX7_changeUse_45 : decode cX7_changeUse 45 = .ok (.invokestatic 124, 3) := by decide +kernel
theorem dX7_changeUse_48 : decode cX7_changeUse 48 = .ok (.iadd, 1) := by decide +kernel
theorem dX7_changeUse_49 : decode cX7_changeUse 49 = .ok (.dup2, 1) := by decide +kernel
theorem dX7_changeUse_50 : decode cX7_changeUse 50 = .ok (.iaload, 1) := by decide +kernel
theorem dX7_changeUse_51 : decode cX7_changeUse 51 = .ok (.iload_n 2, 1) := by decide +kernel
theorem dX7_changeUse_52 : decode cX7_changeUse 52 = .ok (.iadd, 1) := by decide +kernel
theorem dX7_changeUse_53 : decode cX7_changeUse 53 = .ok (.iastore, 1) := by decide +kernel
theorem dX7_changeUse_54 : decode cX7_changeUse 54 = .ok (.iinc 3 1, 3) := by decide +kernel
theorem dX7_changeUse_57 : decode cX7_changeUse 57 = .ok (.goto (-55), 3) := by decide +kernel
theorem dX7_changeUse_60 : decode cX7_changeUse 60 = .ok (.return_, 1) := by decide +kernel
theorem dX7_moveToZero_0 : decode cX7_moveToZero 0 = .ok (.aload_n 0, 1) := by decide +kernel
theorem dX7_moveToZero_1 : decode cX7_moveToZero 1 = .ok (.getfield 9, 3) := by decide +kernel
theorem dX7_moveToZero_4 : decode cX7_moveToZero 4 = .ok (.iconst 0, 1) := by decide +kernel
theorem dX7_moveToZero_5 : decode cX7_moveToZero 5 = .ok (.iaload, 1) := by decide +kernel
theorem dX7_moveToZero_6 : decode cX7_moveToZero 6 = .ok (.istore_n 1, 1) := by decide +kernel
theorem dX7_moveToZero_7 : decode cX7_moveToZero 7 = .ok (.aload_n 0, 1) := by decide +kernel
theorem dX7_moveToZero_8 : decode cX7_moveToZero 8 = .ok (.aload_n 0, 1) := by decide +kernel
theorem dX7_moveToZero_9 : decode cX7_moveToZero 9 = .ok (.getfield 9, 3) := by decide +kernel
theorem dX7_moveToZero_12 : decode cX7_moveToZero 12 = .ok (.iconst 0, 1) := by decide +kernel
theorem dX7_moveToZero_13 : decode cX7_moveToZero 13 = .ok (.iaload, 1) := by decide +kernel
theorem dX7_moveToZero_14 : decode cX7_moveToZero 14 = .ok (.putfield 136, 3) := by decide +kernel
theorem dX7_moveToZero_17 : decode cX7_moveToZero 17 = .ok (.iconst 0, 1) := by decide +kernel
theorem dX7_moveToZero_18 : decode cX7_moveToZero 18 = .ok (.istore_n 2, 1) := by decide +kernel
theorem dX7_moveToZero_19 : decode cX7_moveToZero 19 = .ok (.iload_n 2, 1) := by decide +kernel
theorem dX7_moveToZero_20 : decode cX7_moveToZero 20 = .ok (.aload_n 0, 1) := by decide +kernel
theorem dX7_moveToZero_21 : decode cX7_moveToZero 21 = .ok (.getfield 21, 3) := by decide +kernel
theorem dX7_moveToZero_24 : decode cX7_moveToZero 24 = .ok (.getfield 42, 3) := by decide +kernel
theorem dX7_moveToZero_27 : decode cX7_moveToZero 27 = .ok (.if_icmp .ge 37, 3) := by decide +kernel
theorem dX7_moveToZero_30 : decode cX7_moveToZero 30 = .ok (.iload_n 1, 1) := by decide +kernel
theorem dX7_moveToZero_31 : decode cX7_moveToZero 31 = .ok (.aload_n 0, 1) := by decide +kernel
theorem dX7_moveToZero_32 : decode cX7_moveToZero 32 = .ok (.getfield 9, 3) := by decide +kernel
theorem dX7_moveToZero_35 : decode cX7_moveToZero 35 = .ok (.iload_n 2, 1) := by decide +kernel
theorem dX7_moveToZero_36 : decode cX7_moveToZero 36 = .ok (.iaload, 1) := by decide +kernel
theorem dX7_moveToZero_37 : decode cX7_moveToZero 37 = .ok (.invokestatic 139, 3) := by decide +kernel
theorem dX7_moveToZero_40 : decode cX7_moveToZero 40 = .ok (.istore_n 1, 1) := by decide +kernel
theorem dX7_moveToZero_41 : decode cX7_moveToZero 41 = .ok (.aload_n 0, 1) := by decide +kernel
theorem dX7_moveToZero_42 : decode cX7_moveToZero 42 = .ok (.aload_n 0, 1) := by decide +kernel
theorem dX7_moveToZero_43 : decode cX7_moveToZero 43 = .ok (.getfield 136, 3) := by decide +kernel
theorem dX7_moveToZero_46 : decode cX7_moveToZero 46 = .ok (.aload_n 0, 1) := by decide +kernel
theorem dX7_moveToZero_47 : decode cX7_moveToZero 47 = .ok (.getfield 9, 3) := by decide +kernel
theorem dX7_moveToZero_50 : decode cX7_moveToZero 50 = .ok (.iload_n 2, 1) := by decide +kernel
theorem dX7_moveToZero_51 : decode cX7_moveToZero 51 = .ok (.iaload, 1) := by decide +kernel
theorem dX7_moveToZero_52 : decode cX7_moveToZero 52 = .ok (.invokestatic 94, 3) := by decide +kernel
theorem dX7_moveToZero_55 : decode cX7_moveToZero 55 = .ok (.putfield 136, 3) := by decide +kernel
theorem dX7_moveToZero_58 : decode cX7_moveToZero 58 = .ok (.iinc 2 1, 3) := by decide +kernel
theorem dX7_moveToZero_61 : decode cX7_moveToZero 61 = .ok (.goto (-42), 3) := by decide +kernel
theorem dX7_moveToZero_64 : decode cX7_moveToZero 64 = .ok (.iconst 0, 1) := by decide +kernel
theorem dX7_moveToZero_65 : decode cX7_moveToZero 65 = .ok (.istore_n 2, 1) := by decide +kernel
theorem dX7_moveToZero_66 : decode cX7_moveToZero 66 = .ok (.iload_n 2, 1) := by decide +kernel
theorem dX7_moveToZero_67 : decode cX7_moveToZero 67 = .ok (.aload_n 0, 1) := by decide +kernel
theorem dX7_moveToZero_68 : decode cX7_moveToZero 68 = .ok (.getfield 21, 3) := by decide +kernel
theorem dX7_moveToZero_71 : decode cX7_moveToZero 71 = .ok (.getfield 42, 3) := by decide +kernel
theorem dX7_moveToZero_74 : decode cX7_moveToZero 74 = .ok (.if_icmp .ge 19, 3) := by decide +kernel
theorem dX7_moveToZero_77 : decode cX7_moveToZero 77 = .ok (.aload_n 0, 1) := by decide +kernel
theorem dX7_moveToZero_78 : decode cX7_moveToZero 78 = .ok (.getfield 9, 3) := by decide +kernel
theorem dX7_moveToZero_81 : decode cX7_moveToZero 81 = .ok (.iload_n 2, 1) := by decide +kernel
theorem dX7_moveToZero_82 : decode cX7_moveToZero 82 = .ok (.dup2, 1) := by decide +kernel
theorem dX7_moveToZero_83 : decode cX7_moveToZero 83 = .ok (.iaload, 1) := by decide +kernel
theorem dX7_moveToZero_84 : decode cX7_moveToZero 84 = .ok (.iload_n 1, 1) := by decide +kernel
theorem dX7_moveToZero_85 : decode cX7_moveToZero 85 = .ok (.isub, 1) := by decide +kernel
theorem dX7_moveToZero_86 : decode cX7_moveToZero 86 = .ok (.iastore, 1) := by decide +kernel
theorem dX7_moveToZero_87 : decode cX7_moveToZero 87 = .ok (.iinc 2 1, 3) := by decide +kernel
theorem dX7_moveToZero_90 : decode cX7_moveToZero 90 = .ok (.goto (-24), 3) := by decide +kernel
theorem dX7_moveToZero_93 : decode cX7_moveToZero 93 = .ok (.aload_n 0, 1) := by decide +kernel
theorem dX7_moveToZero_94 : decode cX7_moveToZero 94 = .ok (.dup, 1) := by decide +kernel
theorem dX7_moveToZero_95 : decode cX7_moveToZero 95 = .ok (.getfield 136, 3) := by decide +kernel
theorem dX7_moveToZero_98 : decode cX7_moveToZero 98 = .ok (.iload_n 1, 1) := by decide +kernel
theorem dX7_moveToZero_99 : decode cX7_moveToZero 99 = .ok (.isub, 1) := by decide +kernel
theorem dX7_moveToZero_100 : decode cX7_moveToZero 100 = .ok (.putfield 136, 3) := by decide +kernel
theorem dX7_moveToZero_103 : decode cX7_moveToZero 103 = .ok (.return_, 1) := by decide +kernel
theorem dX8_init_0 : decode cX8_init 0 = .ok (.aload_n 0, 1) := by decide +kernel
theorem dX8_init_1 : decode cX8_init 1 = .ok (.invokespecial 3, 3) := by decide +kernel
theorem dX8_init_4 : decode cX8_init 4 = .ok (.aload_n 0, 1) := by decide +kernel
theorem dX8_init_5 : decode cX8_init 5 = .ok (.bipush 64, 2) := by decide +kernel
theorem dX8_init_7 : decode cX8_init 7 = .ok (.newarray .int, 2) := by decide +kernel
theorem dX8_init_9 : decode cX8_init 9 = .ok (.putfield 9, 3) := by decide +kernel
theorem dX8_init_12 : decode cX8_init 12 = .ok (.aload_n 0, 1) := by decide +kernel
theorem dX8_init_13 : decode cX8_init 13 = .ok (.bipush 64, 2) := by decide +kernel
theorem dX8_init_15 : decode cX8_init 15 = .ok (.newarray .int, 2) := by decide +kernel
theorem dX8_init_17 : decode cX8_init 17 = .ok (.putfield 15, 3) := by decide +kernel
theorem dX8_init_20 : decode cX8_init 20 = .ok (.aload_n 0, 1) := by decide +kernel
theorem dX8_init_21 : decode cX8_init 21 = .ok (.bipush 64, 2) := by decide +kernel
theorem dX8_init_23 : decode cX8_init 23 = .ok (.newarray .int, 2) := by decide +kernel
theorem dX8_init_25 : decode cX8_init 25 = .ok (.putfield 18, 3) := by decide +kernel
theorem dX8_init_28 : decode cX8_init 28 = .ok (.aload_n 0, 1) := by decide +kernel
theorem dX8_init_29 : decode cX8_init 29 = .ok (.bipush 64, 2) := by decide +kernel
theorem dX8_init_31 : decode cX8_init 31 = .ok (.newarray .int, 2) := by decide +kernel
theorem dX8_init_33 : decode cX8_init 33 = .ok (.putfield 21, 3) := by decide +kernel
theorem dX8_init_36 : decode cX8_init 36 = .ok (.aload_n 0, 1) := by decide +kernel
theorem dX8_init_37 : decode cX8_init 37 = .ok (.bipush 48, 2) := by decide +kernel
theorem dX8_init_39 : decode cX8_init 39 = .ok (.newarray .int, 2) := by decide +kernel
theorem dX8_init_41 : decode cX8_init 41 = .ok (.putfield 24, 3) := by decide +kernel
theorem dX8_init_44 : decode cX8_init 44 = .ok (.aload_n 0, 1) := by decide +kernel
theorem dX8_init_45 : decode cX8_init 45 = .ok (.aload_n 1, 1) := by decide +kernel
theorem dX8_init_46 : decode cX8_init 46 = .ok (.putfield 27, 3) := by decide +kernel
theorem dX8_init_49 : decode cX8_init 49 = .ok (.aload_n 0, 1) := by decide +kernel
theorem dX8_init_50 : decode cX8_init 50 = .ok (.aload_n 2, 1) := by decide +kernel
theorem dX8_init_51 : decode cX8_init 51 = .ok (.putfield 31, 3) := by decide +kernel
theorem dX8_init_54 : decode cX8_init 54 = .ok (.return_, 1) := by decide +kernel
set_option maxRecDepth 20000 in
theorem ggX8_learn_X8_addPair : GoodIn wsX8_learn wsX8_addPair := goodIn_r _ [10, 2, 11, 12, 13, 14, 15, 16, 17, 18, 19, 20, 21, 22, 23, 24, 25, 26, 27, 28, 29, 30, 31, 32, 33, 9, 34, 35, 36, 37, 38, 39, 40, 41, 42, 43, 44, 45, 46, 47, 48, 49, 50, 51, 52, 53, 54, 1, 55, 56, 57, 58, 59, 60, 61, 62, 63, 64, 65, 66, 67, 68, 69, 70, 71, 72, 73, 74, 75, 76, 109, 110, 111, 112, 113, 114, 115, 116, 117, 118, 119, 120, 121, 122, 123, 124, 125, 126, 127, 128, 129, 130, 131, 132] (by decide +kernel) (by decide +kernel)
set_option maxRecDepth 20000 in
theorem gX8_learn_X8_addPair : GoodIn wsX8_learn (wsV RX8 41 RX8 yX8_addPair wsX8_addPair) := goodIn_app (goodIn_of _ (by decide +kernel)) ggX8_learn_X8_addPair
set_option maxRecDepth 20000 in
theorem ggX8_learn_X8_findLeastByUnits : GoodIn wsX8_learn wsX8_findLeastByUnits := goodIn_r _ [80, 12, 16, 17, 18, 19, 81, 82, 83, 9, 84, 2, 3, 11, 13, 85, 29, 86, 87, 88, 89, 90, 91, 92, 109, 110, 111, 112, 113, 114, 115, 116, 117, 118, 119, 120, 121, 122, 123, 124, 125, 126, 127, 128, 129, 130] (by decide +kernel) (by decide +kernel)
set_option maxRecDepth 20000 in
theorem gX8_learn_X8_findLeastByUnits : GoodIn wsX8_learn (wsV RX8 45 RX8 yX8_findLeastByUnits wsX8_findLeastByUnits) := goodIn_app (goodIn_of _ (by decide +kernel)) ggX8_learn_X8_findLeastByUnits
set_option maxRecDepth 20000 in
theorem ggX8_learn_X8_findLeastByCircles : GoodIn wsX8_learn wsX8_findLeastByCircles := goodIn_r _ [96, 97, 98, 99, 9, 100, 101, 2, 3, 102, 103, 61, 104, 105, 106, 107, 108, 1, 56, 58, 57, 55, 109, 110, 111, 112, 113, 114, 115, 116, 117, 118, 119, 120, 121] (by decide +kernel) (by decide +kernel)
set_option maxRecDepth 20000 in
theorem gX8_learn_X8_findLeastByCircles : GoodIn wsX8_learn (wsV RX8 52 RX8 yX8_findLeastByCircles wsX8_findLeastByCircles) := goodIn_app (goodIn_of _ (by decide +kernel)) ggX8_learn_X8_findLeastByCircles
theorem dX8_learn_0 : decode cX8_learn 0 = .ok (.aload_n 0, 1) := by decide +kernel
theorem dX8_learn_1 : decode cX8_learn 1 = .ok (.iconst 0, 1) := by decide +kernel
theorem dX8_learn_2 : decode cX8_learn 2 = .ok (.putfield 34, 3) := by decide +kernel
theorem dX8_learn_5 : decode cX8_learn 5 = .ok (.iconst 0, 1) := by decide +kernel
theorem dX8_learn_6 : decode cX8_learn 6 = .ok (.istore_n 1, 1) := by decide +kernel
theorem dX8_learn_7 : decode cX8_learn 7 = .ok (.iload_n 1, 1) := by decide +kernel
theorem dX8_learn_8 : decode cX8_learn 8 = .ok (.aload_n 0, 1) := by decide +kernel
theorem dX8_learn_9 : decode cX8_learn 9 = .ok (.getfield 27, 3) := by decide +kernel
theorem dX8_learn_12 : decode cX8_learn 12 = .ok (.getfield 38, 3) := by decide +kernel
theorem dX8_learn_15 : decode cX8_learn 15 = .ok (.if_icmp .ge 34, 3) := by decide +kernel
theorem dX8_learn_18 : decode cX8_learn 18 = .ok (.iconst 0, 1) := by decide +kernel
theorem dX8_learn_19 : decode cX8_learn 19 = .ok (.istore_n 2, 1) := by decide +kernel
theorem dX8_learn_20 : decode cX8_learn 20 = .ok (.iload_n 2, 1) := by decide +kernel
theorem dX8_learn_21 : decode cX8_learn 21 = .ok (.aload_n 0, 1) := by decide +kernel
theorem dX8_learn_22 : decode cX8_learn 22 = .ok (.getfield 27, 3) := by decide +kernel
theorem dX8_learn_25 : decode cX8_learn 25 = .ok (.getfield 38, 3) := by decide +kernel
theorem dX8_learn_28 : decode cX8_learn 28 = .ok (.if_icmp .ge 15, 3) := by decide +kernel
theorem dX8_learn_31 : decode cX8_learn 31 = .ok (.aload_n 0, 1) := by decide +kernel
theorem dX8_learn_32 : decode cX8_learn 32 = .ok (.iload_n 1, 1) := by decide +kernel
theorem dX8_learn_33 : decode cX8_learn 33 = .ok (.iload_n 2, 1) := by decide +kernel
theorem dX8_learn_34 : decode cX8_learn 34 = .ok (.invokevirtual 41, 3) := by decide +kernel
theorem dX8_learn_37 : decode cX8_learn 37 = .ok (.iinc 2 1, 3) := by decide +kernel
theorem dX8_learn_40 : decode cX8_learn 40 = .ok (.goto (-20), 3) := by decide +kernel
theorem dX8_learn_43 : decode cX8_learn 43 = .ok (.iinc 1 1, 3) := by decide +kernel
theorem dX8_learn_46 : decode cX8_learn 46 = .ok (.goto (-39), 3) := by decide +kernel
theorem dX8_learn_49 : decode cX8_learn 49 = .ok (.aload_n 0, 1) := by decide +kernel
theorem dX8_learn_50 : decode cX8_learn 50 = .ok (.aload_n 0, 1) := by decide +kernel
theorem dX8_learn_51 : decode cX8_learn 51 = .ok (.invokevirtual 45, 3) := by decide +kernel
theorem dX8_learn_54 : decode cX8_learn 54 = .ok (.putfield 49, 3) := by decide +kernel
theorem dX8_learn_57 : decode cX8_learn 57 = .ok (.aload_n 0, 1) := by decide +kernel
theorem dX8_learn_58 : decode cX8_learn 58 = .ok (.aload_n 0, 1) := by decide +kernel
theorem dX8_learn_59 : decode cX8_learn 59 = .ok (.invokevirtual 52, 3) := by decide +kernel
theorem dX8_learn_62 : decode cX8_learn 62 = .ok (.putfield 55, 3) := by decide +kernel
theorem dX8_learn_65 : decode cX8_learn 65 = .ok (.return_, 1) := by decide +kernel
theorem dX8_find_0 : decode cX8_find 0 = .ok (.iconst 0, 1) := by decide +kernel
theorem dX8_find_1 : decode cX8_find 1 = .ok (.istore 4, 2) := by decide +kernel
theorem dX8_find_3 : decode cX8_find 3 = .ok (.iload 4, 2) := by decide +kernel
theorem dX8_find_5 : decode cX8_find 5 = .ok (.aload_n 0, 1) := by decide +kernel
theorem dX8_find_6 : decode cX8_find 6 = .ok (.getfield 34, 3) := by decide +kernel
theorem dX8_find_9 : decode cX8_find 9 = .ok (.if_icmp .ge 45, 3) := by decide +kernel
theorem dX8_find_12 : decode cX8_find 12 = .ok (.aload_n 0, 1) := by decide +kernel
theorem dX8_find_13 : decode cX8_find 13 = .ok (.getfield 9, 3) := by decide +kernel
theorem dX8_find_16 : decode cX8_find 16 = .ok (.iload 4, 2) := by decide +kernel
theorem dX8_find_18 : decode cX8_find 18 = .ok (.iaload, 1) := by decide +kernel
theorem dX8_find_19 : decode cX8_find 19 = .ok (.iload_n 1, 1) := by decide +kernel
theorem dX8_find_20 : decode cX8_find 20 = .ok (.if_icmp .ne 28, 3) := by decide +kernel
theorem dX8_find_23 : decode cX8_find 23 = .ok (.aload_n 0, 1) := by decide +kernel
theorem dX8_find_24 : decode cX8_find 24 = .ok (.getfield 15, 3) := by decide +kernel
theorem dX8_find_27 : decode cX8_find 27 = .ok (.iload 4, 2) := by decide +kernel
theorem dX8_find_29 : decode cX8_find 29 = .ok (.iaload, 1) := by decide +kernel
theorem dX8_find_30 : decode cX8_find 30 = .ok (.iload_n 2, 1) := by decide +kernel
theorem dX8_find_31 : decode cX8_find 31 = .ok (.if_icmp .ne 17, 3) := by decide +kernel
theorem dX8_find_34 : decode cX8_find 34 = .ok (.aload_n 0, 1) := by decide +kernel
theorem dX8_find_35 : decode cX8_find 35 = .ok (.getfield 18, 3) := by decide +kernel
theorem dX8_find_38 : decode cX8_find 38 = .ok (.iload 4, 2) := by decide +kernel
theorem dX8_find_40 : decode cX8_find 40 = .ok (.iaload, 1) := by decide +kernel
theorem dX8_find_41 : decode cX8_find 41 = .ok (.iload_n 3, 1) := by decide +kernel
theorem dX8_find_42 : decode cX8_find 42 = .ok (.if_icmp .ne 6, 3) := by decide +kernel
theorem dX8_find_45 : decode cX8_find 45 = .ok (.iload 4, 2) := by decide +kernel
theorem dX8_find_47 : decode cX8_find 47 = .ok (.ireturn, 1) := by decide +kernel
theorem dX8_find_48 : decode cX8_find 48 = .ok (.iinc 4 1, 3) := by decide +kernel
theorem dX8_find_51 : decode cX8_find 51 = .ok (.goto (-48), 3) := by decide +kernel
theorem dX8_find_54 : decode cX8_find 54 = .ok (.iconst (-1), 1) := by decide +kernel
theorem dX8_find_55 : decode cX8_find 55 = .ok (.ireturn, 1) := by decide +kernel
set_option maxRecDepth 20000 in
theorem ggX8_findHeights_J7_fill_53178 : GoodIn wsX8_findHeights wsJ7_fill_53178 := goodIn_r _ [7] (by decide +kernel) (by decide +kernel)
set_option maxRecDepth 20000 in
theorem gX8_findHeights_J7_fill_53178 : GoodIn wsX8_findHeights (va_wsS RX8 58 yJ7_fill_53178 wsJ7_fill_53178) := goodIn_app (goodIn_of _ (by decide +kernel)) ggX8_findHeights_J7_fill_53178
set_option maxRecDepth 20000 in
theorem ggX8_findHeights_X8_raiseHeights : GoodIn wsX8_findHeights wsX8_raiseHeights := goodIn_r _ [12, 13, 1, 14, 15, 16, 17, 18, 19, 20, 21, 22, 23, 24, 25, 26, 27] (by decide +kernel) (by decide +kernel)
set_option maxRecDepth 20000 in
theorem gX8_findHeights_X8_raiseHeights : GoodIn wsX8_findHeights (wsV RX8 64 RX8 yX8_raiseHeights wsX8_raiseHeights) := goodIn_app (goodIn_of _ (by decide +kernel)) ggX8_findHeights_X8_raiseHeights
theorem dX8_findHeights_0 : decode cX8_findHeights 0 = .ok (.aload_n 0, 1) := by decide +kernel
theorem dX8_findHeights_1 : decode cX8_findHeights 1 = .ok (.getfield 24, 3) := by decide +kernel
theorem dX8_findHeights_4 : decode cX8_findHeights 4 = .ok (.iconst 0, 1) := by decide +kernel
theorem dX8_findHeights_5 : decode cX8_findHeights 5 = .ok (.invokestatic 58, 3) := by decide +kernel
theorem dX8_findHeights_8 : decode cX8_findHeights 8 = .ok (.iconst 0, 1) := by decide +kernel
theorem dX8_findHeights_9 : decode cX8_findHeights 9 = .ok (.istore_n 2, 1) := by decide +kernel
theorem dX8_findHeights_10 : decode cX8_findHeights 10 = .ok (.iload_n 2, 1) := by decide +kernel
theorem dX8_findHeights_11 : decode cX8_findHeights 11 = .ok (.aload_n 0, 1) := by decide +kernel
theorem dX8_findHeights_12 : decode cX8_findHeights 12 = .ok (.getfield 27, 3) := by decide +kernel
theorem dX8_findHeights_15 : decode cX8_findHeights 15 = .ok (.getfield 38, 3) := by decide +kernel
theorem dX8_findHeights_18 : decode cX8_findHeights 18 = .ok (.if_icmp .ge 19, 3) := by decide +kernel
theorem dX8_findHeights_21 : decode cX8_findHeights 21 = .ok (.aload_n 0, 1) := by decide +kernel
theorem dX8_findHeights_22 : decode cX8_findHeights 22 = .ok (.iload_n 1, 1) := by decide +kernel
theorem dX8_findHeights_23 : decode cX8_findHeights 23 = .ok (.invokevirtual 64, 3) := by decide +kernel
theorem dX8_findHeights_26 : decode cX8_findHeights 26 = .ok (.ifCond .ne 5, 3) := by decide +kernel
theorem dX8_findHeights_29 : decode cX8_findHeights 29 = .ok (.iconst 1, 1) := by decide +kernel
theorem dX8_findHeights_30 : decode cX8_findHeights 30 = .ok (.ireturn, 1) := by decide +kernel
theorem dX8_findHeights_31 : decode cX8_findHeights 31 = .ok (.iinc 2 1, 3) := by decide +kernel
theorem dX8_findHeights_34 : decode cX8_findHeights 34 = .ok (.goto (-24), 3) := by decide +kernel
theorem dX8_findHeights_37 : decode cX8_findHeights 37 = .ok (.iconst 0, 1) := by decide +kernel
theorem dX8_findHeights_38 : decode cX8_findHeights 38 = .ok (.ireturn, 1) := by decide +kernel
theorem dX8_raiseHeights_0 : decode cX8_raiseHeights 0 = .ok (.iconst 0, 1) := by decide +kernel
theorem dX8_raiseHeights_1 : decode cX8_raiseHeights 1 = .ok (.istore_n 2, 1) := by decide +kernel
theorem dX8_raiseHeights_2 : decode cX8_raiseHeights 2 = .ok (.aload_n 0, 1) := by decide +kernel
theorem dX8_raiseHeights_3 : decode cX8_raiseHeights 3 = .ok (.getfield 34, 3) := by decide +kernel
theorem dX8_raiseHeights_6 : decode cX8_raiseHeights 6 = .ok (.iconst 1, 1) := by decide +kernel
theorem dX8_raiseHeights_7 : decode cX8_raiseHeights 7 = .ok (.isub, 1) := by decide +kernel
theorem dX8_raiseHeights_8 : decode cX8_raiseHeights 8 = .ok (.istore_n 3, 1) := by decide +kernel
theorem dX8_raiseHeights_9 : decode cX8_raiseHeights 9 = .ok (.iload_n 3, 1) := by decide +kernel
theorem dX8_raiseHeights_10 : decode cX8_raiseHeights 10 = .ok (.ifCond .lt 69, 3) := by decide +kernel
theorem dX8_raiseHeights_13 : decode cX8_raiseHeights 13 = .ok (.aload_n 0, 1) := by decide +kernel
theorem dX8_raiseHeights_14 : decode cX8_raiseHeights 14 = .ok (.getfield 24, 3) := by decide +kernel
theorem dX8_raiseHeights_17 : decode cX8_raiseHeights 17 = .ok (.aload_n 0, 1) := by decide +kernel
theorem dX8_raiseHeights_18 : decode cX8_raiseHeights 18 = .ok (.getfield 15, 3) := by decide +kernel
theorem dX8_raiseHeights_21 : decode cX8_raiseHeights 21 = .ok (.iload_n 3, 1) := by decide +kernel
theorem dX8_raiseHeights_22 : decode cX8_raiseHeights 22 = .ok (.iaload, 1) := by decide +kernel
theorem dX8_raiseHeights_23 : decode cX8_raiseHeights 23 = .ok (.iaload, 1) := by decide +kernel
theorem dX8_raiseHeights_24 : decode cX8_raiseHeights 24 = .ok (.aload_n 0, 1) := by decide +kernel
theorem dX8_raiseHeights_25 : decode cX8_raiseHeights 25 = .ok (.getfield 21, 3) := by decide +kernel
theorem dX8_raiseHeights_28 : decode cX8_raiseHeights 28 = .ok (.iload_n 3, 1) := by decide +kernel
theorem dX8_raiseHeights_29 : decode cX8_raiseHeights 29 = .ok (.iaload, 1) := by decide +kernel
theorem dX8_raiseHeights_30 : decode cX8_raiseHeights 30 = .ok (.iadd, 1) := by decide +kernel
theorem dX8_raiseHeights_31 : decode cX8_raiseHeights 31 = .ok (.aload_n 0, 1) := by decide +kernel
theorem dX8_raiseHeights_32 : decode cX8_raiseHeights 32 = .ok (.getfield 18, 3) := by decide +kernel
theorem dX8_raiseHeights_35 : decode cX8_raiseHeights 35 = .ok (.iload_n 3, 1) := by decide +kernel
theorem dX8_raiseHeights_36 : decode cX8_raiseHeights 36 = .ok (.iaload, 1) := by decide +kernel
theorem dX8_raiseHeights_37 : decode cX8_raiseHeights 37 = .ok (.iload_n 1, 1) := by decide +kernel
theorem dX8_raiseHeights_38 : decode cX8_raiseHeights 38 = .ok (.imul, 1) := by decide +kernel
theorem dX8_raiseHeights_39 : decode cX8_raiseHeights 39 = .ok (.isub, 1) := by decide +kernel
theorem dX8_raiseHeights_40 : decode cX8_raiseHeights 40 = .ok (.istore 4, 2) := by decide +kernel
theorem dX8_raiseHeights_42 : decode cX8_raiseHeights 42 = .ok (.iload 4, 2) := by decide +kernel
theorem dX8_raiseHeights_44 : decode cX8_raiseHeights 44 = .ok (.aload_n 0, 1) := by decide +kernel
theorem dX8_raiseHeights_45 : decode cX8_raiseHeights 45 = .ok (.getfield 24, 3) := by decide +kernel
theorem dX8_raiseHeights_48 : decode cX8_raiseHeights 48 = .ok (.aload_n 0, 1) := by decide +kernel
theorem dX8_raiseHeights_49 : decode cX8_raiseHeights 49 = .ok (.getfield 9, 3) := by decide +kernel
theorem dX8_raiseHeights_52 : decode cX8_raiseHeights 52 = .ok (.iload_n 3, 1) := by decide +kernel
theorem dX8_raiseHeights_53 : decode cX8_raiseHeights 53 = .ok (.iaload, 1) := by decide +kernel
theorem dX8_raiseHeights_54 : decode cX8_raiseHeights 54 = .ok (.iaload, 1) := by decide +kernel
theorem dX8_raiseHeights_55 : decode cX8_raiseHeights 55 = .ok (.if_icmp .le 18, 3) := by decide +kernel
theorem dX8_raiseHeights_58 : decode cX8_raiseHeights 58 = .ok (.aload_n 0, 1) := by decide +kernel
theorem dX8_raiseHeights_59 : decode cX8_raiseHeights 59 = .ok (.getfield 24, 3) := by decide +kernel
theorem dX8_raiseHeights_62 : decode cX8_raiseHeights 62 = .ok (.aload_n 0, 1) := by decide +kernel
theorem dX8_raiseHeights_63 : decode cX8_raiseHeights 63 = .ok (.getfield 9, 3) := by decide +kernel
theorem dX8_raiseHeights_66 : decode cX8_raiseHeights 66 = .ok (.iload_n 3, 1) := by decide +kernel
theorem dX8_raiseHeights_67 : decode cX8_raiseHeights 67 = .ok (.iaload, 1) := by decide +kernel
theorem dX8_raiseHeights_68 : decode cX8_raiseHeights 68 = .ok (.iload 4, 2) := by decide +kernel
theorem dX8_raiseHeights_70 : decode cX8_raiseHeights 70 = .ok (.iastore, 1) := by decide +kernel
theorem dX8_raiseHeights_71 : decode cX8_raiseHeights 71 = .ok (.iconst 1, 1) := by decide +kernel
theorem dX8_raiseHeights_72 : decode cX8_raiseHeights 72 = .ok (.istore_n 2, 1) := by decide +kernel
theorem dX8_raiseHeights_73 : decode cX8_raiseHeights 73 = .ok (.iinc 3 (-1), 3) := by decide +kernel
theorem dX8_raiseHeights_76 : decode cX8_raiseHeights 76 = .ok (.goto (-67), 3) := by decide +kernel
theorem dX8_raiseHeights_79 : decode cX8_raiseHeights 79 = .ok (.iload_n 2, 1) := by decide +kernel
theorem dX8_raiseHeights_80 : decode cX8_raiseHeights 80 = .ok (.ireturn, 1) := by decide +kernel
set_option maxRecDepth 20000 in
theorem ggX8_addPair_X0_source : GoodIn wsX8_addPair wsX0_source := goodIn_r _ [15, 16, 17, 18, 92, 93, 80, 81, 82] (by decide +kernel) (by decide +kernel)
set_option maxRecDepth 20000 in
theorem gX8_addPair_X0_source : GoodIn wsX8_addPair (wsV RX8 81 RX0 yX0_source wsX0_source) := goodIn_app (goodIn_of _ (by decide +kernel)) ggX8_addPair_X0_source
set_option maxRecDepth 20000 in
theorem ggX8_addPair_X9_roundsOfUse : GoodIn wsX8_addPair wsX9_roundsOfUse := goodIn_r _ [21] (by decide +kernel) (by decide +kernel)
set_option maxRecDepth 20000 in
theorem gX8_addPair_X9_roundsOfUse_n88 : GoodIn wsX8_addPair (wsX9_roundsOfUse) := ggX8_addPair_X9_roundsOfUse
set_option maxRecDepth 20000 in
theorem ggX8_addPair_X8_placesOver : GoodIn wsX8_addPair wsX8_placesOver := goodIn_r _ [26, 27, 4, 3, 28, 29, 30, 31, 32, 33, 34, 35, 36, 25, 37, 38, 39, 83, 84, 85, 86, 87, 88, 89, 90, 91, 70, 71, 72, 73, 74, 75, 76, 77, 78, 79] (by decide +kernel) (by decide +kernel)
set_option maxRecDepth 20000 in
theorem gX8_addPair_X8_placesOver : GoodIn wsX8_addPair (wsV RX8 92 RX8 yX8_placesOver wsX8_placesOver) := goodIn_app (goodIn_of _ (by decide +kernel)) ggX8_addPair_X8_placesOver
set_option maxRecDepth 20000 in
theorem ggX8_addPair_X8_placesDelay : GoodIn wsX8_addPair wsX8_placesDelay := goodIn_r _ [42, 4, 83, 84, 85, 86, 87, 88, 89, 90, 91] (by decide +kernel) (by decide +kernel)
set_option maxRecDepth 20000 in
theorem gX8_addPair_X8_placesDelay : GoodIn wsX8_addPair (va_wsS RX8 96 yX8_placesDelay wsX8_placesDelay) := goodIn_app (goodIn_of _ (by decide +kernel)) ggX8_addPair_X8_placesDelay
set_option maxRecDepth 20000 in
theorem ggX8_addPair_X8_add : GoodIn wsX8_addPair wsX8_add := goodIn_r _ [46, 47, 48, 49, 50, 51, 52, 53, 54, 55, 56, 57, 58, 59, 60, 61, 62, 63, 64, 9, 65, 66, 67, 68, 69, 70, 71, 72, 73, 74, 75, 76, 77, 78, 79] (by decide +kernel) (by decide +kernel)
set_option maxRecDepth 20000 in
theorem gX8_addPair_X8_add : GoodIn wsX8_addPair (wsV RX8 104 RX8 yX8_add wsX8_add) := goodIn_app (goodIn_of _ (by decide +kernel)) ggX8_addPair_X8_add
theorem dX8_addPair_0 : decode cX8_addPair 0 = .ok (.aload_n 0, 1) := by decide +kernel
theorem dX8_addPair_1 : decode cX8_addPair 1 = .ok (.getfield 27, 3) := by decide +kernel
theorem dX8_addPair_4 : decode cX8_addPair 4 = .ok (.getfield 68, 3) := by decide +kernel
theorem dX8_addPair_7 : decode cX8_addPair 7 = .ok (.iload_n 1, 1) := by decide +kernel
theorem dX8_addPair_8 : decode cX8_addPair 8 = .ok (.aaload, 1) := by decide +kernel
theorem dX8_addPair_9 : decode cX8_addPair 9 = .ok (.astore_n 3, 1) := by decide +kernel
theorem dX8_addPair_10 : decode cX8_addPair 10 = .ok (.aload_n 0, 1) := by decide +kernel
theorem dX8_addPair_11 : decode cX8_addPair 11 = .ok (.getfield 27, 3) := by decide +kernel
theorem dX8_addPair_14 : decode cX8_addPair 14 = .ok (.getfield 68, 3) := by decide +kernel
theorem dX8_addPair_17 : decode cX8_addPair 17 = .ok (.iload_n 2, 1) := by decide +kernel
theorem dX8_addPair_18 : decode cX8_addPair 18 = .ok (.aaload, 1) := by decide +kernel
theorem dX8_addPair_19 : decode cX8_addPair 19 = .ok (.astore 4, 2) := by decide +kernel
theorem dX8_addPair_21 : decode cX8_addPair 21 = .ok (.aload_n 0, 1) := by decide +kernel
theorem dX8_addPair_22 : decode cX8_addPair 22 = .ok (.getfield 31, 3) := by decide +kernel
theorem dX8_addPair_25 : decode cX8_addPair 25 = .ok (.aload_n 3, 1) := by decide +kernel
theorem dX8_addPair_26 : decode cX8_addPair 26 = .ok (.getfield 72, 3) := by decide +kernel
theorem dX8_addPair_29 : decode cX8_addPair 29 = .ok (.iaload, 1) := by decide +kernel
theorem dX8_addPair_30 : decode cX8_addPair 30 = .ok (.istore 5, 2) := by decide +kernel
theorem dX8_addPair_32 : decode cX8_addPair 32 = .ok (.aload_n 0, 1) := by decide +kernel
theorem dX8_addPair_33 : decode cX8_addPair 33 = .ok (.getfield 27, 3) := by decide +kernel
theorem dX8_addPair_36 : decode cX8_addPair 36 = .ok (.aload 4, 2) := by decide +kernel
theorem dX8_addPair_38 : decode cX8_addPair 38 = .ok (.getfield 77, 3) := by decide +kernel
theorem dX8_addPair_41 : decode cX8_addPair 41 = .ok (.invokevirtual 81, 3) := by decide +kernel
theorem dX8_addPair_44 : decode cX8_addPair 44 = .ok (.iload_n 1, 1) := by decide +kernel
theorem dX8_addPair_45 : decode cX8_addPair 45 = .ok (.if_icmp .eq 19, 3) := by decide +kernel
theorem dX8_addPair_48 : decode cX8_addPair 48 = .ok (.aload_n 0, 1) := by decide +kernel
theorem dX8_addPair_49 : decode cX8_addPair 49 = .ok (.getfield 27, 3) := by decide +kernel
theorem dX8_addPair_52 : decode cX8_addPair 52 = .ok (.aload 4, 2) := by decide +kernel
theorem dX8_addPair_54 : decode cX8_addPair 54 = .ok (.getfield 85, 3) := by decide +kernel
theorem dX8_addPair_57 : decode cX8_addPair 57 = .ok (.invokevirtual 81, 3) := by decide +kernel
theorem dX8_addPair_60 : decode cX8_addPair 60 = .ok (.iload_n 1, 1) := by decide +kernel
theorem dX8_addPair_61 : decode cX8_addPair 61 = .ok (.if_icmp .ne 7, 3) := by decide +kernel
theorem dX8_addPair_64 : decode cX8_addPair 64 = .ok (.iconst 1, 1) := by decide +kernel
theorem dX8_addPair_65 : decode cX8_addPair 65 = .ok (.goto 4, 3) := by decide +kernel
theorem dX8_addPair_68 : decode cX8_addPair 68 = .ok (.iconst 0, 1) := by decide +kernel
theorem dX8_addPair_69 : decode cX8_addPair 69 = .ok (.istore 6, 2) := by decide +kernel
theorem dX8_addPair_71 : decode cX8_addPair 71 = .ok (.iload 6, 2) := by decide +kernel
theorem dX8_addPair_73 : decode cX8_addPair 73 = .ok (.ifCond .eq 11, 3) := by decide +kernel
theorem dX8_addPair_76 : decode cX8_addPair 76 = .ok (.iload_n 1, 1) := by decide +kernel
theorem dX8_addPair_77 : decode cX8_addPair 77 = .ok (.iload_n 2, 1) := by decide +kernel
theorem dX8_addPair_78 : decode cX8_addPair 78 = .ok (.invokestatic 88, 3) := by decide +kernel
theorem dX8_addPair_81 : decode cX8_addPair 81 = .ok (.goto 4, 3) := by decide +kernel
theorem dX8_addPair_84 : decode cX8_addPair 84 = .ok (.iconst (-1), 1) := by decide +kernel
theorem dX8_addPair_85 : decode cX8_addPair 85 = .ok (.istore 7, 2) := by decide +kernel
theorem dX8_addPair_87 : decode cX8_addPair 87 = .ok (.aload_n 0, 1) := by decide +kernel
theorem dX8_addPair_88 : decode cX8_addPair 88 = .ok (.aload_n 3, 1) := by decide +kernel
theorem dX8_addPair_89 : decode cX8_addPair 89 = .ok (.aload 4, 2) := by decide +kernel
theorem dX8_addPair_91 : decode cX8_addPair 91 = .ok (.iload_n 2, 1) := by decide +kernel
theorem dX8_addPair_92 : decode cX8_addPair 92 = .ok (.iload_n 1, 1) := by decide +kernel
theorem dX8_addPair_93 : decode cX8_addPair 93 = .ok (.if_icmp .le 7, 3) := by decide +kernel
theorem dX8_addPair_96 : decode cX8_addPair 96 = .ok (.iconst 0, 1) := by decide +kernel
theorem dX8_addPair_97 : decode cX8_addPair 97 = .ok (.goto 4, 3) := by decide +kernel
theorem dX8_addPair_100 : decode cX8_addPair 100 = .ok (.iconst 1, 1) := by decide +kernel
theorem dX8_addPair_101 : decode cX8_addPair 101 = .ok (.invokevirtual 92, 3) := by decide +kernel
theorem dX8_addPair_104 : decode cX8_addPair 104 = .ok (.istore 8, 2) := by decide +kernel
theorem dX8_addPair_106 : decode cX8_addPair 106 = .ok (.aload_n 3, 1) := by decide +kernel
theorem dX8_addPair_107 : decode cX8_addPair 107 = .ok (.aload 4, 2) := by decide +kernel
theorem dX8_addPair_109 : decode cX8_addPair 109 = .ok (.iload 5, 2) := by decide +kernel
theorem dX8_addPair_111 : decode cX8_addPair 111 = .ok (.invokestatic 96, 3) := by decide +kernel
theorem dX8_addPair_114 : decode cX8_addPair 114 = .ok (.istore 9, 2) := by decide +kernel
theorem dX8_addPair_116 : decode cX8_addPair 116 = .ok (.iload 6, 2) := by decide +kernel
theorem dX8_addPair_118 : decode cX8_addPair 118 = .ok (.ifCond .eq 26, 3) := by decide +kernel
theorem dX8_addPair_121 : decode cX8_addPair 121 = .ok (.iload 7, 2) := by decide +kernel
theorem dX8_addPair_123 : decode cX8_addPair 123 = .ok (.iload 8, 2) := by decide +kernel
theorem dX8_addPair_125 : decode cX8_addPair 125 = .ok (.if_icmp .ne 19, 3) := by decide +kernel
theorem dX8_addPair_128 : decode cX8_addPair 128 = .ok (.aload_n 0, 1) := by decide +kernel
theorem dX8_addPair_129 : decode cX8_addPair 129 = .ok (.iload_n 1, 1) := by decide +kernel
theorem dX8_addPair_130 : decode cX8_addPair 130 = .ok (.iload_n 2, 1) := by decide +kernel
theorem dX8_addPair_131 : decode cX8_addPair 131 = .ok (.iload 7, 2) := by decide +kernel
theorem dX8_addPair_133 : decode cX8_addPair 133 = .ok (.iload 5, 2) := by decide +kernel
theorem dX8_addPair_135 : decode cX8_addPair 135 = .ok (.iload 9, 2) := by decide +kernel
theorem dX8_addPair_137 : decode cX8_addPair 137 = .ok (.invokestatic 99, 3) := by decide +kernel
theorem dX8_addPair_140 : decode cX8_addPair 140 = .ok (.invokevirtual 104, 3) := by decide +kernel
theorem dX8_addPair_143 : decode cX8_addPair 143 = .ok (.return_, 1) := by decide +kernel
theorem dX8_addPair_144 : decode cX8_addPair 144 = .ok (.iload 6, 2) := by decide +kernel
theorem dX8_addPair_146 : decode cX8_addPair 146 = .ok (.ifCond .eq 13, 3) := by decide +kernel
theorem dX8_addPair_149 : decode cX8_addPair 149 = .ok (.aload_n 0, 1) := by decide +kernel
theorem dX8_addPair_150 : decode cX8_addPair 150 = .ok (.iload_n 1, 1) := by decide +kernel
theorem dX8_addPair_151 : decode cX8_addPair 151 = .ok (.iload_n 2, 1) := by decide +kernel
theorem dX8_addPair_152 : decode cX8_addPair 152 = .ok (.iload 7, 2) := by decide +kernel
theorem dX8_addPair_154 : decode cX8_addPair 154 = .ok (.iload 5, 2) := by decide +kernel
theorem dX8_addPair_156 : decode cX8_addPair 156 = .ok (.invokevirtual 104, 3) := by decide +kernel
theorem dX8_addPair_159 : decode cX8_addPair 159 = .ok (.iload 8, 2) := by decide +kernel
theorem dX8_addPair_161 : decode cX8_addPair 161 = .ok (.ifCond .lt 13, 3) := by decide +kernel
theorem dX8_addPair_164 : decode cX8_addPair 164 = .ok (.aload_n 0, 1) := by decide +kernel
theorem dX8_addPair_165 : decode cX8_addPair 165 = .ok (.iload_n 1, 1) := by decide +kernel
theorem dX8_addPair_166 : decode cX8_addPair 166 = .ok (.iload_n 2, 1) := by decide +kernel
theorem dX8_addPair_167 : decode cX8_addPair 167 = .ok (.iload 8, 2) := by decide +kernel
theorem dX8_addPair_169 : decode cX8_addPair 169 = .ok (.iload 9, 2) := by decide +kernel
theorem dX8_addPair_171 : decode cX8_addPair 171 = .ok (.invokevirtual 104, 3) := by decide +kernel
theorem dX8_addPair_174 : decode cX8_addPair 174 = .ok (.return_, 1) := by decide +kernel
theorem dX8_placesDelay_0 : decode cX8_placesDelay 0 = .ok (.aload_n 0, 1) := by decide +kernel
theorem dX8_placesDelay_1 : decode cX8_placesDelay 1 = .ok (.getfield 72, 3) := by decide +kernel
theorem dX8_placesDelay_4 : decode cX8_placesDelay 4 = .ok (.iconst 3, 1) := by decide +kernel
theorem dX8_placesDelay_5 : decode cX8_placesDelay 5 = .ok (.if_icmp .eq 5, 3) := by decide +kernel
theorem dX8_placesDelay_8 : decode cX8_placesDelay 8 = .ok (.iconst 0, 1) := by decide +kernel
theorem dX8_placesDelay_9 : decode cX8_placesDelay 9 = .ok (.ireturn, 1) := by decide +kernel
theorem dX8_placesDelay_10 : decode cX8_placesDelay 10 = .ok (.aload_n 1, 1) := by decide +kernel
theorem dX8_placesDelay_11 : decode cX8_placesDelay 11 = .ok (.getfield 72, 3) := by decide +kernel
theorem dX8_placesDelay_14 : decode cX8_placesDelay 14 = .ok (.iconst 3, 1) := by decide +kernel
theorem dX8_placesDelay_15 : decode cX8_placesDelay 15 = .ok (.if_icmp .ne 7, 3) := by decide +kernel
theorem dX8_placesDelay_18 : decode cX8_placesDelay 18 = .ok (.iconst 1, 1) := by decide +kernel
theorem dX8_placesDelay_19 : decode cX8_placesDelay 19 = .ok (.goto 4, 3) := by decide +kernel
theorem dX8_placesDelay_22 : decode cX8_placesDelay 22 = .ok (.iload_n 2, 1) := by decide +kernel
theorem dX8_placesDelay_23 : decode cX8_placesDelay 23 = .ok (.ireturn, 1) := by decide +kernel
set_option maxRecDepth 20000 in
theorem ggX8_placesOver_X3_spot : GoodIn wsX8_placesOver wsX3_spot := goodIn_r _ [8, 9, 10, 17, 18, 19, 20, 21, 22, 23, 24, 25] (by decide +kernel) (by decide +kernel)
set_option maxRecDepth 20000 in
theorem gX8_placesOver_X3_spot : GoodIn wsX8_placesOver (wsV RX8 111 RX3 yX3_spot wsX3_spot) := goodIn_app (goodIn_of _ (by decide +kernel)) ggX8_placesOver_X3_spot
set_option maxRecDepth 20000 in
theorem ggX8_placesOver_X8_roundOfSpot : GoodIn wsX8_placesOver wsX8_roundOfSpot := goodIn_r _ [14, 15, 16, 17, 18, 19, 20, 21, 22, 23, 24, 25] (by decide +kernel) (by decide +kernel)
set_option maxRecDepth 20000 in
theorem gX8_placesOver_X8_roundOfSpot : GoodIn wsX8_placesOver (va_wsS RX8 115 yX8_roundOfSpot wsX8_roundOfSpot) := goodIn_app (goodIn_of _ (by decide +kernel)) ggX8_placesOver_X8_roundOfSpot
theorem dX8_placesOver_0 : decode cX8_placesOver 0 = .ok (.aload_n 1, 1) := by decide +kernel
theorem dX8_placesOver_1 : decode cX8_placesOver 1 = .ok (.getfield 108, 3) := by decide +kernel
theorem dX8_placesOver_4 : decode cX8_placesOver 4 = .ok (.ifCond .lt 14, 3) := by decide +kernel
theorem dX8_placesOver_7 : decode cX8_placesOver 7 = .ok (.aload_n 1, 1) := by decide +kernel
theorem dX8_placesOver_8 : decode cX8_placesOver 8 = .ok (.getfield 108, 3) := by decide +kernel
theorem dX8_placesOver_11 : decode cX8_placesOver 11 = .ok (.aload_n 2, 1) := by decide +kernel
theorem dX8_placesOver_12 : decode cX8_placesOver 12 = .ok (.getfield 108, 3) := by decide +kernel
theorem dX8_placesOver_15 : decode cX8_placesOver 15 = .ok (.if_icmp .eq 5, 3) := by decide +kernel
theorem dX8_placesOver_18 : decode cX8_placesOver 18 = .ok (.iconst (-1), 1) := by decide +kernel
theorem dX8_placesOver_19 : decode cX8_placesOver 19 = .ok (.ireturn, 1) := by decide +kernel
theorem dX8_placesOver_20 : decode cX8_placesOver 20 = .ok (.aload_n 1, 1) := by decide +kernel
theorem dX8_placesOver_21 : decode cX8_placesOver 21 = .ok (.getfield 72, 3) := by decide +kernel
theorem dX8_placesOver_24 : decode cX8_placesOver 24 = .ok (.iconst 3, 1) := by decide +kernel
theorem dX8_placesOver_25 : decode cX8_placesOver 25 = .ok (.if_icmp .eq 13, 3) := by decide +kernel
theorem dX8_placesOver_28 : decode cX8_placesOver 28 = .ok (.aload_n 2, 1) := by decide +kernel
theorem dX8_placesOver_29 : decode cX8_placesOver 29 = .ok (.getfield 72, 3) := by decide +kernel
theorem dX8_placesOver_32 : decode cX8_placesOver 32 = .ok (.iconst 3, 1) := by decide +kernel
theorem dX8_placesOver_33 : decode cX8_placesOver 33 = .ok (.if_icmp .eq 5, 3) := by decide +kernel
theorem dX8_placesOver_36 : decode cX8_placesOver 36 = .ok (.iconst (-1), 1) := by decide +kernel
theorem dX8_placesOver_37 : decode cX8_placesOver 37 = .ok (.ireturn, 1) := by decide +kernel
theorem dX8_placesOver_38 : decode cX8_placesOver 38 = .ok (.aload_n 0, 1) := by decide +kernel
theorem dX8_placesOver_39 : decode cX8_placesOver 39 = .ok (.getfield 31, 3) := by decide +kernel
theorem dX8_placesOver_42 : decode cX8_placesOver 42 = .ok (.bipush 8, 2) := by decide +kernel
theorem dX8_placesOver_44 : decode cX8_placesOver 44 = .ok (.iaload, 1) := by decide +kernel
theorem dX8_placesOver_45 : decode cX8_placesOver 45 = .ok (.istore 4, 2) := by decide +kernel
theorem dX8_placesOver_47 : decode cX8_placesOver 47 = .ok (.iconst (-1), 1) := by decide +kernel
theorem dX8_placesOver_48 : decode cX8_placesOver 48 = .ok (.istore 5, 2) := by decide +kernel
theorem dX8_placesOver_50 : decode cX8_placesOver 50 = .ok (.iconst 0, 1) := by decide +kernel
theorem dX8_placesOver_51 : decode cX8_placesOver 51 = .ok (.istore 6, 2) := by decide +kernel
theorem dX8_placesOver_53 : decode cX8_placesOver 53 = .ok (.iload 6, 2) := by decide +kernel
theorem dX8_placesOver_55 : decode cX8_placesOver 55 = .ok (.iload 4, 2) := by decide +kernel
theorem dX8_placesOver_57 : decode cX8_placesOver 57 = .ok (.if_icmp .ge 63, 3) := by decide +kernel
theorem dX8_placesOver_60 : decode cX8_placesOver 60 = .ok (.aload_n 2, 1) := by decide +kernel
theorem dX8_placesOver_61 : decode cX8_placesOver 61 = .ok (.aload_n 1, 1) := by decide +kernel
theorem dX8_placesOver_62 : decode cX8_placesOver 62 = .ok (.iload 6, 2) := by decide +kernel
theorem dX8_placesOver_64 : decode cX8_placesOver 64 = .ok (.invokevirtual 111, 3) := by decide +kernel
theorem dX8_placesOver_67 : decode cX8_placesOver 67 = .ok (.iload 6, 2) := by decide +kernel
theorem dX8_placesOver_69 : decode cX8_placesOver 69 = .ok (.iload_n 3, 1) := by decide +kernel
theorem dX8_placesOver_70 : decode cX8_placesOver 70 = .ok (.iadd, 1) := by decide +kernel
theorem dX8_placesOver_71 : decode cX8_placesOver 71 = .ok (.invokestatic 115, 3) := by decide +kernel
theorem dX8_placesOver_74 : decode cX8_placesOver 74 = .ok (.istore 7, 2) := by decide +kernel
theorem dX8_placesOver_76 : decode cX8_placesOver 76 = .ok (.iload 7, 2) := by decide +kernel
theorem dX8_placesOver_78 : decode cX8_placesOver 78 = .ok (.iload 6, 2) := by decide +kernel
theorem dX8_placesOver_80 : decode cX8_placesOver 80 = .ok (.iload_n 3, 1) := by decide +kernel
theorem dX8_placesOver_81 : decode cX8_placesOver 81 = .ok (.iadd, 1) := by decide +kernel
theorem dX8_placesOver_82 : decode cX8_placesOver 82 = .ok (.if_icmp .lt 32, 3) := by decide +kernel
theorem dX8_placesOver_85 : decode cX8_placesOver 85 = .ok (.iload 7, 2) := by decide +kernel
theorem dX8_placesOver_87 : decode cX8_placesOver 87 = .ok (.iload 4, 2) := by decide +kernel
theorem dX8_placesOver_89 : decode cX8_placesOver 89 = .ok (.if_icmp .ge 25, 3) := by decide +kernel
theorem dX8_placesOver_92 : decode cX8_placesOver 92 = .ok (.iload 5, 2) := by decide +kernel
theorem dX8_placesOver_94 : decode cX8_placesOver 94 = .ok (.ifCond .lt 13, 3) := by decide +kernel
theorem dX8_placesOver_97 : decode cX8_placesOver 97 = .ok (.iload 7, 2) := by decide +kernel
theorem dX8_placesOver_99 : decode cX8_placesOver 99 = .ok (.iload 6, 2) := by decide +kernel
theorem dX8_placesOver_101 : decode cX8_placesOver 101 = .ok (.isub, 1) := by decide +kernel
theorem dX8_placesOver_102 : decode cX8_placesOver 102 = .ok (.iload 5, 2) := by decide +kernel
theorem dX8_placesOver_104 : decode cX8_placesOver 104 = .ok (.if_icmp .ge 10, 3) := by decide +kernel
theorem dX8_placesOver_107 : decode cX8_placesOver 107 = .ok (.iload 7, 2) := by decide +kernel
theorem dX8_placesOver_109 : decode cX8_placesOver 109 = .ok (.iload 6, 2) := by decide +kernel
theorem dX8_placesOver_111 : decode cX8_placesOver 111 = .ok (.isub, 1) := by decide +kernel
theorem dX8_placesOver_112 : decode cX8_placesOver 112 = .ok (.istore 5, 2) := by decide +kernel
theorem dX8_placesOver_114 : decode cX8_placesOver 114 = .ok (.iinc 6 1, 3) := by decide +kernel
theorem dX8_placesOver_117 : decode cX8_placesOver 117 = .ok (.goto (-64), 3) := by decide +kernel
theorem dX8_placesOver_120 : decode cX8_placesOver 120 = .ok (.iload 5, 2) := by decide +kernel
theorem dX8_placesOver_122 : decode cX8_placesOver 122 = .ok (.ireturn, 1) := by decide +kernel
theorem dX8_roundOfSpot_0 : decode cX8_roundOfSpot 0 = .ok (.iload_n 1, 1) := by decide +kernel
theorem dX8_roundOfSpot_1 : decode cX8_roundOfSpot 1 = .ok (.aload_n 0, 1) := by decide +kernel
theorem dX8_roundOfSpot_2 : decode cX8_roundOfSpot 2 = .ok (.getfield 119, 3) := by decide +kernel
theorem dX8_roundOfSpot_5 : decode cX8_roundOfSpot 5 = .ok (.isub, 1) := by decide +kernel
theorem dX8_roundOfSpot_6 : decode cX8_roundOfSpot 6 = .ok (.istore_n 3, 1) := by decide +kernel
theorem dX8_roundOfSpot_7 : decode cX8_roundOfSpot 7 = .ok (.aload_n 0, 1) := by decide +kernel
theorem dX8_roundOfSpot_8 : decode cX8_roundOfSpot 8 = .ok (.getfield 122, 3) := by decide +kernel
theorem dX8_roundOfSpot_11 : decode cX8_roundOfSpot 11 = .ok (.istore 4, 2) := by decide +kernel
theorem dX8_roundOfSpot_13 : decode cX8_roundOfSpot 13 = .ok (.iload 4, 2) := by decide +kernel
theorem dX8_roundOfSpot_15 : decode cX8_roundOfSpot 15 = .ok (.ifCond .ne 13, 3) := by decide +kernel
theorem dX8_roundOfSpot_18 : decode cX8_roundOfSpot 18 = .ok (.iload_n 3, 1) := by decide +kernel
theorem dX8_roundOfSpot_19 : decode cX8_roundOfSpot 19 = .ok (.ifCond .ne 7, 3) := by decide +kernel
theorem dX8_roundOfSpot_22 : decode cX8_roundOfSpot 22 = .ok (.iload_n 2, 1) := by decide +kernel
theorem dX8_roundOfSpot_23 : decode cX8_roundOfSpot 23 = .ok (.goto 4, 3) := by decide +kernel
theorem dX8_roundOfSpot_26 : decode cX8_roundOfSpot 26 = .ok (.iconst (-1), 1) := by decide +kernel
theorem dX8_roundOfSpot_27 : decode cX8_roundOfSpot 27 = .ok (.ireturn, 1) := by decide +kernel
theorem dX8_roundOfSpot_28 : decode cX8_roundOfSpot 28 = .ok (.iload_n 3, 1) := by decide +kernel
theorem dX8_roundOfSpot_29 : decode cX8_roundOfSpot 29 = .ok (.iload 4, 2) := by decide +kernel
theorem dX8_roundOfSpot_31 : decode cX8_roundOfSpot 31 = .ok (.irem, 1) := by decide +kernel
theorem dX8_roundOfSpot_32 : decode cX8_roundOfSpot 32 = .ok (.ifCond .ne 10, 3) := by decide +kernel
theorem dX8_roundOfSpot_35 : decode cX8_roundOfSpot 35 = .ok (.iload_n 3, 1) := by decide +kernel
theorem dX8_roundOfSpot_36 : decode cX8_roundOfSpot 36 = .ok (.iload 4, 2) := by decide +kernel
theorem dX8_roundOfSpot_38 : decode cX8_roundOfSpot 38 = .ok (.idiv, 1) := by decide +kernel
theorem dX8_roundOfSpot_39 : decode cX8_roundOfSpot 39 = .ok (.goto 4, 3) := by decide +kernel
theorem dX8_roundOfSpot_42 : decode cX8_roundOfSpot 42 = .ok (.iconst (-1), 1) := by decide +kernel
theorem dX8_roundOfSpot_43 : decode cX8_roundOfSpot 43 = .ok (.ireturn, 1) := by decide +kernel
set_option maxRecDepth 20000 in
theorem ggX8_add_J7_copyOf_59c91 : GoodIn wsX8_add wsJ7_copyOf_59c91 := goodIn_r _ [9, 10, 11, 12, 13, 14, 15, 16, 17, 18, 19, 20, 21, 22, 23, 24] (by decide +kernel) (by decide +kernel)
set_option maxRecDepth 20000 in
theorem gX8_add_J7_copyOf_59c91 : GoodIn wsX8_add (va_wsS RX8 125 yJ7_copyOf_59c91 wsJ7_copyOf_59c91) := goodIn_app (goodIn_of _ (by decide +kernel)) ggX8_add_J7_copyOf_59c91
theorem dX8_add_0 : decode cX8_add 0 = .ok (.aload_n 0, 1) := by decide +kernel
theorem dX8_add_1 : decode cX8_add 1 = .ok (.getfield 34, 3) := by decide +kernel
theorem dX8_add_4 : decode cX8_add 4 = .ok (.aload_n 0, 1) := by decide +kernel
theorem dX8_add_5 : decode cX8_add 5 = .ok (.getfield 9, 3) := by decide +kernel
theorem dX8_add_8 : decode cX8_add 8 = .ok (.arraylength, 1) := by decide +kernel
theorem dX8_add_9 : decode cX8_add 9 = .ok (.if_icmp .lt 71, 3) := by decide +kernel
theorem dX8_add_12 : decode cX8_add 12 = .ok (.aload_n 0, 1) := by decide +kernel
theorem dX8_add_13 : decode cX8_add 13 = .ok (.aload_n 0, 1) := by decide +kernel
theorem dX8_add_14 : decode cX8_add 14 = .ok (.getfield 9, 3) := by decide +kernel
theorem dX8_add_17 : decode cX8_add 17 = .ok (.iconst 2, 1) := by decide +kernel
theorem dX8_add_18 : decode cX8_add 18 = .ok (.aload_n 0, 1) := by decide +kernel
theorem dX8_add_19 : decode cX8_add 19 = .ok (.getfield 34, 3) := by decide +kernel
theorem dX8_add_22 : decode cX8_add 22 = .ok (.imul, 1) := by decide +kernel
theorem dX8_add_23 : decode cX8_add 23 = .ok (.invokestatic 125, 3) := by decide +kernel
theorem dX8_add_26 : decode cX8_add 26 = .ok (.putfield 9, 3) := by decide +kernel
theorem dX8_add_29 : decode cX8_add 29 = .ok (.aload_n 0, 1) := by decide +kernel
theorem dX8_add_30 : decode cX8_add 30 = .ok (.aload_n 0, 1) := by decide +kernel
theorem dX8_add_31 : decode cX8_add 31 = .ok (.getfield 15, 3) := by decide +kernel
theorem dX8_add_34 : decode cX8_add 34 = .ok (.iconst 2, 1) := by decide +kernel
theorem dX8_add_35 : decode cX8_add 35 = .ok (.aload_n 0, 1) := by decide +kernel
theorem dX8_add_36 : decode cX8_add 36 = .ok (.getfield 34, 3) := by decide +kernel
theorem dX8_add_39 : decode cX8_add 39 = .ok (.imul, 1) := by decide +kernel
theorem dX8_add_40 : decode cX8_add 40 = .ok (.invokestatic 125, 3) := by decide +kernel
theorem dX8_add_43 : decode cX8_add 43 = .ok (.putfield 15, 3) := by decide +kernel
theorem dX8_add_46 : decode cX8_add 46 = .ok (.aload_n 0, 1) := by decide +kernel
theorem dX8_add_47 : decode cX8_add 47 = .ok (.aload_n 0, 1) := by decide +kernel
theorem dX8_add_48 : decode cX8_add 48 = .ok (.getfield 18, 3) := by decide +kernel
theorem dX8_add_51 : decode cX8_add 51 = .ok (.iconst 2, 1) := by decide +kernel
theorem dX8_add_52 : decode cX8_add 52 = .ok (.aload_n 0, 1) := by decide +kernel
theorem dX8_add_53 : decode cX8_add 53 = .ok (.getfield 34, 3) := by decide +kernel
theorem dX8_add_56 : decode cX8_add 56 = .ok (.imul, 1) := by decide +kernel
theorem dX8_add_57 : decode cX8_add 57 = .ok (.invokestatic 125, 3) := by decide +kernel
theorem dX8_add_60 : decode cX8_add 60 = .ok (.putfield 18, 3) := by decide +kernel
theorem dX8_add_63 : decode cX8_add 63 = .ok (.aload_n 0, 1) := by decide +kernel
theorem dX8_add_64 : decode cX8_add 64 = .ok (.aload_n 0, 1) := by decide +kernel
theorem dX8_add_65 : decode cX8_add 65 = .ok (.getfield 21, 3) := by decide +kernel
theorem dX8_add_68 : decode cX8_add 68 = .ok (.iconst 2, 1) := by decide +kernel
theorem dX8_add_69 : decode cX8_add 69 = .ok (.aload_n 0, 1) := by decide +kernel
theorem dX8_add_70 : decode cX8_add 70 = .ok (.getfield 34, 3) := by decide +kernel
theorem dX8_add_73 : decode cX8_add 73 = .ok (.imul, 1) := by decide +kernel
theorem dX8_add_74 : decode cX8_add 74 = .ok (.invokestatic 125, 3) := by decide +kernel
theorem dX8_add_77 : decode cX8_add 77 = .ok (.putfield 21, 3) := by decide +kernel
theorem dX8_add_80 : decode cX8_add 80 = .ok (.aload_n 0, 1) := by decide +kernel
theorem dX8_add_81 : decode cX8_add 81 = .ok (.getfield 9, 3) := by decide +kernel
theorem dX8_add_84 : decode cX8_add 84 = .ok (.aload_n 0, 1) := by decide +kernel
theorem dX8_add_85 : decode cX8_add 85 = .ok (.getfield 34, 3) := by decide +kernel
theorem dX8_add_88 : decode cX8_add 88 = .ok (.iload_n 1, 1) := by decide +kernel
theorem dX8_add_89 : decode cX8_add 89 = .ok (.iastore, 1) := by decide +kernel
theorem dX8_add_90 : decode cX8_add 90 = .ok (.aload_n 0, 1) := by decide +kernel
theorem dX8_add_91 : decode cX8_add 91 = .ok (.getfield 15, 3) := by decide +kernel
theorem dX8_add_94 : decode cX8_add 94 = .ok (.aload_n 0, 1) := by decide +kernel
theorem dX8_add_95 : decode cX8_add 95 = .ok (.getfield 34, 3) := by decide +kernel
theorem dX8_add_98 : decode cX8_add 98 = .ok (.iload_n 2, 1) := by decide +kernel
theorem dX8_add_99 : decode cX8_add 99 = .ok (.iastore, 1) := by decide +kernel
theorem dX8_add_100 : decode cX8_add 100 = .ok (.aload_n 0, 1) := by decide +kernel
theorem dX8_add_101 : decode cX8_add 101 = .ok (.getfield 18, 3) := by decide +kernel
theorem dX8_add_104 : decode cX8_add 104 = .ok (.aload_n 0, 1) := by decide +kernel
theorem dX8_add_105 : decode cX8_add 105 = .ok (.getfield 34, 3) := by decide +kernel
theorem dX8_add_108 : decode cX8_add 108 = .ok (.iload_n 3, 1) := by decide +kernel
theorem dX8_add_109 : decode cX8_add 109 = .ok (.iastore, 1) := by decide +kernel
theorem dX8_add_110 : decode cX8_add 110 = .ok (.aload_n 0, 1) := by decide +kernel
theorem dX8_add_111 : decode cX8_add 111 = .ok (.getfield 21, 3) := by decide +kernel
theorem dX8_add_114 : decode cX8_add 114 = .ok (.aload_n 0, 1) := by decide +kernel
theorem dX8_add_115 : decode cX8_add 115 = .ok (.getfield 34, 3) := by decide +kernel
theorem dX8_add_118 : decode cX8_add 118 = .ok (.iload 4, 2) := by decide +kernel
theorem dX8_add_120 : decode cX8_add 120 = .ok (.iastore, 1) := by decide +kernel
theorem dX8_add_121 : decode cX8_add 121 = .ok (.aload_n 0, 1) := by decide +kernel
theorem dX8_add_122 : decode cX8_add 122 = .ok (.dup, 1) := by decide +kernel
theorem dX8_add_123 : decode cX8_add 123 = .ok (.getfield 34, 3) := by decide +kernel
theorem dX8_add_126 : decode cX8_add 126 = .ok (.iconst 1, 1) := by decide +kernel
theorem dX8_add_127 : decode cX8_add 127 = .ok (.iadd, 1) := by decide +kernel
theorem dX8_add_128 : decode cX8_add 128 = .ok (.putfield 34, 3) := by decide +kernel
theorem dX8_add_131 : decode cX8_add 131 = .ok (.return_, 1) := by decide +kernel
set_option maxRecDepth 20000 in
theorem ggX8_findLeastByUnits_X8_rowsInGroup : GoodIn wsX8_findLeastByUnits wsX8_rowsInGroup := goodIn_r _ [10, 11, 12, 13, 14, 15, 16, 17, 24, 25, 26, 27, 28, 29, 30, 31, 32, 33, 34, 35, 36, 37, 38, 39, 40, 41, 42, 43, 44, 45] (by decide +kernel) (by decide +kernel)
set_option maxRecDepth 20000 in
theorem gX8_findLeastByUnits_X8_rowsInGroup : GoodIn wsX8_findLeastByUnits (wsV RX8 132 RX8 yX8_rowsInGroup wsX8_rowsInGroup) := goodIn_app (goodIn_of _ (by decide +kernel)) ggX8_findLeastByUnits_X8_rowsInGroup
set_option maxRecDepth 20000 in
theorem ggX8_findLeastByUnits_X9_quotient : GoodIn wsX8_findLeastByUnits wsX9_quotient := goodIn_r _ [19, 20, 21, 22, 23] (by decide +kernel) (by decide +kernel)
set_option maxRecDepth 20000 in
theorem gX8_findLeastByUnits_X9_quotient_n135 : GoodIn wsX8_findLeastByUnits (wsX9_quotient) := ggX8_findLeastByUnits_X9_quotient
theorem dX8_findLeastByUnits_0 : decode cX8_findLeastByUnits 0 = .ok (.iconst 0, 1) := by decide +kernel
theorem dX8_findLeastByUnits_1 : decode cX8_findLeastByUnits 1 = .ok (.istore_n 1, 1) := by decide +kernel
theorem dX8_findLeastByUnits_2 : decode cX8_findLeastByUnits 2 = .ok (.iconst 0, 1) := by decide +kernel
theorem dX8_findLeastByUnits_3 : decode cX8_findLeastByUnits 3 = .ok (.istore_n 2, 1) := by decide +kernel
theorem dX8_findLeastByUnits_4 : decode cX8_findLeastByUnits 4 = .ok (.iload_n 2, 1) := by decide +kernel
theorem dX8_findLeastByUnits_5 : decode cX8_findLeastByUnits 5 = .ok (.iconst 4, 1) := by decide +kernel
theorem dX8_findLeastByUnits_6 : decode cX8_findLeastByUnits 6 = .ok (.if_icmp .ge 38, 3) := by decide +kernel
theorem dX8_findLeastByUnits_9 : decode cX8_findLeastByUnits 9 = .ok (.aload_n 0, 1) := by decide +kernel
theorem dX8_findLeastByUnits_10 : decode cX8_findLeastByUnits 10 = .ok (.getfield 31, 3) := by decide +kernel
theorem dX8_findLeastByUnits_13 : decode cX8_findLeastByUnits 13 = .ok (.getstatic 129, 3) := by decide +kernel
theorem dX8_findLeastByUnits_16 : decode cX8_findLeastByUnits 16 = .ok (.iload_n 2, 1) := by decide +kernel
theorem dX8_findLeastByUnits_17 : decode cX8_findLeastByUnits 17 = .ok (.iaload, 1) := by decide +kernel
theorem dX8_findLeastByUnits_18 : decode cX8_findLeastByUnits 18 = .ok (.iaload, 1) := by decide +kernel
theorem dX8_findLeastByUnits_19 : decode cX8_findLeastByUnits 19 = .ok (.istore_n 3, 1) := by decide +kernel
theorem dX8_findLeastByUnits_20 : decode cX8_findLeastByUnits 20 = .ok (.iload_n 1, 1) := by decide +kernel
theorem dX8_findLeastByUnits_21 : decode cX8_findLeastByUnits 21 = .ok (.aload_n 0, 1) := by decide +kernel
theorem dX8_findLeastByUnits_22 : decode cX8_findLeastByUnits 22 = .ok (.iload_n 2, 1) := by decide +kernel
theorem dX8_findLeastByUnits_23 : decode cX8_findLeastByUnits 23 = .ok (.invokevirtual 132, 3) := by decide +kernel
theorem dX8_findLeastByUnits_26 : decode cX8_findLeastByUnits 26 = .ok (.iload_n 3, 1) := by decide +kernel
theorem dX8_findLeastByUnits_27 : decode cX8_findLeastByUnits 27 = .ok (.iadd, 1) := by decide +kernel
theorem dX8_findLeastByUnits_28 : decode cX8_findLeastByUnits 28 = .ok (.iconst 1, 1) := by decide +kernel
theorem dX8_findLeastByUnits_29 : decode cX8_findLeastByUnits 29 = .ok (.isub, 1) := by decide +kernel
theorem dX8_findLeastByUnits_30 : decode cX8_findLeastByUnits 30 = .ok (.iload_n 3, 1) := by decide +kernel
theorem dX8_findLeastByUnits_31 : decode cX8_findLeastByUnits 31 = .ok (.invokestatic 135, 3) := by decide +kernel
theorem dX8_findLeastByUnits_34 : decode cX8_findLeastByUnits 34 = .ok (.invokestatic 99, 3) := by decide +kernel
theorem dX8_findLeastByUnits_37 : decode cX8_findLeastByUnits 37 = .ok (.istore_n 1, 1) := by decide +kernel
theorem dX8_findLeastByUnits_38 : decode cX8_findLeastByUnits 38 = .ok (.iinc 2 1, 3) := by decide +kernel
theorem dX8_findLeastByUnits_41 : decode cX8_findLeastByUnits 41 = .ok (.goto (-37), 3) := by decide +kernel
theorem dX8_findLeastByUnits_44 : decode cX8_findLeastByUnits 44 = .ok (.iload_n 1, 1) := by decide +kernel
theorem dX8_findLeastByUnits_45 : decode cX8_findLeastByUnits 45 = .ok (.ireturn, 1) := by decide +kernel
set_option maxRecDepth 20000 in
theorem ggX8_rowsInGroup_X9_isInGroup : GoodIn wsX8_rowsInGroup wsX9_isInGroup := goodIn_r _ [7] (by decide +kernel) (by decide +kernel)
set_option maxRecDepth 20000 in
theorem gX8_rowsInGroup_X9_isInGroup_n138 : GoodIn wsX8_rowsInGroup (wsX9_isInGroup) := ggX8_rowsInGroup_X9_isInGroup
theorem dX8_rowsInGroup_0 : decode cX8_rowsInGroup 0 = .ok (.iconst 0, 1) := by decide +kernel
theorem dX8_rowsInGroup_1 : decode cX8_rowsInGroup 1 = .ok (.istore_n 2, 1) := by decide +kernel
theorem dX8_rowsInGroup_2 : decode cX8_rowsInGroup 2 = .ok (.iconst 0, 1) := by decide +kernel
theorem dX8_rowsInGroup_3 : decode cX8_rowsInGroup 3 = .ok (.istore_n 3, 1) := by decide +kernel
theorem dX8_rowsInGroup_4 : decode cX8_rowsInGroup 4 = .ok (.iload_n 3, 1) := by decide +kernel
theorem dX8_rowsInGroup_5 : decode cX8_rowsInGroup 5 = .ok (.aload_n 0, 1) := by decide +kernel
theorem dX8_rowsInGroup_6 : decode cX8_rowsInGroup 6 = .ok (.getfield 27, 3) := by decide +kernel
theorem dX8_rowsInGroup_9 : decode cX8_rowsInGroup 9 = .ok (.getfield 38, 3) := by decide +kernel
theorem dX8_rowsInGroup_12 : decode cX8_rowsInGroup 12 = .ok (.if_icmp .ge 31, 3) := by decide +kernel
theorem dX8_rowsInGroup_15 : decode cX8_rowsInGroup 15 = .ok (.aload_n 0, 1) := by decide +kernel
theorem dX8_rowsInGroup_16 : decode cX8_rowsInGroup 16 = .ok (.getfield 27, 3) := by decide +kernel
theorem dX8_rowsInGroup_19 : decode cX8_rowsInGroup 19 = .ok (.getfield 68, 3) := by decide +kernel
theorem dX8_rowsInGroup_22 : decode cX8_rowsInGroup 22 = .ok (.iload_n 3, 1) := by decide +kernel
theorem dX8_rowsInGroup_23 : decode cX8_rowsInGroup 23 = .ok (.aaload, 1) := by decide +kernel
theorem dX8_rowsInGroup_24 : decode cX8_rowsInGroup 24 = .ok (.getfield 72, 3) := by decide +kernel
theorem dX8_rowsInGroup_27 : decode cX8_rowsInGroup 27 = .ok (.iload_n 1, 1) := by decide +kernel
theorem dX8_rowsInGroup_28 : decode cX8_rowsInGroup 28 = .ok (.invokestatic 138, 3) := by decide +kernel
theorem dX8_rowsInGroup_31 : decode cX8_rowsInGroup 31 = .ok (.ifCond .eq 6, 3) := by decide +kernel
theorem dX8_rowsInGroup_34 : decode cX8_rowsInGroup 34 = .ok (.iinc 2 1, 3) := by decide +kernel
theorem dX8_rowsInGroup_37 : decode cX8_rowsInGroup 37 = .ok (.iinc 3 1, 3) := by decide +kernel
theorem dX8_rowsInGroup_40 : decode cX8_rowsInGroup 40 = .ok (.goto (-36), 3) := by decide +kernel
theorem dX8_rowsInGroup_43 : decode cX8_rowsInGroup 43 = .ok (.iload_n 2, 1) := by decide +kernel
theorem dX8_rowsInGroup_44 : decode cX8_rowsInGroup 44 = .ok (.ireturn, 1) := by decide +kernel
set_option maxRecDepth 20000 in
theorem ggX8_findLeastByCircles_X8_findHeights : GoodIn wsX8_findLeastByCircles wsX8_findHeights := goodIn_r _ [5, 6, 7, 8, 9, 10, 11, 12, 13, 14, 15, 4, 16, 17, 18, 19, 20, 21, 22, 23, 24, 25, 26, 27, 28, 29, 30, 31, 32, 33, 34] (by decide +kernel) (by decide +kernel)
set_option maxRecDepth 20000 in
theorem gX8_findLeastByCircles_X8_findHeights : GoodIn wsX8_findLeastByCircles (wsV RX8 142 RX8 yX8_findHeights wsX8_findHeights) := goodIn_app (goodIn_of _ (by decide +kernel)) ggX8_findLeastByCircles_X8_findHeights
theorem dX8_findLeastByCircles_0 : decode cX8_findLeastByCircles 0 = .ok (.iconst 1, 1) := by decide +kernel
theorem dX8_findLeastByCircles_1 : decode cX8_findLeastByCircles 1 = .ok (.istore_n 1, 1) := by decide +kernel
theorem dX8_findLeastByCircles_2 : decode cX8_findLeastByCircles 2 = .ok (.sipush 960, 3) := by decide +kernel
theorem dX8_findLeastByCircles_5 : decode cX8_findLeastByCircles 5 = .ok (.istore_n 2, 1) := by decide +kernel
theorem dX8_findLeastByCircles_6 : decode cX8_findLeastByCircles 6 = .ok (.iconst 0, 1) := by decide +kernel
theorem dX8_findLeastByCircles_7 : decode cX8_findLeastByCircles 7 = .ok (.istore_n 3, 1) := by decide +kernel
theorem dX8_findLeastByCircles_8 : decode cX8_findLeastByCircles 8 = .ok (.iload_n 3, 1) := by decide +kernel
theorem dX8_findLeastByCircles_9 : decode cX8_findLeastByCircles 9 = .ok (.bipush 32, 2) := by decide +kernel
theorem dX8_findLeastByCircles_11 : decode cX8_findLeastByCircles 11 = .ok (.if_icmp .ge 41, 3) := by decide +kernel
theorem dX8_findLeastByCircles_14 : decode cX8_findLeastByCircles 14 = .ok (.iload_n 1, 1) := by decide +kernel
theorem dX8_findLeastByCircles_15 : decode cX8_findLeastByCircles 15 = .ok (.iload_n 2, 1) := by decide +kernel
theorem dX8_findLeastByCircles_16 : decode cX8_findLeastByCircles 16 = .ok (.if_icmp .ge 36, 3) := by decide +kernel
theorem dX8_findLeastByCircles_19 : decode cX8_findLeastByCircles 19 = .ok (.iload_n 1, 1) := by decide +kernel
theorem dX8_findLeastByCircles_20 : decode cX8_findLeastByCircles 20 = .ok (.iload_n 2, 1) := by decide +kernel
theorem dX8_findLeastByCircles_21 : decode cX8_findLeastByCircles 21 = .ok (.iadd, 1) := by decide +kernel
theorem dX8_findLeastByCircles_22 : decode cX8_findLeastByCircles 22 = .ok (.iconst 2, 1) := by decide +kernel
theorem dX8_findLeastByCircles_23 : decode cX8_findLeastByCircles 23 = .ok (.idiv, 1) := by decide +kernel
theorem dX8_findLeastByCircles_24 : decode cX8_findLeastByCircles 24 = .ok (.istore 4, 2) := by decide +kernel
theorem dX8_findLeastByCircles_26 : decode cX8_findLeastByCircles 26 = .ok (.aload_n 0, 1) := by decide +kernel
theorem dX8_findLeastByCircles_27 : decode cX8_findLeastByCircles 27 = .ok (.iload 4, 2) := by decide +kernel
theorem dX8_findLeastByCircles_29 : decode cX8_findLeastByCircles 29 = .ok (.invokevirtual 142, 3) := by decide +kernel
theorem dX8_findLeastByCircles_32 : decode cX8_findLeastByCircles 32 = .ok (.ifCond .eq 9, 3) := by decide +kernel
theorem dX8_findLeastByCircles_35 : decode cX8_findLeastByCircles 35 = .ok (.iload 4, 2) := by decide +kernel
theorem dX8_findLeastByCircles_37 : decode cX8_findLeastByCircles 37 = .ok (.istore_n 2, 1) := by decide +kernel
theorem dX8_findLeastByCircles_38 : decode cX8_findLeastByCircles 38 = .ok (.goto 8, 3) := by decide +kernel
theorem dX8_findLeastByCircles_41 : decode cX8_findLeastByCircles 41 = .ok (.iload 4, 2) := by decide +kernel
theorem dX8_findLeastByCircles_43 : decode cX8_findLeastByCircles 43 = .ok (.iconst 1, 1) := by decide +kernel
theorem dX8_findLeastByCircles_44 : decode cX8_findLeastByCircles 44 = .ok (.iadd, 1) := by decide +kernel
theorem dX8_findLeastByCircles_45 : decode cX8_findLeastByCircles 45 = .ok (.istore_n 1, 1) := by decide +kernel
theorem dX8_findLeastByCircles_46 : decode cX8_findLeastByCircles 46 = .ok (.iinc 3 1, 3) := by decide +kernel
theorem dX8_findLeastByCircles_49 : decode cX8_findLeastByCircles 49 = .ok (.goto (-41), 3) := by decide +kernel
theorem dX8_findLeastByCircles_52 : decode cX8_findLeastByCircles 52 = .ok (.iload_n 2, 1) := by decide +kernel
theorem dX8_findLeastByCircles_53 : decode cX8_findLeastByCircles 53 = .ok (.ireturn, 1) := by decide +kernel
set_option maxRecDepth 20000 in
theorem ggX9_init_X0_init : GoodIn wsX9_init wsX0_init := goodIn_r _ [41, 42, 2, 3, 43, 44, 14, 45, 46, 47, 48, 49, 50, 51, 52, 53, 54, 55, 56, 57, 58, 59, 124, 125, 126, 169, 170, 171, 172, 173, 174, 175, 176, 177, 178, 179] (by decide +kernel) (by decide +kernel)
set_option maxRecDepth 20000 in
theorem gX9_init_X0_init : GoodIn wsX9_init (wsX0_init) := ggX9_init_X0_init
set_option maxRecDepth 20000 in
theorem ggX9_init_X5_init : GoodIn wsX9_init wsX5_init := goodIn_r _ [62, 63, 2, 3, 14, 64, 65, 66, 67, 131, 132, 133, 134, 135, 136] (by decide +kernel) (by decide +kernel)
set_option maxRecDepth 20000 in
theorem gX9_init_X5_init : GoodIn wsX9_init (wsX5_init) := ggX9_init_X5_init
set_option maxRecDepth 20000 in
theorem ggX9_init_X2_init : GoodIn wsX9_init wsX2_init := goodIn_r _ [70, 71, 2, 3, 72, 73, 74, 127, 128, 129, 130] (by decide +kernel) (by decide +kernel)
set_option maxRecDepth 20000 in
theorem gX9_init_X2_init : GoodIn wsX9_init (wsX2_init) := ggX9_init_X2_init
set_option maxRecDepth 20000 in
theorem ggX9_init_X8_init : GoodIn wsX9_init wsX8_init := goodIn_r _ [77, 78, 2, 3, 14, 79, 80, 81, 82, 83, 84, 85, 137, 138, 139, 140, 141, 142, 143, 144, 145, 146] (by decide +kernel) (by decide +kernel)
set_option maxRecDepth 20000 in
theorem gX9_init_X8_init : GoodIn wsX9_init (wsX8_init) := ggX9_init_X8_init
set_option maxRecDepth 20000 in
theorem ggX9_init_X7_init : GoodIn wsX9_init wsX7_init := goodIn_r _ [88, 89, 2, 3, 14, 90, 91, 92, 93, 94, 95, 147, 148, 149, 150, 151, 152, 153, 154, 155] (by decide +kernel) (by decide +kernel)
set_option maxRecDepth 20000 in
theorem gX9_init_X7_init : GoodIn wsX9_init (wsX7_init) := ggX9_init_X7_init
set_option maxRecDepth 20000 in
theorem ggX9_init_X6_init : GoodIn wsX9_init wsX6_init := goodIn_r _ [98, 99, 2, 3, 14, 100, 101, 102, 103, 104, 105, 106, 107, 108, 156, 157, 158, 159, 160, 161, 162, 163, 164, 165, 166, 167, 168] (by decide +kernel) (by decide +kernel)
set_option maxRecDepth 20000 in
theorem gX9_init_X6_init : GoodIn wsX9_init (wsX6_init) := ggX9_init_X6_init
theorem dX9_init_0 : decode cX9_init 0 = .ok (.aload_n 0, 1) := by decide +kernel
theorem dX9_init_1 : decode cX9_init 1 = .ok (.invokespecial 3, 3) := by decide +kernel
theorem dX9_init_4 : decode cX9_init 4 = .ok (.aload_n 0, 1) := by decide +kernel
theorem dX9_init_5 : decode cX9_init 5 = .ok (.sipush 4096, 3) := by decide +kernel
theorem dX9_init_8 : decode cX9_init 8 = .ok (.newarray .byte, 2) := by decide +kernel
theorem dX9_init_10 : decode cX9_init 10 = .ok (.putfield 9, 3) := by decide +kernel
theorem dX9_init_13 : decode cX9_init 13 = .ok (.aload_n 0, 1) := by decide +kernel
theorem dX9_init_14 : decode cX9_init 14 = .ok (.getstatic 13, 3) := by decide +kernel
theorem dX9_init_17 : decode cX9_init 17 = .ok (.invokevirtual 17, 3) := by decide +kernel
theorem dX9_init_20 : decode cX9_init 20 = .ok (.checkcast 18, 3) := by decide +kernel
theorem dX9_init_23 : decode cX9_init 23 = .ok (.putfield 22, 3) := by decide +kernel
theorem dX9_init_26 : decode cX9_init 26 = .ok (.aload_n 0, 1) := by decide +kernel
theorem dX9_init_27 : decode cX9_init 27 = .ok (.bipush 32, 2) := by decide +kernel
theorem dX9_init_29 : decode cX9_init 29 = .ok (.newarray .int, 2) := by decide +kernel
theorem dX9_init_31 : decode cX9_init 31 = .ok (.putfield 25, 3) := by decide +kernel
theorem dX9_init_34 : decode cX9_init 34 = .ok (.aload_n 0, 1) := by decide +kernel
theorem dX9_init_35 : decode cX9_init 35 = .ok (.new 28, 3) := by decide +kernel
theorem dX9_init_38 : decode cX9_init 38 = .ok (.dup, 1) := by decide +kernel
theorem dX9_init_39 : decode cX9_init 39 = .ok (.invokespecial 30, 3) := by decide +kernel
theorem dX9_init_42 : decode cX9_init 42 = .ok (.putfield 31, 3) := by decide +kernel
theorem dX9_init_45 : decode cX9_init 45 = .ok (.aload_n 0, 1) := by decide +kernel
theorem dX9_init_46 : decode cX9_init 46 = .ok (.new 35, 3) := by decide +kernel
theorem dX9_init_49 : decode cX9_init 49 = .ok (.dup, 1) := by decide +kernel
theorem dX9_init_50 : decode cX9_init 50 = .ok (.new 37, 3) := by decide +kernel
theorem dX9_init_53 : decode cX9_init 53 = .ok (.dup, 1) := by decide +kernel
theorem dX9_init_54 : decode cX9_init 54 = .ok (.aload_n 0, 1) := by decide +kernel
theorem dX9_init_55 : decode cX9_init 55 = .ok (.getfield 9, 3) := by decide +kernel
theorem dX9_init_58 : decode cX9_init 58 = .ok (.invokespecial 39, 3) := by decide +kernel
theorem dX9_init_61 : decode cX9_init 61 = .ok (.aload_n 0, 1) := by decide +kernel
theorem dX9_init_62 : decode cX9_init 62 = .ok (.getfield 31, 3) := by decide +kernel
theorem dX9_init_65 : decode cX9_init 65 = .ok (.invokespecial 42, 3) := by decide +kernel
theorem dX9_init_68 : decode cX9_init 68 = .ok (.putfield 45, 3) := by decide +kernel
theorem dX9_init_71 : decode cX9_init 71 = .ok (.aload_n 0, 1) := by decide +kernel
theorem dX9_init_72 : decode cX9_init 72 = .ok (.new 49, 3) := by decide +kernel
theorem dX9_init_75 : decode cX9_init 75 = .ok (.dup, 1) := by decide +kernel
theorem dX9_init_76 : decode cX9_init 76 = .ok (.aload_n 0, 1) := by decide +kernel
theorem dX9_init_77 : decode cX9_init 77 = .ok (.getfield 31, 3) := by decide +kernel
theorem dX9_init_80 : decode cX9_init 80 = .ok (.aload_n 0, 1) := by decide +kernel
theorem dX9_init_81 : decode cX9_init 81 = .ok (.getfield 22, 3) := by decide +kernel
theorem dX9_init_84 : decode cX9_init 84 = .ok (.invokespecial 51, 3) := by decide +kernel
theorem dX9_init_87 : decode cX9_init 87 = .ok (.putfield 54, 3) := by decide +kernel
theorem dX9_init_90 : decode cX9_init 90 = .ok (.aload_n 0, 1) := by decide +kernel
theorem dX9_init_91 : decode cX9_init 91 = .ok (.new 58, 3) := by decide +kernel
theorem dX9_init_94 : decode cX9_init 94 = .ok (.dup, 1) := by decide +kernel
theorem dX9_init_95 : decode cX9_init 95 = .ok (.aload_n 0, 1) := by decide +kernel
theorem dX9_init_96 : decode cX9_init 96 = .ok (.getfield 31, 3) := by decide +kernel
theorem dX9_init_99 : decode cX9_init 99 = .ok (.aload_n 0, 1) := by decide +kernel
theorem dX9_init_100 : decode cX9_init 100 = .ok (.getfield 54, 3) := by decide +kernel
theorem dX9_init_103 : decode cX9_init 103 = .ok (.aload_n 0, 1) := by decide +kernel
theorem dX9_init_104 : decode cX9_init 104 = .ok (.getfield 22, 3) := by decide +kernel
theorem dX9_init_107 : decode cX9_init 107 = .ok (.invokespecial 60, 3) := by decide +kernel
theorem dX9_init_110 : decode cX9_init 110 = .ok (.putfield 63, 3) := by decide +kernel
theorem dX9_init_113 : decode cX9_init 113 = .ok (.aload_n 0, 1) := by decide +kernel
theorem dX9_init_114 : decode cX9_init 114 = .ok (.new 67, 3) := by decide +kernel
theorem dX9_init_117 : decode cX9_init 117 = .ok (.dup, 1) := by decide +kernel
theorem dX9_init_118 : decode cX9_init 118 = .ok (.aload_n 0, 1) := by decide +kernel
theorem dX9_init_119 : decode cX9_init 119 = .ok (.getfield 31, 3) := by decide +kernel
theorem dX9_init_122 : decode cX9_init 122 = .ok (.aload_n 0, 1) := by decide +kernel
theorem dX9_init_123 : decode cX9_init 123 = .ok (.getfield 63, 3) := by decide +kernel
theorem dX9_init_126 : decode cX9_init 126 = .ok (.aload_n 0, 1) := by decide +kernel
theorem dX9_init_127 : decode cX9_init 127 = .ok (.getfield 22, 3) := by decide +kernel
theorem dX9_init_130 : decode cX9_init 130 = .ok (.invokespecial 69, 3) := by decide +kernel
theorem dX9_init_133 : decode cX9_init 133 = .ok (.putfield 72, 3) := by decide +kernel
theorem dX9_init_136 : decode cX9_init 136 = .ok (.return_, 1) := by decide +kernel
set_option maxRecDepth 20000 in
theorem ggX9_feed_X9_appendBytes : GoodIn wsX9_feed wsX9_appendBytes := goodIn_r _ [8, 3, 9, 10, 11, 12, 13, 14, 15, 16, 17, 18, 19, 20, 21, 22, 23, 24] (by decide +kernel) (by decide +kernel)
set_option maxRecDepth 20000 in
theorem gX9_feed_X9_appendBytes : GoodIn wsX9_feed (wsV RX9 87 RX9 yX9_appendBytes wsX9_appendBytes) := goodIn_app (goodIn_of _ (by decide +kernel)) ggX9_feed_X9_appendBytes
theorem dX9_feed_0 : decode cX9_feed 0 = .ok (.aload_n 0, 1) := by decide +kernel
theorem dX9_feed_1 : decode cX9_feed 1 = .ok (.getfield 76, 3) := by decide +kernel
theorem dX9_feed_4 : decode cX9_feed 4 = .ok (.sipush 4076, 3) := by decide +kernel
theorem dX9_feed_7 : decode cX9_feed 7 = .ok (.if_icmp .le 13, 3) := by decide +kernel
theorem dX9_feed_10 : decode cX9_feed 10 = .ok (.new 80, 3) := by decide +kernel
theorem dX9_feed_13 : decode cX9_feed 13 = .ok (.dup, 1) := by decide +kernel
theorem dX9_feed_14 : decode cX9_feed 14 = .ok (.ldc 82, 2) := by decide +kernel
theorem dX9_feed_16 : decode cX9_feed 16 = .ok (.invokespecial 84, 3) := by decide +kernel
theorem dX9_feed_19 : decode cX9_feed 19 = .ok (.athrow, 1) := by decide +kernel
theorem dX9_feed_20 : decode cX9_feed 20 = .ok (.aload_n 0, 1) := by decide +kernel
theorem dX9_feed_21 : decode cX9_feed 21 = .ok (.iload_n 1, 1) := by decide +kernel
theorem dX9_feed_22 : decode cX9_feed 22 = .ok (.invokevirtual 87, 3) := by decide +kernel
theorem dX9_feed_25 : decode cX9_feed 25 = .ok (.aload_n 0, 1) := by decide +kernel
theorem dX9_feed_26 : decode cX9_feed 26 = .ok (.iload_n 2, 1) := by decide +kernel
theorem dX9_feed_27 : decode cX9_feed 27 = .ok (.invokevirtual 87, 3) := by decide +kernel
theorem dX9_feed_30 : decode cX9_feed 30 = .ok (.aload_n 0, 1) := by decide +kernel
theorem dX9_feed_31 : decode cX9_feed 31 = .ok (.iload_n 3, 1) := by decide +kernel
theorem dX9_feed_32 : decode cX9_feed 32 = .ok (.invokevirtual 87, 3) := by decide +kernel
theorem dX9_feed_35 : decode cX9_feed 35 = .ok (.aload_n 0, 1) := by decide +kernel
theorem dX9_feed_36 : decode cX9_feed 36 = .ok (.iload 4, 2) := by decide +kernel
theorem dX9_feed_38 : decode cX9_feed 38 = .ok (.invokevirtual 87, 3) := by decide +kernel
theorem dX9_feed_41 : decode cX9_feed 41 = .ok (.aload_n 0, 1) := by decide +kernel
theorem dX9_feed_42 : decode cX9_feed 42 = .ok (.iload 5, 2) := by decide +kernel
theorem dX9_feed_44 : decode cX9_feed 44 = .ok (.invokevirtual 87, 3) := by decide +kernel
theorem dX9_feed_47 : decode cX9_feed 47 = .ok (.aload_n 0, 1) := by decide +kernel
theorem dX9_feed_48 : decode cX9_feed 48 = .ok (.getfield 76, 3) := by decide +kernel
theorem dX9_feed_51 : decode cX9_feed 51 = .ok (.ireturn, 1) := by decide +kernel
theorem dX9_end_0 : decode cX9_end 0 = .ok (.iload_n 1, 1) := by decide +kernel
theorem dX9_end_1 : decode cX9_end 1 = .ok (.ifCond .lt 11, 3) := by decide +kernel
theorem dX9_end_4 : decode cX9_end 4 = .ok (.iload_n 1, 1) := by decide +kernel
theorem dX9_end_5 : decode cX9_end 5 = .ok (.aload_n 0, 1) := by decide +kernel
theorem dX9_end_6 : decode cX9_end 6 = .ok (.getfield 76, 3) := by decide +kernel
theorem dX9_end_9 : decode cX9_end 9 = .ok (.if_icmp .le 13, 3) := by decide +kernel
theorem dX9_end_12 : decode cX9_end 12 = .ok (.new 91, 3) := by decide +kernel
theorem dX9_end_15 : decode cX9_end 15 = .ok (.dup, 1) := by decide +kernel
theorem dX9_end_16 : decode cX9_end 16 = .ok (.ldc 93, 2) := by decide +kernel
theorem dX9_end_18 : decode cX9_end 18 = .ok (.invokespecial 95, 3) := by decide +kernel
theorem dX9_end_21 : decode cX9_end 21 = .ok (.athrow, 1) := by decide +kernel
theorem dX9_end_22 : decode cX9_end 22 = .ok (.aload_n 0, 1) := by decide +kernel
theorem dX9_end_23 : decode cX9_end 23 = .ok (.iload_n 1, 1) := by decide +kernel
theorem dX9_end_24 : decode cX9_end 24 = .ok (.putfield 76, 3) := by decide +kernel
theorem dX9_end_27 : decode cX9_end 27 = .ok (.iload_n 1, 1) := by decide +kernel
theorem dX9_end_28 : decode cX9_end 28 = .ok (.ireturn, 1) := by decide +kernel
set_option maxRecDepth 20000 in
theorem ggX9_text_X9_forgetPlan : GoodIn wsX9_text wsX9_forgetPlan := goodIn_r _ [9, 10, 11, 12, 13, 165, 166, 167, 168, 169, 170, 171, 172, 173, 174, 175, 176, 177, 178, 179] (by decide +kernel) (by decide +kernel)
set_option maxRecDepth 20000 in
theorem gX9_text_X9_forgetPlan : GoodIn wsX9_text (wsV RX9 96 RX9 yX9_forgetPlan wsX9_forgetPlan) := goodIn_app (goodIn_of _ (by decide +kernel)) ggX9_text_X9_forgetPlan
set_option maxRecDepth 20000 in
theorem ggX9_text_X2_readText : GoodIn wsX9_text wsX2_readText := goodIn_r _ [18, 19, 20, 21, 22, 23, 24, 25, 26, 27, 28, 29, 30, 31, 32, 33, 34, 35, 36, 37, 38, 39, 40, 41, 42, 43, 44, 45, 46, 47, 48, 49, 50, 51, 52, 53, 54, 55, 56, 57, 58, 59, 60, 61, 62, 63, 64, 65, 66, 67, 68, 69, 70, 71, 72, 73, 74, 75, 76, 77, 17, 78, 79, 80, 81, 82, 83, 84, 85, 86, 87, 88, 89, 90, 91, 92, 93, 94, 95, 96, 97, 98, 99, 100, 101, 102, 103, 104, 105, 106, 107, 108, 109, 110, 111, 112, 113, 114, 115, 116, 117, 118, 119, 120, 121, 122, 123, 124, 125, 126, 127, 128, 129, 130, 131, 132, 133, 134, 135, 136, 137, 138, 139, 140, 141, 142, 143, 144, 145, 146, 147, 148, 149, 150, 151, 152, 153, 154, 155, 156, 157, 158, 159, 160, 161, 162, 163, 164, 180, 181, 182, 183, 184, 185, 186, 187, 188, 189, 190, 191, 192, 193, 194, 195, 196, 197, 198, 199, 200, 201, 202, 203] (by decide +kernel) (by decide +kernel)
set_option maxRecDepth 20000 in
theorem gX9_text_X2_readText : GoodIn wsX9_text (wsV RX9 99 RX2 yX2_readText wsX2_readText) := goodIn_app (goodIn_of _ (by decide +kernel)) ggX9_text_X2_readText
theorem dX9_text_0 : decode cX9_text 0 = .ok (.aload_n 0, 1) := by decide +kernel
theorem dX9_text_1 : decode cX9_text 1 = .ok (.getfield 76, 3) := by decide +kernel
theorem dX9_text_4 : decode cX9_text 4 = .ok (.istore_n 1, 1) := by decide +kernel
theorem dX9_text_5 : decode cX9_text 5 = .ok (.aload_n 0, 1) := by decide +kernel
theorem dX9_text_6 : decode cX9_text 6 = .ok (.iconst 0, 1) := by decide +kernel
theorem dX9_text_7 : decode cX9_text 7 = .ok (.putfield 76, 3) := by decide +kernel
theorem dX9_text_10 : decode cX9_text 10 = .ok (.aload_n 0, 1) := by decide +kernel
theorem dX9_text_11 : decode cX9_text 11 = .ok (.invokevirtual 96, 3) := by decide +kernel
theorem dX9_text_14 : decode cX9_text 14 = .ok (.aload_n 0, 1) := by decide +kernel
theorem dX9_text_15 : decode cX9_text 15 = .ok (.aload_n 0, 1) := by decide +kernel
theorem dX9_text_16 : decode cX9_text 16 = .ok (.getfield 45, 3) := by decide +kernel
theorem dX9_text_19 : decode cX9_text 19 = .ok (.iload_n 1, 1) := by decide +kernel
theorem dX9_text_20 : decode cX9_text 20 = .ok (.invokevirtual 99, 3) := by decide +kernel
theorem dX9_text_23 : decode cX9_text 23 = .ok (.putfield 103, 3) := by decide +kernel
theorem dX9_text_26 : decode cX9_text 26 = .ok (.aload_n 0, 1) := by decide +kernel
theorem dX9_text_27 : decode cX9_text 27 = .ok (.getfield 45, 3) := by decide +kernel
theorem dX9_text_30 : decode cX9_text 30 = .ok (.getfield 106, 3) := by decide +kernel
theorem dX9_text_33 : decode cX9_text 33 = .ok (.ireturn, 1) := by decide +kernel
set_option maxRecDepth 20000 in
theorem ggX9_set_X9_forgetPlan : GoodIn wsX9_set wsX9_forgetPlan := goodIn_r _ [9, 10, 11, 12, 13, 14, 15, 16, 17, 18, 19, 20, 21, 22, 23, 24, 25, 26, 27, 28] (by decide +kernel) (by decide +kernel)
set_option maxRecDepth 20000 in
theorem gX9_set_X9_forgetPlan : GoodIn wsX9_set (wsV RX9 96 RX9 yX9_forgetPlan wsX9_forgetPlan) := goodIn_app (goodIn_of _ (by decide +kernel)) ggX9_set_X9_forgetPlan
theorem dX9_set_0 : decode cX9_set 0 = .ok (.iload_n 1, 1) := by decide +kernel
theorem dX9_set_1 : decode cX9_set 1 = .ok (.ifCond .lt 9, 3) := by decide +kernel
theorem dX9_set_4 : decode cX9_set 4 = .ok (.iload_n 1, 1) := by decide +kernel
theorem dX9_set_5 : decode cX9_set 5 = .ok (.bipush 9, 2) := by decide +kernel
theorem dX9_set_7 : decode cX9_set 7 = .ok (.if_icmp .lt 13, 3) := by decide +kernel
theorem dX9_set_10 : decode cX9_set 10 = .ok (.new 91, 3) := by decide +kernel
theorem dX9_set_13 : decode cX9_set 13 = .ok (.dup, 1) := by decide +kernel
theorem dX9_set_14 : decode cX9_set 14 = .ok (.ldc 109, 2) := by decide +kernel
theorem dX9_set_16 : decode cX9_set 16 = .ok (.invokespecial 95, 3) := by decide +kernel
theorem dX9_set_19 : decode cX9_set 19 = .ok (.athrow, 1) := by decide +kernel
theorem dX9_set_20 : decode cX9_set 20 = .ok (.iload_n 2, 1) := by decide +kernel
theorem dX9_set_21 : decode cX9_set 21 = .ok (.iconst 1, 1) := by decide +kernel
theorem dX9_set_22 : decode cX9_set 22 = .ok (.if_icmp .lt 12, 3) := by decide +kernel
theorem dX9_set_25 : decode cX9_set 25 = .ok (.iload_n 2, 1) := by decide +kernel
theorem dX9_set_26 : decode cX9_set 26 = .ok (.getstatic 111, 3) := by decide +kernel
theorem dX9_set_29 : decode cX9_set 29 = .ok (.iload_n 1, 1) := by decide +kernel
theorem dX9_set_30 : decode cX9_set 30 = .ok (.iaload, 1) := by decide +kernel
theorem dX9_set_31 : decode cX9_set 31 = .ok (.if_icmp .le 13, 3) := by decide +kernel
theorem dX9_set_34 : decode cX9_set 34 = .ok (.new 91, 3) := by decide +kernel
theorem dX9_set_37 : decode cX9_set 37 = .ok (.dup, 1) := by decide +kernel
theorem dX9_set_38 : decode cX9_set 38 = .ok (.ldc 114, 2) := by decide +kernel
theorem dX9_set_40 : decode cX9_set 40 = .ok (.invokespecial 95, 3) := by decide +kernel
theorem dX9_set_43 : decode cX9_set 43 = .ok (.athrow, 1) := by decide +kernel
theorem dX9_set_44 : decode cX9_set 44 = .ok (.aload_n 0, 1) := by decide +kernel
theorem dX9_set_45 : decode cX9_set 45 = .ok (.getfield 22, 3) := by decide +kernel
theorem dX9_set_48 : decode cX9_set 48 = .ok (.iload_n 1, 1) := by decide +kernel
theorem dX9_set_49 : decode cX9_set 49 = .ok (.iaload, 1) := by decide +kernel
theorem dX9_set_50 : decode cX9_set 50 = .ok (.istore_n 3, 1) := by decide +kernel
theorem dX9_set_51 : decode cX9_set 51 = .ok (.aload_n 0, 1) := by decide +kernel
theorem dX9_set_52 : decode cX9_set 52 = .ok (.getfield 22, 3) := by decide +kernel
theorem dX9_set_55 : decode cX9_set 55 = .ok (.iload_n 1, 1) := by decide +kernel
theorem dX9_set_56 : decode cX9_set 56 = .ok (.iload_n 2, 1) := by decide +kernel
theorem dX9_set_57 : decode cX9_set 57 = .ok (.iastore, 1) := by decide +kernel
theorem dX9_set_58 : decode cX9_set 58 = .ok (.aload_n 0, 1) := by decide +kernel
theorem dX9_set_59 : decode cX9_set 59 = .ok (.invokevirtual 96, 3) := by decide +kernel
theorem dX9_set_62 : decode cX9_set 62 = .ok (.iload_n 3, 1) := by decide +kernel
theorem dX9_set_63 : decode cX9_set 63 = .ok (.ireturn, 1) := by decide +kernel
theorem dX9_begin_0 : decode cX9_begin 0 = .ok (.iload_n 1, 1) := by decide +kernel
theorem dX9_begin_1 : decode cX9_begin 1 = .ok (.ifCond .lt 9, 3) := by decide +kernel
theorem dX9_begin_4 : decode cX9_begin 4 = .ok (.iload_n 1, 1) := by decide +kernel
theorem dX9_begin_5 : decode cX9_begin 5 = .ok (.bipush 32, 2) := by decide +kernel
theorem dX9_begin_7 : decode cX9_begin 7 = .ok (.if_icmp .lt 13, 3) := by decide +kernel
theorem dX9_begin_10 : decode cX9_begin 10 = .ok (.new 91, 3) := by decide +kernel
theorem dX9_begin_13 : decode cX9_begin 13 = .ok (.dup, 1) := by decide +kernel
theorem dX9_begin_14 : decode cX9_begin 14 = .ok (.ldc 116, 2) := by decide +kernel
theorem dX9_begin_16 : decode cX9_begin 16 = .ok (.invokespecial 95, 3) := by decide +kernel
theorem dX9_begin_19 : decode cX9_begin 19 = .ok (.athrow, 1) := by decide +kernel
theorem dX9_begin_20 : decode cX9_begin 20 = .ok (.aload_n 0, 1) := by decide +kernel
theorem dX9_begin_21 : decode cX9_begin 21 = .ok (.getfield 25, 3) := by decide +kernel
theorem dX9_begin_24 : decode cX9_begin 24 = .ok (.iload_n 1, 1) := by decide +kernel
theorem dX9_begin_25 : decode cX9_begin 25 = .ok (.iaload, 1) := by decide +kernel
theorem dX9_begin_26 : decode cX9_begin 26 = .ok (.istore_n 3, 1) := by decide +kernel
theorem dX9_begin_27 : decode cX9_begin 27 = .ok (.aload_n 0, 1) := by decide +kernel
theorem dX9_begin_28 : decode cX9_begin 28 = .ok (.getfield 25, 3) := by decide +kernel
theorem dX9_begin_31 : decode cX9_begin 31 = .ok (.iload_n 1, 1) := by decide +kernel
theorem dX9_begin_32 : decode cX9_begin 32 = .ok (.iload_n 2, 1) := by decide +kernel
theorem dX9_begin_33 : decode cX9_begin 33 = .ok (.iastore, 1) := by decide +kernel
theorem dX9_begin_34 : decode cX9_begin 34 = .ok (.aload_n 0, 1) := by decide +kernel
theorem dX9_begin_35 : decode cX9_begin 35 = .ok (.iconst 0, 1) := by decide +kernel
theorem dX9_begin_36 : decode cX9_begin 36 = .ok (.putfield 118, 3) := by decide +kernel
theorem dX9_begin_39 : decode cX9_begin 39 = .ok (.iload_n 3, 1) := by decide +kernel
theorem dX9_begin_40 : decode cX9_begin 40 = .ok (.ireturn, 1) := by decide +kernel
set_option maxRecDepth 20000 in
theorem ggX9_count_X9_countWaits : GoodIn wsX9_count wsX9_countWaits := goodIn_r _ [12, 3, 4, 13, 14, 15, 16, 17, 18, 19, 11, 20, 21, 22, 23, 24, 25, 26, 27, 28, 29, 30, 31, 32, 33, 34, 35, 36, 37, 38, 39, 40, 41, 42, 43, 44, 45, 46, 47, 48, 49, 50, 51, 52, 53, 54, 55, 56, 57, 58, 59, 60, 61, 62, 63, 64, 65, 66, 67, 68, 69, 70, 71, 72, 73, 74, 75, 76, 77, 78, 79, 80, 81, 82, 83, 84, 85, 86, 87, 88, 89, 90, 91, 92, 93, 94, 95, 96, 97, 98, 99, 100, 101, 102, 103, 104, 105, 106, 107, 108, 109, 110, 111, 112, 113, 114, 115, 116, 117, 118, 119, 120, 121, 122, 123, 124, 125, 126, 127, 128, 129, 130, 131, 132, 144, 145, 146, 147, 148, 149, 150, 151, 152, 153, 154, 155, 156, 157, 158, 159, 160, 161, 162, 163, 164, 165, 166, 167, 168, 169, 170, 171, 172, 173, 174, 175, 176, 177, 178, 179, 180, 181, 182] (by decide +kernel) (by decide +kernel)
set_option maxRecDepth 20000 in
theorem gX9_count_X9_countWaits : GoodIn wsX9_count (wsV RX9 127 RX9 yX9_countWaits wsX9_countWaits) := goodIn_app (goodIn_of _ (by decide +kernel)) ggX9_count_X9_countWaits
set_option maxRecDepth 20000 in
theorem ggX9_count_X9_countLaying : GoodIn wsX9_count wsX9_countLaying := goodIn_r _ [136, 7, 137, 138, 139, 140, 141, 142, 143, 111, 11, 112, 113, 114, 115, 116, 144, 145, 146, 147, 148, 149, 150, 151, 152, 153, 154, 155, 156, 157, 158, 183, 184, 185, 186, 187, 188, 189, 190, 191, 192, 193, 194, 195, 196, 197, 198, 199, 200, 201, 202, 203, 204] (by decide +kernel) (by decide +kernel)
set_option maxRecDepth 20000 in
theorem gX9_count_X9_countLaying : GoodIn wsX9_count (wsV RX9 133 RX9 yX9_countLaying wsX9_countLaying) := goodIn_app (goodIn_of _ (by decide +kernel)) ggX9_count_X9_countLaying
theorem dX9_count_0 : decode cX9_count 0 = .ok (.iload_n 1, 1) := by decide +kernel
theorem dX9_count_1 : decode cX9_count 1 = .ok (.ifCond .lt 9, 3) := by decide +kernel
theorem dX9_count_4 : decode cX9_count 4 = .ok (.iload_n 1, 1) := by decide +kernel
theorem dX9_count_5 : decode cX9_count 5 = .ok (.bipush 11, 2) := by decide +kernel
theorem dX9_count_7 : decode cX9_count 7 = .ok (.if_icmp .le 13, 3) := by decide +kernel
theorem dX9_count_10 : decode cX9_count 10 = .ok (.new 91, 3) := by decide +kernel
theorem dX9_count_13 : decode cX9_count 13 = .ok (.dup, 1) := by decide +kernel
theorem dX9_count_14 : decode cX9_count 14 = .ok (.ldc 122, 2) := by decide +kernel
theorem dX9_count_16 : decode cX9_count 16 = .ok (.invokespecial 95, 3) := by decide +kernel
theorem dX9_count_19 : decode cX9_count 19 = .ok (.athrow, 1) := by decide +kernel
theorem dX9_count_20 : decode cX9_count 20 = .ok (.iload_n 1, 1) := by decide +kernel
theorem dX9_count_21 : decode cX9_count 21 = .ok (.iconst 2, 1) := by decide +kernel
theorem dX9_count_22 : decode cX9_count 22 = .ok (.if_icmp .gt 34, 3) := by decide +kernel
theorem dX9_count_25 : decode cX9_count 25 = .ok (.iload_n 1, 1) := by decide +kernel
theorem dX9_count_26 : decode cX9_count 26 = .ok (.ifCond .ne 13, 3) := by decide +kernel
theorem dX9_count_29 : decode cX9_count 29 = .ok (.aload_n 0, 1) := by decide +kernel
theorem dX9_count_30 : decode cX9_count 30 = .ok (.getfield 31, 3) := by decide +kernel
theorem dX9_count_33 : decode cX9_count 33 = .ok (.getfield 124, 3) := by decide +kernel
theorem dX9_count_36 : decode cX9_count 36 = .ok (.goto 19, 3) := by decide +kernel
theorem dX9_count_39 : decode cX9_count 39 = .ok (.iload_n 1, 1) := by decide +kernel
theorem dX9_count_40 : decode cX9_count 40 = .ok (.iconst 1, 1) := by decide +kernel
theorem dX9_count_41 : decode cX9_count 41 = .ok (.if_icmp .ne 10, 3) := by decide +kernel
theorem dX9_count_44 : decode cX9_count 44 = .ok (.aload_n 0, 1) := by decide +kernel
theorem dX9_count_45 : decode cX9_count 45 = .ok (.getfield 103, 3) := by decide +kernel
theorem dX9_count_48 : decode cX9_count 48 = .ok (.goto 7, 3) := by decide +kernel
theorem dX9_count_51 : decode cX9_count 51 = .ok (.aload_n 0, 1) := by decide +kernel
theorem dX9_count_52 : decode cX9_count 52 = .ok (.getfield 76, 3) := by decide +kernel
theorem dX9_count_55 : decode cX9_count 55 = .ok (.ireturn, 1) := by decide +kernel
theorem dX9_count_56 : decode cX9_count 56 = .ok (.iload_n 1, 1) := by decide +kernel
theorem dX9_count_57 : decode cX9_count 57 = .ok (.iconst 5, 1) := by decide +kernel
theorem dX9_count_58 : decode cX9_count 58 = .ok (.if_icmp .gt 9, 3) := by decide +kernel
theorem dX9_count_61 : decode cX9_count 61 = .ok (.aload_n 0, 1) := by decide +kernel
theorem dX9_count_62 : decode cX9_count 62 = .ok (.iload_n 1, 1) := by decide +kernel
theorem dX9_count_63 : decode cX9_count 63 = .ok (.invokevirtual 127, 3) := by decide +kernel
theorem dX9_count_66 : decode cX9_count 66 = .ok (.ireturn, 1) := by decide +kernel
theorem dX9_count_67 : decode cX9_count 67 = .ok (.aload_n 0, 1) := by decide +kernel
theorem dX9_count_68 : decode cX9_count 68 = .ok (.getfield 130, 3) := by decide +kernel
theorem dX9_count_71 : decode cX9_count 71 = .ok (.ifCond .ne 7, 3) := by decide +kernel
theorem dX9_count_74 : decode cX9_count 74 = .ok (.iconst 0, 1) := by decide +kernel
theorem dX9_count_75 : decode cX9_count 75 = .ok (.goto 8, 3) := by decide +kernel
theorem dX9_count_78 : decode cX9_count 78 = .ok (.aload_n 0, 1) := by decide +kernel
theorem dX9_count_79 : decode cX9_count 79 = .ok (.iload_n 1, 1) := by decide +kernel
theorem dX9_count_80 : decode cX9_count 80 = .ok (.invokevirtual 133, 3) := by decide +kernel
theorem dX9_count_83 : decode cX9_count 83 = .ok (.ireturn, 1) := by decide +kernel
set_option maxRecDepth 20000 in
theorem ggX9_delay_X9_learnWaits : GoodIn wsX9_delay wsX9_learnWaits := goodIn_r _ [13, 14, 7, 15, 16, 17, 18, 19, 20, 21, 22, 23, 24, 25, 26, 27, 28, 29, 30, 31, 32, 33, 34, 35, 36, 37, 38, 39, 40, 41, 42, 43, 44, 45, 46, 12, 47, 48, 49, 50, 51, 52, 53, 54, 55, 56, 57, 58, 59, 60, 61, 62, 63, 64, 65, 66, 67, 68, 69, 70, 71, 72, 73, 74, 75, 76, 77, 78, 79, 80, 81, 82, 83, 84, 85, 86, 87, 88, 89, 90, 91, 92, 93, 94, 95, 96, 97, 98, 99, 100, 101, 102, 103, 104, 105, 106, 107, 108, 109, 110, 111, 112, 113, 114, 115, 116, 117, 118, 119, 120, 121, 122, 123, 124, 125, 130, 131, 132, 133, 134, 135, 136, 137, 138, 139, 140, 141, 142, 143, 144, 148, 149, 150, 151, 152, 153, 154, 155, 156, 157, 145, 146, 147, 158, 159, 160, 161, 162, 163, 164, 165, 166, 167, 168] (by decide +kernel) (by decide +kernel)
set_option maxRecDepth 20000 in
theorem gX9_delay_X9_learnWaits : GoodIn wsX9_delay (wsV RX9 138 RX9 yX9_learnWaits wsX9_learnWaits) := goodIn_app (goodIn_of _ (by decide +kernel)) ggX9_delay_X9_learnWaits
set_option maxRecDepth 20000 in
theorem ggX9_delay_X8_find : GoodIn wsX9_delay wsX8_find := goodIn_r _ [129, 20, 72, 73, 74, 148, 149, 150, 151, 152, 153, 154, 155, 156, 157] (by decide +kernel) (by decide +kernel)
set_option maxRecDepth 20000 in
theorem gX9_delay_X8_find : GoodIn wsX9_delay (wsV RX9 141 RX8 yX8_find wsX8_find) := goodIn_app (goodIn_of _ (by decide +kernel)) ggX9_delay_X8_find
theorem dX9_delay_0 : decode cX9_delay 0 = .ok (.iload_n 1, 1) := by decide +kernel
theorem dX9_delay_1 : decode cX9_delay 1 = .ok (.ifCond .lt 29, 3) := by decide +kernel
theorem dX9_delay_4 : decode cX9_delay 4 = .ok (.iload_n 1, 1) := by decide +kernel
theorem dX9_delay_5 : decode cX9_delay 5 = .ok (.aload_n 0, 1) := by decide +kernel
theorem dX9_delay_6 : decode cX9_delay 6 = .ok (.getfield 31, 3) := by decide +kernel
theorem dX9_delay_9 : decode cX9_delay 9 = .ok (.getfield 124, 3) := by decide +kernel
theorem dX9_delay_12 : decode cX9_delay 12 = .ok (.if_icmp .ge 18, 3) := by decide +kernel
theorem dX9_delay_15 : decode cX9_delay 15 = .ok (.iload_n 2, 1) := by decide +kernel
theorem dX9_delay_16 : decode cX9_delay 16 = .ok (.ifCond .lt 14, 3) := by decide +kernel
theorem dX9_delay_19 : decode cX9_delay 19 = .ok (.iload_n 2, 1) := by decide +kernel
