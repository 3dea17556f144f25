theorem dX11_delay_66 : decode cX11_delay 66 = .ok (.iload 4, 2) := by decide +kernel
theorem dX11_delay_68 : decode cX11_delay 68 = .ok (.iaload, 1) := by decide +kernel
theorem dX11_delay_69 : decode cX11_delay 69 = .ok (.iload_n 2, 1) := by decide +kernel
theorem dX11_delay_70 : decode cX11_delay 70 = .ok (.if_icmp .ne 22, 3) := by decide +kernel
theorem dX11_delay_73 : decode cX11_delay 73 = .ok (.aload_n 0, 1) := by decide +kernel
theorem dX11_delay_74 : decode cX11_delay 74 = .ok (.getfield 128, 3) := by decide +kernel
theorem dX11_delay_77 : decode cX11_delay 77 = .ok (.iload 4, 2) := by decide +kernel
theorem dX11_delay_79 : decode cX11_delay 79 = .ok (.iaload, 1) := by decide +kernel
theorem dX11_delay_80 : decode cX11_delay 80 = .ok (.iload_n 3, 1) := by decide +kernel
theorem dX11_delay_81 : decode cX11_delay 81 = .ok (.if_icmp .ne 11, 3) := by decide +kernel
theorem dX11_delay_84 : decode cX11_delay 84 = .ok (.aload_n 0, 1) := by decide +kernel
theorem dX11_delay_85 : decode cX11_delay 85 = .ok (.getfield 131, 3) := by decide +kernel
theorem dX11_delay_88 : decode cX11_delay 88 = .ok (.iload 4, 2) := by decide +kernel
theorem dX11_delay_90 : decode cX11_delay 90 = .ok (.iaload, 1) := by decide +kernel
theorem dX11_delay_91 : decode cX11_delay 91 = .ok (.ireturn, 1) := by decide +kernel
theorem dX11_delay_92 : decode cX11_delay 92 = .ok (.iinc 4 1, 3) := by decide +kernel
theorem dX11_delay_95 : decode cX11_delay 95 = .ok (.goto (-53), 3) := by decide +kernel
theorem dX11_delay_98 : decode cX11_delay 98 = .ok (.aload_n 0, 1) := by decide +kernel
theorem dX11_delay_99 : decode cX11_delay 99 = .ok (.iconst 2, 1) := by decide +kernel
theorem dX11_delay_100 : decode cX11_delay 100 = .ok (.invokevirtual 311, 3) := by decide +kernel
theorem dX11_delay_103 : decode cX11_delay 103 = .ok (.ireturn, 1) := by decide +kernel
set_option maxRecDepth 20000 in
theorem ggX11_lay_X11_no : GoodIn wsX11_lay wsX11_no := goodIn_r _ [8, 1, 141, 142, 143, 144, 145, 146, 147, 148, 149, 150, 151, 152, 153, 154, 155, 156, 157, 158, 159, 160, 161, 162, 163, 164, 165, 166, 167, 168, 169, 170, 171, 172, 173, 174, 175, 176, 177, 178, 179, 180, 181, 182, 183, 184, 185, 186, 187, 188, 189, 190, 191] rfl (by decide +kernel)
set_option maxRecDepth 20000 in
theorem gX11_lay_X11_no : GoodIn wsX11_lay (wsV RX11 311 RX11 yX11_no wsX11_no) := goodIn_app (goodIn_of _ (by decide +kernel)) ggX11_lay_X11_no
set_option maxRecDepth 20000 in
theorem gX11_lay_X11_layAll : GoodIn wsX11_lay (wsV RX11 333 RX11 yX11_layAll wsX11_layAll) := goodIn_app (goodIn_of _ (by decide +kernel)) ggX11_lay_X11_layAll
theorem dX11_lay_0 : decode cX11_lay 0 = .ok (.aload_n 0, 1) := by decide +kernel
theorem dX11_lay_1 : decode cX11_lay 1 = .ok (.iconst 0, 1) := by decide +kernel
theorem dX11_lay_2 : decode cX11_lay 2 = .ok (.putfield 308, 3) := by decide +kernel
theorem dX11_lay_5 : decode cX11_lay 5 = .ok (.aload_n 0, 1) := by decide +kernel
theorem dX11_lay_6 : decode cX11_lay 6 = .ok (.getfield 330, 3) := by decide +kernel
theorem dX11_lay_9 : decode cX11_lay 9 = .ok (.ifCond .ne 9, 3) := by decide +kernel
theorem dX11_lay_12 : decode cX11_lay 12 = .ok (.aload_n 0, 1) := by decide +kernel
theorem dX11_lay_13 : decode cX11_lay 13 = .ok (.iconst 1, 1) := by decide +kernel
theorem dX11_lay_14 : decode cX11_lay 14 = .ok (.invokevirtual 311, 3) := by decide +kernel
theorem dX11_lay_17 : decode cX11_lay 17 = .ok (.ireturn, 1) := by decide +kernel
theorem dX11_lay_18 : decode cX11_lay 18 = .ok (.aload_n 0, 1) := by decide +kernel
theorem dX11_lay_19 : decode cX11_lay 19 = .ok (.invokevirtual 333, 3) := by decide +kernel
theorem dX11_lay_22 : decode cX11_lay 22 = .ok (.pop, 1) := by decide +kernel
theorem dX11_lay_23 : decode cX11_lay 23 = .ok (.aload_n 0, 1) := by decide +kernel
theorem dX11_lay_24 : decode cX11_lay 24 = .ok (.getfield 216, 3) := by decide +kernel
theorem dX11_lay_27 : decode cX11_lay 27 = .ok (.ireturn, 1) := by decide +kernel
set_option maxRecDepth 20000 in
theorem ggX11_row__X11_no : GoodIn wsX11_row_ wsX11_no := goodIn_r _ [13, 1, 14, 15, 16, 17, 18, 19, 20, 21, 22, 23, 24, 25, 26, 27, 28, 29, 30, 31, 32, 33, 34, 35, 36, 37, 38, 39, 40, 41, 42, 43, 44, 45, 46, 47, 48, 49, 50, 51, 52, 53, 54, 55, 56, 57, 58, 59, 60, 61, 62, 63, 64] rfl (by decide +kernel)
set_option maxRecDepth 20000 in
theorem gX11_row__X11_no : GoodIn wsX11_row_ (wsV RX11 311 RX11 yX11_no wsX11_no) := goodIn_app (goodIn_of _ (by decide +kernel)) ggX11_row__X11_no
theorem dX11_row__0 : decode cX11_row_ 0 = .ok (.aload_n 0, 1) := by decide +kernel
theorem dX11_row__1 : decode cX11_row_ 1 = .ok (.iconst 0, 1) := by decide +kernel
theorem dX11_row__2 : decode cX11_row_ 2 = .ok (.putfield 308, 3) := by decide +kernel
theorem dX11_row__5 : decode cX11_row_ 5 = .ok (.aload_n 0, 1) := by decide +kernel
theorem dX11_row__6 : decode cX11_row_ 6 = .ok (.getfield 216, 3) := by decide +kernel
theorem dX11_row__9 : decode cX11_row_ 9 = .ok (.ifCond .ne 9, 3) := by decide +kernel
theorem dX11_row__12 : decode cX11_row_ 12 = .ok (.aload_n 0, 1) := by decide +kernel
theorem dX11_row__13 : decode cX11_row_ 13 = .ok (.iconst 1, 1) := by decide +kernel
theorem dX11_row__14 : decode cX11_row_ 14 = .ok (.invokevirtual 311, 3) := by decide +kernel
theorem dX11_row__17 : decode cX11_row_ 17 = .ok (.ireturn, 1) := by decide +kernel
theorem dX11_row__18 : decode cX11_row_ 18 = .ok (.iload_n 1, 1) := by decide +kernel
theorem dX11_row__19 : decode cX11_row_ 19 = .ok (.ifCond .lt 11, 3) := by decide +kernel
theorem dX11_row__22 : decode cX11_row_ 22 = .ok (.iload_n 1, 1) := by decide +kernel
theorem dX11_row__23 : decode cX11_row_ 23 = .ok (.aload_n 0, 1) := by decide +kernel
theorem dX11_row__24 : decode cX11_row_ 24 = .ok (.getfield 137, 3) := by decide +kernel
theorem dX11_row__27 : decode cX11_row_ 27 = .ok (.if_icmp .lt 9, 3) := by decide +kernel
theorem dX11_row__30 : decode cX11_row_ 30 = .ok (.aload_n 0, 1) := by decide +kernel
theorem dX11_row__31 : decode cX11_row_ 31 = .ok (.iconst 2, 1) := by decide +kernel
theorem dX11_row__32 : decode cX11_row_ 32 = .ok (.invokevirtual 311, 3) := by decide +kernel
theorem dX11_row__35 : decode cX11_row_ 35 = .ok (.ireturn, 1) := by decide +kernel
theorem dX11_row__36 : decode cX11_row_ 36 = .ok (.iload_n 2, 1) := by decide +kernel
theorem dX11_row__37 : decode cX11_row_ 37 = .ok (.tableswitch 70 0 4 #[35, 42, 49, 56, 63], 35) := by decide +kernel
theorem dX11_row__72 : decode cX11_row_ 72 = .ok (.aload_n 0, 1) := by decide +kernel
theorem dX11_row__73 : decode cX11_row_ 73 = .ok (.getfield 189, 3) := by decide +kernel
theorem dX11_row__76 : decode cX11_row_ 76 = .ok (.iload_n 1, 1) := by decide +kernel
theorem dX11_row__77 : decode cX11_row_ 77 = .ok (.iaload, 1) := by decide +kernel
theorem dX11_row__78 : decode cX11_row_ 78 = .ok (.ireturn, 1) := by decide +kernel
theorem dX11_row__79 : decode cX11_row_ 79 = .ok (.aload_n 0, 1) := by decide +kernel
theorem dX11_row__80 : decode cX11_row_ 80 = .ok (.getfield 186, 3) := by decide +kernel
theorem dX11_row__83 : decode cX11_row_ 83 = .ok (.iload_n 1, 1) := by decide +kernel
theorem dX11_row__84 : decode cX11_row_ 84 = .ok (.iaload, 1) := by decide +kernel
theorem dX11_row__85 : decode cX11_row_ 85 = .ok (.ireturn, 1) := by decide +kernel
theorem dX11_row__86 : decode cX11_row_ 86 = .ok (.aload_n 0, 1) := by decide +kernel
theorem dX11_row__87 : decode cX11_row_ 87 = .ok (.getfield 243, 3) := by decide +kernel
theorem dX11_row__90 : decode cX11_row_ 90 = .ok (.iload_n 1, 1) := by decide +kernel
theorem dX11_row__91 : decode cX11_row_ 91 = .ok (.iaload, 1) := by decide +kernel
theorem dX11_row__92 : decode cX11_row_ 92 = .ok (.ireturn, 1) := by decide +kernel
theorem dX11_row__93 : decode cX11_row_ 93 = .ok (.aload_n 0, 1) := by decide +kernel
theorem dX11_row__94 : decode cX11_row_ 94 = .ok (.getfield 234, 3) := by decide +kernel
theorem dX11_row__97 : decode cX11_row_ 97 = .ok (.iload_n 1, 1) := by decide +kernel
theorem dX11_row__98 : decode cX11_row_ 98 = .ok (.iaload, 1) := by decide +kernel
theorem dX11_row__99 : decode cX11_row_ 99 = .ok (.ireturn, 1) := by decide +kernel
theorem dX11_row__100 : decode cX11_row_ 100 = .ok (.aload_n 0, 1) := by decide +kernel
theorem dX11_row__101 : decode cX11_row_ 101 = .ok (.getfield 240, 3) := by decide +kernel
theorem dX11_row__104 : decode cX11_row_ 104 = .ok (.iload_n 1, 1) := by decide +kernel
theorem dX11_row__105 : decode cX11_row_ 105 = .ok (.iaload, 1) := by decide +kernel
theorem dX11_row__106 : decode cX11_row_ 106 = .ok (.ireturn, 1) := by decide +kernel
theorem dX11_row__107 : decode cX11_row_ 107 = .ok (.aload_n 0, 1) := by decide +kernel
theorem dX11_row__108 : decode cX11_row_ 108 = .ok (.iconst 3, 1) := by decide +kernel
theorem dX11_row__109 : decode cX11_row_ 109 = .ok (.invokevirtual 311, 3) := by decide +kernel
theorem dX11_row__112 : decode cX11_row_ 112 = .ok (.ireturn, 1) := by decide +kernel
set_option maxRecDepth 20000 in
theorem ggX11_run_X11_no : GoodIn wsX11_run wsX11_no := goodIn_r _ [9, 1, 89, 90, 91, 92, 93, 94, 95, 96, 97, 98, 99, 100, 101, 102, 103, 104, 105, 106, 107, 108, 109, 110, 111, 112, 113, 114, 115, 116, 117, 118, 119, 120, 121, 122, 123, 124, 125, 126, 127, 128, 129, 130, 131, 132, 133, 134, 135, 136, 137, 138, 139] rfl (by decide +kernel)
set_option maxRecDepth 20000 in
theorem gX11_run_X11_no : GoodIn wsX11_run (wsV RX11 311 RX11 yX11_no wsX11_no) := goodIn_app (goodIn_of _ (by decide +kernel)) ggX11_run_X11_no
set_option maxRecDepth 20000 in
theorem ggX11_run_X11_runLaid : GoodIn wsX11_run wsX11_runLaid := goodIn_r _ [13, 14, 15, 16, 17, 18, 19, 20, 21, 22, 23, 3, 24, 25, 26, 27, 28, 29, 30, 31, 32, 33, 34, 35, 36, 37, 8, 38, 39, 40, 41, 42, 43, 44, 45, 46, 47, 48, 49, 50, 51, 52, 53, 54, 55, 56, 57, 58, 59, 60, 61, 62, 63, 64, 65, 66, 67, 68, 69, 70, 71, 72, 73, 74, 75, 76, 77, 78, 79, 80, 89, 90, 91, 92, 93, 94, 95, 96, 97, 98, 99, 100, 101, 102, 103, 104, 105, 106, 107, 108, 109, 110, 111, 112, 113, 114, 115, 116, 117, 118, 119, 120, 121, 122, 123, 124, 125, 126, 127, 128, 129, 130, 131, 132, 133, 134, 135, 136, 137, 138, 139] rfl (by decide +kernel)
set_option maxRecDepth 20000 in
theorem gX11_run_X11_runLaid : GoodIn wsX11_run (wsV RX11 336 RX11 yX11_runLaid wsX11_runLaid) := goodIn_app (goodIn_of _ (by decide +kernel)) ggX11_run_X11_runLaid
set_option maxRecDepth 20000 in
theorem ggX11_run_X11_runWritten : GoodIn wsX11_run wsX11_runWritten := goodIn_r _ [84, 23, 17, 26, 33, 70, 27, 28, 29, 30, 31, 32, 35, 36, 37, 8, 38, 34, 56, 57, 58, 59, 60, 61, 85, 86, 87, 88, 75, 76, 77, 78, 79, 21, 80, 19, 20, 22, 89, 90, 91, 92, 93, 94, 95, 96, 97, 98, 99, 100, 101, 102, 103, 104, 105, 106, 107, 108, 109, 110, 111, 112, 113, 114, 115, 116, 117, 118, 119, 120, 121, 122, 123, 124, 125, 126, 127, 128, 129, 130, 131, 132, 133, 134, 135, 136, 137, 138, 139] rfl (by decide +kernel)
set_option maxRecDepth 20000 in
theorem gX11_run_X11_runWritten : GoodIn wsX11_run (wsV RX11 339 RX11 yX11_runWritten wsX11_runWritten) := goodIn_app (goodIn_of _ (by decide +kernel)) ggX11_run_X11_runWritten
theorem dX11_run_0 : decode cX11_run 0 = .ok (.aload_n 0, 1) := by decide +kernel
theorem dX11_run_1 : decode cX11_run 1 = .ok (.iconst 0, 1) := by decide +kernel
theorem dX11_run_2 : decode cX11_run 2 = .ok (.putfield 308, 3) := by decide +kernel
theorem dX11_run_5 : decode cX11_run 5 = .ok (.aload_n 0, 1) := by decide +kernel
theorem dX11_run_6 : decode cX11_run 6 = .ok (.getfield 330, 3) := by decide +kernel
theorem dX11_run_9 : decode cX11_run 9 = .ok (.ifCond .eq 14, 3) := by decide +kernel
theorem dX11_run_12 : decode cX11_run 12 = .ok (.iload_n 1, 1) := by decide +kernel
theorem dX11_run_13 : decode cX11_run 13 = .ok (.ifCond .eq 16, 3) := by decide +kernel
theorem dX11_run_16 : decode cX11_run 16 = .ok (.aload_n 0, 1) := by decide +kernel
theorem dX11_run_17 : decode cX11_run 17 = .ok (.getfield 216, 3) := by decide +kernel
theorem dX11_run_20 : decode cX11_run 20 = .ok (.ifCond .ne 9, 3) := by decide +kernel
theorem dX11_run_23 : decode cX11_run 23 = .ok (.aload_n 0, 1) := by decide +kernel
theorem dX11_run_24 : decode cX11_run 24 = .ok (.iconst 1, 1) := by decide +kernel
theorem dX11_run_25 : decode cX11_run 25 = .ok (.invokevirtual 311, 3) := by decide +kernel
theorem dX11_run_28 : decode cX11_run 28 = .ok (.ireturn, 1) := by decide +kernel
theorem dX11_run_29 : decode cX11_run 29 = .ok (.aload_n 0, 1) := by decide +kernel
theorem dX11_run_30 : decode cX11_run 30 = .ok (.iconst 1, 1) := by decide +kernel
theorem dX11_run_31 : decode cX11_run 31 = .ok (.putfield 316, 3) := by decide +kernel
theorem dX11_run_34 : decode cX11_run 34 = .ok (.iload_n 1, 1) := by decide +kernel
theorem dX11_run_35 : decode cX11_run 35 = .ok (.ifCond .eq 10, 3) := by decide +kernel
theorem dX11_run_38 : decode cX11_run 38 = .ok (.aload_n 0, 1) := by decide +kernel
theorem dX11_run_39 : decode cX11_run 39 = .ok (.invokevirtual 336, 3) := by decide +kernel
theorem dX11_run_42 : decode cX11_run 42 = .ok (.goto 7, 3) := by decide +kernel
theorem dX11_run_45 : decode cX11_run 45 = .ok (.aload_n 0, 1) := by decide +kernel
theorem dX11_run_46 : decode cX11_run 46 = .ok (.invokevirtual 339, 3) := by decide +kernel
theorem dX11_run_49 : decode cX11_run 49 = .ok (.ireturn, 1) := by decide +kernel
set_option maxRecDepth 20000 in
theorem ggX11_register_X11_no : GoodIn wsX11_register wsX11_no := goodIn_r _ [8, 1, 9, 10, 11, 12, 13, 14, 15, 16, 17, 18, 19, 20, 21, 22, 23, 24, 25, 26, 27, 28, 29, 30, 31, 32, 33, 34, 35, 36, 37, 38, 39, 40, 41, 42, 43, 44, 45, 46, 47, 48, 49, 50, 51, 52, 53, 54, 55, 56, 57, 58, 59] rfl (by decide +kernel)
set_option maxRecDepth 20000 in
theorem gX11_register_X11_no : GoodIn wsX11_register (wsV RX11 311 RX11 yX11_no wsX11_no) := goodIn_app (goodIn_of _ (by decide +kernel)) ggX11_register_X11_no
theorem dX11_register_0 : decode cX11_register 0 = .ok (.aload_n 0, 1) := by decide +kernel
theorem dX11_register_1 : decode cX11_register 1 = .ok (.iconst 0, 1) := by decide +kernel
theorem dX11_register_2 : decode cX11_register 2 = .ok (.putfield 308, 3) := by decide +kernel
theorem dX11_register_5 : decode cX11_register 5 = .ok (.aload_n 0, 1) := by decide +kernel
theorem dX11_register_6 : decode cX11_register 6 = .ok (.getfield 316, 3) := by decide +kernel
theorem dX11_register_9 : decode cX11_register 9 = .ok (.ifCond .ne 9, 3) := by decide +kernel
theorem dX11_register_12 : decode cX11_register 12 = .ok (.aload_n 0, 1) := by decide +kernel
theorem dX11_register_13 : decode cX11_register 13 = .ok (.iconst 1, 1) := by decide +kernel
theorem dX11_register_14 : decode cX11_register 14 = .ok (.invokevirtual 311, 3) := by decide +kernel
theorem dX11_register_17 : decode cX11_register 17 = .ok (.ireturn, 1) := by decide +kernel
theorem dX11_register_18 : decode cX11_register 18 = .ok (.iload_n 1, 1) := by decide +kernel
theorem dX11_register_19 : decode cX11_register 19 = .ok (.ifCond .lt 9, 3) := by decide +kernel
theorem dX11_register_22 : decode cX11_register 22 = .ok (.iload_n 1, 1) := by decide +kernel
theorem dX11_register_23 : decode cX11_register 23 = .ok (.bipush 31, 2) := by decide +kernel
theorem dX11_register_25 : decode cX11_register 25 = .ok (.if_icmp .le 11, 3) := by decide +kernel
theorem dX11_register_28 : decode cX11_register 28 = .ok (.aload_n 0, 1) := by decide +kernel
theorem dX11_register_29 : decode cX11_register 29 = .ok (.iconst 2, 1) := by decide +kernel
theorem dX11_register_30 : decode cX11_register 30 = .ok (.invokevirtual 311, 3) := by decide +kernel
theorem dX11_register_33 : decode cX11_register 33 = .ok (.goto 9, 3) := by decide +kernel
theorem dX11_register_36 : decode cX11_register 36 = .ok (.aload_n 0, 1) := by decide +kernel
theorem dX11_register_37 : decode cX11_register 37 = .ok (.getfield 268, 3) := by decide +kernel
theorem dX11_register_40 : decode cX11_register 40 = .ok (.iload_n 1, 1) := by decide +kernel
theorem dX11_register_41 : decode cX11_register 41 = .ok (.iaload, 1) := by decide +kernel
theorem dX11_register_42 : decode cX11_register 42 = .ok (.ireturn, 1) := by decide +kernel
set_option maxRecDepth 20000 in
theorem ggX11_cell_X11_no : GoodIn wsX11_cell wsX11_no := goodIn_r _ [8, 1, 9, 10, 11, 12, 13, 14, 15, 16, 17, 18, 19, 20, 21, 22, 23, 24, 25, 26, 27, 28, 29, 30, 31, 32, 33, 34, 35, 36, 37, 38, 39, 40, 41, 42, 43, 44, 45, 46, 47, 48, 49, 50, 51, 52, 53, 54, 55, 56, 57, 58, 59] rfl (by decide +kernel)
set_option maxRecDepth 20000 in
theorem gX11_cell_X11_no : GoodIn wsX11_cell (wsV RX11 311 RX11 yX11_no wsX11_no) := goodIn_app (goodIn_of _ (by decide +kernel)) ggX11_cell_X11_no
theorem dX11_cell_0 : decode cX11_cell 0 = .ok (.aload_n 0, 1) := by decide +kernel
theorem dX11_cell_1 : decode cX11_cell 1 = .ok (.iconst 0, 1) := by decide +kernel
theorem dX11_cell_2 : decode cX11_cell 2 = .ok (.putfield 308, 3) := by decide +kernel
theorem dX11_cell_5 : decode cX11_cell 5 = .ok (.aload_n 0, 1) := by decide +kernel
theorem dX11_cell_6 : decode cX11_cell 6 = .ok (.getfield 316, 3) := by decide +kernel
theorem dX11_cell_9 : decode cX11_cell 9 = .ok (.ifCond .ne 9, 3) := by decide +kernel
theorem dX11_cell_12 : decode cX11_cell 12 = .ok (.aload_n 0, 1) := by decide +kernel
theorem dX11_cell_13 : decode cX11_cell 13 = .ok (.iconst 1, 1) := by decide +kernel
theorem dX11_cell_14 : decode cX11_cell 14 = .ok (.invokevirtual 311, 3) := by decide +kernel
theorem dX11_cell_17 : decode cX11_cell 17 = .ok (.ireturn, 1) := by decide +kernel
theorem dX11_cell_18 : decode cX11_cell 18 = .ok (.iload_n 1, 1) := by decide +kernel
theorem dX11_cell_19 : decode cX11_cell 19 = .ok (.ifCond .lt 19, 3) := by decide +kernel
theorem dX11_cell_22 : decode cX11_cell 22 = .ok (.iload_n 1, 1) := by decide +kernel
theorem dX11_cell_23 : decode cX11_cell 23 = .ok (.iconst 3, 1) := by decide +kernel
theorem dX11_cell_24 : decode cX11_cell 24 = .ok (.if_icmp .gt 14, 3) := by decide +kernel
theorem dX11_cell_27 : decode cX11_cell 27 = .ok (.iload_n 2, 1) := by decide +kernel
theorem dX11_cell_28 : decode cX11_cell 28 = .ok (.ifCond .lt 10, 3) := by decide +kernel
theorem dX11_cell_31 : decode cX11_cell 31 = .ok (.iload_n 2, 1) := by decide +kernel
theorem dX11_cell_32 : decode cX11_cell 32 = .ok (.sipush 1023, 3) := by decide +kernel
theorem dX11_cell_35 : decode cX11_cell 35 = .ok (.if_icmp .le 11, 3) := by decide +kernel
theorem dX11_cell_38 : decode cX11_cell 38 = .ok (.aload_n 0, 1) := by decide +kernel
theorem dX11_cell_39 : decode cX11_cell 39 = .ok (.iconst 2, 1) := by decide +kernel
theorem dX11_cell_40 : decode cX11_cell 40 = .ok (.invokevirtual 311, 3) := by decide +kernel
theorem dX11_cell_43 : decode cX11_cell 43 = .ok (.goto 11, 3) := by decide +kernel
theorem dX11_cell_46 : decode cX11_cell 46 = .ok (.aload_n 0, 1) := by decide +kernel
theorem dX11_cell_47 : decode cX11_cell 47 = .ok (.getfield 265, 3) := by decide +kernel
theorem dX11_cell_50 : decode cX11_cell 50 = .ok (.iload_n 1, 1) := by decide +kernel
theorem dX11_cell_51 : decode cX11_cell 51 = .ok (.aaload, 1) := by decide +kernel
theorem dX11_cell_52 : decode cX11_cell 52 = .ok (.iload_n 2, 1) := by decide +kernel
theorem dX11_cell_53 : decode cX11_cell 53 = .ok (.iaload, 1) := by decide +kernel
theorem dX11_cell_54 : decode cX11_cell 54 = .ok (.ireturn, 1) := by decide +kernel
