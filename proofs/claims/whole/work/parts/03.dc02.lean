theorem dX4_readNumber_59 : decode cX4_readNumber 59 = .ok (.iadd, 1) := by decide +kernel
theorem dX4_readNumber_60 : decode cX4_readNumber 60 = .ok (.putfield 27, 3) := by decide +kernel
theorem dX4_readNumber_63 : decode cX4_readNumber 63 = .ok (.aload_n 0, 1) := by decide +kernel
theorem dX4_readNumber_64 : decode cX4_readNumber 64 = .ok (.getfield 15, 3) := by decide +kernel
theorem dX4_readNumber_67 : decode cX4_readNumber 67 = .ok (.iload_n 1, 1) := by decide +kernel
theorem dX4_readNumber_68 : decode cX4_readNumber 68 = .ok (.iload_n 2, 1) := by decide +kernel
theorem dX4_readNumber_69 : decode cX4_readNumber 69 = .ok (.iastore, 1) := by decide +kernel
theorem dX4_readNumber_70 : decode cX4_readNumber 70 = .ok (.iconst 1, 1) := by decide +kernel
theorem dX4_readNumber_71 : decode cX4_readNumber 71 = .ok (.ireturn, 1) := by decide +kernel
theorem dX4_here_0 : decode cX4_here 0 = .ok (.aload_n 0, 1) := by decide +kernel
theorem dX4_here_1 : decode cX4_here 1 = .ok (.getfield 27, 3) := by decide +kernel
theorem dX4_here_4 : decode cX4_here 4 = .ok (.aload_n 0, 1) := by decide +kernel
theorem dX4_here_5 : decode cX4_here 5 = .ok (.getfield 18, 3) := by decide +kernel
theorem dX4_here_8 : decode cX4_here 8 = .ok (.if_icmp .ge 15, 3) := by decide +kernel
theorem dX4_here_11 : decode cX4_here 11 = .ok (.aload_n 0, 1) := by decide +kernel
theorem dX4_here_12 : decode cX4_here 12 = .ok (.getfield 11, 3) := by decide +kernel
theorem dX4_here_15 : decode cX4_here 15 = .ok (.aload_n 0, 1) := by decide +kernel
theorem dX4_here_16 : decode cX4_here 16 = .ok (.getfield 27, 3) := by decide +kernel
theorem dX4_here_19 : decode cX4_here 19 = .ok (.iaload, 1) := by decide +kernel
theorem dX4_here_20 : decode cX4_here 20 = .ok (.goto 4, 3) := by decide +kernel
theorem dX4_here_23 : decode cX4_here 23 = .ok (.iconst 0, 1) := by decide +kernel
theorem dX4_here_24 : decode cX4_here 24 = .ok (.ireturn, 1) := by decide +kernel
theorem dX4_isFigure_0 : decode cX4_isFigure 0 = .ok (.iload_n 0, 1) := by decide +kernel
theorem dX4_isFigure_1 : decode cX4_isFigure 1 = .ok (.bipush 48, 2) := by decide +kernel
theorem dX4_isFigure_3 : decode cX4_isFigure 3 = .ok (.if_icmp .lt 13, 3) := by decide +kernel
theorem dX4_isFigure_6 : decode cX4_isFigure 6 = .ok (.iload_n 0, 1) := by decide +kernel
theorem dX4_isFigure_7 : decode cX4_isFigure 7 = .ok (.bipush 57, 2) := by decide +kernel
theorem dX4_isFigure_9 : decode cX4_isFigure 9 = .ok (.if_icmp .gt 7, 3) := by decide +kernel
theorem dX4_isFigure_12 : decode cX4_isFigure 12 = .ok (.iconst 1, 1) := by decide +kernel
theorem dX4_isFigure_13 : decode cX4_isFigure 13 = .ok (.goto 4, 3) := by decide +kernel
theorem dX4_isFigure_16 : decode cX4_isFigure 16 = .ok (.iconst 0, 1) := by decide +kernel
theorem dX4_isFigure_17 : decode cX4_isFigure 17 = .ok (.ireturn, 1) := by decide +kernel
set_option maxRecDepth 20000 in
theorem ggX5_init_X4_init : GoodIn wsX5_init wsX4_init := goodIn_r _ [22, 23, 2, 3, 24, 25, 26, 165, 166, 167, 168] (by decide +kernel) (by decide +kernel)
set_option maxRecDepth 20000 in
theorem gX5_init_X4_init_n9 : GoodIn wsX5_init (wsX4_init) := ggX5_init_X4_init
set_option maxRecDepth 20000 in
theorem ggX5_init_X0_init : GoodIn wsX5_init wsX0_init := goodIn_r _ [29, 30, 2, 3, 31, 32, 18, 19, 33, 34, 35, 36, 24, 37, 38, 39, 40, 41, 42, 174, 175, 190, 191, 192, 193, 194, 195, 196, 197, 198, 199, 200, 201] (by decide +kernel) (by decide +kernel)
set_option maxRecDepth 20000 in
theorem gX5_init_X0_init : GoodIn wsX5_init (wsX0_init) := ggX5_init_X0_init
set_option maxRecDepth 20000 in
theorem ggX5_init_X1_init : GoodIn wsX5_init wsX1_init := goodIn_r _ [44, 45, 2, 3, 24, 46, 47, 48, 49, 50, 176, 177, 178, 179, 180, 181, 182, 183, 184, 185, 186, 187, 188, 189] (by decide +kernel) (by decide +kernel)
set_option maxRecDepth 20000 in
theorem gX5_init_X1_init_n25 : GoodIn wsX5_init (wsX1_init) := ggX5_init_X1_init
set_option maxRecDepth 20000 in
theorem ggX5_init_X3_init : GoodIn wsX5_init wsX3_init := goodIn_r _ [35, 36, 2, 3, 24, 37, 38, 39, 40, 41, 42, 190, 191, 192, 193, 194, 195, 196, 197, 198, 199, 200, 201] (by decide +kernel) (by decide +kernel)
set_option maxRecDepth 20000 in
theorem gX5_init_X3_init : GoodIn wsX5_init (wsX3_init) := ggX5_init_X3_init
set_option maxRecDepth 20000 in
theorem ggX5_init_J0_length_8abf5 : GoodIn wsX5_init wsJ0_length_8abf5 := goodIn_r _ [56, 57, 58, 59, 60, 55, 61, 62, 63] (by decide +kernel) (by decide +kernel)
set_option maxRecDepth 20000 in
theorem gX5_init_J0_length_8abf5 : GoodIn wsX5_init (wsV RX5 42 RJ0 yJ0_length_8abf5 wsJ0_length_8abf5) := goodIn_app (goodIn_of _ (by decide +kernel)) ggX5_init_J0_length_8abf5
set_option maxRecDepth 20000 in
theorem ggX5_init_J0_charAt_5068e : GoodIn wsX5_init wsJ0_charAt_5068e := goodIn_r _ [67, 57, 68, 69, 70, 55, 71, 62, 63, 72, 73, 74, 75, 76, 77, 78, 79, 80, 81, 82, 83, 84, 85, 86, 87, 88, 89, 90, 91, 92, 93, 94, 95, 96, 97, 98, 99, 100] (by decide +kernel) (by decide +kernel)
set_option maxRecDepth 20000 in
theorem gX5_init_J0_charAt_5068e : GoodIn wsX5_init (wsV RX5 48 RJ0 yJ0_charAt_5068e wsJ0_charAt_5068e) := goodIn_app (goodIn_of _ (by decide +kernel)) ggX5_init_J0_charAt_5068e
set_option maxRecDepth 20000 in
theorem ggX5_init_X4_append : GoodIn wsX5_init wsX4_append := goodIn_r _ [104, 105, 25, 165, 166, 167, 168] (by decide +kernel) (by decide +kernel)
set_option maxRecDepth 20000 in
theorem gX5_init_X4_append : GoodIn wsX5_init (wsV RX5 52 RX4 yX4_append wsX4_append) := goodIn_app (goodIn_of _ (by decide +kernel)) ggX5_init_X4_append
set_option maxRecDepth 20000 in
theorem ggX5_init_X4_readInto : GoodIn wsX5_init wsX4_readInto := goodIn_r _ [109, 110, 105, 111, 112, 113, 14, 114, 115, 116, 117, 118, 119, 120, 121, 122, 123, 124, 125, 126, 6, 127, 26, 128, 129, 130, 131, 25, 132, 133, 134, 135, 136, 137, 138, 139, 140, 141, 142, 143, 144, 145, 46, 47, 146, 147, 148, 149, 150, 151, 152, 48, 49, 50, 153, 154, 155, 156, 157, 158, 159, 160, 165, 166, 167, 168, 176, 177, 178, 179, 180, 181, 182, 183, 184, 185, 186, 187, 188, 189] (by decide +kernel) (by decide +kernel)
set_option maxRecDepth 20000 in
theorem gX5_init_X4_readInto : GoodIn wsX5_init (wsV RX5 56 RX4 yX4_readInto wsX4_readInto) := goodIn_app (goodIn_of _ (by decide +kernel)) ggX5_init_X4_readInto
set_option maxRecDepth 20000 in
theorem ggX5_init_X4_clear : GoodIn wsX5_init wsX4_clear := goodIn_r _ [164, 105, 165, 166, 167, 168] (by decide +kernel) (by decide +kernel)
set_option maxRecDepth 20000 in
theorem gX5_init_X4_clear : GoodIn wsX5_init (wsV RX5 60 RX4 yX4_clear wsX4_clear) := goodIn_app (goodIn_of _ (by decide +kernel)) ggX5_init_X4_clear
theorem dX5_init_0 : decode cX5_init 0 = .ok (.aload_n 0, 1) := by decide +kernel
theorem dX5_init_1 : decode cX5_init 1 = .ok (.invokespecial 1, 3) := by decide +kernel
theorem dX5_init_4 : decode cX5_init 4 = .ok (.aload_n 0, 1) := by decide +kernel
theorem dX5_init_5 : decode cX5_init 5 = .ok (.new 7, 3) := by decide +kernel
theorem dX5_init_8 : decode cX5_init 8 = .ok (.dup, 1) := by decide +kernel
theorem dX5_init_9 : decode cX5_init 9 = .ok (.invokespecial 9, 3) := by decide +kernel
theorem dX5_init_12 : decode cX5_init 12 = .ok (.putfield 10, 3) := by decide +kernel
theorem dX5_init_15 : decode cX5_init 15 = .ok (.aload_n 0, 1) := by decide +kernel
theorem dX5_init_16 : decode cX5_init 16 = .ok (.new 16, 3) := by decide +kernel
theorem dX5_init_19 : decode cX5_init 19 = .ok (.dup, 1) := by decide +kernel
theorem dX5_init_20 : decode cX5_init 20 = .ok (.invokespecial 18, 3) := by decide +kernel
theorem dX5_init_23 : decode cX5_init 23 = .ok (.putfield 19, 3) := by decide +kernel
theorem dX5_init_26 : decode cX5_init 26 = .ok (.aload_n 0, 1) := by decide +kernel
theorem dX5_init_27 : decode cX5_init 27 = .ok (.new 23, 3) := by decide +kernel
theorem dX5_init_30 : decode cX5_init 30 = .ok (.dup, 1) := by decide +kernel
theorem dX5_init_31 : decode cX5_init 31 = .ok (.invokespecial 25, 3) := by decide +kernel
theorem dX5_init_34 : decode cX5_init 34 = .ok (.putfield 26, 3) := by decide +kernel
theorem dX5_init_37 : decode cX5_init 37 = .ok (.aload_n 0, 1) := by decide +kernel
theorem dX5_init_38 : decode cX5_init 38 = .ok (.new 23, 3) := by decide +kernel
theorem dX5_init_41 : decode cX5_init 41 = .ok (.dup, 1) := by decide +kernel
theorem dX5_init_42 : decode cX5_init 42 = .ok (.invokespecial 25, 3) := by decide +kernel
theorem dX5_init_45 : decode cX5_init 45 = .ok (.putfield 30, 3) := by decide +kernel
theorem dX5_init_48 : decode cX5_init 48 = .ok (.aload_n 0, 1) := by decide +kernel
theorem dX5_init_49 : decode cX5_init 49 = .ok (.new 33, 3) := by decide +kernel
theorem dX5_init_52 : decode cX5_init 52 = .ok (.dup, 1) := by decide +kernel
theorem dX5_init_53 : decode cX5_init 53 = .ok (.invokespecial 35, 3) := by decide +kernel
theorem dX5_init_56 : decode cX5_init 56 = .ok (.putfield 36, 3) := by decide +kernel
theorem dX5_init_59 : decode cX5_init 59 = .ok (.iconst 0, 1) := by decide +kernel
theorem dX5_init_60 : decode cX5_init 60 = .ok (.istore_n 1, 1) := by decide +kernel
theorem dX5_init_61 : decode cX5_init 61 = .ok (.iload_n 1, 1) := by decide +kernel
theorem dX5_init_62 : decode cX5_init 62 = .ok (.ldc 40, 2) := by decide +kernel
theorem dX5_init_64 : decode cX5_init 64 = .ok (.invokevirtual 42, 3) := by decide +kernel
theorem dX5_init_67 : decode cX5_init 67 = .ok (.if_icmp .ge 23, 3) := by decide +kernel
theorem dX5_init_70 : decode cX5_init 70 = .ok (.aload_n 0, 1) := by decide +kernel
theorem dX5_init_71 : decode cX5_init 71 = .ok (.getfield 10, 3) := by decide +kernel
theorem dX5_init_74 : decode cX5_init 74 = .ok (.ldc 40, 2) := by decide +kernel
theorem dX5_init_76 : decode cX5_init 76 = .ok (.iload_n 1, 1) := by decide +kernel
theorem dX5_init_77 : decode cX5_init 77 = .ok (.invokevirtual 48, 3) := by decide +kernel
theorem dX5_init_80 : decode cX5_init 80 = .ok (.invokevirtual 52, 3) := by decide +kernel
theorem dX5_init_83 : decode cX5_init 83 = .ok (.pop, 1) := by decide +kernel
theorem dX5_init_84 : decode cX5_init 84 = .ok (.iinc 1 1, 3) := by decide +kernel
theorem dX5_init_87 : decode cX5_init 87 = .ok (.goto (-26), 3) := by decide +kernel
theorem dX5_init_90 : decode cX5_init 90 = .ok (.aload_n 0, 1) := by decide +kernel
theorem dX5_init_91 : decode cX5_init 91 = .ok (.getfield 10, 3) := by decide +kernel
theorem dX5_init_94 : decode cX5_init 94 = .ok (.aload_n 0, 1) := by decide +kernel
theorem dX5_init_95 : decode cX5_init 95 = .ok (.getfield 26, 3) := by decide +kernel
theorem dX5_init_98 : decode cX5_init 98 = .ok (.invokevirtual 56, 3) := by decide +kernel
theorem dX5_init_101 : decode cX5_init 101 = .ok (.pop, 1) := by decide +kernel
theorem dX5_init_102 : decode cX5_init 102 = .ok (.aload_n 0, 1) := by decide +kernel
theorem dX5_init_103 : decode cX5_init 103 = .ok (.getfield 10, 3) := by decide +kernel
theorem dX5_init_106 : decode cX5_init 106 = .ok (.invokevirtual 60, 3) := by decide +kernel
theorem dX5_init_109 : decode cX5_init 109 = .ok (.return_, 1) := by decide +kernel
set_option maxRecDepth 20000 in
theorem ggX5_write_X5_within : GoodIn wsX5_write wsX5_within := goodIn_r _ [6] (by decide +kernel) (by decide +kernel)
set_option maxRecDepth 20000 in
theorem gX5_write_X5_within : GoodIn wsX5_write (va_wsS RX5 63 yX5_within wsX5_within) := goodIn_app (goodIn_of _ (by decide +kernel)) ggX5_write_X5_within
set_option maxRecDepth 20000 in
theorem ggX5_write_X4_append : GoodIn wsX5_write wsX4_append := goodIn_r _ [11, 12, 13, 19, 20, 21, 22] (by decide +kernel) (by decide +kernel)
set_option maxRecDepth 20000 in
theorem gX5_write_X4_append : GoodIn wsX5_write (wsV RX5 52 RX4 yX4_append wsX4_append) := goodIn_app (goodIn_of _ (by decide +kernel)) ggX5_write_X4_append
theorem dX5_write_0 : decode cX5_write 0 = .ok (.iload_n 1, 1) := by decide +kernel
theorem dX5_write_1 : decode cX5_write 1 = .ok (.bipush 32, 2) := by decide +kernel
theorem dX5_write_3 : decode cX5_write 3 = .ok (.bipush 126, 2) := by decide +kernel
theorem dX5_write_5 : decode cX5_write 5 = .ok (.invokestatic 63, 3) := by decide +kernel
theorem dX5_write_8 : decode cX5_write 8 = .ok (.ifCond .ne 5, 3) := by decide +kernel
theorem dX5_write_11 : decode cX5_write 11 = .ok (.iconst (-1), 1) := by decide +kernel
theorem dX5_write_12 : decode cX5_write 12 = .ok (.ireturn, 1) := by decide +kernel
theorem dX5_write_13 : decode cX5_write 13 = .ok (.aload_n 0, 1) := by decide +kernel
theorem dX5_write_14 : decode cX5_write 14 = .ok (.getfield 10, 3) := by decide +kernel
theorem dX5_write_17 : decode cX5_write 17 = .ok (.iload_n 1, 1) := by decide +kernel
theorem dX5_write_18 : decode cX5_write 18 = .ok (.invokevirtual 52, 3) := by decide +kernel
theorem dX5_write_21 : decode cX5_write 21 = .ok (.ifCond .eq 13, 3) := by decide +kernel
theorem dX5_write_24 : decode cX5_write 24 = .ok (.aload_n 0, 1) := by decide +kernel
theorem dX5_write_25 : decode cX5_write 25 = .ok (.getfield 10, 3) := by decide +kernel
theorem dX5_write_28 : decode cX5_write 28 = .ok (.getfield 67, 3) := by decide +kernel
theorem dX5_write_31 : decode cX5_write 31 = .ok (.goto 5, 3) := by decide +kernel
theorem dX5_write_34 : decode cX5_write 34 = .ok (.bipush (-3), 2) := by decide +kernel
theorem dX5_write_36 : decode cX5_write 36 = .ok (.ireturn, 1) := by decide +kernel
set_option maxRecDepth 20000 in
theorem ggX5_wipe_X4_clear : GoodIn wsX5_wipe wsX4_clear := goodIn_r _ [7, 8, 14, 15, 16, 17] (by decide +kernel) (by decide +kernel)
set_option maxRecDepth 20000 in
theorem gX5_wipe_X4_clear : GoodIn wsX5_wipe (wsV RX5 60 RX4 yX4_clear wsX4_clear) := goodIn_app (goodIn_of _ (by decide +kernel)) ggX5_wipe_X4_clear
theorem dX5_wipe_0 : decode cX5_wipe 0 = .ok (.aload_n 0, 1) := by decide +kernel
theorem dX5_wipe_1 : decode cX5_wipe 1 = .ok (.getfield 10, 3) := by decide +kernel
theorem dX5_wipe_4 : decode cX5_wipe 4 = .ok (.getfield 67, 3) := by decide +kernel
theorem dX5_wipe_7 : decode cX5_wipe 7 = .ok (.istore_n 1, 1) := by decide +kernel
theorem dX5_wipe_8 : decode cX5_wipe 8 = .ok (.aload_n 0, 1) := by decide +kernel
theorem dX5_wipe_9 : decode cX5_wipe 9 = .ok (.getfield 10, 3) := by decide +kernel
theorem dX5_wipe_12 : decode cX5_wipe 12 = .ok (.invokevirtual 60, 3) := by decide +kernel
theorem dX5_wipe_15 : decode cX5_wipe 15 = .ok (.iload_n 1, 1) := by decide +kernel
theorem dX5_wipe_16 : decode cX5_wipe 16 = .ok (.ireturn, 1) := by decide +kernel
set_option maxRecDepth 20000 in
theorem ggX5_fault_X4_readInto : GoodIn wsX5_fault wsX4_readInto := goodIn_r _ [7, 8, 9, 10, 11, 12, 13, 14, 15, 16, 17, 18, 19, 20, 21, 22, 23, 24, 25, 26, 6, 27, 28, 29, 30, 31, 32, 33, 34, 35, 36, 37, 38, 39, 40, 41, 42, 43, 44, 45, 46, 47, 48, 49, 50, 51, 52, 53, 54, 55, 56, 57, 58, 59, 60, 61, 62, 63, 64, 65, 66, 67, 73, 74, 75, 76, 77, 78, 79, 80, 81, 82, 83, 84, 85, 86, 87, 88, 89, 90] (by decide +kernel) (by decide +kernel)
set_option maxRecDepth 20000 in
theorem gX5_fault_X4_readInto : GoodIn wsX5_fault (wsV RX5 56 RX4 yX4_readInto wsX4_readInto) := goodIn_app (goodIn_of _ (by decide +kernel)) ggX5_fault_X4_readInto
theorem dX5_fault_0 : decode cX5_fault 0 = .ok (.aload_n 0, 1) := by decide +kernel
theorem dX5_fault_1 : decode cX5_fault 1 = .ok (.getfield 10, 3) := by decide +kernel
theorem dX5_fault_4 : decode cX5_fault 4 = .ok (.aload_n 0, 1) := by decide +kernel
theorem dX5_fault_5 : decode cX5_fault 5 = .ok (.getfield 30, 3) := by decide +kernel
theorem dX5_fault_8 : decode cX5_fault 8 = .ok (.invokevirtual 56, 3) := by decide +kernel
theorem dX5_fault_11 : decode cX5_fault 11 = .ok (.ireturn, 1) := by decide +kernel
set_option maxRecDepth 20000 in
theorem ggX5_lay_X4_readInto : GoodIn wsX5_lay wsX4_readInto := goodIn_r _ [11, 12, 13, 14, 15, 16, 17, 18, 19, 20, 21, 22, 23, 24, 25, 26, 27, 28, 29, 30, 10, 31, 32, 33, 34, 35, 36, 37, 38, 39, 40, 41, 42, 43, 44, 45, 46, 47, 48, 49, 50, 51, 52, 53, 54, 55, 56, 57, 58, 59, 60, 61, 62, 63, 64, 65, 66, 67, 68, 69, 70, 71, 121, 122, 123, 124, 107, 108, 109, 110, 111, 112, 113, 114, 115, 116, 117, 118, 119, 120] (by decide +kernel) (by decide +kernel)
set_option maxRecDepth 20000 in
theorem gX5_lay_X4_readInto : GoodIn wsX5_lay (wsV RX5 56 RX4 yX4_readInto wsX4_readInto) := goodIn_app (goodIn_of _ (by decide +kernel)) ggX5_lay_X4_readInto
set_option maxRecDepth 20000 in
theorem ggX5_lay_X3_begin : GoodIn wsX5_lay wsX3_begin := goodIn_r _ [76, 77, 78, 79, 80, 81, 82, 83, 84, 85, 86, 87, 88, 89, 75, 90, 91, 92, 93, 94, 95, 125, 126, 127, 128, 129, 130, 131, 132, 133, 134, 135, 136] (by decide +kernel) (by decide +kernel)
set_option maxRecDepth 20000 in
theorem gX5_lay_X3_begin : GoodIn wsX5_lay (wsV RX5 73 RX3 yX3_begin wsX3_begin) := goodIn_app (goodIn_of _ (by decide +kernel)) ggX5_lay_X3_begin
set_option maxRecDepth 20000 in
theorem ggX5_lay_X0_forget : GoodIn wsX5_lay wsX0_forget := goodIn_r _ [100, 101, 137, 138] (by decide +kernel) (by decide +kernel)
set_option maxRecDepth 20000 in
theorem gX5_lay_X0_forget : GoodIn wsX5_lay (wsV RX5 76 RX0 yX0_forget wsX0_forget) := goodIn_app (goodIn_of _ (by decide +kernel)) ggX5_lay_X0_forget
theorem dX5_lay_0 : decode cX5_lay 0 = .ok (.aload_n 0, 1) := by decide +kernel
theorem dX5_lay_1 : decode cX5_lay 1 = .ok (.getfield 10, 3) := by decide +kernel
theorem dX5_lay_4 : decode cX5_lay 4 = .ok (.aload_n 0, 1) := by decide +kernel
theorem dX5_lay_5 : decode cX5_lay 5 = .ok (.getfield 30, 3) := by decide +kernel
theorem dX5_lay_8 : decode cX5_lay 8 = .ok (.invokevirtual 56, 3) := by decide +kernel
theorem dX5_lay_11 : decode cX5_lay 11 = .ok (.bipush (-4), 2) := by decide +kernel
theorem dX5_lay_13 : decode cX5_lay 13 = .ok (.if_icmp .ne 13, 3) := by decide +kernel
theorem dX5_lay_16 : decode cX5_lay 16 = .ok (.aload_n 0, 1) := by decide +kernel
theorem dX5_lay_17 : decode cX5_lay 17 = .ok (.getfield 30, 3) := by decide +kernel
theorem dX5_lay_20 : decode cX5_lay 20 = .ok (.getfield 70, 3) := by decide +kernel
theorem dX5_lay_23 : decode cX5_lay 23 = .ok (.ifCond .ne 6, 3) := by decide +kernel
theorem dX5_lay_26 : decode cX5_lay 26 = .ok (.bipush (-2), 2) := by decide +kernel
theorem dX5_lay_28 : decode cX5_lay 28 = .ok (.ireturn, 1) := by decide +kernel
theorem dX5_lay_29 : decode cX5_lay 29 = .ok (.aload_n 0, 1) := by decide +kernel
theorem dX5_lay_30 : decode cX5_lay 30 = .ok (.getfield 26, 3) := by decide +kernel
theorem dX5_lay_33 : decode cX5_lay 33 = .ok (.astore_n 1, 1) := by decide +kernel
theorem dX5_lay_34 : decode cX5_lay 34 = .ok (.aload_n 0, 1) := by decide +kernel
theorem dX5_lay_35 : decode cX5_lay 35 = .ok (.aload_n 0, 1) := by decide +kernel
theorem dX5_lay_36 : decode cX5_lay 36 = .ok (.getfield 30, 3) := by decide +kernel
theorem dX5_lay_39 : decode cX5_lay 39 = .ok (.putfield 26, 3) := by decide +kernel
theorem dX5_lay_42 : decode cX5_lay 42 = .ok (.aload_n 0, 1) := by decide +kernel
theorem dX5_lay_43 : decode cX5_lay 43 = .ok (.aload_n 1, 1) := by decide +kernel
theorem dX5_lay_44 : decode cX5_lay 44 = .ok (.putfield 30, 3) := by decide +kernel
theorem dX5_lay_47 : decode cX5_lay 47 = .ok (.aload_n 0, 1) := by decide +kernel
theorem dX5_lay_48 : decode cX5_lay 48 = .ok (.getfield 36, 3) := by decide +kernel
theorem dX5_lay_51 : decode cX5_lay 51 = .ok (.invokevirtual 73, 3) := by decide +kernel
theorem dX5_lay_54 : decode cX5_lay 54 = .ok (.aload_n 0, 1) := by decide +kernel
theorem dX5_lay_55 : decode cX5_lay 55 = .ok (.getfield 19, 3) := by decide +kernel
theorem dX5_lay_58 : decode cX5_lay 58 = .ok (.invokevirtual 76, 3) := by decide +kernel
theorem dX5_lay_61 : decode cX5_lay 61 = .ok (.aload_n 0, 1) := by decide +kernel
theorem dX5_lay_62 : decode cX5_lay 62 = .ok (.getfield 26, 3) := by decide +kernel
theorem dX5_lay_65 : decode cX5_lay 65 = .ok (.getfield 70, 3) := by decide +kernel
theorem dX5_lay_68 : decode cX5_lay 68 = .ok (.ireturn, 1) := by decide +kernel
set_option maxRecDepth 20000 in
theorem ggX5_read_X5_isDevice : GoodIn wsX5_read wsX5_isDevice := goodIn_r _ [8, 9, 10, 11, 12, 7, 13, 46, 47, 48, 49, 50, 63, 64, 65, 66, 67, 68, 69, 70, 71, 72, 73, 74, 75, 76] (by decide +kernel) (by decide +kernel)
set_option maxRecDepth 20000 in
theorem gX5_read_X5_isDevice : GoodIn wsX5_read (wsV RX5 79 RX5 yX5_isDevice wsX5_isDevice) := goodIn_app (goodIn_of _ (by decide +kernel)) ggX5_read_X5_isDevice
set_option maxRecDepth 20000 in
theorem ggX5_read_X5_within : GoodIn wsX5_read wsX5_within := goodIn_r _ [13] (by decide +kernel) (by decide +kernel)
set_option maxRecDepth 20000 in
theorem gX5_read_X5_within : GoodIn wsX5_read (va_wsS RX5 63 yX5_within wsX5_within) := goodIn_app (goodIn_of _ (by decide +kernel)) ggX5_read_X5_within
set_option maxRecDepth 20000 in
theorem ggX5_read_X0_keep : GoodIn wsX5_read wsX0_keep := goodIn_r _ [18, 19, 20, 21, 22, 23, 24, 25, 26, 27, 28, 29, 30, 31, 32, 33, 34, 35, 36, 37, 38, 39, 40, 41, 42, 43, 44, 45, 77, 78, 51, 52, 53, 54, 55, 56, 57, 58, 59, 60, 61, 62] (by decide +kernel) (by decide +kernel)
set_option maxRecDepth 20000 in
theorem gX5_read_X0_keep : GoodIn wsX5_read (wsV RX5 86 RX0 yX0_keep wsX0_keep) := goodIn_app (goodIn_of _ (by decide +kernel)) ggX5_read_X0_keep
theorem dX5_read_0 : decode cX5_read 0 = .ok (.aload_n 0, 1) := by decide +kernel
theorem dX5_read_1 : decode cX5_read 1 = .ok (.iload_n 1, 1) := by decide +kernel
theorem dX5_read_2 : decode cX5_read 2 = .ok (.invokevirtual 79, 3) := by decide +kernel
theorem dX5_read_5 : decode cX5_read 5 = .ok (.ifCond .eq 13, 3) := by decide +kernel
theorem dX5_read_8 : decode cX5_read 8 = .ok (.iload_n 2, 1) := by decide +kernel
theorem dX5_read_9 : decode cX5_read 9 = .ok (.iconst 0, 1) := by decide +kernel
theorem dX5_read_10 : decode cX5_read 10 = .ok (.bipush 99, 2) := by decide +kernel
theorem dX5_read_12 : decode cX5_read 12 = .ok (.invokestatic 63, 3) := by decide +kernel
theorem dX5_read_15 : decode cX5_read 15 = .ok (.ifCond .ne 5, 3) := by decide +kernel
theorem dX5_read_18 : decode cX5_read 18 = .ok (.iconst (-1), 1) := by decide +kernel
theorem dX5_read_19 : decode cX5_read 19 = .ok (.ireturn, 1) := by decide +kernel
theorem dX5_read_20 : decode cX5_read 20 = .ok (.aload_n 0, 1) := by decide +kernel
theorem dX5_read_21 : decode cX5_read 21 = .ok (.getfield 36, 3) := by decide +kernel
theorem dX5_read_24 : decode cX5_read 24 = .ok (.getfield 82, 3) := by decide +kernel
theorem dX5_read_27 : decode cX5_read 27 = .ok (.iload_n 1, 1) := by decide +kernel
theorem dX5_read_28 : decode cX5_read 28 = .ok (.iaload, 1) := by decide +kernel
theorem dX5_read_29 : decode cX5_read 29 = .ok (.istore_n 3, 1) := by decide +kernel
theorem dX5_read_30 : decode cX5_read 30 = .ok (.iload_n 3, 1) := by decide +kernel
theorem dX5_read_31 : decode cX5_read 31 = .ok (.iload_n 2, 1) := by decide +kernel
theorem dX5_read_32 : decode cX5_read 32 = .ok (.if_icmp .ne 6, 3) := by decide +kernel
theorem dX5_read_35 : decode cX5_read 35 = .ok (.bipush (-2), 2) := by decide +kernel
theorem dX5_read_37 : decode cX5_read 37 = .ok (.ireturn, 1) := by decide +kernel
theorem dX5_read_38 : decode cX5_read 38 = .ok (.aload_n 0, 1) := by decide +kernel
theorem dX5_read_39 : decode cX5_read 39 = .ok (.getfield 19, 3) := by decide +kernel
theorem dX5_read_42 : decode cX5_read 42 = .ok (.aload_n 0, 1) := by decide +kernel
theorem dX5_read_43 : decode cX5_read 43 = .ok (.getfield 36, 3) := by decide +kernel
theorem dX5_read_46 : decode cX5_read 46 = .ok (.invokevirtual 86, 3) := by decide +kernel
theorem dX5_read_49 : decode cX5_read 49 = .ok (.aload_n 0, 1) := by decide +kernel
theorem dX5_read_50 : decode cX5_read 50 = .ok (.getfield 36, 3) := by decide +kernel
theorem dX5_read_53 : decode cX5_read 53 = .ok (.getfield 82, 3) := by decide +kernel
theorem dX5_read_56 : decode cX5_read 56 = .ok (.iload_n 1, 1) := by decide +kernel
theorem dX5_read_57 : decode cX5_read 57 = .ok (.iload_n 2, 1) := by decide +kernel
theorem dX5_read_58 : decode cX5_read 58 = .ok (.iastore, 1) := by decide +kernel
theorem dX5_read_59 : decode cX5_read 59 = .ok (.iload_n 3, 1) := by decide +kernel
theorem dX5_read_60 : decode cX5_read 60 = .ok (.ireturn, 1) := by decide +kernel
set_option maxRecDepth 20000 in
theorem ggX5_wire_X5_isWire : GoodIn wsX5_wire wsX5_isWire := goodIn_r _ [7, 8, 9, 10, 11, 6, 12, 55, 56, 57, 58, 59, 60, 61, 62, 63, 64, 65, 66, 67, 68, 69, 70, 71, 72, 73] (by decide +kernel) (by decide +kernel)
set_option maxRecDepth 20000 in
theorem gX5_wire_X5_isWire : GoodIn wsX5_wire (wsV RX5 90 RX5 yX5_isWire wsX5_isWire) := goodIn_app (goodIn_of _ (by decide +kernel)) ggX5_wire_X5_isWire
set_option maxRecDepth 20000 in
theorem ggX5_wire_X5_within : GoodIn wsX5_wire wsX5_within := goodIn_r _ [12] (by decide +kernel) (by decide +kernel)
set_option maxRecDepth 20000 in
theorem gX5_wire_X5_within : GoodIn wsX5_wire (va_wsS RX5 63 yX5_within wsX5_within) := goodIn_app (goodIn_of _ (by decide +kernel)) ggX5_wire_X5_within
set_option maxRecDepth 20000 in
theorem ggX5_wire_X3_conditionOf : GoodIn wsX5_wire wsX3_conditionOf := goodIn_r _ [17, 18, 19, 20, 6, 21, 74, 75, 76, 77, 78, 79, 80, 81, 82, 83, 84, 85] (by decide +kernel) (by decide +kernel)
set_option maxRecDepth 20000 in
theorem gX5_wire_X3_conditionOf : GoodIn wsX5_wire (wsV RX5 93 RX3 yX3_conditionOf wsX3_conditionOf) := goodIn_app (goodIn_of _ (by decide +kernel)) ggX5_wire_X3_conditionOf
set_option maxRecDepth 20000 in
theorem ggX5_wire_X0_keep : GoodIn wsX5_wire wsX0_keep := goodIn_r _ [26, 27, 28, 29, 30, 31, 32, 33, 34, 35, 16, 36, 37, 38, 39, 40, 41, 42, 43, 44, 45, 18, 19, 46, 47, 48, 49, 50, 86, 87, 74, 75, 76, 77, 78, 79, 80, 81, 82, 83, 84, 85] (by decide +kernel) (by decide +kernel)
set_option maxRecDepth 20000 in
theorem gX5_wire_X0_keep : GoodIn wsX5_wire (wsV RX5 86 RX0 yX0_keep wsX0_keep) := goodIn_app (goodIn_of _ (by decide +kernel)) ggX5_wire_X0_keep
set_option maxRecDepth 20000 in
theorem ggX5_wire_X3_setCondition : GoodIn wsX5_wire wsX3_setCondition := goodIn_r _ [54, 18, 19, 74, 75, 76, 77, 78, 79, 80, 81, 82, 83, 84, 85] (by decide +kernel) (by decide +kernel)
set_option maxRecDepth 20000 in
theorem gX5_wire_X3_setCondition : GoodIn wsX5_wire (wsV RX5 97 RX3 yX3_setCondition wsX3_setCondition) := goodIn_app (goodIn_of _ (by decide +kernel)) ggX5_wire_X3_setCondition
theorem dX5_wire_0 : decode cX5_wire 0 = .ok (.aload_n 0, 1) := by decide +kernel
theorem dX5_wire_1 : decode cX5_wire 1 = .ok (.iload_n 1, 1) := by decide +kernel
theorem dX5_wire_2 : decode cX5_wire 2 = .ok (.invokevirtual 90, 3) := by decide +kernel
theorem dX5_wire_5 : decode cX5_wire 5 = .ok (.ifCond .eq 12, 3) := by decide +kernel
theorem dX5_wire_8 : decode cX5_wire 8 = .ok (.iload_n 2, 1) := by decide +kernel
theorem dX5_wire_9 : decode cX5_wire 9 = .ok (.iconst 0, 1) := by decide +kernel
theorem dX5_wire_10 : decode cX5_wire 10 = .ok (.iconst 2, 1) := by decide +kernel
theorem dX5_wire_11 : decode cX5_wire 11 = .ok (.invokestatic 63, 3) := by decide +kernel
theorem dX5_wire_14 : decode cX5_wire 14 = .ok (.ifCond .ne 5, 3) := by decide +kernel
theorem dX5_wire_17 : decode cX5_wire 17 = .ok (.iconst (-1), 1) := by decide +kernel
theorem dX5_wire_18 : decode cX5_wire 18 = .ok (.ireturn, 1) := by decide +kernel
theorem dX5_wire_19 : decode cX5_wire 19 = .ok (.aload_n 0, 1) := by decide +kernel
theorem dX5_wire_20 : decode cX5_wire 20 = .ok (.getfield 36, 3) := by decide +kernel
theorem dX5_wire_23 : decode cX5_wire 23 = .ok (.iload_n 1, 1) := by decide +kernel
theorem dX5_wire_24 : decode cX5_wire 24 = .ok (.invokevirtual 93, 3) := by decide +kernel
theorem dX5_wire_27 : decode cX5_wire 27 = .ok (.istore_n 3, 1) := by decide +kernel
theorem dX5_wire_28 : decode cX5_wire 28 = .ok (.iload_n 3, 1) := by decide +kernel
theorem dX5_wire_29 : decode cX5_wire 29 = .ok (.iload_n 2, 1) := by decide +kernel
theorem dX5_wire_30 : decode cX5_wire 30 = .ok (.if_icmp .ne 6, 3) := by decide +kernel
theorem dX5_wire_33 : decode cX5_wire 33 = .ok (.bipush (-2), 2) := by decide +kernel
theorem dX5_wire_35 : decode cX5_wire 35 = .ok (.ireturn, 1) := by decide +kernel
theorem dX5_wire_36 : decode cX5_wire 36 = .ok (.aload_n 0, 1) := by decide +kernel
theorem dX5_wire_37 : decode cX5_wire 37 = .ok (.getfield 19, 3) := by decide +kernel
theorem dX5_wire_40 : decode cX5_wire 40 = .ok (.aload_n 0, 1) := by decide +kernel
theorem dX5_wire_41 : decode cX5_wire 41 = .ok (.getfield 36, 3) := by decide +kernel
theorem dX5_wire_44 : decode cX5_wire 44 = .ok (.invokevirtual 86, 3) := by decide +kernel
theorem dX5_wire_47 : decode cX5_wire 47 = .ok (.aload_n 0, 1) := by decide +kernel
theorem dX5_wire_48 : decode cX5_wire 48 = .ok (.getfield 36, 3) := by decide +kernel
theorem dX5_wire_51 : decode cX5_wire 51 = .ok (.iload_n 1, 1) := by decide +kernel
theorem dX5_wire_52 : decode cX5_wire 52 = .ok (.iload_n 2, 1) := by decide +kernel
theorem dX5_wire_53 : decode cX5_wire 53 = .ok (.invokevirtual 97, 3) := by decide +kernel
theorem dX5_wire_56 : decode cX5_wire 56 = .ok (.iload_n 3, 1) := by decide +kernel
theorem dX5_wire_57 : decode cX5_wire 57 = .ok (.ireturn, 1) := by decide +kernel
set_option maxRecDepth 20000 in
theorem ggX5_day_X5_within : GoodIn wsX5_day wsX5_within := goodIn_r _ [8] (by decide +kernel) (by decide +kernel)
set_option maxRecDepth 20000 in
theorem gX5_day_X5_within : GoodIn wsX5_day (va_wsS RX5 63 yX5_within wsX5_within) := goodIn_app (goodIn_of _ (by decide +kernel)) ggX5_day_X5_within
set_option maxRecDepth 20000 in
theorem ggX5_day_X0_keep : GoodIn wsX5_day wsX0_keep := goodIn_r _ [13, 14, 15, 16, 17, 18, 19, 20, 21, 22, 23, 24, 25, 26, 27, 28, 29, 30, 31, 32, 33, 34, 35, 36, 37, 38, 39, 40, 65, 66, 53, 54, 55, 56, 57, 58, 59, 60, 61, 62, 63, 64] (by decide +kernel) (by decide +kernel)
set_option maxRecDepth 20000 in
theorem gX5_day_X0_keep : GoodIn wsX5_day (wsV RX5 86 RX0 yX0_keep wsX0_keep) := goodIn_app (goodIn_of _ (by decide +kernel)) ggX5_day_X0_keep
set_option maxRecDepth 20000 in
theorem ggX5_day_J6_bitCount_0f7a4 : GoodIn wsX5_day wsJ6_bitCount_0f7a4 := goodIn_r _ [44, 45, 46, 47] (by decide +kernel) (by decide +kernel)
set_option maxRecDepth 20000 in
theorem gX5_day_J6_bitCount_0f7a4 : GoodIn wsX5_day (va_wsS RX5 107 yJ6_bitCount_0f7a4 wsJ6_bitCount_0f7a4) := goodIn_app (goodIn_of _ (by decide +kernel)) ggX5_day_J6_bitCount_0f7a4
theorem dX5_day_0 : decode cX5_day 0 = .ok (.iload_n 1, 1) := by decide +kernel
theorem dX5_day_1 : decode cX5_day 1 = .ok (.iconst 0, 1) := by decide +kernel
theorem dX5_day_2 : decode cX5_day 2 = .ok (.iconst 1, 1) := by decide +kernel
theorem dX5_day_3 : decode cX5_day 3 = .ok (.invokestatic 63, 3) := by decide +kernel
theorem dX5_day_6 : decode cX5_day 6 = .ok (.ifCond .ne 5, 3) := by decide +kernel
theorem dX5_day_9 : decode cX5_day 9 = .ok (.iconst (-1), 1) := by decide +kernel
theorem dX5_day_10 : decode cX5_day 10 = .ok (.ireturn, 1) := by decide +kernel
theorem dX5_day_11 : decode cX5_day 11 = .ok (.iload_n 1, 1) := by decide +kernel
theorem dX5_day_12 : decode cX5_day 12 = .ok (.aload_n 0, 1) := by decide +kernel
theorem dX5_day_13 : decode cX5_day 13 = .ok (.getfield 36, 3) := by decide +kernel
theorem dX5_day_16 : decode cX5_day 16 = .ok (.getfield 101, 3) := by decide +kernel
theorem dX5_day_19 : decode cX5_day 19 = .ok (.if_icmp .ne 6, 3) := by decide +kernel
theorem dX5_day_22 : decode cX5_day 22 = .ok (.bipush (-2), 2) := by decide +kernel
theorem dX5_day_24 : decode cX5_day 24 = .ok (.ireturn, 1) := by decide +kernel
theorem dX5_day_25 : decode cX5_day 25 = .ok (.aload_n 0, 1) := by decide +kernel
theorem dX5_day_26 : decode cX5_day 26 = .ok (.getfield 19, 3) := by decide +kernel
theorem dX5_day_29 : decode cX5_day 29 = .ok (.aload_n 0, 1) := by decide +kernel
theorem dX5_day_30 : decode cX5_day 30 = .ok (.getfield 36, 3) := by decide +kernel
theorem dX5_day_33 : decode cX5_day 33 = .ok (.invokevirtual 86, 3) := by decide +kernel
theorem dX5_day_36 : decode cX5_day 36 = .ok (.aload_n 0, 1) := by decide +kernel
theorem dX5_day_37 : decode cX5_day 37 = .ok (.getfield 36, 3) := by decide +kernel
theorem dX5_day_40 : decode cX5_day 40 = .ok (.iload_n 1, 1) := by decide +kernel
theorem dX5_day_41 : decode cX5_day 41 = .ok (.putfield 101, 3) := by decide +kernel
theorem dX5_day_44 : decode cX5_day 44 = .ok (.aload_n 0, 1) := by decide +kernel
theorem dX5_day_45 : decode cX5_day 45 = .ok (.getfield 36, 3) := by decide +kernel
theorem dX5_day_48 : decode cX5_day 48 = .ok (.getfield 104, 3) := by decide +kernel
theorem dX5_day_51 : decode cX5_day 51 = .ok (.invokestatic 107, 3) := by decide +kernel
theorem dX5_day_54 : decode cX5_day 54 = .ok (.ireturn, 1) := by decide +kernel
set_option maxRecDepth 20000 in
theorem ggX5_tick_X5_within : GoodIn wsX5_tick wsX5_within := goodIn_r _ [9] (by decide +kernel) (by decide +kernel)
set_option maxRecDepth 20000 in
theorem gX5_tick_X5_within : GoodIn wsX5_tick (va_wsS RX5 63 yX5_within wsX5_within) := goodIn_app (goodIn_of _ (by decide +kernel)) ggX5_tick_X5_within
set_option maxRecDepth 20000 in
theorem ggX5_tick_X0_keep : GoodIn wsX5_tick wsX0_keep := goodIn_r _ [14, 15, 16, 17, 18, 19, 20, 21, 22, 23, 24, 25, 26, 27, 28, 29, 30, 31, 32, 33, 34, 35, 36, 37, 38, 39, 40, 41, 135, 136, 123, 124, 125, 126, 127, 128, 129, 130, 131, 132, 133, 134] (by decide +kernel) (by decide +kernel)
set_option maxRecDepth 20000 in
theorem gX5_tick_X0_keep : GoodIn wsX5_tick (wsV RX5 86 RX0 yX0_keep wsX0_keep) := goodIn_app (goodIn_of _ (by decide +kernel)) ggX5_tick_X0_keep
set_option maxRecDepth 20000 in
theorem ggX5_tick_X5_lostNow : GoodIn wsX5_tick wsX5_lostNow := goodIn_r _ [45, 5, 46, 47, 1, 48, 49, 50, 51, 52, 53, 54, 55, 56, 57, 8, 58, 118, 119, 120, 121, 122, 137, 138, 139, 140, 141, 142, 143, 144, 145, 146, 147, 148, 149, 150, 123, 124, 125, 126, 127, 128, 129, 130, 131, 132, 133, 134] (by decide +kernel) (by decide +kernel)
set_option maxRecDepth 20000 in
theorem gX5_tick_X5_lostNow : GoodIn wsX5_tick (wsV RX5 115 RX5 yX5_lostNow wsX5_lostNow) := goodIn_app (goodIn_of _ (by decide +kernel)) ggX5_tick_X5_lostNow
set_option maxRecDepth 20000 in
theorem ggX5_tick_J6_bitCount_0f7a4 : GoodIn wsX5_tick wsJ6_bitCount_0f7a4 := goodIn_r _ [62, 63, 64, 65] (by decide +kernel) (by decide +kernel)
set_option maxRecDepth 20000 in
theorem gX5_tick_J6_bitCount_0f7a4 : GoodIn wsX5_tick (va_wsS RX5 107 yJ6_bitCount_0f7a4 wsJ6_bitCount_0f7a4) := goodIn_app (goodIn_of _ (by decide +kernel)) ggX5_tick_J6_bitCount_0f7a4
set_option maxRecDepth 20000 in
theorem ggX5_tick_X3_goOn : GoodIn wsX5_tick wsX3_goOn := goodIn_r _ [69, 40, 70, 71, 72, 73, 74, 24, 75, 37, 76, 57, 8, 58, 77, 78, 79, 80, 81, 82, 83, 84, 85, 86, 87, 88, 32, 89, 26, 90, 91, 92, 93, 31, 94, 95, 19, 96, 97, 98, 99, 100, 101, 102, 103, 104, 105, 39, 34, 106, 107, 108, 109, 38, 33, 41, 110, 111, 112, 113, 114, 115, 116, 117, 60, 61, 62, 63, 64, 65, 123, 124, 125, 126, 127, 128, 129, 130, 131, 132, 133, 134, 137, 138, 139, 140, 141, 142, 143, 144, 145, 146, 147, 148, 149, 150] (by decide +kernel) (by decide +kernel)
set_option maxRecDepth 20000 in
theorem gX5_tick_X3_goOn : GoodIn wsX5_tick (wsV RX5 121 RX3 yX3_goOn wsX3_goOn) := goodIn_app (goodIn_of _ (by decide +kernel)) ggX5_tick_X3_goOn
theorem dX5_tick_0 : decode cX5_tick 0 = .ok (.iload_n 1, 1) := by decide +kernel
theorem dX5_tick_1 : decode cX5_tick 1 = .ok (.iconst 1, 1) := by decide +kernel
theorem dX5_tick_2 : decode cX5_tick 2 = .ok (.bipush 50, 2) := by decide +kernel
theorem dX5_tick_4 : decode cX5_tick 4 = .ok (.invokestatic 63, 3) := by decide +kernel
theorem dX5_tick_7 : decode cX5_tick 7 = .ok (.ifCond .ne 5, 3) := by decide +kernel
theorem dX5_tick_10 : decode cX5_tick 10 = .ok (.iconst (-1), 1) := by decide +kernel
theorem dX5_tick_11 : decode cX5_tick 11 = .ok (.ireturn, 1) := by decide +kernel
theorem dX5_tick_12 : decode cX5_tick 12 = .ok (.aload_n 0, 1) := by decide +kernel
theorem dX5_tick_13 : decode cX5_tick 13 = .ok (.getfield 36, 3) := by decide +kernel
theorem dX5_tick_16 : decode cX5_tick 16 = .ok (.getfield 112, 3) := by decide +kernel
theorem dX5_tick_19 : decode cX5_tick 19 = .ok (.iload_n 1, 1) := by decide +kernel
theorem dX5_tick_20 : decode cX5_tick 20 = .ok (.iadd, 1) := by decide +kernel
theorem dX5_tick_21 : decode cX5_tick 21 = .ok (.sipush 9999, 3) := by decide +kernel
theorem dX5_tick_24 : decode cX5_tick 24 = .ok (.if_icmp .le 6, 3) := by decide +kernel
theorem dX5_tick_27 : decode cX5_tick 27 = .ok (.bipush (-2), 2) := by decide +kernel
theorem dX5_tick_29 : decode cX5_tick 29 = .ok (.ireturn, 1) := by decide +kernel
theorem dX5_tick_30 : decode cX5_tick 30 = .ok (.aload_n 0, 1) := by decide +kernel
theorem dX5_tick_31 : decode cX5_tick 31 = .ok (.getfield 19, 3) := by decide +kernel
theorem dX5_tick_34 : decode cX5_tick 34 = .ok (.aload_n 0, 1) := by decide +kernel
theorem dX5_tick_35 : decode cX5_tick 35 = .ok (.getfield 36, 3) := by decide +kernel
theorem dX5_tick_38 : decode cX5_tick 38 = .ok (.invokevirtual 86, 3) := by decide +kernel
theorem dX5_tick_41 : decode cX5_tick 41 = .ok (.aload_n 0, 1) := by decide +kernel
theorem dX5_tick_42 : decode cX5_tick 42 = .ok (.invokevirtual 115, 3) := by decide +kernel
theorem dX5_tick_45 : decode cX5_tick 45 = .ok (.istore_n 2, 1) := by decide +kernel
theorem dX5_tick_46 : decode cX5_tick 46 = .ok (.aload_n 0, 1) := by decide +kernel
theorem dX5_tick_47 : decode cX5_tick 47 = .ok (.getfield 36, 3) := by decide +kernel
theorem dX5_tick_50 : decode cX5_tick 50 = .ok (.getfield 118, 3) := by decide +kernel
theorem dX5_tick_53 : decode cX5_tick 53 = .ok (.invokestatic 107, 3) := by decide +kernel
theorem dX5_tick_56 : decode cX5_tick 56 = .ok (.istore_n 3, 1) := by decide +kernel
theorem dX5_tick_57 : decode cX5_tick 57 = .ok (.iconst 0, 1) := by decide +kernel
theorem dX5_tick_58 : decode cX5_tick 58 = .ok (.istore 4, 2) := by decide +kernel
theorem dX5_tick_60 : decode cX5_tick 60 = .ok (.iload 4, 2) := by decide +kernel
theorem dX5_tick_62 : decode cX5_tick 62 = .ok (.iload_n 1, 1) := by decide +kernel
theorem dX5_tick_63 : decode cX5_tick 63 = .ok (.if_icmp .ge 21, 3) := by decide +kernel
theorem dX5_tick_66 : decode cX5_tick 66 = .ok (.aload_n 0, 1) := by decide +kernel
theorem dX5_tick_67 : decode cX5_tick 67 = .ok (.getfield 36, 3) := by decide +kernel
theorem dX5_tick_70 : decode cX5_tick 70 = .ok (.aload_n 0, 1) := by decide +kernel
theorem dX5_tick_71 : decode cX5_tick 71 = .ok (.getfield 26, 3) := by decide +kernel
theorem dX5_tick_74 : decode cX5_tick 74 = .ok (.iload_n 2, 1) := by decide +kernel
theorem dX5_tick_75 : decode cX5_tick 75 = .ok (.invokevirtual 121, 3) := by decide +kernel
theorem dX5_tick_78 : decode cX5_tick 78 = .ok (.iinc 4 1, 3) := by decide +kernel
theorem dX5_tick_81 : decode cX5_tick 81 = .ok (.goto (-21), 3) := by decide +kernel
theorem dX5_tick_84 : decode cX5_tick 84 = .ok (.aload_n 0, 1) := by decide +kernel
theorem dX5_tick_85 : decode cX5_tick 85 = .ok (.getfield 36, 3) := by decide +kernel
theorem dX5_tick_88 : decode cX5_tick 88 = .ok (.getfield 118, 3) := by decide +kernel
theorem dX5_tick_91 : decode cX5_tick 91 = .ok (.invokestatic 107, 3) := by decide +kernel
theorem dX5_tick_94 : decode cX5_tick 94 = .ok (.iload_n 3, 1) := by decide +kernel
theorem dX5_tick_95 : decode cX5_tick 95 = .ok (.isub, 1) := by decide +kernel
theorem dX5_tick_96 : decode cX5_tick 96 = .ok (.ireturn, 1) := by decide +kernel
set_option maxRecDepth 20000 in
theorem ggX5_silence_X5_soundsThatSound : GoodIn wsX5_silence wsX5_soundsThatSound := goodIn_r _ [8, 2, 9, 10, 11, 3, 51, 52, 53, 54, 55, 56, 57, 58, 59, 60, 61, 62, 63, 64, 65, 66, 67, 68, 69, 70, 71, 72, 73, 74, 75, 76, 77, 78, 79, 80, 81] (by decide +kernel) (by decide +kernel)
set_option maxRecDepth 20000 in
theorem gX5_silence_X5_soundsThatSound : GoodIn wsX5_silence (wsV RX5 125 RX5 yX5_soundsThatSound wsX5_soundsThatSound) := goodIn_app (goodIn_of _ (by decide +kernel)) ggX5_silence_X5_soundsThatSound
set_option maxRecDepth 20000 in
theorem ggX5_silence_X0_keep : GoodIn wsX5_silence wsX0_keep := goodIn_r _ [16, 17, 18, 19, 20, 21, 22, 23, 24, 25, 26, 27, 28, 29, 30, 31, 32, 33, 34, 35, 36, 37, 38, 39, 40, 41, 42, 43, 82, 83, 56, 57, 58, 59, 60, 61, 62, 63, 64, 65, 66, 67] (by decide +kernel) (by decide +kernel)
set_option maxRecDepth 20000 in
theorem gX5_silence_X0_keep : GoodIn wsX5_silence (wsV RX5 86 RX0 yX0_keep wsX0_keep) := goodIn_app (goodIn_of _ (by decide +kernel)) ggX5_silence_X0_keep
set_option maxRecDepth 20000 in
theorem ggX5_silence_J6_bitCount_0f7a4 : GoodIn wsX5_silence wsJ6_bitCount_0f7a4 := goodIn_r _ [47, 48, 49, 50] (by decide +kernel) (by decide +kernel)
set_option maxRecDepth 20000 in
theorem gX5_silence_J6_bitCount_0f7a4 : GoodIn wsX5_silence (va_wsS RX5 107 yJ6_bitCount_0f7a4 wsJ6_bitCount_0f7a4) := goodIn_app (goodIn_of _ (by decide +kernel)) ggX5_silence_J6_bitCount_0f7a4
theorem dX5_silence_0 : decode cX5_silence 0 = .ok (.aload_n 0, 1) := by decide +kernel
theorem dX5_silence_1 : decode cX5_silence 1 = .ok (.invokevirtual 125, 3) := by decide +kernel
theorem dX5_silence_4 : decode cX5_silence 4 = .ok (.istore_n 1, 1) := by decide +kernel
theorem dX5_silence_5 : decode cX5_silence 5 = .ok (.iload_n 1, 1) := by decide +kernel
theorem dX5_silence_6 : decode cX5_silence 6 = .ok (.ifCond .ne 6, 3) := by decide +kernel
theorem dX5_silence_9 : decode cX5_silence 9 = .ok (.bipush (-2), 2) := by decide +kernel
theorem dX5_silence_11 : decode cX5_silence 11 = .ok (.ireturn, 1) := by decide +kernel
theorem dX5_silence_12 : decode cX5_silence 12 = .ok (.aload_n 0, 1) := by decide +kernel
theorem dX5_silence_13 : decode cX5_silence 13 = .ok (.getfield 19, 3) := by decide +kernel
theorem dX5_silence_16 : decode cX5_silence 16 = .ok (.aload_n 0, 1) := by decide +kernel
theorem dX5_silence_17 : decode cX5_silence 17 = .ok (.getfield 36, 3) := by decide +kernel
theorem dX5_silence_20 : decode cX5_silence 20 = .ok (.invokevirtual 86, 3) := by decide +kernel
theorem dX5_silence_23 : decode cX5_silence 23 = .ok (.aload_n 0, 1) := by decide +kernel
theorem dX5_silence_24 : decode cX5_silence 24 = .ok (.getfield 36, 3) := by decide +kernel
theorem dX5_silence_27 : decode cX5_silence 27 = .ok (.dup, 1) := by decide +kernel
theorem dX5_silence_28 : decode cX5_silence 28 = .ok (.getfield 128, 3) := by decide +kernel
theorem dX5_silence_31 : decode cX5_silence 31 = .ok (.iload_n 1, 1) := by decide +kernel
theorem dX5_silence_32 : decode cX5_silence 32 = .ok (.ior, 1) := by decide +kernel
theorem dX5_silence_33 : decode cX5_silence 33 = .ok (.putfield 128, 3) := by decide +kernel
theorem dX5_silence_36 : decode cX5_silence 36 = .ok (.iload_n 1, 1) := by decide +kernel
theorem dX5_silence_37 : decode cX5_silence 37 = .ok (.invokestatic 107, 3) := by decide +kernel
theorem dX5_silence_40 : decode cX5_silence 40 = .ok (.ireturn, 1) := by decide +kernel
set_option maxRecDepth 20000 in
theorem ggX5_reset_X0_keep : GoodIn wsX5_reset wsX0_keep := goodIn_r _ [9, 10, 11, 12, 13, 14, 15, 16, 17, 18, 19, 20, 21, 22, 23, 24, 25, 26, 27, 28, 29, 30, 31, 32, 33, 34, 35, 36, 69, 70, 57, 58, 59, 60, 61, 62, 63, 64, 65, 66, 67, 68] (by decide +kernel) (by decide +kernel)
set_option maxRecDepth 20000 in
theorem gX5_reset_X0_keep : GoodIn wsX5_reset (wsV RX5 86 RX0 yX0_keep wsX0_keep) := goodIn_app (goodIn_of _ (by decide +kernel)) ggX5_reset_X0_keep
set_option maxRecDepth 20000 in
theorem ggX5_reset_J6_bitCount_0f7a4 : GoodIn wsX5_reset wsJ6_bitCount_0f7a4 := goodIn_r _ [40, 41, 42, 43] (by decide +kernel) (by decide +kernel)
set_option maxRecDepth 20000 in
theorem gX5_reset_J6_bitCount_0f7a4 : GoodIn wsX5_reset (va_wsS RX5 107 yJ6_bitCount_0f7a4 wsJ6_bitCount_0f7a4) := goodIn_app (goodIn_of _ (by decide +kernel)) ggX5_reset_J6_bitCount_0f7a4
set_option maxRecDepth 20000 in
theorem ggX5_reset_X3_putBack : GoodIn wsX5_reset wsX3_putBack := goodIn_r _ [47, 27, 28, 32, 33, 34, 48, 49, 50, 51, 57, 58, 59, 60, 61, 62, 63, 64, 65, 66, 67, 68] (by decide +kernel) (by decide +kernel)
set_option maxRecDepth 20000 in
theorem gX5_reset_X3_putBack : GoodIn wsX5_reset (wsV RX5 131 RX3 yX3_putBack wsX3_putBack) := goodIn_app (goodIn_of _ (by decide +kernel)) ggX5_reset_X3_putBack
theorem dX5_reset_0 : decode cX5_reset 0 = .ok (.aload_n 0, 1) := by decide +kernel
theorem dX5_reset_1 : decode cX5_reset 1 = .ok (.getfield 36, 3) := by decide +kernel
theorem dX5_reset_4 : decode cX5_reset 4 = .ok (.getfield 118, 3) := by decide +kernel
theorem dX5_reset_7 : decode cX5_reset 7 = .ok (.ifCond .ne 16, 3) := by decide +kernel
theorem dX5_reset_10 : decode cX5_reset 10 = .ok (.aload_n 0, 1) := by decide +kernel
theorem dX5_reset_11 : decode cX5_reset 11 = .ok (.getfield 36, 3) := by decide +kernel
theorem dX5_reset_14 : decode cX5_reset 14 = .ok (.getfield 104, 3) := by decide +kernel
theorem dX5_reset_17 : decode cX5_reset 17 = .ok (.ifCond .ne 6, 3) := by decide +kernel
theorem dX5_reset_20 : decode cX5_reset 20 = .ok (.bipush (-2), 2) := by decide +kernel
theorem dX5_reset_22 : decode cX5_reset 22 = .ok (.ireturn, 1) := by decide +kernel
theorem dX5_reset_23 : decode cX5_reset 23 = .ok (.aload_n 0, 1) := by decide +kernel
theorem dX5_reset_24 : decode cX5_reset 24 = .ok (.getfield 19, 3) := by decide +kernel
theorem dX5_reset_27 : decode cX5_reset 27 = .ok (.aload_n 0, 1) := by decide +kernel
theorem dX5_reset_28 : decode cX5_reset 28 = .ok (.getfield 36, 3) := by decide +kernel
theorem dX5_reset_31 : decode cX5_reset 31 = .ok (.invokevirtual 86, 3) := by decide +kernel
theorem dX5_reset_34 : decode cX5_reset 34 = .ok (.aload_n 0, 1) := by decide +kernel
theorem dX5_reset_35 : decode cX5_reset 35 = .ok (.getfield 36, 3) := by decide +kernel
theorem dX5_reset_38 : decode cX5_reset 38 = .ok (.getfield 118, 3) := by decide +kernel
theorem dX5_reset_41 : decode cX5_reset 41 = .ok (.invokestatic 107, 3) := by decide +kernel
theorem dX5_reset_44 : decode cX5_reset 44 = .ok (.istore_n 1, 1) := by decide +kernel
theorem dX5_reset_45 : decode cX5_reset 45 = .ok (.aload_n 0, 1) := by decide +kernel
theorem dX5_reset_46 : decode cX5_reset 46 = .ok (.getfield 36, 3) := by decide +kernel
theorem dX5_reset_49 : decode cX5_reset 49 = .ok (.invokevirtual 131, 3) := by decide +kernel
theorem dX5_reset_52 : decode cX5_reset 52 = .ok (.iload_n 1, 1) := by decide +kernel
theorem dX5_reset_53 : decode cX5_reset 53 = .ok (.ireturn, 1) := by decide +kernel
set_option maxRecDepth 20000 in
theorem ggX5_undo_X0_takeBack : GoodIn wsX5_undo wsX0_takeBack := goodIn_r _ [8, 9, 10, 11, 12, 13, 14, 20, 21] (by decide +kernel) (by decide +kernel)
set_option maxRecDepth 20000 in
theorem gX5_undo_X0_takeBack : GoodIn wsX5_undo (wsV RX5 137 RX0 yX0_takeBack wsX0_takeBack) := goodIn_app (goodIn_of _ (by decide +kernel)) ggX5_undo_X0_takeBack
theorem dX5_undo_0 : decode cX5_undo 0 = .ok (.aload_n 0, 1) := by decide +kernel
theorem dX5_undo_1 : decode cX5_undo 1 = .ok (.getfield 19, 3) := by decide +kernel
theorem dX5_undo_4 : decode cX5_undo 4 = .ok (.getfield 134, 3) := by decide +kernel
theorem dX5_undo_7 : decode cX5_undo 7 = .ok (.ifCond .ne 6, 3) := by decide +kernel
theorem dX5_undo_10 : decode cX5_undo 10 = .ok (.bipush (-2), 2) := by decide +kernel
theorem dX5_undo_12 : decode cX5_undo 12 = .ok (.ireturn, 1) := by decide +kernel
theorem dX5_undo_13 : decode cX5_undo 13 = .ok (.aload_n 0, 1) := by decide +kernel
theorem dX5_undo_14 : decode cX5_undo 14 = .ok (.aload_n 0, 1) := by decide +kernel
theorem dX5_undo_15 : decode cX5_undo 15 = .ok (.getfield 19, 3) := by decide +kernel
theorem dX5_undo_18 : decode cX5_undo 18 = .ok (.aload_n 0, 1) := by decide +kernel
theorem dX5_undo_19 : decode cX5_undo 19 = .ok (.getfield 36, 3) := by decide +kernel
theorem dX5_undo_22 : decode cX5_undo 22 = .ok (.invokevirtual 137, 3) := by decide +kernel
theorem dX5_undo_25 : decode cX5_undo 25 = .ok (.putfield 36, 3) := by decide +kernel
theorem dX5_undo_28 : decode cX5_undo 28 = .ok (.aload_n 0, 1) := by decide +kernel
theorem dX5_undo_29 : decode cX5_undo 29 = .ok (.getfield 19, 3) := by decide +kernel
theorem dX5_undo_32 : decode cX5_undo 32 = .ok (.getfield 134, 3) := by decide +kernel
theorem dX5_undo_35 : decode cX5_undo 35 = .ok (.ireturn, 1) := by decide +kernel
set_option maxRecDepth 20000 in
theorem ggX5_device_X5_isDevice : GoodIn wsX5_device wsX5_isDevice := goodIn_r _ [13, 1, 14, 15, 16, 12, 17, 61, 62, 63, 64, 65, 66, 67, 68, 69, 70, 71, 72, 73, 74, 75, 76, 77, 78, 79] (by decide +kernel) (by decide +kernel)
set_option maxRecDepth 20000 in
theorem gX5_device_X5_isDevice : GoodIn wsX5_device (wsV RX5 79 RX5 yX5_isDevice wsX5_isDevice) := goodIn_app (goodIn_of _ (by decide +kernel)) ggX5_device_X5_isDevice
set_option maxRecDepth 20000 in
theorem ggX5_device_X5_within : GoodIn wsX5_device wsX5_within := goodIn_r _ [17] (by decide +kernel) (by decide +kernel)
set_option maxRecDepth 20000 in
theorem gX5_device_X5_within : GoodIn wsX5_device (va_wsS RX5 63 yX5_within wsX5_within) := goodIn_app (goodIn_of _ (by decide +kernel)) ggX5_device_X5_within
set_option maxRecDepth 20000 in
theorem ggX5_device_X5_bit : GoodIn wsX5_device wsX5_bit := goodIn_r _ [20] (by decide +kernel) (by decide +kernel)
set_option maxRecDepth 20000 in
theorem gX5_device_X5_bit : GoodIn wsX5_device (va_wsS RX5 150 yX5_bit wsX5_bit) := goodIn_app (goodIn_of _ (by decide +kernel)) ggX5_device_X5_bit
set_option maxRecDepth 20000 in
theorem ggX5_device_X3_valueOf : GoodIn wsX5_device wsX3_valueOf := goodIn_r _ [25, 26, 27, 28, 29, 30, 31, 80, 81, 82, 83, 84, 85, 86, 87, 88, 89, 90, 91] (by decide +kernel) (by decide +kernel)
set_option maxRecDepth 20000 in
theorem gX5_device_X3_valueOf : GoodIn wsX5_device (wsV RX5 157 RX3 yX3_valueOf wsX3_valueOf) := goodIn_app (goodIn_of _ (by decide +kernel)) ggX5_device_X3_valueOf
set_option maxRecDepth 20000 in
theorem ggX5_device_X3_levelOf : GoodIn wsX5_device wsX3_levelOf := goodIn_r _ [35, 36, 37, 38, 39, 19, 12, 20, 40, 22, 23, 24, 25, 26, 27, 28, 29, 30, 31, 80, 81, 82, 83, 84, 85, 86, 87, 88, 89, 90, 91, 66, 67, 68, 69, 70, 71, 72, 73, 74, 75, 76, 77, 78, 79] (by decide +kernel) (by decide +kernel)
set_option maxRecDepth 20000 in
theorem gX5_device_X3_levelOf : GoodIn wsX5_device (wsV RX5 163 RX3 yX3_levelOf wsX3_levelOf) := goodIn_app (goodIn_of _ (by decide +kernel)) ggX5_device_X3_levelOf
set_option maxRecDepth 20000 in
theorem ggX5_device_X5_endsThatReach : GoodIn wsX5_device wsX5_endsThatReach := goodIn_r _ [44, 1, 14, 45, 46, 47, 12, 48, 5, 49, 4, 50, 51, 52, 53, 54, 19, 20, 55, 56, 57, 58, 59, 60, 61, 62, 63, 64, 65, 66, 67, 68, 69, 70, 71, 72, 73, 74, 75, 76, 77, 78, 79, 80, 81, 82, 83, 84, 85, 86, 87, 88, 89, 90, 91] (by decide +kernel) (by decide +kernel)
set_option maxRecDepth 20000 in
theorem gX5_device_X5_endsThatReach : GoodIn wsX5_device (wsV RX5 167 RX5 yX5_endsThatReach wsX5_endsThatReach) := goodIn_app (goodIn_of _ (by decide +kernel)) ggX5_device_X5_endsThatReach
theorem dX5_device_0 : decode cX5_device 0 = .ok (.aload_n 0, 1) := by decide +kernel
theorem dX5_device_1 : decode cX5_device 1 = .ok (.iload_n 1, 1) := by decide +kernel
theorem dX5_device_2 : decode cX5_device 2 = .ok (.invokevirtual 79, 3) := by decide +kernel
theorem dX5_device_5 : decode cX5_device 5 = .ok (.ifCond .eq 13, 3) := by decide +kernel
theorem dX5_device_8 : decode cX5_device 8 = .ok (.iload_n 2, 1) := by decide +kernel
theorem dX5_device_9 : decode cX5_device 9 = .ok (.iconst 0, 1) := by decide +kernel
theorem dX5_device_10 : decode cX5_device 10 = .ok (.bipush 8, 2) := by decide +kernel
theorem dX5_device_12 : decode cX5_device 12 = .ok (.invokestatic 63, 3) := by decide +kernel
theorem dX5_device_15 : decode cX5_device 15 = .ok (.ifCond .ne 5, 3) := by decide +kernel
theorem dX5_device_18 : decode cX5_device 18 = .ok (.iconst (-1), 1) := by decide +kernel
theorem dX5_device_19 : decode cX5_device 19 = .ok (.ireturn, 1) := by decide +kernel
theorem dX5_device_20 : decode cX5_device 20 = .ok (.iload_n 2, 1) := by decide +kernel
theorem dX5_device_21 : decode cX5_device 21 = .ok (.tableswitch 131 0 7 #[47, 57, 67, 79, 89, 99, 108, 118], 47) := by decide +kernel
theorem dX5_device_68 : decode cX5_device 68 = .ok (.aload_n 0, 1) := by decide +kernel
theorem dX5_device_69 : decode cX5_device 69 = .ok (.getfield 26, 3) := by decide +kernel
theorem dX5_device_72 : decode cX5_device 72 = .ok (.getfield 141, 3) := by decide +kernel
theorem dX5_device_75 : decode cX5_device 75 = .ok (.iload_n 1, 1) := by decide +kernel
theorem dX5_device_76 : decode cX5_device 76 = .ok (.iaload, 1) := by decide +kernel
theorem dX5_device_77 : decode cX5_device 77 = .ok (.ireturn, 1) := by decide +kernel
theorem dX5_device_78 : decode cX5_device 78 = .ok (.aload_n 0, 1) := by decide +kernel
theorem dX5_device_79 : decode cX5_device 79 = .ok (.getfield 26, 3) := by decide +kernel
theorem dX5_device_82 : decode cX5_device 82 = .ok (.getfield 144, 3) := by decide +kernel
theorem dX5_device_85 : decode cX5_device 85 = .ok (.iload_n 1, 1) := by decide +kernel
theorem dX5_device_86 : decode cX5_device 86 = .ok (.iaload, 1) := by decide +kernel
theorem dX5_device_87 : decode cX5_device 87 = .ok (.ireturn, 1) := by decide +kernel
theorem dX5_device_88 : decode cX5_device 88 = .ok (.aload_n 0, 1) := by decide +kernel
theorem dX5_device_89 : decode cX5_device 89 = .ok (.getfield 26, 3) := by decide +kernel
theorem dX5_device_92 : decode cX5_device 92 = .ok (.getfield 147, 3) := by decide +kernel
theorem dX5_device_95 : decode cX5_device 95 = .ok (.iload_n 1, 1) := by decide +kernel
theorem dX5_device_96 : decode cX5_device 96 = .ok (.invokestatic 150, 3) := by decide +kernel
theorem dX5_device_99 : decode cX5_device 99 = .ok (.ireturn, 1) := by decide +kernel
theorem dX5_device_100 : decode cX5_device 100 = .ok (.aload_n 0, 1) := by decide +kernel
theorem dX5_device_101 : decode cX5_device 101 = .ok (.getfield 36, 3) := by decide +kernel
theorem dX5_device_104 : decode cX5_device 104 = .ok (.getfield 82, 3) := by decide +kernel
theorem dX5_device_107 : decode cX5_device 107 = .ok (.iload_n 1, 1) := by decide +kernel
theorem dX5_device_108 : decode cX5_device 108 = .ok (.iaload, 1) := by decide +kernel
theorem dX5_device_109 : decode cX5_device 109 = .ok (.ireturn, 1) := by decide +kernel
theorem dX5_device_110 : decode cX5_device 110 = .ok (.aload_n 0, 1) := by decide +kernel
theorem dX5_device_111 : decode cX5_device 111 = .ok (.getfield 36, 3) := by decide +kernel
theorem dX5_device_114 : decode cX5_device 114 = .ok (.getfield 154, 3) := by decide +kernel
theorem dX5_device_117 : decode cX5_device 117 = .ok (.iload_n 1, 1) := by decide +kernel
theorem dX5_device_118 : decode cX5_device 118 = .ok (.iaload, 1) := by decide +kernel
theorem dX5_device_119 : decode cX5_device 119 = .ok (.ireturn, 1) := by decide +kernel
theorem dX5_device_120 : decode cX5_device 120 = .ok (.aload_n 0, 1) := by decide +kernel
theorem dX5_device_121 : decode cX5_device 121 = .ok (.getfield 36, 3) := by decide +kernel
theorem dX5_device_124 : decode cX5_device 124 = .ok (.iload_n 1, 1) := by decide +kernel
theorem dX5_device_125 : decode cX5_device 125 = .ok (.invokevirtual 157, 3) := by decide +kernel
theorem dX5_device_128 : decode cX5_device 128 = .ok (.ireturn, 1) := by decide +kernel
theorem dX5_device_129 : decode cX5_device 129 = .ok (.aload_n 0, 1) := by decide +kernel
theorem dX5_device_130 : decode cX5_device 130 = .ok (.getfield 36, 3) := by decide +kernel
theorem dX5_device_133 : decode cX5_device 133 = .ok (.getfield 160, 3) := by decide +kernel
theorem dX5_device_136 : decode cX5_device 136 = .ok (.iload_n 1, 1) := by decide +kernel
theorem dX5_device_137 : decode cX5_device 137 = .ok (.iaload, 1) := by decide +kernel
theorem dX5_device_138 : decode cX5_device 138 = .ok (.ireturn, 1) := by decide +kernel
theorem dX5_device_139 : decode cX5_device 139 = .ok (.aload_n 0, 1) := by decide +kernel
theorem dX5_device_140 : decode cX5_device 140 = .ok (.getfield 36, 3) := by decide +kernel
theorem dX5_device_143 : decode cX5_device 143 = .ok (.aload_n 0, 1) := by decide +kernel
theorem dX5_device_144 : decode cX5_device 144 = .ok (.getfield 26, 3) := by decide +kernel
theorem dX5_device_147 : decode cX5_device 147 = .ok (.iload_n 1, 1) := by decide +kernel
theorem dX5_device_148 : decode cX5_device 148 = .ok (.invokevirtual 163, 3) := by decide +kernel
theorem dX5_device_151 : decode cX5_device 151 = .ok (.ireturn, 1) := by decide +kernel
theorem dX5_device_152 : decode cX5_device 152 = .ok (.aload_n 0, 1) := by decide +kernel
theorem dX5_device_153 : decode cX5_device 153 = .ok (.iload_n 1, 1) := by decide +kernel
theorem dX5_device_154 : decode cX5_device 154 = .ok (.invokevirtual 167, 3) := by decide +kernel
theorem dX5_device_157 : decode cX5_device 157 = .ok (.ireturn, 1) := by decide +kernel
set_option maxRecDepth 20000 in
theorem ggX5_stop_X5_isDevice : GoodIn wsX5_stop wsX5_isDevice := goodIn_r _ [11, 1, 2, 12, 13, 10, 14, 45, 46, 47, 48, 49, 50, 51, 52, 53, 54, 55, 56, 57, 58, 59, 60, 61, 62, 63] (by decide +kernel) (by decide +kernel)
set_option maxRecDepth 20000 in
theorem gX5_stop_X5_isDevice : GoodIn wsX5_stop (wsV RX5 79 RX5 yX5_isDevice wsX5_isDevice) := goodIn_app (goodIn_of _ (by decide +kernel)) ggX5_stop_X5_isDevice
set_option maxRecDepth 20000 in
theorem ggX5_stop_X5_within : GoodIn wsX5_stop wsX5_within := goodIn_r _ [14] (by decide +kernel) (by decide +kernel)
set_option maxRecDepth 20000 in
theorem gX5_stop_X5_within : GoodIn wsX5_stop (va_wsS RX5 63 yX5_within wsX5_within) := goodIn_app (goodIn_of _ (by decide +kernel)) ggX5_stop_X5_within
set_option maxRecDepth 20000 in
theorem ggX5_stop_X5_blockedNow : GoodIn wsX5_stop wsX5_blockedNow := goodIn_r _ [18, 3, 4, 1, 2, 5, 6, 19, 20, 21, 22, 23, 10, 24, 45, 46, 47, 48, 49, 64, 65, 66, 67, 68, 69, 70, 71, 72, 73, 74, 75, 50, 51, 52, 53, 54, 55, 56, 57, 58, 59, 60, 61, 62, 63] (by decide +kernel) (by decide +kernel)
set_option maxRecDepth 20000 in
theorem gX5_stop_X5_blockedNow : GoodIn wsX5_stop (wsV RX5 170 RX5 yX5_blockedNow wsX5_blockedNow) := goodIn_app (goodIn_of _ (by decide +kernel)) ggX5_stop_X5_blockedNow
set_option maxRecDepth 20000 in
theorem ggX5_stop_X2_stopFromA : GoodIn wsX5_stop wsX2_stopFromA := goodIn_r _ [27, 23, 10, 24] (by decide +kernel) (by decide +kernel)
set_option maxRecDepth 20000 in
theorem gX5_stop_X2_stopFromA : GoodIn wsX5_stop (va_wsS RX5 173 yX2_stopFromA wsX2_stopFromA) := goodIn_app (goodIn_of _ (by decide +kernel)) ggX5_stop_X2_stopFromA
set_option maxRecDepth 20000 in
theorem ggX5_stop_X2_stopFromB : GoodIn wsX5_stop wsX2_stopFromB := goodIn_r _ [30, 23, 10, 24] (by decide +kernel) (by decide +kernel)
set_option maxRecDepth 20000 in
theorem gX5_stop_X2_stopFromB : GoodIn wsX5_stop (va_wsS RX5 178 yX2_stopFromB wsX2_stopFromB) := goodIn_app (goodIn_of _ (by decide +kernel)) ggX5_stop_X2_stopFromB
set_option maxRecDepth 20000 in
theorem ggX5_stop_X5_bit : GoodIn wsX5_stop wsX5_bit := goodIn_r _ [24] (by decide +kernel) (by decide +kernel)
set_option maxRecDepth 20000 in
theorem gX5_stop_X5_bit : GoodIn wsX5_stop (va_wsS RX5 150 yX5_bit wsX5_bit) := goodIn_app (goodIn_of _ (by decide +kernel)) ggX5_stop_X5_bit
set_option maxRecDepth 20000 in
theorem ggX5_stop_X2_lowestShort : GoodIn wsX5_stop wsX2_lowestShort := goodIn_r _ [34, 35, 36, 21, 37, 38, 39, 40, 41, 42, 43, 44, 23, 10, 24] (by decide +kernel) (by decide +kernel)
set_option maxRecDepth 20000 in
theorem gX5_stop_X2_lowestShort : GoodIn wsX5_stop (va_wsS RX5 188 yX2_lowestShort wsX2_lowestShort) := goodIn_app (goodIn_of _ (by decide +kernel)) ggX5_stop_X2_lowestShort
theorem dX5_stop_0 : decode cX5_stop 0 = .ok (.aload_n 0, 1) := by decide +kernel
theorem dX5_stop_1 : decode cX5_stop 1 = .ok (.iload_n 1, 1) := by decide +kernel
theorem dX5_stop_2 : decode cX5_stop 2 = .ok (.invokevirtual 79, 3) := by decide +kernel
theorem dX5_stop_5 : decode cX5_stop 5 = .ok (.ifCond .eq 21, 3) := by decide +kernel
theorem dX5_stop_8 : decode cX5_stop 8 = .ok (.iload_n 2, 1) := by decide +kernel
theorem dX5_stop_9 : decode cX5_stop 9 = .ok (.iconst 1, 1) := by decide +kernel
theorem dX5_stop_10 : decode cX5_stop 10 = .ok (.iconst 2, 1) := by decide +kernel
theorem dX5_stop_11 : decode cX5_stop 11 = .ok (.invokestatic 63, 3) := by decide +kernel
theorem dX5_stop_14 : decode cX5_stop 14 = .ok (.ifCond .eq 12, 3) := by decide +kernel
theorem dX5_stop_17 : decode cX5_stop 17 = .ok (.iload_n 3, 1) := by decide +kernel
theorem dX5_stop_18 : decode cX5_stop 18 = .ok (.iconst 0, 1) := by decide +kernel
theorem dX5_stop_19 : decode cX5_stop 19 = .ok (.iconst 2, 1) := by decide +kernel
theorem dX5_stop_20 : decode cX5_stop 20 = .ok (.invokestatic 63, 3) := by decide +kernel
theorem dX5_stop_23 : decode cX5_stop 23 = .ok (.ifCond .ne 5, 3) := by decide +kernel
theorem dX5_stop_26 : decode cX5_stop 26 = .ok (.iconst (-1), 1) := by decide +kernel
theorem dX5_stop_27 : decode cX5_stop 27 = .ok (.ireturn, 1) := by decide +kernel
theorem dX5_stop_28 : decode cX5_stop 28 = .ok (.aload_n 0, 1) := by decide +kernel
theorem dX5_stop_29 : decode cX5_stop 29 = .ok (.invokevirtual 170, 3) := by decide +kernel
theorem dX5_stop_32 : decode cX5_stop 32 = .ok (.istore 4, 2) := by decide +kernel
theorem dX5_stop_34 : decode cX5_stop 34 = .ok (.iload_n 2, 1) := by decide +kernel
theorem dX5_stop_35 : decode cX5_stop 35 = .ok (.iconst 1, 1) := by decide +kernel
theorem dX5_stop_36 : decode cX5_stop 36 = .ok (.if_icmp .ne 12, 3) := by decide +kernel
theorem dX5_stop_39 : decode cX5_stop 39 = .ok (.iload_n 1, 1) := by decide +kernel
theorem dX5_stop_40 : decode cX5_stop 40 = .ok (.iload 4, 2) := by decide +kernel
theorem dX5_stop_42 : decode cX5_stop 42 = .ok (.invokestatic 173, 3) := by decide +kernel
theorem dX5_stop_45 : decode cX5_stop 45 = .ok (.goto 16, 3) := by decide +kernel
theorem dX5_stop_48 : decode cX5_stop 48 = .ok (.aload_n 0, 1) := by decide +kernel
theorem dX5_stop_49 : decode cX5_stop 49 = .ok (.getfield 26, 3) := by decide +kernel
theorem dX5_stop_52 : decode cX5_stop 52 = .ok (.getfield 70, 3) := by decide +kernel
theorem dX5_stop_55 : decode cX5_stop 55 = .ok (.iload_n 1, 1) := by decide +kernel
theorem dX5_stop_56 : decode cX5_stop 56 = .ok (.iload 4, 2) := by decide +kernel
theorem dX5_stop_58 : decode cX5_stop 58 = .ok (.invokestatic 178, 3) := by decide +kernel
theorem dX5_stop_61 : decode cX5_stop 61 = .ok (.istore 5, 2) := by decide +kernel
theorem dX5_stop_63 : decode cX5_stop 63 = .ok (.iload 5, 2) := by decide +kernel
theorem dX5_stop_65 : decode cX5_stop 65 = .ok (.bipush (-4), 2) := by decide +kernel
theorem dX5_stop_67 : decode cX5_stop 67 = .ok (.if_icmp .ne 14, 3) := by decide +kernel
theorem dX5_stop_70 : decode cX5_stop 70 = .ok (.iload_n 3, 1) := by decide +kernel
theorem dX5_stop_71 : decode cX5_stop 71 = .ok (.ifCond .ne 7, 3) := by decide +kernel
theorem dX5_stop_74 : decode cX5_stop 74 = .ok (.iconst 0, 1) := by decide +kernel
theorem dX5_stop_75 : decode cX5_stop 75 = .ok (.goto 5, 3) := by decide +kernel
theorem dX5_stop_78 : decode cX5_stop 78 = .ok (.bipush (-4), 2) := by decide +kernel
theorem dX5_stop_80 : decode cX5_stop 80 = .ok (.ireturn, 1) := by decide +kernel
theorem dX5_stop_81 : decode cX5_stop 81 = .ok (.iload_n 3, 1) := by decide +kernel
theorem dX5_stop_82 : decode cX5_stop 82 = .ok (.lookupswitch 51 #[(0, 26), (1, 48)], 26) := by decide +kernel
theorem dX5_stop_108 : decode cX5_stop 108 = .ok (.aload_n 0, 1) := by decide +kernel
theorem dX5_stop_109 : decode cX5_stop 109 = .ok (.getfield 36, 3) := by decide +kernel
theorem dX5_stop_112 : decode cX5_stop 112 = .ok (.getfield 182, 3) := by decide +kernel
theorem dX5_stop_115 : decode cX5_stop 115 = .ok (.iload 5, 2) := by decide +kernel
theorem dX5_stop_117 : decode cX5_stop 117 = .ok (.invokestatic 150, 3) := by decide +kernel
theorem dX5_stop_120 : decode cX5_stop 120 = .ok (.iconst 1, 1) := by decide +kernel
theorem dX5_stop_121 : decode cX5_stop 121 = .ok (.if_icmp .ne 7, 3) := by decide +kernel
theorem dX5_stop_124 : decode cX5_stop 124 = .ok (.iconst 1, 1) := by decide +kernel
theorem dX5_stop_125 : decode cX5_stop 125 = .ok (.goto 4, 3) := by decide +kernel
theorem dX5_stop_128 : decode cX5_stop 128 = .ok (.iconst 2, 1) := by decide +kernel
theorem dX5_stop_129 : decode cX5_stop 129 = .ok (.ireturn, 1) := by decide +kernel
theorem dX5_stop_130 : decode cX5_stop 130 = .ok (.iload 5, 2) := by decide +kernel
theorem dX5_stop_132 : decode cX5_stop 132 = .ok (.ireturn, 1) := by decide +kernel
theorem dX5_stop_133 : decode cX5_stop 133 = .ok (.aload_n 0, 1) := by decide +kernel
theorem dX5_stop_134 : decode cX5_stop 134 = .ok (.getfield 26, 3) := by decide +kernel
theorem dX5_stop_137 : decode cX5_stop 137 = .ok (.getfield 70, 3) := by decide +kernel
theorem dX5_stop_140 : decode cX5_stop 140 = .ok (.aload_n 0, 1) := by decide +kernel
theorem dX5_stop_141 : decode cX5_stop 141 = .ok (.getfield 26, 3) := by decide +kernel
theorem dX5_stop_144 : decode cX5_stop 144 = .ok (.getfield 147, 3) := by decide +kernel
theorem dX5_stop_147 : decode cX5_stop 147 = .ok (.aload_n 0, 1) := by decide +kernel
theorem dX5_stop_148 : decode cX5_stop 148 = .ok (.getfield 36, 3) := by decide +kernel
theorem dX5_stop_151 : decode cX5_stop 151 = .ok (.getfield 185, 3) := by decide +kernel
theorem dX5_stop_154 : decode cX5_stop 154 = .ok (.iload 5, 2) := by decide +kernel
theorem dX5_stop_156 : decode cX5_stop 156 = .ok (.invokestatic 188, 3) := by decide +kernel
theorem dX5_stop_159 : decode cX5_stop 159 = .ok (.ireturn, 1) := by decide +kernel
set_option maxRecDepth 20000 in
theorem ggX5_wireOf_X5_isWire : GoodIn wsX5_wireOf wsX5_isWire := goodIn_r _ [8, 2, 9, 10, 11, 7, 12, 46, 47, 48, 49, 50, 51, 52, 53, 54, 55, 56, 57, 58, 59, 60, 61, 62, 63, 64] (by decide +kernel) (by decide +kernel)
set_option maxRecDepth 20000 in
theorem gX5_wireOf_X5_isWire : GoodIn wsX5_wireOf (wsV RX5 90 RX5 yX5_isWire wsX5_isWire) := goodIn_app (goodIn_of _ (by decide +kernel)) ggX5_wireOf_X5_isWire
set_option maxRecDepth 20000 in
theorem ggX5_wireOf_X5_within : GoodIn wsX5_wireOf wsX5_within := goodIn_r _ [12] (by decide +kernel) (by decide +kernel)
set_option maxRecDepth 20000 in
theorem gX5_wireOf_X5_within : GoodIn wsX5_wireOf (va_wsS RX5 63 yX5_within wsX5_within) := goodIn_app (goodIn_of _ (by decide +kernel)) ggX5_wireOf_X5_within
set_option maxRecDepth 20000 in
theorem ggX5_wireOf_X3_conditionOf : GoodIn wsX5_wireOf wsX3_conditionOf := goodIn_r _ [17, 18, 19, 20, 7, 21, 65, 66, 67, 68, 69, 70, 71, 72, 73, 74, 75, 76] (by decide +kernel) (by decide +kernel)
set_option maxRecDepth 20000 in
theorem gX5_wireOf_X3_conditionOf : GoodIn wsX5_wireOf (wsV RX5 93 RX3 yX3_conditionOf wsX3_conditionOf) := goodIn_app (goodIn_of _ (by decide +kernel)) ggX5_wireOf_X3_conditionOf
set_option maxRecDepth 20000 in
theorem ggX5_wireOf_X2_stretchOf : GoodIn wsX5_wireOf wsX2_stretchOf := goodIn_r _ [25, 26, 27, 28, 29, 30, 31, 32] (by decide +kernel) (by decide +kernel)
set_option maxRecDepth 20000 in
theorem gX5_wireOf_X2_stretchOf : GoodIn wsX5_wireOf (va_wsS RX5 192 yX2_stretchOf wsX2_stretchOf) := goodIn_app (goodIn_of _ (by decide +kernel)) ggX5_wireOf_X2_stretchOf
set_option maxRecDepth 20000 in
theorem ggX5_wireOf_X5_lossByShort : GoodIn wsX5_wireOf wsX5_lossByShort := goodIn_r _ [36, 1, 37, 38, 2, 9, 39, 40, 24, 41, 42, 43, 44, 20, 7, 21, 45, 27, 28, 29, 30, 31, 32, 46, 47, 48, 49, 50, 65, 66, 67, 68, 69, 70, 71, 72, 73, 74, 75, 76, 51, 52, 53, 54, 55, 56, 57, 58, 59, 60, 61, 62, 63, 64] (by decide +kernel) (by decide +kernel)
set_option maxRecDepth 20000 in
theorem gX5_wireOf_X5_lossByShort : GoodIn wsX5_wireOf (wsV RX5 195 RX5 yX5_lossByShort wsX5_lossByShort) := goodIn_app (goodIn_of _ (by decide +kernel)) ggX5_wireOf_X5_lossByShort
theorem dX5_wireOf_0 : decode cX5_wireOf 0 = .ok (.aload_n 0, 1) := by decide +kernel
theorem dX5_wireOf_1 : decode cX5_wireOf 1 = .ok (.iload_n 1, 1) := by decide +kernel
theorem dX5_wireOf_2 : decode cX5_wireOf 2 = .ok (.invokevirtual 90, 3) := by decide +kernel
theorem dX5_wireOf_5 : decode cX5_wireOf 5 = .ok (.ifCond .eq 12, 3) := by decide +kernel
theorem dX5_wireOf_8 : decode cX5_wireOf 8 = .ok (.iload_n 2, 1) := by decide +kernel
theorem dX5_wireOf_9 : decode cX5_wireOf 9 = .ok (.iconst 0, 1) := by decide +kernel
theorem dX5_wireOf_10 : decode cX5_wireOf 10 = .ok (.iconst 2, 1) := by decide +kernel
theorem dX5_wireOf_11 : decode cX5_wireOf 11 = .ok (.invokestatic 63, 3) := by decide +kernel
theorem dX5_wireOf_14 : decode cX5_wireOf 14 = .ok (.ifCond .ne 5, 3) := by decide +kernel
theorem dX5_wireOf_17 : decode cX5_wireOf 17 = .ok (.iconst (-1), 1) := by decide +kernel
theorem dX5_wireOf_18 : decode cX5_wireOf 18 = .ok (.ireturn, 1) := by decide +kernel
theorem dX5_wireOf_19 : decode cX5_wireOf 19 = .ok (.iload_n 2, 1) := by decide +kernel
theorem dX5_wireOf_20 : decode cX5_wireOf 20 = .ok (.lookupswitch 49 #[(0, 28), (1, 37)], 28) := by decide +kernel
theorem dX5_wireOf_48 : decode cX5_wireOf 48 = .ok (.aload_n 0, 1) := by decide +kernel
theorem dX5_wireOf_49 : decode cX5_wireOf 49 = .ok (.getfield 36, 3) := by decide +kernel
theorem dX5_wireOf_52 : decode cX5_wireOf 52 = .ok (.iload_n 1, 1) := by decide +kernel
theorem dX5_wireOf_53 : decode cX5_wireOf 53 = .ok (.invokevirtual 93, 3) := by decide +kernel
theorem dX5_wireOf_56 : decode cX5_wireOf 56 = .ok (.ireturn, 1) := by decide +kernel
theorem dX5_wireOf_57 : decode cX5_wireOf 57 = .ok (.aload_n 0, 1) := by decide +kernel
theorem dX5_wireOf_58 : decode cX5_wireOf 58 = .ok (.getfield 26, 3) := by decide +kernel
theorem dX5_wireOf_61 : decode cX5_wireOf 61 = .ok (.getfield 147, 3) := by decide +kernel
theorem dX5_wireOf_64 : decode cX5_wireOf 64 = .ok (.iload_n 1, 1) := by decide +kernel
theorem dX5_wireOf_65 : decode cX5_wireOf 65 = .ok (.invokestatic 192, 3) := by decide +kernel
theorem dX5_wireOf_68 : decode cX5_wireOf 68 = .ok (.ireturn, 1) := by decide +kernel
theorem dX5_wireOf_69 : decode cX5_wireOf 69 = .ok (.aload_n 0, 1) := by decide +kernel
theorem dX5_wireOf_70 : decode cX5_wireOf 70 = .ok (.aload_n 0, 1) := by decide +kernel
theorem dX5_wireOf_71 : decode cX5_wireOf 71 = .ok (.getfield 26, 3) := by decide +kernel
theorem dX5_wireOf_74 : decode cX5_wireOf 74 = .ok (.getfield 147, 3) := by decide +kernel
theorem dX5_wireOf_77 : decode cX5_wireOf 77 = .ok (.iload_n 1, 1) := by decide +kernel
theorem dX5_wireOf_78 : decode cX5_wireOf 78 = .ok (.invokevirtual 195, 3) := by decide +kernel
theorem dX5_wireOf_81 : decode cX5_wireOf 81 = .ok (.ireturn, 1) := by decide +kernel
set_option maxRecDepth 20000 in
theorem ggX5_worst_X5_within : GoodIn wsX5_worst wsX5_within := goodIn_r _ [6] (by decide +kernel) (by decide +kernel)
set_option maxRecDepth 20000 in
theorem gX5_worst_X5_within : GoodIn wsX5_worst (va_wsS RX5 63 yX5_within wsX5_within) := goodIn_app (goodIn_of _ (by decide +kernel)) ggX5_worst_X5_within
set_option maxRecDepth 20000 in
theorem ggX5_worst_X5_worstWire : GoodIn wsX5_worst wsX5_worstWire := goodIn_r _ [10, 1, 11, 12, 13, 14, 15, 16, 17, 18, 19, 20, 5, 21, 22, 23, 24, 25, 26, 27, 28, 29, 30, 31, 32, 33, 34, 35, 36, 37, 38, 39, 40, 41, 42, 43, 44, 45, 46, 47, 48, 49, 50, 51, 52, 53, 54, 55, 56, 57, 58, 59, 60, 61, 62, 63, 64, 65, 66, 67, 68, 69, 70, 71, 72] (by decide +kernel) (by decide +kernel)
set_option maxRecDepth 20000 in
theorem gX5_worst_X5_worstWire : GoodIn wsX5_worst (wsV RX5 198 RX5 yX5_worstWire wsX5_worstWire) := goodIn_app (goodIn_of _ (by decide +kernel)) ggX5_worst_X5_worstWire
set_option maxRecDepth 20000 in
theorem ggX5_worst_X5_lossByShort : GoodIn wsX5_worst wsX5_lossByShort := goodIn_r _ [25, 12, 26, 27, 1, 11, 28, 29, 30, 31, 32, 33, 34, 20, 5, 21, 35, 36, 37, 38, 39, 40, 41, 42, 43, 44, 45, 46, 61, 62, 63, 64, 65, 66, 67, 68, 69, 70, 71, 72, 47, 48, 49, 50, 51, 52, 53, 54, 55, 56, 57, 58, 59, 60] (by decide +kernel) (by decide +kernel)
set_option maxRecDepth 20000 in
theorem gX5_worst_X5_lossByShort : GoodIn wsX5_worst (wsV RX5 195 RX5 yX5_lossByShort wsX5_lossByShort) := goodIn_app (goodIn_of _ (by decide +kernel)) ggX5_worst_X5_lossByShort
theorem dX5_worst_0 : decode cX5_worst 0 = .ok (.iload_n 1, 1) := by decide +kernel
theorem dX5_worst_1 : decode cX5_worst 1 = .ok (.iconst 0, 1) := by decide +kernel
theorem dX5_worst_2 : decode cX5_worst 2 = .ok (.iconst 1, 1) := by decide +kernel
theorem dX5_worst_3 : decode cX5_worst 3 = .ok (.invokestatic 63, 3) := by decide +kernel
theorem dX5_worst_6 : decode cX5_worst 6 = .ok (.ifCond .ne 5, 3) := by decide +kernel
theorem dX5_worst_9 : decode cX5_worst 9 = .ok (.iconst (-1), 1) := by decide +kernel
theorem dX5_worst_10 : decode cX5_worst 10 = .ok (.ireturn, 1) := by decide +kernel
theorem dX5_worst_11 : decode cX5_worst 11 = .ok (.aload_n 0, 1) := by decide +kernel
theorem dX5_worst_12 : decode cX5_worst 12 = .ok (.aload_n 0, 1) := by decide +kernel
theorem dX5_worst_13 : decode cX5_worst 13 = .ok (.getfield 26, 3) := by decide +kernel
theorem dX5_worst_16 : decode cX5_worst 16 = .ok (.getfield 147, 3) := by decide +kernel
theorem dX5_worst_19 : decode cX5_worst 19 = .ok (.invokevirtual 198, 3) := by decide +kernel
theorem dX5_worst_22 : decode cX5_worst 22 = .ok (.istore_n 2, 1) := by decide +kernel
theorem dX5_worst_23 : decode cX5_worst 23 = .ok (.iload_n 2, 1) := by decide +kernel
theorem dX5_worst_24 : decode cX5_worst 24 = .ok (.bipush (-4), 2) := by decide +kernel
theorem dX5_worst_26 : decode cX5_worst 26 = .ok (.if_icmp .ne 6, 3) := by decide +kernel
theorem dX5_worst_29 : decode cX5_worst 29 = .ok (.bipush (-4), 2) := by decide +kernel
theorem dX5_worst_31 : decode cX5_worst 31 = .ok (.ireturn, 1) := by decide +kernel
theorem dX5_worst_32 : decode cX5_worst 32 = .ok (.iload_n 1, 1) := by decide +kernel
theorem dX5_worst_33 : decode cX5_worst 33 = .ok (.ifCond .ne 7, 3) := by decide +kernel
theorem dX5_worst_36 : decode cX5_worst 36 = .ok (.iload_n 2, 1) := by decide +kernel
theorem dX5_worst_37 : decode cX5_worst 37 = .ok (.goto 15, 3) := by decide +kernel
theorem dX5_worst_40 : decode cX5_worst 40 = .ok (.aload_n 0, 1) := by decide +kernel
theorem dX5_worst_41 : decode cX5_worst 41 = .ok (.aload_n 0, 1) := by decide +kernel
theorem dX5_worst_42 : decode cX5_worst 42 = .ok (.getfield 26, 3) := by decide +kernel
theorem dX5_worst_45 : decode cX5_worst 45 = .ok (.getfield 147, 3) := by decide +kernel
theorem dX5_worst_48 : decode cX5_worst 48 = .ok (.iload_n 2, 1) := by decide +kernel
theorem dX5_worst_49 : decode cX5_worst 49 = .ok (.invokevirtual 195, 3) := by decide +kernel
theorem dX5_worst_52 : decode cX5_worst 52 = .ok (.ireturn, 1) := by decide +kernel
set_option maxRecDepth 20000 in
theorem ggX5_help_X5_within : GoodIn wsX5_help wsX5_within := goodIn_r _ [7] (by decide +kernel) (by decide +kernel)
set_option maxRecDepth 20000 in
theorem gX5_help_X5_within : GoodIn wsX5_help (va_wsS RX5 63 yX5_within wsX5_within) := goodIn_app (goodIn_of _ (by decide +kernel)) ggX5_help_X5_within
set_option maxRecDepth 20000 in
theorem ggX5_help_X5_worstWire : GoodIn wsX5_help wsX5_worstWire := goodIn_r _ [11, 1, 3, 12, 13, 14, 15, 16, 17, 18, 19, 20, 6, 21, 22, 23, 24, 25, 26, 27, 28, 29, 30, 31, 32, 33, 34, 35, 36, 37, 38, 39, 40, 41, 43, 44, 45, 46, 47, 48, 49, 50, 51, 52, 53, 54, 55, 56, 57, 58, 59, 60, 61, 62, 63, 64, 65, 66, 67, 68, 69, 70, 71, 72, 73] (by decide +kernel) (by decide +kernel)
set_option maxRecDepth 20000 in
theorem gX5_help_X5_worstWire : GoodIn wsX5_help (wsV RX5 198 RX5 yX5_worstWire wsX5_worstWire) := goodIn_app (goodIn_of _ (by decide +kernel)) ggX5_help_X5_worstWire
