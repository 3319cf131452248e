theorem dX6_stops_61 : decode cX6_stops 61 = .ok (.bipush (-4), 2) := by decide +kernel
theorem dX6_stops_63 : decode cX6_stops 63 = .ok (.ireturn, 1) := by decide +kernel
set_option maxRecDepth 20000 in
theorem ggX6_isLost_X6_stops : GoodIn wsX6_isLost wsX6_stops := goodIn_r _ [5, 6, 7, 8, 9, 4, 10, 11, 12, 13, 14, 15, 16, 17, 18, 19, 20, 21, 22, 23, 24, 25, 26, 27, 28, 29, 30, 31, 32, 33, 34, 35, 36, 37] (by decide +kernel) (by decide +kernel)
set_option maxRecDepth 20000 in
theorem gX6_isLost_X6_stops : GoodIn wsX6_isLost (wsV RX6 116 RX6 yX6_stops wsX6_stops) := goodIn_app (goodIn_of _ (by decide +kernel)) ggX6_isLost_X6_stops
theorem dX6_isLost_0 : decode cX6_isLost 0 = .ok (.aload_n 0, 1) := by decide +kernel
theorem dX6_isLost_1 : decode cX6_isLost 1 = .ok (.iload_n 1, 1) := by decide +kernel
theorem dX6_isLost_2 : decode cX6_isLost 2 = .ok (.iconst 1, 1) := by decide +kernel
theorem dX6_isLost_3 : decode cX6_isLost 3 = .ok (.invokevirtual 116, 3) := by decide +kernel
theorem dX6_isLost_6 : decode cX6_isLost 6 = .ok (.bipush (-4), 2) := by decide +kernel
theorem dX6_isLost_8 : decode cX6_isLost 8 = .ok (.if_icmp .eq 18, 3) := by decide +kernel
theorem dX6_isLost_11 : decode cX6_isLost 11 = .ok (.aload_n 0, 1) := by decide +kernel
theorem dX6_isLost_12 : decode cX6_isLost 12 = .ok (.iload_n 1, 1) := by decide +kernel
theorem dX6_isLost_13 : decode cX6_isLost 13 = .ok (.iconst 2, 1) := by decide +kernel
theorem dX6_isLost_14 : decode cX6_isLost 14 = .ok (.invokevirtual 116, 3) := by decide +kernel
theorem dX6_isLost_17 : decode cX6_isLost 17 = .ok (.bipush (-4), 2) := by decide +kernel
theorem dX6_isLost_19 : decode cX6_isLost 19 = .ok (.if_icmp .eq 7, 3) := by decide +kernel
theorem dX6_isLost_22 : decode cX6_isLost 22 = .ok (.iconst 1, 1) := by decide +kernel
theorem dX6_isLost_23 : decode cX6_isLost 23 = .ok (.goto 4, 3) := by decide +kernel
theorem dX6_isLost_26 : decode cX6_isLost 26 = .ok (.iconst 0, 1) := by decide +kernel
theorem dX6_isLost_27 : decode cX6_isLost 27 = .ok (.ireturn, 1) := by decide +kernel
set_option maxRecDepth 20000 in
theorem ggX6_lostMany_X6_isLost : GoodIn wsX6_lostMany wsX6_isLost := goodIn_r _ [6, 7, 8, 9, 5, 10, 1, 11, 12, 13, 14, 15, 16, 17, 18, 19, 20, 21, 22, 23, 24, 25, 26, 27, 28, 29, 30, 31, 32, 33, 34, 35, 36, 37, 38, 39, 40, 41] (by decide +kernel) (by decide +kernel)
set_option maxRecDepth 20000 in
theorem gX6_lostMany_X6_isLost : GoodIn wsX6_lostMany (wsV RX6 119 RX6 yX6_isLost wsX6_isLost) := goodIn_app (goodIn_of _ (by decide +kernel)) ggX6_lostMany_X6_isLost
theorem dX6_lostMany_0 : decode cX6_lostMany 0 = .ok (.iconst 0, 1) := by decide +kernel
theorem dX6_lostMany_1 : decode cX6_lostMany 1 = .ok (.istore_n 1, 1) := by decide +kernel
theorem dX6_lostMany_2 : decode cX6_lostMany 2 = .ok (.iconst 0, 1) := by decide +kernel
theorem dX6_lostMany_3 : decode cX6_lostMany 3 = .ok (.istore_n 2, 1) := by decide +kernel
theorem dX6_lostMany_4 : decode cX6_lostMany 4 = .ok (.iload_n 2, 1) := by decide +kernel
theorem dX6_lostMany_5 : decode cX6_lostMany 5 = .ok (.aload_n 0, 1) := by decide +kernel
theorem dX6_lostMany_6 : decode cX6_lostMany 6 = .ok (.getfield 13, 3) := by decide +kernel
theorem dX6_lostMany_9 : decode cX6_lostMany 9 = .ok (.bipush 60, 2) := by decide +kernel
theorem dX6_lostMany_11 : decode cX6_lostMany 11 = .ok (.iaload, 1) := by decide +kernel
theorem dX6_lostMany_12 : decode cX6_lostMany 12 = .ok (.if_icmp .ge 25, 3) := by decide +kernel
theorem dX6_lostMany_15 : decode cX6_lostMany 15 = .ok (.iload_n 1, 1) := by decide +kernel
theorem dX6_lostMany_16 : decode cX6_lostMany 16 = .ok (.aload_n 0, 1) := by decide +kernel
theorem dX6_lostMany_17 : decode cX6_lostMany 17 = .ok (.iload_n 2, 1) := by decide +kernel
theorem dX6_lostMany_18 : decode cX6_lostMany 18 = .ok (.invokevirtual 119, 3) := by decide +kernel
theorem dX6_lostMany_21 : decode cX6_lostMany 21 = .ok (.ifCond .eq 7, 3) := by decide +kernel
theorem dX6_lostMany_24 : decode cX6_lostMany 24 = .ok (.iconst 1, 1) := by decide +kernel
theorem dX6_lostMany_25 : decode cX6_lostMany 25 = .ok (.goto 4, 3) := by decide +kernel
theorem dX6_lostMany_28 : decode cX6_lostMany 28 = .ok (.iconst 0, 1) := by decide +kernel
theorem dX6_lostMany_29 : decode cX6_lostMany 29 = .ok (.iadd, 1) := by decide +kernel
theorem dX6_lostMany_30 : decode cX6_lostMany 30 = .ok (.istore_n 1, 1) := by decide +kernel
theorem dX6_lostMany_31 : decode cX6_lostMany 31 = .ok (.iinc 2 1, 3) := by decide +kernel
theorem dX6_lostMany_34 : decode cX6_lostMany 34 = .ok (.goto (-30), 3) := by decide +kernel
theorem dX6_lostMany_37 : decode cX6_lostMany 37 = .ok (.iload_n 1, 1) := by decide +kernel
theorem dX6_lostMany_38 : decode cX6_lostMany 38 = .ok (.ireturn, 1) := by decide +kernel
set_option maxRecDepth 20000 in
theorem ggX6_stop_X6_isDevice : GoodIn wsX6_stop wsX6_isDevice := goodIn_r _ [7, 8, 9, 10, 6, 11, 34, 35, 36, 37, 38, 39, 40, 41, 42, 43, 44, 45] (by decide +kernel) (by decide +kernel)
set_option maxRecDepth 20000 in
theorem gX6_stop_X6_isDevice : GoodIn wsX6_stop (wsV RX6 87 RX6 yX6_isDevice wsX6_isDevice) := goodIn_app (goodIn_of _ (by decide +kernel)) ggX6_stop_X6_isDevice
set_option maxRecDepth 20000 in
theorem ggX6_stop_X6_in : GoodIn wsX6_stop wsX6_in := goodIn_r _ [11] (by decide +kernel) (by decide +kernel)
set_option maxRecDepth 20000 in
theorem gX6_stop_X6_in : GoodIn wsX6_stop (va_wsS RX6 54 yX6_in wsX6_in) := goodIn_app (goodIn_of _ (by decide +kernel)) ggX6_stop_X6_in
set_option maxRecDepth 20000 in
theorem ggX6_stop_X6_stops : GoodIn wsX6_stop wsX6_stops := goodIn_r _ [15, 8, 16, 17, 18, 6, 19, 20, 21, 22, 23, 24, 2, 25, 26, 27, 28, 29, 30, 31, 32, 33, 34, 35, 36, 37, 38, 39, 40, 41, 42, 43, 44, 45] (by decide +kernel) (by decide +kernel)
set_option maxRecDepth 20000 in
theorem gX6_stop_X6_stops : GoodIn wsX6_stop (wsV RX6 116 RX6 yX6_stops wsX6_stops) := goodIn_app (goodIn_of _ (by decide +kernel)) ggX6_stop_X6_stops
set_option maxRecDepth 20000 in
theorem ggX6_stop_X6_stretch : GoodIn wsX6_stop wsX6_stretch := goodIn_r _ [28, 8, 29, 34, 35, 36, 37, 38, 39, 40, 41, 42, 43, 44, 45] (by decide +kernel) (by decide +kernel)
set_option maxRecDepth 20000 in
theorem gX6_stop_X6_stretch : GoodIn wsX6_stop (wsV RX6 104 RX6 yX6_stretch wsX6_stretch) := goodIn_app (goodIn_of _ (by decide +kernel)) ggX6_stop_X6_stretch
set_option maxRecDepth 20000 in
theorem ggX6_stop_X6_shortIn : GoodIn wsX6_stop wsX6_shortIn := goodIn_r _ [33, 8, 25, 26, 27, 6, 28, 29, 20, 21, 22, 23, 24, 2, 34, 35, 36, 37, 38, 39, 40, 41, 42, 43, 44, 45] (by decide +kernel) (by decide +kernel)
set_option maxRecDepth 20000 in
theorem gX6_stop_X6_shortIn : GoodIn wsX6_stop (wsV RX6 110 RX6 yX6_shortIn wsX6_shortIn) := goodIn_app (goodIn_of _ (by decide +kernel)) ggX6_stop_X6_shortIn
theorem dX6_stop_0 : decode cX6_stop 0 = .ok (.aload_n 0, 1) := by decide +kernel
theorem dX6_stop_1 : decode cX6_stop 1 = .ok (.iload_n 1, 1) := by decide +kernel
theorem dX6_stop_2 : decode cX6_stop 2 = .ok (.invokevirtual 87, 3) := by decide +kernel
theorem dX6_stop_5 : decode cX6_stop 5 = .ok (.ifCond .eq 27, 3) := by decide +kernel
theorem dX6_stop_8 : decode cX6_stop 8 = .ok (.iload_n 2, 1) := by decide +kernel
theorem dX6_stop_9 : decode cX6_stop 9 = .ok (.i2l, 1) := by decide +kernel
theorem dX6_stop_10 : decode cX6_stop 10 = .ok (.lconst 1, 1) := by decide +kernel
theorem dX6_stop_11 : decode cX6_stop 11 = .ok (.ldc2_w 99, 3) := by decide +kernel
theorem dX6_stop_14 : decode cX6_stop 14 = .ok (.invokestatic 54, 3) := by decide +kernel
theorem dX6_stop_17 : decode cX6_stop 17 = .ok (.ifCond .eq 15, 3) := by decide +kernel
theorem dX6_stop_20 : decode cX6_stop 20 = .ok (.iload_n 3, 1) := by decide +kernel
theorem dX6_stop_21 : decode cX6_stop 21 = .ok (.i2l, 1) := by decide +kernel
theorem dX6_stop_22 : decode cX6_stop 22 = .ok (.lconst 0, 1) := by decide +kernel
theorem dX6_stop_23 : decode cX6_stop 23 = .ok (.ldc2_w 99, 3) := by decide +kernel
theorem dX6_stop_26 : decode cX6_stop 26 = .ok (.invokestatic 54, 3) := by decide +kernel
theorem dX6_stop_29 : decode cX6_stop 29 = .ok (.ifCond .ne 5, 3) := by decide +kernel
theorem dX6_stop_32 : decode cX6_stop 32 = .ok (.iconst (-1), 1) := by decide +kernel
theorem dX6_stop_33 : decode cX6_stop 33 = .ok (.ireturn, 1) := by decide +kernel
theorem dX6_stop_34 : decode cX6_stop 34 = .ok (.aload_n 0, 1) := by decide +kernel
theorem dX6_stop_35 : decode cX6_stop 35 = .ok (.iload_n 1, 1) := by decide +kernel
theorem dX6_stop_36 : decode cX6_stop 36 = .ok (.iload_n 2, 1) := by decide +kernel
theorem dX6_stop_37 : decode cX6_stop 37 = .ok (.invokevirtual 116, 3) := by decide +kernel
theorem dX6_stop_40 : decode cX6_stop 40 = .ok (.istore 4, 2) := by decide +kernel
theorem dX6_stop_42 : decode cX6_stop 42 = .ok (.iload 4, 2) := by decide +kernel
theorem dX6_stop_44 : decode cX6_stop 44 = .ok (.bipush (-4), 2) := by decide +kernel
theorem dX6_stop_46 : decode cX6_stop 46 = .ok (.if_icmp .ne 14, 3) := by decide +kernel
theorem dX6_stop_49 : decode cX6_stop 49 = .ok (.iload_n 3, 1) := by decide +kernel
theorem dX6_stop_50 : decode cX6_stop 50 = .ok (.ifCond .ne 7, 3) := by decide +kernel
theorem dX6_stop_53 : decode cX6_stop 53 = .ok (.iconst 0, 1) := by decide +kernel
theorem dX6_stop_54 : decode cX6_stop 54 = .ok (.goto 5, 3) := by decide +kernel
theorem dX6_stop_57 : decode cX6_stop 57 = .ok (.bipush (-4), 2) := by decide +kernel
theorem dX6_stop_59 : decode cX6_stop 59 = .ok (.ireturn, 1) := by decide +kernel
theorem dX6_stop_60 : decode cX6_stop 60 = .ok (.iload_n 3, 1) := by decide +kernel
theorem dX6_stop_61 : decode cX6_stop 61 = .ok (.ifCond .ne 25, 3) := by decide +kernel
theorem dX6_stop_64 : decode cX6_stop 64 = .ok (.aload_n 0, 1) := by decide +kernel
theorem dX6_stop_65 : decode cX6_stop 65 = .ok (.getfield 19, 3) := by decide +kernel
theorem dX6_stop_68 : decode cX6_stop 68 = .ok (.bipush 48, 2) := by decide +kernel
theorem dX6_stop_70 : decode cX6_stop 70 = .ok (.iload 4, 2) := by decide +kernel
theorem dX6_stop_72 : decode cX6_stop 72 = .ok (.iadd, 1) := by decide +kernel
theorem dX6_stop_73 : decode cX6_stop 73 = .ok (.iaload, 1) := by decide +kernel
theorem dX6_stop_74 : decode cX6_stop 74 = .ok (.iconst 1, 1) := by decide +kernel
theorem dX6_stop_75 : decode cX6_stop 75 = .ok (.if_icmp .ne 7, 3) := by decide +kernel
theorem dX6_stop_78 : decode cX6_stop 78 = .ok (.iconst 1, 1) := by decide +kernel
theorem dX6_stop_79 : decode cX6_stop 79 = .ok (.goto 27, 3) := by decide +kernel
theorem dX6_stop_82 : decode cX6_stop 82 = .ok (.iconst 2, 1) := by decide +kernel
theorem dX6_stop_83 : decode cX6_stop 83 = .ok (.goto 23, 3) := by decide +kernel
theorem dX6_stop_86 : decode cX6_stop 86 = .ok (.iload_n 3, 1) := by decide +kernel
theorem dX6_stop_87 : decode cX6_stop 87 = .ok (.iconst 1, 1) := by decide +kernel
theorem dX6_stop_88 : decode cX6_stop 88 = .ok (.if_icmp .ne 8, 3) := by decide +kernel
theorem dX6_stop_91 : decode cX6_stop 91 = .ok (.iload 4, 2) := by decide +kernel
theorem dX6_stop_93 : decode cX6_stop 93 = .ok (.goto 13, 3) := by decide +kernel
theorem dX6_stop_96 : decode cX6_stop 96 = .ok (.aload_n 0, 1) := by decide +kernel
theorem dX6_stop_97 : decode cX6_stop 97 = .ok (.aload_n 0, 1) := by decide +kernel
theorem dX6_stop_98 : decode cX6_stop 98 = .ok (.iload 4, 2) := by decide +kernel
theorem dX6_stop_100 : decode cX6_stop 100 = .ok (.invokevirtual 104, 3) := by decide +kernel
theorem dX6_stop_103 : decode cX6_stop 103 = .ok (.invokevirtual 110, 3) := by decide +kernel
theorem dX6_stop_106 : decode cX6_stop 106 = .ok (.ireturn, 1) := by decide +kernel
set_option maxRecDepth 20000 in
theorem ggX6_lostBy_X6_lostMany : GoodIn wsX6_lostBy wsX6_lostMany := goodIn_r _ [6, 7, 8, 9, 10, 5, 11, 12, 13, 14, 15, 16, 17, 18, 19, 20, 21, 22, 23, 1, 24, 25, 26, 27, 28, 29, 30, 31, 32, 33, 34, 35, 36, 37, 38, 39, 40, 41, 42, 43, 44, 45] (by decide +kernel) (by decide +kernel)
set_option maxRecDepth 20000 in
theorem gX6_lostBy_X6_lostMany : GoodIn wsX6_lostBy (wsV RX6 122 RX6 yX6_lostMany wsX6_lostMany) := goodIn_app (goodIn_of _ (by decide +kernel)) ggX6_lostBy_X6_lostMany
theorem dX6_lostBy_0 : decode cX6_lostBy 0 = .ok (.aload_n 0, 1) := by decide +kernel
theorem dX6_lostBy_1 : decode cX6_lostBy 1 = .ok (.iload_n 1, 1) := by decide +kernel
theorem dX6_lostBy_2 : decode cX6_lostBy 2 = .ok (.putfield 25, 3) := by decide +kernel
theorem dX6_lostBy_5 : decode cX6_lostBy 5 = .ok (.aload_n 0, 1) := by decide +kernel
theorem dX6_lostBy_6 : decode cX6_lostBy 6 = .ok (.invokevirtual 122, 3) := by decide +kernel
theorem dX6_lostBy_9 : decode cX6_lostBy 9 = .ok (.istore_n 2, 1) := by decide +kernel
theorem dX6_lostBy_10 : decode cX6_lostBy 10 = .ok (.aload_n 0, 1) := by decide +kernel
theorem dX6_lostBy_11 : decode cX6_lostBy 11 = .ok (.iconst (-1), 1) := by decide +kernel
theorem dX6_lostBy_12 : decode cX6_lostBy 12 = .ok (.putfield 25, 3) := by decide +kernel
theorem dX6_lostBy_15 : decode cX6_lostBy 15 = .ok (.iload_n 2, 1) := by decide +kernel
theorem dX6_lostBy_16 : decode cX6_lostBy 16 = .ok (.ireturn, 1) := by decide +kernel
set_option maxRecDepth 20000 in
theorem ggX6_wireOf_X6_isWire : GoodIn wsX6_wireOf wsX6_isWire := goodIn_r _ [7, 8, 9, 10, 6, 11, 46, 47, 48, 49, 50, 51, 52, 53, 54, 55, 56, 57] (by decide +kernel) (by decide +kernel)
set_option maxRecDepth 20000 in
theorem gX6_wireOf_X6_isWire : GoodIn wsX6_wireOf (wsV RX6 96 RX6 yX6_isWire wsX6_isWire) := goodIn_app (goodIn_of _ (by decide +kernel)) ggX6_wireOf_X6_isWire
set_option maxRecDepth 20000 in
theorem ggX6_wireOf_X6_in : GoodIn wsX6_wireOf wsX6_in := goodIn_r _ [11] (by decide +kernel) (by decide +kernel)
set_option maxRecDepth 20000 in
theorem gX6_wireOf_X6_in : GoodIn wsX6_wireOf (va_wsS RX6 54 yX6_in wsX6_in) := goodIn_app (goodIn_of _ (by decide +kernel)) ggX6_wireOf_X6_in
set_option maxRecDepth 20000 in
theorem ggX6_wireOf_X6_stretch : GoodIn wsX6_wireOf wsX6_stretch := goodIn_r _ [15, 8, 16, 46, 47, 48, 49, 50, 51, 52, 53, 54, 55, 56, 57] (by decide +kernel) (by decide +kernel)
set_option maxRecDepth 20000 in
theorem gX6_wireOf_X6_stretch : GoodIn wsX6_wireOf (wsV RX6 104 RX6 yX6_stretch wsX6_stretch) := goodIn_app (goodIn_of _ (by decide +kernel)) ggX6_wireOf_X6_stretch
set_option maxRecDepth 20000 in
theorem ggX6_wireOf_X6_lostBy : GoodIn wsX6_wireOf wsX6_lostBy := goodIn_r _ [20, 21, 22, 23, 24, 6, 25, 8, 26, 27, 28, 29, 30, 31, 32, 33, 34, 35, 36, 37, 38, 39, 40, 41, 2, 12, 13, 14, 15, 16, 42, 43, 44, 45, 46, 47, 48, 49, 50, 51, 52, 53, 54, 55, 56, 57] (by decide +kernel) (by decide +kernel)
set_option maxRecDepth 20000 in
theorem gX6_wireOf_X6_lostBy : GoodIn wsX6_wireOf (wsV RX6 125 RX6 yX6_lostBy wsX6_lostBy) := goodIn_app (goodIn_of _ (by decide +kernel)) ggX6_wireOf_X6_lostBy
theorem dX6_wireOf_0 : decode cX6_wireOf 0 = .ok (.aload_n 0, 1) := by decide +kernel
theorem dX6_wireOf_1 : decode cX6_wireOf 1 = .ok (.iload_n 1, 1) := by decide +kernel
theorem dX6_wireOf_2 : decode cX6_wireOf 2 = .ok (.invokevirtual 96, 3) := by decide +kernel
theorem dX6_wireOf_5 : decode cX6_wireOf 5 = .ok (.ifCond .eq 15, 3) := by decide +kernel
theorem dX6_wireOf_8 : decode cX6_wireOf 8 = .ok (.iload_n 2, 1) := by decide +kernel
theorem dX6_wireOf_9 : decode cX6_wireOf 9 = .ok (.i2l, 1) := by decide +kernel
theorem dX6_wireOf_10 : decode cX6_wireOf 10 = .ok (.lconst 0, 1) := by decide +kernel
theorem dX6_wireOf_11 : decode cX6_wireOf 11 = .ok (.ldc2_w 99, 3) := by decide +kernel
theorem dX6_wireOf_14 : decode cX6_wireOf 14 = .ok (.invokestatic 54, 3) := by decide +kernel
theorem dX6_wireOf_17 : decode cX6_wireOf 17 = .ok (.ifCond .ne 5, 3) := by decide +kernel
theorem dX6_wireOf_20 : decode cX6_wireOf 20 = .ok (.iconst (-1), 1) := by decide +kernel
theorem dX6_wireOf_21 : decode cX6_wireOf 21 = .ok (.ireturn, 1) := by decide +kernel
theorem dX6_wireOf_22 : decode cX6_wireOf 22 = .ok (.iload_n 2, 1) := by decide +kernel
theorem dX6_wireOf_23 : decode cX6_wireOf 23 = .ok (.ifCond .ne 15, 3) := by decide +kernel
theorem dX6_wireOf_26 : decode cX6_wireOf 26 = .ok (.aload_n 0, 1) := by decide +kernel
theorem dX6_wireOf_27 : decode cX6_wireOf 27 = .ok (.getfield 19, 3) := by decide +kernel
theorem dX6_wireOf_30 : decode cX6_wireOf 30 = .ok (.bipush 48, 2) := by decide +kernel
theorem dX6_wireOf_32 : decode cX6_wireOf 32 = .ok (.iload_n 1, 1) := by decide +kernel
theorem dX6_wireOf_33 : decode cX6_wireOf 33 = .ok (.iadd, 1) := by decide +kernel
theorem dX6_wireOf_34 : decode cX6_wireOf 34 = .ok (.iaload, 1) := by decide +kernel
theorem dX6_wireOf_35 : decode cX6_wireOf 35 = .ok (.goto 21, 3) := by decide +kernel
theorem dX6_wireOf_38 : decode cX6_wireOf 38 = .ok (.iload_n 2, 1) := by decide +kernel
theorem dX6_wireOf_39 : decode cX6_wireOf 39 = .ok (.iconst 1, 1) := by decide +kernel
theorem dX6_wireOf_40 : decode cX6_wireOf 40 = .ok (.if_icmp .ne 11, 3) := by decide +kernel
theorem dX6_wireOf_43 : decode cX6_wireOf 43 = .ok (.aload_n 0, 1) := by decide +kernel
theorem dX6_wireOf_44 : decode cX6_wireOf 44 = .ok (.iload_n 1, 1) := by decide +kernel
theorem dX6_wireOf_45 : decode cX6_wireOf 45 = .ok (.invokevirtual 104, 3) := by decide +kernel
theorem dX6_wireOf_48 : decode cX6_wireOf 48 = .ok (.goto 8, 3) := by decide +kernel
theorem dX6_wireOf_51 : decode cX6_wireOf 51 = .ok (.aload_n 0, 1) := by decide +kernel
theorem dX6_wireOf_52 : decode cX6_wireOf 52 = .ok (.iload_n 1, 1) := by decide +kernel
theorem dX6_wireOf_53 : decode cX6_wireOf 53 = .ok (.invokevirtual 125, 3) := by decide +kernel
theorem dX6_wireOf_56 : decode cX6_wireOf 56 = .ok (.ireturn, 1) := by decide +kernel
set_option maxRecDepth 20000 in
theorem ggX6_worsts_X6_lostBy : GoodIn wsX6_worsts wsX6_lostBy := goodIn_r _ [9, 10, 11, 12, 13, 8, 14, 3, 15, 16, 17, 18, 19, 20, 21, 22, 23, 24, 25, 26, 27, 28, 29, 30, 4, 31, 32, 33, 34, 35, 36, 37, 38, 39, 40, 41, 42, 43, 44, 45, 46, 47, 48, 49, 50, 51] (by decide +kernel) (by decide +kernel)
set_option maxRecDepth 20000 in
theorem gX6_worsts_X6_lostBy : GoodIn wsX6_worsts (wsV RX6 125 RX6 yX6_lostBy wsX6_lostBy) := goodIn_app (goodIn_of _ (by decide +kernel)) ggX6_worsts_X6_lostBy
theorem dX6_worsts_0 : decode cX6_worsts 0 = .ok (.aload_n 0, 1) := by decide +kernel
theorem dX6_worsts_1 : decode cX6_worsts 1 = .ok (.bipush (-4), 2) := by decide +kernel
theorem dX6_worsts_3 : decode cX6_worsts 3 = .ok (.putfield 128, 3) := by decide +kernel
theorem dX6_worsts_6 : decode cX6_worsts 6 = .ok (.aload_n 0, 1) := by decide +kernel
theorem dX6_worsts_7 : decode cX6_worsts 7 = .ok (.iconst (-1), 1) := by decide +kernel
theorem dX6_worsts_8 : decode cX6_worsts 8 = .ok (.putfield 131, 3) := by decide +kernel
theorem dX6_worsts_11 : decode cX6_worsts 11 = .ok (.iconst 0, 1) := by decide +kernel
theorem dX6_worsts_12 : decode cX6_worsts 12 = .ok (.istore_n 1, 1) := by decide +kernel
theorem dX6_worsts_13 : decode cX6_worsts 13 = .ok (.iload_n 1, 1) := by decide +kernel
theorem dX6_worsts_14 : decode cX6_worsts 14 = .ok (.aload_n 0, 1) := by decide +kernel
theorem dX6_worsts_15 : decode cX6_worsts 15 = .ok (.getfield 13, 3) := by decide +kernel
theorem dX6_worsts_18 : decode cX6_worsts 18 = .ok (.bipush 60, 2) := by decide +kernel
theorem dX6_worsts_20 : decode cX6_worsts 20 = .ok (.iaload, 1) := by decide +kernel
theorem dX6_worsts_21 : decode cX6_worsts 21 = .ok (.if_icmp .gt 67, 3) := by decide +kernel
theorem dX6_worsts_24 : decode cX6_worsts 24 = .ok (.aload_n 0, 1) := by decide +kernel
theorem dX6_worsts_25 : decode cX6_worsts 25 = .ok (.getfield 19, 3) := by decide +kernel
theorem dX6_worsts_28 : decode cX6_worsts 28 = .ok (.bipush 48, 2) := by decide +kernel
theorem dX6_worsts_30 : decode cX6_worsts 30 = .ok (.iload_n 1, 1) := by decide +kernel
theorem dX6_worsts_31 : decode cX6_worsts 31 = .ok (.iadd, 1) := by decide +kernel
theorem dX6_worsts_32 : decode cX6_worsts 32 = .ok (.iaload, 1) := by decide +kernel
theorem dX6_worsts_33 : decode cX6_worsts 33 = .ok (.ifCond .ne 49, 3) := by decide +kernel
theorem dX6_worsts_36 : decode cX6_worsts 36 = .ok (.aload_n 0, 1) := by decide +kernel
theorem dX6_worsts_37 : decode cX6_worsts 37 = .ok (.iload_n 1, 1) := by decide +kernel
theorem dX6_worsts_38 : decode cX6_worsts 38 = .ok (.invokevirtual 125, 3) := by decide +kernel
theorem dX6_worsts_41 : decode cX6_worsts 41 = .ok (.istore_n 2, 1) := by decide +kernel
theorem dX6_worsts_42 : decode cX6_worsts 42 = .ok (.aload_n 0, 1) := by decide +kernel
theorem dX6_worsts_43 : decode cX6_worsts 43 = .ok (.iload_n 2, 1) := by decide +kernel
theorem dX6_worsts_44 : decode cX6_worsts 44 = .ok (.aload_n 0, 1) := by decide +kernel
theorem dX6_worsts_45 : decode cX6_worsts 45 = .ok (.getfield 131, 3) := by decide +kernel
theorem dX6_worsts_48 : decode cX6_worsts 48 = .ok (.if_icmp .le 7, 3) := by decide +kernel
theorem dX6_worsts_51 : decode cX6_worsts 51 = .ok (.iload_n 1, 1) := by decide +kernel
theorem dX6_worsts_52 : decode cX6_worsts 52 = .ok (.goto 7, 3) := by decide +kernel
theorem dX6_worsts_55 : decode cX6_worsts 55 = .ok (.aload_n 0, 1) := by decide +kernel
theorem dX6_worsts_56 : decode cX6_worsts 56 = .ok (.getfield 128, 3) := by decide +kernel
theorem dX6_worsts_59 : decode cX6_worsts 59 = .ok (.putfield 128, 3) := by decide +kernel
theorem dX6_worsts_62 : decode cX6_worsts 62 = .ok (.aload_n 0, 1) := by decide +kernel
theorem dX6_worsts_63 : decode cX6_worsts 63 = .ok (.iload_n 2, 1) := by decide +kernel
theorem dX6_worsts_64 : decode cX6_worsts 64 = .ok (.aload_n 0, 1) := by decide +kernel
theorem dX6_worsts_65 : decode cX6_worsts 65 = .ok (.getfield 131, 3) := by decide +kernel
theorem dX6_worsts_68 : decode cX6_worsts 68 = .ok (.if_icmp .le 7, 3) := by decide +kernel
theorem dX6_worsts_71 : decode cX6_worsts 71 = .ok (.iload_n 2, 1) := by decide +kernel
theorem dX6_worsts_72 : decode cX6_worsts 72 = .ok (.goto 7, 3) := by decide +kernel
theorem dX6_worsts_75 : decode cX6_worsts 75 = .ok (.aload_n 0, 1) := by decide +kernel
theorem dX6_worsts_76 : decode cX6_worsts 76 = .ok (.getfield 131, 3) := by decide +kernel
theorem dX6_worsts_79 : decode cX6_worsts 79 = .ok (.putfield 131, 3) := by decide +kernel
theorem dX6_worsts_82 : decode cX6_worsts 82 = .ok (.iinc 1 1, 3) := by decide +kernel
theorem dX6_worsts_85 : decode cX6_worsts 85 = .ok (.goto (-72), 3) := by decide +kernel
theorem dX6_worsts_88 : decode cX6_worsts 88 = .ok (.return_, 1) := by decide +kernel
set_option maxRecDepth 20000 in
theorem ggX6_worst_X6_in : GoodIn wsX6_worst wsX6_in := goodIn_r _ [6] (by decide +kernel) (by decide +kernel)
set_option maxRecDepth 20000 in
theorem gX6_worst_X6_in : GoodIn wsX6_worst (va_wsS RX6 54 yX6_in wsX6_in) := goodIn_app (goodIn_of _ (by decide +kernel)) ggX6_worst_X6_in
set_option maxRecDepth 20000 in
theorem ggX6_worst_X6_worsts : GoodIn wsX6_worst wsX6_worsts := goodIn_r _ [10, 1, 2, 11, 12, 13, 14, 15, 5, 16, 17, 18, 19, 20, 21, 22, 23, 24, 25, 26, 27, 28, 29, 30, 31, 32, 33, 34, 35, 36, 37, 38, 39, 40, 41, 42, 43, 44, 45, 46, 47, 48, 49, 50, 51, 52, 53, 54, 55, 56, 57, 58] (by decide +kernel) (by decide +kernel)
set_option maxRecDepth 20000 in
theorem gX6_worst_X6_worsts : GoodIn wsX6_worst (wsV RX6 134 RX6 yX6_worsts wsX6_worsts) := goodIn_app (goodIn_of _ (by decide +kernel)) ggX6_worst_X6_worsts
theorem dX6_worst_0 : decode cX6_worst 0 = .ok (.iload_n 1, 1) := by decide +kernel
theorem dX6_worst_1 : decode cX6_worst 1 = .ok (.i2l, 1) := by decide +kernel
theorem dX6_worst_2 : decode cX6_worst 2 = .ok (.lconst 0, 1) := by decide +kernel
theorem dX6_worst_3 : decode cX6_worst 3 = .ok (.lconst 1, 1) := by decide +kernel
theorem dX6_worst_4 : decode cX6_worst 4 = .ok (.invokestatic 54, 3) := by decide +kernel
theorem dX6_worst_7 : decode cX6_worst 7 = .ok (.ifCond .ne 5, 3) := by decide +kernel
theorem dX6_worst_10 : decode cX6_worst 10 = .ok (.iconst (-1), 1) := by decide +kernel
theorem dX6_worst_11 : decode cX6_worst 11 = .ok (.ireturn, 1) := by decide +kernel
theorem dX6_worst_12 : decode cX6_worst 12 = .ok (.aload_n 0, 1) := by decide +kernel
theorem dX6_worst_13 : decode cX6_worst 13 = .ok (.invokevirtual 134, 3) := by decide +kernel
theorem dX6_worst_16 : decode cX6_worst 16 = .ok (.aload_n 0, 1) := by decide +kernel
theorem dX6_worst_17 : decode cX6_worst 17 = .ok (.getfield 128, 3) := by decide +kernel
theorem dX6_worst_20 : decode cX6_worst 20 = .ok (.bipush (-4), 2) := by decide +kernel
theorem dX6_worst_22 : decode cX6_worst 22 = .ok (.if_icmp .ne 8, 3) := by decide +kernel
theorem dX6_worst_25 : decode cX6_worst 25 = .ok (.bipush (-4), 2) := by decide +kernel
theorem dX6_worst_27 : decode cX6_worst 27 = .ok (.goto 18, 3) := by decide +kernel
theorem dX6_worst_30 : decode cX6_worst 30 = .ok (.iload_n 1, 1) := by decide +kernel
theorem dX6_worst_31 : decode cX6_worst 31 = .ok (.ifCond .ne 10, 3) := by decide +kernel
theorem dX6_worst_34 : decode cX6_worst 34 = .ok (.aload_n 0, 1) := by decide +kernel
theorem dX6_worst_35 : decode cX6_worst 35 = .ok (.getfield 128, 3) := by decide +kernel
theorem dX6_worst_38 : decode cX6_worst 38 = .ok (.goto 7, 3) := by decide +kernel
theorem dX6_worst_41 : decode cX6_worst 41 = .ok (.aload_n 0, 1) := by decide +kernel
theorem dX6_worst_42 : decode cX6_worst 42 = .ok (.getfield 131, 3) := by decide +kernel
theorem dX6_worst_45 : decode cX6_worst 45 = .ok (.ireturn, 1) := by decide +kernel
set_option maxRecDepth 20000 in
theorem ggX6_help_X6_in : GoodIn wsX6_help wsX6_in := goodIn_r _ [8] (by decide +kernel) (by decide +kernel)
set_option maxRecDepth 20000 in
theorem gX6_help_X6_in : GoodIn wsX6_help (va_wsS RX6 54 yX6_in wsX6_in) := goodIn_app (goodIn_of _ (by decide +kernel)) ggX6_help_X6_in
set_option maxRecDepth 20000 in
theorem ggX6_help_X6_worsts : GoodIn wsX6_help wsX6_worsts := goodIn_r _ [12, 3, 4, 1, 13, 14, 15, 16, 7, 17, 18, 19, 20, 21, 22, 23, 24, 25, 26, 27, 28, 29, 30, 31, 32, 33, 34, 35, 36, 37, 38, 39, 40, 41, 42, 2, 43, 44, 45, 46, 47, 48, 49, 50, 51, 52, 53, 54, 55, 56, 57, 58] (by decide +kernel) (by decide +kernel)
set_option maxRecDepth 20000 in
theorem gX6_help_X6_worsts : GoodIn wsX6_help (wsV RX6 134 RX6 yX6_worsts wsX6_worsts) := goodIn_app (goodIn_of _ (by decide +kernel)) ggX6_help_X6_worsts
theorem dX6_help_0 : decode cX6_help 0 = .ok (.iload_n 1, 1) := by decide +kernel
theorem dX6_help_1 : decode cX6_help 1 = .ok (.i2l, 1) := by decide +kernel
theorem dX6_help_2 : decode cX6_help 2 = .ok (.lconst 0, 1) := by decide +kernel
theorem dX6_help_3 : decode cX6_help 3 = .ok (.lconst 1, 1) := by decide +kernel
theorem dX6_help_4 : decode cX6_help 4 = .ok (.invokestatic 54, 3) := by decide +kernel
theorem dX6_help_7 : decode cX6_help 7 = .ok (.ifCond .ne 5, 3) := by decide +kernel
theorem dX6_help_10 : decode cX6_help 10 = .ok (.iconst (-1), 1) := by decide +kernel
theorem dX6_help_11 : decode cX6_help 11 = .ok (.ireturn, 1) := by decide +kernel
theorem dX6_help_12 : decode cX6_help 12 = .ok (.bipush (-4), 2) := by decide +kernel
theorem dX6_help_14 : decode cX6_help 14 = .ok (.istore_n 2, 1) := by decide +kernel
theorem dX6_help_15 : decode cX6_help 15 = .ok (.bipush 100, 2) := by decide +kernel
theorem dX6_help_17 : decode cX6_help 17 = .ok (.istore_n 3, 1) := by decide +kernel
theorem dX6_help_18 : decode cX6_help 18 = .ok (.iconst 0, 1) := by decide +kernel
theorem dX6_help_19 : decode cX6_help 19 = .ok (.istore 4, 2) := by decide +kernel
theorem dX6_help_21 : decode cX6_help 21 = .ok (.iload 4, 2) := by decide +kernel
theorem dX6_help_23 : decode cX6_help 23 = .ok (.aload_n 0, 1) := by decide +kernel
theorem dX6_help_24 : decode cX6_help 24 = .ok (.getfield 13, 3) := by decide +kernel
theorem dX6_help_27 : decode cX6_help 27 = .ok (.bipush 60, 2) := by decide +kernel
theorem dX6_help_29 : decode cX6_help 29 = .ok (.iaload, 1) := by decide +kernel
theorem dX6_help_30 : decode cX6_help 30 = .ok (.if_icmp .ge 88, 3) := by decide +kernel
theorem dX6_help_33 : decode cX6_help 33 = .ok (.aload_n 0, 1) := by decide +kernel
theorem dX6_help_34 : decode cX6_help 34 = .ok (.getfield 13, 3) := by decide +kernel
theorem dX6_help_37 : decode cX6_help 37 = .ok (.iconst 3, 1) := by decide +kernel
theorem dX6_help_38 : decode cX6_help 38 = .ok (.iload 4, 2) := by decide +kernel
theorem dX6_help_40 : decode cX6_help 40 = .ok (.imul, 1) := by decide +kernel
theorem dX6_help_41 : decode cX6_help 41 = .ok (.iconst 2, 1) := by decide +kernel
theorem dX6_help_42 : decode cX6_help 42 = .ok (.iadd, 1) := by decide +kernel
theorem dX6_help_43 : decode cX6_help 43 = .ok (.iaload, 1) := by decide +kernel
theorem dX6_help_44 : decode cX6_help 44 = .ok (.ifCond .ne 68, 3) := by decide +kernel
theorem dX6_help_47 : decode cX6_help 47 = .ok (.aload_n 0, 1) := by decide +kernel
theorem dX6_help_48 : decode cX6_help 48 = .ok (.iload 4, 2) := by decide +kernel
theorem dX6_help_50 : decode cX6_help 50 = .ok (.putfield 29, 3) := by decide +kernel
theorem dX6_help_53 : decode cX6_help 53 = .ok (.aload_n 0, 1) := by decide +kernel
theorem dX6_help_54 : decode cX6_help 54 = .ok (.invokevirtual 134, 3) := by decide +kernel
theorem dX6_help_57 : decode cX6_help 57 = .ok (.aload_n 0, 1) := by decide +kernel
theorem dX6_help_58 : decode cX6_help 58 = .ok (.iconst (-1), 1) := by decide +kernel
theorem dX6_help_59 : decode cX6_help 59 = .ok (.putfield 29, 3) := by decide +kernel
theorem dX6_help_62 : decode cX6_help 62 = .ok (.aload_n 0, 1) := by decide +kernel
theorem dX6_help_63 : decode cX6_help 63 = .ok (.getfield 128, 3) := by decide +kernel
theorem dX6_help_66 : decode cX6_help 66 = .ok (.bipush (-4), 2) := by decide +kernel
theorem dX6_help_68 : decode cX6_help 68 = .ok (.if_icmp .eq 15, 3) := by decide +kernel
theorem dX6_help_71 : decode cX6_help 71 = .ok (.aload_n 0, 1) := by decide +kernel
theorem dX6_help_72 : decode cX6_help 72 = .ok (.getfield 131, 3) := by decide +kernel
theorem dX6_help_75 : decode cX6_help 75 = .ok (.iload_n 3, 1) := by decide +kernel
theorem dX6_help_76 : decode cX6_help 76 = .ok (.if_icmp .ge 7, 3) := by decide +kernel
theorem dX6_help_79 : decode cX6_help 79 = .ok (.iconst 1, 1) := by decide +kernel
theorem dX6_help_80 : decode cX6_help 80 = .ok (.goto 4, 3) := by decide +kernel
theorem dX6_help_83 : decode cX6_help 83 = .ok (.iconst 0, 1) := by decide +kernel
theorem dX6_help_84 : decode cX6_help 84 = .ok (.istore 5, 2) := by decide +kernel
theorem dX6_help_86 : decode cX6_help 86 = .ok (.iload 5, 2) := by decide +kernel
theorem dX6_help_88 : decode cX6_help 88 = .ok (.ifCond .eq 8, 3) := by decide +kernel
theorem dX6_help_91 : decode cX6_help 91 = .ok (.iload 4, 2) := by decide +kernel
theorem dX6_help_93 : decode cX6_help 93 = .ok (.goto 4, 3) := by decide +kernel
theorem dX6_help_96 : decode cX6_help 96 = .ok (.iload_n 2, 1) := by decide +kernel
theorem dX6_help_97 : decode cX6_help 97 = .ok (.istore_n 2, 1) := by decide +kernel
theorem dX6_help_98 : decode cX6_help 98 = .ok (.iload 5, 2) := by decide +kernel
theorem dX6_help_100 : decode cX6_help 100 = .ok (.ifCond .eq 10, 3) := by decide +kernel
theorem dX6_help_103 : decode cX6_help 103 = .ok (.aload_n 0, 1) := by decide +kernel
theorem dX6_help_104 : decode cX6_help 104 = .ok (.getfield 131, 3) := by decide +kernel
theorem dX6_help_107 : decode cX6_help 107 = .ok (.goto 4, 3) := by decide +kernel
theorem dX6_help_110 : decode cX6_help 110 = .ok (.iload_n 3, 1) := by decide +kernel
theorem dX6_help_111 : decode cX6_help 111 = .ok (.istore_n 3, 1) := by decide +kernel
theorem dX6_help_112 : decode cX6_help 112 = .ok (.iinc 4 1, 3) := by decide +kernel
theorem dX6_help_115 : decode cX6_help 115 = .ok (.goto (-94), 3) := by decide +kernel
theorem dX6_help_118 : decode cX6_help 118 = .ok (.iload_n 2, 1) := by decide +kernel
theorem dX6_help_119 : decode cX6_help 119 = .ok (.bipush (-4), 2) := by decide +kernel
theorem dX6_help_121 : decode cX6_help 121 = .ok (.if_icmp .ne 8, 3) := by decide +kernel
theorem dX6_help_124 : decode cX6_help 124 = .ok (.bipush (-4), 2) := by decide +kernel
theorem dX6_help_126 : decode cX6_help 126 = .ok (.goto 12, 3) := by decide +kernel
theorem dX6_help_129 : decode cX6_help 129 = .ok (.iload_n 1, 1) := by decide +kernel
theorem dX6_help_130 : decode cX6_help 130 = .ok (.ifCond .ne 7, 3) := by decide +kernel
theorem dX6_help_133 : decode cX6_help 133 = .ok (.iload_n 2, 1) := by decide +kernel
theorem dX6_help_134 : decode cX6_help 134 = .ok (.goto 4, 3) := by decide +kernel
theorem dX6_help_137 : decode cX6_help 137 = .ok (.iload_n 3, 1) := by decide +kernel
theorem dX6_help_138 : decode cX6_help 138 = .ok (.ireturn, 1) := by decide +kernel
theorem dX6_value_0 : decode cX6_value 0 = .ok (.aload_n 0, 1) := by decide +kernel
theorem dX6_value_1 : decode cX6_value 1 = .ok (.getfield 19, 3) := by decide +kernel
theorem dX6_value_4 : decode cX6_value 4 = .ok (.iconst 0, 1) := by decide +kernel
theorem dX6_value_5 : decode cX6_value 5 = .ok (.iload_n 1, 1) := by decide +kernel
theorem dX6_value_6 : decode cX6_value 6 = .ok (.iadd, 1) := by decide +kernel
theorem dX6_value_7 : decode cX6_value 7 = .ok (.iaload, 1) := by decide +kernel
theorem dX6_value_8 : decode cX6_value 8 = .ok (.aload_n 0, 1) := by decide +kernel
theorem dX6_value_9 : decode cX6_value 9 = .ok (.getfield 19, 3) := by decide +kernel
theorem dX6_value_12 : decode cX6_value 12 = .ok (.bipush 12, 2) := by decide +kernel
theorem dX6_value_14 : decode cX6_value 14 = .ok (.iload_n 1, 1) := by decide +kernel
theorem dX6_value_15 : decode cX6_value 15 = .ok (.iadd, 1) := by decide +kernel
theorem dX6_value_16 : decode cX6_value 16 = .ok (.iaload, 1) := by decide +kernel
theorem dX6_value_17 : decode cX6_value 17 = .ok (.isub, 1) := by decide +kernel
theorem dX6_value_18 : decode cX6_value 18 = .ok (.istore_n 2, 1) := by decide +kernel
theorem dX6_value_19 : decode cX6_value 19 = .ok (.iload_n 2, 1) := by decide +kernel
theorem dX6_value_20 : decode cX6_value 20 = .ok (.ifCond .ge 7, 3) := by decide +kernel
theorem dX6_value_23 : decode cX6_value 23 = .ok (.iconst 0, 1) := by decide +kernel
theorem dX6_value_24 : decode cX6_value 24 = .ok (.goto 4, 3) := by decide +kernel
theorem dX6_value_27 : decode cX6_value 27 = .ok (.iload_n 2, 1) := by decide +kernel
theorem dX6_value_28 : decode cX6_value 28 = .ok (.ireturn, 1) := by decide +kernel
theorem dX6_isSensor_0 : decode cX6_isSensor 0 = .ok (.aload_n 0, 1) := by decide +kernel
theorem dX6_isSensor_1 : decode cX6_isSensor 1 = .ok (.getfield 13, 3) := by decide +kernel
theorem dX6_isSensor_4 : decode cX6_isSensor 4 = .ok (.iconst 3, 1) := by decide +kernel
theorem dX6_isSensor_5 : decode cX6_isSensor 5 = .ok (.iload_n 1, 1) := by decide +kernel
theorem dX6_isSensor_6 : decode cX6_isSensor 6 = .ok (.imul, 1) := by decide +kernel
theorem dX6_isSensor_7 : decode cX6_isSensor 7 = .ok (.iaload, 1) := by decide +kernel
theorem dX6_isSensor_8 : decode cX6_isSensor 8 = .ok (.iconst 2, 1) := by decide +kernel
theorem dX6_isSensor_9 : decode cX6_isSensor 9 = .ok (.if_icmp .ge 7, 3) := by decide +kernel
theorem dX6_isSensor_12 : decode cX6_isSensor 12 = .ok (.iconst 1, 1) := by decide +kernel
theorem dX6_isSensor_13 : decode cX6_isSensor 13 = .ok (.goto 4, 3) := by decide +kernel
theorem dX6_isSensor_16 : decode cX6_isSensor 16 = .ok (.iconst 0, 1) := by decide +kernel
theorem dX6_isSensor_17 : decode cX6_isSensor 17 = .ok (.ireturn, 1) := by decide +kernel
theorem dX6_isZone_0 : decode cX6_isZone 0 = .ok (.iconst 0, 1) := by decide +kernel
theorem dX6_isZone_1 : decode cX6_isZone 1 = .ok (.istore_n 2, 1) := by decide +kernel
theorem dX6_isZone_2 : decode cX6_isZone 2 = .ok (.iload_n 2, 1) := by decide +kernel
theorem dX6_isZone_3 : decode cX6_isZone 3 = .ok (.aload_n 0, 1) := by decide +kernel
theorem dX6_isZone_4 : decode cX6_isZone 4 = .ok (.getfield 13, 3) := by decide +kernel
theorem dX6_isZone_7 : decode cX6_isZone 7 = .ok (.bipush 60, 2) := by decide +kernel
theorem dX6_isZone_9 : decode cX6_isZone 9 = .ok (.iaload, 1) := by decide +kernel
theorem dX6_isZone_10 : decode cX6_isZone 10 = .ok (.if_icmp .ge 38, 3) := by decide +kernel
theorem dX6_isZone_13 : decode cX6_isZone 13 = .ok (.aload_n 0, 1) := by decide +kernel
theorem dX6_isZone_14 : decode cX6_isZone 14 = .ok (.getfield 13, 3) := by decide +kernel
theorem dX6_isZone_17 : decode cX6_isZone 17 = .ok (.iconst 3, 1) := by decide +kernel
theorem dX6_isZone_18 : decode cX6_isZone 18 = .ok (.iload_n 2, 1) := by decide +kernel
theorem dX6_isZone_19 : decode cX6_isZone 19 = .ok (.imul, 1) := by decide +kernel
theorem dX6_isZone_20 : decode cX6_isZone 20 = .ok (.iconst 1, 1) := by decide +kernel
theorem dX6_isZone_21 : decode cX6_isZone 21 = .ok (.iadd, 1) := by decide +kernel
theorem dX6_isZone_22 : decode cX6_isZone 22 = .ok (.iaload, 1) := by decide +kernel
theorem dX6_isZone_23 : decode cX6_isZone 23 = .ok (.iload_n 1, 1) := by decide +kernel
theorem dX6_isZone_24 : decode cX6_isZone 24 = .ok (.if_icmp .ne 18, 3) := by decide +kernel
theorem dX6_isZone_27 : decode cX6_isZone 27 = .ok (.aload_n 0, 1) := by decide +kernel
theorem dX6_isZone_28 : decode cX6_isZone 28 = .ok (.getfield 19, 3) := by decide +kernel
theorem dX6_isZone_31 : decode cX6_isZone 31 = .ok (.bipush 36, 2) := by decide +kernel
theorem dX6_isZone_33 : decode cX6_isZone 33 = .ok (.iload_n 2, 1) := by decide +kernel
theorem dX6_isZone_34 : decode cX6_isZone 34 = .ok (.iadd, 1) := by decide +kernel
theorem dX6_isZone_35 : decode cX6_isZone 35 = .ok (.iaload, 1) := by decide +kernel
theorem dX6_isZone_36 : decode cX6_isZone 36 = .ok (.iconst 1, 1) := by decide +kernel
theorem dX6_isZone_37 : decode cX6_isZone 37 = .ok (.if_icmp .ne 5, 3) := by decide +kernel
theorem dX6_isZone_40 : decode cX6_isZone 40 = .ok (.iconst 1, 1) := by decide +kernel
theorem dX6_isZone_41 : decode cX6_isZone 41 = .ok (.ireturn, 1) := by decide +kernel
theorem dX6_isZone_42 : decode cX6_isZone 42 = .ok (.iinc 2 1, 3) := by decide +kernel
theorem dX6_isZone_45 : decode cX6_isZone 45 = .ok (.goto (-43), 3) := by decide +kernel
theorem dX6_isZone_48 : decode cX6_isZone 48 = .ok (.iconst 0, 1) := by decide +kernel
theorem dX6_isZone_49 : decode cX6_isZone 49 = .ok (.ireturn, 1) := by decide +kernel
set_option maxRecDepth 20000 in
theorem ggX6_isWanted_X6_isZone : GoodIn wsX6_isWanted wsX6_isZone := goodIn_r _ [6, 1, 7, 8, 9, 10, 11, 12, 13, 14, 15, 16, 17, 18, 19] (by decide +kernel) (by decide +kernel)
set_option maxRecDepth 20000 in
theorem gX6_isWanted_X6_isZone : GoodIn wsX6_isWanted (wsV RX6 137 RX6 yX6_isZone wsX6_isZone) := goodIn_app (goodIn_of _ (by decide +kernel)) ggX6_isWanted_X6_isZone
theorem dX6_isWanted_0 : decode cX6_isWanted 0 = .ok (.aload_n 0, 1) := by decide +kernel
theorem dX6_isWanted_1 : decode cX6_isWanted 1 = .ok (.getfield 13, 3) := by decide +kernel
theorem dX6_isWanted_4 : decode cX6_isWanted 4 = .ok (.bipush 36, 2) := by decide +kernel
theorem dX6_isWanted_6 : decode cX6_isWanted 6 = .ok (.iconst 4, 1) := by decide +kernel
theorem dX6_isWanted_7 : decode cX6_isWanted 7 = .ok (.iload_n 1, 1) := by decide +kernel
theorem dX6_isWanted_8 : decode cX6_isWanted 8 = .ok (.imul, 1) := by decide +kernel
theorem dX6_isWanted_9 : decode cX6_isWanted 9 = .ok (.iadd, 1) := by decide +kernel
theorem dX6_isWanted_10 : decode cX6_isWanted 10 = .ok (.iconst 1, 1) := by decide +kernel
theorem dX6_isWanted_11 : decode cX6_isWanted 11 = .ok (.iadd, 1) := by decide +kernel
theorem dX6_isWanted_12 : decode cX6_isWanted 12 = .ok (.iaload, 1) := by decide +kernel
theorem dX6_isWanted_13 : decode cX6_isWanted 13 = .ok (.istore_n 2, 1) := by decide +kernel
theorem dX6_isWanted_14 : decode cX6_isWanted 14 = .ok (.iconst 0, 1) := by decide +kernel
theorem dX6_isWanted_15 : decode cX6_isWanted 15 = .ok (.istore_n 3, 1) := by decide +kernel
theorem dX6_isWanted_16 : decode cX6_isWanted 16 = .ok (.iconst 0, 1) := by decide +kernel
theorem dX6_isWanted_17 : decode cX6_isWanted 17 = .ok (.istore 4, 2) := by decide +kernel
theorem dX6_isWanted_19 : decode cX6_isWanted 19 = .ok (.iconst 0, 1) := by decide +kernel
theorem dX6_isWanted_20 : decode cX6_isWanted 20 = .ok (.istore 5, 2) := by decide +kernel
theorem dX6_isWanted_22 : decode cX6_isWanted 22 = .ok (.iload 5, 2) := by decide +kernel
theorem dX6_isWanted_24 : decode cX6_isWanted 24 = .ok (.bipush 6, 2) := by decide +kernel
theorem dX6_isWanted_26 : decode cX6_isWanted 26 = .ok (.if_icmp .ge 47, 3) := by decide +kernel
theorem dX6_isWanted_29 : decode cX6_isWanted 29 = .ok (.iload_n 3, 1) := by decide +kernel
theorem dX6_isWanted_30 : decode cX6_isWanted 30 = .ok (.iload_n 2, 1) := by decide +kernel
theorem dX6_isWanted_31 : decode cX6_isWanted 31 = .ok (.iload 5, 2) := by decide +kernel
theorem dX6_isWanted_33 : decode cX6_isWanted 33 = .ok (.ishr, 1) := by decide +kernel
theorem dX6_isWanted_34 : decode cX6_isWanted 34 = .ok (.iconst 1, 1) := by decide +kernel
theorem dX6_isWanted_35 : decode cX6_isWanted 35 = .ok (.iand, 1) := by decide +kernel
theorem dX6_isWanted_36 : decode cX6_isWanted 36 = .ok (.iadd, 1) := by decide +kernel
theorem dX6_isWanted_37 : decode cX6_isWanted 37 = .ok (.istore_n 3, 1) := by decide +kernel
theorem dX6_isWanted_38 : decode cX6_isWanted 38 = .ok (.iload 4, 2) := by decide +kernel
theorem dX6_isWanted_40 : decode cX6_isWanted 40 = .ok (.iload_n 2, 1) := by decide +kernel
theorem dX6_isWanted_41 : decode cX6_isWanted 41 = .ok (.iload 5, 2) := by decide +kernel
theorem dX6_isWanted_43 : decode cX6_isWanted 43 = .ok (.ishr, 1) := by decide +kernel
theorem dX6_isWanted_44 : decode cX6_isWanted 44 = .ok (.iconst 1, 1) := by decide +kernel
theorem dX6_isWanted_45 : decode cX6_isWanted 45 = .ok (.iand, 1) := by decide +kernel
theorem dX6_isWanted_46 : decode cX6_isWanted 46 = .ok (.iconst 1, 1) := by decide +kernel
theorem dX6_isWanted_47 : decode cX6_isWanted 47 = .ok (.if_icmp .ne 16, 3) := by decide +kernel
theorem dX6_isWanted_50 : decode cX6_isWanted 50 = .ok (.aload_n 0, 1) := by decide +kernel
theorem dX6_isWanted_51 : decode cX6_isWanted 51 = .ok (.iload 5, 2) := by decide +kernel
theorem dX6_isWanted_53 : decode cX6_isWanted 53 = .ok (.invokevirtual 137, 3) := by decide +kernel
theorem dX6_isWanted_56 : decode cX6_isWanted 56 = .ok (.ifCond .eq 7, 3) := by decide +kernel
theorem dX6_isWanted_59 : decode cX6_isWanted 59 = .ok (.iconst 1, 1) := by decide +kernel
theorem dX6_isWanted_60 : decode cX6_isWanted 60 = .ok (.goto 4, 3) := by decide +kernel
theorem dX6_isWanted_63 : decode cX6_isWanted 63 = .ok (.iconst 0, 1) := by decide +kernel
theorem dX6_isWanted_64 : decode cX6_isWanted 64 = .ok (.iadd, 1) := by decide +kernel
theorem dX6_isWanted_65 : decode cX6_isWanted 65 = .ok (.istore 4, 2) := by decide +kernel
theorem dX6_isWanted_67 : decode cX6_isWanted 67 = .ok (.iinc 5 1, 3) := by decide +kernel
theorem dX6_isWanted_70 : decode cX6_isWanted 70 = .ok (.goto (-48), 3) := by decide +kernel
theorem dX6_isWanted_73 : decode cX6_isWanted 73 = .ok (.aload_n 0, 1) := by decide +kernel
theorem dX6_isWanted_74 : decode cX6_isWanted 74 = .ok (.getfield 13, 3) := by decide +kernel
theorem dX6_isWanted_77 : decode cX6_isWanted 77 = .ok (.bipush 36, 2) := by decide +kernel
theorem dX6_isWanted_79 : decode cX6_isWanted 79 = .ok (.iconst 4, 1) := by decide +kernel
theorem dX6_isWanted_80 : decode cX6_isWanted 80 = .ok (.iload_n 1, 1) := by decide +kernel
theorem dX6_isWanted_81 : decode cX6_isWanted 81 = .ok (.imul, 1) := by decide +kernel
theorem dX6_isWanted_82 : decode cX6_isWanted 82 = .ok (.iadd, 1) := by decide +kernel
theorem dX6_isWanted_83 : decode cX6_isWanted 83 = .ok (.iaload, 1) := by decide +kernel
theorem dX6_isWanted_84 : decode cX6_isWanted 84 = .ok (.istore 5, 2) := by decide +kernel
theorem dX6_isWanted_86 : decode cX6_isWanted 86 = .ok (.iload 5, 2) := by decide +kernel
theorem dX6_isWanted_88 : decode cX6_isWanted 88 = .ok (.ifCond .ne 16, 3) := by decide +kernel
theorem dX6_isWanted_91 : decode cX6_isWanted 91 = .ok (.iload 4, 2) := by decide +kernel
theorem dX6_isWanted_93 : decode cX6_isWanted 93 = .ok (.ifCond .le 7, 3) := by decide +kernel
theorem dX6_isWanted_96 : decode cX6_isWanted 96 = .ok (.iconst 1, 1) := by decide +kernel
theorem dX6_isWanted_97 : decode cX6_isWanted 97 = .ok (.goto 38, 3) := by decide +kernel
theorem dX6_isWanted_100 : decode cX6_isWanted 100 = .ok (.iconst 0, 1) := by decide +kernel
theorem dX6_isWanted_101 : decode cX6_isWanted 101 = .ok (.goto 34, 3) := by decide +kernel
theorem dX6_isWanted_104 : decode cX6_isWanted 104 = .ok (.iload 5, 2) := by decide +kernel
theorem dX6_isWanted_106 : decode cX6_isWanted 106 = .ok (.iconst 1, 1) := by decide +kernel
theorem dX6_isWanted_107 : decode cX6_isWanted 107 = .ok (.if_icmp .ne 17, 3) := by decide +kernel
theorem dX6_isWanted_110 : decode cX6_isWanted 110 = .ok (.iload 4, 2) := by decide +kernel
theorem dX6_isWanted_112 : decode cX6_isWanted 112 = .ok (.iload_n 3, 1) := by decide +kernel
theorem dX6_isWanted_113 : decode cX6_isWanted 113 = .ok (.if_icmp .ne 7, 3) := by decide +kernel
theorem dX6_isWanted_116 : decode cX6_isWanted 116 = .ok (.iconst 1, 1) := by decide +kernel
theorem dX6_isWanted_117 : decode cX6_isWanted 117 = .ok (.goto 18, 3) := by decide +kernel
theorem dX6_isWanted_120 : decode cX6_isWanted 120 = .ok (.iconst 0, 1) := by decide +kernel
theorem dX6_isWanted_121 : decode cX6_isWanted 121 = .ok (.goto 14, 3) := by decide +kernel
theorem dX6_isWanted_124 : decode cX6_isWanted 124 = .ok (.iload 4, 2) := by decide +kernel
theorem dX6_isWanted_126 : decode cX6_isWanted 126 = .ok (.iconst 1, 1) := by decide +kernel
theorem dX6_isWanted_127 : decode cX6_isWanted 127 = .ok (.if_icmp .le 7, 3) := by decide +kernel
theorem dX6_isWanted_130 : decode cX6_isWanted 130 = .ok (.iconst 1, 1) := by decide +kernel
theorem dX6_isWanted_131 : decode cX6_isWanted 131 = .ok (.goto 4, 3) := by decide +kernel
theorem dX6_isWanted_134 : decode cX6_isWanted 134 = .ok (.iconst 0, 1) := by decide +kernel
theorem dX6_isWanted_135 : decode cX6_isWanted 135 = .ok (.ireturn, 1) := by decide +kernel
set_option maxRecDepth 20000 in
theorem ggX6_feels_X6_value : GoodIn wsX6_feels wsX6_value := goodIn_r _ [7, 2, 12, 13, 14, 15, 16, 17, 18, 19, 20, 21, 22, 23] (by decide +kernel) (by decide +kernel)
set_option maxRecDepth 20000 in
theorem gX6_feels_X6_value : GoodIn wsX6_feels (wsV RX6 140 RX6 yX6_value wsX6_value) := goodIn_app (goodIn_of _ (by decide +kernel)) ggX6_feels_X6_value
set_option maxRecDepth 20000 in
theorem ggX6_feels_X6_isSensor : GoodIn wsX6_feels wsX6_isSensor := goodIn_r _ [11, 1, 12, 13, 14, 15, 16, 17, 18, 19, 20, 21, 22, 23] (by decide +kernel) (by decide +kernel)
set_option maxRecDepth 20000 in
theorem gX6_feels_X6_isSensor : GoodIn wsX6_feels (wsV RX6 143 RX6 yX6_isSensor wsX6_isSensor) := goodIn_app (goodIn_of _ (by decide +kernel)) ggX6_feels_X6_isSensor
theorem dX6_feels_0 : decode cX6_feels 0 = .ok (.aload_n 0, 1) := by decide +kernel
theorem dX6_feels_1 : decode cX6_feels 1 = .ok (.getfield 13, 3) := by decide +kernel
theorem dX6_feels_4 : decode cX6_feels 4 = .ok (.iconst 3, 1) := by decide +kernel
theorem dX6_feels_5 : decode cX6_feels 5 = .ok (.iload_n 1, 1) := by decide +kernel
theorem dX6_feels_6 : decode cX6_feels 6 = .ok (.imul, 1) := by decide +kernel
theorem dX6_feels_7 : decode cX6_feels 7 = .ok (.iaload, 1) := by decide +kernel
theorem dX6_feels_8 : decode cX6_feels 8 = .ok (.istore_n 2, 1) := by decide +kernel
theorem dX6_feels_9 : decode cX6_feels 9 = .ok (.aload_n 0, 1) := by decide +kernel
theorem dX6_feels_10 : decode cX6_feels 10 = .ok (.iload_n 1, 1) := by decide +kernel
theorem dX6_feels_11 : decode cX6_feels 11 = .ok (.invokevirtual 140, 3) := by decide +kernel
theorem dX6_feels_14 : decode cX6_feels 14 = .ok (.istore_n 3, 1) := by decide +kernel
theorem dX6_feels_15 : decode cX6_feels 15 = .ok (.iload_n 2, 1) := by decide +kernel
theorem dX6_feels_16 : decode cX6_feels 16 = .ok (.ifCond .ne 38, 3) := by decide +kernel
theorem dX6_feels_19 : decode cX6_feels 19 = .ok (.aload_n 0, 1) := by decide +kernel
theorem dX6_feels_20 : decode cX6_feels 20 = .ok (.getfield 19, 3) := by decide +kernel
theorem dX6_feels_23 : decode cX6_feels 23 = .ok (.bipush 24, 2) := by decide +kernel
theorem dX6_feels_25 : decode cX6_feels 25 = .ok (.iload_n 1, 1) := by decide +kernel
theorem dX6_feels_26 : decode cX6_feels 26 = .ok (.iadd, 1) := by decide +kernel
theorem dX6_feels_27 : decode cX6_feels 27 = .ok (.iload_n 3, 1) := by decide +kernel
theorem dX6_feels_28 : decode cX6_feels 28 = .ok (.aload_n 0, 1) := by decide +kernel
theorem dX6_feels_29 : decode cX6_feels 29 = .ok (.getfield 13, 3) := by decide +kernel
theorem dX6_feels_32 : decode cX6_feels 32 = .ok (.bipush 63, 2) := by decide +kernel
theorem dX6_feels_34 : decode cX6_feels 34 = .ok (.iaload, 1) := by decide +kernel
theorem dX6_feels_35 : decode cX6_feels 35 = .ok (.if_icmp .lt 17, 3) := by decide +kernel
theorem dX6_feels_38 : decode cX6_feels 38 = .ok (.aload_n 0, 1) := by decide +kernel
theorem dX6_feels_39 : decode cX6_feels 39 = .ok (.getfield 19, 3) := by decide +kernel
theorem dX6_feels_42 : decode cX6_feels 42 = .ok (.bipush 24, 2) := by decide +kernel
theorem dX6_feels_44 : decode cX6_feels 44 = .ok (.iload_n 1, 1) := by decide +kernel
theorem dX6_feels_45 : decode cX6_feels 45 = .ok (.iadd, 1) := by decide +kernel
theorem dX6_feels_46 : decode cX6_feels 46 = .ok (.iaload, 1) := by decide +kernel
theorem dX6_feels_47 : decode cX6_feels 47 = .ok (.iconst 1, 1) := by decide +kernel
theorem dX6_feels_48 : decode cX6_feels 48 = .ok (.iadd, 1) := by decide +kernel
theorem dX6_feels_49 : decode cX6_feels 49 = .ok (.goto 4, 3) := by decide +kernel
theorem dX6_feels_52 : decode cX6_feels 52 = .ok (.iconst 0, 1) := by decide +kernel
theorem dX6_feels_53 : decode cX6_feels 53 = .ok (.iastore, 1) := by decide +kernel
theorem dX6_feels_54 : decode cX6_feels 54 = .ok (.iload_n 2, 1) := by decide +kernel
theorem dX6_feels_55 : decode cX6_feels 55 = .ok (.ifCond .ne 30, 3) := by decide +kernel
theorem dX6_feels_58 : decode cX6_feels 58 = .ok (.aload_n 0, 1) := by decide +kernel
theorem dX6_feels_59 : decode cX6_feels 59 = .ok (.getfield 19, 3) := by decide +kernel
theorem dX6_feels_62 : decode cX6_feels 62 = .ok (.bipush 24, 2) := by decide +kernel
theorem dX6_feels_64 : decode cX6_feels 64 = .ok (.iload_n 1, 1) := by decide +kernel
theorem dX6_feels_65 : decode cX6_feels 65 = .ok (.iadd, 1) := by decide +kernel
theorem dX6_feels_66 : decode cX6_feels 66 = .ok (.iaload, 1) := by decide +kernel
theorem dX6_feels_67 : decode cX6_feels 67 = .ok (.aload_n 0, 1) := by decide +kernel
theorem dX6_feels_68 : decode cX6_feels 68 = .ok (.getfield 13, 3) := by decide +kernel
theorem dX6_feels_71 : decode cX6_feels 71 = .ok (.bipush 64, 2) := by decide +kernel
theorem dX6_feels_73 : decode cX6_feels 73 = .ok (.iaload, 1) := by decide +kernel
theorem dX6_feels_74 : decode cX6_feels 74 = .ok (.if_icmp .le 7, 3) := by decide +kernel
theorem dX6_feels_77 : decode cX6_feels 77 = .ok (.iconst 1, 1) := by decide +kernel
theorem dX6_feels_78 : decode cX6_feels 78 = .ok (.goto 52, 3) := by decide +kernel
theorem dX6_feels_81 : decode cX6_feels 81 = .ok (.iconst 0, 1) := by decide +kernel
theorem dX6_feels_82 : decode cX6_feels 82 = .ok (.goto 48, 3) := by decide +kernel
theorem dX6_feels_85 : decode cX6_feels 85 = .ok (.iload_n 2, 1) := by decide +kernel
theorem dX6_feels_86 : decode cX6_feels 86 = .ok (.iconst 1, 1) := by decide +kernel
theorem dX6_feels_87 : decode cX6_feels 87 = .ok (.if_icmp .ne 22, 3) := by decide +kernel
theorem dX6_feels_90 : decode cX6_feels 90 = .ok (.iload_n 3, 1) := by decide +kernel
theorem dX6_feels_91 : decode cX6_feels 91 = .ok (.aload_n 0, 1) := by decide +kernel
theorem dX6_feels_92 : decode cX6_feels 92 = .ok (.getfield 13, 3) := by decide +kernel
theorem dX6_feels_95 : decode cX6_feels 95 = .ok (.bipush 63, 2) := by decide +kernel
theorem dX6_feels_97 : decode cX6_feels 97 = .ok (.iaload, 1) := by decide +kernel
theorem dX6_feels_98 : decode cX6_feels 98 = .ok (.if_icmp .lt 7, 3) := by decide +kernel
theorem dX6_feels_101 : decode cX6_feels 101 = .ok (.iconst 1, 1) := by decide +kernel
theorem dX6_feels_102 : decode cX6_feels 102 = .ok (.goto 28, 3) := by decide +kernel
theorem dX6_feels_105 : decode cX6_feels 105 = .ok (.iconst 0, 1) := by decide +kernel
theorem dX6_feels_106 : decode cX6_feels 106 = .ok (.goto 24, 3) := by decide +kernel
theorem dX6_feels_109 : decode cX6_feels 109 = .ok (.iload_n 2, 1) := by decide +kernel
theorem dX6_feels_110 : decode cX6_feels 110 = .ok (.iconst 2, 1) := by decide +kernel
theorem dX6_feels_111 : decode cX6_feels 111 = .ok (.if_icmp .ne 18, 3) := by decide +kernel
theorem dX6_feels_114 : decode cX6_feels 114 = .ok (.aload_n 0, 1) := by decide +kernel
theorem dX6_feels_115 : decode cX6_feels 115 = .ok (.getfield 19, 3) := by decide +kernel
theorem dX6_feels_118 : decode cX6_feels 118 = .ok (.iconst 0, 1) := by decide +kernel
theorem dX6_feels_119 : decode cX6_feels 119 = .ok (.iload_n 1, 1) := by decide +kernel
theorem dX6_feels_120 : decode cX6_feels 120 = .ok (.iadd, 1) := by decide +kernel
theorem dX6_feels_121 : decode cX6_feels 121 = .ok (.iaload, 1) := by decide +kernel
theorem dX6_feels_122 : decode cX6_feels 122 = .ok (.ifCond .le 7, 3) := by decide +kernel
theorem dX6_feels_125 : decode cX6_feels 125 = .ok (.iconst 1, 1) := by decide +kernel
theorem dX6_feels_126 : decode cX6_feels 126 = .ok (.goto 4, 3) := by decide +kernel
theorem dX6_feels_129 : decode cX6_feels 129 = .ok (.iconst 0, 1) := by decide +kernel
theorem dX6_feels_130 : decode cX6_feels 130 = .ok (.istore 4, 2) := by decide +kernel
theorem dX6_feels_132 : decode cX6_feels 132 = .ok (.iload 4, 2) := by decide +kernel
theorem dX6_feels_134 : decode cX6_feels 134 = .ok (.ifCond .eq 19, 3) := by decide +kernel
theorem dX6_feels_137 : decode cX6_feels 137 = .ok (.aload_n 0, 1) := by decide +kernel
theorem dX6_feels_138 : decode cX6_feels 138 = .ok (.getfield 19, 3) := by decide +kernel
theorem dX6_feels_141 : decode cX6_feels 141 = .ok (.bipush 36, 2) := by decide +kernel
theorem dX6_feels_143 : decode cX6_feels 143 = .ok (.iload_n 1, 1) := by decide +kernel
theorem dX6_feels_144 : decode cX6_feels 144 = .ok (.iadd, 1) := by decide +kernel
theorem dX6_feels_145 : decode cX6_feels 145 = .ok (.iaload, 1) := by decide +kernel
theorem dX6_feels_146 : decode cX6_feels 146 = .ok (.ifCond .ne 7, 3) := by decide +kernel
theorem dX6_feels_149 : decode cX6_feels 149 = .ok (.iconst 1, 1) := by decide +kernel
theorem dX6_feels_150 : decode cX6_feels 150 = .ok (.goto 4, 3) := by decide +kernel
theorem dX6_feels_153 : decode cX6_feels 153 = .ok (.iconst 0, 1) := by decide +kernel
theorem dX6_feels_154 : decode cX6_feels 154 = .ok (.istore 5, 2) := by decide +kernel
theorem dX6_feels_156 : decode cX6_feels 156 = .ok (.aload_n 0, 1) := by decide +kernel
theorem dX6_feels_157 : decode cX6_feels 157 = .ok (.getfield 19, 3) := by decide +kernel
theorem dX6_feels_160 : decode cX6_feels 160 = .ok (.bipush 36, 2) := by decide +kernel
theorem dX6_feels_162 : decode cX6_feels 162 = .ok (.iload_n 1, 1) := by decide +kernel
theorem dX6_feels_163 : decode cX6_feels 163 = .ok (.iadd, 1) := by decide +kernel
theorem dX6_feels_164 : decode cX6_feels 164 = .ok (.iload 4, 2) := by decide +kernel
theorem dX6_feels_166 : decode cX6_feels 166 = .ok (.ifCond .eq 7, 3) := by decide +kernel
theorem dX6_feels_169 : decode cX6_feels 169 = .ok (.iconst 1, 1) := by decide +kernel
theorem dX6_feels_170 : decode cX6_feels 170 = .ok (.goto 12, 3) := by decide +kernel
theorem dX6_feels_173 : decode cX6_feels 173 = .ok (.aload_n 0, 1) := by decide +kernel
theorem dX6_feels_174 : decode cX6_feels 174 = .ok (.getfield 19, 3) := by decide +kernel
theorem dX6_feels_177 : decode cX6_feels 177 = .ok (.bipush 36, 2) := by decide +kernel
theorem dX6_feels_179 : decode cX6_feels 179 = .ok (.iload_n 1, 1) := by decide +kernel
theorem dX6_feels_180 : decode cX6_feels 180 = .ok (.iadd, 1) := by decide +kernel
theorem dX6_feels_181 : decode cX6_feels 181 = .ok (.iaload, 1) := by decide +kernel
theorem dX6_feels_182 : decode cX6_feels 182 = .ok (.iastore, 1) := by decide +kernel
theorem dX6_feels_183 : decode cX6_feels 183 = .ok (.aload_n 0, 1) := by decide +kernel
theorem dX6_feels_184 : decode cX6_feels 184 = .ok (.getfield 19, 3) := by decide +kernel
theorem dX6_feels_187 : decode cX6_feels 187 = .ok (.bipush 86, 2) := by decide +kernel
theorem dX6_feels_189 : decode cX6_feels 189 = .ok (.iaload, 1) := by decide +kernel
theorem dX6_feels_190 : decode cX6_feels 190 = .ok (.aload_n 0, 1) := by decide +kernel
theorem dX6_feels_191 : decode cX6_feels 191 = .ok (.getfield 13, 3) := by decide +kernel
theorem dX6_feels_194 : decode cX6_feels 194 = .ok (.bipush 65, 2) := by decide +kernel
theorem dX6_feels_196 : decode cX6_feels 196 = .ok (.iaload, 1) := by decide +kernel
theorem dX6_feels_197 : decode cX6_feels 197 = .ok (.irem, 1) := by decide +kernel
theorem dX6_feels_198 : decode cX6_feels 198 = .ok (.ifCond .ne 124, 3) := by decide +kernel
theorem dX6_feels_201 : decode cX6_feels 201 = .ok (.aload_n 0, 1) := by decide +kernel
theorem dX6_feels_202 : decode cX6_feels 202 = .ok (.iload_n 1, 1) := by decide +kernel
theorem dX6_feels_203 : decode cX6_feels 203 = .ok (.invokevirtual 143, 3) := by decide +kernel
theorem dX6_feels_206 : decode cX6_feels 206 = .ok (.ifCond .eq 116, 3) := by decide +kernel
theorem dX6_feels_209 : decode cX6_feels 209 = .ok (.iload_n 3, 1) := by decide +kernel
theorem dX6_feels_210 : decode cX6_feels 210 = .ok (.aload_n 0, 1) := by decide +kernel
theorem dX6_feels_211 : decode cX6_feels 211 = .ok (.getfield 13, 3) := by decide +kernel
theorem dX6_feels_214 : decode cX6_feels 214 = .ok (.bipush 62, 2) := by decide +kernel
theorem dX6_feels_216 : decode cX6_feels 216 = .ok (.iaload, 1) := by decide +kernel
theorem dX6_feels_217 : decode cX6_feels 217 = .ok (.if_icmp .ge 105, 3) := by decide +kernel
theorem dX6_feels_220 : decode cX6_feels 220 = .ok (.aload_n 0, 1) := by decide +kernel
theorem dX6_feels_221 : decode cX6_feels 221 = .ok (.getfield 19, 3) := by decide +kernel
theorem dX6_feels_224 : decode cX6_feels 224 = .ok (.iconst 0, 1) := by decide +kernel
theorem dX6_feels_225 : decode cX6_feels 225 = .ok (.iload_n 1, 1) := by decide +kernel
theorem dX6_feels_226 : decode cX6_feels 226 = .ok (.iadd, 1) := by decide +kernel
theorem dX6_feels_227 : decode cX6_feels 227 = .ok (.iaload, 1) := by decide +kernel
theorem dX6_feels_228 : decode cX6_feels 228 = .ok (.aload_n 0, 1) := by decide +kernel
theorem dX6_feels_229 : decode cX6_feels 229 = .ok (.getfield 19, 3) := by decide +kernel
theorem dX6_feels_232 : decode cX6_feels 232 = .ok (.bipush 12, 2) := by decide +kernel
theorem dX6_feels_234 : decode cX6_feels 234 = .ok (.iload_n 1, 1) := by decide +kernel
theorem dX6_feels_235 : decode cX6_feels 235 = .ok (.iadd, 1) := by decide +kernel
theorem dX6_feels_236 : decode cX6_feels 236 = .ok (.iaload, 1) := by decide +kernel
theorem dX6_feels_237 : decode cX6_feels 237 = .ok (.if_icmp .le 17, 3) := by decide +kernel
theorem dX6_feels_240 : decode cX6_feels 240 = .ok (.aload_n 0, 1) := by decide +kernel
theorem dX6_feels_241 : decode cX6_feels 241 = .ok (.getfield 19, 3) := by decide +kernel
theorem dX6_feels_244 : decode cX6_feels 244 = .ok (.bipush 12, 2) := by decide +kernel
theorem dX6_feels_246 : decode cX6_feels 246 = .ok (.iload_n 1, 1) := by decide +kernel
theorem dX6_feels_247 : decode cX6_feels 247 = .ok (.iadd, 1) := by decide +kernel
theorem dX6_feels_248 : decode cX6_feels 248 = .ok (.iaload, 1) := by decide +kernel
theorem dX6_feels_249 : decode cX6_feels 249 = .ok (.iconst 1, 1) := by decide +kernel
theorem dX6_feels_250 : decode cX6_feels 250 = .ok (.iadd, 1) := by decide +kernel
theorem dX6_feels_251 : decode cX6_feels 251 = .ok (.goto 46, 3) := by decide +kernel
theorem dX6_feels_254 : decode cX6_feels 254 = .ok (.aload_n 0, 1) := by decide +kernel
theorem dX6_feels_255 : decode cX6_feels 255 = .ok (.getfield 19, 3) := by decide +kernel
theorem dX6_feels_258 : decode cX6_feels 258 = .ok (.iconst 0, 1) := by decide +kernel
theorem dX6_feels_259 : decode cX6_feels 259 = .ok (.iload_n 1, 1) := by decide +kernel
theorem dX6_feels_260 : decode cX6_feels 260 = .ok (.iadd, 1) := by decide +kernel
theorem dX6_feels_261 : decode cX6_feels 261 = .ok (.iaload, 1) := by decide +kernel
theorem dX6_feels_262 : decode cX6_feels 262 = .ok (.aload_n 0, 1) := by decide +kernel
theorem dX6_feels_263 : decode cX6_feels 263 = .ok (.getfield 19, 3) := by decide +kernel
theorem dX6_feels_266 : decode cX6_feels 266 = .ok (.bipush 12, 2) := by decide +kernel
theorem dX6_feels_268 : decode cX6_feels 268 = .ok (.iload_n 1, 1) := by decide +kernel
theorem dX6_feels_269 : decode cX6_feels 269 = .ok (.iadd, 1) := by decide +kernel
theorem dX6_feels_270 : decode cX6_feels 270 = .ok (.iaload, 1) := by decide +kernel
theorem dX6_feels_271 : decode cX6_feels 271 = .ok (.if_icmp .ge 17, 3) := by decide +kernel
theorem dX6_feels_274 : decode cX6_feels 274 = .ok (.aload_n 0, 1) := by decide +kernel
theorem dX6_feels_275 : decode cX6_feels 275 = .ok (.getfield 19, 3) := by decide +kernel
theorem dX6_feels_278 : decode cX6_feels 278 = .ok (.bipush 12, 2) := by decide +kernel
theorem dX6_feels_280 : decode cX6_feels 280 = .ok (.iload_n 1, 1) := by decide +kernel
theorem dX6_feels_281 : decode cX6_feels 281 = .ok (.iadd, 1) := by decide +kernel
theorem dX6_feels_282 : decode cX6_feels 282 = .ok (.iaload, 1) := by decide +kernel
theorem dX6_feels_283 : decode cX6_feels 283 = .ok (.iconst 1, 1) := by decide +kernel
theorem dX6_feels_284 : decode cX6_feels 284 = .ok (.isub, 1) := by decide +kernel
theorem dX6_feels_285 : decode cX6_feels 285 = .ok (.goto 12, 3) := by decide +kernel
theorem dX6_feels_288 : decode cX6_feels 288 = .ok (.aload_n 0, 1) := by decide +kernel
theorem dX6_feels_289 : decode cX6_feels 289 = .ok (.getfield 19, 3) := by decide +kernel
theorem dX6_feels_292 : decode cX6_feels 292 = .ok (.bipush 12, 2) := by decide +kernel
theorem dX6_feels_294 : decode cX6_feels 294 = .ok (.iload_n 1, 1) := by decide +kernel
theorem dX6_feels_295 : decode cX6_feels 295 = .ok (.iadd, 1) := by decide +kernel
theorem dX6_feels_296 : decode cX6_feels 296 = .ok (.iaload, 1) := by decide +kernel
theorem dX6_feels_297 : decode cX6_feels 297 = .ok (.istore 6, 2) := by decide +kernel
theorem dX6_feels_299 : decode cX6_feels 299 = .ok (.aload_n 0, 1) := by decide +kernel
theorem dX6_feels_300 : decode cX6_feels 300 = .ok (.getfield 19, 3) := by decide +kernel
theorem dX6_feels_303 : decode cX6_feels 303 = .ok (.bipush 12, 2) := by decide +kernel
theorem dX6_feels_305 : decode cX6_feels 305 = .ok (.iload_n 1, 1) := by decide +kernel
theorem dX6_feels_306 : decode cX6_feels 306 = .ok (.iadd, 1) := by decide +kernel
theorem dX6_feels_307 : decode cX6_feels 307 = .ok (.iload 6, 2) := by decide +kernel
theorem dX6_feels_309 : decode cX6_feels 309 = .ok (.bipush 40, 2) := by decide +kernel
theorem dX6_feels_311 : decode cX6_feels 311 = .ok (.if_icmp .le 8, 3) := by decide +kernel
theorem dX6_feels_314 : decode cX6_feels 314 = .ok (.bipush 40, 2) := by decide +kernel
theorem dX6_feels_316 : decode cX6_feels 316 = .ok (.goto 5, 3) := by decide +kernel
theorem dX6_feels_319 : decode cX6_feels 319 = .ok (.iload 6, 2) := by decide +kernel
theorem dX6_feels_321 : decode cX6_feels 321 = .ok (.iastore, 1) := by decide +kernel
theorem dX6_feels_322 : decode cX6_feels 322 = .ok (.iload 5, 2) := by decide +kernel
theorem dX6_feels_324 : decode cX6_feels 324 = .ok (.ireturn, 1) := by decide +kernel
set_option maxRecDepth 20000 in
theorem ggX6_ticks_X6_isLost : GoodIn wsX6_ticks wsX6_isLost := goodIn_r _ [7, 8, 9, 10, 6, 11, 2, 12, 13, 14, 15, 16, 17, 18, 19, 20, 1, 21, 22, 23, 24, 25, 26, 27, 28, 29, 50, 51, 52, 53, 54, 55, 56, 57, 58, 59, 60, 61] (by decide +kernel) (by decide +kernel)
set_option maxRecDepth 20000 in
theorem gX6_ticks_X6_isLost : GoodIn wsX6_ticks (wsV RX6 119 RX6 yX6_isLost wsX6_isLost) := goodIn_app (goodIn_of _ (by decide +kernel)) ggX6_ticks_X6_isLost
set_option maxRecDepth 20000 in
theorem ggX6_ticks_X6_feels : GoodIn wsX6_ticks wsX6_feels := goodIn_r _ [33, 2, 1, 34, 35, 36, 6, 37, 38, 39, 40, 41, 50, 51, 52, 53, 54, 55, 56, 57, 58, 59, 60, 61] (by decide +kernel) (by decide +kernel)
set_option maxRecDepth 20000 in
theorem gX6_ticks_X6_feels : GoodIn wsX6_ticks (wsV RX6 146 RX6 yX6_feels wsX6_feels) := goodIn_app (goodIn_of _ (by decide +kernel)) ggX6_ticks_X6_feels
set_option maxRecDepth 20000 in
theorem ggX6_ticks_X6_isZone : GoodIn wsX6_ticks wsX6_isZone := goodIn_r _ [45, 2, 1, 50, 51, 52, 53, 54, 55, 56, 57, 58, 59, 60, 61] (by decide +kernel) (by decide +kernel)
set_option maxRecDepth 20000 in
theorem gX6_ticks_X6_isZone : GoodIn wsX6_ticks (wsV RX6 137 RX6 yX6_isZone wsX6_isZone) := goodIn_app (goodIn_of _ (by decide +kernel)) ggX6_ticks_X6_isZone
set_option maxRecDepth 20000 in
theorem ggX6_ticks_X6_isWanted : GoodIn wsX6_ticks wsX6_isWanted := goodIn_r _ [49, 2, 42, 43, 44, 6, 45, 1, 50, 51, 52, 53, 54, 55, 56, 57, 58, 59, 60, 61] (by decide +kernel) (by decide +kernel)
set_option maxRecDepth 20000 in
theorem gX6_ticks_X6_isWanted : GoodIn wsX6_ticks (wsV RX6 149 RX6 yX6_isWanted wsX6_isWanted) := goodIn_app (goodIn_of _ (by decide +kernel)) ggX6_ticks_X6_isWanted
theorem dX6_ticks_0 : decode cX6_ticks 0 = .ok (.iconst 0, 1) := by decide +kernel
theorem dX6_ticks_1 : decode cX6_ticks 1 = .ok (.istore_n 1, 1) := by decide +kernel
theorem dX6_ticks_2 : decode cX6_ticks 2 = .ok (.aload_n 0, 1) := by decide +kernel
theorem dX6_ticks_3 : decode cX6_ticks 3 = .ok (.getfield 19, 3) := by decide +kernel
theorem dX6_ticks_6 : decode cX6_ticks 6 = .ok (.bipush 86, 2) := by decide +kernel
theorem dX6_ticks_8 : decode cX6_ticks 8 = .ok (.dup2, 1) := by decide +kernel
theorem dX6_ticks_9 : decode cX6_ticks 9 = .ok (.iaload, 1) := by decide +kernel
theorem dX6_ticks_10 : decode cX6_ticks 10 = .ok (.iconst 1, 1) := by decide +kernel
theorem dX6_ticks_11 : decode cX6_ticks 11 = .ok (.iadd, 1) := by decide +kernel
theorem dX6_ticks_12 : decode cX6_ticks 12 = .ok (.iastore, 1) := by decide +kernel
theorem dX6_ticks_13 : decode cX6_ticks 13 = .ok (.iconst 0, 1) := by decide +kernel
theorem dX6_ticks_14 : decode cX6_ticks 14 = .ok (.istore_n 2, 1) := by decide +kernel
theorem dX6_ticks_15 : decode cX6_ticks 15 = .ok (.iload_n 2, 1) := by decide +kernel
theorem dX6_ticks_16 : decode cX6_ticks 16 = .ok (.aload_n 0, 1) := by decide +kernel
theorem dX6_ticks_17 : decode cX6_ticks 17 = .ok (.getfield 13, 3) := by decide +kernel
theorem dX6_ticks_20 : decode cX6_ticks 20 = .ok (.bipush 60, 2) := by decide +kernel
theorem dX6_ticks_22 : decode cX6_ticks 22 = .ok (.iaload, 1) := by decide +kernel
theorem dX6_ticks_23 : decode cX6_ticks 23 = .ok (.if_icmp .ge 33, 3) := by decide +kernel
theorem dX6_ticks_26 : decode cX6_ticks 26 = .ok (.aload_n 0, 1) := by decide +kernel
theorem dX6_ticks_27 : decode cX6_ticks 27 = .ok (.iload_n 2, 1) := by decide +kernel
theorem dX6_ticks_28 : decode cX6_ticks 28 = .ok (.invokevirtual 119, 3) := by decide +kernel
theorem dX6_ticks_31 : decode cX6_ticks 31 = .ok (.ifCond .ne 19, 3) := by decide +kernel
theorem dX6_ticks_34 : decode cX6_ticks 34 = .ok (.iload_n 1, 1) := by decide +kernel
theorem dX6_ticks_35 : decode cX6_ticks 35 = .ok (.aload_n 0, 1) := by decide +kernel
theorem dX6_ticks_36 : decode cX6_ticks 36 = .ok (.iload_n 2, 1) := by decide +kernel
theorem dX6_ticks_37 : decode cX6_ticks 37 = .ok (.invokevirtual 146, 3) := by decide +kernel
theorem dX6_ticks_40 : decode cX6_ticks 40 = .ok (.ifCond .eq 7, 3) := by decide +kernel
theorem dX6_ticks_43 : decode cX6_ticks 43 = .ok (.iconst 1, 1) := by decide +kernel
theorem dX6_ticks_44 : decode cX6_ticks 44 = .ok (.goto 4, 3) := by decide +kernel
theorem dX6_ticks_47 : decode cX6_ticks 47 = .ok (.iconst 0, 1) := by decide +kernel
theorem dX6_ticks_48 : decode cX6_ticks 48 = .ok (.iadd, 1) := by decide +kernel
theorem dX6_ticks_49 : decode cX6_ticks 49 = .ok (.istore_n 1, 1) := by decide +kernel
theorem dX6_ticks_50 : decode cX6_ticks 50 = .ok (.iinc 2 1, 3) := by decide +kernel
theorem dX6_ticks_53 : decode cX6_ticks 53 = .ok (.goto (-38), 3) := by decide +kernel
theorem dX6_ticks_56 : decode cX6_ticks 56 = .ok (.iconst 0, 1) := by decide +kernel
theorem dX6_ticks_57 : decode cX6_ticks 57 = .ok (.istore_n 2, 1) := by decide +kernel
theorem dX6_ticks_58 : decode cX6_ticks 58 = .ok (.iconst 0, 1) := by decide +kernel
theorem dX6_ticks_59 : decode cX6_ticks 59 = .ok (.istore_n 3, 1) := by decide +kernel
theorem dX6_ticks_60 : decode cX6_ticks 60 = .ok (.iload_n 3, 1) := by decide +kernel
theorem dX6_ticks_61 : decode cX6_ticks 61 = .ok (.bipush 6, 2) := by decide +kernel
theorem dX6_ticks_63 : decode cX6_ticks 63 = .ok (.if_icmp .ge 47, 3) := by decide +kernel
theorem dX6_ticks_66 : decode cX6_ticks 66 = .ok (.aload_n 0, 1) := by decide +kernel
theorem dX6_ticks_67 : decode cX6_ticks 67 = .ok (.iload_n 3, 1) := by decide +kernel
theorem dX6_ticks_68 : decode cX6_ticks 68 = .ok (.invokevirtual 137, 3) := by decide +kernel
theorem dX6_ticks_71 : decode cX6_ticks 71 = .ok (.ifCond .eq 33, 3) := by decide +kernel
theorem dX6_ticks_74 : decode cX6_ticks 74 = .ok (.aload_n 0, 1) := by decide +kernel
theorem dX6_ticks_75 : decode cX6_ticks 75 = .ok (.getfield 19, 3) := by decide +kernel
theorem dX6_ticks_78 : decode cX6_ticks 78 = .ok (.bipush 79, 2) := by decide +kernel
theorem dX6_ticks_80 : decode cX6_ticks 80 = .ok (.iload_n 3, 1) := by decide +kernel
theorem dX6_ticks_81 : decode cX6_ticks 81 = .ok (.iadd, 1) := by decide +kernel
theorem dX6_ticks_82 : decode cX6_ticks 82 = .ok (.iaload, 1) := by decide +kernel
theorem dX6_ticks_83 : decode cX6_ticks 83 = .ok (.ifCond .ne 21, 3) := by decide +kernel
theorem dX6_ticks_86 : decode cX6_ticks 86 = .ok (.aload_n 0, 1) := by decide +kernel
theorem dX6_ticks_87 : decode cX6_ticks 87 = .ok (.getfield 19, 3) := by decide +kernel
theorem dX6_ticks_90 : decode cX6_ticks 90 = .ok (.bipush 79, 2) := by decide +kernel
theorem dX6_ticks_92 : decode cX6_ticks 92 = .ok (.iload_n 3, 1) := by decide +kernel
theorem dX6_ticks_93 : decode cX6_ticks 93 = .ok (.iadd, 1) := by decide +kernel
theorem dX6_ticks_94 : decode cX6_ticks 94 = .ok (.aload_n 0, 1) := by decide +kernel
theorem dX6_ticks_95 : decode cX6_ticks 95 = .ok (.getfield 19, 3) := by decide +kernel
theorem dX6_ticks_98 : decode cX6_ticks 98 = .ok (.bipush 86, 2) := by decide +kernel
theorem dX6_ticks_100 : decode cX6_ticks 100 = .ok (.iaload, 1) := by decide +kernel
theorem dX6_ticks_101 : decode cX6_ticks 101 = .ok (.iastore, 1) := by decide +kernel
theorem dX6_ticks_102 : decode cX6_ticks 102 = .ok (.iconst 1, 1) := by decide +kernel
theorem dX6_ticks_103 : decode cX6_ticks 103 = .ok (.istore_n 2, 1) := by decide +kernel
theorem dX6_ticks_104 : decode cX6_ticks 104 = .ok (.iinc 3 1, 3) := by decide +kernel
theorem dX6_ticks_107 : decode cX6_ticks 107 = .ok (.goto (-47), 3) := by decide +kernel
theorem dX6_ticks_110 : decode cX6_ticks 110 = .ok (.iconst 0, 1) := by decide +kernel
theorem dX6_ticks_111 : decode cX6_ticks 111 = .ok (.istore_n 3, 1) := by decide +kernel
theorem dX6_ticks_112 : decode cX6_ticks 112 = .ok (.iload_n 3, 1) := by decide +kernel
theorem dX6_ticks_113 : decode cX6_ticks 113 = .ok (.aload_n 0, 1) := by decide +kernel
theorem dX6_ticks_114 : decode cX6_ticks 114 = .ok (.getfield 13, 3) := by decide +kernel
theorem dX6_ticks_117 : decode cX6_ticks 117 = .ok (.bipush 61, 2) := by decide +kernel
theorem dX6_ticks_119 : decode cX6_ticks 119 = .ok (.iaload, 1) := by decide +kernel
theorem dX6_ticks_120 : decode cX6_ticks 120 = .ok (.if_icmp .ge 133, 3) := by decide +kernel
theorem dX6_ticks_123 : decode cX6_ticks 123 = .ok (.aload_n 0, 1) := by decide +kernel
theorem dX6_ticks_124 : decode cX6_ticks 124 = .ok (.getfield 19, 3) := by decide +kernel
theorem dX6_ticks_127 : decode cX6_ticks 127 = .ok (.bipush 73, 2) := by decide +kernel
