theorem dX6_anew_22 : decode cX6_anew 22 = .ok (.getfield 19, 3) := by decide +kernel
theorem dX6_anew_25 : decode cX6_anew 25 = .ok (.bipush 85, 2) := by decide +kernel
theorem dX6_anew_27 : decode cX6_anew 27 = .ok (.iconst 1, 1) := by decide +kernel
theorem dX6_anew_28 : decode cX6_anew 28 = .ok (.iastore, 1) := by decide +kernel
theorem dX6_anew_29 : decode cX6_anew 29 = .ok (.aload_n 0, 1) := by decide +kernel
theorem dX6_anew_30 : decode cX6_anew 30 = .ok (.iconst 0, 1) := by decide +kernel
theorem dX6_anew_31 : decode cX6_anew 31 = .ok (.putfield 47, 3) := by decide +kernel
theorem dX6_anew_34 : decode cX6_anew 34 = .ok (.return_, 1) := by decide +kernel
theorem dX6_in_0 : decode cX6_in 0 = .ok (.lload_n 0, 1) := by decide +kernel
theorem dX6_in_1 : decode cX6_in 1 = .ok (.lload_n 2, 1) := by decide +kernel
theorem dX6_in_2 : decode cX6_in 2 = .ok (.lcmp, 1) := by decide +kernel
theorem dX6_in_3 : decode cX6_in 3 = .ok (.ifCond .lt 14, 3) := by decide +kernel
theorem dX6_in_6 : decode cX6_in 6 = .ok (.lload_n 0, 1) := by decide +kernel
theorem dX6_in_7 : decode cX6_in 7 = .ok (.lload 4, 2) := by decide +kernel
theorem dX6_in_9 : decode cX6_in 9 = .ok (.lcmp, 1) := by decide +kernel
theorem dX6_in_10 : decode cX6_in 10 = .ok (.ifCond .gt 7, 3) := by decide +kernel
theorem dX6_in_13 : decode cX6_in 13 = .ok (.iconst 1, 1) := by decide +kernel
theorem dX6_in_14 : decode cX6_in 14 = .ok (.goto 4, 3) := by decide +kernel
theorem dX6_in_17 : decode cX6_in 17 = .ok (.iconst 0, 1) := by decide +kernel
theorem dX6_in_18 : decode cX6_in 18 = .ok (.ireturn, 1) := by decide +kernel
set_option maxRecDepth 20000 in
theorem ggX6_write_X6_in : GoodIn wsX6_write wsX6_in := goodIn_r _ [8] (by decide +kernel) (by decide +kernel)
set_option maxRecDepth 20000 in
theorem gX6_write_X6_in : GoodIn wsX6_write (va_wsS RX6 54 yX6_in wsX6_in) := goodIn_app (goodIn_of _ (by decide +kernel)) ggX6_write_X6_in
theorem dX6_write_0 : decode cX6_write 0 = .ok (.iload_n 1, 1) := by decide +kernel
theorem dX6_write_1 : decode cX6_write 1 = .ok (.i2l, 1) := by decide +kernel
theorem dX6_write_2 : decode cX6_write 2 = .ok (.ldc2_w 50, 3) := by decide +kernel
theorem dX6_write_5 : decode cX6_write 5 = .ok (.ldc2_w 52, 3) := by decide +kernel
theorem dX6_write_8 : decode cX6_write 8 = .ok (.invokestatic 54, 3) := by decide +kernel
theorem dX6_write_11 : decode cX6_write 11 = .ok (.ifCond .ne 5, 3) := by decide +kernel
theorem dX6_write_14 : decode cX6_write 14 = .ok (.iconst (-1), 1) := by decide +kernel
theorem dX6_write_15 : decode cX6_write 15 = .ok (.ireturn, 1) := by decide +kernel
theorem dX6_write_16 : decode cX6_write 16 = .ok (.aload_n 0, 1) := by decide +kernel
theorem dX6_write_17 : decode cX6_write 17 = .ok (.getfield 58, 3) := by decide +kernel
theorem dX6_write_20 : decode cX6_write 20 = .ok (.sipush 200, 3) := by decide +kernel
theorem dX6_write_23 : decode cX6_write 23 = .ok (.if_icmp .ne 6, 3) := by decide +kernel
theorem dX6_write_26 : decode cX6_write 26 = .ok (.bipush (-3), 2) := by decide +kernel
theorem dX6_write_28 : decode cX6_write 28 = .ok (.ireturn, 1) := by decide +kernel
theorem dX6_write_29 : decode cX6_write 29 = .ok (.aload_n 0, 1) := by decide +kernel
theorem dX6_write_30 : decode cX6_write 30 = .ok (.getfield 7, 3) := by decide +kernel
theorem dX6_write_33 : decode cX6_write 33 = .ok (.aload_n 0, 1) := by decide +kernel
theorem dX6_write_34 : decode cX6_write 34 = .ok (.getfield 58, 3) := by decide +kernel
theorem dX6_write_37 : decode cX6_write 37 = .ok (.iload_n 1, 1) := by decide +kernel
theorem dX6_write_38 : decode cX6_write 38 = .ok (.iastore, 1) := by decide +kernel
theorem dX6_write_39 : decode cX6_write 39 = .ok (.aload_n 0, 1) := by decide +kernel
theorem dX6_write_40 : decode cX6_write 40 = .ok (.dup, 1) := by decide +kernel
theorem dX6_write_41 : decode cX6_write 41 = .ok (.getfield 58, 3) := by decide +kernel
theorem dX6_write_44 : decode cX6_write 44 = .ok (.iconst 1, 1) := by decide +kernel
theorem dX6_write_45 : decode cX6_write 45 = .ok (.iadd, 1) := by decide +kernel
theorem dX6_write_46 : decode cX6_write 46 = .ok (.putfield 58, 3) := by decide +kernel
theorem dX6_write_49 : decode cX6_write 49 = .ok (.aload_n 0, 1) := by decide +kernel
theorem dX6_write_50 : decode cX6_write 50 = .ok (.getfield 58, 3) := by decide +kernel
theorem dX6_write_53 : decode cX6_write 53 = .ok (.ireturn, 1) := by decide +kernel
theorem dX6_wipe_0 : decode cX6_wipe 0 = .ok (.aload_n 0, 1) := by decide +kernel
theorem dX6_wipe_1 : decode cX6_wipe 1 = .ok (.getfield 58, 3) := by decide +kernel
theorem dX6_wipe_4 : decode cX6_wipe 4 = .ok (.istore_n 1, 1) := by decide +kernel
theorem dX6_wipe_5 : decode cX6_wipe 5 = .ok (.aload_n 0, 1) := by decide +kernel
theorem dX6_wipe_6 : decode cX6_wipe 6 = .ok (.iconst 0, 1) := by decide +kernel
theorem dX6_wipe_7 : decode cX6_wipe 7 = .ok (.putfield 58, 3) := by decide +kernel
theorem dX6_wipe_10 : decode cX6_wipe 10 = .ok (.iload_n 1, 1) := by decide +kernel
theorem dX6_wipe_11 : decode cX6_wipe 11 = .ok (.ireturn, 1) := by decide +kernel
theorem dX6_byteAt_0 : decode cX6_byteAt 0 = .ok (.iload_n 1, 1) := by decide +kernel
theorem dX6_byteAt_1 : decode cX6_byteAt 1 = .ok (.aload_n 0, 1) := by decide +kernel
theorem dX6_byteAt_2 : decode cX6_byteAt 2 = .ok (.getfield 58, 3) := by decide +kernel
theorem dX6_byteAt_5 : decode cX6_byteAt 5 = .ok (.if_icmp .ge 12, 3) := by decide +kernel
theorem dX6_byteAt_8 : decode cX6_byteAt 8 = .ok (.aload_n 0, 1) := by decide +kernel
theorem dX6_byteAt_9 : decode cX6_byteAt 9 = .ok (.getfield 7, 3) := by decide +kernel
theorem dX6_byteAt_12 : decode cX6_byteAt 12 = .ok (.iload_n 1, 1) := by decide +kernel
theorem dX6_byteAt_13 : decode cX6_byteAt 13 = .ok (.iaload, 1) := by decide +kernel
theorem dX6_byteAt_14 : decode cX6_byteAt 14 = .ok (.goto 4, 3) := by decide +kernel
theorem dX6_byteAt_17 : decode cX6_byteAt 17 = .ok (.iconst 0, 1) := by decide +kernel
theorem dX6_byteAt_18 : decode cX6_byteAt 18 = .ok (.ireturn, 1) := by decide +kernel
set_option maxRecDepth 20000 in
theorem ggX6_number_X6_byteAt : GoodIn wsX6_number wsX6_byteAt := goodIn_r _ [9, 10, 11, 15, 16, 17, 18, 19, 20, 21, 22, 23, 24, 25, 26] (by decide +kernel) (by decide +kernel)
set_option maxRecDepth 20000 in
theorem gX6_number_X6_byteAt : GoodIn wsX6_number (wsV RX6 64 RX6 yX6_byteAt wsX6_byteAt) := goodIn_app (goodIn_of _ (by decide +kernel)) ggX6_number_X6_byteAt
set_option maxRecDepth 20000 in
theorem ggX6_number_X6_in : GoodIn wsX6_number wsX6_in := goodIn_r _ [14] (by decide +kernel) (by decide +kernel)
set_option maxRecDepth 20000 in
theorem gX6_number_X6_in : GoodIn wsX6_number (va_wsS RX6 54 yX6_in wsX6_in) := goodIn_app (goodIn_of _ (by decide +kernel)) ggX6_number_X6_in
theorem dX6_number_0 : decode cX6_number 0 = .ok (.iconst 0, 1) := by decide +kernel
theorem dX6_number_1 : decode cX6_number 1 = .ok (.istore 5, 2) := by decide +kernel
theorem dX6_number_3 : decode cX6_number 3 = .ok (.iconst 0, 1) := by decide +kernel
theorem dX6_number_4 : decode cX6_number 4 = .ok (.istore 6, 2) := by decide +kernel
theorem dX6_number_6 : decode cX6_number 6 = .ok (.iload 6, 2) := by decide +kernel
theorem dX6_number_8 : decode cX6_number 8 = .ok (.iconst 2, 1) := by decide +kernel
theorem dX6_number_9 : decode cX6_number 9 = .ok (.if_icmp .ge 59, 3) := by decide +kernel
theorem dX6_number_12 : decode cX6_number 12 = .ok (.aload_n 0, 1) := by decide +kernel
theorem dX6_number_13 : decode cX6_number 13 = .ok (.aload_n 0, 1) := by decide +kernel
theorem dX6_number_14 : decode cX6_number 14 = .ok (.getfield 61, 3) := by decide +kernel
theorem dX6_number_17 : decode cX6_number 17 = .ok (.invokevirtual 64, 3) := by decide +kernel
theorem dX6_number_20 : decode cX6_number 20 = .ok (.i2l, 1) := by decide +kernel
theorem dX6_number_21 : decode cX6_number 21 = .ok (.ldc2_w 68, 3) := by decide +kernel
theorem dX6_number_24 : decode cX6_number 24 = .ok (.ldc2_w 70, 3) := by decide +kernel
theorem dX6_number_27 : decode cX6_number 27 = .ok (.invokestatic 54, 3) := by decide +kernel
theorem dX6_number_30 : decode cX6_number 30 = .ok (.ifCond .eq 38, 3) := by decide +kernel
theorem dX6_number_33 : decode cX6_number 33 = .ok (.bipush 10, 2) := by decide +kernel
theorem dX6_number_35 : decode cX6_number 35 = .ok (.iload 5, 2) := by decide +kernel
theorem dX6_number_37 : decode cX6_number 37 = .ok (.imul, 1) := by decide +kernel
theorem dX6_number_38 : decode cX6_number 38 = .ok (.aload_n 0, 1) := by decide +kernel
theorem dX6_number_39 : decode cX6_number 39 = .ok (.aload_n 0, 1) := by decide +kernel
theorem dX6_number_40 : decode cX6_number 40 = .ok (.getfield 61, 3) := by decide +kernel
theorem dX6_number_43 : decode cX6_number 43 = .ok (.invokevirtual 64, 3) := by decide +kernel
theorem dX6_number_46 : decode cX6_number 46 = .ok (.iadd, 1) := by decide +kernel
theorem dX6_number_47 : decode cX6_number 47 = .ok (.bipush 48, 2) := by decide +kernel
theorem dX6_number_49 : decode cX6_number 49 = .ok (.isub, 1) := by decide +kernel
theorem dX6_number_50 : decode cX6_number 50 = .ok (.istore 5, 2) := by decide +kernel
theorem dX6_number_52 : decode cX6_number 52 = .ok (.aload_n 0, 1) := by decide +kernel
theorem dX6_number_53 : decode cX6_number 53 = .ok (.dup, 1) := by decide +kernel
theorem dX6_number_54 : decode cX6_number 54 = .ok (.getfield 61, 3) := by decide +kernel
theorem dX6_number_57 : decode cX6_number 57 = .ok (.iconst 1, 1) := by decide +kernel
theorem dX6_number_58 : decode cX6_number 58 = .ok (.iadd, 1) := by decide +kernel
theorem dX6_number_59 : decode cX6_number 59 = .ok (.putfield 61, 3) := by decide +kernel
theorem dX6_number_62 : decode cX6_number 62 = .ok (.iinc 6 1, 3) := by decide +kernel
theorem dX6_number_65 : decode cX6_number 65 = .ok (.goto (-59), 3) := by decide +kernel
theorem dX6_number_68 : decode cX6_number 68 = .ok (.aload_n 0, 1) := by decide +kernel
theorem dX6_number_69 : decode cX6_number 69 = .ok (.getfield 16, 3) := by decide +kernel
theorem dX6_number_72 : decode cX6_number 72 = .ok (.iload_n 1, 1) := by decide +kernel
theorem dX6_number_73 : decode cX6_number 73 = .ok (.iload 5, 2) := by decide +kernel
theorem dX6_number_75 : decode cX6_number 75 = .ok (.iastore, 1) := by decide +kernel
theorem dX6_number_76 : decode cX6_number 76 = .ok (.iload 6, 2) := by decide +kernel
theorem dX6_number_78 : decode cX6_number 78 = .ok (.ifCond .le 33, 3) := by decide +kernel
theorem dX6_number_81 : decode cX6_number 81 = .ok (.iload 5, 2) := by decide +kernel
theorem dX6_number_83 : decode cX6_number 83 = .ok (.i2l, 1) := by decide +kernel
theorem dX6_number_84 : decode cX6_number 84 = .ok (.iload_n 2, 1) := by decide +kernel
theorem dX6_number_85 : decode cX6_number 85 = .ok (.i2l, 1) := by decide +kernel
theorem dX6_number_86 : decode cX6_number 86 = .ok (.iload_n 3, 1) := by decide +kernel
theorem dX6_number_87 : decode cX6_number 87 = .ok (.i2l, 1) := by decide +kernel
theorem dX6_number_88 : decode cX6_number 88 = .ok (.invokestatic 54, 3) := by decide +kernel
theorem dX6_number_91 : decode cX6_number 91 = .ok (.ifCond .eq 20, 3) := by decide +kernel
theorem dX6_number_94 : decode cX6_number 94 = .ok (.aload_n 0, 1) := by decide +kernel
theorem dX6_number_95 : decode cX6_number 95 = .ok (.aload_n 0, 1) := by decide +kernel
theorem dX6_number_96 : decode cX6_number 96 = .ok (.getfield 61, 3) := by decide +kernel
theorem dX6_number_99 : decode cX6_number 99 = .ok (.invokevirtual 64, 3) := by decide +kernel
theorem dX6_number_102 : decode cX6_number 102 = .ok (.iload 4, 2) := by decide +kernel
theorem dX6_number_104 : decode cX6_number 104 = .ok (.if_icmp .ne 7, 3) := by decide +kernel
theorem dX6_number_107 : decode cX6_number 107 = .ok (.iconst 1, 1) := by decide +kernel
theorem dX6_number_108 : decode cX6_number 108 = .ok (.goto 4, 3) := by decide +kernel
theorem dX6_number_111 : decode cX6_number 111 = .ok (.iconst 0, 1) := by decide +kernel
theorem dX6_number_112 : decode cX6_number 112 = .ok (.istore 7, 2) := by decide +kernel
theorem dX6_number_114 : decode cX6_number 114 = .ok (.aload_n 0, 1) := by decide +kernel
theorem dX6_number_115 : decode cX6_number 115 = .ok (.dup, 1) := by decide +kernel
theorem dX6_number_116 : decode cX6_number 116 = .ok (.getfield 61, 3) := by decide +kernel
theorem dX6_number_119 : decode cX6_number 119 = .ok (.iconst 1, 1) := by decide +kernel
theorem dX6_number_120 : decode cX6_number 120 = .ok (.iadd, 1) := by decide +kernel
theorem dX6_number_121 : decode cX6_number 121 = .ok (.putfield 61, 3) := by decide +kernel
theorem dX6_number_124 : decode cX6_number 124 = .ok (.iload 7, 2) := by decide +kernel
theorem dX6_number_126 : decode cX6_number 126 = .ok (.ireturn, 1) := by decide +kernel
set_option maxRecDepth 20000 in
theorem ggX6_item_X6_number : GoodIn wsX6_item wsX6_number := goodIn_r _ [6, 7, 8, 9, 1, 10, 11, 12, 5, 13, 14, 15, 16, 17, 18, 19, 20, 21, 22, 23, 24, 25, 26, 27, 28, 29, 30] (by decide +kernel) (by decide +kernel)
set_option maxRecDepth 20000 in
theorem gX6_item_X6_number : GoodIn wsX6_item (wsV RX6 72 RX6 yX6_number wsX6_number) := goodIn_app (goodIn_of _ (by decide +kernel)) ggX6_item_X6_number
theorem dX6_item_0 : decode cX6_item 0 = .ok (.iload_n 1, 1) := by decide +kernel
theorem dX6_item_1 : decode cX6_item 1 = .ok (.lookupswitch 306 #[(100, 43), (101, 124), (116, 224), (118, 294)], 43) := by decide +kernel
theorem dX6_item_44 : decode cX6_item 44 = .ok (.aload_n 0, 1) := by decide +kernel
theorem dX6_item_45 : decode cX6_item 45 = .ok (.getfield 16, 3) := by decide +kernel
theorem dX6_item_48 : decode cX6_item 48 = .ok (.bipush 60, 2) := by decide +kernel
theorem dX6_item_50 : decode cX6_item 50 = .ok (.iaload, 1) := by decide +kernel
theorem dX6_item_51 : decode cX6_item 51 = .ok (.bipush 12, 2) := by decide +kernel
theorem dX6_item_53 : decode cX6_item 53 = .ok (.if_icmp .ne 5, 3) := by decide +kernel
theorem dX6_item_56 : decode cX6_item 56 = .ok (.iconst 0, 1) := by decide +kernel
theorem dX6_item_57 : decode cX6_item 57 = .ok (.ireturn, 1) := by decide +kernel
theorem dX6_item_58 : decode cX6_item 58 = .ok (.iconst 3, 1) := by decide +kernel
theorem dX6_item_59 : decode cX6_item 59 = .ok (.aload_n 0, 1) := by decide +kernel
theorem dX6_item_60 : decode cX6_item 60 = .ok (.getfield 16, 3) := by decide +kernel
theorem dX6_item_63 : decode cX6_item 63 = .ok (.bipush 60, 2) := by decide +kernel
theorem dX6_item_65 : decode cX6_item 65 = .ok (.iaload, 1) := by decide +kernel
theorem dX6_item_66 : decode cX6_item 66 = .ok (.imul, 1) := by decide +kernel
theorem dX6_item_67 : decode cX6_item 67 = .ok (.istore_n 2, 1) := by decide +kernel
theorem dX6_item_68 : decode cX6_item 68 = .ok (.aload_n 0, 1) := by decide +kernel
theorem dX6_item_69 : decode cX6_item 69 = .ok (.getfield 16, 3) := by decide +kernel
theorem dX6_item_72 : decode cX6_item 72 = .ok (.bipush 60, 2) := by decide +kernel
theorem dX6_item_74 : decode cX6_item 74 = .ok (.dup2, 1) := by decide +kernel
theorem dX6_item_75 : decode cX6_item 75 = .ok (.iaload, 1) := by decide +kernel
theorem dX6_item_76 : decode cX6_item 76 = .ok (.iconst 1, 1) := by decide +kernel
theorem dX6_item_77 : decode cX6_item 77 = .ok (.iadd, 1) := by decide +kernel
theorem dX6_item_78 : decode cX6_item 78 = .ok (.iastore, 1) := by decide +kernel
theorem dX6_item_79 : decode cX6_item 79 = .ok (.aload_n 0, 1) := by decide +kernel
theorem dX6_item_80 : decode cX6_item 80 = .ok (.iload_n 2, 1) := by decide +kernel
theorem dX6_item_81 : decode cX6_item 81 = .ok (.iconst 0, 1) := by decide +kernel
theorem dX6_item_82 : decode cX6_item 82 = .ok (.iconst 3, 1) := by decide +kernel
theorem dX6_item_83 : decode cX6_item 83 = .ok (.bipush 44, 2) := by decide +kernel
theorem dX6_item_85 : decode cX6_item 85 = .ok (.invokevirtual 72, 3) := by decide +kernel
theorem dX6_item_88 : decode cX6_item 88 = .ok (.ifCond .eq 35, 3) := by decide +kernel
theorem dX6_item_91 : decode cX6_item 91 = .ok (.aload_n 0, 1) := by decide +kernel
theorem dX6_item_92 : decode cX6_item 92 = .ok (.iload_n 2, 1) := by decide +kernel
theorem dX6_item_93 : decode cX6_item 93 = .ok (.iconst 1, 1) := by decide +kernel
theorem dX6_item_94 : decode cX6_item 94 = .ok (.iadd, 1) := by decide +kernel
theorem dX6_item_95 : decode cX6_item 95 = .ok (.iconst 0, 1) := by decide +kernel
theorem dX6_item_96 : decode cX6_item 96 = .ok (.iconst 5, 1) := by decide +kernel
theorem dX6_item_97 : decode cX6_item 97 = .ok (.bipush 44, 2) := by decide +kernel
theorem dX6_item_99 : decode cX6_item 99 = .ok (.invokevirtual 72, 3) := by decide +kernel
theorem dX6_item_102 : decode cX6_item 102 = .ok (.ifCond .eq 21, 3) := by decide +kernel
theorem dX6_item_105 : decode cX6_item 105 = .ok (.aload_n 0, 1) := by decide +kernel
theorem dX6_item_106 : decode cX6_item 106 = .ok (.iload_n 2, 1) := by decide +kernel
theorem dX6_item_107 : decode cX6_item 107 = .ok (.iconst 2, 1) := by decide +kernel
theorem dX6_item_108 : decode cX6_item 108 = .ok (.iadd, 1) := by decide +kernel
theorem dX6_item_109 : decode cX6_item 109 = .ok (.iconst 0, 1) := by decide +kernel
theorem dX6_item_110 : decode cX6_item 110 = .ok (.iconst 1, 1) := by decide +kernel
theorem dX6_item_111 : decode cX6_item 111 = .ok (.bipush 59, 2) := by decide +kernel
theorem dX6_item_113 : decode cX6_item 113 = .ok (.invokevirtual 72, 3) := by decide +kernel
theorem dX6_item_116 : decode cX6_item 116 = .ok (.ifCond .eq 7, 3) := by decide +kernel
theorem dX6_item_119 : decode cX6_item 119 = .ok (.iconst 1, 1) := by decide +kernel
theorem dX6_item_120 : decode cX6_item 120 = .ok (.goto 4, 3) := by decide +kernel
theorem dX6_item_123 : decode cX6_item 123 = .ok (.iconst 0, 1) := by decide +kernel
theorem dX6_item_124 : decode cX6_item 124 = .ok (.ireturn, 1) := by decide +kernel
theorem dX6_item_125 : decode cX6_item 125 = .ok (.aload_n 0, 1) := by decide +kernel
theorem dX6_item_126 : decode cX6_item 126 = .ok (.getfield 16, 3) := by decide +kernel
theorem dX6_item_129 : decode cX6_item 129 = .ok (.bipush 61, 2) := by decide +kernel
theorem dX6_item_131 : decode cX6_item 131 = .ok (.iaload, 1) := by decide +kernel
theorem dX6_item_132 : decode cX6_item 132 = .ok (.bipush 6, 2) := by decide +kernel
theorem dX6_item_134 : decode cX6_item 134 = .ok (.if_icmp .ne 5, 3) := by decide +kernel
theorem dX6_item_137 : decode cX6_item 137 = .ok (.iconst 0, 1) := by decide +kernel
theorem dX6_item_138 : decode cX6_item 138 = .ok (.ireturn, 1) := by decide +kernel
theorem dX6_item_139 : decode cX6_item 139 = .ok (.bipush 36, 2) := by decide +kernel
theorem dX6_item_141 : decode cX6_item 141 = .ok (.iconst 4, 1) := by decide +kernel
theorem dX6_item_142 : decode cX6_item 142 = .ok (.aload_n 0, 1) := by decide +kernel
theorem dX6_item_143 : decode cX6_item 143 = .ok (.getfield 16, 3) := by decide +kernel
theorem dX6_item_146 : decode cX6_item 146 = .ok (.bipush 61, 2) := by decide +kernel
theorem dX6_item_148 : decode cX6_item 148 = .ok (.iaload, 1) := by decide +kernel
theorem dX6_item_149 : decode cX6_item 149 = .ok (.imul, 1) := by decide +kernel
theorem dX6_item_150 : decode cX6_item 150 = .ok (.iadd, 1) := by decide +kernel
theorem dX6_item_151 : decode cX6_item 151 = .ok (.istore_n 2, 1) := by decide +kernel
theorem dX6_item_152 : decode cX6_item 152 = .ok (.aload_n 0, 1) := by decide +kernel
theorem dX6_item_153 : decode cX6_item 153 = .ok (.getfield 16, 3) := by decide +kernel
theorem dX6_item_156 : decode cX6_item 156 = .ok (.bipush 61, 2) := by decide +kernel
theorem dX6_item_158 : decode cX6_item 158 = .ok (.dup2, 1) := by decide +kernel
theorem dX6_item_159 : decode cX6_item 159 = .ok (.iaload, 1) := by decide +kernel
theorem dX6_item_160 : decode cX6_item 160 = .ok (.iconst 1, 1) := by decide +kernel
theorem dX6_item_161 : decode cX6_item 161 = .ok (.iadd, 1) := by decide +kernel
theorem dX6_item_162 : decode cX6_item 162 = .ok (.iastore, 1) := by decide +kernel
theorem dX6_item_163 : decode cX6_item 163 = .ok (.aload_n 0, 1) := by decide +kernel
theorem dX6_item_164 : decode cX6_item 164 = .ok (.iload_n 2, 1) := by decide +kernel
theorem dX6_item_165 : decode cX6_item 165 = .ok (.iconst 0, 1) := by decide +kernel
theorem dX6_item_166 : decode cX6_item 166 = .ok (.iconst 2, 1) := by decide +kernel
theorem dX6_item_167 : decode cX6_item 167 = .ok (.bipush 44, 2) := by decide +kernel
theorem dX6_item_169 : decode cX6_item 169 = .ok (.invokevirtual 72, 3) := by decide +kernel
theorem dX6_item_172 : decode cX6_item 172 = .ok (.ifCond .eq 51, 3) := by decide +kernel
theorem dX6_item_175 : decode cX6_item 175 = .ok (.aload_n 0, 1) := by decide +kernel
theorem dX6_item_176 : decode cX6_item 176 = .ok (.iload_n 2, 1) := by decide +kernel
theorem dX6_item_177 : decode cX6_item 177 = .ok (.iconst 1, 1) := by decide +kernel
theorem dX6_item_178 : decode cX6_item 178 = .ok (.iadd, 1) := by decide +kernel
theorem dX6_item_179 : decode cX6_item 179 = .ok (.iconst 1, 1) := by decide +kernel
theorem dX6_item_180 : decode cX6_item 180 = .ok (.bipush 63, 2) := by decide +kernel
theorem dX6_item_182 : decode cX6_item 182 = .ok (.bipush 44, 2) := by decide +kernel
theorem dX6_item_184 : decode cX6_item 184 = .ok (.invokevirtual 72, 3) := by decide +kernel
theorem dX6_item_187 : decode cX6_item 187 = .ok (.ifCond .eq 36, 3) := by decide +kernel
theorem dX6_item_190 : decode cX6_item 190 = .ok (.aload_n 0, 1) := by decide +kernel
theorem dX6_item_191 : decode cX6_item 191 = .ok (.iload_n 2, 1) := by decide +kernel
theorem dX6_item_192 : decode cX6_item 192 = .ok (.iconst 2, 1) := by decide +kernel
theorem dX6_item_193 : decode cX6_item 193 = .ok (.iadd, 1) := by decide +kernel
theorem dX6_item_194 : decode cX6_item 194 = .ok (.iconst 0, 1) := by decide +kernel
theorem dX6_item_195 : decode cX6_item 195 = .ok (.bipush 9, 2) := by decide +kernel
theorem dX6_item_197 : decode cX6_item 197 = .ok (.bipush 44, 2) := by decide +kernel
theorem dX6_item_199 : decode cX6_item 199 = .ok (.invokevirtual 72, 3) := by decide +kernel
theorem dX6_item_202 : decode cX6_item 202 = .ok (.ifCond .eq 21, 3) := by decide +kernel
theorem dX6_item_205 : decode cX6_item 205 = .ok (.aload_n 0, 1) := by decide +kernel
theorem dX6_item_206 : decode cX6_item 206 = .ok (.iload_n 2, 1) := by decide +kernel
theorem dX6_item_207 : decode cX6_item 207 = .ok (.iconst 3, 1) := by decide +kernel
theorem dX6_item_208 : decode cX6_item 208 = .ok (.iadd, 1) := by decide +kernel
theorem dX6_item_209 : decode cX6_item 209 = .ok (.iconst 0, 1) := by decide +kernel
theorem dX6_item_210 : decode cX6_item 210 = .ok (.iconst 1, 1) := by decide +kernel
theorem dX6_item_211 : decode cX6_item 211 = .ok (.bipush 59, 2) := by decide +kernel
theorem dX6_item_213 : decode cX6_item 213 = .ok (.invokevirtual 72, 3) := by decide +kernel
theorem dX6_item_216 : decode cX6_item 216 = .ok (.ifCond .eq 7, 3) := by decide +kernel
theorem dX6_item_219 : decode cX6_item 219 = .ok (.iconst 1, 1) := by decide +kernel
theorem dX6_item_220 : decode cX6_item 220 = .ok (.goto 4, 3) := by decide +kernel
theorem dX6_item_223 : decode cX6_item 223 = .ok (.iconst 0, 1) := by decide +kernel
theorem dX6_item_224 : decode cX6_item 224 = .ok (.ireturn, 1) := by decide +kernel
theorem dX6_item_225 : decode cX6_item 225 = .ok (.aload_n 0, 1) := by decide +kernel
theorem dX6_item_226 : decode cX6_item 226 = .ok (.bipush 62, 2) := by decide +kernel
theorem dX6_item_228 : decode cX6_item 228 = .ok (.iconst 1, 1) := by decide +kernel
theorem dX6_item_229 : decode cX6_item 229 = .ok (.bipush 90, 2) := by decide +kernel
theorem dX6_item_231 : decode cX6_item 231 = .ok (.bipush 44, 2) := by decide +kernel
theorem dX6_item_233 : decode cX6_item 233 = .ok (.invokevirtual 72, 3) := by decide +kernel
theorem dX6_item_236 : decode cX6_item 236 = .ok (.ifCond .eq 57, 3) := by decide +kernel
theorem dX6_item_239 : decode cX6_item 239 = .ok (.aload_n 0, 1) := by decide +kernel
theorem dX6_item_240 : decode cX6_item 240 = .ok (.bipush 63, 2) := by decide +kernel
theorem dX6_item_242 : decode cX6_item 242 = .ok (.aload_n 0, 1) := by decide +kernel
theorem dX6_item_243 : decode cX6_item 243 = .ok (.getfield 16, 3) := by decide +kernel
theorem dX6_item_246 : decode cX6_item 246 = .ok (.bipush 62, 2) := by decide +kernel
theorem dX6_item_248 : decode cX6_item 248 = .ok (.iaload, 1) := by decide +kernel
theorem dX6_item_249 : decode cX6_item 249 = .ok (.iconst 1, 1) := by decide +kernel
theorem dX6_item_250 : decode cX6_item 250 = .ok (.iadd, 1) := by decide +kernel
theorem dX6_item_251 : decode cX6_item 251 = .ok (.bipush 99, 2) := by decide +kernel
theorem dX6_item_253 : decode cX6_item 253 = .ok (.bipush 44, 2) := by decide +kernel
theorem dX6_item_255 : decode cX6_item 255 = .ok (.invokevirtual 72, 3) := by decide +kernel
theorem dX6_item_258 : decode cX6_item 258 = .ok (.ifCond .eq 35, 3) := by decide +kernel
theorem dX6_item_261 : decode cX6_item 261 = .ok (.aload_n 0, 1) := by decide +kernel
theorem dX6_item_262 : decode cX6_item 262 = .ok (.bipush 64, 2) := by decide +kernel
theorem dX6_item_264 : decode cX6_item 264 = .ok (.iconst 0, 1) := by decide +kernel
theorem dX6_item_265 : decode cX6_item 265 = .ok (.bipush 9, 2) := by decide +kernel
theorem dX6_item_267 : decode cX6_item 267 = .ok (.bipush 44, 2) := by decide +kernel
theorem dX6_item_269 : decode cX6_item 269 = .ok (.invokevirtual 72, 3) := by decide +kernel
theorem dX6_item_272 : decode cX6_item 272 = .ok (.ifCond .eq 21, 3) := by decide +kernel
theorem dX6_item_275 : decode cX6_item 275 = .ok (.aload_n 0, 1) := by decide +kernel
theorem dX6_item_276 : decode cX6_item 276 = .ok (.bipush 65, 2) := by decide +kernel
theorem dX6_item_278 : decode cX6_item 278 = .ok (.iconst 1, 1) := by decide +kernel
theorem dX6_item_279 : decode cX6_item 279 = .ok (.bipush 9, 2) := by decide +kernel
theorem dX6_item_281 : decode cX6_item 281 = .ok (.bipush 59, 2) := by decide +kernel
theorem dX6_item_283 : decode cX6_item 283 = .ok (.invokevirtual 72, 3) := by decide +kernel
theorem dX6_item_286 : decode cX6_item 286 = .ok (.ifCond .eq 7, 3) := by decide +kernel
theorem dX6_item_289 : decode cX6_item 289 = .ok (.iconst 1, 1) := by decide +kernel
theorem dX6_item_290 : decode cX6_item 290 = .ok (.goto 4, 3) := by decide +kernel
theorem dX6_item_293 : decode cX6_item 293 = .ok (.iconst 0, 1) := by decide +kernel
theorem dX6_item_294 : decode cX6_item 294 = .ok (.ireturn, 1) := by decide +kernel
theorem dX6_item_295 : decode cX6_item 295 = .ok (.aload_n 0, 1) := by decide +kernel
theorem dX6_item_296 : decode cX6_item 296 = .ok (.bipush 66, 2) := by decide +kernel
theorem dX6_item_298 : decode cX6_item 298 = .ok (.iconst 1, 1) := by decide +kernel
theorem dX6_item_299 : decode cX6_item 299 = .ok (.bipush 9, 2) := by decide +kernel
theorem dX6_item_301 : decode cX6_item 301 = .ok (.bipush 59, 2) := by decide +kernel
theorem dX6_item_303 : decode cX6_item 303 = .ok (.invokevirtual 72, 3) := by decide +kernel
theorem dX6_item_306 : decode cX6_item 306 = .ok (.ireturn, 1) := by decide +kernel
theorem dX6_item_307 : decode cX6_item 307 = .ok (.iconst 0, 1) := by decide +kernel
theorem dX6_item_308 : decode cX6_item 308 = .ok (.ireturn, 1) := by decide +kernel
set_option maxRecDepth 20000 in
theorem ggX6_fault_X6_begins : GoodIn wsX6_fault wsX6_begins := goodIn_r _ [8] (by decide +kernel) (by decide +kernel)
set_option maxRecDepth 20000 in
theorem gX6_fault_X6_begins : GoodIn wsX6_fault (va_wsS RX6 32 yX6_begins wsX6_begins) := goodIn_app (goodIn_of _ (by decide +kernel)) ggX6_fault_X6_begins
set_option maxRecDepth 20000 in
theorem ggX6_fault_X6_item : GoodIn wsX6_fault wsX6_item := goodIn_r _ [12, 1, 13, 14, 15, 7, 16, 2, 17, 18, 19, 20, 21, 22, 3, 4, 23, 24, 25, 26, 27, 28, 29, 30, 31, 32, 33, 34, 35, 36, 37] (by decide +kernel) (by decide +kernel)
set_option maxRecDepth 20000 in
theorem gX6_fault_X6_item : GoodIn wsX6_fault (wsV RX6 76 RX6 yX6_item wsX6_item) := goodIn_app (goodIn_of _ (by decide +kernel)) ggX6_fault_X6_item
theorem dX6_fault_0 : decode cX6_fault 0 = .ok (.aload_n 0, 1) := by decide +kernel
theorem dX6_fault_1 : decode cX6_fault 1 = .ok (.getfield 16, 3) := by decide +kernel
theorem dX6_fault_4 : decode cX6_fault 4 = .ok (.invokestatic 32, 3) := by decide +kernel
theorem dX6_fault_7 : decode cX6_fault 7 = .ok (.aload_n 0, 1) := by decide +kernel
theorem dX6_fault_8 : decode cX6_fault 8 = .ok (.iconst 0, 1) := by decide +kernel
theorem dX6_fault_9 : decode cX6_fault 9 = .ok (.putfield 61, 3) := by decide +kernel
theorem dX6_fault_12 : decode cX6_fault 12 = .ok (.aload_n 0, 1) := by decide +kernel
theorem dX6_fault_13 : decode cX6_fault 13 = .ok (.getfield 61, 3) := by decide +kernel
theorem dX6_fault_16 : decode cX6_fault 16 = .ok (.aload_n 0, 1) := by decide +kernel
theorem dX6_fault_17 : decode cX6_fault 17 = .ok (.getfield 58, 3) := by decide +kernel
theorem dX6_fault_20 : decode cX6_fault 20 = .ok (.if_icmp .ge 36, 3) := by decide +kernel
theorem dX6_fault_23 : decode cX6_fault 23 = .ok (.aload_n 0, 1) := by decide +kernel
theorem dX6_fault_24 : decode cX6_fault 24 = .ok (.getfield 61, 3) := by decide +kernel
theorem dX6_fault_27 : decode cX6_fault 27 = .ok (.istore_n 1, 1) := by decide +kernel
theorem dX6_fault_28 : decode cX6_fault 28 = .ok (.aload_n 0, 1) := by decide +kernel
theorem dX6_fault_29 : decode cX6_fault 29 = .ok (.dup, 1) := by decide +kernel
theorem dX6_fault_30 : decode cX6_fault 30 = .ok (.getfield 61, 3) := by decide +kernel
theorem dX6_fault_33 : decode cX6_fault 33 = .ok (.iconst 1, 1) := by decide +kernel
theorem dX6_fault_34 : decode cX6_fault 34 = .ok (.iadd, 1) := by decide +kernel
theorem dX6_fault_35 : decode cX6_fault 35 = .ok (.putfield 61, 3) := by decide +kernel
theorem dX6_fault_38 : decode cX6_fault 38 = .ok (.aload_n 0, 1) := by decide +kernel
theorem dX6_fault_39 : decode cX6_fault 39 = .ok (.aload_n 0, 1) := by decide +kernel
theorem dX6_fault_40 : decode cX6_fault 40 = .ok (.getfield 7, 3) := by decide +kernel
theorem dX6_fault_43 : decode cX6_fault 43 = .ok (.iload_n 1, 1) := by decide +kernel
theorem dX6_fault_44 : decode cX6_fault 44 = .ok (.iaload, 1) := by decide +kernel
theorem dX6_fault_45 : decode cX6_fault 45 = .ok (.invokevirtual 76, 3) := by decide +kernel
theorem dX6_fault_48 : decode cX6_fault 48 = .ok (.ifCond .ne 5, 3) := by decide +kernel
theorem dX6_fault_51 : decode cX6_fault 51 = .ok (.iload_n 1, 1) := by decide +kernel
theorem dX6_fault_52 : decode cX6_fault 52 = .ok (.ireturn, 1) := by decide +kernel
theorem dX6_fault_53 : decode cX6_fault 53 = .ok (.goto (-41), 3) := by decide +kernel
theorem dX6_fault_56 : decode cX6_fault 56 = .ok (.bipush (-4), 2) := by decide +kernel
theorem dX6_fault_58 : decode cX6_fault 58 = .ok (.ireturn, 1) := by decide +kernel
set_option maxRecDepth 20000 in
theorem ggX6_lay_X6_fault : GoodIn wsX6_lay wsX6_fault := goodIn_r _ [7, 1, 8, 9, 10, 11, 12, 6, 13, 14, 15, 16, 17, 18, 19, 20, 21, 22, 23, 24, 25, 26, 27, 28, 29, 30, 37, 38, 39, 40, 41, 42, 43, 44, 45, 46, 47, 48] (by decide +kernel) (by decide +kernel)
set_option maxRecDepth 20000 in
theorem gX6_lay_X6_fault : GoodIn wsX6_lay (wsV RX6 80 RX6 yX6_fault wsX6_fault) := goodIn_app (goodIn_of _ (by decide +kernel)) ggX6_lay_X6_fault
set_option maxRecDepth 20000 in
theorem ggX6_lay_X6_anew : GoodIn wsX6_lay wsX6_anew := goodIn_r _ [34, 35, 36, 37, 38, 39, 40, 41, 42, 43, 44, 45, 46, 47, 48] (by decide +kernel) (by decide +kernel)
set_option maxRecDepth 20000 in
theorem gX6_lay_X6_anew : GoodIn wsX6_lay (wsV RX6 44 RX6 yX6_anew wsX6_anew) := goodIn_app (goodIn_of _ (by decide +kernel)) ggX6_lay_X6_anew
theorem dX6_lay_0 : decode cX6_lay 0 = .ok (.aload_n 0, 1) := by decide +kernel
theorem dX6_lay_1 : decode cX6_lay 1 = .ok (.invokevirtual 80, 3) := by decide +kernel
theorem dX6_lay_4 : decode cX6_lay 4 = .ok (.bipush (-4), 2) := by decide +kernel
theorem dX6_lay_6 : decode cX6_lay 6 = .ok (.if_icmp .ne 13, 3) := by decide +kernel
theorem dX6_lay_9 : decode cX6_lay 9 = .ok (.aload_n 0, 1) := by decide +kernel
theorem dX6_lay_10 : decode cX6_lay 10 = .ok (.getfield 16, 3) := by decide +kernel
theorem dX6_lay_13 : decode cX6_lay 13 = .ok (.bipush 60, 2) := by decide +kernel
theorem dX6_lay_15 : decode cX6_lay 15 = .ok (.iaload, 1) := by decide +kernel
theorem dX6_lay_16 : decode cX6_lay 16 = .ok (.ifCond .ne 6, 3) := by decide +kernel
theorem dX6_lay_19 : decode cX6_lay 19 = .ok (.bipush (-2), 2) := by decide +kernel
theorem dX6_lay_21 : decode cX6_lay 21 = .ok (.ireturn, 1) := by decide +kernel
theorem dX6_lay_22 : decode cX6_lay 22 = .ok (.iconst 0, 1) := by decide +kernel
theorem dX6_lay_23 : decode cX6_lay 23 = .ok (.istore_n 1, 1) := by decide +kernel
theorem dX6_lay_24 : decode cX6_lay 24 = .ok (.iload_n 1, 1) := by decide +kernel
theorem dX6_lay_25 : decode cX6_lay 25 = .ok (.bipush 67, 2) := by decide +kernel
theorem dX6_lay_27 : decode cX6_lay 27 = .ok (.if_icmp .ge 21, 3) := by decide +kernel
theorem dX6_lay_30 : decode cX6_lay 30 = .ok (.aload_n 0, 1) := by decide +kernel
theorem dX6_lay_31 : decode cX6_lay 31 = .ok (.getfield 13, 3) := by decide +kernel
theorem dX6_lay_34 : decode cX6_lay 34 = .ok (.iload_n 1, 1) := by decide +kernel
theorem dX6_lay_35 : decode cX6_lay 35 = .ok (.aload_n 0, 1) := by decide +kernel
theorem dX6_lay_36 : decode cX6_lay 36 = .ok (.getfield 16, 3) := by decide +kernel
theorem dX6_lay_39 : decode cX6_lay 39 = .ok (.iload_n 1, 1) := by decide +kernel
theorem dX6_lay_40 : decode cX6_lay 40 = .ok (.iaload, 1) := by decide +kernel
theorem dX6_lay_41 : decode cX6_lay 41 = .ok (.iastore, 1) := by decide +kernel
theorem dX6_lay_42 : decode cX6_lay 42 = .ok (.iinc 1 1, 3) := by decide +kernel
theorem dX6_lay_45 : decode cX6_lay 45 = .ok (.goto (-21), 3) := by decide +kernel
theorem dX6_lay_48 : decode cX6_lay 48 = .ok (.aload_n 0, 1) := by decide +kernel
theorem dX6_lay_49 : decode cX6_lay 49 = .ok (.invokevirtual 44, 3) := by decide +kernel
theorem dX6_lay_52 : decode cX6_lay 52 = .ok (.aload_n 0, 1) := by decide +kernel
theorem dX6_lay_53 : decode cX6_lay 53 = .ok (.getfield 13, 3) := by decide +kernel
theorem dX6_lay_56 : decode cX6_lay 56 = .ok (.bipush 60, 2) := by decide +kernel
theorem dX6_lay_58 : decode cX6_lay 58 = .ok (.iaload, 1) := by decide +kernel
theorem dX6_lay_59 : decode cX6_lay 59 = .ok (.ireturn, 1) := by decide +kernel
theorem dX6_note_0 : decode cX6_note 0 = .ok (.aload_n 0, 1) := by decide +kernel
theorem dX6_note_1 : decode cX6_note 1 = .ok (.getfield 47, 3) := by decide +kernel
theorem dX6_note_4 : decode cX6_note 4 = .ok (.bipush 6, 2) := by decide +kernel
theorem dX6_note_6 : decode cX6_note 6 = .ok (.if_icmp .ne 43, 3) := by decide +kernel
theorem dX6_note_9 : decode cX6_note 9 = .ok (.iconst 0, 1) := by decide +kernel
theorem dX6_note_10 : decode cX6_note 10 = .ok (.istore_n 1, 1) := by decide +kernel
theorem dX6_note_11 : decode cX6_note 11 = .ok (.iload_n 1, 1) := by decide +kernel
theorem dX6_note_12 : decode cX6_note 12 = .ok (.sipush 435, 3) := by decide +kernel
theorem dX6_note_15 : decode cX6_note 15 = .ok (.if_icmp .ge 24, 3) := by decide +kernel
theorem dX6_note_18 : decode cX6_note 18 = .ok (.aload_n 0, 1) := by decide +kernel
theorem dX6_note_19 : decode cX6_note 19 = .ok (.getfield 22, 3) := by decide +kernel
theorem dX6_note_22 : decode cX6_note 22 = .ok (.iload_n 1, 1) := by decide +kernel
theorem dX6_note_23 : decode cX6_note 23 = .ok (.aload_n 0, 1) := by decide +kernel
theorem dX6_note_24 : decode cX6_note 24 = .ok (.getfield 22, 3) := by decide +kernel
theorem dX6_note_27 : decode cX6_note 27 = .ok (.bipush 87, 2) := by decide +kernel
theorem dX6_note_29 : decode cX6_note 29 = .ok (.iload_n 1, 1) := by decide +kernel
theorem dX6_note_30 : decode cX6_note 30 = .ok (.iadd, 1) := by decide +kernel
theorem dX6_note_31 : decode cX6_note 31 = .ok (.iaload, 1) := by decide +kernel
theorem dX6_note_32 : decode cX6_note 32 = .ok (.iastore, 1) := by decide +kernel
theorem dX6_note_33 : decode cX6_note 33 = .ok (.iinc 1 1, 3) := by decide +kernel
theorem dX6_note_36 : decode cX6_note 36 = .ok (.goto (-25), 3) := by decide +kernel
theorem dX6_note_39 : decode cX6_note 39 = .ok (.aload_n 0, 1) := by decide +kernel
theorem dX6_note_40 : decode cX6_note 40 = .ok (.dup, 1) := by decide +kernel
theorem dX6_note_41 : decode cX6_note 41 = .ok (.getfield 47, 3) := by decide +kernel
theorem dX6_note_44 : decode cX6_note 44 = .ok (.iconst 1, 1) := by decide +kernel
theorem dX6_note_45 : decode cX6_note 45 = .ok (.isub, 1) := by decide +kernel
theorem dX6_note_46 : decode cX6_note 46 = .ok (.putfield 47, 3) := by decide +kernel
theorem dX6_note_49 : decode cX6_note 49 = .ok (.iconst 0, 1) := by decide +kernel
theorem dX6_note_50 : decode cX6_note 50 = .ok (.istore_n 1, 1) := by decide +kernel
theorem dX6_note_51 : decode cX6_note 51 = .ok (.iload_n 1, 1) := by decide +kernel
theorem dX6_note_52 : decode cX6_note 52 = .ok (.bipush 87, 2) := by decide +kernel
theorem dX6_note_54 : decode cX6_note 54 = .ok (.if_icmp .ge 29, 3) := by decide +kernel
theorem dX6_note_57 : decode cX6_note 57 = .ok (.aload_n 0, 1) := by decide +kernel
theorem dX6_note_58 : decode cX6_note 58 = .ok (.getfield 22, 3) := by decide +kernel
theorem dX6_note_61 : decode cX6_note 61 = .ok (.bipush 87, 2) := by decide +kernel
theorem dX6_note_63 : decode cX6_note 63 = .ok (.aload_n 0, 1) := by decide +kernel
theorem dX6_note_64 : decode cX6_note 64 = .ok (.getfield 47, 3) := by decide +kernel
theorem dX6_note_67 : decode cX6_note 67 = .ok (.imul, 1) := by decide +kernel
theorem dX6_note_68 : decode cX6_note 68 = .ok (.iload_n 1, 1) := by decide +kernel
theorem dX6_note_69 : decode cX6_note 69 = .ok (.iadd, 1) := by decide +kernel
theorem dX6_note_70 : decode cX6_note 70 = .ok (.aload_n 0, 1) := by decide +kernel
theorem dX6_note_71 : decode cX6_note 71 = .ok (.getfield 19, 3) := by decide +kernel
theorem dX6_note_74 : decode cX6_note 74 = .ok (.iload_n 1, 1) := by decide +kernel
theorem dX6_note_75 : decode cX6_note 75 = .ok (.iaload, 1) := by decide +kernel
theorem dX6_note_76 : decode cX6_note 76 = .ok (.iastore, 1) := by decide +kernel
theorem dX6_note_77 : decode cX6_note 77 = .ok (.iinc 1 1, 3) := by decide +kernel
theorem dX6_note_80 : decode cX6_note 80 = .ok (.goto (-29), 3) := by decide +kernel
theorem dX6_note_83 : decode cX6_note 83 = .ok (.aload_n 0, 1) := by decide +kernel
theorem dX6_note_84 : decode cX6_note 84 = .ok (.dup, 1) := by decide +kernel
theorem dX6_note_85 : decode cX6_note 85 = .ok (.getfield 47, 3) := by decide +kernel
theorem dX6_note_88 : decode cX6_note 88 = .ok (.iconst 1, 1) := by decide +kernel
theorem dX6_note_89 : decode cX6_note 89 = .ok (.iadd, 1) := by decide +kernel
theorem dX6_note_90 : decode cX6_note 90 = .ok (.putfield 47, 3) := by decide +kernel
theorem dX6_note_93 : decode cX6_note 93 = .ok (.return_, 1) := by decide +kernel
theorem dX6_undo_0 : decode cX6_undo 0 = .ok (.aload_n 0, 1) := by decide +kernel
theorem dX6_undo_1 : decode cX6_undo 1 = .ok (.getfield 47, 3) := by decide +kernel
theorem dX6_undo_4 : decode cX6_undo 4 = .ok (.ifCond .ne 6, 3) := by decide +kernel
theorem dX6_undo_7 : decode cX6_undo 7 = .ok (.bipush (-2), 2) := by decide +kernel
theorem dX6_undo_9 : decode cX6_undo 9 = .ok (.ireturn, 1) := by decide +kernel
theorem dX6_undo_10 : decode cX6_undo 10 = .ok (.aload_n 0, 1) := by decide +kernel
theorem dX6_undo_11 : decode cX6_undo 11 = .ok (.dup, 1) := by decide +kernel
theorem dX6_undo_12 : decode cX6_undo 12 = .ok (.getfield 47, 3) := by decide +kernel
theorem dX6_undo_15 : decode cX6_undo 15 = .ok (.iconst 1, 1) := by decide +kernel
theorem dX6_undo_16 : decode cX6_undo 16 = .ok (.isub, 1) := by decide +kernel
theorem dX6_undo_17 : decode cX6_undo 17 = .ok (.putfield 47, 3) := by decide +kernel
theorem dX6_undo_20 : decode cX6_undo 20 = .ok (.iconst 0, 1) := by decide +kernel
theorem dX6_undo_21 : decode cX6_undo 21 = .ok (.istore_n 1, 1) := by decide +kernel
theorem dX6_undo_22 : decode cX6_undo 22 = .ok (.iload_n 1, 1) := by decide +kernel
theorem dX6_undo_23 : decode cX6_undo 23 = .ok (.bipush 87, 2) := by decide +kernel
theorem dX6_undo_25 : decode cX6_undo 25 = .ok (.if_icmp .ge 29, 3) := by decide +kernel
theorem dX6_undo_28 : decode cX6_undo 28 = .ok (.aload_n 0, 1) := by decide +kernel
theorem dX6_undo_29 : decode cX6_undo 29 = .ok (.getfield 19, 3) := by decide +kernel
theorem dX6_undo_32 : decode cX6_undo 32 = .ok (.iload_n 1, 1) := by decide +kernel
theorem dX6_undo_33 : decode cX6_undo 33 = .ok (.aload_n 0, 1) := by decide +kernel
theorem dX6_undo_34 : decode cX6_undo 34 = .ok (.getfield 22, 3) := by decide +kernel
theorem dX6_undo_37 : decode cX6_undo 37 = .ok (.bipush 87, 2) := by decide +kernel
theorem dX6_undo_39 : decode cX6_undo 39 = .ok (.aload_n 0, 1) := by decide +kernel
theorem dX6_undo_40 : decode cX6_undo 40 = .ok (.getfield 47, 3) := by decide +kernel
theorem dX6_undo_43 : decode cX6_undo 43 = .ok (.imul, 1) := by decide +kernel
theorem dX6_undo_44 : decode cX6_undo 44 = .ok (.iload_n 1, 1) := by decide +kernel
theorem dX6_undo_45 : decode cX6_undo 45 = .ok (.iadd, 1) := by decide +kernel
theorem dX6_undo_46 : decode cX6_undo 46 = .ok (.iaload, 1) := by decide +kernel
theorem dX6_undo_47 : decode cX6_undo 47 = .ok (.iastore, 1) := by decide +kernel
theorem dX6_undo_48 : decode cX6_undo 48 = .ok (.iinc 1 1, 3) := by decide +kernel
theorem dX6_undo_51 : decode cX6_undo 51 = .ok (.goto (-29), 3) := by decide +kernel
theorem dX6_undo_54 : decode cX6_undo 54 = .ok (.aload_n 0, 1) := by decide +kernel
theorem dX6_undo_55 : decode cX6_undo 55 = .ok (.getfield 47, 3) := by decide +kernel
theorem dX6_undo_58 : decode cX6_undo 58 = .ok (.ireturn, 1) := by decide +kernel
set_option maxRecDepth 20000 in
theorem ggX6_becomes_X6_note : GoodIn wsX6_becomes wsX6_note := goodIn_r _ [6, 7, 8, 1, 9, 10, 11, 12, 13, 14, 15, 16, 17, 18, 19, 20] (by decide +kernel) (by decide +kernel)
set_option maxRecDepth 20000 in
theorem gX6_becomes_X6_note : GoodIn wsX6_becomes (wsV RX6 84 RX6 yX6_note wsX6_note) := goodIn_app (goodIn_of _ (by decide +kernel)) ggX6_becomes_X6_note
theorem dX6_becomes_0 : decode cX6_becomes 0 = .ok (.aload_n 0, 1) := by decide +kernel
theorem dX6_becomes_1 : decode cX6_becomes 1 = .ok (.getfield 19, 3) := by decide +kernel
theorem dX6_becomes_4 : decode cX6_becomes 4 = .ok (.iload_n 1, 1) := by decide +kernel
theorem dX6_becomes_5 : decode cX6_becomes 5 = .ok (.iaload, 1) := by decide +kernel
theorem dX6_becomes_6 : decode cX6_becomes 6 = .ok (.istore_n 3, 1) := by decide +kernel
theorem dX6_becomes_7 : decode cX6_becomes 7 = .ok (.iload_n 3, 1) := by decide +kernel
theorem dX6_becomes_8 : decode cX6_becomes 8 = .ok (.iload_n 2, 1) := by decide +kernel
theorem dX6_becomes_9 : decode cX6_becomes 9 = .ok (.if_icmp .ne 6, 3) := by decide +kernel
theorem dX6_becomes_12 : decode cX6_becomes 12 = .ok (.bipush (-2), 2) := by decide +kernel
theorem dX6_becomes_14 : decode cX6_becomes 14 = .ok (.ireturn, 1) := by decide +kernel
theorem dX6_becomes_15 : decode cX6_becomes 15 = .ok (.aload_n 0, 1) := by decide +kernel
theorem dX6_becomes_16 : decode cX6_becomes 16 = .ok (.invokevirtual 84, 3) := by decide +kernel
theorem dX6_becomes_19 : decode cX6_becomes 19 = .ok (.aload_n 0, 1) := by decide +kernel
theorem dX6_becomes_20 : decode cX6_becomes 20 = .ok (.getfield 19, 3) := by decide +kernel
theorem dX6_becomes_23 : decode cX6_becomes 23 = .ok (.iload_n 1, 1) := by decide +kernel
theorem dX6_becomes_24 : decode cX6_becomes 24 = .ok (.iload_n 2, 1) := by decide +kernel
theorem dX6_becomes_25 : decode cX6_becomes 25 = .ok (.iastore, 1) := by decide +kernel
theorem dX6_becomes_26 : decode cX6_becomes 26 = .ok (.iload_n 3, 1) := by decide +kernel
theorem dX6_becomes_27 : decode cX6_becomes 27 = .ok (.ireturn, 1) := by decide +kernel
set_option maxRecDepth 20000 in
theorem ggX6_isDevice_X6_in : GoodIn wsX6_isDevice wsX6_in := goodIn_r _ [5] (by decide +kernel) (by decide +kernel)
set_option maxRecDepth 20000 in
theorem gX6_isDevice_X6_in : GoodIn wsX6_isDevice (va_wsS RX6 54 yX6_in wsX6_in) := goodIn_app (goodIn_of _ (by decide +kernel)) ggX6_isDevice_X6_in
theorem dX6_isDevice_0 : decode cX6_isDevice 0 = .ok (.iload_n 1, 1) := by decide +kernel
theorem dX6_isDevice_1 : decode cX6_isDevice 1 = .ok (.i2l, 1) := by decide +kernel
theorem dX6_isDevice_2 : decode cX6_isDevice 2 = .ok (.lconst 0, 1) := by decide +kernel
theorem dX6_isDevice_3 : decode cX6_isDevice 3 = .ok (.aload_n 0, 1) := by decide +kernel
theorem dX6_isDevice_4 : decode cX6_isDevice 4 = .ok (.getfield 13, 3) := by decide +kernel
theorem dX6_isDevice_7 : decode cX6_isDevice 7 = .ok (.bipush 60, 2) := by decide +kernel
theorem dX6_isDevice_9 : decode cX6_isDevice 9 = .ok (.iaload, 1) := by decide +kernel
theorem dX6_isDevice_10 : decode cX6_isDevice 10 = .ok (.iconst 1, 1) := by decide +kernel
theorem dX6_isDevice_11 : decode cX6_isDevice 11 = .ok (.isub, 1) := by decide +kernel
theorem dX6_isDevice_12 : decode cX6_isDevice 12 = .ok (.i2l, 1) := by decide +kernel
theorem dX6_isDevice_13 : decode cX6_isDevice 13 = .ok (.invokestatic 54, 3) := by decide +kernel
theorem dX6_isDevice_16 : decode cX6_isDevice 16 = .ok (.ireturn, 1) := by decide +kernel
set_option maxRecDepth 20000 in
theorem ggX6_isWire_X6_in : GoodIn wsX6_isWire wsX6_in := goodIn_r _ [5] (by decide +kernel) (by decide +kernel)
set_option maxRecDepth 20000 in
theorem gX6_isWire_X6_in : GoodIn wsX6_isWire (va_wsS RX6 54 yX6_in wsX6_in) := goodIn_app (goodIn_of _ (by decide +kernel)) ggX6_isWire_X6_in
theorem dX6_isWire_0 : decode cX6_isWire 0 = .ok (.iload_n 1, 1) := by decide +kernel
theorem dX6_isWire_1 : decode cX6_isWire 1 = .ok (.i2l, 1) := by decide +kernel
theorem dX6_isWire_2 : decode cX6_isWire 2 = .ok (.lconst 0, 1) := by decide +kernel
theorem dX6_isWire_3 : decode cX6_isWire 3 = .ok (.aload_n 0, 1) := by decide +kernel
theorem dX6_isWire_4 : decode cX6_isWire 4 = .ok (.getfield 13, 3) := by decide +kernel
theorem dX6_isWire_7 : decode cX6_isWire 7 = .ok (.bipush 60, 2) := by decide +kernel
theorem dX6_isWire_9 : decode cX6_isWire 9 = .ok (.iaload, 1) := by decide +kernel
theorem dX6_isWire_10 : decode cX6_isWire 10 = .ok (.i2l, 1) := by decide +kernel
theorem dX6_isWire_11 : decode cX6_isWire 11 = .ok (.invokestatic 54, 3) := by decide +kernel
theorem dX6_isWire_14 : decode cX6_isWire 14 = .ok (.ireturn, 1) := by decide +kernel
set_option maxRecDepth 20000 in
theorem ggX6_read_X6_isDevice : GoodIn wsX6_read wsX6_isDevice := goodIn_r _ [6, 7, 8, 9, 5, 10, 22, 23, 24, 25, 26, 27, 28, 29, 30, 31, 32, 33] (by decide +kernel) (by decide +kernel)
set_option maxRecDepth 20000 in
theorem gX6_read_X6_isDevice : GoodIn wsX6_read (wsV RX6 87 RX6 yX6_isDevice wsX6_isDevice) := goodIn_app (goodIn_of _ (by decide +kernel)) ggX6_read_X6_isDevice
set_option maxRecDepth 20000 in
theorem ggX6_read_X6_in : GoodIn wsX6_read wsX6_in := goodIn_r _ [10] (by decide +kernel) (by decide +kernel)
set_option maxRecDepth 20000 in
theorem gX6_read_X6_in : GoodIn wsX6_read (va_wsS RX6 54 yX6_in wsX6_in) := goodIn_app (goodIn_of _ (by decide +kernel)) ggX6_read_X6_in
set_option maxRecDepth 20000 in
theorem ggX6_read_X6_becomes : GoodIn wsX6_read wsX6_becomes := goodIn_r _ [14, 15, 16, 17, 18, 5, 19, 20, 21, 22, 23, 24, 25, 26, 27, 28, 29, 30, 31, 32, 33] (by decide +kernel) (by decide +kernel)
set_option maxRecDepth 20000 in
theorem gX6_read_X6_becomes : GoodIn wsX6_read (wsV RX6 92 RX6 yX6_becomes wsX6_becomes) := goodIn_app (goodIn_of _ (by decide +kernel)) ggX6_read_X6_becomes
theorem dX6_read_0 : decode cX6_read 0 = .ok (.aload_n 0, 1) := by decide +kernel
theorem dX6_read_1 : decode cX6_read 1 = .ok (.iload_n 1, 1) := by decide +kernel
theorem dX6_read_2 : decode cX6_read 2 = .ok (.invokevirtual 87, 3) := by decide +kernel
theorem dX6_read_5 : decode cX6_read 5 = .ok (.ifCond .eq 26, 3) := by decide +kernel
theorem dX6_read_8 : decode cX6_read 8 = .ok (.iload_n 2, 1) := by decide +kernel
theorem dX6_read_9 : decode cX6_read 9 = .ok (.i2l, 1) := by decide +kernel
theorem dX6_read_10 : decode cX6_read 10 = .ok (.lconst 0, 1) := by decide +kernel
theorem dX6_read_11 : decode cX6_read 11 = .ok (.ldc2_w 90, 3) := by decide +kernel
theorem dX6_read_14 : decode cX6_read 14 = .ok (.invokestatic 54, 3) := by decide +kernel
theorem dX6_read_17 : decode cX6_read 17 = .ok (.ifCond .eq 14, 3) := by decide +kernel
theorem dX6_read_20 : decode cX6_read 20 = .ok (.aload_n 0, 1) := by decide +kernel
theorem dX6_read_21 : decode cX6_read 21 = .ok (.iconst 0, 1) := by decide +kernel
theorem dX6_read_22 : decode cX6_read 22 = .ok (.iload_n 1, 1) := by decide +kernel
theorem dX6_read_23 : decode cX6_read 23 = .ok (.iadd, 1) := by decide +kernel
theorem dX6_read_24 : decode cX6_read 24 = .ok (.iload_n 2, 1) := by decide +kernel
theorem dX6_read_25 : decode cX6_read 25 = .ok (.invokevirtual 92, 3) := by decide +kernel
theorem dX6_read_28 : decode cX6_read 28 = .ok (.goto 4, 3) := by decide +kernel
theorem dX6_read_31 : decode cX6_read 31 = .ok (.iconst (-1), 1) := by decide +kernel
theorem dX6_read_32 : decode cX6_read 32 = .ok (.ireturn, 1) := by decide +kernel
set_option maxRecDepth 20000 in
theorem ggX6_wire_X6_isWire : GoodIn wsX6_wire wsX6_isWire := goodIn_r _ [6, 7, 8, 9, 5, 10, 22, 23, 24, 25, 26, 27, 28, 29, 30, 31, 32, 33] (by decide +kernel) (by decide +kernel)
set_option maxRecDepth 20000 in
theorem gX6_wire_X6_isWire : GoodIn wsX6_wire (wsV RX6 96 RX6 yX6_isWire wsX6_isWire) := goodIn_app (goodIn_of _ (by decide +kernel)) ggX6_wire_X6_isWire
set_option maxRecDepth 20000 in
theorem ggX6_wire_X6_in : GoodIn wsX6_wire wsX6_in := goodIn_r _ [10] (by decide +kernel) (by decide +kernel)
set_option maxRecDepth 20000 in
theorem gX6_wire_X6_in : GoodIn wsX6_wire (va_wsS RX6 54 yX6_in wsX6_in) := goodIn_app (goodIn_of _ (by decide +kernel)) ggX6_wire_X6_in
set_option maxRecDepth 20000 in
theorem ggX6_wire_X6_becomes : GoodIn wsX6_wire wsX6_becomes := goodIn_r _ [14, 15, 16, 17, 18, 5, 19, 20, 21, 22, 23, 24, 25, 26, 27, 28, 29, 30, 31, 32, 33] (by decide +kernel) (by decide +kernel)
set_option maxRecDepth 20000 in
theorem gX6_wire_X6_becomes : GoodIn wsX6_wire (wsV RX6 92 RX6 yX6_becomes wsX6_becomes) := goodIn_app (goodIn_of _ (by decide +kernel)) ggX6_wire_X6_becomes
theorem dX6_wire_0 : decode cX6_wire 0 = .ok (.aload_n 0, 1) := by decide +kernel
theorem dX6_wire_1 : decode cX6_wire 1 = .ok (.iload_n 1, 1) := by decide +kernel
theorem dX6_wire_2 : decode cX6_wire 2 = .ok (.invokevirtual 96, 3) := by decide +kernel
theorem dX6_wire_5 : decode cX6_wire 5 = .ok (.ifCond .eq 27, 3) := by decide +kernel
theorem dX6_wire_8 : decode cX6_wire 8 = .ok (.iload_n 2, 1) := by decide +kernel
theorem dX6_wire_9 : decode cX6_wire 9 = .ok (.i2l, 1) := by decide +kernel
theorem dX6_wire_10 : decode cX6_wire 10 = .ok (.lconst 0, 1) := by decide +kernel
theorem dX6_wire_11 : decode cX6_wire 11 = .ok (.ldc2_w 99, 3) := by decide +kernel
theorem dX6_wire_14 : decode cX6_wire 14 = .ok (.invokestatic 54, 3) := by decide +kernel
theorem dX6_wire_17 : decode cX6_wire 17 = .ok (.ifCond .eq 15, 3) := by decide +kernel
theorem dX6_wire_20 : decode cX6_wire 20 = .ok (.aload_n 0, 1) := by decide +kernel
theorem dX6_wire_21 : decode cX6_wire 21 = .ok (.bipush 48, 2) := by decide +kernel
theorem dX6_wire_23 : decode cX6_wire 23 = .ok (.iload_n 1, 1) := by decide +kernel
theorem dX6_wire_24 : decode cX6_wire 24 = .ok (.iadd, 1) := by decide +kernel
theorem dX6_wire_25 : decode cX6_wire 25 = .ok (.iload_n 2, 1) := by decide +kernel
theorem dX6_wire_26 : decode cX6_wire 26 = .ok (.invokevirtual 92, 3) := by decide +kernel
theorem dX6_wire_29 : decode cX6_wire 29 = .ok (.goto 4, 3) := by decide +kernel
theorem dX6_wire_32 : decode cX6_wire 32 = .ok (.iconst (-1), 1) := by decide +kernel
theorem dX6_wire_33 : decode cX6_wire 33 = .ok (.ireturn, 1) := by decide +kernel
theorem dX6_sumOf_0 : decode cX6_sumOf 0 = .ok (.iconst 0, 1) := by decide +kernel
theorem dX6_sumOf_1 : decode cX6_sumOf 1 = .ok (.istore_n 3, 1) := by decide +kernel
theorem dX6_sumOf_2 : decode cX6_sumOf 2 = .ok (.iconst 0, 1) := by decide +kernel
theorem dX6_sumOf_3 : decode cX6_sumOf 3 = .ok (.istore 4, 2) := by decide +kernel
theorem dX6_sumOf_5 : decode cX6_sumOf 5 = .ok (.iload 4, 2) := by decide +kernel
theorem dX6_sumOf_7 : decode cX6_sumOf 7 = .ok (.iload_n 2, 1) := by decide +kernel
theorem dX6_sumOf_8 : decode cX6_sumOf 8 = .ok (.if_icmp .ge 29, 3) := by decide +kernel
theorem dX6_sumOf_11 : decode cX6_sumOf 11 = .ok (.iload_n 3, 1) := by decide +kernel
theorem dX6_sumOf_12 : decode cX6_sumOf 12 = .ok (.aload_n 0, 1) := by decide +kernel
theorem dX6_sumOf_13 : decode cX6_sumOf 13 = .ok (.getfield 19, 3) := by decide +kernel
theorem dX6_sumOf_16 : decode cX6_sumOf 16 = .ok (.iload_n 1, 1) := by decide +kernel
theorem dX6_sumOf_17 : decode cX6_sumOf 17 = .ok (.iload 4, 2) := by decide +kernel
theorem dX6_sumOf_19 : decode cX6_sumOf 19 = .ok (.iadd, 1) := by decide +kernel
theorem dX6_sumOf_20 : decode cX6_sumOf 20 = .ok (.iaload, 1) := by decide +kernel
theorem dX6_sumOf_21 : decode cX6_sumOf 21 = .ok (.ifCond .le 7, 3) := by decide +kernel
theorem dX6_sumOf_24 : decode cX6_sumOf 24 = .ok (.iconst 1, 1) := by decide +kernel
theorem dX6_sumOf_25 : decode cX6_sumOf 25 = .ok (.goto 4, 3) := by decide +kernel
theorem dX6_sumOf_28 : decode cX6_sumOf 28 = .ok (.iconst 0, 1) := by decide +kernel
theorem dX6_sumOf_29 : decode cX6_sumOf 29 = .ok (.iadd, 1) := by decide +kernel
theorem dX6_sumOf_30 : decode cX6_sumOf 30 = .ok (.istore_n 3, 1) := by decide +kernel
theorem dX6_sumOf_31 : decode cX6_sumOf 31 = .ok (.iinc 4 1, 3) := by decide +kernel
theorem dX6_sumOf_34 : decode cX6_sumOf 34 = .ok (.goto (-29), 3) := by decide +kernel
theorem dX6_sumOf_37 : decode cX6_sumOf 37 = .ok (.iload_n 3, 1) := by decide +kernel
theorem dX6_sumOf_38 : decode cX6_sumOf 38 = .ok (.ireturn, 1) := by decide +kernel
set_option maxRecDepth 20000 in
theorem ggX6_day_X6_in : GoodIn wsX6_day wsX6_in := goodIn_r _ [4] (by decide +kernel) (by decide +kernel)
set_option maxRecDepth 20000 in
theorem gX6_day_X6_in : GoodIn wsX6_day (va_wsS RX6 54 yX6_in wsX6_in) := goodIn_app (goodIn_of _ (by decide +kernel)) ggX6_day_X6_in
set_option maxRecDepth 20000 in
theorem ggX6_day_X6_becomes : GoodIn wsX6_day wsX6_becomes := goodIn_r _ [8, 9, 10, 11, 12, 3, 13, 14, 15, 20, 21, 22, 23, 24, 25, 26, 27, 28, 29, 30, 31] (by decide +kernel) (by decide +kernel)
set_option maxRecDepth 20000 in
theorem gX6_day_X6_becomes : GoodIn wsX6_day (wsV RX6 92 RX6 yX6_becomes wsX6_becomes) := goodIn_app (goodIn_of _ (by decide +kernel)) ggX6_day_X6_becomes
set_option maxRecDepth 20000 in
theorem ggX6_day_X6_sumOf : GoodIn wsX6_day wsX6_sumOf := goodIn_r _ [19, 9, 20, 21, 22, 23, 24, 25, 26, 27, 28, 29, 30, 31] (by decide +kernel) (by decide +kernel)
set_option maxRecDepth 20000 in
theorem gX6_day_X6_sumOf : GoodIn wsX6_day (wsV RX6 101 RX6 yX6_sumOf wsX6_sumOf) := goodIn_app (goodIn_of _ (by decide +kernel)) ggX6_day_X6_sumOf
theorem dX6_day_0 : decode cX6_day 0 = .ok (.iload_n 1, 1) := by decide +kernel
theorem dX6_day_1 : decode cX6_day 1 = .ok (.i2l, 1) := by decide +kernel
theorem dX6_day_2 : decode cX6_day 2 = .ok (.lconst 0, 1) := by decide +kernel
theorem dX6_day_3 : decode cX6_day 3 = .ok (.lconst 1, 1) := by decide +kernel
theorem dX6_day_4 : decode cX6_day 4 = .ok (.invokestatic 54, 3) := by decide +kernel
theorem dX6_day_7 : decode cX6_day 7 = .ok (.ifCond .ne 5, 3) := by decide +kernel
theorem dX6_day_10 : decode cX6_day 10 = .ok (.iconst (-1), 1) := by decide +kernel
theorem dX6_day_11 : decode cX6_day 11 = .ok (.ireturn, 1) := by decide +kernel
theorem dX6_day_12 : decode cX6_day 12 = .ok (.aload_n 0, 1) := by decide +kernel
theorem dX6_day_13 : decode cX6_day 13 = .ok (.bipush 85, 2) := by decide +kernel
theorem dX6_day_15 : decode cX6_day 15 = .ok (.iload_n 1, 1) := by decide +kernel
theorem dX6_day_16 : decode cX6_day 16 = .ok (.invokevirtual 92, 3) := by decide +kernel
theorem dX6_day_19 : decode cX6_day 19 = .ok (.bipush (-2), 2) := by decide +kernel
theorem dX6_day_21 : decode cX6_day 21 = .ok (.if_icmp .ne 8, 3) := by decide +kernel
theorem dX6_day_24 : decode cX6_day 24 = .ok (.bipush (-2), 2) := by decide +kernel
theorem dX6_day_26 : decode cX6_day 26 = .ok (.goto 11, 3) := by decide +kernel
theorem dX6_day_29 : decode cX6_day 29 = .ok (.aload_n 0, 1) := by decide +kernel
theorem dX6_day_30 : decode cX6_day 30 = .ok (.bipush 67, 2) := by decide +kernel
theorem dX6_day_32 : decode cX6_day 32 = .ok (.bipush 6, 2) := by decide +kernel
theorem dX6_day_34 : decode cX6_day 34 = .ok (.invokevirtual 101, 3) := by decide +kernel
theorem dX6_day_37 : decode cX6_day 37 = .ok (.ireturn, 1) := by decide +kernel
theorem dX6_how_0 : decode cX6_how 0 = .ok (.iload_n 1, 1) := by decide +kernel
theorem dX6_how_1 : decode cX6_how 1 = .ok (.aload_n 0, 1) := by decide +kernel
theorem dX6_how_2 : decode cX6_how 2 = .ok (.getfield 25, 3) := by decide +kernel
theorem dX6_how_5 : decode cX6_how 5 = .ok (.if_icmp .ne 7, 3) := by decide +kernel
theorem dX6_how_8 : decode cX6_how 8 = .ok (.iconst 2, 1) := by decide +kernel
theorem dX6_how_9 : decode cX6_how 9 = .ok (.goto 12, 3) := by decide +kernel
theorem dX6_how_12 : decode cX6_how 12 = .ok (.aload_n 0, 1) := by decide +kernel
theorem dX6_how_13 : decode cX6_how 13 = .ok (.getfield 19, 3) := by decide +kernel
theorem dX6_how_16 : decode cX6_how 16 = .ok (.bipush 48, 2) := by decide +kernel
theorem dX6_how_18 : decode cX6_how 18 = .ok (.iload_n 1, 1) := by decide +kernel
theorem dX6_how_19 : decode cX6_how 19 = .ok (.iadd, 1) := by decide +kernel
theorem dX6_how_20 : decode cX6_how 20 = .ok (.iaload, 1) := by decide +kernel
theorem dX6_how_21 : decode cX6_how 21 = .ok (.ireturn, 1) := by decide +kernel
theorem dX6_stretch_0 : decode cX6_stretch 0 = .ok (.iconst 0, 1) := by decide +kernel
theorem dX6_stretch_1 : decode cX6_stretch 1 = .ok (.istore_n 2, 1) := by decide +kernel
theorem dX6_stretch_2 : decode cX6_stretch 2 = .ok (.iconst 0, 1) := by decide +kernel
theorem dX6_stretch_3 : decode cX6_stretch 3 = .ok (.istore_n 3, 1) := by decide +kernel
theorem dX6_stretch_4 : decode cX6_stretch 4 = .ok (.iload_n 3, 1) := by decide +kernel
theorem dX6_stretch_5 : decode cX6_stretch 5 = .ok (.iload_n 1, 1) := by decide +kernel
theorem dX6_stretch_6 : decode cX6_stretch 6 = .ok (.if_icmp .ge 39, 3) := by decide +kernel
theorem dX6_stretch_9 : decode cX6_stretch 9 = .ok (.iload_n 2, 1) := by decide +kernel
theorem dX6_stretch_10 : decode cX6_stretch 10 = .ok (.aload_n 0, 1) := by decide +kernel
theorem dX6_stretch_11 : decode cX6_stretch 11 = .ok (.getfield 13, 3) := by decide +kernel
theorem dX6_stretch_14 : decode cX6_stretch 14 = .ok (.iconst 3, 1) := by decide +kernel
theorem dX6_stretch_15 : decode cX6_stretch 15 = .ok (.iload_n 3, 1) := by decide +kernel
theorem dX6_stretch_16 : decode cX6_stretch 16 = .ok (.imul, 1) := by decide +kernel
theorem dX6_stretch_17 : decode cX6_stretch 17 = .ok (.iconst 2, 1) := by decide +kernel
theorem dX6_stretch_18 : decode cX6_stretch 18 = .ok (.iadd, 1) := by decide +kernel
theorem dX6_stretch_19 : decode cX6_stretch 19 = .ok (.iaload, 1) := by decide +kernel
theorem dX6_stretch_20 : decode cX6_stretch 20 = .ok (.iconst 1, 1) := by decide +kernel
theorem dX6_stretch_21 : decode cX6_stretch 21 = .ok (.if_icmp .eq 11, 3) := by decide +kernel
theorem dX6_stretch_24 : decode cX6_stretch 24 = .ok (.iload_n 3, 1) := by decide +kernel
theorem dX6_stretch_25 : decode cX6_stretch 25 = .ok (.aload_n 0, 1) := by decide +kernel
theorem dX6_stretch_26 : decode cX6_stretch 26 = .ok (.getfield 29, 3) := by decide +kernel
theorem dX6_stretch_29 : decode cX6_stretch 29 = .ok (.if_icmp .ne 7, 3) := by decide +kernel
theorem dX6_stretch_32 : decode cX6_stretch 32 = .ok (.iconst 1, 1) := by decide +kernel
theorem dX6_stretch_33 : decode cX6_stretch 33 = .ok (.goto 4, 3) := by decide +kernel
theorem dX6_stretch_36 : decode cX6_stretch 36 = .ok (.iconst 0, 1) := by decide +kernel
theorem dX6_stretch_37 : decode cX6_stretch 37 = .ok (.iadd, 1) := by decide +kernel
theorem dX6_stretch_38 : decode cX6_stretch 38 = .ok (.istore_n 2, 1) := by decide +kernel
theorem dX6_stretch_39 : decode cX6_stretch 39 = .ok (.iinc 3 1, 3) := by decide +kernel
theorem dX6_stretch_42 : decode cX6_stretch 42 = .ok (.goto (-38), 3) := by decide +kernel
theorem dX6_stretch_45 : decode cX6_stretch 45 = .ok (.iload_n 2, 1) := by decide +kernel
theorem dX6_stretch_46 : decode cX6_stretch 46 = .ok (.ireturn, 1) := by decide +kernel
set_option maxRecDepth 20000 in
theorem ggX6_shortIn_X6_stretch : GoodIn wsX6_shortIn wsX6_stretch := goodIn_r _ [6, 1, 7, 14, 15, 16, 17, 18, 19, 20, 21, 22, 23, 24, 25] (by decide +kernel) (by decide +kernel)
set_option maxRecDepth 20000 in
theorem gX6_shortIn_X6_stretch : GoodIn wsX6_shortIn (wsV RX6 104 RX6 yX6_stretch wsX6_stretch) := goodIn_app (goodIn_of _ (by decide +kernel)) ggX6_shortIn_X6_stretch
set_option maxRecDepth 20000 in
theorem ggX6_shortIn_X6_how : GoodIn wsX6_shortIn wsX6_how := goodIn_r _ [11, 12, 13, 14, 15, 16, 17, 18, 19, 20, 21, 22, 23, 24, 25] (by decide +kernel) (by decide +kernel)
set_option maxRecDepth 20000 in
theorem gX6_shortIn_X6_how : GoodIn wsX6_shortIn (wsV RX6 107 RX6 yX6_how wsX6_how) := goodIn_app (goodIn_of _ (by decide +kernel)) ggX6_shortIn_X6_how
theorem dX6_shortIn_0 : decode cX6_shortIn 0 = .ok (.iconst 0, 1) := by decide +kernel
theorem dX6_shortIn_1 : decode cX6_shortIn 1 = .ok (.istore_n 2, 1) := by decide +kernel
theorem dX6_shortIn_2 : decode cX6_shortIn 2 = .ok (.iload_n 2, 1) := by decide +kernel
theorem dX6_shortIn_3 : decode cX6_shortIn 3 = .ok (.aload_n 0, 1) := by decide +kernel
theorem dX6_shortIn_4 : decode cX6_shortIn 4 = .ok (.getfield 13, 3) := by decide +kernel
theorem dX6_shortIn_7 : decode cX6_shortIn 7 = .ok (.bipush 60, 2) := by decide +kernel
theorem dX6_shortIn_9 : decode cX6_shortIn 9 = .ok (.iaload, 1) := by decide +kernel
theorem dX6_shortIn_10 : decode cX6_shortIn 10 = .ok (.if_icmp .gt 29, 3) := by decide +kernel
theorem dX6_shortIn_13 : decode cX6_shortIn 13 = .ok (.aload_n 0, 1) := by decide +kernel
theorem dX6_shortIn_14 : decode cX6_shortIn 14 = .ok (.iload_n 2, 1) := by decide +kernel
theorem dX6_shortIn_15 : decode cX6_shortIn 15 = .ok (.invokevirtual 104, 3) := by decide +kernel
theorem dX6_shortIn_18 : decode cX6_shortIn 18 = .ok (.iload_n 1, 1) := by decide +kernel
theorem dX6_shortIn_19 : decode cX6_shortIn 19 = .ok (.if_icmp .ne 14, 3) := by decide +kernel
theorem dX6_shortIn_22 : decode cX6_shortIn 22 = .ok (.aload_n 0, 1) := by decide +kernel
theorem dX6_shortIn_23 : decode cX6_shortIn 23 = .ok (.iload_n 2, 1) := by decide +kernel
theorem dX6_shortIn_24 : decode cX6_shortIn 24 = .ok (.invokevirtual 107, 3) := by decide +kernel
theorem dX6_shortIn_27 : decode cX6_shortIn 27 = .ok (.iconst 2, 1) := by decide +kernel
theorem dX6_shortIn_28 : decode cX6_shortIn 28 = .ok (.if_icmp .ne 5, 3) := by decide +kernel
theorem dX6_shortIn_31 : decode cX6_shortIn 31 = .ok (.iload_n 2, 1) := by decide +kernel
theorem dX6_shortIn_32 : decode cX6_shortIn 32 = .ok (.ireturn, 1) := by decide +kernel
theorem dX6_shortIn_33 : decode cX6_shortIn 33 = .ok (.iinc 2 1, 3) := by decide +kernel
theorem dX6_shortIn_36 : decode cX6_shortIn 36 = .ok (.goto (-34), 3) := by decide +kernel
theorem dX6_shortIn_39 : decode cX6_shortIn 39 = .ok (.bipush (-4), 2) := by decide +kernel
theorem dX6_shortIn_41 : decode cX6_shortIn 41 = .ok (.ireturn, 1) := by decide +kernel
set_option maxRecDepth 20000 in
theorem ggX6_goesOn_X6_how : GoodIn wsX6_goesOn wsX6_how := goodIn_r _ [5, 6, 7, 18, 19, 20, 21, 22, 23, 24, 25, 26, 27, 28, 29] (by decide +kernel) (by decide +kernel)
set_option maxRecDepth 20000 in
theorem gX6_goesOn_X6_how : GoodIn wsX6_goesOn (wsV RX6 107 RX6 yX6_how wsX6_how) := goodIn_app (goodIn_of _ (by decide +kernel)) ggX6_goesOn_X6_how
set_option maxRecDepth 20000 in
theorem ggX6_goesOn_X6_stretch : GoodIn wsX6_goesOn wsX6_stretch := goodIn_r _ [11, 12, 13, 18, 19, 20, 21, 22, 23, 24, 25, 26, 27, 28, 29] (by decide +kernel) (by decide +kernel)
set_option maxRecDepth 20000 in
theorem gX6_goesOn_X6_stretch : GoodIn wsX6_goesOn (wsV RX6 104 RX6 yX6_stretch wsX6_stretch) := goodIn_app (goodIn_of _ (by decide +kernel)) ggX6_goesOn_X6_stretch
set_option maxRecDepth 20000 in
theorem ggX6_goesOn_X6_shortIn : GoodIn wsX6_goesOn wsX6_shortIn := goodIn_r _ [17, 12, 8, 9, 10, 4, 11, 13, 1, 2, 3, 5, 6, 7, 18, 19, 20, 21, 22, 23, 24, 25, 26, 27, 28, 29] (by decide +kernel) (by decide +kernel)
set_option maxRecDepth 20000 in
theorem gX6_goesOn_X6_shortIn : GoodIn wsX6_goesOn (wsV RX6 110 RX6 yX6_shortIn wsX6_shortIn) := goodIn_app (goodIn_of _ (by decide +kernel)) ggX6_goesOn_X6_shortIn
theorem dX6_goesOn_0 : decode cX6_goesOn 0 = .ok (.aload_n 0, 1) := by decide +kernel
theorem dX6_goesOn_1 : decode cX6_goesOn 1 = .ok (.iload_n 1, 1) := by decide +kernel
theorem dX6_goesOn_2 : decode cX6_goesOn 2 = .ok (.invokevirtual 107, 3) := by decide +kernel
theorem dX6_goesOn_5 : decode cX6_goesOn 5 = .ok (.iconst 1, 1) := by decide +kernel
theorem dX6_goesOn_6 : decode cX6_goesOn 6 = .ok (.if_icmp .eq 21, 3) := by decide +kernel
theorem dX6_goesOn_9 : decode cX6_goesOn 9 = .ok (.aload_n 0, 1) := by decide +kernel
theorem dX6_goesOn_10 : decode cX6_goesOn 10 = .ok (.aload_n 0, 1) := by decide +kernel
theorem dX6_goesOn_11 : decode cX6_goesOn 11 = .ok (.iload_n 1, 1) := by decide +kernel
theorem dX6_goesOn_12 : decode cX6_goesOn 12 = .ok (.invokevirtual 104, 3) := by decide +kernel
theorem dX6_goesOn_15 : decode cX6_goesOn 15 = .ok (.invokevirtual 110, 3) := by decide +kernel
theorem dX6_goesOn_18 : decode cX6_goesOn 18 = .ok (.bipush (-4), 2) := by decide +kernel
theorem dX6_goesOn_20 : decode cX6_goesOn 20 = .ok (.if_icmp .ne 7, 3) := by decide +kernel
theorem dX6_goesOn_23 : decode cX6_goesOn 23 = .ok (.iconst 1, 1) := by decide +kernel
theorem dX6_goesOn_24 : decode cX6_goesOn 24 = .ok (.goto 4, 3) := by decide +kernel
theorem dX6_goesOn_27 : decode cX6_goesOn 27 = .ok (.iconst 0, 1) := by decide +kernel
theorem dX6_goesOn_28 : decode cX6_goesOn 28 = .ok (.ireturn, 1) := by decide +kernel
set_option maxRecDepth 20000 in
theorem ggX6_stops_X6_goesOn : GoodIn wsX6_stops wsX6_goesOn := goodIn_r _ [6, 7, 8, 9, 5, 10, 11, 12, 13, 14, 15, 16, 1, 17, 18, 19, 20, 21, 22, 23, 24, 25, 26, 27, 28, 29, 30, 31, 32, 33] (by decide +kernel) (by decide +kernel)
set_option maxRecDepth 20000 in
theorem gX6_stops_X6_goesOn : GoodIn wsX6_stops (wsV RX6 113 RX6 yX6_goesOn wsX6_goesOn) := goodIn_app (goodIn_of _ (by decide +kernel)) ggX6_stops_X6_goesOn
theorem dX6_stops_0 : decode cX6_stops 0 = .ok (.iload_n 2, 1) := by decide +kernel
theorem dX6_stops_1 : decode cX6_stops 1 = .ok (.iconst 1, 1) := by decide +kernel
theorem dX6_stops_2 : decode cX6_stops 2 = .ok (.if_icmp .ne 7, 3) := by decide +kernel
theorem dX6_stops_5 : decode cX6_stops 5 = .ok (.iconst 0, 1) := by decide +kernel
theorem dX6_stops_6 : decode cX6_stops 6 = .ok (.goto 10, 3) := by decide +kernel
theorem dX6_stops_9 : decode cX6_stops 9 = .ok (.aload_n 0, 1) := by decide +kernel
theorem dX6_stops_10 : decode cX6_stops 10 = .ok (.getfield 13, 3) := by decide +kernel
theorem dX6_stops_13 : decode cX6_stops 13 = .ok (.bipush 60, 2) := by decide +kernel
theorem dX6_stops_15 : decode cX6_stops 15 = .ok (.iaload, 1) := by decide +kernel
theorem dX6_stops_16 : decode cX6_stops 16 = .ok (.istore_n 3, 1) := by decide +kernel
theorem dX6_stops_17 : decode cX6_stops 17 = .ok (.iload_n 2, 1) := by decide +kernel
theorem dX6_stops_18 : decode cX6_stops 18 = .ok (.iconst 1, 1) := by decide +kernel
theorem dX6_stops_19 : decode cX6_stops 19 = .ok (.if_icmp .ne 11, 3) := by decide +kernel
theorem dX6_stops_22 : decode cX6_stops 22 = .ok (.iload_n 3, 1) := by decide +kernel
theorem dX6_stops_23 : decode cX6_stops 23 = .ok (.iload_n 1, 1) := by decide +kernel
theorem dX6_stops_24 : decode cX6_stops 24 = .ok (.if_icmp .gt 37, 3) := by decide +kernel
theorem dX6_stops_27 : decode cX6_stops 27 = .ok (.goto 8, 3) := by decide +kernel
theorem dX6_stops_30 : decode cX6_stops 30 = .ok (.iload_n 3, 1) := by decide +kernel
theorem dX6_stops_31 : decode cX6_stops 31 = .ok (.iload_n 1, 1) := by decide +kernel
theorem dX6_stops_32 : decode cX6_stops 32 = .ok (.if_icmp .le 29, 3) := by decide +kernel
theorem dX6_stops_35 : decode cX6_stops 35 = .ok (.aload_n 0, 1) := by decide +kernel
theorem dX6_stops_36 : decode cX6_stops 36 = .ok (.iload_n 3, 1) := by decide +kernel
theorem dX6_stops_37 : decode cX6_stops 37 = .ok (.invokevirtual 113, 3) := by decide +kernel
theorem dX6_stops_40 : decode cX6_stops 40 = .ok (.ifCond .ne 5, 3) := by decide +kernel
theorem dX6_stops_43 : decode cX6_stops 43 = .ok (.iload_n 3, 1) := by decide +kernel
theorem dX6_stops_44 : decode cX6_stops 44 = .ok (.ireturn, 1) := by decide +kernel
theorem dX6_stops_45 : decode cX6_stops 45 = .ok (.iload_n 3, 1) := by decide +kernel
theorem dX6_stops_46 : decode cX6_stops 46 = .ok (.iload_n 2, 1) := by decide +kernel
theorem dX6_stops_47 : decode cX6_stops 47 = .ok (.iconst 1, 1) := by decide +kernel
theorem dX6_stops_48 : decode cX6_stops 48 = .ok (.if_icmp .ne 7, 3) := by decide +kernel
theorem dX6_stops_51 : decode cX6_stops 51 = .ok (.iconst 1, 1) := by decide +kernel
theorem dX6_stops_52 : decode cX6_stops 52 = .ok (.goto 4, 3) := by decide +kernel
theorem dX6_stops_55 : decode cX6_stops 55 = .ok (.iconst (-1), 1) := by decide +kernel
theorem dX6_stops_56 : decode cX6_stops 56 = .ok (.iadd, 1) := by decide +kernel
theorem dX6_stops_57 : decode cX6_stops 57 = .ok (.istore_n 3, 1) := by decide +kernel
theorem dX6_stops_58 : decode cX6_stops 58 = .ok (.goto (-41), 3) := by decide +kernel
