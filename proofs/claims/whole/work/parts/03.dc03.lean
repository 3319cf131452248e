set_option maxRecDepth 20000 in
theorem ggX5_help_X5_bit : GoodIn wsX5_help wsX5_bit := goodIn_r _ [21] (by decide +kernel) (by decide +kernel)
set_option maxRecDepth 20000 in
theorem gX5_help_X5_bit : GoodIn wsX5_help (va_wsS RX5 150 yX5_bit wsX5_bit) := goodIn_app (goodIn_of _ (by decide +kernel)) ggX5_help_X5_bit
set_option maxRecDepth 20000 in
theorem ggX5_help_X5_lossByShort : GoodIn wsX5_help wsX5_lossByShort := goodIn_r _ [25, 12, 26, 27, 1, 3, 28, 29, 30, 31, 32, 33, 34, 20, 6, 21, 35, 36, 37, 38, 39, 40, 41, 43, 44, 45, 46, 47, 62, 63, 64, 65, 66, 67, 68, 69, 70, 71, 72, 73, 48, 49, 50, 51, 52, 53, 54, 55, 56, 57, 58, 59, 60, 61] (by decide +kernel) (by decide +kernel)
set_option maxRecDepth 20000 in
theorem gX5_help_X5_lossByShort : GoodIn wsX5_help (wsV RX5 195 RX5 yX5_lossByShort wsX5_lossByShort) := goodIn_app (goodIn_of _ (by decide +kernel)) ggX5_help_X5_lossByShort
theorem dX5_help_0 : decode cX5_help 0 = .ok (.iload_n 1, 1) := by decide +kernel
theorem dX5_help_1 : decode cX5_help 1 = .ok (.iconst 0, 1) := by decide +kernel
theorem dX5_help_2 : decode cX5_help 2 = .ok (.iconst 1, 1) := by decide +kernel
theorem dX5_help_3 : decode cX5_help 3 = .ok (.invokestatic 63, 3) := by decide +kernel
theorem dX5_help_6 : decode cX5_help 6 = .ok (.ifCond .ne 5, 3) := by decide +kernel
theorem dX5_help_9 : decode cX5_help 9 = .ok (.iconst (-1), 1) := by decide +kernel
theorem dX5_help_10 : decode cX5_help 10 = .ok (.ireturn, 1) := by decide +kernel
theorem dX5_help_11 : decode cX5_help 11 = .ok (.aload_n 0, 1) := by decide +kernel
theorem dX5_help_12 : decode cX5_help 12 = .ok (.aload_n 0, 1) := by decide +kernel
theorem dX5_help_13 : decode cX5_help 13 = .ok (.getfield 26, 3) := by decide +kernel
theorem dX5_help_16 : decode cX5_help 16 = .ok (.getfield 147, 3) := by decide +kernel
theorem dX5_help_19 : decode cX5_help 19 = .ok (.invokevirtual 198, 3) := by decide +kernel
theorem dX5_help_22 : decode cX5_help 22 = .ok (.bipush (-4), 2) := by decide +kernel
theorem dX5_help_24 : decode cX5_help 24 = .ok (.if_icmp .ne 6, 3) := by decide +kernel
theorem dX5_help_27 : decode cX5_help 27 = .ok (.bipush (-4), 2) := by decide +kernel
theorem dX5_help_29 : decode cX5_help 29 = .ok (.ireturn, 1) := by decide +kernel
theorem dX5_help_30 : decode cX5_help 30 = .ok (.bipush (-4), 2) := by decide +kernel
theorem dX5_help_32 : decode cX5_help 32 = .ok (.istore_n 2, 1) := by decide +kernel
theorem dX5_help_33 : decode cX5_help 33 = .ok (.iconst 0, 1) := by decide +kernel
theorem dX5_help_34 : decode cX5_help 34 = .ok (.istore_n 3, 1) := by decide +kernel
theorem dX5_help_35 : decode cX5_help 35 = .ok (.iconst 0, 1) := by decide +kernel
theorem dX5_help_36 : decode cX5_help 36 = .ok (.istore 4, 2) := by decide +kernel
theorem dX5_help_38 : decode cX5_help 38 = .ok (.iload 4, 2) := by decide +kernel
theorem dX5_help_40 : decode cX5_help 40 = .ok (.aload_n 0, 1) := by decide +kernel
theorem dX5_help_41 : decode cX5_help 41 = .ok (.getfield 26, 3) := by decide +kernel
theorem dX5_help_44 : decode cX5_help 44 = .ok (.getfield 70, 3) := by decide +kernel
theorem dX5_help_47 : decode cX5_help 47 = .ok (.if_icmp .ge 70, 3) := by decide +kernel
theorem dX5_help_50 : decode cX5_help 50 = .ok (.aload_n 0, 1) := by decide +kernel
theorem dX5_help_51 : decode cX5_help 51 = .ok (.getfield 26, 3) := by decide +kernel
theorem dX5_help_54 : decode cX5_help 54 = .ok (.getfield 147, 3) := by decide +kernel
theorem dX5_help_57 : decode cX5_help 57 = .ok (.iload 4, 2) := by decide +kernel
theorem dX5_help_59 : decode cX5_help 59 = .ok (.invokestatic 150, 3) := by decide +kernel
theorem dX5_help_62 : decode cX5_help 62 = .ok (.ifCond .ne 49, 3) := by decide +kernel
theorem dX5_help_65 : decode cX5_help 65 = .ok (.aload_n 0, 1) := by decide +kernel
theorem dX5_help_66 : decode cX5_help 66 = .ok (.getfield 26, 3) := by decide +kernel
theorem dX5_help_69 : decode cX5_help 69 = .ok (.getfield 147, 3) := by decide +kernel
theorem dX5_help_72 : decode cX5_help 72 = .ok (.iconst 1, 1) := by decide +kernel
theorem dX5_help_73 : decode cX5_help 73 = .ok (.iload 4, 2) := by decide +kernel
theorem dX5_help_75 : decode cX5_help 75 = .ok (.ishl, 1) := by decide +kernel
theorem dX5_help_76 : decode cX5_help 76 = .ok (.ior, 1) := by decide +kernel
theorem dX5_help_77 : decode cX5_help 77 = .ok (.istore 5, 2) := by decide +kernel
theorem dX5_help_79 : decode cX5_help 79 = .ok (.aload_n 0, 1) := by decide +kernel
theorem dX5_help_80 : decode cX5_help 80 = .ok (.iload 5, 2) := by decide +kernel
theorem dX5_help_82 : decode cX5_help 82 = .ok (.aload_n 0, 1) := by decide +kernel
theorem dX5_help_83 : decode cX5_help 83 = .ok (.iload 5, 2) := by decide +kernel
theorem dX5_help_85 : decode cX5_help 85 = .ok (.invokevirtual 198, 3) := by decide +kernel
theorem dX5_help_88 : decode cX5_help 88 = .ok (.invokevirtual 195, 3) := by decide +kernel
theorem dX5_help_91 : decode cX5_help 91 = .ok (.istore 6, 2) := by decide +kernel
theorem dX5_help_93 : decode cX5_help 93 = .ok (.iload_n 2, 1) := by decide +kernel
theorem dX5_help_94 : decode cX5_help 94 = .ok (.bipush (-4), 2) := by decide +kernel
theorem dX5_help_96 : decode cX5_help 96 = .ok (.if_icmp .eq 9, 3) := by decide +kernel
theorem dX5_help_99 : decode cX5_help 99 = .ok (.iload 6, 2) := by decide +kernel
theorem dX5_help_101 : decode cX5_help 101 = .ok (.iload_n 3, 1) := by decide +kernel
theorem dX5_help_102 : decode cX5_help 102 = .ok (.if_icmp .ge 9, 3) := by decide +kernel
theorem dX5_help_105 : decode cX5_help 105 = .ok (.iload 4, 2) := by decide +kernel
theorem dX5_help_107 : decode cX5_help 107 = .ok (.istore_n 2, 1) := by decide +kernel
theorem dX5_help_108 : decode cX5_help 108 = .ok (.iload 6, 2) := by decide +kernel
theorem dX5_help_110 : decode cX5_help 110 = .ok (.istore_n 3, 1) := by decide +kernel
theorem dX5_help_111 : decode cX5_help 111 = .ok (.iinc 4 1, 3) := by decide +kernel
theorem dX5_help_114 : decode cX5_help 114 = .ok (.goto (-76), 3) := by decide +kernel
theorem dX5_help_117 : decode cX5_help 117 = .ok (.iload_n 1, 1) := by decide +kernel
theorem dX5_help_118 : decode cX5_help 118 = .ok (.ifCond .eq 9, 3) := by decide +kernel
theorem dX5_help_121 : decode cX5_help 121 = .ok (.iload_n 2, 1) := by decide +kernel
theorem dX5_help_122 : decode cX5_help 122 = .ok (.bipush (-4), 2) := by decide +kernel
theorem dX5_help_124 : decode cX5_help 124 = .ok (.if_icmp .ne 7, 3) := by decide +kernel
theorem dX5_help_127 : decode cX5_help 127 = .ok (.iload_n 2, 1) := by decide +kernel
theorem dX5_help_128 : decode cX5_help 128 = .ok (.goto 4, 3) := by decide +kernel
theorem dX5_help_131 : decode cX5_help 131 = .ok (.iload_n 3, 1) := by decide +kernel
theorem dX5_help_132 : decode cX5_help 132 = .ok (.ireturn, 1) := by decide +kernel
set_option maxRecDepth 20000 in
theorem ggX5_zone_X5_within : GoodIn wsX5_zone wsX5_within := goodIn_r _ [7] (by decide +kernel) (by decide +kernel)
set_option maxRecDepth 20000 in
theorem gX5_zone_X5_within : GoodIn wsX5_zone (va_wsS RX5 63 yX5_within wsX5_within) := goodIn_app (goodIn_of _ (by decide +kernel)) ggX5_zone_X5_within
set_option maxRecDepth 20000 in
theorem ggX5_zone_X3_zonesInFire : GoodIn wsX5_zone wsX3_zonesInFire := goodIn_r _ [12, 13, 14, 15, 16, 6, 17, 78, 79, 80, 81, 82, 83, 84, 85, 86, 87, 88, 89, 90, 91, 66, 67, 68, 69, 70, 71, 72, 73, 74, 75, 76, 77] (by decide +kernel) (by decide +kernel)
set_option maxRecDepth 20000 in
theorem gX5_zone_X3_zonesInFire : GoodIn wsX5_zone (wsV RX5 201 RX3 yX3_zonesInFire wsX3_zonesInFire) := goodIn_app (goodIn_of _ (by decide +kernel)) ggX5_zone_X3_zonesInFire
set_option maxRecDepth 20000 in
theorem ggX5_zone_X5_bit : GoodIn wsX5_zone wsX5_bit := goodIn_r _ [17] (by decide +kernel) (by decide +kernel)
set_option maxRecDepth 20000 in
theorem gX5_zone_X5_bit : GoodIn wsX5_zone (va_wsS RX5 150 yX5_bit wsX5_bit) := goodIn_app (goodIn_of _ (by decide +kernel)) ggX5_zone_X5_bit
set_option maxRecDepth 20000 in
theorem ggX5_zone_X3_since : GoodIn wsX5_zone wsX3_since := goodIn_r _ [22, 23, 24, 66, 67, 68, 69, 70, 71, 72, 73, 74, 75, 76, 77] (by decide +kernel) (by decide +kernel)
set_option maxRecDepth 20000 in
theorem gX5_zone_X3_since : GoodIn wsX5_zone (wsV RX5 204 RX3 yX3_since wsX3_since) := goodIn_app (goodIn_of _ (by decide +kernel)) ggX5_zone_X3_since
set_option maxRecDepth 20000 in
theorem ggX5_zone_X3_phaseToLeave : GoodIn wsX5_zone wsX3_phaseToLeave := goodIn_r _ [28, 29, 30, 9, 10, 11, 12, 13, 14, 15, 16, 6, 17, 31, 20, 21, 22, 23, 24, 78, 79, 80, 81, 82, 83, 84, 85, 86, 87, 88, 89, 90, 91, 66, 67, 68, 69, 70, 71, 72, 73, 74, 75, 76, 77] (by decide +kernel) (by decide +kernel)
set_option maxRecDepth 20000 in
theorem gX5_zone_X3_phaseToLeave : GoodIn wsX5_zone (wsV RX5 207 RX3 yX3_phaseToLeave wsX3_phaseToLeave) := goodIn_app (goodIn_of _ (by decide +kernel)) ggX5_zone_X3_phaseToLeave
set_option maxRecDepth 20000 in
theorem ggX5_zone_X1_devicesIn : GoodIn wsX5_zone wsX1_devicesIn := goodIn_r _ [36, 37, 38, 78, 79, 80, 81, 82, 83, 84, 85, 86, 87, 88, 89, 90, 91] (by decide +kernel) (by decide +kernel)
set_option maxRecDepth 20000 in
theorem gX5_zone_X1_devicesIn : GoodIn wsX5_zone (wsV RX5 210 RX1 yX1_devicesIn wsX1_devicesIn) := goodIn_app (goodIn_of _ (by decide +kernel)) ggX5_zone_X1_devicesIn
set_option maxRecDepth 20000 in
theorem ggX5_zone_J6_bitCount_0f7a4 : GoodIn wsX5_zone wsJ6_bitCount_0f7a4 := goodIn_r _ [42, 43, 44, 45] (by decide +kernel) (by decide +kernel)
set_option maxRecDepth 20000 in
theorem gX5_zone_J6_bitCount_0f7a4 : GoodIn wsX5_zone (va_wsS RX5 107 yJ6_bitCount_0f7a4 wsJ6_bitCount_0f7a4) := goodIn_app (goodIn_of _ (by decide +kernel)) ggX5_zone_J6_bitCount_0f7a4
set_option maxRecDepth 20000 in
theorem ggX5_zone_X5_lostNow : GoodIn wsX5_zone wsX5_lostNow := goodIn_r _ [49, 2, 50, 51, 1, 52, 53, 54, 55, 56, 57, 58, 59, 60, 16, 6, 17, 61, 62, 63, 64, 65, 78, 79, 80, 81, 82, 83, 84, 85, 86, 87, 88, 89, 90, 91, 66, 67, 68, 69, 70, 71, 72, 73, 74, 75, 76, 77] (by decide +kernel) (by decide +kernel)
set_option maxRecDepth 20000 in
theorem gX5_zone_X5_lostNow : GoodIn wsX5_zone (wsV RX5 115 RX5 yX5_lostNow wsX5_lostNow) := goodIn_app (goodIn_of _ (by decide +kernel)) ggX5_zone_X5_lostNow
theorem dX5_zone_0 : decode cX5_zone 0 = .ok (.iload_n 1, 1) := by decide +kernel
theorem dX5_zone_1 : decode cX5_zone 1 = .ok (.iconst 0, 1) := by decide +kernel
theorem dX5_zone_2 : decode cX5_zone 2 = .ok (.iconst 5, 1) := by decide +kernel
theorem dX5_zone_3 : decode cX5_zone 3 = .ok (.invokestatic 63, 3) := by decide +kernel
theorem dX5_zone_6 : decode cX5_zone 6 = .ok (.ifCond .eq 12, 3) := by decide +kernel
theorem dX5_zone_9 : decode cX5_zone 9 = .ok (.iload_n 2, 1) := by decide +kernel
theorem dX5_zone_10 : decode cX5_zone 10 = .ok (.iconst 0, 1) := by decide +kernel
theorem dX5_zone_11 : decode cX5_zone 11 = .ok (.iconst 5, 1) := by decide +kernel
theorem dX5_zone_12 : decode cX5_zone 12 = .ok (.invokestatic 63, 3) := by decide +kernel
theorem dX5_zone_15 : decode cX5_zone 15 = .ok (.ifCond .ne 5, 3) := by decide +kernel
theorem dX5_zone_18 : decode cX5_zone 18 = .ok (.iconst (-1), 1) := by decide +kernel
theorem dX5_zone_19 : decode cX5_zone 19 = .ok (.ireturn, 1) := by decide +kernel
theorem dX5_zone_20 : decode cX5_zone 20 = .ok (.iload_n 2, 1) := by decide +kernel
theorem dX5_zone_21 : decode cX5_zone 21 = .ok (.tableswitch 126 0 4 #[35, 51, 84, 97, 109], 35) := by decide +kernel
theorem dX5_zone_56 : decode cX5_zone 56 = .ok (.aload_n 0, 1) := by decide +kernel
theorem dX5_zone_57 : decode cX5_zone 57 = .ok (.getfield 36, 3) := by decide +kernel
theorem dX5_zone_60 : decode cX5_zone 60 = .ok (.aload_n 0, 1) := by decide +kernel
theorem dX5_zone_61 : decode cX5_zone 61 = .ok (.getfield 26, 3) := by decide +kernel
theorem dX5_zone_64 : decode cX5_zone 64 = .ok (.invokevirtual 201, 3) := by decide +kernel
theorem dX5_zone_67 : decode cX5_zone 67 = .ok (.iload_n 1, 1) := by decide +kernel
theorem dX5_zone_68 : decode cX5_zone 68 = .ok (.invokestatic 150, 3) := by decide +kernel
theorem dX5_zone_71 : decode cX5_zone 71 = .ok (.ireturn, 1) := by decide +kernel
theorem dX5_zone_72 : decode cX5_zone 72 = .ok (.aload_n 0, 1) := by decide +kernel
theorem dX5_zone_73 : decode cX5_zone 73 = .ok (.getfield 36, 3) := by decide +kernel
theorem dX5_zone_76 : decode cX5_zone 76 = .ok (.aload_n 0, 1) := by decide +kernel
theorem dX5_zone_77 : decode cX5_zone 77 = .ok (.getfield 26, 3) := by decide +kernel
theorem dX5_zone_80 : decode cX5_zone 80 = .ok (.invokevirtual 201, 3) := by decide +kernel
theorem dX5_zone_83 : decode cX5_zone 83 = .ok (.iload_n 1, 1) := by decide +kernel
theorem dX5_zone_84 : decode cX5_zone 84 = .ok (.invokestatic 150, 3) := by decide +kernel
theorem dX5_zone_87 : decode cX5_zone 87 = .ok (.iconst 1, 1) := by decide +kernel
theorem dX5_zone_88 : decode cX5_zone 88 = .ok (.if_icmp .ne 14, 3) := by decide +kernel
theorem dX5_zone_91 : decode cX5_zone 91 = .ok (.aload_n 0, 1) := by decide +kernel
theorem dX5_zone_92 : decode cX5_zone 92 = .ok (.getfield 36, 3) := by decide +kernel
theorem dX5_zone_95 : decode cX5_zone 95 = .ok (.iload_n 1, 1) := by decide +kernel
theorem dX5_zone_96 : decode cX5_zone 96 = .ok (.invokevirtual 204, 3) := by decide +kernel
theorem dX5_zone_99 : decode cX5_zone 99 = .ok (.goto 5, 3) := by decide +kernel
theorem dX5_zone_102 : decode cX5_zone 102 = .ok (.bipush (-4), 2) := by decide +kernel
theorem dX5_zone_104 : decode cX5_zone 104 = .ok (.ireturn, 1) := by decide +kernel
theorem dX5_zone_105 : decode cX5_zone 105 = .ok (.aload_n 0, 1) := by decide +kernel
theorem dX5_zone_106 : decode cX5_zone 106 = .ok (.getfield 36, 3) := by decide +kernel
theorem dX5_zone_109 : decode cX5_zone 109 = .ok (.aload_n 0, 1) := by decide +kernel
theorem dX5_zone_110 : decode cX5_zone 110 = .ok (.getfield 26, 3) := by decide +kernel
theorem dX5_zone_113 : decode cX5_zone 113 = .ok (.iload_n 1, 1) := by decide +kernel
theorem dX5_zone_114 : decode cX5_zone 114 = .ok (.invokevirtual 207, 3) := by decide +kernel
theorem dX5_zone_117 : decode cX5_zone 117 = .ok (.ireturn, 1) := by decide +kernel
theorem dX5_zone_118 : decode cX5_zone 118 = .ok (.aload_n 0, 1) := by decide +kernel
theorem dX5_zone_119 : decode cX5_zone 119 = .ok (.getfield 26, 3) := by decide +kernel
theorem dX5_zone_122 : decode cX5_zone 122 = .ok (.iload_n 1, 1) := by decide +kernel
theorem dX5_zone_123 : decode cX5_zone 123 = .ok (.invokevirtual 210, 3) := by decide +kernel
theorem dX5_zone_126 : decode cX5_zone 126 = .ok (.invokestatic 107, 3) := by decide +kernel
theorem dX5_zone_129 : decode cX5_zone 129 = .ok (.ireturn, 1) := by decide +kernel
theorem dX5_zone_130 : decode cX5_zone 130 = .ok (.aload_n 0, 1) := by decide +kernel
theorem dX5_zone_131 : decode cX5_zone 131 = .ok (.getfield 26, 3) := by decide +kernel
theorem dX5_zone_134 : decode cX5_zone 134 = .ok (.iload_n 1, 1) := by decide +kernel
theorem dX5_zone_135 : decode cX5_zone 135 = .ok (.invokevirtual 210, 3) := by decide +kernel
theorem dX5_zone_138 : decode cX5_zone 138 = .ok (.aload_n 0, 1) := by decide +kernel
theorem dX5_zone_139 : decode cX5_zone 139 = .ok (.invokevirtual 115, 3) := by decide +kernel
theorem dX5_zone_142 : decode cX5_zone 142 = .ok (.iand, 1) := by decide +kernel
theorem dX5_zone_143 : decode cX5_zone 143 = .ok (.invokestatic 107, 3) := by decide +kernel
theorem dX5_zone_146 : decode cX5_zone 146 = .ok (.ireturn, 1) := by decide +kernel
theorem dX5_zone_147 : decode cX5_zone 147 = .ok (.aload_n 0, 1) := by decide +kernel
theorem dX5_zone_148 : decode cX5_zone 148 = .ok (.getfield 26, 3) := by decide +kernel
theorem dX5_zone_151 : decode cX5_zone 151 = .ok (.iload_n 1, 1) := by decide +kernel
theorem dX5_zone_152 : decode cX5_zone 152 = .ok (.invokevirtual 210, 3) := by decide +kernel
theorem dX5_zone_155 : decode cX5_zone 155 = .ok (.aload_n 0, 1) := by decide +kernel
theorem dX5_zone_156 : decode cX5_zone 156 = .ok (.getfield 36, 3) := by decide +kernel
theorem dX5_zone_159 : decode cX5_zone 159 = .ok (.getfield 118, 3) := by decide +kernel
theorem dX5_zone_162 : decode cX5_zone 162 = .ok (.iand, 1) := by decide +kernel
theorem dX5_zone_163 : decode cX5_zone 163 = .ok (.invokestatic 107, 3) := by decide +kernel
theorem dX5_zone_166 : decode cX5_zone 166 = .ok (.ireturn, 1) := by decide +kernel
set_option maxRecDepth 20000 in
theorem ggX5_effect_X5_within : GoodIn wsX5_effect wsX5_within := goodIn_r _ [14] (by decide +kernel) (by decide +kernel)
set_option maxRecDepth 20000 in
theorem gX5_effect_X5_within : GoodIn wsX5_effect (va_wsS RX5 63 yX5_within wsX5_within) := goodIn_app (goodIn_of _ (by decide +kernel)) ggX5_effect_X5_within
set_option maxRecDepth 20000 in
theorem ggX5_effect_X5_bit : GoodIn wsX5_effect wsX5_bit := goodIn_r _ [17] (by decide +kernel) (by decide +kernel)
set_option maxRecDepth 20000 in
theorem gX5_effect_X5_bit : GoodIn wsX5_effect (va_wsS RX5 150 yX5_bit wsX5_bit) := goodIn_app (goodIn_of _ (by decide +kernel)) ggX5_effect_X5_bit
set_option maxRecDepth 20000 in
theorem ggX5_effect_X3_zonesInFire : GoodIn wsX5_effect wsX3_zonesInFire := goodIn_r _ [22, 23, 24, 25, 16, 13, 17, 45, 46, 47, 48, 49, 50, 51, 52, 53, 54, 55, 56, 57, 58, 59, 60, 61, 62, 63, 64, 65, 66, 67, 68, 69, 70] (by decide +kernel) (by decide +kernel)
set_option maxRecDepth 20000 in
theorem gX5_effect_X3_zonesInFire : GoodIn wsX5_effect (wsV RX5 201 RX3 yX3_zonesInFire wsX3_zonesInFire) := goodIn_app (goodIn_of _ (by decide +kernel)) ggX5_effect_X3_zonesInFire
set_option maxRecDepth 20000 in
theorem ggX5_effect_X1_wants : GoodIn wsX5_effect wsX1_wants := goodIn_r _ [30, 31, 32, 33, 34, 35, 36, 37, 38, 39, 45, 46, 47, 48, 49, 50, 51, 52, 53, 54, 55, 56, 57, 58] (by decide +kernel) (by decide +kernel)
set_option maxRecDepth 20000 in
theorem gX5_effect_X1_wants : GoodIn wsX5_effect (wsV RX5 228 RX1 yX1_wants wsX1_wants) := goodIn_app (goodIn_of _ (by decide +kernel)) ggX5_effect_X1_wants
theorem dX5_effect_0 : decode cX5_effect 0 = .ok (.iload_n 1, 1) := by decide +kernel
theorem dX5_effect_1 : decode cX5_effect 1 = .ok (.iconst 0, 1) := by decide +kernel
theorem dX5_effect_2 : decode cX5_effect 2 = .ok (.aload_n 0, 1) := by decide +kernel
theorem dX5_effect_3 : decode cX5_effect 3 = .ok (.getfield 26, 3) := by decide +kernel
theorem dX5_effect_6 : decode cX5_effect 6 = .ok (.getfield 213, 3) := by decide +kernel
theorem dX5_effect_9 : decode cX5_effect 9 = .ok (.iconst 1, 1) := by decide +kernel
theorem dX5_effect_10 : decode cX5_effect 10 = .ok (.isub, 1) := by decide +kernel
theorem dX5_effect_11 : decode cX5_effect 11 = .ok (.invokestatic 63, 3) := by decide +kernel
theorem dX5_effect_14 : decode cX5_effect 14 = .ok (.ifCond .eq 13, 3) := by decide +kernel
theorem dX5_effect_17 : decode cX5_effect 17 = .ok (.iload_n 2, 1) := by decide +kernel
theorem dX5_effect_18 : decode cX5_effect 18 = .ok (.iconst 0, 1) := by decide +kernel
theorem dX5_effect_19 : decode cX5_effect 19 = .ok (.bipush 7, 2) := by decide +kernel
theorem dX5_effect_21 : decode cX5_effect 21 = .ok (.invokestatic 63, 3) := by decide +kernel
theorem dX5_effect_24 : decode cX5_effect 24 = .ok (.ifCond .ne 5, 3) := by decide +kernel
theorem dX5_effect_27 : decode cX5_effect 27 = .ok (.iconst (-1), 1) := by decide +kernel
theorem dX5_effect_28 : decode cX5_effect 28 = .ok (.ireturn, 1) := by decide +kernel
theorem dX5_effect_29 : decode cX5_effect 29 = .ok (.iload_n 2, 1) := by decide +kernel
theorem dX5_effect_30 : decode cX5_effect 30 = .ok (.tableswitch 134 0 6 #[42, 52, 62, 72, 84, 112, 122], 42) := by decide +kernel
theorem dX5_effect_72 : decode cX5_effect 72 = .ok (.aload_n 0, 1) := by decide +kernel
theorem dX5_effect_73 : decode cX5_effect 73 = .ok (.getfield 26, 3) := by decide +kernel
theorem dX5_effect_76 : decode cX5_effect 76 = .ok (.getfield 216, 3) := by decide +kernel
theorem dX5_effect_79 : decode cX5_effect 79 = .ok (.iload_n 1, 1) := by decide +kernel
theorem dX5_effect_80 : decode cX5_effect 80 = .ok (.iaload, 1) := by decide +kernel
theorem dX5_effect_81 : decode cX5_effect 81 = .ok (.ireturn, 1) := by decide +kernel
theorem dX5_effect_82 : decode cX5_effect 82 = .ok (.aload_n 0, 1) := by decide +kernel
theorem dX5_effect_83 : decode cX5_effect 83 = .ok (.getfield 26, 3) := by decide +kernel
theorem dX5_effect_86 : decode cX5_effect 86 = .ok (.getfield 219, 3) := by decide +kernel
theorem dX5_effect_89 : decode cX5_effect 89 = .ok (.iload_n 1, 1) := by decide +kernel
theorem dX5_effect_90 : decode cX5_effect 90 = .ok (.iaload, 1) := by decide +kernel
theorem dX5_effect_91 : decode cX5_effect 91 = .ok (.ireturn, 1) := by decide +kernel
theorem dX5_effect_92 : decode cX5_effect 92 = .ok (.aload_n 0, 1) := by decide +kernel
theorem dX5_effect_93 : decode cX5_effect 93 = .ok (.getfield 26, 3) := by decide +kernel
theorem dX5_effect_96 : decode cX5_effect 96 = .ok (.getfield 222, 3) := by decide +kernel
theorem dX5_effect_99 : decode cX5_effect 99 = .ok (.iload_n 1, 1) := by decide +kernel
theorem dX5_effect_100 : decode cX5_effect 100 = .ok (.iaload, 1) := by decide +kernel
theorem dX5_effect_101 : decode cX5_effect 101 = .ok (.ireturn, 1) := by decide +kernel
theorem dX5_effect_102 : decode cX5_effect 102 = .ok (.aload_n 0, 1) := by decide +kernel
theorem dX5_effect_103 : decode cX5_effect 103 = .ok (.getfield 26, 3) := by decide +kernel
theorem dX5_effect_106 : decode cX5_effect 106 = .ok (.getfield 225, 3) := by decide +kernel
theorem dX5_effect_109 : decode cX5_effect 109 = .ok (.iload_n 1, 1) := by decide +kernel
theorem dX5_effect_110 : decode cX5_effect 110 = .ok (.invokestatic 150, 3) := by decide +kernel
theorem dX5_effect_113 : decode cX5_effect 113 = .ok (.ireturn, 1) := by decide +kernel
theorem dX5_effect_114 : decode cX5_effect 114 = .ok (.aload_n 0, 1) := by decide +kernel
theorem dX5_effect_115 : decode cX5_effect 115 = .ok (.getfield 26, 3) := by decide +kernel
theorem dX5_effect_118 : decode cX5_effect 118 = .ok (.iload_n 1, 1) := by decide +kernel
theorem dX5_effect_119 : decode cX5_effect 119 = .ok (.aload_n 0, 1) := by decide +kernel
theorem dX5_effect_120 : decode cX5_effect 120 = .ok (.getfield 36, 3) := by decide +kernel
theorem dX5_effect_123 : decode cX5_effect 123 = .ok (.aload_n 0, 1) := by decide +kernel
theorem dX5_effect_124 : decode cX5_effect 124 = .ok (.getfield 26, 3) := by decide +kernel
theorem dX5_effect_127 : decode cX5_effect 127 = .ok (.invokevirtual 201, 3) := by decide +kernel
theorem dX5_effect_130 : decode cX5_effect 130 = .ok (.invokevirtual 228, 3) := by decide +kernel
theorem dX5_effect_133 : decode cX5_effect 133 = .ok (.ifCond .eq 7, 3) := by decide +kernel
theorem dX5_effect_136 : decode cX5_effect 136 = .ok (.iconst 1, 1) := by decide +kernel
theorem dX5_effect_137 : decode cX5_effect 137 = .ok (.goto 4, 3) := by decide +kernel
theorem dX5_effect_140 : decode cX5_effect 140 = .ok (.iconst 0, 1) := by decide +kernel
theorem dX5_effect_141 : decode cX5_effect 141 = .ok (.ireturn, 1) := by decide +kernel
theorem dX5_effect_142 : decode cX5_effect 142 = .ok (.aload_n 0, 1) := by decide +kernel
theorem dX5_effect_143 : decode cX5_effect 143 = .ok (.getfield 36, 3) := by decide +kernel
theorem dX5_effect_146 : decode cX5_effect 146 = .ok (.getfield 232, 3) := by decide +kernel
theorem dX5_effect_149 : decode cX5_effect 149 = .ok (.iload_n 1, 1) := by decide +kernel
theorem dX5_effect_150 : decode cX5_effect 150 = .ok (.iaload, 1) := by decide +kernel
theorem dX5_effect_151 : decode cX5_effect 151 = .ok (.ireturn, 1) := by decide +kernel
theorem dX5_effect_152 : decode cX5_effect 152 = .ok (.aload_n 0, 1) := by decide +kernel
theorem dX5_effect_153 : decode cX5_effect 153 = .ok (.getfield 36, 3) := by decide +kernel
theorem dX5_effect_156 : decode cX5_effect 156 = .ok (.getfield 104, 3) := by decide +kernel
theorem dX5_effect_159 : decode cX5_effect 159 = .ok (.iload_n 1, 1) := by decide +kernel
theorem dX5_effect_160 : decode cX5_effect 160 = .ok (.invokestatic 150, 3) := by decide +kernel
theorem dX5_effect_163 : decode cX5_effect 163 = .ok (.ireturn, 1) := by decide +kernel
theorem dX5_effect_164 : decode cX5_effect 164 = .ok (.aload_n 0, 1) := by decide +kernel
theorem dX5_effect_165 : decode cX5_effect 165 = .ok (.getfield 36, 3) := by decide +kernel
theorem dX5_effect_168 : decode cX5_effect 168 = .ok (.getfield 128, 3) := by decide +kernel
theorem dX5_effect_171 : decode cX5_effect 171 = .ok (.iload_n 1, 1) := by decide +kernel
theorem dX5_effect_172 : decode cX5_effect 172 = .ok (.invokestatic 150, 3) := by decide +kernel
theorem dX5_effect_175 : decode cX5_effect 175 = .ok (.ireturn, 1) := by decide +kernel
set_option maxRecDepth 20000 in
theorem ggX5_count_X5_lostNow : GoodIn wsX5_count wsX5_lostNow := goodIn_r _ [18, 1, 2, 19, 4, 20, 21, 22, 23, 24, 25, 26, 27, 28, 29, 17, 30, 51, 52, 53, 54, 55, 56, 57, 58, 59, 60, 61, 62, 63, 64, 65, 66, 67, 68, 69, 70, 71, 72, 73, 74, 75, 76, 77, 78, 79, 80, 81] (by decide +kernel) (by decide +kernel)
set_option maxRecDepth 20000 in
theorem gX5_count_X5_lostNow : GoodIn wsX5_count (wsV RX5 115 RX5 yX5_lostNow wsX5_lostNow) := goodIn_app (goodIn_of _ (by decide +kernel)) ggX5_count_X5_lostNow
set_option maxRecDepth 20000 in
theorem ggX5_count_J6_bitCount_0f7a4 : GoodIn wsX5_count wsJ6_bitCount_0f7a4 := goodIn_r _ [34, 35, 36, 37] (by decide +kernel) (by decide +kernel)
set_option maxRecDepth 20000 in
theorem gX5_count_J6_bitCount_0f7a4 : GoodIn wsX5_count (va_wsS RX5 107 yJ6_bitCount_0f7a4 wsJ6_bitCount_0f7a4) := goodIn_app (goodIn_of _ (by decide +kernel)) ggX5_count_J6_bitCount_0f7a4
set_option maxRecDepth 20000 in
theorem ggX5_count_X3_zonesInFire : GoodIn wsX5_count wsX3_zonesInFire := goodIn_r _ [42, 43, 44, 45, 29, 17, 30, 56, 57, 58, 59, 60, 61, 62, 63, 64, 65, 66, 67, 68, 69, 70, 71, 72, 73, 74, 75, 76, 77, 78, 79, 80, 81] (by decide +kernel) (by decide +kernel)
set_option maxRecDepth 20000 in
theorem gX5_count_X3_zonesInFire : GoodIn wsX5_count (wsV RX5 201 RX3 yX3_zonesInFire wsX3_zonesInFire) := goodIn_app (goodIn_of _ (by decide +kernel)) ggX5_count_X3_zonesInFire
set_option maxRecDepth 20000 in
theorem ggX5_count_X5_soundsThatSound : GoodIn wsX5_count wsX5_soundsThatSound := goodIn_r _ [49, 4, 6, 1, 50, 7, 51, 52, 53, 54, 55, 70, 71, 72, 73, 74, 75, 76, 77, 78, 79, 80, 81, 56, 57, 58, 59, 60, 61, 62, 63, 64, 65, 66, 67, 68, 69] (by decide +kernel) (by decide +kernel)
set_option maxRecDepth 20000 in
theorem gX5_count_X5_soundsThatSound : GoodIn wsX5_count (wsV RX5 125 RX5 yX5_soundsThatSound wsX5_soundsThatSound) := goodIn_app (goodIn_of _ (by decide +kernel)) ggX5_count_X5_soundsThatSound
theorem dX5_count_0 : decode cX5_count 0 = .ok (.iload_n 1, 1) := by decide +kernel
theorem dX5_count_1 : decode cX5_count 1 = .ok (.tableswitch 175 0 11 #[63, 71, 79, 87, 98, 113, 124, 135, 143, 151, 159, 167], 63) := by decide +kernel
theorem dX5_count_64 : decode cX5_count 64 = .ok (.aload_n 0, 1) := by decide +kernel
theorem dX5_count_65 : decode cX5_count 65 = .ok (.getfield 26, 3) := by decide +kernel
theorem dX5_count_68 : decode cX5_count 68 = .ok (.getfield 70, 3) := by decide +kernel
theorem dX5_count_71 : decode cX5_count 71 = .ok (.ireturn, 1) := by decide +kernel
theorem dX5_count_72 : decode cX5_count 72 = .ok (.aload_n 0, 1) := by decide +kernel
theorem dX5_count_73 : decode cX5_count 73 = .ok (.getfield 26, 3) := by decide +kernel
theorem dX5_count_76 : decode cX5_count 76 = .ok (.getfield 213, 3) := by decide +kernel
theorem dX5_count_79 : decode cX5_count 79 = .ok (.ireturn, 1) := by decide +kernel
theorem dX5_count_80 : decode cX5_count 80 = .ok (.aload_n 0, 1) := by decide +kernel
theorem dX5_count_81 : decode cX5_count 81 = .ok (.invokevirtual 115, 3) := by decide +kernel
theorem dX5_count_84 : decode cX5_count 84 = .ok (.invokestatic 107, 3) := by decide +kernel
theorem dX5_count_87 : decode cX5_count 87 = .ok (.ireturn, 1) := by decide +kernel
theorem dX5_count_88 : decode cX5_count 88 = .ok (.aload_n 0, 1) := by decide +kernel
theorem dX5_count_89 : decode cX5_count 89 = .ok (.getfield 36, 3) := by decide +kernel
theorem dX5_count_92 : decode cX5_count 92 = .ok (.getfield 118, 3) := by decide +kernel
theorem dX5_count_95 : decode cX5_count 95 = .ok (.invokestatic 107, 3) := by decide +kernel
theorem dX5_count_98 : decode cX5_count 98 = .ok (.ireturn, 1) := by decide +kernel
theorem dX5_count_99 : decode cX5_count 99 = .ok (.aload_n 0, 1) := by decide +kernel
theorem dX5_count_100 : decode cX5_count 100 = .ok (.getfield 36, 3) := by decide +kernel
theorem dX5_count_103 : decode cX5_count 103 = .ok (.aload_n 0, 1) := by decide +kernel
theorem dX5_count_104 : decode cX5_count 104 = .ok (.getfield 26, 3) := by decide +kernel
theorem dX5_count_107 : decode cX5_count 107 = .ok (.invokevirtual 201, 3) := by decide +kernel
theorem dX5_count_110 : decode cX5_count 110 = .ok (.invokestatic 107, 3) := by decide +kernel
theorem dX5_count_113 : decode cX5_count 113 = .ok (.ireturn, 1) := by decide +kernel
theorem dX5_count_114 : decode cX5_count 114 = .ok (.aload_n 0, 1) := by decide +kernel
theorem dX5_count_115 : decode cX5_count 115 = .ok (.getfield 36, 3) := by decide +kernel
theorem dX5_count_118 : decode cX5_count 118 = .ok (.getfield 104, 3) := by decide +kernel
theorem dX5_count_121 : decode cX5_count 121 = .ok (.invokestatic 107, 3) := by decide +kernel
theorem dX5_count_124 : decode cX5_count 124 = .ok (.ireturn, 1) := by decide +kernel
theorem dX5_count_125 : decode cX5_count 125 = .ok (.aload_n 0, 1) := by decide +kernel
theorem dX5_count_126 : decode cX5_count 126 = .ok (.getfield 36, 3) := by decide +kernel
theorem dX5_count_129 : decode cX5_count 129 = .ok (.getfield 128, 3) := by decide +kernel
theorem dX5_count_132 : decode cX5_count 132 = .ok (.invokestatic 107, 3) := by decide +kernel
theorem dX5_count_135 : decode cX5_count 135 = .ok (.ireturn, 1) := by decide +kernel
theorem dX5_count_136 : decode cX5_count 136 = .ok (.aload_n 0, 1) := by decide +kernel
theorem dX5_count_137 : decode cX5_count 137 = .ok (.getfield 36, 3) := by decide +kernel
theorem dX5_count_140 : decode cX5_count 140 = .ok (.getfield 112, 3) := by decide +kernel
theorem dX5_count_143 : decode cX5_count 143 = .ok (.ireturn, 1) := by decide +kernel
theorem dX5_count_144 : decode cX5_count 144 = .ok (.aload_n 0, 1) := by decide +kernel
theorem dX5_count_145 : decode cX5_count 145 = .ok (.getfield 36, 3) := by decide +kernel
theorem dX5_count_148 : decode cX5_count 148 = .ok (.getfield 101, 3) := by decide +kernel
theorem dX5_count_151 : decode cX5_count 151 = .ok (.ireturn, 1) := by decide +kernel
theorem dX5_count_152 : decode cX5_count 152 = .ok (.aload_n 0, 1) := by decide +kernel
theorem dX5_count_153 : decode cX5_count 153 = .ok (.getfield 19, 3) := by decide +kernel
theorem dX5_count_156 : decode cX5_count 156 = .ok (.getfield 134, 3) := by decide +kernel
theorem dX5_count_159 : decode cX5_count 159 = .ok (.ireturn, 1) := by decide +kernel
theorem dX5_count_160 : decode cX5_count 160 = .ok (.aload_n 0, 1) := by decide +kernel
theorem dX5_count_161 : decode cX5_count 161 = .ok (.getfield 10, 3) := by decide +kernel
theorem dX5_count_164 : decode cX5_count 164 = .ok (.getfield 67, 3) := by decide +kernel
theorem dX5_count_167 : decode cX5_count 167 = .ok (.ireturn, 1) := by decide +kernel
theorem dX5_count_168 : decode cX5_count 168 = .ok (.aload_n 0, 1) := by decide +kernel
theorem dX5_count_169 : decode cX5_count 169 = .ok (.invokevirtual 125, 3) := by decide +kernel
theorem dX5_count_172 : decode cX5_count 172 = .ok (.invokestatic 107, 3) := by decide +kernel
theorem dX5_count_175 : decode cX5_count 175 = .ok (.ireturn, 1) := by decide +kernel
theorem dX5_count_176 : decode cX5_count 176 = .ok (.iconst (-1), 1) := by decide +kernel
theorem dX5_count_177 : decode cX5_count 177 = .ok (.ireturn, 1) := by decide +kernel
theorem dX5_within_0 : decode cX5_within 0 = .ok (.iload_n 0, 1) := by decide +kernel
theorem dX5_within_1 : decode cX5_within 1 = .ok (.iload_n 1, 1) := by decide +kernel
theorem dX5_within_2 : decode cX5_within 2 = .ok (.if_icmp .lt 12, 3) := by decide +kernel
theorem dX5_within_5 : decode cX5_within 5 = .ok (.iload_n 0, 1) := by decide +kernel
theorem dX5_within_6 : decode cX5_within 6 = .ok (.iload_n 2, 1) := by decide +kernel
theorem dX5_within_7 : decode cX5_within 7 = .ok (.if_icmp .gt 7, 3) := by decide +kernel
theorem dX5_within_10 : decode cX5_within 10 = .ok (.iconst 1, 1) := by decide +kernel
theorem dX5_within_11 : decode cX5_within 11 = .ok (.goto 4, 3) := by decide +kernel
theorem dX5_within_14 : decode cX5_within 14 = .ok (.iconst 0, 1) := by decide +kernel
theorem dX5_within_15 : decode cX5_within 15 = .ok (.ireturn, 1) := by decide +kernel
theorem dX5_bit_0 : decode cX5_bit 0 = .ok (.iload_n 0, 1) := by decide +kernel
theorem dX5_bit_1 : decode cX5_bit 1 = .ok (.iload_n 1, 1) := by decide +kernel
theorem dX5_bit_2 : decode cX5_bit 2 = .ok (.ishr, 1) := by decide +kernel
theorem dX5_bit_3 : decode cX5_bit 3 = .ok (.iconst 1, 1) := by decide +kernel
theorem dX5_bit_4 : decode cX5_bit 4 = .ok (.iand, 1) := by decide +kernel
theorem dX5_bit_5 : decode cX5_bit 5 = .ok (.ireturn, 1) := by decide +kernel
set_option maxRecDepth 20000 in
theorem ggX5_isDevice_X5_within : GoodIn wsX5_isDevice wsX5_within := goodIn_r _ [6] (by decide +kernel) (by decide +kernel)
set_option maxRecDepth 20000 in
theorem gX5_isDevice_X5_within : GoodIn wsX5_isDevice (va_wsS RX5 63 yX5_within wsX5_within) := goodIn_app (goodIn_of _ (by decide +kernel)) ggX5_isDevice_X5_within
theorem dX5_isDevice_0 : decode cX5_isDevice 0 = .ok (.iload_n 1, 1) := by decide +kernel
theorem dX5_isDevice_1 : decode cX5_isDevice 1 = .ok (.iconst 0, 1) := by decide +kernel
theorem dX5_isDevice_2 : decode cX5_isDevice 2 = .ok (.aload_n 0, 1) := by decide +kernel
theorem dX5_isDevice_3 : decode cX5_isDevice 3 = .ok (.getfield 26, 3) := by decide +kernel
theorem dX5_isDevice_6 : decode cX5_isDevice 6 = .ok (.getfield 70, 3) := by decide +kernel
theorem dX5_isDevice_9 : decode cX5_isDevice 9 = .ok (.iconst 1, 1) := by decide +kernel
theorem dX5_isDevice_10 : decode cX5_isDevice 10 = .ok (.isub, 1) := by decide +kernel
theorem dX5_isDevice_11 : decode cX5_isDevice 11 = .ok (.invokestatic 63, 3) := by decide +kernel
theorem dX5_isDevice_14 : decode cX5_isDevice 14 = .ok (.ireturn, 1) := by decide +kernel
set_option maxRecDepth 20000 in
theorem ggX5_isWire_X5_within : GoodIn wsX5_isWire wsX5_within := goodIn_r _ [6] (by decide +kernel) (by decide +kernel)
set_option maxRecDepth 20000 in
theorem gX5_isWire_X5_within : GoodIn wsX5_isWire (va_wsS RX5 63 yX5_within wsX5_within) := goodIn_app (goodIn_of _ (by decide +kernel)) ggX5_isWire_X5_within
theorem dX5_isWire_0 : decode cX5_isWire 0 = .ok (.iload_n 1, 1) := by decide +kernel
theorem dX5_isWire_1 : decode cX5_isWire 1 = .ok (.iconst 0, 1) := by decide +kernel
theorem dX5_isWire_2 : decode cX5_isWire 2 = .ok (.aload_n 0, 1) := by decide +kernel
theorem dX5_isWire_3 : decode cX5_isWire 3 = .ok (.getfield 26, 3) := by decide +kernel
theorem dX5_isWire_6 : decode cX5_isWire 6 = .ok (.getfield 70, 3) := by decide +kernel
theorem dX5_isWire_9 : decode cX5_isWire 9 = .ok (.invokestatic 63, 3) := by decide +kernel
theorem dX5_isWire_12 : decode cX5_isWire 12 = .ok (.ireturn, 1) := by decide +kernel
set_option maxRecDepth 20000 in
theorem ggX5_blockedNow_X2_deadWires : GoodIn wsX5_blockedNow wsX2_deadWires := goodIn_r _ [10, 11, 12, 13] (by decide +kernel) (by decide +kernel)
set_option maxRecDepth 20000 in
theorem gX5_blockedNow_X2_deadWires : GoodIn wsX5_blockedNow (va_wsS RX5 235 yX2_deadWires wsX2_deadWires) := goodIn_app (goodIn_of _ (by decide +kernel)) ggX5_blockedNow_X2_deadWires
theorem dX5_blockedNow_0 : decode cX5_blockedNow 0 = .ok (.aload_n 0, 1) := by decide +kernel
theorem dX5_blockedNow_1 : decode cX5_blockedNow 1 = .ok (.getfield 36, 3) := by decide +kernel
theorem dX5_blockedNow_4 : decode cX5_blockedNow 4 = .ok (.getfield 182, 3) := by decide +kernel
theorem dX5_blockedNow_7 : decode cX5_blockedNow 7 = .ok (.aload_n 0, 1) := by decide +kernel
theorem dX5_blockedNow_8 : decode cX5_blockedNow 8 = .ok (.getfield 26, 3) := by decide +kernel
theorem dX5_blockedNow_11 : decode cX5_blockedNow 11 = .ok (.getfield 70, 3) := by decide +kernel
theorem dX5_blockedNow_14 : decode cX5_blockedNow 14 = .ok (.aload_n 0, 1) := by decide +kernel
theorem dX5_blockedNow_15 : decode cX5_blockedNow 15 = .ok (.getfield 26, 3) := by decide +kernel
theorem dX5_blockedNow_18 : decode cX5_blockedNow 18 = .ok (.getfield 147, 3) := by decide +kernel
theorem dX5_blockedNow_21 : decode cX5_blockedNow 21 = .ok (.aload_n 0, 1) := by decide +kernel
theorem dX5_blockedNow_22 : decode cX5_blockedNow 22 = .ok (.getfield 36, 3) := by decide +kernel
theorem dX5_blockedNow_25 : decode cX5_blockedNow 25 = .ok (.getfield 185, 3) := by decide +kernel
theorem dX5_blockedNow_28 : decode cX5_blockedNow 28 = .ok (.invokestatic 235, 3) := by decide +kernel
theorem dX5_blockedNow_31 : decode cX5_blockedNow 31 = .ok (.ior, 1) := by decide +kernel
theorem dX5_blockedNow_32 : decode cX5_blockedNow 32 = .ok (.ireturn, 1) := by decide +kernel
set_option maxRecDepth 20000 in
theorem ggX5_lostNow_X2_lostDevices : GoodIn wsX5_lostNow wsX2_lostDevices := goodIn_r _ [10, 11, 12, 9, 13, 14, 15, 16] (by decide +kernel) (by decide +kernel)
set_option maxRecDepth 20000 in
theorem gX5_lostNow_X2_lostDevices : GoodIn wsX5_lostNow (va_wsS RX5 238 yX2_lostDevices wsX2_lostDevices) := goodIn_app (goodIn_of _ (by decide +kernel)) ggX5_lostNow_X2_lostDevices
theorem dX5_lostNow_0 : decode cX5_lostNow 0 = .ok (.aload_n 0, 1) := by decide +kernel
theorem dX5_lostNow_1 : decode cX5_lostNow 1 = .ok (.getfield 26, 3) := by decide +kernel
theorem dX5_lostNow_4 : decode cX5_lostNow 4 = .ok (.getfield 70, 3) := by decide +kernel
theorem dX5_lostNow_7 : decode cX5_lostNow 7 = .ok (.aload_n 0, 1) := by decide +kernel
theorem dX5_lostNow_8 : decode cX5_lostNow 8 = .ok (.getfield 26, 3) := by decide +kernel
theorem dX5_lostNow_11 : decode cX5_lostNow 11 = .ok (.getfield 147, 3) := by decide +kernel
theorem dX5_lostNow_14 : decode cX5_lostNow 14 = .ok (.aload_n 0, 1) := by decide +kernel
theorem dX5_lostNow_15 : decode cX5_lostNow 15 = .ok (.getfield 36, 3) := by decide +kernel
theorem dX5_lostNow_18 : decode cX5_lostNow 18 = .ok (.getfield 182, 3) := by decide +kernel
theorem dX5_lostNow_21 : decode cX5_lostNow 21 = .ok (.aload_n 0, 1) := by decide +kernel
theorem dX5_lostNow_22 : decode cX5_lostNow 22 = .ok (.getfield 36, 3) := by decide +kernel
theorem dX5_lostNow_25 : decode cX5_lostNow 25 = .ok (.getfield 185, 3) := by decide +kernel
theorem dX5_lostNow_28 : decode cX5_lostNow 28 = .ok (.invokestatic 238, 3) := by decide +kernel
theorem dX5_lostNow_31 : decode cX5_lostNow 31 = .ok (.ireturn, 1) := by decide +kernel
set_option maxRecDepth 20000 in
theorem ggX5_endsThatReach_X5_blockedNow : GoodIn wsX5_endsThatReach wsX5_blockedNow := goodIn_r _ [7, 8, 9, 1, 2, 10, 11, 12, 13, 14, 15, 16, 6, 17, 24, 25, 26, 27, 28, 43, 44, 45, 46, 47, 48, 49, 50, 51, 52, 53, 54, 29, 30, 31, 32, 33, 34, 35, 36, 37, 38, 39, 40, 41, 42] (by decide +kernel) (by decide +kernel)
set_option maxRecDepth 20000 in
theorem gX5_endsThatReach_X5_blockedNow : GoodIn wsX5_endsThatReach (wsV RX5 170 RX5 yX5_blockedNow wsX5_blockedNow) := goodIn_app (goodIn_of _ (by decide +kernel)) ggX5_endsThatReach_X5_blockedNow
set_option maxRecDepth 20000 in
theorem ggX5_endsThatReach_X2_stopFromA : GoodIn wsX5_endsThatReach wsX2_stopFromA := goodIn_r _ [20, 16, 6, 17] (by decide +kernel) (by decide +kernel)
set_option maxRecDepth 20000 in
theorem gX5_endsThatReach_X2_stopFromA : GoodIn wsX5_endsThatReach (va_wsS RX5 173 yX2_stopFromA wsX2_stopFromA) := goodIn_app (goodIn_of _ (by decide +kernel)) ggX5_endsThatReach_X2_stopFromA
set_option maxRecDepth 20000 in
theorem ggX5_endsThatReach_X2_stopFromB : GoodIn wsX5_endsThatReach wsX2_stopFromB := goodIn_r _ [23, 16, 6, 17] (by decide +kernel) (by decide +kernel)
set_option maxRecDepth 20000 in
theorem gX5_endsThatReach_X2_stopFromB : GoodIn wsX5_endsThatReach (va_wsS RX5 178 yX2_stopFromB wsX2_stopFromB) := goodIn_app (goodIn_of _ (by decide +kernel)) ggX5_endsThatReach_X2_stopFromB
theorem dX5_endsThatReach_0 : decode cX5_endsThatReach 0 = .ok (.aload_n 0, 1) := by decide +kernel
theorem dX5_endsThatReach_1 : decode cX5_endsThatReach 1 = .ok (.invokevirtual 170, 3) := by decide +kernel
theorem dX5_endsThatReach_4 : decode cX5_endsThatReach 4 = .ok (.istore_n 2, 1) := by decide +kernel
theorem dX5_endsThatReach_5 : decode cX5_endsThatReach 5 = .ok (.iload_n 1, 1) := by decide +kernel
theorem dX5_endsThatReach_6 : decode cX5_endsThatReach 6 = .ok (.iload_n 2, 1) := by decide +kernel
theorem dX5_endsThatReach_7 : decode cX5_endsThatReach 7 = .ok (.invokestatic 173, 3) := by decide +kernel
theorem dX5_endsThatReach_10 : decode cX5_endsThatReach 10 = .ok (.bipush (-4), 2) := by decide +kernel
theorem dX5_endsThatReach_12 : decode cX5_endsThatReach 12 = .ok (.if_icmp .ne 7, 3) := by decide +kernel
theorem dX5_endsThatReach_15 : decode cX5_endsThatReach 15 = .ok (.iconst 1, 1) := by decide +kernel
theorem dX5_endsThatReach_16 : decode cX5_endsThatReach 16 = .ok (.goto 4, 3) := by decide +kernel
theorem dX5_endsThatReach_19 : decode cX5_endsThatReach 19 = .ok (.iconst 0, 1) := by decide +kernel
theorem dX5_endsThatReach_20 : decode cX5_endsThatReach 20 = .ok (.istore_n 3, 1) := by decide +kernel
theorem dX5_endsThatReach_21 : decode cX5_endsThatReach 21 = .ok (.aload_n 0, 1) := by decide +kernel
theorem dX5_endsThatReach_22 : decode cX5_endsThatReach 22 = .ok (.getfield 26, 3) := by decide +kernel
theorem dX5_endsThatReach_25 : decode cX5_endsThatReach 25 = .ok (.getfield 70, 3) := by decide +kernel
theorem dX5_endsThatReach_28 : decode cX5_endsThatReach 28 = .ok (.iload_n 1, 1) := by decide +kernel
theorem dX5_endsThatReach_29 : decode cX5_endsThatReach 29 = .ok (.iload_n 2, 1) := by decide +kernel
theorem dX5_endsThatReach_30 : decode cX5_endsThatReach 30 = .ok (.invokestatic 178, 3) := by decide +kernel
theorem dX5_endsThatReach_33 : decode cX5_endsThatReach 33 = .ok (.bipush (-4), 2) := by decide +kernel
theorem dX5_endsThatReach_35 : decode cX5_endsThatReach 35 = .ok (.if_icmp .ne 7, 3) := by decide +kernel
theorem dX5_endsThatReach_38 : decode cX5_endsThatReach 38 = .ok (.iconst 2, 1) := by decide +kernel
theorem dX5_endsThatReach_39 : decode cX5_endsThatReach 39 = .ok (.goto 4, 3) := by decide +kernel
theorem dX5_endsThatReach_42 : decode cX5_endsThatReach 42 = .ok (.iconst 0, 1) := by decide +kernel
theorem dX5_endsThatReach_43 : decode cX5_endsThatReach 43 = .ok (.istore 4, 2) := by decide +kernel
theorem dX5_endsThatReach_45 : decode cX5_endsThatReach 45 = .ok (.iload_n 3, 1) := by decide +kernel
theorem dX5_endsThatReach_46 : decode cX5_endsThatReach 46 = .ok (.iload 4, 2) := by decide +kernel
theorem dX5_endsThatReach_48 : decode cX5_endsThatReach 48 = .ok (.iadd, 1) := by decide +kernel
theorem dX5_endsThatReach_49 : decode cX5_endsThatReach 49 = .ok (.ireturn, 1) := by decide +kernel
theorem dX5_soundsThatSound_0 : decode cX5_soundsThatSound 0 = .ok (.aload_n 0, 1) := by decide +kernel
theorem dX5_soundsThatSound_1 : decode cX5_soundsThatSound 1 = .ok (.getfield 36, 3) := by decide +kernel
theorem dX5_soundsThatSound_4 : decode cX5_soundsThatSound 4 = .ok (.getfield 104, 3) := by decide +kernel
theorem dX5_soundsThatSound_7 : decode cX5_soundsThatSound 7 = .ok (.aload_n 0, 1) := by decide +kernel
theorem dX5_soundsThatSound_8 : decode cX5_soundsThatSound 8 = .ok (.getfield 26, 3) := by decide +kernel
theorem dX5_soundsThatSound_11 : decode cX5_soundsThatSound 11 = .ok (.getfield 225, 3) := by decide +kernel
theorem dX5_soundsThatSound_14 : decode cX5_soundsThatSound 14 = .ok (.iand, 1) := by decide +kernel
theorem dX5_soundsThatSound_15 : decode cX5_soundsThatSound 15 = .ok (.aload_n 0, 1) := by decide +kernel
theorem dX5_soundsThatSound_16 : decode cX5_soundsThatSound 16 = .ok (.getfield 36, 3) := by decide +kernel
theorem dX5_soundsThatSound_19 : decode cX5_soundsThatSound 19 = .ok (.getfield 128, 3) := by decide +kernel
theorem dX5_soundsThatSound_22 : decode cX5_soundsThatSound 22 = .ok (.iconst (-1), 1) := by decide +kernel
theorem dX5_soundsThatSound_23 : decode cX5_soundsThatSound 23 = .ok (.ixor, 1) := by decide +kernel
theorem dX5_soundsThatSound_24 : decode cX5_soundsThatSound 24 = .ok (.iand, 1) := by decide +kernel
theorem dX5_soundsThatSound_25 : decode cX5_soundsThatSound 25 = .ok (.ireturn, 1) := by decide +kernel
set_option maxRecDepth 20000 in
theorem ggX5_lossByShort_X2_lostDevices : GoodIn wsX5_lossByShort wsX2_lostDevices := goodIn_r _ [9, 10, 11, 8, 12, 13, 14, 15] (by decide +kernel) (by decide +kernel)
set_option maxRecDepth 20000 in
theorem gX5_lossByShort_X2_lostDevices : GoodIn wsX5_lossByShort (va_wsS RX5 238 yX2_lostDevices wsX2_lostDevices) := goodIn_app (goodIn_of _ (by decide +kernel)) ggX5_lossByShort_X2_lostDevices
set_option maxRecDepth 20000 in
theorem ggX5_lossByShort_J6_bitCount_0f7a4 : GoodIn wsX5_lossByShort wsJ6_bitCount_0f7a4 := goodIn_r _ [19, 20, 21, 22] (by decide +kernel) (by decide +kernel)
set_option maxRecDepth 20000 in
theorem gX5_lossByShort_J6_bitCount_0f7a4 : GoodIn wsX5_lossByShort (va_wsS RX5 107 yJ6_bitCount_0f7a4 wsJ6_bitCount_0f7a4) := goodIn_app (goodIn_of _ (by decide +kernel)) ggX5_lossByShort_J6_bitCount_0f7a4
theorem dX5_lossByShort_0 : decode cX5_lossByShort 0 = .ok (.aload_n 0, 1) := by decide +kernel
theorem dX5_lossByShort_1 : decode cX5_lossByShort 1 = .ok (.getfield 36, 3) := by decide +kernel
theorem dX5_lossByShort_4 : decode cX5_lossByShort 4 = .ok (.getfield 182, 3) := by decide +kernel
theorem dX5_lossByShort_7 : decode cX5_lossByShort 7 = .ok (.iconst 1, 1) := by decide +kernel
theorem dX5_lossByShort_8 : decode cX5_lossByShort 8 = .ok (.iload_n 2, 1) := by decide +kernel
theorem dX5_lossByShort_9 : decode cX5_lossByShort 9 = .ok (.ishl, 1) := by decide +kernel
theorem dX5_lossByShort_10 : decode cX5_lossByShort 10 = .ok (.iconst (-1), 1) := by decide +kernel
theorem dX5_lossByShort_11 : decode cX5_lossByShort 11 = .ok (.ixor, 1) := by decide +kernel
theorem dX5_lossByShort_12 : decode cX5_lossByShort 12 = .ok (.iand, 1) := by decide +kernel
theorem dX5_lossByShort_13 : decode cX5_lossByShort 13 = .ok (.istore_n 3, 1) := by decide +kernel
theorem dX5_lossByShort_14 : decode cX5_lossByShort 14 = .ok (.aload_n 0, 1) := by decide +kernel
theorem dX5_lossByShort_15 : decode cX5_lossByShort 15 = .ok (.getfield 36, 3) := by decide +kernel
theorem dX5_lossByShort_18 : decode cX5_lossByShort 18 = .ok (.getfield 185, 3) := by decide +kernel
theorem dX5_lossByShort_21 : decode cX5_lossByShort 21 = .ok (.iconst 1, 1) := by decide +kernel
theorem dX5_lossByShort_22 : decode cX5_lossByShort 22 = .ok (.iload_n 2, 1) := by decide +kernel
theorem dX5_lossByShort_23 : decode cX5_lossByShort 23 = .ok (.ishl, 1) := by decide +kernel
theorem dX5_lossByShort_24 : decode cX5_lossByShort 24 = .ok (.ior, 1) := by decide +kernel
theorem dX5_lossByShort_25 : decode cX5_lossByShort 25 = .ok (.istore 4, 2) := by decide +kernel
theorem dX5_lossByShort_27 : decode cX5_lossByShort 27 = .ok (.aload_n 0, 1) := by decide +kernel
theorem dX5_lossByShort_28 : decode cX5_lossByShort 28 = .ok (.getfield 26, 3) := by decide +kernel
theorem dX5_lossByShort_31 : decode cX5_lossByShort 31 = .ok (.getfield 70, 3) := by decide +kernel
theorem dX5_lossByShort_34 : decode cX5_lossByShort 34 = .ok (.iload_n 1, 1) := by decide +kernel
theorem dX5_lossByShort_35 : decode cX5_lossByShort 35 = .ok (.iload_n 3, 1) := by decide +kernel
theorem dX5_lossByShort_36 : decode cX5_lossByShort 36 = .ok (.iload 4, 2) := by decide +kernel
theorem dX5_lossByShort_38 : decode cX5_lossByShort 38 = .ok (.invokestatic 238, 3) := by decide +kernel
theorem dX5_lossByShort_41 : decode cX5_lossByShort 41 = .ok (.invokestatic 107, 3) := by decide +kernel
theorem dX5_lossByShort_44 : decode cX5_lossByShort 44 = .ok (.ireturn, 1) := by decide +kernel
set_option maxRecDepth 20000 in
theorem ggX5_worstWire_X3_conditionOf : GoodIn wsX5_worstWire wsX3_conditionOf := goodIn_r _ [8, 9, 10, 11, 12, 13, 53, 54, 55, 56, 57, 58, 59, 60, 61, 62, 63, 64] (by decide +kernel) (by decide +kernel)
set_option maxRecDepth 20000 in
theorem gX5_worstWire_X3_conditionOf : GoodIn wsX5_worstWire (wsV RX5 93 RX3 yX3_conditionOf wsX3_conditionOf) := goodIn_app (goodIn_of _ (by decide +kernel)) ggX5_worstWire_X3_conditionOf
set_option maxRecDepth 20000 in
theorem ggX5_worstWire_X5_lossByShort : GoodIn wsX5_worstWire wsX5_lossByShort := goodIn_r _ [17, 3, 18, 19, 1, 2, 20, 21, 22, 23, 24, 25, 26, 11, 12, 13, 27, 28, 29, 30, 31, 32, 33, 34, 35, 36, 37, 38, 53, 54, 55, 56, 57, 58, 59, 60, 61, 62, 63, 64, 39, 40, 41, 42, 43, 44, 45, 46, 47, 48, 49, 50, 51, 52] (by decide +kernel) (by decide +kernel)
set_option maxRecDepth 20000 in
theorem gX5_worstWire_X5_lossByShort : GoodIn wsX5_worstWire (wsV RX5 195 RX5 yX5_lossByShort wsX5_lossByShort) := goodIn_app (goodIn_of _ (by decide +kernel)) ggX5_worstWire_X5_lossByShort
theorem dX5_worstWire_0 : decode cX5_worstWire 0 = .ok (.bipush (-4), 2) := by decide +kernel
theorem dX5_worstWire_2 : decode cX5_worstWire 2 = .ok (.istore_n 2, 1) := by decide +kernel
theorem dX5_worstWire_3 : decode cX5_worstWire 3 = .ok (.iconst 0, 1) := by decide +kernel
theorem dX5_worstWire_4 : decode cX5_worstWire 4 = .ok (.istore_n 3, 1) := by decide +kernel
theorem dX5_worstWire_5 : decode cX5_worstWire 5 = .ok (.iconst 0, 1) := by decide +kernel
theorem dX5_worstWire_6 : decode cX5_worstWire 6 = .ok (.istore 4, 2) := by decide +kernel
theorem dX5_worstWire_8 : decode cX5_worstWire 8 = .ok (.iload 4, 2) := by decide +kernel
theorem dX5_worstWire_10 : decode cX5_worstWire 10 = .ok (.aload_n 0, 1) := by decide +kernel
theorem dX5_worstWire_11 : decode cX5_worstWire 11 = .ok (.getfield 26, 3) := by decide +kernel
theorem dX5_worstWire_14 : decode cX5_worstWire 14 = .ok (.getfield 70, 3) := by decide +kernel
theorem dX5_worstWire_17 : decode cX5_worstWire 17 = .ok (.if_icmp .gt 48, 3) := by decide +kernel
theorem dX5_worstWire_20 : decode cX5_worstWire 20 = .ok (.aload_n 0, 1) := by decide +kernel
theorem dX5_worstWire_21 : decode cX5_worstWire 21 = .ok (.getfield 36, 3) := by decide +kernel
theorem dX5_worstWire_24 : decode cX5_worstWire 24 = .ok (.iload 4, 2) := by decide +kernel
theorem dX5_worstWire_26 : decode cX5_worstWire 26 = .ok (.invokevirtual 93, 3) := by decide +kernel
theorem dX5_worstWire_29 : decode cX5_worstWire 29 = .ok (.ifCond .ne 30, 3) := by decide +kernel
theorem dX5_worstWire_32 : decode cX5_worstWire 32 = .ok (.aload_n 0, 1) := by decide +kernel
theorem dX5_worstWire_33 : decode cX5_worstWire 33 = .ok (.iload_n 1, 1) := by decide +kernel
theorem dX5_worstWire_34 : decode cX5_worstWire 34 = .ok (.iload 4, 2) := by decide +kernel
theorem dX5_worstWire_36 : decode cX5_worstWire 36 = .ok (.invokevirtual 195, 3) := by decide +kernel
theorem dX5_worstWire_39 : decode cX5_worstWire 39 = .ok (.istore 5, 2) := by decide +kernel
theorem dX5_worstWire_41 : decode cX5_worstWire 41 = .ok (.iload_n 2, 1) := by decide +kernel
theorem dX5_worstWire_42 : decode cX5_worstWire 42 = .ok (.bipush (-4), 2) := by decide +kernel
theorem dX5_worstWire_44 : decode cX5_worstWire 44 = .ok (.if_icmp .eq 9, 3) := by decide +kernel
theorem dX5_worstWire_47 : decode cX5_worstWire 47 = .ok (.iload 5, 2) := by decide +kernel
theorem dX5_worstWire_49 : decode cX5_worstWire 49 = .ok (.iload_n 3, 1) := by decide +kernel
theorem dX5_worstWire_50 : decode cX5_worstWire 50 = .ok (.if_icmp .le 9, 3) := by decide +kernel
theorem dX5_worstWire_53 : decode cX5_worstWire 53 = .ok (.iload 4, 2) := by decide +kernel
theorem dX5_worstWire_55 : decode cX5_worstWire 55 = .ok (.istore_n 2, 1) := by decide +kernel
theorem dX5_worstWire_56 : decode cX5_worstWire 56 = .ok (.iload 5, 2) := by decide +kernel
theorem dX5_worstWire_58 : decode cX5_worstWire 58 = .ok (.istore_n 3, 1) := by decide +kernel
theorem dX5_worstWire_59 : decode cX5_worstWire 59 = .ok (.iinc 4 1, 3) := by decide +kernel
theorem dX5_worstWire_62 : decode cX5_worstWire 62 = .ok (.goto (-54), 3) := by decide +kernel
theorem dX5_worstWire_65 : decode cX5_worstWire 65 = .ok (.iload_n 2, 1) := by decide +kernel
theorem dX5_worstWire_66 : decode cX5_worstWire 66 = .ok (.ireturn, 1) := by decide +kernel
set_option maxRecDepth 20000 in
theorem ggX6_init_X6_begins : GoodIn wsX6_init wsX6_begins := goodIn_r _ [15] (by decide +kernel) (by decide +kernel)
set_option maxRecDepth 20000 in
theorem gX6_init_X6_begins : GoodIn wsX6_init (va_wsS RX6 32 yX6_begins wsX6_begins) := goodIn_app (goodIn_of _ (by decide +kernel)) ggX6_init_X6_begins
set_option maxRecDepth 20000 in
theorem ggX6_init_X6_puts : GoodIn wsX6_init wsX6_puts := goodIn_r _ [19, 6, 29, 30, 31, 32, 33, 34, 35, 36, 37, 38, 39, 40] (by decide +kernel) (by decide +kernel)
set_option maxRecDepth 20000 in
theorem gX6_init_X6_puts : GoodIn wsX6_init (wsV RX6 36 RX6 yX6_puts wsX6_puts) := goodIn_app (goodIn_of _ (by decide +kernel)) ggX6_init_X6_puts
set_option maxRecDepth 20000 in
theorem ggX6_init_X6_sets : GoodIn wsX6_init wsX6_sets := goodIn_r _ [23, 6, 29, 30, 31, 32, 33, 34, 35, 36, 37, 38, 39, 40] (by decide +kernel) (by decide +kernel)
set_option maxRecDepth 20000 in
theorem gX6_init_X6_sets : GoodIn wsX6_init (wsV RX6 40 RX6 yX6_sets wsX6_sets) := goodIn_app (goodIn_of _ (by decide +kernel)) ggX6_init_X6_sets
set_option maxRecDepth 20000 in
theorem ggX6_init_X6_anew : GoodIn wsX6_init wsX6_anew := goodIn_r _ [27, 8, 28, 29, 30, 31, 32, 33, 34, 35, 36, 37, 38, 39, 40] (by decide +kernel) (by decide +kernel)
set_option maxRecDepth 20000 in
theorem gX6_init_X6_anew : GoodIn wsX6_init (wsV RX6 44 RX6 yX6_anew wsX6_anew) := goodIn_app (goodIn_of _ (by decide +kernel)) ggX6_init_X6_anew
theorem dX6_init_0 : decode cX6_init 0 = .ok (.aload_n 0, 1) := by decide +kernel
theorem dX6_init_1 : decode cX6_init 1 = .ok (.invokespecial 1, 3) := by decide +kernel
theorem dX6_init_4 : decode cX6_init 4 = .ok (.aload_n 0, 1) := by decide +kernel
theorem dX6_init_5 : decode cX6_init 5 = .ok (.sipush 200, 3) := by decide +kernel
theorem dX6_init_8 : decode cX6_init 8 = .ok (.newarray .int, 2) := by decide +kernel
theorem dX6_init_10 : decode cX6_init 10 = .ok (.putfield 7, 3) := by decide +kernel
theorem dX6_init_13 : decode cX6_init 13 = .ok (.aload_n 0, 1) := by decide +kernel
theorem dX6_init_14 : decode cX6_init 14 = .ok (.bipush 67, 2) := by decide +kernel
theorem dX6_init_16 : decode cX6_init 16 = .ok (.newarray .int, 2) := by decide +kernel
theorem dX6_init_18 : decode cX6_init 18 = .ok (.putfield 13, 3) := by decide +kernel
theorem dX6_init_21 : decode cX6_init 21 = .ok (.aload_n 0, 1) := by decide +kernel
theorem dX6_init_22 : decode cX6_init 22 = .ok (.bipush 67, 2) := by decide +kernel
theorem dX6_init_24 : decode cX6_init 24 = .ok (.newarray .int, 2) := by decide +kernel
theorem dX6_init_26 : decode cX6_init 26 = .ok (.putfield 16, 3) := by decide +kernel
theorem dX6_init_29 : decode cX6_init 29 = .ok (.aload_n 0, 1) := by decide +kernel
theorem dX6_init_30 : decode cX6_init 30 = .ok (.bipush 87, 2) := by decide +kernel
theorem dX6_init_32 : decode cX6_init 32 = .ok (.newarray .int, 2) := by decide +kernel
theorem dX6_init_34 : decode cX6_init 34 = .ok (.putfield 19, 3) := by decide +kernel
theorem dX6_init_37 : decode cX6_init 37 = .ok (.aload_n 0, 1) := by decide +kernel
theorem dX6_init_38 : decode cX6_init 38 = .ok (.sipush 522, 3) := by decide +kernel
theorem dX6_init_41 : decode cX6_init 41 = .ok (.newarray .int, 2) := by decide +kernel
theorem dX6_init_43 : decode cX6_init 43 = .ok (.putfield 22, 3) := by decide +kernel
theorem dX6_init_46 : decode cX6_init 46 = .ok (.aload_n 0, 1) := by decide +kernel
theorem dX6_init_47 : decode cX6_init 47 = .ok (.iconst (-1), 1) := by decide +kernel
theorem dX6_init_48 : decode cX6_init 48 = .ok (.putfield 25, 3) := by decide +kernel
theorem dX6_init_51 : decode cX6_init 51 = .ok (.aload_n 0, 1) := by decide +kernel
theorem dX6_init_52 : decode cX6_init 52 = .ok (.iconst (-1), 1) := by decide +kernel
theorem dX6_init_53 : decode cX6_init 53 = .ok (.putfield 29, 3) := by decide +kernel
theorem dX6_init_56 : decode cX6_init 56 = .ok (.aload_n 0, 1) := by decide +kernel
theorem dX6_init_57 : decode cX6_init 57 = .ok (.getfield 13, 3) := by decide +kernel
theorem dX6_init_60 : decode cX6_init 60 = .ok (.invokestatic 32, 3) := by decide +kernel
theorem dX6_init_63 : decode cX6_init 63 = .ok (.aload_n 0, 1) := by decide +kernel
theorem dX6_init_64 : decode cX6_init 64 = .ok (.iconst 0, 1) := by decide +kernel
theorem dX6_init_65 : decode cX6_init 65 = .ok (.iconst 0, 1) := by decide +kernel
theorem dX6_init_66 : decode cX6_init 66 = .ok (.iconst 1, 1) := by decide +kernel
theorem dX6_init_67 : decode cX6_init 67 = .ok (.invokevirtual 36, 3) := by decide +kernel
theorem dX6_init_70 : decode cX6_init 70 = .ok (.aload_n 0, 1) := by decide +kernel
theorem dX6_init_71 : decode cX6_init 71 = .ok (.iconst 1, 1) := by decide +kernel
theorem dX6_init_72 : decode cX6_init 72 = .ok (.iconst 0, 1) := by decide +kernel
theorem dX6_init_73 : decode cX6_init 73 = .ok (.iconst 0, 1) := by decide +kernel
theorem dX6_init_74 : decode cX6_init 74 = .ok (.invokevirtual 36, 3) := by decide +kernel
theorem dX6_init_77 : decode cX6_init 77 = .ok (.aload_n 0, 1) := by decide +kernel
theorem dX6_init_78 : decode cX6_init 78 = .ok (.iconst 2, 1) := by decide +kernel
theorem dX6_init_79 : decode cX6_init 79 = .ok (.iconst 1, 1) := by decide +kernel
theorem dX6_init_80 : decode cX6_init 80 = .ok (.iconst 0, 1) := by decide +kernel
theorem dX6_init_81 : decode cX6_init 81 = .ok (.invokevirtual 36, 3) := by decide +kernel
theorem dX6_init_84 : decode cX6_init 84 = .ok (.aload_n 0, 1) := by decide +kernel
theorem dX6_init_85 : decode cX6_init 85 = .ok (.iconst 0, 1) := by decide +kernel
theorem dX6_init_86 : decode cX6_init 86 = .ok (.iconst 1, 1) := by decide +kernel
theorem dX6_init_87 : decode cX6_init 87 = .ok (.iconst 1, 1) := by decide +kernel
theorem dX6_init_88 : decode cX6_init 88 = .ok (.invokevirtual 36, 3) := by decide +kernel
theorem dX6_init_91 : decode cX6_init 91 = .ok (.aload_n 0, 1) := by decide +kernel
theorem dX6_init_92 : decode cX6_init 92 = .ok (.iconst 3, 1) := by decide +kernel
theorem dX6_init_93 : decode cX6_init 93 = .ok (.iconst 2, 1) := by decide +kernel
theorem dX6_init_94 : decode cX6_init 94 = .ok (.iconst 0, 1) := by decide +kernel
theorem dX6_init_95 : decode cX6_init 95 = .ok (.invokevirtual 36, 3) := by decide +kernel
theorem dX6_init_98 : decode cX6_init 98 = .ok (.aload_n 0, 1) := by decide +kernel
theorem dX6_init_99 : decode cX6_init 99 = .ok (.iconst 0, 1) := by decide +kernel
theorem dX6_init_100 : decode cX6_init 100 = .ok (.iconst 2, 1) := by decide +kernel
theorem dX6_init_101 : decode cX6_init 101 = .ok (.iconst 0, 1) := by decide +kernel
theorem dX6_init_102 : decode cX6_init 102 = .ok (.invokevirtual 36, 3) := by decide +kernel
theorem dX6_init_105 : decode cX6_init 105 = .ok (.aload_n 0, 1) := by decide +kernel
theorem dX6_init_106 : decode cX6_init 106 = .ok (.iconst 1, 1) := by decide +kernel
theorem dX6_init_107 : decode cX6_init 107 = .ok (.iconst 3, 1) := by decide +kernel
theorem dX6_init_108 : decode cX6_init 108 = .ok (.iconst 1, 1) := by decide +kernel
theorem dX6_init_109 : decode cX6_init 109 = .ok (.invokevirtual 36, 3) := by decide +kernel
theorem dX6_init_112 : decode cX6_init 112 = .ok (.aload_n 0, 1) := by decide +kernel
theorem dX6_init_113 : decode cX6_init 113 = .ok (.iconst 0, 1) := by decide +kernel
theorem dX6_init_114 : decode cX6_init 114 = .ok (.iconst 3, 1) := by decide +kernel
theorem dX6_init_115 : decode cX6_init 115 = .ok (.iconst 0, 1) := by decide +kernel
theorem dX6_init_116 : decode cX6_init 116 = .ok (.invokevirtual 36, 3) := by decide +kernel
theorem dX6_init_119 : decode cX6_init 119 = .ok (.aload_n 0, 1) := by decide +kernel
theorem dX6_init_120 : decode cX6_init 120 = .ok (.iconst 0, 1) := by decide +kernel
theorem dX6_init_121 : decode cX6_init 121 = .ok (.bipush 15, 2) := by decide +kernel
theorem dX6_init_123 : decode cX6_init 123 = .ok (.iconst 0, 1) := by decide +kernel
theorem dX6_init_124 : decode cX6_init 124 = .ok (.iconst 1, 1) := by decide +kernel
theorem dX6_init_125 : decode cX6_init 125 = .ok (.invokevirtual 40, 3) := by decide +kernel
theorem dX6_init_128 : decode cX6_init 128 = .ok (.aload_n 0, 1) := by decide +kernel
theorem dX6_init_129 : decode cX6_init 129 = .ok (.iconst 2, 1) := by decide +kernel
theorem dX6_init_130 : decode cX6_init 130 = .ok (.bipush 15, 2) := by decide +kernel
theorem dX6_init_132 : decode cX6_init 132 = .ok (.iconst 3, 1) := by decide +kernel
theorem dX6_init_133 : decode cX6_init 133 = .ok (.iconst 0, 1) := by decide +kernel
theorem dX6_init_134 : decode cX6_init 134 = .ok (.invokevirtual 40, 3) := by decide +kernel
theorem dX6_init_137 : decode cX6_init 137 = .ok (.aload_n 0, 1) := by decide +kernel
theorem dX6_init_138 : decode cX6_init 138 = .ok (.iconst 1, 1) := by decide +kernel
theorem dX6_init_139 : decode cX6_init 139 = .ok (.iconst 3, 1) := by decide +kernel
theorem dX6_init_140 : decode cX6_init 140 = .ok (.iconst 2, 1) := by decide +kernel
theorem dX6_init_141 : decode cX6_init 141 = .ok (.iconst 0, 1) := by decide +kernel
theorem dX6_init_142 : decode cX6_init 142 = .ok (.invokevirtual 40, 3) := by decide +kernel
theorem dX6_init_145 : decode cX6_init 145 = .ok (.aload_n 0, 1) := by decide +kernel
theorem dX6_init_146 : decode cX6_init 146 = .ok (.iconst 0, 1) := by decide +kernel
theorem dX6_init_147 : decode cX6_init 147 = .ok (.iconst 4, 1) := by decide +kernel
theorem dX6_init_148 : decode cX6_init 148 = .ok (.iconst 0, 1) := by decide +kernel
theorem dX6_init_149 : decode cX6_init 149 = .ok (.iconst 1, 1) := by decide +kernel
theorem dX6_init_150 : decode cX6_init 150 = .ok (.invokevirtual 40, 3) := by decide +kernel
theorem dX6_init_153 : decode cX6_init 153 = .ok (.aload_n 0, 1) := by decide +kernel
theorem dX6_init_154 : decode cX6_init 154 = .ok (.getfield 13, 3) := by decide +kernel
theorem dX6_init_157 : decode cX6_init 157 = .ok (.bipush 62, 2) := by decide +kernel
theorem dX6_init_159 : decode cX6_init 159 = .ok (.bipush 20, 2) := by decide +kernel
theorem dX6_init_161 : decode cX6_init 161 = .ok (.iastore, 1) := by decide +kernel
theorem dX6_init_162 : decode cX6_init 162 = .ok (.aload_n 0, 1) := by decide +kernel
theorem dX6_init_163 : decode cX6_init 163 = .ok (.getfield 13, 3) := by decide +kernel
theorem dX6_init_166 : decode cX6_init 166 = .ok (.bipush 63, 2) := by decide +kernel
theorem dX6_init_168 : decode cX6_init 168 = .ok (.bipush 40, 2) := by decide +kernel
theorem dX6_init_170 : decode cX6_init 170 = .ok (.iastore, 1) := by decide +kernel
theorem dX6_init_171 : decode cX6_init 171 = .ok (.aload_n 0, 1) := by decide +kernel
theorem dX6_init_172 : decode cX6_init 172 = .ok (.invokevirtual 44, 3) := by decide +kernel
theorem dX6_init_175 : decode cX6_init 175 = .ok (.return_, 1) := by decide +kernel
theorem dX6_puts_0 : decode cX6_puts 0 = .ok (.iconst 3, 1) := by decide +kernel
theorem dX6_puts_1 : decode cX6_puts 1 = .ok (.aload_n 0, 1) := by decide +kernel
theorem dX6_puts_2 : decode cX6_puts 2 = .ok (.getfield 13, 3) := by decide +kernel
theorem dX6_puts_5 : decode cX6_puts 5 = .ok (.bipush 60, 2) := by decide +kernel
theorem dX6_puts_7 : decode cX6_puts 7 = .ok (.iaload, 1) := by decide +kernel
theorem dX6_puts_8 : decode cX6_puts 8 = .ok (.imul, 1) := by decide +kernel
theorem dX6_puts_9 : decode cX6_puts 9 = .ok (.istore 4, 2) := by decide +kernel
theorem dX6_puts_11 : decode cX6_puts 11 = .ok (.aload_n 0, 1) := by decide +kernel
theorem dX6_puts_12 : decode cX6_puts 12 = .ok (.getfield 13, 3) := by decide +kernel
theorem dX6_puts_15 : decode cX6_puts 15 = .ok (.iload 4, 2) := by decide +kernel
theorem dX6_puts_17 : decode cX6_puts 17 = .ok (.iload_n 1, 1) := by decide +kernel
theorem dX6_puts_18 : decode cX6_puts 18 = .ok (.iastore, 1) := by decide +kernel
theorem dX6_puts_19 : decode cX6_puts 19 = .ok (.aload_n 0, 1) := by decide +kernel
theorem dX6_puts_20 : decode cX6_puts 20 = .ok (.getfield 13, 3) := by decide +kernel
theorem dX6_puts_23 : decode cX6_puts 23 = .ok (.iload 4, 2) := by decide +kernel
theorem dX6_puts_25 : decode cX6_puts 25 = .ok (.iconst 1, 1) := by decide +kernel
theorem dX6_puts_26 : decode cX6_puts 26 = .ok (.iadd, 1) := by decide +kernel
theorem dX6_puts_27 : decode cX6_puts 27 = .ok (.iload_n 2, 1) := by decide +kernel
theorem dX6_puts_28 : decode cX6_puts 28 = .ok (.iastore, 1) := by decide +kernel
theorem dX6_puts_29 : decode cX6_puts 29 = .ok (.aload_n 0, 1) := by decide +kernel
theorem dX6_puts_30 : decode cX6_puts 30 = .ok (.getfield 13, 3) := by decide +kernel
theorem dX6_puts_33 : decode cX6_puts 33 = .ok (.iload 4, 2) := by decide +kernel
theorem dX6_puts_35 : decode cX6_puts 35 = .ok (.iconst 2, 1) := by decide +kernel
theorem dX6_puts_36 : decode cX6_puts 36 = .ok (.iadd, 1) := by decide +kernel
theorem dX6_puts_37 : decode cX6_puts 37 = .ok (.iload_n 3, 1) := by decide +kernel
theorem dX6_puts_38 : decode cX6_puts 38 = .ok (.iastore, 1) := by decide +kernel
theorem dX6_puts_39 : decode cX6_puts 39 = .ok (.aload_n 0, 1) := by decide +kernel
theorem dX6_puts_40 : decode cX6_puts 40 = .ok (.getfield 13, 3) := by decide +kernel
theorem dX6_puts_43 : decode cX6_puts 43 = .ok (.bipush 60, 2) := by decide +kernel
theorem dX6_puts_45 : decode cX6_puts 45 = .ok (.dup2, 1) := by decide +kernel
theorem dX6_puts_46 : decode cX6_puts 46 = .ok (.iaload, 1) := by decide +kernel
theorem dX6_puts_47 : decode cX6_puts 47 = .ok (.iconst 1, 1) := by decide +kernel
theorem dX6_puts_48 : decode cX6_puts 48 = .ok (.iadd, 1) := by decide +kernel
theorem dX6_puts_49 : decode cX6_puts 49 = .ok (.iastore, 1) := by decide +kernel
theorem dX6_puts_50 : decode cX6_puts 50 = .ok (.return_, 1) := by decide +kernel
theorem dX6_sets_0 : decode cX6_sets 0 = .ok (.bipush 36, 2) := by decide +kernel
theorem dX6_sets_2 : decode cX6_sets 2 = .ok (.iconst 4, 1) := by decide +kernel
theorem dX6_sets_3 : decode cX6_sets 3 = .ok (.aload_n 0, 1) := by decide +kernel
theorem dX6_sets_4 : decode cX6_sets 4 = .ok (.getfield 13, 3) := by decide +kernel
theorem dX6_sets_7 : decode cX6_sets 7 = .ok (.bipush 61, 2) := by decide +kernel
theorem dX6_sets_9 : decode cX6_sets 9 = .ok (.iaload, 1) := by decide +kernel
theorem dX6_sets_10 : decode cX6_sets 10 = .ok (.imul, 1) := by decide +kernel
theorem dX6_sets_11 : decode cX6_sets 11 = .ok (.iadd, 1) := by decide +kernel
theorem dX6_sets_12 : decode cX6_sets 12 = .ok (.istore 5, 2) := by decide +kernel
theorem dX6_sets_14 : decode cX6_sets 14 = .ok (.aload_n 0, 1) := by decide +kernel
theorem dX6_sets_15 : decode cX6_sets 15 = .ok (.getfield 13, 3) := by decide +kernel
theorem dX6_sets_18 : decode cX6_sets 18 = .ok (.iload 5, 2) := by decide +kernel
theorem dX6_sets_20 : decode cX6_sets 20 = .ok (.iload_n 1, 1) := by decide +kernel
theorem dX6_sets_21 : decode cX6_sets 21 = .ok (.iastore, 1) := by decide +kernel
theorem dX6_sets_22 : decode cX6_sets 22 = .ok (.aload_n 0, 1) := by decide +kernel
theorem dX6_sets_23 : decode cX6_sets 23 = .ok (.getfield 13, 3) := by decide +kernel
theorem dX6_sets_26 : decode cX6_sets 26 = .ok (.iload 5, 2) := by decide +kernel
theorem dX6_sets_28 : decode cX6_sets 28 = .ok (.iconst 1, 1) := by decide +kernel
theorem dX6_sets_29 : decode cX6_sets 29 = .ok (.iadd, 1) := by decide +kernel
theorem dX6_sets_30 : decode cX6_sets 30 = .ok (.iload_n 2, 1) := by decide +kernel
theorem dX6_sets_31 : decode cX6_sets 31 = .ok (.iastore, 1) := by decide +kernel
theorem dX6_sets_32 : decode cX6_sets 32 = .ok (.aload_n 0, 1) := by decide +kernel
theorem dX6_sets_33 : decode cX6_sets 33 = .ok (.getfield 13, 3) := by decide +kernel
theorem dX6_sets_36 : decode cX6_sets 36 = .ok (.iload 5, 2) := by decide +kernel
theorem dX6_sets_38 : decode cX6_sets 38 = .ok (.iconst 2, 1) := by decide +kernel
theorem dX6_sets_39 : decode cX6_sets 39 = .ok (.iadd, 1) := by decide +kernel
theorem dX6_sets_40 : decode cX6_sets 40 = .ok (.iload_n 3, 1) := by decide +kernel
theorem dX6_sets_41 : decode cX6_sets 41 = .ok (.iastore, 1) := by decide +kernel
theorem dX6_sets_42 : decode cX6_sets 42 = .ok (.aload_n 0, 1) := by decide +kernel
theorem dX6_sets_43 : decode cX6_sets 43 = .ok (.getfield 13, 3) := by decide +kernel
theorem dX6_sets_46 : decode cX6_sets 46 = .ok (.iload 5, 2) := by decide +kernel
theorem dX6_sets_48 : decode cX6_sets 48 = .ok (.iconst 3, 1) := by decide +kernel
theorem dX6_sets_49 : decode cX6_sets 49 = .ok (.iadd, 1) := by decide +kernel
theorem dX6_sets_50 : decode cX6_sets 50 = .ok (.iload 4, 2) := by decide +kernel
theorem dX6_sets_52 : decode cX6_sets 52 = .ok (.iastore, 1) := by decide +kernel
theorem dX6_sets_53 : decode cX6_sets 53 = .ok (.aload_n 0, 1) := by decide +kernel
theorem dX6_sets_54 : decode cX6_sets 54 = .ok (.getfield 13, 3) := by decide +kernel
theorem dX6_sets_57 : decode cX6_sets 57 = .ok (.bipush 61, 2) := by decide +kernel
theorem dX6_sets_59 : decode cX6_sets 59 = .ok (.dup2, 1) := by decide +kernel
theorem dX6_sets_60 : decode cX6_sets 60 = .ok (.iaload, 1) := by decide +kernel
theorem dX6_sets_61 : decode cX6_sets 61 = .ok (.iconst 1, 1) := by decide +kernel
theorem dX6_sets_62 : decode cX6_sets 62 = .ok (.iadd, 1) := by decide +kernel
theorem dX6_sets_63 : decode cX6_sets 63 = .ok (.iastore, 1) := by decide +kernel
theorem dX6_sets_64 : decode cX6_sets 64 = .ok (.return_, 1) := by decide +kernel
theorem dX6_begins_0 : decode cX6_begins 0 = .ok (.iconst 0, 1) := by decide +kernel
theorem dX6_begins_1 : decode cX6_begins 1 = .ok (.istore_n 1, 1) := by decide +kernel
theorem dX6_begins_2 : decode cX6_begins 2 = .ok (.iload_n 1, 1) := by decide +kernel
theorem dX6_begins_3 : decode cX6_begins 3 = .ok (.bipush 67, 2) := by decide +kernel
theorem dX6_begins_5 : decode cX6_begins 5 = .ok (.if_icmp .ge 13, 3) := by decide +kernel
theorem dX6_begins_8 : decode cX6_begins 8 = .ok (.aload_n 0, 1) := by decide +kernel
theorem dX6_begins_9 : decode cX6_begins 9 = .ok (.iload_n 1, 1) := by decide +kernel
theorem dX6_begins_10 : decode cX6_begins 10 = .ok (.iconst 0, 1) := by decide +kernel
theorem dX6_begins_11 : decode cX6_begins 11 = .ok (.iastore, 1) := by decide +kernel
theorem dX6_begins_12 : decode cX6_begins 12 = .ok (.iinc 1 1, 3) := by decide +kernel
theorem dX6_begins_15 : decode cX6_begins 15 = .ok (.goto (-13), 3) := by decide +kernel
theorem dX6_begins_18 : decode cX6_begins 18 = .ok (.aload_n 0, 1) := by decide +kernel
theorem dX6_begins_19 : decode cX6_begins 19 = .ok (.bipush 62, 2) := by decide +kernel
theorem dX6_begins_21 : decode cX6_begins 21 = .ok (.bipush 30, 2) := by decide +kernel
theorem dX6_begins_23 : decode cX6_begins 23 = .ok (.iastore, 1) := by decide +kernel
theorem dX6_begins_24 : decode cX6_begins 24 = .ok (.aload_n 0, 1) := by decide +kernel
theorem dX6_begins_25 : decode cX6_begins 25 = .ok (.bipush 63, 2) := by decide +kernel
theorem dX6_begins_27 : decode cX6_begins 27 = .ok (.bipush 60, 2) := by decide +kernel
theorem dX6_begins_29 : decode cX6_begins 29 = .ok (.iastore, 1) := by decide +kernel
theorem dX6_begins_30 : decode cX6_begins 30 = .ok (.aload_n 0, 1) := by decide +kernel
theorem dX6_begins_31 : decode cX6_begins 31 = .ok (.bipush 64, 2) := by decide +kernel
theorem dX6_begins_33 : decode cX6_begins 33 = .ok (.iconst 2, 1) := by decide +kernel
theorem dX6_begins_34 : decode cX6_begins 34 = .ok (.iastore, 1) := by decide +kernel
theorem dX6_begins_35 : decode cX6_begins 35 = .ok (.aload_n 0, 1) := by decide +kernel
theorem dX6_begins_36 : decode cX6_begins 36 = .ok (.bipush 65, 2) := by decide +kernel
theorem dX6_begins_38 : decode cX6_begins 38 = .ok (.iconst 4, 1) := by decide +kernel
theorem dX6_begins_39 : decode cX6_begins 39 = .ok (.iastore, 1) := by decide +kernel
theorem dX6_begins_40 : decode cX6_begins 40 = .ok (.aload_n 0, 1) := by decide +kernel
theorem dX6_begins_41 : decode cX6_begins 41 = .ok (.bipush 66, 2) := by decide +kernel
theorem dX6_begins_43 : decode cX6_begins 43 = .ok (.iconst 3, 1) := by decide +kernel
theorem dX6_begins_44 : decode cX6_begins 44 = .ok (.iastore, 1) := by decide +kernel
theorem dX6_begins_45 : decode cX6_begins 45 = .ok (.return_, 1) := by decide +kernel
theorem dX6_anew_0 : decode cX6_anew 0 = .ok (.iconst 0, 1) := by decide +kernel
theorem dX6_anew_1 : decode cX6_anew 1 = .ok (.istore_n 1, 1) := by decide +kernel
theorem dX6_anew_2 : decode cX6_anew 2 = .ok (.iload_n 1, 1) := by decide +kernel
theorem dX6_anew_3 : decode cX6_anew 3 = .ok (.bipush 87, 2) := by decide +kernel
theorem dX6_anew_5 : decode cX6_anew 5 = .ok (.if_icmp .ge 16, 3) := by decide +kernel
theorem dX6_anew_8 : decode cX6_anew 8 = .ok (.aload_n 0, 1) := by decide +kernel
theorem dX6_anew_9 : decode cX6_anew 9 = .ok (.getfield 19, 3) := by decide +kernel
theorem dX6_anew_12 : decode cX6_anew 12 = .ok (.iload_n 1, 1) := by decide +kernel
theorem dX6_anew_13 : decode cX6_anew 13 = .ok (.iconst 0, 1) := by decide +kernel
theorem dX6_anew_14 : decode cX6_anew 14 = .ok (.iastore, 1) := by decide +kernel
theorem dX6_anew_15 : decode cX6_anew 15 = .ok (.iinc 1 1, 3) := by decide +kernel
theorem dX6_anew_18 : decode cX6_anew 18 = .ok (.goto (-16), 3) := by decide +kernel
theorem dX6_anew_21 : decode cX6_anew 21 = .ok (.aload_n 0, 1) := by decide +kernel
