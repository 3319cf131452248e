theorem dX3_setCondition_5 : decode cX3_setCondition 5 = .ok (.iconst 1, 1) := by decide +kernel
theorem dX3_setCondition_6 : decode cX3_setCondition 6 = .ok (.iload_n 1, 1) := by decide +kernel
theorem dX3_setCondition_7 : decode cX3_setCondition 7 = .ok (.ishl, 1) := by decide +kernel
theorem dX3_setCondition_8 : decode cX3_setCondition 8 = .ok (.iconst (-1), 1) := by decide +kernel
theorem dX3_setCondition_9 : decode cX3_setCondition 9 = .ok (.ixor, 1) := by decide +kernel
theorem dX3_setCondition_10 : decode cX3_setCondition 10 = .ok (.iand, 1) := by decide +kernel
theorem dX3_setCondition_11 : decode cX3_setCondition 11 = .ok (.putfield 37, 3) := by decide +kernel
theorem dX3_setCondition_14 : decode cX3_setCondition 14 = .ok (.aload_n 0, 1) := by decide +kernel
theorem dX3_setCondition_15 : decode cX3_setCondition 15 = .ok (.dup, 1) := by decide +kernel
theorem dX3_setCondition_16 : decode cX3_setCondition 16 = .ok (.getfield 40, 3) := by decide +kernel
theorem dX3_setCondition_19 : decode cX3_setCondition 19 = .ok (.iconst 1, 1) := by decide +kernel
theorem dX3_setCondition_20 : decode cX3_setCondition 20 = .ok (.iload_n 1, 1) := by decide +kernel
theorem dX3_setCondition_21 : decode cX3_setCondition 21 = .ok (.ishl, 1) := by decide +kernel
theorem dX3_setCondition_22 : decode cX3_setCondition 22 = .ok (.iconst (-1), 1) := by decide +kernel
theorem dX3_setCondition_23 : decode cX3_setCondition 23 = .ok (.ixor, 1) := by decide +kernel
theorem dX3_setCondition_24 : decode cX3_setCondition 24 = .ok (.iand, 1) := by decide +kernel
theorem dX3_setCondition_25 : decode cX3_setCondition 25 = .ok (.putfield 40, 3) := by decide +kernel
theorem dX3_setCondition_28 : decode cX3_setCondition 28 = .ok (.aload_n 0, 1) := by decide +kernel
theorem dX3_setCondition_29 : decode cX3_setCondition 29 = .ok (.dup, 1) := by decide +kernel
theorem dX3_setCondition_30 : decode cX3_setCondition 30 = .ok (.getfield 37, 3) := by decide +kernel
theorem dX3_setCondition_33 : decode cX3_setCondition 33 = .ok (.iload_n 2, 1) := by decide +kernel
theorem dX3_setCondition_34 : decode cX3_setCondition 34 = .ok (.iconst 1, 1) := by decide +kernel
theorem dX3_setCondition_35 : decode cX3_setCondition 35 = .ok (.if_icmp .ne 9, 3) := by decide +kernel
theorem dX3_setCondition_38 : decode cX3_setCondition 38 = .ok (.iconst 1, 1) := by decide +kernel
theorem dX3_setCondition_39 : decode cX3_setCondition 39 = .ok (.iload_n 1, 1) := by decide +kernel
theorem dX3_setCondition_40 : decode cX3_setCondition 40 = .ok (.ishl, 1) := by decide +kernel
theorem dX3_setCondition_41 : decode cX3_setCondition 41 = .ok (.goto 4, 3) := by decide +kernel
theorem dX3_setCondition_44 : decode cX3_setCondition 44 = .ok (.iconst 0, 1) := by decide +kernel
theorem dX3_setCondition_45 : decode cX3_setCondition 45 = .ok (.ior, 1) := by decide +kernel
theorem dX3_setCondition_46 : decode cX3_setCondition 46 = .ok (.putfield 37, 3) := by decide +kernel
theorem dX3_setCondition_49 : decode cX3_setCondition 49 = .ok (.aload_n 0, 1) := by decide +kernel
theorem dX3_setCondition_50 : decode cX3_setCondition 50 = .ok (.dup, 1) := by decide +kernel
theorem dX3_setCondition_51 : decode cX3_setCondition 51 = .ok (.getfield 40, 3) := by decide +kernel
theorem dX3_setCondition_54 : decode cX3_setCondition 54 = .ok (.iload_n 2, 1) := by decide +kernel
theorem dX3_setCondition_55 : decode cX3_setCondition 55 = .ok (.iconst 2, 1) := by decide +kernel
theorem dX3_setCondition_56 : decode cX3_setCondition 56 = .ok (.if_icmp .ne 9, 3) := by decide +kernel
theorem dX3_setCondition_59 : decode cX3_setCondition 59 = .ok (.iconst 1, 1) := by decide +kernel
theorem dX3_setCondition_60 : decode cX3_setCondition 60 = .ok (.iload_n 1, 1) := by decide +kernel
theorem dX3_setCondition_61 : decode cX3_setCondition 61 = .ok (.ishl, 1) := by decide +kernel
theorem dX3_setCondition_62 : decode cX3_setCondition 62 = .ok (.goto 4, 3) := by decide +kernel
theorem dX3_setCondition_65 : decode cX3_setCondition 65 = .ok (.iconst 0, 1) := by decide +kernel
theorem dX3_setCondition_66 : decode cX3_setCondition 66 = .ok (.ior, 1) := by decide +kernel
theorem dX3_setCondition_67 : decode cX3_setCondition 67 = .ok (.putfield 40, 3) := by decide +kernel
theorem dX3_setCondition_70 : decode cX3_setCondition 70 = .ok (.return_, 1) := by decide +kernel
theorem dX3_valueOf_0 : decode cX3_valueOf 0 = .ok (.iconst 0, 1) := by decide +kernel
theorem dX3_valueOf_1 : decode cX3_valueOf 1 = .ok (.aload_n 0, 1) := by decide +kernel
theorem dX3_valueOf_2 : decode cX3_valueOf 2 = .ok (.getfield 9, 3) := by decide +kernel
theorem dX3_valueOf_5 : decode cX3_valueOf 5 = .ok (.iload_n 1, 1) := by decide +kernel
theorem dX3_valueOf_6 : decode cX3_valueOf 6 = .ok (.iaload, 1) := by decide +kernel
theorem dX3_valueOf_7 : decode cX3_valueOf 7 = .ok (.aload_n 0, 1) := by decide +kernel
theorem dX3_valueOf_8 : decode cX3_valueOf 8 = .ok (.getfield 15, 3) := by decide +kernel
theorem dX3_valueOf_11 : decode cX3_valueOf 11 = .ok (.iload_n 1, 1) := by decide +kernel
theorem dX3_valueOf_12 : decode cX3_valueOf 12 = .ok (.iaload, 1) := by decide +kernel
theorem dX3_valueOf_13 : decode cX3_valueOf 13 = .ok (.isub, 1) := by decide +kernel
theorem dX3_valueOf_14 : decode cX3_valueOf 14 = .ok (.invokestatic 68, 3) := by decide +kernel
theorem dX3_valueOf_17 : decode cX3_valueOf 17 = .ok (.ireturn, 1) := by decide +kernel
set_option maxRecDepth 20000 in
theorem ggX3_levelOf_X5_bit : GoodIn wsX3_levelOf wsX5_bit := goodIn_r _ [7] (by decide +kernel) (by decide +kernel)
set_option maxRecDepth 20000 in
theorem gX3_levelOf_X5_bit_n64 : GoodIn wsX3_levelOf (wsX5_bit) := ggX3_levelOf_X5_bit
set_option maxRecDepth 20000 in
theorem ggX3_levelOf_X3_valueOf : GoodIn wsX3_levelOf wsX3_valueOf := goodIn_r _ [12, 13, 14, 15, 16, 17, 18, 19, 20, 21, 22, 23, 24, 25, 26, 27, 28, 29, 30] (by decide +kernel) (by decide +kernel)
set_option maxRecDepth 20000 in
theorem gX3_levelOf_X3_valueOf : GoodIn wsX3_levelOf (wsV RX3 78 RX3 yX3_valueOf wsX3_valueOf) := goodIn_app (goodIn_of _ (by decide +kernel)) ggX3_levelOf_X3_valueOf
theorem dX3_levelOf_0 : decode cX3_levelOf 0 = .ok (.aload_n 0, 1) := by decide +kernel
theorem dX3_levelOf_1 : decode cX3_levelOf 1 = .ok (.getfield 49, 3) := by decide +kernel
theorem dX3_levelOf_4 : decode cX3_levelOf 4 = .ok (.iload_n 2, 1) := by decide +kernel
theorem dX3_levelOf_5 : decode cX3_levelOf 5 = .ok (.invokestatic 64, 3) := by decide +kernel
theorem dX3_levelOf_8 : decode cX3_levelOf 8 = .ok (.iconst 1, 1) := by decide +kernel
theorem dX3_levelOf_9 : decode cX3_levelOf 9 = .ok (.if_icmp .ne 5, 3) := by decide +kernel
theorem dX3_levelOf_12 : decode cX3_levelOf 12 = .ok (.iconst 3, 1) := by decide +kernel
theorem dX3_levelOf_13 : decode cX3_levelOf 13 = .ok (.ireturn, 1) := by decide +kernel
theorem dX3_levelOf_14 : decode cX3_levelOf 14 = .ok (.aload_n 1, 1) := by decide +kernel
theorem dX3_levelOf_15 : decode cX3_levelOf 15 = .ok (.getfield 73, 3) := by decide +kernel
theorem dX3_levelOf_18 : decode cX3_levelOf 18 = .ok (.iload_n 2, 1) := by decide +kernel
theorem dX3_levelOf_19 : decode cX3_levelOf 19 = .ok (.iaload, 1) := by decide +kernel
theorem dX3_levelOf_20 : decode cX3_levelOf 20 = .ok (.ifCond .eq 15, 3) := by decide +kernel
theorem dX3_levelOf_23 : decode cX3_levelOf 23 = .ok (.aload_n 1, 1) := by decide +kernel
theorem dX3_levelOf_24 : decode cX3_levelOf 24 = .ok (.getfield 73, 3) := by decide +kernel
theorem dX3_levelOf_27 : decode cX3_levelOf 27 = .ok (.iload_n 2, 1) := by decide +kernel
theorem dX3_levelOf_28 : decode cX3_levelOf 28 = .ok (.iaload, 1) := by decide +kernel
theorem dX3_levelOf_29 : decode cX3_levelOf 29 = .ok (.iconst 1, 1) := by decide +kernel
theorem dX3_levelOf_30 : decode cX3_levelOf 30 = .ok (.if_icmp .eq 5, 3) := by decide +kernel
theorem dX3_levelOf_33 : decode cX3_levelOf 33 = .ok (.iconst 0, 1) := by decide +kernel
theorem dX3_levelOf_34 : decode cX3_levelOf 34 = .ok (.ireturn, 1) := by decide +kernel
theorem dX3_levelOf_35 : decode cX3_levelOf 35 = .ok (.aload_n 0, 1) := by decide +kernel
theorem dX3_levelOf_36 : decode cX3_levelOf 36 = .ok (.iload_n 2, 1) := by decide +kernel
theorem dX3_levelOf_37 : decode cX3_levelOf 37 = .ok (.invokevirtual 78, 3) := by decide +kernel
theorem dX3_levelOf_40 : decode cX3_levelOf 40 = .ok (.aload_n 1, 1) := by decide +kernel
theorem dX3_levelOf_41 : decode cX3_levelOf 41 = .ok (.getfield 82, 3) := by decide +kernel
theorem dX3_levelOf_44 : decode cX3_levelOf 44 = .ok (.if_icmp .lt 7, 3) := by decide +kernel
theorem dX3_levelOf_47 : decode cX3_levelOf 47 = .ok (.iconst 2, 1) := by decide +kernel
theorem dX3_levelOf_48 : decode cX3_levelOf 48 = .ok (.goto 20, 3) := by decide +kernel
theorem dX3_levelOf_51 : decode cX3_levelOf 51 = .ok (.aload_n 0, 1) := by decide +kernel
theorem dX3_levelOf_52 : decode cX3_levelOf 52 = .ok (.iload_n 2, 1) := by decide +kernel
theorem dX3_levelOf_53 : decode cX3_levelOf 53 = .ok (.invokevirtual 78, 3) := by decide +kernel
theorem dX3_levelOf_56 : decode cX3_levelOf 56 = .ok (.aload_n 1, 1) := by decide +kernel
theorem dX3_levelOf_57 : decode cX3_levelOf 57 = .ok (.getfield 85, 3) := by decide +kernel
theorem dX3_levelOf_60 : decode cX3_levelOf 60 = .ok (.if_icmp .lt 7, 3) := by decide +kernel
theorem dX3_levelOf_63 : decode cX3_levelOf 63 = .ok (.iconst 1, 1) := by decide +kernel
theorem dX3_levelOf_64 : decode cX3_levelOf 64 = .ok (.goto 4, 3) := by decide +kernel
theorem dX3_levelOf_67 : decode cX3_levelOf 67 = .ok (.iconst 0, 1) := by decide +kernel
theorem dX3_levelOf_68 : decode cX3_levelOf 68 = .ok (.ireturn, 1) := by decide +kernel
set_option maxRecDepth 20000 in
theorem ggX3_zonesInFire_X5_bit : GoodIn wsX3_zonesInFire wsX5_bit := goodIn_r _ [6] (by decide +kernel) (by decide +kernel)
set_option maxRecDepth 20000 in
theorem gX3_zonesInFire_X5_bit_n64 : GoodIn wsX3_zonesInFire (wsX5_bit) := ggX3_zonesInFire_X5_bit
theorem dX3_zonesInFire_0 : decode cX3_zonesInFire 0 = .ok (.iconst 0, 1) := by decide +kernel
theorem dX3_zonesInFire_1 : decode cX3_zonesInFire 1 = .ok (.istore_n 2, 1) := by decide +kernel
theorem dX3_zonesInFire_2 : decode cX3_zonesInFire 2 = .ok (.iconst 0, 1) := by decide +kernel
theorem dX3_zonesInFire_3 : decode cX3_zonesInFire 3 = .ok (.istore_n 3, 1) := by decide +kernel
theorem dX3_zonesInFire_4 : decode cX3_zonesInFire 4 = .ok (.iload_n 3, 1) := by decide +kernel
theorem dX3_zonesInFire_5 : decode cX3_zonesInFire 5 = .ok (.aload_n 1, 1) := by decide +kernel
theorem dX3_zonesInFire_6 : decode cX3_zonesInFire 6 = .ok (.getfield 88, 3) := by decide +kernel
theorem dX3_zonesInFire_9 : decode cX3_zonesInFire 9 = .ok (.if_icmp .ge 27, 3) := by decide +kernel
theorem dX3_zonesInFire_12 : decode cX3_zonesInFire 12 = .ok (.iload_n 2, 1) := by decide +kernel
theorem dX3_zonesInFire_13 : decode cX3_zonesInFire 13 = .ok (.aload_n 0, 1) := by decide +kernel
theorem dX3_zonesInFire_14 : decode cX3_zonesInFire 14 = .ok (.getfield 49, 3) := by decide +kernel
theorem dX3_zonesInFire_17 : decode cX3_zonesInFire 17 = .ok (.iload_n 3, 1) := by decide +kernel
theorem dX3_zonesInFire_18 : decode cX3_zonesInFire 18 = .ok (.invokestatic 64, 3) := by decide +kernel
theorem dX3_zonesInFire_21 : decode cX3_zonesInFire 21 = .ok (.aload_n 1, 1) := by decide +kernel
theorem dX3_zonesInFire_22 : decode cX3_zonesInFire 22 = .ok (.getfield 91, 3) := by decide +kernel
theorem dX3_zonesInFire_25 : decode cX3_zonesInFire 25 = .ok (.iload_n 3, 1) := by decide +kernel
theorem dX3_zonesInFire_26 : decode cX3_zonesInFire 26 = .ok (.iaload, 1) := by decide +kernel
theorem dX3_zonesInFire_27 : decode cX3_zonesInFire 27 = .ok (.ishl, 1) := by decide +kernel
theorem dX3_zonesInFire_28 : decode cX3_zonesInFire 28 = .ok (.ior, 1) := by decide +kernel
theorem dX3_zonesInFire_29 : decode cX3_zonesInFire 29 = .ok (.istore_n 2, 1) := by decide +kernel
theorem dX3_zonesInFire_30 : decode cX3_zonesInFire 30 = .ok (.iinc 3 1, 3) := by decide +kernel
theorem dX3_zonesInFire_33 : decode cX3_zonesInFire 33 = .ok (.goto (-29), 3) := by decide +kernel
theorem dX3_zonesInFire_36 : decode cX3_zonesInFire 36 = .ok (.iload_n 2, 1) := by decide +kernel
theorem dX3_zonesInFire_37 : decode cX3_zonesInFire 37 = .ok (.ireturn, 1) := by decide +kernel
theorem dX3_since_0 : decode cX3_since 0 = .ok (.aload_n 0, 1) := by decide +kernel
theorem dX3_since_1 : decode cX3_since 1 = .ok (.getfield 43, 3) := by decide +kernel
theorem dX3_since_4 : decode cX3_since 4 = .ok (.aload_n 0, 1) := by decide +kernel
theorem dX3_since_5 : decode cX3_since 5 = .ok (.getfield 24, 3) := by decide +kernel
theorem dX3_since_8 : decode cX3_since 8 = .ok (.iload_n 1, 1) := by decide +kernel
theorem dX3_since_9 : decode cX3_since 9 = .ok (.iaload, 1) := by decide +kernel
theorem dX3_since_10 : decode cX3_since 10 = .ok (.isub, 1) := by decide +kernel
theorem dX3_since_11 : decode cX3_since 11 = .ok (.ireturn, 1) := by decide +kernel
set_option maxRecDepth 20000 in
theorem ggX3_phaseToLeave_X3_zonesInFire : GoodIn wsX3_phaseToLeave wsX3_zonesInFire := goodIn_r _ [6, 7, 8, 9, 10, 11, 12, 19, 20, 21, 22, 23, 24, 25, 26, 27, 28, 29, 30, 31, 32, 33, 34, 35, 36, 37, 38, 39, 40, 41, 42, 43, 44] (by decide +kernel) (by decide +kernel)
set_option maxRecDepth 20000 in
theorem gX3_phaseToLeave_X3_zonesInFire : GoodIn wsX3_phaseToLeave (wsV RX3 94 RX3 yX3_zonesInFire wsX3_zonesInFire) := goodIn_app (goodIn_of _ (by decide +kernel)) ggX3_phaseToLeave_X3_zonesInFire
set_option maxRecDepth 20000 in
theorem ggX3_phaseToLeave_X5_bit : GoodIn wsX3_phaseToLeave wsX5_bit := goodIn_r _ [12] (by decide +kernel) (by decide +kernel)
set_option maxRecDepth 20000 in
theorem gX3_phaseToLeave_X5_bit_n64 : GoodIn wsX3_phaseToLeave (wsX5_bit) := ggX3_phaseToLeave_X5_bit
set_option maxRecDepth 20000 in
theorem ggX3_phaseToLeave_X3_since : GoodIn wsX3_phaseToLeave wsX3_since := goodIn_r _ [16, 17, 18, 33, 34, 35, 36, 37, 38, 39, 40, 41, 42, 43, 44] (by decide +kernel) (by decide +kernel)
set_option maxRecDepth 20000 in
theorem gX3_phaseToLeave_X3_since : GoodIn wsX3_phaseToLeave (wsV RX3 98 RX3 yX3_since wsX3_since) := goodIn_app (goodIn_of _ (by decide +kernel)) ggX3_phaseToLeave_X3_since
theorem dX3_phaseToLeave_0 : decode cX3_phaseToLeave 0 = .ok (.aload_n 0, 1) := by decide +kernel
theorem dX3_phaseToLeave_1 : decode cX3_phaseToLeave 1 = .ok (.aload_n 1, 1) := by decide +kernel
theorem dX3_phaseToLeave_2 : decode cX3_phaseToLeave 2 = .ok (.invokevirtual 94, 3) := by decide +kernel
theorem dX3_phaseToLeave_5 : decode cX3_phaseToLeave 5 = .ok (.istore_n 3, 1) := by decide +kernel
theorem dX3_phaseToLeave_6 : decode cX3_phaseToLeave 6 = .ok (.iload_n 3, 1) := by decide +kernel
theorem dX3_phaseToLeave_7 : decode cX3_phaseToLeave 7 = .ok (.iload_n 2, 1) := by decide +kernel
theorem dX3_phaseToLeave_8 : decode cX3_phaseToLeave 8 = .ok (.invokestatic 64, 3) := by decide +kernel
theorem dX3_phaseToLeave_11 : decode cX3_phaseToLeave 11 = .ok (.iconst 1, 1) := by decide +kernel
theorem dX3_phaseToLeave_12 : decode cX3_phaseToLeave 12 = .ok (.if_icmp .ne 5, 3) := by decide +kernel
theorem dX3_phaseToLeave_15 : decode cX3_phaseToLeave 15 = .ok (.iconst 1, 1) := by decide +kernel
theorem dX3_phaseToLeave_16 : decode cX3_phaseToLeave 16 = .ok (.ireturn, 1) := by decide +kernel
theorem dX3_phaseToLeave_17 : decode cX3_phaseToLeave 17 = .ok (.iconst 0, 1) := by decide +kernel
theorem dX3_phaseToLeave_18 : decode cX3_phaseToLeave 18 = .ok (.istore 4, 2) := by decide +kernel
theorem dX3_phaseToLeave_20 : decode cX3_phaseToLeave 20 = .ok (.iconst 0, 1) := by decide +kernel
theorem dX3_phaseToLeave_21 : decode cX3_phaseToLeave 21 = .ok (.istore 5, 2) := by decide +kernel
theorem dX3_phaseToLeave_23 : decode cX3_phaseToLeave 23 = .ok (.iload 5, 2) := by decide +kernel
theorem dX3_phaseToLeave_25 : decode cX3_phaseToLeave 25 = .ok (.bipush 6, 2) := by decide +kernel
theorem dX3_phaseToLeave_27 : decode cX3_phaseToLeave 27 = .ok (.if_icmp .ge 85, 3) := by decide +kernel
theorem dX3_phaseToLeave_30 : decode cX3_phaseToLeave 30 = .ok (.iload_n 3, 1) := by decide +kernel
theorem dX3_phaseToLeave_31 : decode cX3_phaseToLeave 31 = .ok (.iload 5, 2) := by decide +kernel
theorem dX3_phaseToLeave_33 : decode cX3_phaseToLeave 33 = .ok (.invokestatic 64, 3) := by decide +kernel
theorem dX3_phaseToLeave_36 : decode cX3_phaseToLeave 36 = .ok (.iconst 1, 1) := by decide +kernel
theorem dX3_phaseToLeave_37 : decode cX3_phaseToLeave 37 = .ok (.if_icmp .ne 69, 3) := by decide +kernel
theorem dX3_phaseToLeave_40 : decode cX3_phaseToLeave 40 = .ok (.iload 5, 2) := by decide +kernel
theorem dX3_phaseToLeave_42 : decode cX3_phaseToLeave 42 = .ok (.iload_n 2, 1) := by decide +kernel
theorem dX3_phaseToLeave_43 : decode cX3_phaseToLeave 43 = .ok (.iconst 1, 1) := by decide +kernel
theorem dX3_phaseToLeave_44 : decode cX3_phaseToLeave 44 = .ok (.isub, 1) := by decide +kernel
theorem dX3_phaseToLeave_45 : decode cX3_phaseToLeave 45 = .ok (.if_icmp .eq 11, 3) := by decide +kernel
theorem dX3_phaseToLeave_48 : decode cX3_phaseToLeave 48 = .ok (.iload 5, 2) := by decide +kernel
theorem dX3_phaseToLeave_50 : decode cX3_phaseToLeave 50 = .ok (.iload_n 2, 1) := by decide +kernel
theorem dX3_phaseToLeave_51 : decode cX3_phaseToLeave 51 = .ok (.iconst 1, 1) := by decide +kernel
theorem dX3_phaseToLeave_52 : decode cX3_phaseToLeave 52 = .ok (.iadd, 1) := by decide +kernel
theorem dX3_phaseToLeave_53 : decode cX3_phaseToLeave 53 = .ok (.if_icmp .ne 7, 3) := by decide +kernel
theorem dX3_phaseToLeave_56 : decode cX3_phaseToLeave 56 = .ok (.iconst 1, 1) := by decide +kernel
theorem dX3_phaseToLeave_57 : decode cX3_phaseToLeave 57 = .ok (.goto 4, 3) := by decide +kernel
theorem dX3_phaseToLeave_60 : decode cX3_phaseToLeave 60 = .ok (.iconst 0, 1) := by decide +kernel
theorem dX3_phaseToLeave_61 : decode cX3_phaseToLeave 61 = .ok (.istore 6, 2) := by decide +kernel
theorem dX3_phaseToLeave_63 : decode cX3_phaseToLeave 63 = .ok (.iload 6, 2) := by decide +kernel
theorem dX3_phaseToLeave_65 : decode cX3_phaseToLeave 65 = .ok (.ifCond .eq 18, 3) := by decide +kernel
theorem dX3_phaseToLeave_68 : decode cX3_phaseToLeave 68 = .ok (.aload_n 0, 1) := by decide +kernel
theorem dX3_phaseToLeave_69 : decode cX3_phaseToLeave 69 = .ok (.iload 5, 2) := by decide +kernel
theorem dX3_phaseToLeave_71 : decode cX3_phaseToLeave 71 = .ok (.invokevirtual 98, 3) := by decide +kernel
theorem dX3_phaseToLeave_74 : decode cX3_phaseToLeave 74 = .ok (.aload_n 1, 1) := by decide +kernel
theorem dX3_phaseToLeave_75 : decode cX3_phaseToLeave 75 = .ok (.getfield 101, 3) := by decide +kernel
theorem dX3_phaseToLeave_78 : decode cX3_phaseToLeave 78 = .ok (.if_icmp .lt 5, 3) := by decide +kernel
theorem dX3_phaseToLeave_81 : decode cX3_phaseToLeave 81 = .ok (.iconst 2, 1) := by decide +kernel
theorem dX3_phaseToLeave_82 : decode cX3_phaseToLeave 82 = .ok (.ireturn, 1) := by decide +kernel
theorem dX3_phaseToLeave_83 : decode cX3_phaseToLeave 83 = .ok (.aload_n 0, 1) := by decide +kernel
theorem dX3_phaseToLeave_84 : decode cX3_phaseToLeave 84 = .ok (.iload 5, 2) := by decide +kernel
theorem dX3_phaseToLeave_86 : decode cX3_phaseToLeave 86 = .ok (.invokevirtual 98, 3) := by decide +kernel
theorem dX3_phaseToLeave_89 : decode cX3_phaseToLeave 89 = .ok (.iconst 2, 1) := by decide +kernel
theorem dX3_phaseToLeave_90 : decode cX3_phaseToLeave 90 = .ok (.aload_n 1, 1) := by decide +kernel
theorem dX3_phaseToLeave_91 : decode cX3_phaseToLeave 91 = .ok (.getfield 101, 3) := by decide +kernel
theorem dX3_phaseToLeave_94 : decode cX3_phaseToLeave 94 = .ok (.imul, 1) := by decide +kernel
theorem dX3_phaseToLeave_95 : decode cX3_phaseToLeave 95 = .ok (.if_icmp .lt 7, 3) := by decide +kernel
theorem dX3_phaseToLeave_98 : decode cX3_phaseToLeave 98 = .ok (.iconst 3, 1) := by decide +kernel
theorem dX3_phaseToLeave_99 : decode cX3_phaseToLeave 99 = .ok (.goto 5, 3) := by decide +kernel
theorem dX3_phaseToLeave_102 : decode cX3_phaseToLeave 102 = .ok (.iload 4, 2) := by decide +kernel
theorem dX3_phaseToLeave_104 : decode cX3_phaseToLeave 104 = .ok (.istore 4, 2) := by decide +kernel
theorem dX3_phaseToLeave_106 : decode cX3_phaseToLeave 106 = .ok (.iinc 5 1, 3) := by decide +kernel
theorem dX3_phaseToLeave_109 : decode cX3_phaseToLeave 109 = .ok (.goto (-86), 3) := by decide +kernel
theorem dX3_phaseToLeave_112 : decode cX3_phaseToLeave 112 = .ok (.iload 4, 2) := by decide +kernel
theorem dX3_phaseToLeave_114 : decode cX3_phaseToLeave 114 = .ok (.ireturn, 1) := by decide +kernel
set_option maxRecDepth 20000 in
theorem ggX3_goOn_X3_zonesInFire : GoodIn wsX3_goOn wsX3_zonesInFire := goodIn_r _ [8, 2, 9, 10, 11, 12, 13, 82, 83, 84, 85, 86, 87, 88, 89, 90, 91, 92, 93, 94, 95, 70, 71, 72, 73, 74, 75, 76, 77, 78, 79, 80, 81] (by decide +kernel) (by decide +kernel)
set_option maxRecDepth 20000 in
theorem gX3_goOn_X3_zonesInFire : GoodIn wsX3_goOn (wsV RX3 94 RX3 yX3_zonesInFire wsX3_zonesInFire) := goodIn_app (goodIn_of _ (by decide +kernel)) ggX3_goOn_X3_zonesInFire
set_option maxRecDepth 20000 in
theorem ggX3_goOn_X1_basesGoOnIn : GoodIn wsX3_goOn wsX1_basesGoOnIn := goodIn_r _ [18, 19, 82, 83, 84, 85, 86, 87, 88, 89, 90, 91, 92, 93, 94, 95] (by decide +kernel) (by decide +kernel)
set_option maxRecDepth 20000 in
theorem gX3_goOn_X1_basesGoOnIn : GoodIn wsX3_goOn (wsV RX3 104 RX1 yX1_basesGoOnIn wsX1_basesGoOnIn) := goodIn_app (goodIn_of _ (by decide +kernel)) ggX3_goOn_X1_basesGoOnIn
set_option maxRecDepth 20000 in
theorem ggX3_goOn_X5_bit : GoodIn wsX3_goOn wsX5_bit := goodIn_r _ [13] (by decide +kernel) (by decide +kernel)
set_option maxRecDepth 20000 in
theorem gX3_goOn_X5_bit_n64 : GoodIn wsX3_goOn (wsX5_bit) := ggX3_goOn_X5_bit
set_option maxRecDepth 20000 in
theorem ggX3_goOn_X3_watch : GoodIn wsX3_goOn wsX3_watch := goodIn_r _ [23, 24, 25, 26, 27, 28, 9, 29, 30, 31, 7, 32, 33, 34, 35, 36, 37, 82, 83, 84, 85, 86, 87, 88, 89, 90, 91, 92, 93, 94, 95, 70, 71, 72, 73, 74, 75, 76, 77, 78, 79, 80, 81] (by decide +kernel) (by decide +kernel)
set_option maxRecDepth 20000 in
theorem gX3_goOn_X3_watch : GoodIn wsX3_goOn (wsV RX3 108 RX3 yX3_watch wsX3_watch) := goodIn_app (goodIn_of _ (by decide +kernel)) ggX3_goOn_X3_watch
set_option maxRecDepth 20000 in
theorem ggX3_goOn_X3_follow : GoodIn wsX3_goOn wsX3_follow := goodIn_r _ [41, 25, 42, 33, 28, 29, 30, 31, 7, 32, 34, 35, 36, 37, 82, 83, 84, 85, 86, 87, 88, 89, 90, 91, 92, 93, 94, 95, 70, 71, 72, 73, 74, 75, 76, 77, 78, 79, 80, 81] (by decide +kernel) (by decide +kernel)
set_option maxRecDepth 20000 in
theorem gX3_goOn_X3_follow : GoodIn wsX3_goOn (wsV RX3 112 RX3 yX3_follow wsX3_follow) := goodIn_app (goodIn_of _ (by decide +kernel)) ggX3_goOn_X3_follow
set_option maxRecDepth 20000 in
theorem ggX3_goOn_X3_noteZonesThatCome : GoodIn wsX3_goOn wsX3_noteZonesThatCome := goodIn_r _ [46, 47, 48, 1, 11, 12, 13, 70, 71, 72, 73, 74, 75, 76, 77, 78, 79, 80, 81] (by decide +kernel) (by decide +kernel)
set_option maxRecDepth 20000 in
theorem gX3_goOn_X3_noteZonesThatCome : GoodIn wsX3_goOn (wsV RX3 115 RX3 yX3_noteZonesThatCome wsX3_noteZonesThatCome) := goodIn_app (goodIn_of _ (by decide +kernel)) ggX3_goOn_X3_noteZonesThatCome
set_option maxRecDepth 20000 in
theorem ggX3_goOn_X3_moveEffect : GoodIn wsX3_goOn wsX3_moveEffect := goodIn_r _ [52, 53, 54, 55, 56, 11, 12, 13, 57, 58, 59, 17, 60, 61, 62, 63, 64, 65, 66, 67, 68, 69, 70, 71, 72, 73, 74, 75, 76, 77, 78, 79, 80, 81, 82, 83, 84, 85, 86, 87, 88, 89, 90, 91, 92, 93, 94, 95] (by decide +kernel) (by decide +kernel)
set_option maxRecDepth 20000 in
theorem gX3_goOn_X3_moveEffect : GoodIn wsX3_goOn (wsV RX3 122 RX3 yX3_moveEffect wsX3_moveEffect) := goodIn_app (goodIn_of _ (by decide +kernel)) ggX3_goOn_X3_moveEffect
theorem dX3_goOn_0 : decode cX3_goOn 0 = .ok (.aload_n 0, 1) := by decide +kernel
theorem dX3_goOn_1 : decode cX3_goOn 1 = .ok (.aload_n 1, 1) := by decide +kernel
theorem dX3_goOn_2 : decode cX3_goOn 2 = .ok (.invokevirtual 94, 3) := by decide +kernel
theorem dX3_goOn_5 : decode cX3_goOn 5 = .ok (.istore_n 3, 1) := by decide +kernel
theorem dX3_goOn_6 : decode cX3_goOn 6 = .ok (.aload_n 0, 1) := by decide +kernel
theorem dX3_goOn_7 : decode cX3_goOn 7 = .ok (.dup, 1) := by decide +kernel
theorem dX3_goOn_8 : decode cX3_goOn 8 = .ok (.getfield 43, 3) := by decide +kernel
theorem dX3_goOn_11 : decode cX3_goOn 11 = .ok (.iconst 1, 1) := by decide +kernel
theorem dX3_goOn_12 : decode cX3_goOn 12 = .ok (.iadd, 1) := by decide +kernel
theorem dX3_goOn_13 : decode cX3_goOn 13 = .ok (.putfield 43, 3) := by decide +kernel
theorem dX3_goOn_16 : decode cX3_goOn 16 = .ok (.aload_n 1, 1) := by decide +kernel
theorem dX3_goOn_17 : decode cX3_goOn 17 = .ok (.aload_n 0, 1) := by decide +kernel
theorem dX3_goOn_18 : decode cX3_goOn 18 = .ok (.getfield 43, 3) := by decide +kernel
theorem dX3_goOn_21 : decode cX3_goOn 21 = .ok (.invokevirtual 104, 3) := by decide +kernel
theorem dX3_goOn_24 : decode cX3_goOn 24 = .ok (.istore 4, 2) := by decide +kernel
theorem dX3_goOn_26 : decode cX3_goOn 26 = .ok (.iconst 0, 1) := by decide +kernel
theorem dX3_goOn_27 : decode cX3_goOn 27 = .ok (.istore 5, 2) := by decide +kernel
theorem dX3_goOn_29 : decode cX3_goOn 29 = .ok (.iload 5, 2) := by decide +kernel
theorem dX3_goOn_31 : decode cX3_goOn 31 = .ok (.aload_n 1, 1) := by decide +kernel
theorem dX3_goOn_32 : decode cX3_goOn 32 = .ok (.getfield 88, 3) := by decide +kernel
theorem dX3_goOn_35 : decode cX3_goOn 35 = .ok (.if_icmp .ge 37, 3) := by decide +kernel
theorem dX3_goOn_38 : decode cX3_goOn 38 = .ok (.iload_n 2, 1) := by decide +kernel
theorem dX3_goOn_39 : decode cX3_goOn 39 = .ok (.iload 5, 2) := by decide +kernel
theorem dX3_goOn_41 : decode cX3_goOn 41 = .ok (.invokestatic 64, 3) := by decide +kernel
theorem dX3_goOn_44 : decode cX3_goOn 44 = .ok (.ifCond .ne 22, 3) := by decide +kernel
theorem dX3_goOn_47 : decode cX3_goOn 47 = .ok (.aload_n 0, 1) := by decide +kernel
theorem dX3_goOn_48 : decode cX3_goOn 48 = .ok (.aload_n 1, 1) := by decide +kernel
theorem dX3_goOn_49 : decode cX3_goOn 49 = .ok (.iload 5, 2) := by decide +kernel
theorem dX3_goOn_51 : decode cX3_goOn 51 = .ok (.invokevirtual 108, 3) := by decide +kernel
theorem dX3_goOn_54 : decode cX3_goOn 54 = .ok (.iload 4, 2) := by decide +kernel
theorem dX3_goOn_56 : decode cX3_goOn 56 = .ok (.ifCond .eq 10, 3) := by decide +kernel
theorem dX3_goOn_59 : decode cX3_goOn 59 = .ok (.aload_n 0, 1) := by decide +kernel
theorem dX3_goOn_60 : decode cX3_goOn 60 = .ok (.aload_n 1, 1) := by decide +kernel
theorem dX3_goOn_61 : decode cX3_goOn 61 = .ok (.iload 5, 2) := by decide +kernel
theorem dX3_goOn_63 : decode cX3_goOn 63 = .ok (.invokevirtual 112, 3) := by decide +kernel
theorem dX3_goOn_66 : decode cX3_goOn 66 = .ok (.iinc 5 1, 3) := by decide +kernel
theorem dX3_goOn_69 : decode cX3_goOn 69 = .ok (.goto (-40), 3) := by decide +kernel
theorem dX3_goOn_72 : decode cX3_goOn 72 = .ok (.aload_n 0, 1) := by decide +kernel
theorem dX3_goOn_73 : decode cX3_goOn 73 = .ok (.aload_n 1, 1) := by decide +kernel
theorem dX3_goOn_74 : decode cX3_goOn 74 = .ok (.invokevirtual 94, 3) := by decide +kernel
theorem dX3_goOn_77 : decode cX3_goOn 77 = .ok (.istore 5, 2) := by decide +kernel
theorem dX3_goOn_79 : decode cX3_goOn 79 = .ok (.aload_n 0, 1) := by decide +kernel
theorem dX3_goOn_80 : decode cX3_goOn 80 = .ok (.iload 5, 2) := by decide +kernel
theorem dX3_goOn_82 : decode cX3_goOn 82 = .ok (.iload_n 3, 1) := by decide +kernel
theorem dX3_goOn_83 : decode cX3_goOn 83 = .ok (.iconst (-1), 1) := by decide +kernel
theorem dX3_goOn_84 : decode cX3_goOn 84 = .ok (.ixor, 1) := by decide +kernel
theorem dX3_goOn_85 : decode cX3_goOn 85 = .ok (.iand, 1) := by decide +kernel
theorem dX3_goOn_86 : decode cX3_goOn 86 = .ok (.invokevirtual 115, 3) := by decide +kernel
theorem dX3_goOn_89 : decode cX3_goOn 89 = .ok (.iconst 0, 1) := by decide +kernel
theorem dX3_goOn_90 : decode cX3_goOn 90 = .ok (.istore 6, 2) := by decide +kernel
theorem dX3_goOn_92 : decode cX3_goOn 92 = .ok (.iload 6, 2) := by decide +kernel
theorem dX3_goOn_94 : decode cX3_goOn 94 = .ok (.aload_n 1, 1) := by decide +kernel
theorem dX3_goOn_95 : decode cX3_goOn 95 = .ok (.getfield 119, 3) := by decide +kernel
theorem dX3_goOn_98 : decode cX3_goOn 98 = .ok (.if_icmp .ge 18, 3) := by decide +kernel
theorem dX3_goOn_101 : decode cX3_goOn 101 = .ok (.aload_n 0, 1) := by decide +kernel
theorem dX3_goOn_102 : decode cX3_goOn 102 = .ok (.aload_n 1, 1) := by decide +kernel
theorem dX3_goOn_103 : decode cX3_goOn 103 = .ok (.iload 6, 2) := by decide +kernel
theorem dX3_goOn_105 : decode cX3_goOn 105 = .ok (.iload 5, 2) := by decide +kernel
theorem dX3_goOn_107 : decode cX3_goOn 107 = .ok (.invokevirtual 122, 3) := by decide +kernel
theorem dX3_goOn_110 : decode cX3_goOn 110 = .ok (.iinc 6 1, 3) := by decide +kernel
theorem dX3_goOn_113 : decode cX3_goOn 113 = .ok (.goto (-21), 3) := by decide +kernel
theorem dX3_goOn_116 : decode cX3_goOn 116 = .ok (.return_, 1) := by decide +kernel
set_option maxRecDepth 20000 in
theorem ggX3_watch_X3_valueOf : GoodIn wsX3_watch wsX3_valueOf := goodIn_r _ [11, 5, 12, 13, 14, 15, 16, 31, 32, 33, 34, 35, 36, 37, 38, 39, 40, 41, 42] (by decide +kernel) (by decide +kernel)
set_option maxRecDepth 20000 in
theorem gX3_watch_X3_valueOf : GoodIn wsX3_watch (wsV RX3 78 RX3 yX3_valueOf wsX3_valueOf) := goodIn_app (goodIn_of _ (by decide +kernel)) ggX3_watch_X3_valueOf
theorem dX3_watch_0 : decode cX3_watch 0 = .ok (.aload_n 0, 1) := by decide +kernel
theorem dX3_watch_1 : decode cX3_watch 1 = .ok (.iload_n 2, 1) := by decide +kernel
theorem dX3_watch_2 : decode cX3_watch 2 = .ok (.invokevirtual 78, 3) := by decide +kernel
theorem dX3_watch_5 : decode cX3_watch 5 = .ok (.aload_n 1, 1) := by decide +kernel
theorem dX3_watch_6 : decode cX3_watch 6 = .ok (.getfield 82, 3) := by decide +kernel
theorem dX3_watch_9 : decode cX3_watch 9 = .ok (.if_icmp .lt 7, 3) := by decide +kernel
theorem dX3_watch_12 : decode cX3_watch 12 = .ok (.iconst 1, 1) := by decide +kernel
theorem dX3_watch_13 : decode cX3_watch 13 = .ok (.goto 4, 3) := by decide +kernel
theorem dX3_watch_16 : decode cX3_watch 16 = .ok (.iconst 0, 1) := by decide +kernel
theorem dX3_watch_17 : decode cX3_watch 17 = .ok (.istore_n 3, 1) := by decide +kernel
theorem dX3_watch_18 : decode cX3_watch 18 = .ok (.iconst 0, 1) := by decide +kernel
theorem dX3_watch_19 : decode cX3_watch 19 = .ok (.istore 4, 2) := by decide +kernel
theorem dX3_watch_21 : decode cX3_watch 21 = .ok (.aload_n 1, 1) := by decide +kernel
theorem dX3_watch_22 : decode cX3_watch 22 = .ok (.getfield 73, 3) := by decide +kernel
theorem dX3_watch_25 : decode cX3_watch 25 = .ok (.iload_n 2, 1) := by decide +kernel
theorem dX3_watch_26 : decode cX3_watch 26 = .ok (.iaload, 1) := by decide +kernel
theorem dX3_watch_27 : decode cX3_watch 27 = .ok (.tableswitch 95 0 2 #[25, 70, 76], 25) := by decide +kernel
theorem dX3_watch_52 : decode cX3_watch 52 = .ok (.aload_n 0, 1) := by decide +kernel
theorem dX3_watch_53 : decode cX3_watch 53 = .ok (.getfield 18, 3) := by decide +kernel
theorem dX3_watch_56 : decode cX3_watch 56 = .ok (.iload_n 2, 1) := by decide +kernel
theorem dX3_watch_57 : decode cX3_watch 57 = .ok (.iload_n 3, 1) := by decide +kernel
theorem dX3_watch_58 : decode cX3_watch 58 = .ok (.ifCond .eq 14, 3) := by decide +kernel
theorem dX3_watch_61 : decode cX3_watch 61 = .ok (.aload_n 0, 1) := by decide +kernel
theorem dX3_watch_62 : decode cX3_watch 62 = .ok (.getfield 18, 3) := by decide +kernel
theorem dX3_watch_65 : decode cX3_watch 65 = .ok (.iload_n 2, 1) := by decide +kernel
theorem dX3_watch_66 : decode cX3_watch 66 = .ok (.iaload, 1) := by decide +kernel
theorem dX3_watch_67 : decode cX3_watch 67 = .ok (.iconst 1, 1) := by decide +kernel
theorem dX3_watch_68 : decode cX3_watch 68 = .ok (.iadd, 1) := by decide +kernel
theorem dX3_watch_69 : decode cX3_watch 69 = .ok (.goto 4, 3) := by decide +kernel
theorem dX3_watch_72 : decode cX3_watch 72 = .ok (.iconst 0, 1) := by decide +kernel
theorem dX3_watch_73 : decode cX3_watch 73 = .ok (.iastore, 1) := by decide +kernel
theorem dX3_watch_74 : decode cX3_watch 74 = .ok (.aload_n 0, 1) := by decide +kernel
theorem dX3_watch_75 : decode cX3_watch 75 = .ok (.getfield 18, 3) := by decide +kernel
theorem dX3_watch_78 : decode cX3_watch 78 = .ok (.iload_n 2, 1) := by decide +kernel
theorem dX3_watch_79 : decode cX3_watch 79 = .ok (.iaload, 1) := by decide +kernel
theorem dX3_watch_80 : decode cX3_watch 80 = .ok (.aload_n 1, 1) := by decide +kernel
theorem dX3_watch_81 : decode cX3_watch 81 = .ok (.getfield 126, 3) := by decide +kernel
theorem dX3_watch_84 : decode cX3_watch 84 = .ok (.if_icmp .le 7, 3) := by decide +kernel
theorem dX3_watch_87 : decode cX3_watch 87 = .ok (.iconst 1, 1) := by decide +kernel
theorem dX3_watch_88 : decode cX3_watch 88 = .ok (.goto 4, 3) := by decide +kernel
theorem dX3_watch_91 : decode cX3_watch 91 = .ok (.iconst 0, 1) := by decide +kernel
theorem dX3_watch_92 : decode cX3_watch 92 = .ok (.istore 4, 2) := by decide +kernel
theorem dX3_watch_94 : decode cX3_watch 94 = .ok (.goto 28, 3) := by decide +kernel
theorem dX3_watch_97 : decode cX3_watch 97 = .ok (.iload_n 3, 1) := by decide +kernel
theorem dX3_watch_98 : decode cX3_watch 98 = .ok (.istore 4, 2) := by decide +kernel
theorem dX3_watch_100 : decode cX3_watch 100 = .ok (.goto 22, 3) := by decide +kernel
theorem dX3_watch_103 : decode cX3_watch 103 = .ok (.aload_n 0, 1) := by decide +kernel
theorem dX3_watch_104 : decode cX3_watch 104 = .ok (.getfield 9, 3) := by decide +kernel
theorem dX3_watch_107 : decode cX3_watch 107 = .ok (.iload_n 2, 1) := by decide +kernel
theorem dX3_watch_108 : decode cX3_watch 108 = .ok (.iaload, 1) := by decide +kernel
theorem dX3_watch_109 : decode cX3_watch 109 = .ok (.ifCond .le 7, 3) := by decide +kernel
theorem dX3_watch_112 : decode cX3_watch 112 = .ok (.iconst 1, 1) := by decide +kernel
theorem dX3_watch_113 : decode cX3_watch 113 = .ok (.goto 4, 3) := by decide +kernel
theorem dX3_watch_116 : decode cX3_watch 116 = .ok (.iconst 0, 1) := by decide +kernel
theorem dX3_watch_117 : decode cX3_watch 117 = .ok (.istore 4, 2) := by decide +kernel
theorem dX3_watch_119 : decode cX3_watch 119 = .ok (.goto 3, 3) := by decide +kernel
theorem dX3_watch_122 : decode cX3_watch 122 = .ok (.aload_n 0, 1) := by decide +kernel
theorem dX3_watch_123 : decode cX3_watch 123 = .ok (.dup, 1) := by decide +kernel
theorem dX3_watch_124 : decode cX3_watch 124 = .ok (.getfield 49, 3) := by decide +kernel
theorem dX3_watch_127 : decode cX3_watch 127 = .ok (.iload 4, 2) := by decide +kernel
theorem dX3_watch_129 : decode cX3_watch 129 = .ok (.ifCond .eq 9, 3) := by decide +kernel
theorem dX3_watch_132 : decode cX3_watch 132 = .ok (.iconst 1, 1) := by decide +kernel
theorem dX3_watch_133 : decode cX3_watch 133 = .ok (.iload_n 2, 1) := by decide +kernel
theorem dX3_watch_134 : decode cX3_watch 134 = .ok (.ishl, 1) := by decide +kernel
theorem dX3_watch_135 : decode cX3_watch 135 = .ok (.goto 4, 3) := by decide +kernel
theorem dX3_watch_138 : decode cX3_watch 138 = .ok (.iconst 0, 1) := by decide +kernel
theorem dX3_watch_139 : decode cX3_watch 139 = .ok (.ior, 1) := by decide +kernel
theorem dX3_watch_140 : decode cX3_watch 140 = .ok (.putfield 49, 3) := by decide +kernel
theorem dX3_watch_143 : decode cX3_watch 143 = .ok (.return_, 1) := by decide +kernel
set_option maxRecDepth 20000 in
theorem ggX3_follow_X3_valueOf : GoodIn wsX3_follow wsX3_valueOf := goodIn_r _ [9, 4, 3, 10, 11, 12, 13, 28, 29, 30, 31, 32, 33, 34, 35, 36, 37, 38, 39] (by decide +kernel) (by decide +kernel)
set_option maxRecDepth 20000 in
theorem gX3_follow_X3_valueOf : GoodIn wsX3_follow (wsV RX3 78 RX3 yX3_valueOf wsX3_valueOf) := goodIn_app (goodIn_of _ (by decide +kernel)) ggX3_follow_X3_valueOf
theorem dX3_follow_0 : decode cX3_follow 0 = .ok (.aload_n 1, 1) := by decide +kernel
theorem dX3_follow_1 : decode cX3_follow 1 = .ok (.getfield 73, 3) := by decide +kernel
theorem dX3_follow_4 : decode cX3_follow 4 = .ok (.iload_n 2, 1) := by decide +kernel
theorem dX3_follow_5 : decode cX3_follow 5 = .ok (.iaload, 1) := by decide +kernel
theorem dX3_follow_6 : decode cX3_follow 6 = .ok (.ifCond .eq 13, 3) := by decide +kernel
theorem dX3_follow_9 : decode cX3_follow 9 = .ok (.aload_n 1, 1) := by decide +kernel
theorem dX3_follow_10 : decode cX3_follow 10 = .ok (.getfield 73, 3) := by decide +kernel
theorem dX3_follow_13 : decode cX3_follow 13 = .ok (.iload_n 2, 1) := by decide +kernel
theorem dX3_follow_14 : decode cX3_follow 14 = .ok (.iaload, 1) := by decide +kernel
theorem dX3_follow_15 : decode cX3_follow 15 = .ok (.iconst 1, 1) := by decide +kernel
theorem dX3_follow_16 : decode cX3_follow 16 = .ok (.if_icmp .ne 7, 3) := by decide +kernel
theorem dX3_follow_19 : decode cX3_follow 19 = .ok (.iconst 1, 1) := by decide +kernel
theorem dX3_follow_20 : decode cX3_follow 20 = .ok (.goto 4, 3) := by decide +kernel
theorem dX3_follow_23 : decode cX3_follow 23 = .ok (.iconst 0, 1) := by decide +kernel
theorem dX3_follow_24 : decode cX3_follow 24 = .ok (.istore_n 3, 1) := by decide +kernel
theorem dX3_follow_25 : decode cX3_follow 25 = .ok (.iload_n 3, 1) := by decide +kernel
theorem dX3_follow_26 : decode cX3_follow 26 = .ok (.ifCond .eq 15, 3) := by decide +kernel
theorem dX3_follow_29 : decode cX3_follow 29 = .ok (.aload_n 0, 1) := by decide +kernel
theorem dX3_follow_30 : decode cX3_follow 30 = .ok (.iload_n 2, 1) := by decide +kernel
theorem dX3_follow_31 : decode cX3_follow 31 = .ok (.invokevirtual 78, 3) := by decide +kernel
theorem dX3_follow_34 : decode cX3_follow 34 = .ok (.aload_n 1, 1) := by decide +kernel
theorem dX3_follow_35 : decode cX3_follow 35 = .ok (.getfield 85, 3) := by decide +kernel
theorem dX3_follow_38 : decode cX3_follow 38 = .ok (.if_icmp .lt 4, 3) := by decide +kernel
theorem dX3_follow_41 : decode cX3_follow 41 = .ok (.return_, 1) := by decide +kernel
theorem dX3_follow_42 : decode cX3_follow 42 = .ok (.aload_n 0, 1) := by decide +kernel
theorem dX3_follow_43 : decode cX3_follow 43 = .ok (.getfield 15, 3) := by decide +kernel
theorem dX3_follow_46 : decode cX3_follow 46 = .ok (.iload_n 2, 1) := by decide +kernel
theorem dX3_follow_47 : decode cX3_follow 47 = .ok (.iaload, 1) := by decide +kernel
theorem dX3_follow_48 : decode cX3_follow 48 = .ok (.aload_n 0, 1) := by decide +kernel
theorem dX3_follow_49 : decode cX3_follow 49 = .ok (.getfield 9, 3) := by decide +kernel
theorem dX3_follow_52 : decode cX3_follow 52 = .ok (.iload_n 2, 1) := by decide +kernel
theorem dX3_follow_53 : decode cX3_follow 53 = .ok (.iaload, 1) := by decide +kernel
theorem dX3_follow_54 : decode cX3_follow 54 = .ok (.if_icmp .le 16, 3) := by decide +kernel
theorem dX3_follow_57 : decode cX3_follow 57 = .ok (.aload_n 0, 1) := by decide +kernel
theorem dX3_follow_58 : decode cX3_follow 58 = .ok (.getfield 15, 3) := by decide +kernel
theorem dX3_follow_61 : decode cX3_follow 61 = .ok (.iload_n 2, 1) := by decide +kernel
theorem dX3_follow_62 : decode cX3_follow 62 = .ok (.dup2, 1) := by decide +kernel
theorem dX3_follow_63 : decode cX3_follow 63 = .ok (.iaload, 1) := by decide +kernel
theorem dX3_follow_64 : decode cX3_follow 64 = .ok (.iconst 1, 1) := by decide +kernel
theorem dX3_follow_65 : decode cX3_follow 65 = .ok (.isub, 1) := by decide +kernel
theorem dX3_follow_66 : decode cX3_follow 66 = .ok (.iastore, 1) := by decide +kernel
theorem dX3_follow_67 : decode cX3_follow 67 = .ok (.goto 39, 3) := by decide +kernel
theorem dX3_follow_70 : decode cX3_follow 70 = .ok (.aload_n 0, 1) := by decide +kernel
theorem dX3_follow_71 : decode cX3_follow 71 = .ok (.getfield 15, 3) := by decide +kernel
theorem dX3_follow_74 : decode cX3_follow 74 = .ok (.iload_n 2, 1) := by decide +kernel
theorem dX3_follow_75 : decode cX3_follow 75 = .ok (.iaload, 1) := by decide +kernel
theorem dX3_follow_76 : decode cX3_follow 76 = .ok (.aload_n 0, 1) := by decide +kernel
theorem dX3_follow_77 : decode cX3_follow 77 = .ok (.getfield 9, 3) := by decide +kernel
theorem dX3_follow_80 : decode cX3_follow 80 = .ok (.iload_n 2, 1) := by decide +kernel
theorem dX3_follow_81 : decode cX3_follow 81 = .ok (.iaload, 1) := by decide +kernel
theorem dX3_follow_82 : decode cX3_follow 82 = .ok (.if_icmp .ge 24, 3) := by decide +kernel
theorem dX3_follow_85 : decode cX3_follow 85 = .ok (.aload_n 0, 1) := by decide +kernel
theorem dX3_follow_86 : decode cX3_follow 86 = .ok (.getfield 15, 3) := by decide +kernel
theorem dX3_follow_89 : decode cX3_follow 89 = .ok (.iload_n 2, 1) := by decide +kernel
theorem dX3_follow_90 : decode cX3_follow 90 = .ok (.iaload, 1) := by decide +kernel
theorem dX3_follow_91 : decode cX3_follow 91 = .ok (.bipush 40, 2) := by decide +kernel
theorem dX3_follow_93 : decode cX3_follow 93 = .ok (.if_icmp .ge 13, 3) := by decide +kernel
theorem dX3_follow_96 : decode cX3_follow 96 = .ok (.aload_n 0, 1) := by decide +kernel
theorem dX3_follow_97 : decode cX3_follow 97 = .ok (.getfield 15, 3) := by decide +kernel
theorem dX3_follow_100 : decode cX3_follow 100 = .ok (.iload_n 2, 1) := by decide +kernel
theorem dX3_follow_101 : decode cX3_follow 101 = .ok (.dup2, 1) := by decide +kernel
theorem dX3_follow_102 : decode cX3_follow 102 = .ok (.iaload, 1) := by decide +kernel
theorem dX3_follow_103 : decode cX3_follow 103 = .ok (.iconst 1, 1) := by decide +kernel
theorem dX3_follow_104 : decode cX3_follow 104 = .ok (.iadd, 1) := by decide +kernel
theorem dX3_follow_105 : decode cX3_follow 105 = .ok (.iastore, 1) := by decide +kernel
theorem dX3_follow_106 : decode cX3_follow 106 = .ok (.return_, 1) := by decide +kernel
set_option maxRecDepth 20000 in
theorem ggX3_noteZonesThatCome_X5_bit : GoodIn wsX3_noteZonesThatCome wsX5_bit := goodIn_r _ [6] (by decide +kernel) (by decide +kernel)
set_option maxRecDepth 20000 in
theorem gX3_noteZonesThatCome_X5_bit_n64 : GoodIn wsX3_noteZonesThatCome (wsX5_bit) := ggX3_noteZonesThatCome_X5_bit
theorem dX3_noteZonesThatCome_0 : decode cX3_noteZonesThatCome 0 = .ok (.iload_n 1, 1) := by decide +kernel
theorem dX3_noteZonesThatCome_1 : decode cX3_noteZonesThatCome 1 = .ok (.ifCond .ne 4, 3) := by decide +kernel
theorem dX3_noteZonesThatCome_4 : decode cX3_noteZonesThatCome 4 = .ok (.return_, 1) := by decide +kernel
theorem dX3_noteZonesThatCome_5 : decode cX3_noteZonesThatCome 5 = .ok (.aload_n 0, 1) := by decide +kernel
theorem dX3_noteZonesThatCome_6 : decode cX3_noteZonesThatCome 6 = .ok (.iconst 0, 1) := by decide +kernel
theorem dX3_noteZonesThatCome_7 : decode cX3_noteZonesThatCome 7 = .ok (.putfield 55, 3) := by decide +kernel
theorem dX3_noteZonesThatCome_10 : decode cX3_noteZonesThatCome 10 = .ok (.iconst 0, 1) := by decide +kernel
theorem dX3_noteZonesThatCome_11 : decode cX3_noteZonesThatCome 11 = .ok (.istore_n 2, 1) := by decide +kernel
theorem dX3_noteZonesThatCome_12 : decode cX3_noteZonesThatCome 12 = .ok (.iload_n 2, 1) := by decide +kernel
theorem dX3_noteZonesThatCome_13 : decode cX3_noteZonesThatCome 13 = .ok (.bipush 6, 2) := by decide +kernel
theorem dX3_noteZonesThatCome_15 : decode cX3_noteZonesThatCome 15 = .ok (.if_icmp .ge 28, 3) := by decide +kernel
theorem dX3_noteZonesThatCome_18 : decode cX3_noteZonesThatCome 18 = .ok (.iload_n 1, 1) := by decide +kernel
theorem dX3_noteZonesThatCome_19 : decode cX3_noteZonesThatCome 19 = .ok (.iload_n 2, 1) := by decide +kernel
theorem dX3_noteZonesThatCome_20 : decode cX3_noteZonesThatCome 20 = .ok (.invokestatic 64, 3) := by decide +kernel
theorem dX3_noteZonesThatCome_23 : decode cX3_noteZonesThatCome 23 = .ok (.iconst 1, 1) := by decide +kernel
theorem dX3_noteZonesThatCome_24 : decode cX3_noteZonesThatCome 24 = .ok (.if_icmp .ne 13, 3) := by decide +kernel
theorem dX3_noteZonesThatCome_27 : decode cX3_noteZonesThatCome 27 = .ok (.aload_n 0, 1) := by decide +kernel
theorem dX3_noteZonesThatCome_28 : decode cX3_noteZonesThatCome 28 = .ok (.getfield 24, 3) := by decide +kernel
theorem dX3_noteZonesThatCome_31 : decode cX3_noteZonesThatCome 31 = .ok (.iload_n 2, 1) := by decide +kernel
theorem dX3_noteZonesThatCome_32 : decode cX3_noteZonesThatCome 32 = .ok (.aload_n 0, 1) := by decide +kernel
theorem dX3_noteZonesThatCome_33 : decode cX3_noteZonesThatCome 33 = .ok (.getfield 43, 3) := by decide +kernel
theorem dX3_noteZonesThatCome_36 : decode cX3_noteZonesThatCome 36 = .ok (.iastore, 1) := by decide +kernel
theorem dX3_noteZonesThatCome_37 : decode cX3_noteZonesThatCome 37 = .ok (.iinc 2 1, 3) := by decide +kernel
theorem dX3_noteZonesThatCome_40 : decode cX3_noteZonesThatCome 40 = .ok (.goto (-28), 3) := by decide +kernel
theorem dX3_noteZonesThatCome_43 : decode cX3_noteZonesThatCome 43 = .ok (.return_, 1) := by decide +kernel
set_option maxRecDepth 20000 in
theorem ggX3_moveEffect_X5_bit : GoodIn wsX3_moveEffect wsX5_bit := goodIn_r _ [7] (by decide +kernel) (by decide +kernel)
set_option maxRecDepth 20000 in
theorem gX3_moveEffect_X5_bit_n64 : GoodIn wsX3_moveEffect (wsX5_bit) := ggX3_moveEffect_X5_bit
set_option maxRecDepth 20000 in
theorem ggX3_moveEffect_X1_wants : GoodIn wsX3_moveEffect wsX1_wants := goodIn_r _ [12, 13, 14, 15, 16, 17, 18, 19, 20, 21, 34, 35, 36, 37, 38, 39, 40, 41, 42, 43, 44, 45, 46, 47] (by decide +kernel) (by decide +kernel)
set_option maxRecDepth 20000 in
theorem gX3_moveEffect_X1_wants : GoodIn wsX3_moveEffect (wsV RX3 129 RX1 yX1_wants wsX1_wants) := goodIn_app (goodIn_of _ (by decide +kernel)) ggX3_moveEffect_X1_wants
theorem dX3_moveEffect_0 : decode cX3_moveEffect 0 = .ok (.aload_n 0, 1) := by decide +kernel
theorem dX3_moveEffect_1 : decode cX3_moveEffect 1 = .ok (.getfield 52, 3) := by decide +kernel
theorem dX3_moveEffect_4 : decode cX3_moveEffect 4 = .ok (.iload_n 2, 1) := by decide +kernel
theorem dX3_moveEffect_5 : decode cX3_moveEffect 5 = .ok (.invokestatic 64, 3) := by decide +kernel
theorem dX3_moveEffect_8 : decode cX3_moveEffect 8 = .ok (.iconst 1, 1) := by decide +kernel
theorem dX3_moveEffect_9 : decode cX3_moveEffect 9 = .ok (.if_icmp .ne 4, 3) := by decide +kernel
theorem dX3_moveEffect_12 : decode cX3_moveEffect 12 = .ok (.return_, 1) := by decide +kernel
theorem dX3_moveEffect_13 : decode cX3_moveEffect 13 = .ok (.aload_n 0, 1) := by decide +kernel
theorem dX3_moveEffect_14 : decode cX3_moveEffect 14 = .ok (.getfield 21, 3) := by decide +kernel
theorem dX3_moveEffect_17 : decode cX3_moveEffect 17 = .ok (.iload_n 2, 1) := by decide +kernel
theorem dX3_moveEffect_18 : decode cX3_moveEffect 18 = .ok (.aload_n 1, 1) := by decide +kernel
theorem dX3_moveEffect_19 : decode cX3_moveEffect 19 = .ok (.iload_n 2, 1) := by decide +kernel
theorem dX3_moveEffect_20 : decode cX3_moveEffect 20 = .ok (.iload_n 3, 1) := by decide +kernel
theorem dX3_moveEffect_21 : decode cX3_moveEffect 21 = .ok (.invokevirtual 129, 3) := by decide +kernel
theorem dX3_moveEffect_24 : decode cX3_moveEffect 24 = .ok (.ifCond .eq 14, 3) := by decide +kernel
theorem dX3_moveEffect_27 : decode cX3_moveEffect 27 = .ok (.aload_n 0, 1) := by decide +kernel
theorem dX3_moveEffect_28 : decode cX3_moveEffect 28 = .ok (.getfield 21, 3) := by decide +kernel
theorem dX3_moveEffect_31 : decode cX3_moveEffect 31 = .ok (.iload_n 2, 1) := by decide +kernel
theorem dX3_moveEffect_32 : decode cX3_moveEffect 32 = .ok (.iaload, 1) := by decide +kernel
theorem dX3_moveEffect_33 : decode cX3_moveEffect 33 = .ok (.iconst 1, 1) := by decide +kernel
theorem dX3_moveEffect_34 : decode cX3_moveEffect 34 = .ok (.iadd, 1) := by decide +kernel
theorem dX3_moveEffect_35 : decode cX3_moveEffect 35 = .ok (.goto 4, 3) := by decide +kernel
theorem dX3_moveEffect_38 : decode cX3_moveEffect 38 = .ok (.iconst 0, 1) := by decide +kernel
theorem dX3_moveEffect_39 : decode cX3_moveEffect 39 = .ok (.iastore, 1) := by decide +kernel
theorem dX3_moveEffect_40 : decode cX3_moveEffect 40 = .ok (.aload_n 0, 1) := by decide +kernel
theorem dX3_moveEffect_41 : decode cX3_moveEffect 41 = .ok (.getfield 27, 3) := by decide +kernel
theorem dX3_moveEffect_44 : decode cX3_moveEffect 44 = .ok (.iconst 1, 1) := by decide +kernel
theorem dX3_moveEffect_45 : decode cX3_moveEffect 45 = .ok (.if_icmp .ne 12, 3) := by decide +kernel
theorem dX3_moveEffect_48 : decode cX3_moveEffect 48 = .ok (.aload_n 1, 1) := by decide +kernel
theorem dX3_moveEffect_49 : decode cX3_moveEffect 49 = .ok (.getfield 133, 3) := by decide +kernel
theorem dX3_moveEffect_52 : decode cX3_moveEffect 52 = .ok (.iload_n 2, 1) := by decide +kernel
theorem dX3_moveEffect_53 : decode cX3_moveEffect 53 = .ok (.iaload, 1) := by decide +kernel
theorem dX3_moveEffect_54 : decode cX3_moveEffect 54 = .ok (.goto 4, 3) := by decide +kernel
theorem dX3_moveEffect_57 : decode cX3_moveEffect 57 = .ok (.iconst 0, 1) := by decide +kernel
theorem dX3_moveEffect_58 : decode cX3_moveEffect 58 = .ok (.istore 4, 2) := by decide +kernel
theorem dX3_moveEffect_60 : decode cX3_moveEffect 60 = .ok (.aload_n 0, 1) := by decide +kernel
theorem dX3_moveEffect_61 : decode cX3_moveEffect 61 = .ok (.dup, 1) := by decide +kernel
theorem dX3_moveEffect_62 : decode cX3_moveEffect 62 = .ok (.getfield 52, 3) := by decide +kernel
theorem dX3_moveEffect_65 : decode cX3_moveEffect 65 = .ok (.aload_n 0, 1) := by decide +kernel
theorem dX3_moveEffect_66 : decode cX3_moveEffect 66 = .ok (.getfield 21, 3) := by decide +kernel
theorem dX3_moveEffect_69 : decode cX3_moveEffect 69 = .ok (.iload_n 2, 1) := by decide +kernel
theorem dX3_moveEffect_70 : decode cX3_moveEffect 70 = .ok (.iaload, 1) := by decide +kernel
theorem dX3_moveEffect_71 : decode cX3_moveEffect 71 = .ok (.iload 4, 2) := by decide +kernel
theorem dX3_moveEffect_73 : decode cX3_moveEffect 73 = .ok (.if_icmp .le 9, 3) := by decide +kernel
theorem dX3_moveEffect_76 : decode cX3_moveEffect 76 = .ok (.iconst 1, 1) := by decide +kernel
theorem dX3_moveEffect_77 : decode cX3_moveEffect 77 = .ok (.iload_n 2, 1) := by decide +kernel
theorem dX3_moveEffect_78 : decode cX3_moveEffect 78 = .ok (.ishl, 1) := by decide +kernel
theorem dX3_moveEffect_79 : decode cX3_moveEffect 79 = .ok (.goto 4, 3) := by decide +kernel
theorem dX3_moveEffect_82 : decode cX3_moveEffect 82 = .ok (.iconst 0, 1) := by decide +kernel
theorem dX3_moveEffect_83 : decode cX3_moveEffect 83 = .ok (.ior, 1) := by decide +kernel
theorem dX3_moveEffect_84 : decode cX3_moveEffect 84 = .ok (.putfield 52, 3) := by decide +kernel
theorem dX3_moveEffect_87 : decode cX3_moveEffect 87 = .ok (.return_, 1) := by decide +kernel
theorem dX4_init_0 : decode cX4_init 0 = .ok (.aload_n 0, 1) := by decide +kernel
theorem dX4_init_1 : decode cX4_init 1 = .ok (.invokespecial 3, 3) := by decide +kernel
theorem dX4_init_4 : decode cX4_init 4 = .ok (.aload_n 0, 1) := by decide +kernel
theorem dX4_init_5 : decode cX4_init 5 = .ok (.sipush 200, 3) := by decide +kernel
theorem dX4_init_8 : decode cX4_init 8 = .ok (.newarray .int, 2) := by decide +kernel
theorem dX4_init_10 : decode cX4_init 10 = .ok (.putfield 11, 3) := by decide +kernel
theorem dX4_init_13 : decode cX4_init 13 = .ok (.aload_n 0, 1) := by decide +kernel
theorem dX4_init_14 : decode cX4_init 14 = .ok (.iconst 4, 1) := by decide +kernel
theorem dX4_init_15 : decode cX4_init 15 = .ok (.newarray .int, 2) := by decide +kernel
theorem dX4_init_17 : decode cX4_init 17 = .ok (.putfield 15, 3) := by decide +kernel
theorem dX4_init_20 : decode cX4_init 20 = .ok (.return_, 1) := by decide +kernel
theorem dX4_append_0 : decode cX4_append 0 = .ok (.aload_n 0, 1) := by decide +kernel
theorem dX4_append_1 : decode cX4_append 1 = .ok (.getfield 18, 3) := by decide +kernel
theorem dX4_append_4 : decode cX4_append 4 = .ok (.sipush 200, 3) := by decide +kernel
theorem dX4_append_7 : decode cX4_append 7 = .ok (.if_icmp .lt 5, 3) := by decide +kernel
theorem dX4_append_10 : decode cX4_append 10 = .ok (.iconst 0, 1) := by decide +kernel
theorem dX4_append_11 : decode cX4_append 11 = .ok (.ireturn, 1) := by decide +kernel
theorem dX4_append_12 : decode cX4_append 12 = .ok (.aload_n 0, 1) := by decide +kernel
theorem dX4_append_13 : decode cX4_append 13 = .ok (.getfield 11, 3) := by decide +kernel
theorem dX4_append_16 : decode cX4_append 16 = .ok (.aload_n 0, 1) := by decide +kernel
theorem dX4_append_17 : decode cX4_append 17 = .ok (.getfield 18, 3) := by decide +kernel
theorem dX4_append_20 : decode cX4_append 20 = .ok (.iload_n 1, 1) := by decide +kernel
theorem dX4_append_21 : decode cX4_append 21 = .ok (.iastore, 1) := by decide +kernel
theorem dX4_append_22 : decode cX4_append 22 = .ok (.aload_n 0, 1) := by decide +kernel
theorem dX4_append_23 : decode cX4_append 23 = .ok (.dup, 1) := by decide +kernel
theorem dX4_append_24 : decode cX4_append 24 = .ok (.getfield 18, 3) := by decide +kernel
theorem dX4_append_27 : decode cX4_append 27 = .ok (.iconst 1, 1) := by decide +kernel
theorem dX4_append_28 : decode cX4_append 28 = .ok (.iadd, 1) := by decide +kernel
theorem dX4_append_29 : decode cX4_append 29 = .ok (.putfield 18, 3) := by decide +kernel
theorem dX4_append_32 : decode cX4_append 32 = .ok (.iconst 1, 1) := by decide +kernel
theorem dX4_append_33 : decode cX4_append 33 = .ok (.ireturn, 1) := by decide +kernel
theorem dX4_clear_0 : decode cX4_clear 0 = .ok (.aload_n 0, 1) := by decide +kernel
theorem dX4_clear_1 : decode cX4_clear 1 = .ok (.iconst 0, 1) := by decide +kernel
theorem dX4_clear_2 : decode cX4_clear 2 = .ok (.putfield 18, 3) := by decide +kernel
theorem dX4_clear_5 : decode cX4_clear 5 = .ok (.return_, 1) := by decide +kernel
set_option maxRecDepth 20000 in
theorem ggX4_readInto_X1_begin : GoodIn wsX4_readInto wsX1_begin := goodIn_r _ [7, 8, 9, 10, 11, 12, 13, 14, 15, 16, 66, 67, 68, 69, 70, 71, 72, 73, 74, 75, 76, 77, 78, 79] (by decide +kernel) (by decide +kernel)
set_option maxRecDepth 20000 in
theorem gX4_readInto_X1_begin : GoodIn wsX4_readInto (wsV RX4 22 RX1 yX1_begin wsX1_begin) := goodIn_app (goodIn_of _ (by decide +kernel)) ggX4_readInto_X1_begin
set_option maxRecDepth 20000 in
theorem ggX4_readInto_X4_readItem : GoodIn wsX4_readInto wsX4_readItem := goodIn_r _ [21, 1, 22, 23, 24, 25, 20, 26, 2, 27, 28, 29, 30, 31, 32, 33, 34, 35, 36, 37, 38, 39, 40, 6, 41, 8, 42, 43, 9, 44, 45, 46, 47, 48, 49, 50, 10, 51, 52, 53, 11, 54, 55, 56, 57, 12, 13, 14, 15, 58, 59, 60, 61, 16, 62, 63, 64, 65, 66, 67, 68, 69, 70, 71, 72, 73, 74, 75, 76, 77, 78, 79] (by decide +kernel) (by decide +kernel)
set_option maxRecDepth 20000 in
theorem gX4_readInto_X4_readItem : GoodIn wsX4_readInto (wsV RX4 30 RX4 yX4_readItem wsX4_readItem) := goodIn_app (goodIn_of _ (by decide +kernel)) ggX4_readInto_X4_readItem
theorem dX4_readInto_0 : decode cX4_readInto 0 = .ok (.aload_n 1, 1) := by decide +kernel
theorem dX4_readInto_1 : decode cX4_readInto 1 = .ok (.invokevirtual 22, 3) := by decide +kernel
theorem dX4_readInto_4 : decode cX4_readInto 4 = .ok (.aload_n 0, 1) := by decide +kernel
theorem dX4_readInto_5 : decode cX4_readInto 5 = .ok (.iconst 0, 1) := by decide +kernel
theorem dX4_readInto_6 : decode cX4_readInto 6 = .ok (.putfield 27, 3) := by decide +kernel
theorem dX4_readInto_9 : decode cX4_readInto 9 = .ok (.iconst 0, 1) := by decide +kernel
theorem dX4_readInto_10 : decode cX4_readInto 10 = .ok (.istore_n 2, 1) := by decide +kernel
theorem dX4_readInto_11 : decode cX4_readInto 11 = .ok (.iload_n 2, 1) := by decide +kernel
theorem dX4_readInto_12 : decode cX4_readInto 12 = .ok (.sipush 200, 3) := by decide +kernel
theorem dX4_readInto_15 : decode cX4_readInto 15 = .ok (.if_icmp .ge 35, 3) := by decide +kernel
theorem dX4_readInto_18 : decode cX4_readInto 18 = .ok (.aload_n 0, 1) := by decide +kernel
theorem dX4_readInto_19 : decode cX4_readInto 19 = .ok (.getfield 27, 3) := by decide +kernel
theorem dX4_readInto_22 : decode cX4_readInto 22 = .ok (.aload_n 0, 1) := by decide +kernel
theorem dX4_readInto_23 : decode cX4_readInto 23 = .ok (.getfield 18, 3) := by decide +kernel
theorem dX4_readInto_26 : decode cX4_readInto 26 = .ok (.if_icmp .ge 24, 3) := by decide +kernel
theorem dX4_readInto_29 : decode cX4_readInto 29 = .ok (.aload_n 0, 1) := by decide +kernel
theorem dX4_readInto_30 : decode cX4_readInto 30 = .ok (.getfield 27, 3) := by decide +kernel
theorem dX4_readInto_33 : decode cX4_readInto 33 = .ok (.istore_n 3, 1) := by decide +kernel
theorem dX4_readInto_34 : decode cX4_readInto 34 = .ok (.aload_n 0, 1) := by decide +kernel
theorem dX4_readInto_35 : decode cX4_readInto 35 = .ok (.aload_n 1, 1) := by decide +kernel
theorem dX4_readInto_36 : decode cX4_readInto 36 = .ok (.invokevirtual 30, 3) := by decide +kernel
theorem dX4_readInto_39 : decode cX4_readInto 39 = .ok (.ifCond .ne 5, 3) := by decide +kernel
theorem dX4_readInto_42 : decode cX4_readInto 42 = .ok (.iload_n 3, 1) := by decide +kernel
theorem dX4_readInto_43 : decode cX4_readInto 43 = .ok (.ireturn, 1) := by decide +kernel
theorem dX4_readInto_44 : decode cX4_readInto 44 = .ok (.iinc 2 1, 3) := by decide +kernel
theorem dX4_readInto_47 : decode cX4_readInto 47 = .ok (.goto (-36), 3) := by decide +kernel
theorem dX4_readInto_50 : decode cX4_readInto 50 = .ok (.bipush (-4), 2) := by decide +kernel
theorem dX4_readInto_52 : decode cX4_readInto 52 = .ok (.ireturn, 1) := by decide +kernel
set_option maxRecDepth 20000 in
theorem ggX4_readItem_X4_here : GoodIn wsX4_readItem wsX4_here := goodIn_r _ [7, 1, 8, 9, 54, 55, 56, 57] (by decide +kernel) (by decide +kernel)
set_option maxRecDepth 20000 in
theorem gX4_readItem_X4_here : GoodIn wsX4_readItem (wsV RX4 34 RX4 yX4_here wsX4_here) := goodIn_app (goodIn_of _ (by decide +kernel)) ggX4_readItem_X4_here
set_option maxRecDepth 20000 in
theorem ggX4_readItem_X4_numbersBehind : GoodIn wsX4_readItem wsX4_numbersBehind := goodIn_r _ [12] (by decide +kernel) (by decide +kernel)
set_option maxRecDepth 20000 in
theorem gX4_readItem_X4_numbersBehind : GoodIn wsX4_readItem (va_wsS RX4 38 yX4_numbersBehind wsX4_numbersBehind) := goodIn_app (goodIn_of _ (by decide +kernel)) ggX4_readItem_X4_numbersBehind
set_option maxRecDepth 20000 in
theorem ggX4_readItem_X4_readNumber : GoodIn wsX4_readItem wsX4_readNumber := goodIn_r _ [16, 1, 2, 3, 4, 5, 6, 7, 8, 9, 17, 18, 19, 54, 55, 56, 57] (by decide +kernel) (by decide +kernel)
set_option maxRecDepth 20000 in
theorem gX4_readItem_X4_readNumber : GoodIn wsX4_readItem (wsV RX4 42 RX4 yX4_readNumber wsX4_readNumber) := goodIn_app (goodIn_of _ (by decide +kernel)) ggX4_readItem_X4_readNumber
set_option maxRecDepth 20000 in
theorem ggX4_readItem_X1_addDevice : GoodIn wsX4_readItem wsX1_addDevice := goodIn_r _ [24, 25, 26, 27, 28, 29, 30, 31, 58, 59, 60, 61, 62, 63, 64, 65, 66, 67, 68, 69, 70, 71] (by decide +kernel) (by decide +kernel)
set_option maxRecDepth 20000 in
theorem gX4_readItem_X1_addDevice : GoodIn wsX4_readItem (wsV RX4 46 RX1 yX1_addDevice wsX1_addDevice) := goodIn_app (goodIn_of _ (by decide +kernel)) ggX4_readItem_X1_addDevice
set_option maxRecDepth 20000 in
theorem ggX4_readItem_X1_addEffect : GoodIn wsX4_readItem wsX1_addEffect := goodIn_r _ [35, 36, 37, 38, 39, 40, 29, 30, 31, 58, 59, 60, 61, 62, 63, 64, 65, 66, 67, 68, 69, 70, 71] (by decide +kernel) (by decide +kernel)
set_option maxRecDepth 20000 in
theorem gX4_readItem_X1_addEffect : GoodIn wsX4_readItem (wsV RX4 50 RX1 yX1_addEffect wsX1_addEffect) := goodIn_app (goodIn_of _ (by decide +kernel)) ggX4_readItem_X1_addEffect
set_option maxRecDepth 20000 in
theorem ggX4_readItem_X1_setLimits : GoodIn wsX4_readItem wsX1_setLimits := goodIn_r _ [44, 45, 46, 47, 48, 29, 30, 31, 58, 59, 60, 61, 62, 63, 64, 65, 66, 67, 68, 69, 70, 71] (by decide +kernel) (by decide +kernel)
set_option maxRecDepth 20000 in
theorem gX4_readItem_X1_setLimits : GoodIn wsX4_readItem (wsV RX4 54 RX1 yX1_setLimits wsX1_setLimits) := goodIn_app (goodIn_of _ (by decide +kernel)) ggX4_readItem_X1_setLimits
set_option maxRecDepth 20000 in
theorem ggX4_readItem_X1_setPhase : GoodIn wsX4_readItem wsX1_setPhase := goodIn_r _ [52, 53, 29, 30, 31, 58, 59, 60, 61, 62, 63, 64, 65, 66, 67, 68, 69, 70, 71] (by decide +kernel) (by decide +kernel)
set_option maxRecDepth 20000 in
theorem gX4_readItem_X1_setPhase : GoodIn wsX4_readItem (wsV RX4 57 RX1 yX1_setPhase wsX1_setPhase) := goodIn_app (goodIn_of _ (by decide +kernel)) ggX4_readItem_X1_setPhase
theorem dX4_readItem_0 : decode cX4_readItem 0 = .ok (.aload_n 0, 1) := by decide +kernel
theorem dX4_readItem_1 : decode cX4_readItem 1 = .ok (.invokevirtual 34, 3) := by decide +kernel
theorem dX4_readItem_4 : decode cX4_readItem 4 = .ok (.istore_n 2, 1) := by decide +kernel
theorem dX4_readItem_5 : decode cX4_readItem 5 = .ok (.aload_n 0, 1) := by decide +kernel
theorem dX4_readItem_6 : decode cX4_readItem 6 = .ok (.dup, 1) := by decide +kernel
theorem dX4_readItem_7 : decode cX4_readItem 7 = .ok (.getfield 27, 3) := by decide +kernel
theorem dX4_readItem_10 : decode cX4_readItem 10 = .ok (.iconst 1, 1) := by decide +kernel
theorem dX4_readItem_11 : decode cX4_readItem 11 = .ok (.iadd, 1) := by decide +kernel
theorem dX4_readItem_12 : decode cX4_readItem 12 = .ok (.putfield 27, 3) := by decide +kernel
theorem dX4_readItem_15 : decode cX4_readItem 15 = .ok (.iload_n 2, 1) := by decide +kernel
theorem dX4_readItem_16 : decode cX4_readItem 16 = .ok (.invokestatic 38, 3) := by decide +kernel
theorem dX4_readItem_19 : decode cX4_readItem 19 = .ok (.istore_n 3, 1) := by decide +kernel
theorem dX4_readItem_20 : decode cX4_readItem 20 = .ok (.iload_n 3, 1) := by decide +kernel
theorem dX4_readItem_21 : decode cX4_readItem 21 = .ok (.ifCond .ne 5, 3) := by decide +kernel
theorem dX4_readItem_24 : decode cX4_readItem 24 = .ok (.iconst 0, 1) := by decide +kernel
theorem dX4_readItem_25 : decode cX4_readItem 25 = .ok (.ireturn, 1) := by decide +kernel
theorem dX4_readItem_26 : decode cX4_readItem 26 = .ok (.iconst 0, 1) := by decide +kernel
theorem dX4_readItem_27 : decode cX4_readItem 27 = .ok (.istore 4, 2) := by decide +kernel
theorem dX4_readItem_29 : decode cX4_readItem 29 = .ok (.iload 4, 2) := by decide +kernel
theorem dX4_readItem_31 : decode cX4_readItem 31 = .ok (.iload_n 3, 1) := by decide +kernel
theorem dX4_readItem_32 : decode cX4_readItem 32 = .ok (.if_icmp .ge 58, 3) := by decide +kernel
theorem dX4_readItem_35 : decode cX4_readItem 35 = .ok (.iload 4, 2) := by decide +kernel
theorem dX4_readItem_37 : decode cX4_readItem 37 = .ok (.iconst 4, 1) := by decide +kernel
theorem dX4_readItem_38 : decode cX4_readItem 38 = .ok (.if_icmp .ge 52, 3) := by decide +kernel
theorem dX4_readItem_41 : decode cX4_readItem 41 = .ok (.aload_n 0, 1) := by decide +kernel
theorem dX4_readItem_42 : decode cX4_readItem 42 = .ok (.iload 4, 2) := by decide +kernel
theorem dX4_readItem_44 : decode cX4_readItem 44 = .ok (.invokevirtual 42, 3) := by decide +kernel
theorem dX4_readItem_47 : decode cX4_readItem 47 = .ok (.ifCond .eq 25, 3) := by decide +kernel
theorem dX4_readItem_50 : decode cX4_readItem 50 = .ok (.aload_n 0, 1) := by decide +kernel
theorem dX4_readItem_51 : decode cX4_readItem 51 = .ok (.invokevirtual 34, 3) := by decide +kernel
theorem dX4_readItem_54 : decode cX4_readItem 54 = .ok (.iload 4, 2) := by decide +kernel
theorem dX4_readItem_56 : decode cX4_readItem 56 = .ok (.iload_n 3, 1) := by decide +kernel
theorem dX4_readItem_57 : decode cX4_readItem 57 = .ok (.iconst 1, 1) := by decide +kernel
theorem dX4_readItem_58 : decode cX4_readItem 58 = .ok (.isub, 1) := by decide +kernel
theorem dX4_readItem_59 : decode cX4_readItem 59 = .ok (.if_icmp .ne 8, 3) := by decide +kernel
theorem dX4_readItem_62 : decode cX4_readItem 62 = .ok (.bipush 59, 2) := by decide +kernel
theorem dX4_readItem_64 : decode cX4_readItem 64 = .ok (.goto 5, 3) := by decide +kernel
theorem dX4_readItem_67 : decode cX4_readItem 67 = .ok (.bipush 44, 2) := by decide +kernel
theorem dX4_readItem_69 : decode cX4_readItem 69 = .ok (.if_icmp .eq 5, 3) := by decide +kernel
theorem dX4_readItem_72 : decode cX4_readItem 72 = .ok (.iconst 0, 1) := by decide +kernel
theorem dX4_readItem_73 : decode cX4_readItem 73 = .ok (.ireturn, 1) := by decide +kernel
theorem dX4_readItem_74 : decode cX4_readItem 74 = .ok (.aload_n 0, 1) := by decide +kernel
theorem dX4_readItem_75 : decode cX4_readItem 75 = .ok (.dup, 1) := by decide +kernel
theorem dX4_readItem_76 : decode cX4_readItem 76 = .ok (.getfield 27, 3) := by decide +kernel
theorem dX4_readItem_79 : decode cX4_readItem 79 = .ok (.iconst 1, 1) := by decide +kernel
theorem dX4_readItem_80 : decode cX4_readItem 80 = .ok (.iadd, 1) := by decide +kernel
theorem dX4_readItem_81 : decode cX4_readItem 81 = .ok (.putfield 27, 3) := by decide +kernel
theorem dX4_readItem_84 : decode cX4_readItem 84 = .ok (.iinc 4 1, 3) := by decide +kernel
theorem dX4_readItem_87 : decode cX4_readItem 87 = .ok (.goto (-58), 3) := by decide +kernel
theorem dX4_readItem_90 : decode cX4_readItem 90 = .ok (.iload_n 2, 1) := by decide +kernel
theorem dX4_readItem_91 : decode cX4_readItem 91 = .ok (.lookupswitch 114 #[(100, 33), (101, 56), (116, 85)], 33) := by decide +kernel
theorem dX4_readItem_124 : decode cX4_readItem 124 = .ok (.aload_n 1, 1) := by decide +kernel
theorem dX4_readItem_125 : decode cX4_readItem 125 = .ok (.aload_n 0, 1) := by decide +kernel
theorem dX4_readItem_126 : decode cX4_readItem 126 = .ok (.getfield 15, 3) := by decide +kernel
theorem dX4_readItem_129 : decode cX4_readItem 129 = .ok (.iconst 0, 1) := by decide +kernel
theorem dX4_readItem_130 : decode cX4_readItem 130 = .ok (.iaload, 1) := by decide +kernel
theorem dX4_readItem_131 : decode cX4_readItem 131 = .ok (.aload_n 0, 1) := by decide +kernel
theorem dX4_readItem_132 : decode cX4_readItem 132 = .ok (.getfield 15, 3) := by decide +kernel
theorem dX4_readItem_135 : decode cX4_readItem 135 = .ok (.iconst 1, 1) := by decide +kernel
theorem dX4_readItem_136 : decode cX4_readItem 136 = .ok (.iaload, 1) := by decide +kernel
theorem dX4_readItem_137 : decode cX4_readItem 137 = .ok (.aload_n 0, 1) := by decide +kernel
theorem dX4_readItem_138 : decode cX4_readItem 138 = .ok (.getfield 15, 3) := by decide +kernel
theorem dX4_readItem_141 : decode cX4_readItem 141 = .ok (.iconst 2, 1) := by decide +kernel
theorem dX4_readItem_142 : decode cX4_readItem 142 = .ok (.iaload, 1) := by decide +kernel
theorem dX4_readItem_143 : decode cX4_readItem 143 = .ok (.invokevirtual 46, 3) := by decide +kernel
theorem dX4_readItem_146 : decode cX4_readItem 146 = .ok (.ireturn, 1) := by decide +kernel
theorem dX4_readItem_147 : decode cX4_readItem 147 = .ok (.aload_n 1, 1) := by decide +kernel
theorem dX4_readItem_148 : decode cX4_readItem 148 = .ok (.aload_n 0, 1) := by decide +kernel
theorem dX4_readItem_149 : decode cX4_readItem 149 = .ok (.getfield 15, 3) := by decide +kernel
theorem dX4_readItem_152 : decode cX4_readItem 152 = .ok (.iconst 0, 1) := by decide +kernel
theorem dX4_readItem_153 : decode cX4_readItem 153 = .ok (.iaload, 1) := by decide +kernel
theorem dX4_readItem_154 : decode cX4_readItem 154 = .ok (.aload_n 0, 1) := by decide +kernel
theorem dX4_readItem_155 : decode cX4_readItem 155 = .ok (.getfield 15, 3) := by decide +kernel
theorem dX4_readItem_158 : decode cX4_readItem 158 = .ok (.iconst 1, 1) := by decide +kernel
theorem dX4_readItem_159 : decode cX4_readItem 159 = .ok (.iaload, 1) := by decide +kernel
theorem dX4_readItem_160 : decode cX4_readItem 160 = .ok (.aload_n 0, 1) := by decide +kernel
theorem dX4_readItem_161 : decode cX4_readItem 161 = .ok (.getfield 15, 3) := by decide +kernel
theorem dX4_readItem_164 : decode cX4_readItem 164 = .ok (.iconst 2, 1) := by decide +kernel
theorem dX4_readItem_165 : decode cX4_readItem 165 = .ok (.iaload, 1) := by decide +kernel
theorem dX4_readItem_166 : decode cX4_readItem 166 = .ok (.aload_n 0, 1) := by decide +kernel
theorem dX4_readItem_167 : decode cX4_readItem 167 = .ok (.getfield 15, 3) := by decide +kernel
theorem dX4_readItem_170 : decode cX4_readItem 170 = .ok (.iconst 3, 1) := by decide +kernel
theorem dX4_readItem_171 : decode cX4_readItem 171 = .ok (.iaload, 1) := by decide +kernel
theorem dX4_readItem_172 : decode cX4_readItem 172 = .ok (.invokevirtual 50, 3) := by decide +kernel
theorem dX4_readItem_175 : decode cX4_readItem 175 = .ok (.ireturn, 1) := by decide +kernel
theorem dX4_readItem_176 : decode cX4_readItem 176 = .ok (.aload_n 1, 1) := by decide +kernel
theorem dX4_readItem_177 : decode cX4_readItem 177 = .ok (.aload_n 0, 1) := by decide +kernel
theorem dX4_readItem_178 : decode cX4_readItem 178 = .ok (.getfield 15, 3) := by decide +kernel
theorem dX4_readItem_181 : decode cX4_readItem 181 = .ok (.iconst 0, 1) := by decide +kernel
theorem dX4_readItem_182 : decode cX4_readItem 182 = .ok (.iaload, 1) := by decide +kernel
theorem dX4_readItem_183 : decode cX4_readItem 183 = .ok (.aload_n 0, 1) := by decide +kernel
theorem dX4_readItem_184 : decode cX4_readItem 184 = .ok (.getfield 15, 3) := by decide +kernel
theorem dX4_readItem_187 : decode cX4_readItem 187 = .ok (.iconst 1, 1) := by decide +kernel
theorem dX4_readItem_188 : decode cX4_readItem 188 = .ok (.iaload, 1) := by decide +kernel
theorem dX4_readItem_189 : decode cX4_readItem 189 = .ok (.aload_n 0, 1) := by decide +kernel
theorem dX4_readItem_190 : decode cX4_readItem 190 = .ok (.getfield 15, 3) := by decide +kernel
theorem dX4_readItem_193 : decode cX4_readItem 193 = .ok (.iconst 2, 1) := by decide +kernel
theorem dX4_readItem_194 : decode cX4_readItem 194 = .ok (.iaload, 1) := by decide +kernel
theorem dX4_readItem_195 : decode cX4_readItem 195 = .ok (.aload_n 0, 1) := by decide +kernel
theorem dX4_readItem_196 : decode cX4_readItem 196 = .ok (.getfield 15, 3) := by decide +kernel
theorem dX4_readItem_199 : decode cX4_readItem 199 = .ok (.iconst 3, 1) := by decide +kernel
theorem dX4_readItem_200 : decode cX4_readItem 200 = .ok (.iaload, 1) := by decide +kernel
theorem dX4_readItem_201 : decode cX4_readItem 201 = .ok (.invokevirtual 54, 3) := by decide +kernel
theorem dX4_readItem_204 : decode cX4_readItem 204 = .ok (.ireturn, 1) := by decide +kernel
theorem dX4_readItem_205 : decode cX4_readItem 205 = .ok (.aload_n 1, 1) := by decide +kernel
theorem dX4_readItem_206 : decode cX4_readItem 206 = .ok (.aload_n 0, 1) := by decide +kernel
theorem dX4_readItem_207 : decode cX4_readItem 207 = .ok (.getfield 15, 3) := by decide +kernel
theorem dX4_readItem_210 : decode cX4_readItem 210 = .ok (.iconst 0, 1) := by decide +kernel
theorem dX4_readItem_211 : decode cX4_readItem 211 = .ok (.iaload, 1) := by decide +kernel
theorem dX4_readItem_212 : decode cX4_readItem 212 = .ok (.invokevirtual 57, 3) := by decide +kernel
theorem dX4_readItem_215 : decode cX4_readItem 215 = .ok (.ireturn, 1) := by decide +kernel
theorem dX4_numbersBehind_0 : decode cX4_numbersBehind 0 = .ok (.iload_n 0, 1) := by decide +kernel
theorem dX4_numbersBehind_1 : decode cX4_numbersBehind 1 = .ok (.lookupswitch 51 #[(100, 43), (101, 45), (116, 47), (118, 49)], 43) := by decide +kernel
theorem dX4_numbersBehind_44 : decode cX4_numbersBehind 44 = .ok (.iconst 3, 1) := by decide +kernel
theorem dX4_numbersBehind_45 : decode cX4_numbersBehind 45 = .ok (.ireturn, 1) := by decide +kernel
theorem dX4_numbersBehind_46 : decode cX4_numbersBehind 46 = .ok (.iconst 4, 1) := by decide +kernel
theorem dX4_numbersBehind_47 : decode cX4_numbersBehind 47 = .ok (.ireturn, 1) := by decide +kernel
theorem dX4_numbersBehind_48 : decode cX4_numbersBehind 48 = .ok (.iconst 4, 1) := by decide +kernel
theorem dX4_numbersBehind_49 : decode cX4_numbersBehind 49 = .ok (.ireturn, 1) := by decide +kernel
theorem dX4_numbersBehind_50 : decode cX4_numbersBehind 50 = .ok (.iconst 1, 1) := by decide +kernel
theorem dX4_numbersBehind_51 : decode cX4_numbersBehind 51 = .ok (.ireturn, 1) := by decide +kernel
theorem dX4_numbersBehind_52 : decode cX4_numbersBehind 52 = .ok (.iconst 0, 1) := by decide +kernel
theorem dX4_numbersBehind_53 : decode cX4_numbersBehind 53 = .ok (.ireturn, 1) := by decide +kernel
set_option maxRecDepth 20000 in
theorem ggX4_readNumber_X4_here : GoodIn wsX4_readNumber wsX4_here := goodIn_r _ [7, 1, 8, 9, 13, 14, 15, 16] (by decide +kernel) (by decide +kernel)
set_option maxRecDepth 20000 in
theorem gX4_readNumber_X4_here : GoodIn wsX4_readNumber (wsV RX4 34 RX4 yX4_here wsX4_here) := goodIn_app (goodIn_of _ (by decide +kernel)) ggX4_readNumber_X4_here
set_option maxRecDepth 20000 in
theorem ggX4_readNumber_X4_isFigure : GoodIn wsX4_readNumber wsX4_isFigure := goodIn_r _ [12] (by decide +kernel) (by decide +kernel)
set_option maxRecDepth 20000 in
theorem gX4_readNumber_X4_isFigure : GoodIn wsX4_readNumber (va_wsS RX4 60 yX4_isFigure wsX4_isFigure) := goodIn_app (goodIn_of _ (by decide +kernel)) ggX4_readNumber_X4_isFigure
theorem dX4_readNumber_0 : decode cX4_readNumber 0 = .ok (.aload_n 0, 1) := by decide +kernel
theorem dX4_readNumber_1 : decode cX4_readNumber 1 = .ok (.invokevirtual 34, 3) := by decide +kernel
theorem dX4_readNumber_4 : decode cX4_readNumber 4 = .ok (.invokestatic 60, 3) := by decide +kernel
theorem dX4_readNumber_7 : decode cX4_readNumber 7 = .ok (.ifCond .ne 5, 3) := by decide +kernel
theorem dX4_readNumber_10 : decode cX4_readNumber 10 = .ok (.iconst 0, 1) := by decide +kernel
theorem dX4_readNumber_11 : decode cX4_readNumber 11 = .ok (.ireturn, 1) := by decide +kernel
theorem dX4_readNumber_12 : decode cX4_readNumber 12 = .ok (.aload_n 0, 1) := by decide +kernel
theorem dX4_readNumber_13 : decode cX4_readNumber 13 = .ok (.invokevirtual 34, 3) := by decide +kernel
theorem dX4_readNumber_16 : decode cX4_readNumber 16 = .ok (.bipush 48, 2) := by decide +kernel
theorem dX4_readNumber_18 : decode cX4_readNumber 18 = .ok (.isub, 1) := by decide +kernel
theorem dX4_readNumber_19 : decode cX4_readNumber 19 = .ok (.istore_n 2, 1) := by decide +kernel
theorem dX4_readNumber_20 : decode cX4_readNumber 20 = .ok (.aload_n 0, 1) := by decide +kernel
theorem dX4_readNumber_21 : decode cX4_readNumber 21 = .ok (.dup, 1) := by decide +kernel
theorem dX4_readNumber_22 : decode cX4_readNumber 22 = .ok (.getfield 27, 3) := by decide +kernel
theorem dX4_readNumber_25 : decode cX4_readNumber 25 = .ok (.iconst 1, 1) := by decide +kernel
theorem dX4_readNumber_26 : decode cX4_readNumber 26 = .ok (.iadd, 1) := by decide +kernel
theorem dX4_readNumber_27 : decode cX4_readNumber 27 = .ok (.putfield 27, 3) := by decide +kernel
theorem dX4_readNumber_30 : decode cX4_readNumber 30 = .ok (.aload_n 0, 1) := by decide +kernel
theorem dX4_readNumber_31 : decode cX4_readNumber 31 = .ok (.invokevirtual 34, 3) := by decide +kernel
theorem dX4_readNumber_34 : decode cX4_readNumber 34 = .ok (.invokestatic 60, 3) := by decide +kernel
theorem dX4_readNumber_37 : decode cX4_readNumber 37 = .ok (.ifCond .eq 26, 3) := by decide +kernel
theorem dX4_readNumber_40 : decode cX4_readNumber 40 = .ok (.iload_n 2, 1) := by decide +kernel
theorem dX4_readNumber_41 : decode cX4_readNumber 41 = .ok (.bipush 10, 2) := by decide +kernel
theorem dX4_readNumber_43 : decode cX4_readNumber 43 = .ok (.imul, 1) := by decide +kernel
theorem dX4_readNumber_44 : decode cX4_readNumber 44 = .ok (.aload_n 0, 1) := by decide +kernel
theorem dX4_readNumber_45 : decode cX4_readNumber 45 = .ok (.invokevirtual 34, 3) := by decide +kernel
theorem dX4_readNumber_48 : decode cX4_readNumber 48 = .ok (.iadd, 1) := by decide +kernel
theorem dX4_readNumber_49 : decode cX4_readNumber 49 = .ok (.bipush 48, 2) := by decide +kernel
theorem dX4_readNumber_51 : decode cX4_readNumber 51 = .ok (.isub, 1) := by decide +kernel
theorem dX4_readNumber_52 : decode cX4_readNumber 52 = .ok (.istore_n 2, 1) := by decide +kernel
theorem dX4_readNumber_53 : decode cX4_readNumber 53 = .ok (.aload_n 0, 1) := by decide +kernel
theorem dX4_readNumber_54 : decode cX4_readNumber 54 = .ok (.dup, 1) := by decide +kernel
theorem dX4_readNumber_55 : decode cX4_readNumber 55 = .ok (.getfield 27, 3) := by decide +kernel
theorem dX4_readNumber_58 : decode cX4_readNumber 58 = .ok (.iconst 1, 1) := by decide +kernel
