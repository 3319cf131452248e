set_option maxRecDepth 20000 in
theorem ggX0_init_X3_init : GoodIn wsX0_init wsX3_init := goodIn_r _ [10, 11, 2, 3, 12, 13, 14, 15, 16, 17, 18, 21, 22, 23, 24, 25, 26, 27, 28, 29, 30, 31, 32] (by decide +kernel) (by decide +kernel)
set_option maxRecDepth 20000 in
theorem gX0_init_X3_init : GoodIn wsX0_init (wsX3_init) := ggX0_init_X3_init
theorem dX0_init_0 : decode cX0_init 0 = .ok (.aload_n 0, 1) := by decide +kernel
theorem dX0_init_1 : decode cX0_init 1 = .ok (.invokespecial 1, 3) := by decide +kernel
theorem dX0_init_4 : decode cX0_init 4 = .ok (.aload_n 0, 1) := by decide +kernel
theorem dX0_init_5 : decode cX0_init 5 = .ok (.bipush 6, 2) := by decide +kernel
theorem dX0_init_7 : decode cX0_init 7 = .ok (.anewarray 9, 3) := by decide +kernel
theorem dX0_init_10 : decode cX0_init 10 = .ok (.putfield 11, 3) := by decide +kernel
theorem dX0_init_13 : decode cX0_init 13 = .ok (.iconst 0, 1) := by decide +kernel
theorem dX0_init_14 : decode cX0_init 14 = .ok (.istore_n 1, 1) := by decide +kernel
theorem dX0_init_15 : decode cX0_init 15 = .ok (.iload_n 1, 1) := by decide +kernel
theorem dX0_init_16 : decode cX0_init 16 = .ok (.bipush 6, 2) := by decide +kernel
theorem dX0_init_18 : decode cX0_init 18 = .ok (.if_icmp .ge 22, 3) := by decide +kernel
theorem dX0_init_21 : decode cX0_init 21 = .ok (.aload_n 0, 1) := by decide +kernel
theorem dX0_init_22 : decode cX0_init 22 = .ok (.getfield 11, 3) := by decide +kernel
theorem dX0_init_25 : decode cX0_init 25 = .ok (.iload_n 1, 1) := by decide +kernel
theorem dX0_init_26 : decode cX0_init 26 = .ok (.new 9, 3) := by decide +kernel
theorem dX0_init_29 : decode cX0_init 29 = .ok (.dup, 1) := by decide +kernel
theorem dX0_init_30 : decode cX0_init 30 = .ok (.invokespecial 15, 3) := by decide +kernel
theorem dX0_init_33 : decode cX0_init 33 = .ok (.aastore, 1) := by decide +kernel
theorem dX0_init_34 : decode cX0_init 34 = .ok (.iinc 1 1, 3) := by decide +kernel
theorem dX0_init_37 : decode cX0_init 37 = .ok (.goto (-22), 3) := by decide +kernel
theorem dX0_init_40 : decode cX0_init 40 = .ok (.return_, 1) := by decide +kernel
theorem dX0_forget_0 : decode cX0_forget 0 = .ok (.aload_n 0, 1) := by decide +kernel
theorem dX0_forget_1 : decode cX0_forget 1 = .ok (.iconst 0, 1) := by decide +kernel
theorem dX0_forget_2 : decode cX0_forget 2 = .ok (.putfield 16, 3) := by decide +kernel
theorem dX0_forget_5 : decode cX0_forget 5 = .ok (.return_, 1) := by decide +kernel
set_option maxRecDepth 20000 in
theorem ggX0_keep_X3_copy : GoodIn wsX0_keep wsX3_copy := goodIn_r _ [11, 12, 13, 14, 15, 16, 17, 18, 19, 20, 21, 22, 23, 24, 25, 26, 27, 30, 31, 32, 33, 34, 35, 36, 37, 38, 39, 40, 41] (by decide +kernel) (by decide +kernel)
set_option maxRecDepth 20000 in
theorem gX0_keep_X3_copy : GoodIn wsX0_keep (wsV RX0 20 RX3 yX3_copy wsX3_copy) := goodIn_app (goodIn_of _ (by decide +kernel)) ggX0_keep_X3_copy
theorem dX0_keep_0 : decode cX0_keep 0 = .ok (.aload_n 0, 1) := by decide +kernel
theorem dX0_keep_1 : decode cX0_keep 1 = .ok (.getfield 11, 3) := by decide +kernel
theorem dX0_keep_4 : decode cX0_keep 4 = .ok (.iconst 5, 1) := by decide +kernel
theorem dX0_keep_5 : decode cX0_keep 5 = .ok (.aaload, 1) := by decide +kernel
theorem dX0_keep_6 : decode cX0_keep 6 = .ok (.astore_n 2, 1) := by decide +kernel
theorem dX0_keep_7 : decode cX0_keep 7 = .ok (.iconst 5, 1) := by decide +kernel
theorem dX0_keep_8 : decode cX0_keep 8 = .ok (.istore_n 3, 1) := by decide +kernel
theorem dX0_keep_9 : decode cX0_keep 9 = .ok (.iload_n 3, 1) := by decide +kernel
theorem dX0_keep_10 : decode cX0_keep 10 = .ok (.ifCond .le 23, 3) := by decide +kernel
theorem dX0_keep_13 : decode cX0_keep 13 = .ok (.aload_n 0, 1) := by decide +kernel
theorem dX0_keep_14 : decode cX0_keep 14 = .ok (.getfield 11, 3) := by decide +kernel
theorem dX0_keep_17 : decode cX0_keep 17 = .ok (.iload_n 3, 1) := by decide +kernel
theorem dX0_keep_18 : decode cX0_keep 18 = .ok (.aload_n 0, 1) := by decide +kernel
theorem dX0_keep_19 : decode cX0_keep 19 = .ok (.getfield 11, 3) := by decide +kernel
theorem dX0_keep_22 : decode cX0_keep 22 = .ok (.iload_n 3, 1) := by decide +kernel
theorem dX0_keep_23 : decode cX0_keep 23 = .ok (.iconst 1, 1) := by decide +kernel
theorem dX0_keep_24 : decode cX0_keep 24 = .ok (.isub, 1) := by decide +kernel
theorem dX0_keep_25 : decode cX0_keep 25 = .ok (.aaload, 1) := by decide +kernel
theorem dX0_keep_26 : decode cX0_keep 26 = .ok (.aastore, 1) := by decide +kernel
theorem dX0_keep_27 : decode cX0_keep 27 = .ok (.iinc 3 (-1), 3) := by decide +kernel
theorem dX0_keep_30 : decode cX0_keep 30 = .ok (.goto (-21), 3) := by decide +kernel
theorem dX0_keep_33 : decode cX0_keep 33 = .ok (.aload_n 2, 1) := by decide +kernel
theorem dX0_keep_34 : decode cX0_keep 34 = .ok (.aload_n 1, 1) := by decide +kernel
theorem dX0_keep_35 : decode cX0_keep 35 = .ok (.invokevirtual 20, 3) := by decide +kernel
theorem dX0_keep_38 : decode cX0_keep 38 = .ok (.aload_n 0, 1) := by decide +kernel
theorem dX0_keep_39 : decode cX0_keep 39 = .ok (.getfield 11, 3) := by decide +kernel
theorem dX0_keep_42 : decode cX0_keep 42 = .ok (.iconst 0, 1) := by decide +kernel
theorem dX0_keep_43 : decode cX0_keep 43 = .ok (.aload_n 2, 1) := by decide +kernel
theorem dX0_keep_44 : decode cX0_keep 44 = .ok (.aastore, 1) := by decide +kernel
theorem dX0_keep_45 : decode cX0_keep 45 = .ok (.aload_n 0, 1) := by decide +kernel
theorem dX0_keep_46 : decode cX0_keep 46 = .ok (.aload_n 0, 1) := by decide +kernel
theorem dX0_keep_47 : decode cX0_keep 47 = .ok (.getfield 16, 3) := by decide +kernel
theorem dX0_keep_50 : decode cX0_keep 50 = .ok (.iconst 1, 1) := by decide +kernel
theorem dX0_keep_51 : decode cX0_keep 51 = .ok (.iadd, 1) := by decide +kernel
theorem dX0_keep_52 : decode cX0_keep 52 = .ok (.bipush 6, 2) := by decide +kernel
theorem dX0_keep_54 : decode cX0_keep 54 = .ok (.invokestatic 24, 3) := by decide +kernel
theorem dX0_keep_57 : decode cX0_keep 57 = .ok (.putfield 16, 3) := by decide +kernel
theorem dX0_keep_60 : decode cX0_keep 60 = .ok (.return_, 1) := by decide +kernel
theorem dX0_takeBack_0 : decode cX0_takeBack 0 = .ok (.aload_n 0, 1) := by decide +kernel
theorem dX0_takeBack_1 : decode cX0_takeBack 1 = .ok (.getfield 11, 3) := by decide +kernel
theorem dX0_takeBack_4 : decode cX0_takeBack 4 = .ok (.iconst 0, 1) := by decide +kernel
theorem dX0_takeBack_5 : decode cX0_takeBack 5 = .ok (.aaload, 1) := by decide +kernel
theorem dX0_takeBack_6 : decode cX0_takeBack 6 = .ok (.astore_n 2, 1) := by decide +kernel
theorem dX0_takeBack_7 : decode cX0_takeBack 7 = .ok (.iconst 0, 1) := by decide +kernel
theorem dX0_takeBack_8 : decode cX0_takeBack 8 = .ok (.istore_n 3, 1) := by decide +kernel
theorem dX0_takeBack_9 : decode cX0_takeBack 9 = .ok (.iload_n 3, 1) := by decide +kernel
theorem dX0_takeBack_10 : decode cX0_takeBack 10 = .ok (.iconst 5, 1) := by decide +kernel
theorem dX0_takeBack_11 : decode cX0_takeBack 11 = .ok (.if_icmp .ge 23, 3) := by decide +kernel
theorem dX0_takeBack_14 : decode cX0_takeBack 14 = .ok (.aload_n 0, 1) := by decide +kernel
theorem dX0_takeBack_15 : decode cX0_takeBack 15 = .ok (.getfield 11, 3) := by decide +kernel
theorem dX0_takeBack_18 : decode cX0_takeBack 18 = .ok (.iload_n 3, 1) := by decide +kernel
theorem dX0_takeBack_19 : decode cX0_takeBack 19 = .ok (.aload_n 0, 1) := by decide +kernel
theorem dX0_takeBack_20 : decode cX0_takeBack 20 = .ok (.getfield 11, 3) := by decide +kernel
theorem dX0_takeBack_23 : decode cX0_takeBack 23 = .ok (.iload_n 3, 1) := by decide +kernel
theorem dX0_takeBack_24 : decode cX0_takeBack 24 = .ok (.iconst 1, 1) := by decide +kernel
theorem dX0_takeBack_25 : decode cX0_takeBack 25 = .ok (.iadd, 1) := by decide +kernel
theorem dX0_takeBack_26 : decode cX0_takeBack 26 = .ok (.aaload, 1) := by decide +kernel
theorem dX0_takeBack_27 : decode cX0_takeBack 27 = .ok (.aastore, 1) := by decide +kernel
theorem dX0_takeBack_28 : decode cX0_takeBack 28 = .ok (.iinc 3 1, 3) := by decide +kernel
theorem dX0_takeBack_31 : decode cX0_takeBack 31 = .ok (.goto (-22), 3) := by decide +kernel
theorem dX0_takeBack_34 : decode cX0_takeBack 34 = .ok (.aload_n 0, 1) := by decide +kernel
theorem dX0_takeBack_35 : decode cX0_takeBack 35 = .ok (.getfield 11, 3) := by decide +kernel
theorem dX0_takeBack_38 : decode cX0_takeBack 38 = .ok (.iconst 5, 1) := by decide +kernel
theorem dX0_takeBack_39 : decode cX0_takeBack 39 = .ok (.aload_n 1, 1) := by decide +kernel
theorem dX0_takeBack_40 : decode cX0_takeBack 40 = .ok (.aastore, 1) := by decide +kernel
theorem dX0_takeBack_41 : decode cX0_takeBack 41 = .ok (.aload_n 0, 1) := by decide +kernel
theorem dX0_takeBack_42 : decode cX0_takeBack 42 = .ok (.aload_n 0, 1) := by decide +kernel
theorem dX0_takeBack_43 : decode cX0_takeBack 43 = .ok (.getfield 16, 3) := by decide +kernel
theorem dX0_takeBack_46 : decode cX0_takeBack 46 = .ok (.iconst 1, 1) := by decide +kernel
theorem dX0_takeBack_47 : decode cX0_takeBack 47 = .ok (.isub, 1) := by decide +kernel
theorem dX0_takeBack_48 : decode cX0_takeBack 48 = .ok (.iconst 0, 1) := by decide +kernel
theorem dX0_takeBack_49 : decode cX0_takeBack 49 = .ok (.invokestatic 30, 3) := by decide +kernel
theorem dX0_takeBack_52 : decode cX0_takeBack 52 = .ok (.putfield 16, 3) := by decide +kernel
theorem dX0_takeBack_55 : decode cX0_takeBack 55 = .ok (.aload_n 2, 1) := by decide +kernel
theorem dX0_takeBack_56 : decode cX0_takeBack 56 = .ok (.areturn, 1) := by decide +kernel
theorem dX1_init_0 : decode cX1_init 0 = .ok (.aload_n 0, 1) := by decide +kernel
theorem dX1_init_1 : decode cX1_init 1 = .ok (.invokespecial 3, 3) := by decide +kernel
theorem dX1_init_4 : decode cX1_init 4 = .ok (.aload_n 0, 1) := by decide +kernel
theorem dX1_init_5 : decode cX1_init 5 = .ok (.bipush 12, 2) := by decide +kernel
theorem dX1_init_7 : decode cX1_init 7 = .ok (.newarray .int, 2) := by decide +kernel
theorem dX1_init_9 : decode cX1_init 9 = .ok (.putfield 9, 3) := by decide +kernel
theorem dX1_init_12 : decode cX1_init 12 = .ok (.aload_n 0, 1) := by decide +kernel
theorem dX1_init_13 : decode cX1_init 13 = .ok (.bipush 12, 2) := by decide +kernel
theorem dX1_init_15 : decode cX1_init 15 = .ok (.newarray .int, 2) := by decide +kernel
theorem dX1_init_17 : decode cX1_init 17 = .ok (.putfield 15, 3) := by decide +kernel
theorem dX1_init_20 : decode cX1_init 20 = .ok (.aload_n 0, 1) := by decide +kernel
theorem dX1_init_21 : decode cX1_init 21 = .ok (.bipush 6, 2) := by decide +kernel
theorem dX1_init_23 : decode cX1_init 23 = .ok (.newarray .int, 2) := by decide +kernel
theorem dX1_init_25 : decode cX1_init 25 = .ok (.putfield 18, 3) := by decide +kernel
theorem dX1_init_28 : decode cX1_init 28 = .ok (.aload_n 0, 1) := by decide +kernel
theorem dX1_init_29 : decode cX1_init 29 = .ok (.bipush 6, 2) := by decide +kernel
theorem dX1_init_31 : decode cX1_init 31 = .ok (.newarray .int, 2) := by decide +kernel
theorem dX1_init_33 : decode cX1_init 33 = .ok (.putfield 21, 3) := by decide +kernel
theorem dX1_init_36 : decode cX1_init 36 = .ok (.aload_n 0, 1) := by decide +kernel
theorem dX1_init_37 : decode cX1_init 37 = .ok (.bipush 6, 2) := by decide +kernel
theorem dX1_init_39 : decode cX1_init 39 = .ok (.newarray .int, 2) := by decide +kernel
theorem dX1_init_41 : decode cX1_init 41 = .ok (.putfield 24, 3) := by decide +kernel
theorem dX1_init_44 : decode cX1_init 44 = .ok (.return_, 1) := by decide +kernel
theorem dX1_begin_0 : decode cX1_begin 0 = .ok (.aload_n 0, 1) := by decide +kernel
theorem dX1_begin_1 : decode cX1_begin 1 = .ok (.iconst 0, 1) := by decide +kernel
theorem dX1_begin_2 : decode cX1_begin 2 = .ok (.putfield 27, 3) := by decide +kernel
theorem dX1_begin_5 : decode cX1_begin 5 = .ok (.aload_n 0, 1) := by decide +kernel
theorem dX1_begin_6 : decode cX1_begin 6 = .ok (.iconst 0, 1) := by decide +kernel
theorem dX1_begin_7 : decode cX1_begin 7 = .ok (.putfield 31, 3) := by decide +kernel
theorem dX1_begin_10 : decode cX1_begin 10 = .ok (.aload_n 0, 1) := by decide +kernel
theorem dX1_begin_11 : decode cX1_begin 11 = .ok (.iconst 0, 1) := by decide +kernel
theorem dX1_begin_12 : decode cX1_begin 12 = .ok (.putfield 34, 3) := by decide +kernel
theorem dX1_begin_15 : decode cX1_begin 15 = .ok (.aload_n 0, 1) := by decide +kernel
theorem dX1_begin_16 : decode cX1_begin 16 = .ok (.iconst 0, 1) := by decide +kernel
theorem dX1_begin_17 : decode cX1_begin 17 = .ok (.putfield 37, 3) := by decide +kernel
theorem dX1_begin_20 : decode cX1_begin 20 = .ok (.aload_n 0, 1) := by decide +kernel
theorem dX1_begin_21 : decode cX1_begin 21 = .ok (.bipush 30, 2) := by decide +kernel
theorem dX1_begin_23 : decode cX1_begin 23 = .ok (.putfield 40, 3) := by decide +kernel
theorem dX1_begin_26 : decode cX1_begin 26 = .ok (.aload_n 0, 1) := by decide +kernel
theorem dX1_begin_27 : decode cX1_begin 27 = .ok (.bipush 60, 2) := by decide +kernel
theorem dX1_begin_29 : decode cX1_begin 29 = .ok (.putfield 43, 3) := by decide +kernel
theorem dX1_begin_32 : decode cX1_begin 32 = .ok (.aload_n 0, 1) := by decide +kernel
theorem dX1_begin_33 : decode cX1_begin 33 = .ok (.iconst 2, 1) := by decide +kernel
theorem dX1_begin_34 : decode cX1_begin 34 = .ok (.putfield 46, 3) := by decide +kernel
theorem dX1_begin_37 : decode cX1_begin 37 = .ok (.aload_n 0, 1) := by decide +kernel
theorem dX1_begin_38 : decode cX1_begin 38 = .ok (.iconst 4, 1) := by decide +kernel
theorem dX1_begin_39 : decode cX1_begin 39 = .ok (.putfield 49, 3) := by decide +kernel
theorem dX1_begin_42 : decode cX1_begin 42 = .ok (.aload_n 0, 1) := by decide +kernel
theorem dX1_begin_43 : decode cX1_begin 43 = .ok (.iconst 3, 1) := by decide +kernel
theorem dX1_begin_44 : decode cX1_begin 44 = .ok (.putfield 52, 3) := by decide +kernel
theorem dX1_begin_47 : decode cX1_begin 47 = .ok (.return_, 1) := by decide +kernel
set_option maxRecDepth 20000 in
theorem ggX1_addDevice_X5_within : GoodIn wsX1_addDevice wsX5_within := goodIn_r _ [7] (by decide +kernel) (by decide +kernel)
set_option maxRecDepth 20000 in
theorem gX1_addDevice_X5_within_n55 : GoodIn wsX1_addDevice (wsX5_within) := ggX1_addDevice_X5_within
theorem dX1_addDevice_0 : decode cX1_addDevice 0 = .ok (.iload_n 1, 1) := by decide +kernel
theorem dX1_addDevice_1 : decode cX1_addDevice 1 = .ok (.iconst 0, 1) := by decide +kernel
theorem dX1_addDevice_2 : decode cX1_addDevice 2 = .ok (.iconst 3, 1) := by decide +kernel
theorem dX1_addDevice_3 : decode cX1_addDevice 3 = .ok (.invokestatic 55, 3) := by decide +kernel
theorem dX1_addDevice_6 : decode cX1_addDevice 6 = .ok (.ifCond .eq 25, 3) := by decide +kernel
theorem dX1_addDevice_9 : decode cX1_addDevice 9 = .ok (.iload_n 2, 1) := by decide +kernel
theorem dX1_addDevice_10 : decode cX1_addDevice 10 = .ok (.iconst 0, 1) := by decide +kernel
theorem dX1_addDevice_11 : decode cX1_addDevice 11 = .ok (.iconst 5, 1) := by decide +kernel
theorem dX1_addDevice_12 : decode cX1_addDevice 12 = .ok (.invokestatic 55, 3) := by decide +kernel
theorem dX1_addDevice_15 : decode cX1_addDevice 15 = .ok (.ifCond .eq 16, 3) := by decide +kernel
theorem dX1_addDevice_18 : decode cX1_addDevice 18 = .ok (.iload_n 3, 1) := by decide +kernel
theorem dX1_addDevice_19 : decode cX1_addDevice 19 = .ok (.iconst 0, 1) := by decide +kernel
theorem dX1_addDevice_20 : decode cX1_addDevice 20 = .ok (.iconst 1, 1) := by decide +kernel
theorem dX1_addDevice_21 : decode cX1_addDevice 21 = .ok (.invokestatic 55, 3) := by decide +kernel
theorem dX1_addDevice_24 : decode cX1_addDevice 24 = .ok (.ifCond .eq 7, 3) := by decide +kernel
theorem dX1_addDevice_27 : decode cX1_addDevice 27 = .ok (.iconst 1, 1) := by decide +kernel
theorem dX1_addDevice_28 : decode cX1_addDevice 28 = .ok (.goto 4, 3) := by decide +kernel
theorem dX1_addDevice_31 : decode cX1_addDevice 31 = .ok (.iconst 0, 1) := by decide +kernel
theorem dX1_addDevice_32 : decode cX1_addDevice 32 = .ok (.istore 4, 2) := by decide +kernel
theorem dX1_addDevice_34 : decode cX1_addDevice 34 = .ok (.iload 4, 2) := by decide +kernel
theorem dX1_addDevice_36 : decode cX1_addDevice 36 = .ok (.ifCond .eq 12, 3) := by decide +kernel
theorem dX1_addDevice_39 : decode cX1_addDevice 39 = .ok (.aload_n 0, 1) := by decide +kernel
theorem dX1_addDevice_40 : decode cX1_addDevice 40 = .ok (.getfield 27, 3) := by decide +kernel
theorem dX1_addDevice_43 : decode cX1_addDevice 43 = .ok (.bipush 12, 2) := by decide +kernel
theorem dX1_addDevice_45 : decode cX1_addDevice 45 = .ok (.if_icmp .lt 5, 3) := by decide +kernel
theorem dX1_addDevice_48 : decode cX1_addDevice 48 = .ok (.iconst 0, 1) := by decide +kernel
theorem dX1_addDevice_49 : decode cX1_addDevice 49 = .ok (.ireturn, 1) := by decide +kernel
theorem dX1_addDevice_50 : decode cX1_addDevice 50 = .ok (.aload_n 0, 1) := by decide +kernel
theorem dX1_addDevice_51 : decode cX1_addDevice 51 = .ok (.getfield 9, 3) := by decide +kernel
theorem dX1_addDevice_54 : decode cX1_addDevice 54 = .ok (.aload_n 0, 1) := by decide +kernel
theorem dX1_addDevice_55 : decode cX1_addDevice 55 = .ok (.getfield 27, 3) := by decide +kernel
theorem dX1_addDevice_58 : decode cX1_addDevice 58 = .ok (.iload_n 1, 1) := by decide +kernel
theorem dX1_addDevice_59 : decode cX1_addDevice 59 = .ok (.iastore, 1) := by decide +kernel
theorem dX1_addDevice_60 : decode cX1_addDevice 60 = .ok (.aload_n 0, 1) := by decide +kernel
theorem dX1_addDevice_61 : decode cX1_addDevice 61 = .ok (.getfield 15, 3) := by decide +kernel
theorem dX1_addDevice_64 : decode cX1_addDevice 64 = .ok (.aload_n 0, 1) := by decide +kernel
theorem dX1_addDevice_65 : decode cX1_addDevice 65 = .ok (.getfield 27, 3) := by decide +kernel
theorem dX1_addDevice_68 : decode cX1_addDevice 68 = .ok (.iload_n 2, 1) := by decide +kernel
theorem dX1_addDevice_69 : decode cX1_addDevice 69 = .ok (.iastore, 1) := by decide +kernel
theorem dX1_addDevice_70 : decode cX1_addDevice 70 = .ok (.aload_n 0, 1) := by decide +kernel
theorem dX1_addDevice_71 : decode cX1_addDevice 71 = .ok (.dup, 1) := by decide +kernel
theorem dX1_addDevice_72 : decode cX1_addDevice 72 = .ok (.getfield 31, 3) := by decide +kernel
theorem dX1_addDevice_75 : decode cX1_addDevice 75 = .ok (.iload_n 3, 1) := by decide +kernel
theorem dX1_addDevice_76 : decode cX1_addDevice 76 = .ok (.aload_n 0, 1) := by decide +kernel
theorem dX1_addDevice_77 : decode cX1_addDevice 77 = .ok (.getfield 27, 3) := by decide +kernel
theorem dX1_addDevice_80 : decode cX1_addDevice 80 = .ok (.ishl, 1) := by decide +kernel
theorem dX1_addDevice_81 : decode cX1_addDevice 81 = .ok (.ior, 1) := by decide +kernel
theorem dX1_addDevice_82 : decode cX1_addDevice 82 = .ok (.putfield 31, 3) := by decide +kernel
theorem dX1_addDevice_85 : decode cX1_addDevice 85 = .ok (.aload_n 0, 1) := by decide +kernel
theorem dX1_addDevice_86 : decode cX1_addDevice 86 = .ok (.dup, 1) := by decide +kernel
theorem dX1_addDevice_87 : decode cX1_addDevice 87 = .ok (.getfield 27, 3) := by decide +kernel
theorem dX1_addDevice_90 : decode cX1_addDevice 90 = .ok (.iconst 1, 1) := by decide +kernel
theorem dX1_addDevice_91 : decode cX1_addDevice 91 = .ok (.iadd, 1) := by decide +kernel
theorem dX1_addDevice_92 : decode cX1_addDevice 92 = .ok (.putfield 27, 3) := by decide +kernel
theorem dX1_addDevice_95 : decode cX1_addDevice 95 = .ok (.iconst 1, 1) := by decide +kernel
theorem dX1_addDevice_96 : decode cX1_addDevice 96 = .ok (.ireturn, 1) := by decide +kernel
set_option maxRecDepth 20000 in
theorem ggX1_addEffect_X5_within : GoodIn wsX1_addEffect wsX5_within := goodIn_r _ [8] (by decide +kernel) (by decide +kernel)
set_option maxRecDepth 20000 in
theorem gX1_addEffect_X5_within_n55 : GoodIn wsX1_addEffect (wsX5_within) := ggX1_addEffect_X5_within
theorem dX1_addEffect_0 : decode cX1_addEffect 0 = .ok (.iload_n 1, 1) := by decide +kernel
theorem dX1_addEffect_1 : decode cX1_addEffect 1 = .ok (.iconst 0, 1) := by decide +kernel
theorem dX1_addEffect_2 : decode cX1_addEffect 2 = .ok (.iconst 2, 1) := by decide +kernel
theorem dX1_addEffect_3 : decode cX1_addEffect 3 = .ok (.invokestatic 55, 3) := by decide +kernel
theorem dX1_addEffect_6 : decode cX1_addEffect 6 = .ok (.ifCond .eq 37, 3) := by decide +kernel
theorem dX1_addEffect_9 : decode cX1_addEffect 9 = .ok (.iload_n 2, 1) := by decide +kernel
theorem dX1_addEffect_10 : decode cX1_addEffect 10 = .ok (.iconst 1, 1) := by decide +kernel
theorem dX1_addEffect_11 : decode cX1_addEffect 11 = .ok (.bipush 63, 2) := by decide +kernel
theorem dX1_addEffect_13 : decode cX1_addEffect 13 = .ok (.invokestatic 55, 3) := by decide +kernel
theorem dX1_addEffect_16 : decode cX1_addEffect 16 = .ok (.ifCond .eq 27, 3) := by decide +kernel
theorem dX1_addEffect_19 : decode cX1_addEffect 19 = .ok (.iload_n 3, 1) := by decide +kernel
theorem dX1_addEffect_20 : decode cX1_addEffect 20 = .ok (.iconst 0, 1) := by decide +kernel
theorem dX1_addEffect_21 : decode cX1_addEffect 21 = .ok (.bipush 9, 2) := by decide +kernel
theorem dX1_addEffect_23 : decode cX1_addEffect 23 = .ok (.invokestatic 55, 3) := by decide +kernel
theorem dX1_addEffect_26 : decode cX1_addEffect 26 = .ok (.ifCond .eq 17, 3) := by decide +kernel
theorem dX1_addEffect_29 : decode cX1_addEffect 29 = .ok (.iload 4, 2) := by decide +kernel
theorem dX1_addEffect_31 : decode cX1_addEffect 31 = .ok (.iconst 0, 1) := by decide +kernel
theorem dX1_addEffect_32 : decode cX1_addEffect 32 = .ok (.iconst 1, 1) := by decide +kernel
theorem dX1_addEffect_33 : decode cX1_addEffect 33 = .ok (.invokestatic 55, 3) := by decide +kernel
theorem dX1_addEffect_36 : decode cX1_addEffect 36 = .ok (.ifCond .eq 7, 3) := by decide +kernel
theorem dX1_addEffect_39 : decode cX1_addEffect 39 = .ok (.iconst 1, 1) := by decide +kernel
theorem dX1_addEffect_40 : decode cX1_addEffect 40 = .ok (.goto 4, 3) := by decide +kernel
theorem dX1_addEffect_43 : decode cX1_addEffect 43 = .ok (.iconst 0, 1) := by decide +kernel
theorem dX1_addEffect_44 : decode cX1_addEffect 44 = .ok (.istore 5, 2) := by decide +kernel
theorem dX1_addEffect_46 : decode cX1_addEffect 46 = .ok (.iload 5, 2) := by decide +kernel
theorem dX1_addEffect_48 : decode cX1_addEffect 48 = .ok (.ifCond .eq 12, 3) := by decide +kernel
theorem dX1_addEffect_51 : decode cX1_addEffect 51 = .ok (.aload_n 0, 1) := by decide +kernel
theorem dX1_addEffect_52 : decode cX1_addEffect 52 = .ok (.getfield 34, 3) := by decide +kernel
theorem dX1_addEffect_55 : decode cX1_addEffect 55 = .ok (.bipush 6, 2) := by decide +kernel
theorem dX1_addEffect_57 : decode cX1_addEffect 57 = .ok (.if_icmp .lt 5, 3) := by decide +kernel
theorem dX1_addEffect_60 : decode cX1_addEffect 60 = .ok (.iconst 0, 1) := by decide +kernel
theorem dX1_addEffect_61 : decode cX1_addEffect 61 = .ok (.ireturn, 1) := by decide +kernel
theorem dX1_addEffect_62 : decode cX1_addEffect 62 = .ok (.aload_n 0, 1) := by decide +kernel
theorem dX1_addEffect_63 : decode cX1_addEffect 63 = .ok (.getfield 18, 3) := by decide +kernel
theorem dX1_addEffect_66 : decode cX1_addEffect 66 = .ok (.aload_n 0, 1) := by decide +kernel
theorem dX1_addEffect_67 : decode cX1_addEffect 67 = .ok (.getfield 34, 3) := by decide +kernel
theorem dX1_addEffect_70 : decode cX1_addEffect 70 = .ok (.iload_n 1, 1) := by decide +kernel
theorem dX1_addEffect_71 : decode cX1_addEffect 71 = .ok (.iastore, 1) := by decide +kernel
theorem dX1_addEffect_72 : decode cX1_addEffect 72 = .ok (.aload_n 0, 1) := by decide +kernel
theorem dX1_addEffect_73 : decode cX1_addEffect 73 = .ok (.getfield 21, 3) := by decide +kernel
theorem dX1_addEffect_76 : decode cX1_addEffect 76 = .ok (.aload_n 0, 1) := by decide +kernel
theorem dX1_addEffect_77 : decode cX1_addEffect 77 = .ok (.getfield 34, 3) := by decide +kernel
theorem dX1_addEffect_80 : decode cX1_addEffect 80 = .ok (.iload_n 2, 1) := by decide +kernel
theorem dX1_addEffect_81 : decode cX1_addEffect 81 = .ok (.iastore, 1) := by decide +kernel
theorem dX1_addEffect_82 : decode cX1_addEffect 82 = .ok (.aload_n 0, 1) := by decide +kernel
theorem dX1_addEffect_83 : decode cX1_addEffect 83 = .ok (.getfield 24, 3) := by decide +kernel
theorem dX1_addEffect_86 : decode cX1_addEffect 86 = .ok (.aload_n 0, 1) := by decide +kernel
theorem dX1_addEffect_87 : decode cX1_addEffect 87 = .ok (.getfield 34, 3) := by decide +kernel
theorem dX1_addEffect_90 : decode cX1_addEffect 90 = .ok (.iload_n 3, 1) := by decide +kernel
theorem dX1_addEffect_91 : decode cX1_addEffect 91 = .ok (.iastore, 1) := by decide +kernel
theorem dX1_addEffect_92 : decode cX1_addEffect 92 = .ok (.aload_n 0, 1) := by decide +kernel
theorem dX1_addEffect_93 : decode cX1_addEffect 93 = .ok (.dup, 1) := by decide +kernel
theorem dX1_addEffect_94 : decode cX1_addEffect 94 = .ok (.getfield 37, 3) := by decide +kernel
theorem dX1_addEffect_97 : decode cX1_addEffect 97 = .ok (.iload 4, 2) := by decide +kernel
theorem dX1_addEffect_99 : decode cX1_addEffect 99 = .ok (.aload_n 0, 1) := by decide +kernel
theorem dX1_addEffect_100 : decode cX1_addEffect 100 = .ok (.getfield 34, 3) := by decide +kernel
theorem dX1_addEffect_103 : decode cX1_addEffect 103 = .ok (.ishl, 1) := by decide +kernel
theorem dX1_addEffect_104 : decode cX1_addEffect 104 = .ok (.ior, 1) := by decide +kernel
theorem dX1_addEffect_105 : decode cX1_addEffect 105 = .ok (.putfield 37, 3) := by decide +kernel
theorem dX1_addEffect_108 : decode cX1_addEffect 108 = .ok (.aload_n 0, 1) := by decide +kernel
theorem dX1_addEffect_109 : decode cX1_addEffect 109 = .ok (.dup, 1) := by decide +kernel
theorem dX1_addEffect_110 : decode cX1_addEffect 110 = .ok (.getfield 34, 3) := by decide +kernel
theorem dX1_addEffect_113 : decode cX1_addEffect 113 = .ok (.iconst 1, 1) := by decide +kernel
theorem dX1_addEffect_114 : decode cX1_addEffect 114 = .ok (.iadd, 1) := by decide +kernel
theorem dX1_addEffect_115 : decode cX1_addEffect 115 = .ok (.putfield 34, 3) := by decide +kernel
theorem dX1_addEffect_118 : decode cX1_addEffect 118 = .ok (.iconst 1, 1) := by decide +kernel
theorem dX1_addEffect_119 : decode cX1_addEffect 119 = .ok (.ireturn, 1) := by decide +kernel
set_option maxRecDepth 20000 in
theorem ggX1_setLimits_X5_within : GoodIn wsX1_setLimits wsX5_within := goodIn_r _ [7] (by decide +kernel) (by decide +kernel)
set_option maxRecDepth 20000 in
theorem gX1_setLimits_X5_within_n55 : GoodIn wsX1_setLimits (wsX5_within) := ggX1_setLimits_X5_within
theorem dX1_setLimits_0 : decode cX1_setLimits 0 = .ok (.iload_n 1, 1) := by decide +kernel
theorem dX1_setLimits_1 : decode cX1_setLimits 1 = .ok (.iconst 1, 1) := by decide +kernel
theorem dX1_setLimits_2 : decode cX1_setLimits 2 = .ok (.bipush 90, 2) := by decide +kernel
theorem dX1_setLimits_4 : decode cX1_setLimits 4 = .ok (.invokestatic 55, 3) := by decide +kernel
theorem dX1_setLimits_7 : decode cX1_setLimits 7 = .ok (.ifCond .eq 40, 3) := by decide +kernel
theorem dX1_setLimits_10 : decode cX1_setLimits 10 = .ok (.iload_n 2, 1) := by decide +kernel
theorem dX1_setLimits_11 : decode cX1_setLimits 11 = .ok (.iload_n 1, 1) := by decide +kernel
theorem dX1_setLimits_12 : decode cX1_setLimits 12 = .ok (.iconst 1, 1) := by decide +kernel
theorem dX1_setLimits_13 : decode cX1_setLimits 13 = .ok (.iadd, 1) := by decide +kernel
theorem dX1_setLimits_14 : decode cX1_setLimits 14 = .ok (.bipush 99, 2) := by decide +kernel
theorem dX1_setLimits_16 : decode cX1_setLimits 16 = .ok (.invokestatic 55, 3) := by decide +kernel
theorem dX1_setLimits_19 : decode cX1_setLimits 19 = .ok (.ifCond .eq 28, 3) := by decide +kernel
theorem dX1_setLimits_22 : decode cX1_setLimits 22 = .ok (.iload_n 3, 1) := by decide +kernel
theorem dX1_setLimits_23 : decode cX1_setLimits 23 = .ok (.iconst 0, 1) := by decide +kernel
theorem dX1_setLimits_24 : decode cX1_setLimits 24 = .ok (.bipush 9, 2) := by decide +kernel
theorem dX1_setLimits_26 : decode cX1_setLimits 26 = .ok (.invokestatic 55, 3) := by decide +kernel
theorem dX1_setLimits_29 : decode cX1_setLimits 29 = .ok (.ifCond .eq 18, 3) := by decide +kernel
theorem dX1_setLimits_32 : decode cX1_setLimits 32 = .ok (.iload 4, 2) := by decide +kernel
theorem dX1_setLimits_34 : decode cX1_setLimits 34 = .ok (.iconst 1, 1) := by decide +kernel
theorem dX1_setLimits_35 : decode cX1_setLimits 35 = .ok (.bipush 9, 2) := by decide +kernel
theorem dX1_setLimits_37 : decode cX1_setLimits 37 = .ok (.invokestatic 55, 3) := by decide +kernel
theorem dX1_setLimits_40 : decode cX1_setLimits 40 = .ok (.ifCond .eq 7, 3) := by decide +kernel
theorem dX1_setLimits_43 : decode cX1_setLimits 43 = .ok (.iconst 1, 1) := by decide +kernel
theorem dX1_setLimits_44 : decode cX1_setLimits 44 = .ok (.goto 4, 3) := by decide +kernel
theorem dX1_setLimits_47 : decode cX1_setLimits 47 = .ok (.iconst 0, 1) := by decide +kernel
theorem dX1_setLimits_48 : decode cX1_setLimits 48 = .ok (.istore 5, 2) := by decide +kernel
theorem dX1_setLimits_50 : decode cX1_setLimits 50 = .ok (.iload 5, 2) := by decide +kernel
theorem dX1_setLimits_52 : decode cX1_setLimits 52 = .ok (.ifCond .eq 24, 3) := by decide +kernel
theorem dX1_setLimits_55 : decode cX1_setLimits 55 = .ok (.aload_n 0, 1) := by decide +kernel
theorem dX1_setLimits_56 : decode cX1_setLimits 56 = .ok (.iload_n 1, 1) := by decide +kernel
theorem dX1_setLimits_57 : decode cX1_setLimits 57 = .ok (.putfield 40, 3) := by decide +kernel
theorem dX1_setLimits_60 : decode cX1_setLimits 60 = .ok (.aload_n 0, 1) := by decide +kernel
theorem dX1_setLimits_61 : decode cX1_setLimits 61 = .ok (.iload_n 2, 1) := by decide +kernel
theorem dX1_setLimits_62 : decode cX1_setLimits 62 = .ok (.putfield 43, 3) := by decide +kernel
theorem dX1_setLimits_65 : decode cX1_setLimits 65 = .ok (.aload_n 0, 1) := by decide +kernel
theorem dX1_setLimits_66 : decode cX1_setLimits 66 = .ok (.iload_n 3, 1) := by decide +kernel
theorem dX1_setLimits_67 : decode cX1_setLimits 67 = .ok (.putfield 46, 3) := by decide +kernel
theorem dX1_setLimits_70 : decode cX1_setLimits 70 = .ok (.aload_n 0, 1) := by decide +kernel
theorem dX1_setLimits_71 : decode cX1_setLimits 71 = .ok (.iload 4, 2) := by decide +kernel
theorem dX1_setLimits_73 : decode cX1_setLimits 73 = .ok (.putfield 49, 3) := by decide +kernel
theorem dX1_setLimits_76 : decode cX1_setLimits 76 = .ok (.iload 5, 2) := by decide +kernel
theorem dX1_setLimits_78 : decode cX1_setLimits 78 = .ok (.ireturn, 1) := by decide +kernel
set_option maxRecDepth 20000 in
theorem ggX1_setPhase_X5_within : GoodIn wsX1_setPhase wsX5_within := goodIn_r _ [4] (by decide +kernel) (by decide +kernel)
set_option maxRecDepth 20000 in
theorem gX1_setPhase_X5_within_n55 : GoodIn wsX1_setPhase (wsX5_within) := ggX1_setPhase_X5_within
theorem dX1_setPhase_0 : decode cX1_setPhase 0 = .ok (.iload_n 1, 1) := by decide +kernel
theorem dX1_setPhase_1 : decode cX1_setPhase 1 = .ok (.iconst 1, 1) := by decide +kernel
theorem dX1_setPhase_2 : decode cX1_setPhase 2 = .ok (.bipush 9, 2) := by decide +kernel
theorem dX1_setPhase_4 : decode cX1_setPhase 4 = .ok (.invokestatic 55, 3) := by decide +kernel
theorem dX1_setPhase_7 : decode cX1_setPhase 7 = .ok (.istore_n 2, 1) := by decide +kernel
theorem dX1_setPhase_8 : decode cX1_setPhase 8 = .ok (.iload_n 2, 1) := by decide +kernel
theorem dX1_setPhase_9 : decode cX1_setPhase 9 = .ok (.ifCond .eq 8, 3) := by decide +kernel
theorem dX1_setPhase_12 : decode cX1_setPhase 12 = .ok (.aload_n 0, 1) := by decide +kernel
theorem dX1_setPhase_13 : decode cX1_setPhase 13 = .ok (.iload_n 1, 1) := by decide +kernel
theorem dX1_setPhase_14 : decode cX1_setPhase 14 = .ok (.putfield 52, 3) := by decide +kernel
theorem dX1_setPhase_17 : decode cX1_setPhase 17 = .ok (.iload_n 2, 1) := by decide +kernel
theorem dX1_setPhase_18 : decode cX1_setPhase 18 = .ok (.ireturn, 1) := by decide +kernel
theorem dX1_devicesIn_0 : decode cX1_devicesIn 0 = .ok (.iconst 0, 1) := by decide +kernel
theorem dX1_devicesIn_1 : decode cX1_devicesIn 1 = .ok (.istore_n 2, 1) := by decide +kernel
theorem dX1_devicesIn_2 : decode cX1_devicesIn 2 = .ok (.iconst 0, 1) := by decide +kernel
theorem dX1_devicesIn_3 : decode cX1_devicesIn 3 = .ok (.istore_n 3, 1) := by decide +kernel
theorem dX1_devicesIn_4 : decode cX1_devicesIn 4 = .ok (.iload_n 3, 1) := by decide +kernel
theorem dX1_devicesIn_5 : decode cX1_devicesIn 5 = .ok (.aload_n 0, 1) := by decide +kernel
theorem dX1_devicesIn_6 : decode cX1_devicesIn 6 = .ok (.getfield 27, 3) := by decide +kernel
theorem dX1_devicesIn_9 : decode cX1_devicesIn 9 = .ok (.if_icmp .ge 29, 3) := by decide +kernel
theorem dX1_devicesIn_12 : decode cX1_devicesIn 12 = .ok (.iload_n 2, 1) := by decide +kernel
theorem dX1_devicesIn_13 : decode cX1_devicesIn 13 = .ok (.aload_n 0, 1) := by decide +kernel
theorem dX1_devicesIn_14 : decode cX1_devicesIn 14 = .ok (.getfield 15, 3) := by decide +kernel
theorem dX1_devicesIn_17 : decode cX1_devicesIn 17 = .ok (.iload_n 3, 1) := by decide +kernel
theorem dX1_devicesIn_18 : decode cX1_devicesIn 18 = .ok (.iaload, 1) := by decide +kernel
theorem dX1_devicesIn_19 : decode cX1_devicesIn 19 = .ok (.iload_n 1, 1) := by decide +kernel
theorem dX1_devicesIn_20 : decode cX1_devicesIn 20 = .ok (.if_icmp .ne 9, 3) := by decide +kernel
theorem dX1_devicesIn_23 : decode cX1_devicesIn 23 = .ok (.iconst 1, 1) := by decide +kernel
theorem dX1_devicesIn_24 : decode cX1_devicesIn 24 = .ok (.iload_n 3, 1) := by decide +kernel
theorem dX1_devicesIn_25 : decode cX1_devicesIn 25 = .ok (.ishl, 1) := by decide +kernel
theorem dX1_devicesIn_26 : decode cX1_devicesIn 26 = .ok (.goto 4, 3) := by decide +kernel
theorem dX1_devicesIn_29 : decode cX1_devicesIn 29 = .ok (.iconst 0, 1) := by decide +kernel
theorem dX1_devicesIn_30 : decode cX1_devicesIn 30 = .ok (.ior, 1) := by decide +kernel
theorem dX1_devicesIn_31 : decode cX1_devicesIn 31 = .ok (.istore_n 2, 1) := by decide +kernel
theorem dX1_devicesIn_32 : decode cX1_devicesIn 32 = .ok (.iinc 3 1, 3) := by decide +kernel
theorem dX1_devicesIn_35 : decode cX1_devicesIn 35 = .ok (.goto (-31), 3) := by decide +kernel
theorem dX1_devicesIn_38 : decode cX1_devicesIn 38 = .ok (.iload_n 2, 1) := by decide +kernel
theorem dX1_devicesIn_39 : decode cX1_devicesIn 39 = .ok (.ireturn, 1) := by decide +kernel
set_option maxRecDepth 20000 in
theorem ggX1_wants_J6_bitCount_0f7a4 : GoodIn wsX1_wants wsJ6_bitCount_0f7a4 := goodIn_r _ [6, 7, 8, 9] (by decide +kernel) (by decide +kernel)
set_option maxRecDepth 20000 in
theorem gX1_wants_J6_bitCount_0f7a4 : GoodIn wsX1_wants (va_wsS RX1 59 yJ6_bitCount_0f7a4 wsJ6_bitCount_0f7a4) := goodIn_app (goodIn_of _ (by decide +kernel)) ggX1_wants_J6_bitCount_0f7a4
theorem dX1_wants_0 : decode cX1_wants 0 = .ok (.aload_n 0, 1) := by decide +kernel
theorem dX1_wants_1 : decode cX1_wants 1 = .ok (.getfield 21, 3) := by decide +kernel
theorem dX1_wants_4 : decode cX1_wants 4 = .ok (.iload_n 1, 1) := by decide +kernel
theorem dX1_wants_5 : decode cX1_wants 5 = .ok (.iaload, 1) := by decide +kernel
theorem dX1_wants_6 : decode cX1_wants 6 = .ok (.iload_n 2, 1) := by decide +kernel
theorem dX1_wants_7 : decode cX1_wants 7 = .ok (.iand, 1) := by decide +kernel
theorem dX1_wants_8 : decode cX1_wants 8 = .ok (.istore_n 3, 1) := by decide +kernel
theorem dX1_wants_9 : decode cX1_wants 9 = .ok (.aload_n 0, 1) := by decide +kernel
theorem dX1_wants_10 : decode cX1_wants 10 = .ok (.getfield 18, 3) := by decide +kernel
theorem dX1_wants_13 : decode cX1_wants 13 = .ok (.iload_n 1, 1) := by decide +kernel
theorem dX1_wants_14 : decode cX1_wants 14 = .ok (.iaload, 1) := by decide +kernel
theorem dX1_wants_15 : decode cX1_wants 15 = .ok (.lookupswitch 51 #[(0, 25), (1, 35)], 25) := by decide +kernel
theorem dX1_wants_40 : decode cX1_wants 40 = .ok (.iload_n 3, 1) := by decide +kernel
theorem dX1_wants_41 : decode cX1_wants 41 = .ok (.ifCond .eq 7, 3) := by decide +kernel
theorem dX1_wants_44 : decode cX1_wants 44 = .ok (.iconst 1, 1) := by decide +kernel
theorem dX1_wants_45 : decode cX1_wants 45 = .ok (.goto 4, 3) := by decide +kernel
theorem dX1_wants_48 : decode cX1_wants 48 = .ok (.iconst 0, 1) := by decide +kernel
theorem dX1_wants_49 : decode cX1_wants 49 = .ok (.ireturn, 1) := by decide +kernel
theorem dX1_wants_50 : decode cX1_wants 50 = .ok (.iload_n 3, 1) := by decide +kernel
theorem dX1_wants_51 : decode cX1_wants 51 = .ok (.aload_n 0, 1) := by decide +kernel
theorem dX1_wants_52 : decode cX1_wants 52 = .ok (.getfield 21, 3) := by decide +kernel
theorem dX1_wants_55 : decode cX1_wants 55 = .ok (.iload_n 1, 1) := by decide +kernel
theorem dX1_wants_56 : decode cX1_wants 56 = .ok (.iaload, 1) := by decide +kernel
theorem dX1_wants_57 : decode cX1_wants 57 = .ok (.if_icmp .ne 7, 3) := by decide +kernel
theorem dX1_wants_60 : decode cX1_wants 60 = .ok (.iconst 1, 1) := by decide +kernel
theorem dX1_wants_61 : decode cX1_wants 61 = .ok (.goto 4, 3) := by decide +kernel
theorem dX1_wants_64 : decode cX1_wants 64 = .ok (.iconst 0, 1) := by decide +kernel
theorem dX1_wants_65 : decode cX1_wants 65 = .ok (.ireturn, 1) := by decide +kernel
theorem dX1_wants_66 : decode cX1_wants 66 = .ok (.iload_n 3, 1) := by decide +kernel
theorem dX1_wants_67 : decode cX1_wants 67 = .ok (.invokestatic 59, 3) := by decide +kernel
theorem dX1_wants_70 : decode cX1_wants 70 = .ok (.iconst 2, 1) := by decide +kernel
theorem dX1_wants_71 : decode cX1_wants 71 = .ok (.if_icmp .lt 7, 3) := by decide +kernel
theorem dX1_wants_74 : decode cX1_wants 74 = .ok (.iconst 1, 1) := by decide +kernel
theorem dX1_wants_75 : decode cX1_wants 75 = .ok (.goto 4, 3) := by decide +kernel
theorem dX1_wants_78 : decode cX1_wants 78 = .ok (.iconst 0, 1) := by decide +kernel
theorem dX1_wants_79 : decode cX1_wants 79 = .ok (.ireturn, 1) := by decide +kernel
theorem dX1_basesGoOnIn_0 : decode cX1_basesGoOnIn 0 = .ok (.aload_n 0, 1) := by decide +kernel
theorem dX1_basesGoOnIn_1 : decode cX1_basesGoOnIn 1 = .ok (.getfield 49, 3) := by decide +kernel
theorem dX1_basesGoOnIn_4 : decode cX1_basesGoOnIn 4 = .ok (.ifCond .le 16, 3) := by decide +kernel
theorem dX1_basesGoOnIn_7 : decode cX1_basesGoOnIn 7 = .ok (.iload_n 1, 1) := by decide +kernel
theorem dX1_basesGoOnIn_8 : decode cX1_basesGoOnIn 8 = .ok (.aload_n 0, 1) := by decide +kernel
theorem dX1_basesGoOnIn_9 : decode cX1_basesGoOnIn 9 = .ok (.getfield 49, 3) := by decide +kernel
theorem dX1_basesGoOnIn_12 : decode cX1_basesGoOnIn 12 = .ok (.irem, 1) := by decide +kernel
theorem dX1_basesGoOnIn_13 : decode cX1_basesGoOnIn 13 = .ok (.ifCond .ne 7, 3) := by decide +kernel
theorem dX1_basesGoOnIn_16 : decode cX1_basesGoOnIn 16 = .ok (.iconst 1, 1) := by decide +kernel
theorem dX1_basesGoOnIn_17 : decode cX1_basesGoOnIn 17 = .ok (.goto 4, 3) := by decide +kernel
theorem dX1_basesGoOnIn_20 : decode cX1_basesGoOnIn 20 = .ok (.iconst 0, 1) := by decide +kernel
theorem dX1_basesGoOnIn_21 : decode cX1_basesGoOnIn 21 = .ok (.ireturn, 1) := by decide +kernel
set_option maxRecDepth 20000 in
theorem ggX2_deadWires_X5_bit : GoodIn wsX2_deadWires wsX5_bit := goodIn_r _ [3] (by decide +kernel) (by decide +kernel)
set_option maxRecDepth 20000 in
theorem gX2_deadWires_X5_bit_n9 : GoodIn wsX2_deadWires (wsX5_bit) := ggX2_deadWires_X5_bit
theorem dX2_deadWires_0 : decode cX2_deadWires 0 = .ok (.iconst 0, 1) := by decide +kernel
theorem dX2_deadWires_1 : decode cX2_deadWires 1 = .ok (.istore_n 3, 1) := by decide +kernel
theorem dX2_deadWires_2 : decode cX2_deadWires 2 = .ok (.iconst 0, 1) := by decide +kernel
theorem dX2_deadWires_3 : decode cX2_deadWires 3 = .ok (.istore 4, 2) := by decide +kernel
theorem dX2_deadWires_5 : decode cX2_deadWires 5 = .ok (.iconst 0, 1) := by decide +kernel
theorem dX2_deadWires_6 : decode cX2_deadWires 6 = .ok (.istore 5, 2) := by decide +kernel
theorem dX2_deadWires_8 : decode cX2_deadWires 8 = .ok (.iload 5, 2) := by decide +kernel
theorem dX2_deadWires_10 : decode cX2_deadWires 10 = .ok (.iload_n 0, 1) := by decide +kernel
theorem dX2_deadWires_11 : decode cX2_deadWires 11 = .ok (.if_icmp .gt 65, 3) := by decide +kernel
theorem dX2_deadWires_14 : decode cX2_deadWires 14 = .ok (.iload 4, 2) := by decide +kernel
theorem dX2_deadWires_16 : decode cX2_deadWires 16 = .ok (.iconst 1, 1) := by decide +kernel
theorem dX2_deadWires_17 : decode cX2_deadWires 17 = .ok (.iload 5, 2) := by decide +kernel
theorem dX2_deadWires_19 : decode cX2_deadWires 19 = .ok (.ishl, 1) := by decide +kernel
theorem dX2_deadWires_20 : decode cX2_deadWires 20 = .ok (.ior, 1) := by decide +kernel
theorem dX2_deadWires_21 : decode cX2_deadWires 21 = .ok (.istore 4, 2) := by decide +kernel
theorem dX2_deadWires_23 : decode cX2_deadWires 23 = .ok (.iload 5, 2) := by decide +kernel
theorem dX2_deadWires_25 : decode cX2_deadWires 25 = .ok (.iload_n 0, 1) := by decide +kernel
theorem dX2_deadWires_26 : decode cX2_deadWires 26 = .ok (.if_icmp .eq 13, 3) := by decide +kernel
theorem dX2_deadWires_29 : decode cX2_deadWires 29 = .ok (.iload_n 1, 1) := by decide +kernel
theorem dX2_deadWires_30 : decode cX2_deadWires 30 = .ok (.iload 5, 2) := by decide +kernel
theorem dX2_deadWires_32 : decode cX2_deadWires 32 = .ok (.invokestatic 9, 3) := by decide +kernel
theorem dX2_deadWires_35 : decode cX2_deadWires 35 = .ok (.iconst 1, 1) := by decide +kernel
theorem dX2_deadWires_36 : decode cX2_deadWires 36 = .ok (.if_icmp .ne 7, 3) := by decide +kernel
theorem dX2_deadWires_39 : decode cX2_deadWires 39 = .ok (.iconst 1, 1) := by decide +kernel
theorem dX2_deadWires_40 : decode cX2_deadWires 40 = .ok (.goto 4, 3) := by decide +kernel
theorem dX2_deadWires_43 : decode cX2_deadWires 43 = .ok (.iconst 0, 1) := by decide +kernel
theorem dX2_deadWires_44 : decode cX2_deadWires 44 = .ok (.istore 6, 2) := by decide +kernel
theorem dX2_deadWires_46 : decode cX2_deadWires 46 = .ok (.iload 6, 2) := by decide +kernel
theorem dX2_deadWires_48 : decode cX2_deadWires 48 = .ok (.ifCond .eq 22, 3) := by decide +kernel
theorem dX2_deadWires_51 : decode cX2_deadWires 51 = .ok (.iload_n 3, 1) := by decide +kernel
theorem dX2_deadWires_52 : decode cX2_deadWires 52 = .ok (.iload 4, 2) := by decide +kernel
theorem dX2_deadWires_54 : decode cX2_deadWires 54 = .ok (.iload_n 2, 1) := by decide +kernel
theorem dX2_deadWires_55 : decode cX2_deadWires 55 = .ok (.iand, 1) := by decide +kernel
theorem dX2_deadWires_56 : decode cX2_deadWires 56 = .ok (.ifCond .eq 8, 3) := by decide +kernel
theorem dX2_deadWires_59 : decode cX2_deadWires 59 = .ok (.iload 4, 2) := by decide +kernel
theorem dX2_deadWires_61 : decode cX2_deadWires 61 = .ok (.goto 4, 3) := by decide +kernel
theorem dX2_deadWires_64 : decode cX2_deadWires 64 = .ok (.iconst 0, 1) := by decide +kernel
theorem dX2_deadWires_65 : decode cX2_deadWires 65 = .ok (.ior, 1) := by decide +kernel
theorem dX2_deadWires_66 : decode cX2_deadWires 66 = .ok (.istore_n 3, 1) := by decide +kernel
theorem dX2_deadWires_67 : decode cX2_deadWires 67 = .ok (.iconst 0, 1) := by decide +kernel
theorem dX2_deadWires_68 : decode cX2_deadWires 68 = .ok (.istore 4, 2) := by decide +kernel
theorem dX2_deadWires_70 : decode cX2_deadWires 70 = .ok (.iinc 5 1, 3) := by decide +kernel
theorem dX2_deadWires_73 : decode cX2_deadWires 73 = .ok (.goto (-65), 3) := by decide +kernel
theorem dX2_deadWires_76 : decode cX2_deadWires 76 = .ok (.iload_n 3, 1) := by decide +kernel
theorem dX2_deadWires_77 : decode cX2_deadWires 77 = .ok (.ireturn, 1) := by decide +kernel
set_option maxRecDepth 20000 in
theorem ggX2_lostDevices_X2_deadWires : GoodIn wsX2_lostDevices wsX2_deadWires := goodIn_r _ [4, 5, 6, 7] (by decide +kernel) (by decide +kernel)
set_option maxRecDepth 20000 in
theorem gX2_lostDevices_X2_deadWires : GoodIn wsX2_lostDevices (va_wsS RX2 13 yX2_deadWires wsX2_deadWires) := goodIn_app (goodIn_of _ (by decide +kernel)) ggX2_lostDevices_X2_deadWires
set_option maxRecDepth 20000 in
theorem ggX2_lostDevices_X5_bit : GoodIn wsX2_lostDevices wsX5_bit := goodIn_r _ [7] (by decide +kernel) (by decide +kernel)
set_option maxRecDepth 20000 in
theorem gX2_lostDevices_X5_bit_n9 : GoodIn wsX2_lostDevices (wsX5_bit) := ggX2_lostDevices_X5_bit
theorem dX2_lostDevices_0 : decode cX2_lostDevices 0 = .ok (.iload_n 2, 1) := by decide +kernel
theorem dX2_lostDevices_1 : decode cX2_lostDevices 1 = .ok (.iload_n 0, 1) := by decide +kernel
theorem dX2_lostDevices_2 : decode cX2_lostDevices 2 = .ok (.iload_n 1, 1) := by decide +kernel
theorem dX2_lostDevices_3 : decode cX2_lostDevices 3 = .ok (.iload_n 3, 1) := by decide +kernel
theorem dX2_lostDevices_4 : decode cX2_lostDevices 4 = .ok (.invokestatic 13, 3) := by decide +kernel
theorem dX2_lostDevices_7 : decode cX2_lostDevices 7 = .ok (.ior, 1) := by decide +kernel
theorem dX2_lostDevices_8 : decode cX2_lostDevices 8 = .ok (.istore 4, 2) := by decide +kernel
theorem dX2_lostDevices_10 : decode cX2_lostDevices 10 = .ok (.iconst 1, 1) := by decide +kernel
theorem dX2_lostDevices_11 : decode cX2_lostDevices 11 = .ok (.iload_n 0, 1) := by decide +kernel
theorem dX2_lostDevices_12 : decode cX2_lostDevices 12 = .ok (.ishl, 1) := by decide +kernel
theorem dX2_lostDevices_13 : decode cX2_lostDevices 13 = .ok (.iconst 1, 1) := by decide +kernel
theorem dX2_lostDevices_14 : decode cX2_lostDevices 14 = .ok (.isub, 1) := by decide +kernel
theorem dX2_lostDevices_15 : decode cX2_lostDevices 15 = .ok (.istore 5, 2) := by decide +kernel
theorem dX2_lostDevices_17 : decode cX2_lostDevices 17 = .ok (.iconst 0, 1) := by decide +kernel
theorem dX2_lostDevices_18 : decode cX2_lostDevices 18 = .ok (.istore 6, 2) := by decide +kernel
theorem dX2_lostDevices_20 : decode cX2_lostDevices 20 = .ok (.iload 6, 2) := by decide +kernel
theorem dX2_lostDevices_22 : decode cX2_lostDevices 22 = .ok (.iload_n 0, 1) := by decide +kernel
theorem dX2_lostDevices_23 : decode cX2_lostDevices 23 = .ok (.if_icmp .ge 30, 3) := by decide +kernel
theorem dX2_lostDevices_26 : decode cX2_lostDevices 26 = .ok (.iload 4, 2) := by decide +kernel
theorem dX2_lostDevices_28 : decode cX2_lostDevices 28 = .ok (.iload 6, 2) := by decide +kernel
theorem dX2_lostDevices_30 : decode cX2_lostDevices 30 = .ok (.invokestatic 9, 3) := by decide +kernel
theorem dX2_lostDevices_33 : decode cX2_lostDevices 33 = .ok (.ifCond .ne 20, 3) := by decide +kernel
theorem dX2_lostDevices_36 : decode cX2_lostDevices 36 = .ok (.iload 5, 2) := by decide +kernel
theorem dX2_lostDevices_38 : decode cX2_lostDevices 38 = .ok (.iconst 1, 1) := by decide +kernel
theorem dX2_lostDevices_39 : decode cX2_lostDevices 39 = .ok (.iload 6, 2) := by decide +kernel
theorem dX2_lostDevices_41 : decode cX2_lostDevices 41 = .ok (.ishl, 1) := by decide +kernel
theorem dX2_lostDevices_42 : decode cX2_lostDevices 42 = .ok (.iconst (-1), 1) := by decide +kernel
theorem dX2_lostDevices_43 : decode cX2_lostDevices 43 = .ok (.ixor, 1) := by decide +kernel
theorem dX2_lostDevices_44 : decode cX2_lostDevices 44 = .ok (.iand, 1) := by decide +kernel
theorem dX2_lostDevices_45 : decode cX2_lostDevices 45 = .ok (.istore 5, 2) := by decide +kernel
theorem dX2_lostDevices_47 : decode cX2_lostDevices 47 = .ok (.iinc 6 1, 3) := by decide +kernel
theorem dX2_lostDevices_50 : decode cX2_lostDevices 50 = .ok (.goto (-30), 3) := by decide +kernel
theorem dX2_lostDevices_53 : decode cX2_lostDevices 53 = .ok (.iload_n 0, 1) := by decide +kernel
theorem dX2_lostDevices_54 : decode cX2_lostDevices 54 = .ok (.istore 6, 2) := by decide +kernel
theorem dX2_lostDevices_56 : decode cX2_lostDevices 56 = .ok (.iload 6, 2) := by decide +kernel
theorem dX2_lostDevices_58 : decode cX2_lostDevices 58 = .ok (.ifCond .le 32, 3) := by decide +kernel
theorem dX2_lostDevices_61 : decode cX2_lostDevices 61 = .ok (.iload 4, 2) := by decide +kernel
theorem dX2_lostDevices_63 : decode cX2_lostDevices 63 = .ok (.iload 6, 2) := by decide +kernel
theorem dX2_lostDevices_65 : decode cX2_lostDevices 65 = .ok (.invokestatic 9, 3) := by decide +kernel
theorem dX2_lostDevices_68 : decode cX2_lostDevices 68 = .ok (.ifCond .ne 22, 3) := by decide +kernel
theorem dX2_lostDevices_71 : decode cX2_lostDevices 71 = .ok (.iload 5, 2) := by decide +kernel
theorem dX2_lostDevices_73 : decode cX2_lostDevices 73 = .ok (.iconst 1, 1) := by decide +kernel
theorem dX2_lostDevices_74 : decode cX2_lostDevices 74 = .ok (.iload 6, 2) := by decide +kernel
theorem dX2_lostDevices_76 : decode cX2_lostDevices 76 = .ok (.iconst 1, 1) := by decide +kernel
theorem dX2_lostDevices_77 : decode cX2_lostDevices 77 = .ok (.isub, 1) := by decide +kernel
theorem dX2_lostDevices_78 : decode cX2_lostDevices 78 = .ok (.ishl, 1) := by decide +kernel
theorem dX2_lostDevices_79 : decode cX2_lostDevices 79 = .ok (.iconst (-1), 1) := by decide +kernel
theorem dX2_lostDevices_80 : decode cX2_lostDevices 80 = .ok (.ixor, 1) := by decide +kernel
theorem dX2_lostDevices_81 : decode cX2_lostDevices 81 = .ok (.iand, 1) := by decide +kernel
theorem dX2_lostDevices_82 : decode cX2_lostDevices 82 = .ok (.istore 5, 2) := by decide +kernel
theorem dX2_lostDevices_84 : decode cX2_lostDevices 84 = .ok (.iinc 6 (-1), 3) := by decide +kernel
theorem dX2_lostDevices_87 : decode cX2_lostDevices 87 = .ok (.goto (-31), 3) := by decide +kernel
theorem dX2_lostDevices_90 : decode cX2_lostDevices 90 = .ok (.iload 5, 2) := by decide +kernel
theorem dX2_lostDevices_92 : decode cX2_lostDevices 92 = .ok (.ireturn, 1) := by decide +kernel
set_option maxRecDepth 20000 in
theorem ggX2_stopFromA_X5_bit : GoodIn wsX2_stopFromA wsX5_bit := goodIn_r _ [3] (by decide +kernel) (by decide +kernel)
set_option maxRecDepth 20000 in
theorem gX2_stopFromA_X5_bit_n9 : GoodIn wsX2_stopFromA (wsX5_bit) := ggX2_stopFromA_X5_bit
theorem dX2_stopFromA_0 : decode cX2_stopFromA 0 = .ok (.iconst 0, 1) := by decide +kernel
theorem dX2_stopFromA_1 : decode cX2_stopFromA 1 = .ok (.istore_n 2, 1) := by decide +kernel
theorem dX2_stopFromA_2 : decode cX2_stopFromA 2 = .ok (.iload_n 2, 1) := by decide +kernel
theorem dX2_stopFromA_3 : decode cX2_stopFromA 3 = .ok (.iload_n 0, 1) := by decide +kernel
theorem dX2_stopFromA_4 : decode cX2_stopFromA 4 = .ok (.if_icmp .gt 20, 3) := by decide +kernel
theorem dX2_stopFromA_7 : decode cX2_stopFromA 7 = .ok (.iload_n 1, 1) := by decide +kernel
theorem dX2_stopFromA_8 : decode cX2_stopFromA 8 = .ok (.iload_n 2, 1) := by decide +kernel
theorem dX2_stopFromA_9 : decode cX2_stopFromA 9 = .ok (.invokestatic 9, 3) := by decide +kernel
theorem dX2_stopFromA_12 : decode cX2_stopFromA 12 = .ok (.iconst 1, 1) := by decide +kernel
theorem dX2_stopFromA_13 : decode cX2_stopFromA 13 = .ok (.if_icmp .ne 5, 3) := by decide +kernel
theorem dX2_stopFromA_16 : decode cX2_stopFromA 16 = .ok (.iload_n 2, 1) := by decide +kernel
theorem dX2_stopFromA_17 : decode cX2_stopFromA 17 = .ok (.ireturn, 1) := by decide +kernel
theorem dX2_stopFromA_18 : decode cX2_stopFromA 18 = .ok (.iinc 2 1, 3) := by decide +kernel
theorem dX2_stopFromA_21 : decode cX2_stopFromA 21 = .ok (.goto (-19), 3) := by decide +kernel
theorem dX2_stopFromA_24 : decode cX2_stopFromA 24 = .ok (.bipush (-4), 2) := by decide +kernel
theorem dX2_stopFromA_26 : decode cX2_stopFromA 26 = .ok (.ireturn, 1) := by decide +kernel
set_option maxRecDepth 20000 in
theorem ggX2_stopFromB_X5_bit : GoodIn wsX2_stopFromB wsX5_bit := goodIn_r _ [3] (by decide +kernel) (by decide +kernel)
set_option maxRecDepth 20000 in
theorem gX2_stopFromB_X5_bit_n9 : GoodIn wsX2_stopFromB (wsX5_bit) := ggX2_stopFromB_X5_bit
theorem dX2_stopFromB_0 : decode cX2_stopFromB 0 = .ok (.iload_n 0, 1) := by decide +kernel
theorem dX2_stopFromB_1 : decode cX2_stopFromB 1 = .ok (.istore_n 3, 1) := by decide +kernel
theorem dX2_stopFromB_2 : decode cX2_stopFromB 2 = .ok (.iload_n 3, 1) := by decide +kernel
theorem dX2_stopFromB_3 : decode cX2_stopFromB 3 = .ok (.iload_n 1, 1) := by decide +kernel
theorem dX2_stopFromB_4 : decode cX2_stopFromB 4 = .ok (.if_icmp .le 20, 3) := by decide +kernel
theorem dX2_stopFromB_7 : decode cX2_stopFromB 7 = .ok (.iload_n 2, 1) := by decide +kernel
theorem dX2_stopFromB_8 : decode cX2_stopFromB 8 = .ok (.iload_n 3, 1) := by decide +kernel
theorem dX2_stopFromB_9 : decode cX2_stopFromB 9 = .ok (.invokestatic 9, 3) := by decide +kernel
theorem dX2_stopFromB_12 : decode cX2_stopFromB 12 = .ok (.iconst 1, 1) := by decide +kernel
theorem dX2_stopFromB_13 : decode cX2_stopFromB 13 = .ok (.if_icmp .ne 5, 3) := by decide +kernel
theorem dX2_stopFromB_16 : decode cX2_stopFromB 16 = .ok (.iload_n 3, 1) := by decide +kernel
theorem dX2_stopFromB_17 : decode cX2_stopFromB 17 = .ok (.ireturn, 1) := by decide +kernel
theorem dX2_stopFromB_18 : decode cX2_stopFromB 18 = .ok (.iinc 3 (-1), 3) := by decide +kernel
theorem dX2_stopFromB_21 : decode cX2_stopFromB 21 = .ok (.goto (-19), 3) := by decide +kernel
theorem dX2_stopFromB_24 : decode cX2_stopFromB 24 = .ok (.bipush (-4), 2) := by decide +kernel
theorem dX2_stopFromB_26 : decode cX2_stopFromB 26 = .ok (.ireturn, 1) := by decide +kernel
set_option maxRecDepth 20000 in
theorem ggX2_stretchOf_J6_bitCount_0f7a4 : GoodIn wsX2_stretchOf wsJ6_bitCount_0f7a4 := goodIn_r _ [4, 5, 6, 7] (by decide +kernel) (by decide +kernel)
set_option maxRecDepth 20000 in
theorem gX2_stretchOf_J6_bitCount_0f7a4 : GoodIn wsX2_stretchOf (va_wsS RX2 19 yJ6_bitCount_0f7a4 wsJ6_bitCount_0f7a4) := goodIn_app (goodIn_of _ (by decide +kernel)) ggX2_stretchOf_J6_bitCount_0f7a4
theorem dX2_stretchOf_0 : decode cX2_stretchOf 0 = .ok (.iload_n 0, 1) := by decide +kernel
theorem dX2_stretchOf_1 : decode cX2_stretchOf 1 = .ok (.iconst 1, 1) := by decide +kernel
theorem dX2_stretchOf_2 : decode cX2_stretchOf 2 = .ok (.iload_n 1, 1) := by decide +kernel
theorem dX2_stretchOf_3 : decode cX2_stretchOf 3 = .ok (.ishl, 1) := by decide +kernel
theorem dX2_stretchOf_4 : decode cX2_stretchOf 4 = .ok (.iconst 1, 1) := by decide +kernel
theorem dX2_stretchOf_5 : decode cX2_stretchOf 5 = .ok (.isub, 1) := by decide +kernel
theorem dX2_stretchOf_6 : decode cX2_stretchOf 6 = .ok (.iand, 1) := by decide +kernel
theorem dX2_stretchOf_7 : decode cX2_stretchOf 7 = .ok (.invokestatic 19, 3) := by decide +kernel
theorem dX2_stretchOf_10 : decode cX2_stretchOf 10 = .ok (.ireturn, 1) := by decide +kernel
set_option maxRecDepth 20000 in
theorem ggX2_lowestShort_X2_stretchOf : GoodIn wsX2_lowestShort wsX2_stretchOf := goodIn_r _ [4, 5, 6, 7, 8, 9, 10, 11] (by decide +kernel) (by decide +kernel)
set_option maxRecDepth 20000 in
theorem gX2_lowestShort_X2_stretchOf : GoodIn wsX2_lowestShort (va_wsS RX2 25 yX2_stretchOf wsX2_stretchOf) := goodIn_app (goodIn_of _ (by decide +kernel)) ggX2_lowestShort_X2_stretchOf
set_option maxRecDepth 20000 in
theorem ggX2_lowestShort_X5_bit : GoodIn wsX2_lowestShort wsX5_bit := goodIn_r _ [14] (by decide +kernel) (by decide +kernel)
set_option maxRecDepth 20000 in
theorem gX2_lowestShort_X5_bit_n9 : GoodIn wsX2_lowestShort (wsX5_bit) := ggX2_lowestShort_X5_bit
theorem dX2_lowestShort_0 : decode cX2_lowestShort 0 = .ok (.iload_n 1, 1) := by decide +kernel
theorem dX2_lowestShort_1 : decode cX2_lowestShort 1 = .ok (.iload_n 3, 1) := by decide +kernel
theorem dX2_lowestShort_2 : decode cX2_lowestShort 2 = .ok (.invokestatic 25, 3) := by decide +kernel
theorem dX2_lowestShort_5 : decode cX2_lowestShort 5 = .ok (.istore 4, 2) := by decide +kernel
theorem dX2_lowestShort_7 : decode cX2_lowestShort 7 = .ok (.iconst 0, 1) := by decide +kernel
theorem dX2_lowestShort_8 : decode cX2_lowestShort 8 = .ok (.istore 5, 2) := by decide +kernel
theorem dX2_lowestShort_10 : decode cX2_lowestShort 10 = .ok (.iload 5, 2) := by decide +kernel
theorem dX2_lowestShort_12 : decode cX2_lowestShort 12 = .ok (.iload_n 0, 1) := by decide +kernel
theorem dX2_lowestShort_13 : decode cX2_lowestShort 13 = .ok (.if_icmp .gt 33, 3) := by decide +kernel
theorem dX2_lowestShort_16 : decode cX2_lowestShort 16 = .ok (.iload_n 2, 1) := by decide +kernel
theorem dX2_lowestShort_17 : decode cX2_lowestShort 17 = .ok (.iload 5, 2) := by decide +kernel
theorem dX2_lowestShort_19 : decode cX2_lowestShort 19 = .ok (.invokestatic 9, 3) := by decide +kernel
theorem dX2_lowestShort_22 : decode cX2_lowestShort 22 = .ok (.iconst 1, 1) := by decide +kernel
theorem dX2_lowestShort_23 : decode cX2_lowestShort 23 = .ok (.if_icmp .ne 17, 3) := by decide +kernel
theorem dX2_lowestShort_26 : decode cX2_lowestShort 26 = .ok (.iload_n 1, 1) := by decide +kernel
theorem dX2_lowestShort_27 : decode cX2_lowestShort 27 = .ok (.iload 5, 2) := by decide +kernel
theorem dX2_lowestShort_29 : decode cX2_lowestShort 29 = .ok (.invokestatic 25, 3) := by decide +kernel
theorem dX2_lowestShort_32 : decode cX2_lowestShort 32 = .ok (.iload 4, 2) := by decide +kernel
theorem dX2_lowestShort_34 : decode cX2_lowestShort 34 = .ok (.if_icmp .ne 6, 3) := by decide +kernel
theorem dX2_lowestShort_37 : decode cX2_lowestShort 37 = .ok (.iload 5, 2) := by decide +kernel
theorem dX2_lowestShort_39 : decode cX2_lowestShort 39 = .ok (.ireturn, 1) := by decide +kernel
theorem dX2_lowestShort_40 : decode cX2_lowestShort 40 = .ok (.iinc 5 1, 3) := by decide +kernel
theorem dX2_lowestShort_43 : decode cX2_lowestShort 43 = .ok (.goto (-33), 3) := by decide +kernel
theorem dX2_lowestShort_46 : decode cX2_lowestShort 46 = .ok (.bipush (-4), 2) := by decide +kernel
theorem dX2_lowestShort_48 : decode cX2_lowestShort 48 = .ok (.ireturn, 1) := by decide +kernel
theorem dX3_init_0 : decode cX3_init 0 = .ok (.aload_n 0, 1) := by decide +kernel
theorem dX3_init_1 : decode cX3_init 1 = .ok (.invokespecial 3, 3) := by decide +kernel
theorem dX3_init_4 : decode cX3_init 4 = .ok (.aload_n 0, 1) := by decide +kernel
theorem dX3_init_5 : decode cX3_init 5 = .ok (.bipush 12, 2) := by decide +kernel
theorem dX3_init_7 : decode cX3_init 7 = .ok (.newarray .int, 2) := by decide +kernel
theorem dX3_init_9 : decode cX3_init 9 = .ok (.putfield 9, 3) := by decide +kernel
theorem dX3_init_12 : decode cX3_init 12 = .ok (.aload_n 0, 1) := by decide +kernel
theorem dX3_init_13 : decode cX3_init 13 = .ok (.bipush 12, 2) := by decide +kernel
theorem dX3_init_15 : decode cX3_init 15 = .ok (.newarray .int, 2) := by decide +kernel
theorem dX3_init_17 : decode cX3_init 17 = .ok (.putfield 15, 3) := by decide +kernel
theorem dX3_init_20 : decode cX3_init 20 = .ok (.aload_n 0, 1) := by decide +kernel
theorem dX3_init_21 : decode cX3_init 21 = .ok (.bipush 12, 2) := by decide +kernel
theorem dX3_init_23 : decode cX3_init 23 = .ok (.newarray .int, 2) := by decide +kernel
theorem dX3_init_25 : decode cX3_init 25 = .ok (.putfield 18, 3) := by decide +kernel
theorem dX3_init_28 : decode cX3_init 28 = .ok (.aload_n 0, 1) := by decide +kernel
theorem dX3_init_29 : decode cX3_init 29 = .ok (.bipush 6, 2) := by decide +kernel
theorem dX3_init_31 : decode cX3_init 31 = .ok (.newarray .int, 2) := by decide +kernel
theorem dX3_init_33 : decode cX3_init 33 = .ok (.putfield 21, 3) := by decide +kernel
theorem dX3_init_36 : decode cX3_init 36 = .ok (.aload_n 0, 1) := by decide +kernel
theorem dX3_init_37 : decode cX3_init 37 = .ok (.bipush 6, 2) := by decide +kernel
theorem dX3_init_39 : decode cX3_init 39 = .ok (.newarray .int, 2) := by decide +kernel
theorem dX3_init_41 : decode cX3_init 41 = .ok (.putfield 24, 3) := by decide +kernel
theorem dX3_init_44 : decode cX3_init 44 = .ok (.aload_n 0, 1) := by decide +kernel
theorem dX3_init_45 : decode cX3_init 45 = .ok (.iconst 1, 1) := by decide +kernel
theorem dX3_init_46 : decode cX3_init 46 = .ok (.putfield 27, 3) := by decide +kernel
theorem dX3_init_49 : decode cX3_init 49 = .ok (.return_, 1) := by decide +kernel
set_option maxRecDepth 20000 in
theorem ggX3_begin_J7_fill_53178 : GoodIn wsX3_begin wsJ7_fill_53178 := goodIn_r _ [10] (by decide +kernel) (by decide +kernel)
set_option maxRecDepth 20000 in
theorem gX3_begin_J7_fill_53178 : GoodIn wsX3_begin (va_wsS RX3 31 yJ7_fill_53178 wsJ7_fill_53178) := goodIn_app (goodIn_of _ (by decide +kernel)) ggX3_begin_J7_fill_53178
set_option maxRecDepth 20000 in
theorem ggX3_begin_X3_putBack : GoodIn wsX3_begin wsX3_putBack := goodIn_r _ [15, 16, 17, 18, 19, 20, 7, 8, 9, 10, 21, 22, 23, 24, 25, 26, 27, 28, 29, 30, 31, 32] (by decide +kernel) (by decide +kernel)
set_option maxRecDepth 20000 in
theorem gX3_begin_X3_putBack : GoodIn wsX3_begin (wsV RX3 46 RX3 yX3_putBack wsX3_putBack) := goodIn_app (goodIn_of _ (by decide +kernel)) ggX3_begin_X3_putBack
theorem dX3_begin_0 : decode cX3_begin 0 = .ok (.aload_n 0, 1) := by decide +kernel
theorem dX3_begin_1 : decode cX3_begin 1 = .ok (.getfield 9, 3) := by decide +kernel
theorem dX3_begin_4 : decode cX3_begin 4 = .ok (.iconst 0, 1) := by decide +kernel
theorem dX3_begin_5 : decode cX3_begin 5 = .ok (.invokestatic 31, 3) := by decide +kernel
theorem dX3_begin_8 : decode cX3_begin 8 = .ok (.aload_n 0, 1) := by decide +kernel
theorem dX3_begin_9 : decode cX3_begin 9 = .ok (.getfield 15, 3) := by decide +kernel
theorem dX3_begin_12 : decode cX3_begin 12 = .ok (.iconst 0, 1) := by decide +kernel
theorem dX3_begin_13 : decode cX3_begin 13 = .ok (.invokestatic 31, 3) := by decide +kernel
theorem dX3_begin_16 : decode cX3_begin 16 = .ok (.aload_n 0, 1) := by decide +kernel
theorem dX3_begin_17 : decode cX3_begin 17 = .ok (.iconst 0, 1) := by decide +kernel
theorem dX3_begin_18 : decode cX3_begin 18 = .ok (.putfield 37, 3) := by decide +kernel
theorem dX3_begin_21 : decode cX3_begin 21 = .ok (.aload_n 0, 1) := by decide +kernel
theorem dX3_begin_22 : decode cX3_begin 22 = .ok (.iconst 0, 1) := by decide +kernel
theorem dX3_begin_23 : decode cX3_begin 23 = .ok (.putfield 40, 3) := by decide +kernel
theorem dX3_begin_26 : decode cX3_begin 26 = .ok (.aload_n 0, 1) := by decide +kernel
theorem dX3_begin_27 : decode cX3_begin 27 = .ok (.iconst 0, 1) := by decide +kernel
theorem dX3_begin_28 : decode cX3_begin 28 = .ok (.putfield 43, 3) := by decide +kernel
theorem dX3_begin_31 : decode cX3_begin 31 = .ok (.aload_n 0, 1) := by decide +kernel
theorem dX3_begin_32 : decode cX3_begin 32 = .ok (.iconst 1, 1) := by decide +kernel
theorem dX3_begin_33 : decode cX3_begin 33 = .ok (.putfield 27, 3) := by decide +kernel
theorem dX3_begin_36 : decode cX3_begin 36 = .ok (.aload_n 0, 1) := by decide +kernel
theorem dX3_begin_37 : decode cX3_begin 37 = .ok (.invokevirtual 46, 3) := by decide +kernel
theorem dX3_begin_40 : decode cX3_begin 40 = .ok (.return_, 1) := by decide +kernel
set_option maxRecDepth 20000 in
theorem ggX3_putBack_J7_fill_53178 : GoodIn wsX3_putBack wsJ7_fill_53178 := goodIn_r _ [9] (by decide +kernel) (by decide +kernel)
set_option maxRecDepth 20000 in
theorem gX3_putBack_J7_fill_53178 : GoodIn wsX3_putBack (va_wsS RX3 31 yJ7_fill_53178 wsJ7_fill_53178) := goodIn_app (goodIn_of _ (by decide +kernel)) ggX3_putBack_J7_fill_53178
theorem dX3_putBack_0 : decode cX3_putBack 0 = .ok (.aload_n 0, 1) := by decide +kernel
theorem dX3_putBack_1 : decode cX3_putBack 1 = .ok (.getfield 18, 3) := by decide +kernel
theorem dX3_putBack_4 : decode cX3_putBack 4 = .ok (.iconst 0, 1) := by decide +kernel
theorem dX3_putBack_5 : decode cX3_putBack 5 = .ok (.invokestatic 31, 3) := by decide +kernel
theorem dX3_putBack_8 : decode cX3_putBack 8 = .ok (.aload_n 0, 1) := by decide +kernel
theorem dX3_putBack_9 : decode cX3_putBack 9 = .ok (.getfield 21, 3) := by decide +kernel
theorem dX3_putBack_12 : decode cX3_putBack 12 = .ok (.iconst 0, 1) := by decide +kernel
theorem dX3_putBack_13 : decode cX3_putBack 13 = .ok (.invokestatic 31, 3) := by decide +kernel
theorem dX3_putBack_16 : decode cX3_putBack 16 = .ok (.aload_n 0, 1) := by decide +kernel
theorem dX3_putBack_17 : decode cX3_putBack 17 = .ok (.iconst 0, 1) := by decide +kernel
theorem dX3_putBack_18 : decode cX3_putBack 18 = .ok (.putfield 49, 3) := by decide +kernel
theorem dX3_putBack_21 : decode cX3_putBack 21 = .ok (.aload_n 0, 1) := by decide +kernel
theorem dX3_putBack_22 : decode cX3_putBack 22 = .ok (.iconst 0, 1) := by decide +kernel
theorem dX3_putBack_23 : decode cX3_putBack 23 = .ok (.putfield 52, 3) := by decide +kernel
theorem dX3_putBack_26 : decode cX3_putBack 26 = .ok (.aload_n 0, 1) := by decide +kernel
theorem dX3_putBack_27 : decode cX3_putBack 27 = .ok (.iconst 0, 1) := by decide +kernel
theorem dX3_putBack_28 : decode cX3_putBack 28 = .ok (.putfield 55, 3) := by decide +kernel
theorem dX3_putBack_31 : decode cX3_putBack 31 = .ok (.return_, 1) := by decide +kernel
theorem dX3_copy_0 : decode cX3_copy 0 = .ok (.aload_n 1, 1) := by decide +kernel
theorem dX3_copy_1 : decode cX3_copy 1 = .ok (.getfield 9, 3) := by decide +kernel
theorem dX3_copy_4 : decode cX3_copy 4 = .ok (.iconst 0, 1) := by decide +kernel
theorem dX3_copy_5 : decode cX3_copy 5 = .ok (.aload_n 0, 1) := by decide +kernel
theorem dX3_copy_6 : decode cX3_copy 6 = .ok (.getfield 9, 3) := by decide +kernel
theorem dX3_copy_9 : decode cX3_copy 9 = .ok (.iconst 0, 1) := by decide +kernel
theorem dX3_copy_10 : decode cX3_copy 10 = .ok (.bipush 12, 2) := by decide +kernel
theorem dX3_copy_12 : decode cX3_copy 12 = .ok (.invokestatic 58, 3) := by decide +kernel
theorem dX3_copy_15 : decode cX3_copy 15 = .ok (.aload_n 1, 1) := by decide +kernel
theorem dX3_copy_16 : decode cX3_copy 16 = .ok (.getfield 15, 3) := by decide +kernel
theorem dX3_copy_19 : decode cX3_copy 19 = .ok (.iconst 0, 1) := by decide +kernel
theorem dX3_copy_20 : decode cX3_copy 20 = .ok (.aload_n 0, 1) := by decide +kernel
theorem dX3_copy_21 : decode cX3_copy 21 = .ok (.getfield 15, 3) := by decide +kernel
theorem dX3_copy_24 : decode cX3_copy 24 = .ok (.iconst 0, 1) := by decide +kernel
theorem dX3_copy_25 : decode cX3_copy 25 = .ok (.bipush 12, 2) := by decide +kernel
theorem dX3_copy_27 : decode cX3_copy 27 = .ok (.invokestatic 58, 3) := by decide +kernel
theorem dX3_copy_30 : decode cX3_copy 30 = .ok (.aload_n 1, 1) := by decide +kernel
theorem dX3_copy_31 : decode cX3_copy 31 = .ok (.getfield 18, 3) := by decide +kernel
theorem dX3_copy_34 : decode cX3_copy 34 = .ok (.iconst 0, 1) := by decide +kernel
theorem dX3_copy_35 : decode cX3_copy 35 = .ok (.aload_n 0, 1) := by decide +kernel
theorem dX3_copy_36 : decode cX3_copy 36 = .ok (.getfield 18, 3) := by decide +kernel
theorem dX3_copy_39 : decode cX3_copy 39 = .ok (.iconst 0, 1) := by decide +kernel
theorem dX3_copy_40 : decode cX3_copy 40 = .ok (.bipush 12, 2) := by decide +kernel
theorem dX3_copy_42 : decode cX3_copy 42 = .ok (.invokestatic 58, 3) := by decide +kernel
theorem dX3_copy_45 : decode cX3_copy 45 = .ok (.aload_n 1, 1) := by decide +kernel
theorem dX3_copy_46 : decode cX3_copy 46 = .ok (.getfield 21, 3) := by decide +kernel
theorem dX3_copy_49 : decode cX3_copy 49 = .ok (.iconst 0, 1) := by decide +kernel
theorem dX3_copy_50 : decode cX3_copy 50 = .ok (.aload_n 0, 1) := by decide +kernel
theorem dX3_copy_51 : decode cX3_copy 51 = .ok (.getfield 21, 3) := by decide +kernel
theorem dX3_copy_54 : decode cX3_copy 54 = .ok (.iconst 0, 1) := by decide +kernel
theorem dX3_copy_55 : decode cX3_copy 55 = .ok (.bipush 6, 2) := by decide +kernel
theorem dX3_copy_57 : decode cX3_copy 57 = .ok (.invokestatic 58, 3) := by decide +kernel
theorem dX3_copy_60 : decode cX3_copy 60 = .ok (.aload_n 1, 1) := by decide +kernel
theorem dX3_copy_61 : decode cX3_copy 61 = .ok (.getfield 24, 3) := by decide +kernel
theorem dX3_copy_64 : decode cX3_copy 64 = .ok (.iconst 0, 1) := by decide +kernel
theorem dX3_copy_65 : decode cX3_copy 65 = .ok (.aload_n 0, 1) := by decide +kernel
theorem dX3_copy_66 : decode cX3_copy 66 = .ok (.getfield 24, 3) := by decide +kernel
theorem dX3_copy_69 : decode cX3_copy 69 = .ok (.iconst 0, 1) := by decide +kernel
theorem dX3_copy_70 : decode cX3_copy 70 = .ok (.bipush 6, 2) := by decide +kernel
theorem dX3_copy_72 : decode cX3_copy 72 = .ok (.invokestatic 58, 3) := by decide +kernel
theorem dX3_copy_75 : decode cX3_copy 75 = .ok (.aload_n 0, 1) := by decide +kernel
theorem dX3_copy_76 : decode cX3_copy 76 = .ok (.aload_n 1, 1) := by decide +kernel
theorem dX3_copy_77 : decode cX3_copy 77 = .ok (.getfield 37, 3) := by decide +kernel
theorem dX3_copy_80 : decode cX3_copy 80 = .ok (.putfield 37, 3) := by decide +kernel
theorem dX3_copy_83 : decode cX3_copy 83 = .ok (.aload_n 0, 1) := by decide +kernel
theorem dX3_copy_84 : decode cX3_copy 84 = .ok (.aload_n 1, 1) := by decide +kernel
theorem dX3_copy_85 : decode cX3_copy 85 = .ok (.getfield 40, 3) := by decide +kernel
theorem dX3_copy_88 : decode cX3_copy 88 = .ok (.putfield 40, 3) := by decide +kernel
theorem dX3_copy_91 : decode cX3_copy 91 = .ok (.aload_n 0, 1) := by decide +kernel
theorem dX3_copy_92 : decode cX3_copy 92 = .ok (.aload_n 1, 1) := by decide +kernel
theorem dX3_copy_93 : decode cX3_copy 93 = .ok (.getfield 49, 3) := by decide +kernel
theorem dX3_copy_96 : decode cX3_copy 96 = .ok (.putfield 49, 3) := by decide +kernel
theorem dX3_copy_99 : decode cX3_copy 99 = .ok (.aload_n 0, 1) := by decide +kernel
theorem dX3_copy_100 : decode cX3_copy 100 = .ok (.aload_n 1, 1) := by decide +kernel
theorem dX3_copy_101 : decode cX3_copy 101 = .ok (.getfield 52, 3) := by decide +kernel
theorem dX3_copy_104 : decode cX3_copy 104 = .ok (.putfield 52, 3) := by decide +kernel
theorem dX3_copy_107 : decode cX3_copy 107 = .ok (.aload_n 0, 1) := by decide +kernel
theorem dX3_copy_108 : decode cX3_copy 108 = .ok (.aload_n 1, 1) := by decide +kernel
theorem dX3_copy_109 : decode cX3_copy 109 = .ok (.getfield 55, 3) := by decide +kernel
theorem dX3_copy_112 : decode cX3_copy 112 = .ok (.putfield 55, 3) := by decide +kernel
theorem dX3_copy_115 : decode cX3_copy 115 = .ok (.aload_n 0, 1) := by decide +kernel
theorem dX3_copy_116 : decode cX3_copy 116 = .ok (.aload_n 1, 1) := by decide +kernel
theorem dX3_copy_117 : decode cX3_copy 117 = .ok (.getfield 43, 3) := by decide +kernel
theorem dX3_copy_120 : decode cX3_copy 120 = .ok (.putfield 43, 3) := by decide +kernel
theorem dX3_copy_123 : decode cX3_copy 123 = .ok (.aload_n 0, 1) := by decide +kernel
theorem dX3_copy_124 : decode cX3_copy 124 = .ok (.aload_n 1, 1) := by decide +kernel
theorem dX3_copy_125 : decode cX3_copy 125 = .ok (.getfield 27, 3) := by decide +kernel
theorem dX3_copy_128 : decode cX3_copy 128 = .ok (.putfield 27, 3) := by decide +kernel
theorem dX3_copy_131 : decode cX3_copy 131 = .ok (.return_, 1) := by decide +kernel
set_option maxRecDepth 20000 in
theorem ggX3_conditionOf_X5_bit : GoodIn wsX3_conditionOf wsX5_bit := goodIn_r _ [5] (by decide +kernel) (by decide +kernel)
set_option maxRecDepth 20000 in
theorem gX3_conditionOf_X5_bit_n64 : GoodIn wsX3_conditionOf (wsX5_bit) := ggX3_conditionOf_X5_bit
theorem dX3_conditionOf_0 : decode cX3_conditionOf 0 = .ok (.aload_n 0, 1) := by decide +kernel
theorem dX3_conditionOf_1 : decode cX3_conditionOf 1 = .ok (.getfield 37, 3) := by decide +kernel
theorem dX3_conditionOf_4 : decode cX3_conditionOf 4 = .ok (.iload_n 1, 1) := by decide +kernel
theorem dX3_conditionOf_5 : decode cX3_conditionOf 5 = .ok (.invokestatic 64, 3) := by decide +kernel
theorem dX3_conditionOf_8 : decode cX3_conditionOf 8 = .ok (.iconst 1, 1) := by decide +kernel
theorem dX3_conditionOf_9 : decode cX3_conditionOf 9 = .ok (.if_icmp .ne 7, 3) := by decide +kernel
theorem dX3_conditionOf_12 : decode cX3_conditionOf 12 = .ok (.iconst 1, 1) := by decide +kernel
theorem dX3_conditionOf_13 : decode cX3_conditionOf 13 = .ok (.goto 20, 3) := by decide +kernel
theorem dX3_conditionOf_16 : decode cX3_conditionOf 16 = .ok (.aload_n 0, 1) := by decide +kernel
theorem dX3_conditionOf_17 : decode cX3_conditionOf 17 = .ok (.getfield 40, 3) := by decide +kernel
theorem dX3_conditionOf_20 : decode cX3_conditionOf 20 = .ok (.iload_n 1, 1) := by decide +kernel
theorem dX3_conditionOf_21 : decode cX3_conditionOf 21 = .ok (.invokestatic 64, 3) := by decide +kernel
theorem dX3_conditionOf_24 : decode cX3_conditionOf 24 = .ok (.iconst 1, 1) := by decide +kernel
theorem dX3_conditionOf_25 : decode cX3_conditionOf 25 = .ok (.if_icmp .ne 7, 3) := by decide +kernel
theorem dX3_conditionOf_28 : decode cX3_conditionOf 28 = .ok (.iconst 2, 1) := by decide +kernel
theorem dX3_conditionOf_29 : decode cX3_conditionOf 29 = .ok (.goto 4, 3) := by decide +kernel
theorem dX3_conditionOf_32 : decode cX3_conditionOf 32 = .ok (.iconst 0, 1) := by decide +kernel
theorem dX3_conditionOf_33 : decode cX3_conditionOf 33 = .ok (.ireturn, 1) := by decide +kernel
theorem dX3_setCondition_0 : decode cX3_setCondition 0 = .ok (.aload_n 0, 1) := by decide +kernel
theorem dX3_setCondition_1 : decode cX3_setCondition 1 = .ok (.dup, 1) := by decide +kernel
theorem dX3_setCondition_2 : decode cX3_setCondition 2 = .ok (.getfield 37, 3) := by decide +kernel
