theorem dX0_init_0 : decode cX0_init 0 = .ok (.aload_n 0, 1) := by decide +kernel
theorem dX0_init_1 : decode cX0_init 1 = .ok (.invokespecial 3, 3) := by decide +kernel
theorem dX0_init_4 : decode cX0_init 4 = .ok (.aload_n 0, 1) := by decide +kernel
theorem dX0_init_5 : decode cX0_init 5 = .ok (.bipush 60, 2) := by decide +kernel
theorem dX0_init_7 : decode cX0_init 7 = .ok (.newarray .int, 2) := by decide +kernel
theorem dX0_init_9 : decode cX0_init 9 = .ok (.putfield 9, 3) := by decide +kernel
theorem dX0_init_12 : decode cX0_init 12 = .ok (.aload_n 0, 1) := by decide +kernel
theorem dX0_init_13 : decode cX0_init 13 = .ok (.bipush 60, 2) := by decide +kernel
theorem dX0_init_15 : decode cX0_init 15 = .ok (.newarray .int, 2) := by decide +kernel
theorem dX0_init_17 : decode cX0_init 17 = .ok (.putfield 15, 3) := by decide +kernel
theorem dX0_init_20 : decode cX0_init 20 = .ok (.aload_n 0, 1) := by decide +kernel
theorem dX0_init_21 : decode cX0_init 21 = .ok (.iconst 0, 1) := by decide +kernel
theorem dX0_init_22 : decode cX0_init 22 = .ok (.putfield 18, 3) := by decide +kernel
theorem dX0_init_25 : decode cX0_init 25 = .ok (.aload_n 0, 1) := by decide +kernel
theorem dX0_init_26 : decode cX0_init 26 = .ok (.iconst (-1), 1) := by decide +kernel
theorem dX0_init_27 : decode cX0_init 27 = .ok (.putfield 22, 3) := by decide +kernel
theorem dX0_init_30 : decode cX0_init 30 = .ok (.return_, 1) := by decide +kernel
theorem dX0_startAt_0 : decode cX0_startAt 0 = .ok (.iload_n 1, 1) := by decide +kernel
theorem dX0_startAt_1 : decode cX0_startAt 1 = .ok (.ifCond .lt 20, 3) := by decide +kernel
theorem dX0_startAt_4 : decode cX0_startAt 4 = .ok (.iload_n 1, 1) := by decide +kernel
theorem dX0_startAt_5 : decode cX0_startAt 5 = .ok (.aload_n 0, 1) := by decide +kernel
theorem dX0_startAt_6 : decode cX0_startAt 6 = .ok (.getfield 18, 3) := by decide +kernel
theorem dX0_startAt_9 : decode cX0_startAt 9 = .ok (.if_icmp .ge 12, 3) := by decide +kernel
theorem dX0_startAt_12 : decode cX0_startAt 12 = .ok (.aload_n 0, 1) := by decide +kernel
theorem dX0_startAt_13 : decode cX0_startAt 13 = .ok (.getfield 9, 3) := by decide +kernel
theorem dX0_startAt_16 : decode cX0_startAt 16 = .ok (.iload_n 1, 1) := by decide +kernel
theorem dX0_startAt_17 : decode cX0_startAt 17 = .ok (.iaload, 1) := by decide +kernel
theorem dX0_startAt_18 : decode cX0_startAt 18 = .ok (.goto 4, 3) := by decide +kernel
theorem dX0_startAt_21 : decode cX0_startAt 21 = .ok (.iconst 0, 1) := by decide +kernel
theorem dX0_startAt_22 : decode cX0_startAt 22 = .ok (.ireturn, 1) := by decide +kernel
theorem dX0_sharedAt_0 : decode cX0_sharedAt 0 = .ok (.iload_n 1, 1) := by decide +kernel
theorem dX0_sharedAt_1 : decode cX0_sharedAt 1 = .ok (.ifCond .lt 20, 3) := by decide +kernel
theorem dX0_sharedAt_4 : decode cX0_sharedAt 4 = .ok (.iload_n 1, 1) := by decide +kernel
theorem dX0_sharedAt_5 : decode cX0_sharedAt 5 = .ok (.aload_n 0, 1) := by decide +kernel
theorem dX0_sharedAt_6 : decode cX0_sharedAt 6 = .ok (.getfield 18, 3) := by decide +kernel
theorem dX0_sharedAt_9 : decode cX0_sharedAt 9 = .ok (.if_icmp .ge 12, 3) := by decide +kernel
theorem dX0_sharedAt_12 : decode cX0_sharedAt 12 = .ok (.aload_n 0, 1) := by decide +kernel
theorem dX0_sharedAt_13 : decode cX0_sharedAt 13 = .ok (.getfield 15, 3) := by decide +kernel
theorem dX0_sharedAt_16 : decode cX0_sharedAt 16 = .ok (.iload_n 1, 1) := by decide +kernel
theorem dX0_sharedAt_17 : decode cX0_sharedAt 17 = .ok (.iaload, 1) := by decide +kernel
theorem dX0_sharedAt_18 : decode cX0_sharedAt 18 = .ok (.goto 4, 3) := by decide +kernel
theorem dX0_sharedAt_21 : decode cX0_sharedAt 21 = .ok (.iconst 0, 1) := by decide +kernel
theorem dX0_sharedAt_22 : decode cX0_sharedAt 22 = .ok (.ireturn, 1) := by decide +kernel
set_option maxRecDepth 20000 in
theorem ggX0_refresh_X5_versionTaken : GoodIn wsX0_refresh wsX5_versionTaken := goodIn_r _ [9, 10, 52, 53, 54, 55, 56, 57, 58, 59] (by decide +kernel) (by decide +kernel)
set_option maxRecDepth 20000 in
theorem gX0_refresh_X5_versionTaken : GoodIn wsX0_refresh (wsV RX0 25 RX5 yX5_versionTaken wsX5_versionTaken) := goodIn_app (goodIn_of _ (by decide +kernel)) ggX0_refresh_X5_versionTaken
set_option maxRecDepth 20000 in
theorem ggX0_refresh_X5_length : GoodIn wsX0_refresh wsX5_length := goodIn_r _ [14, 15, 52, 53, 54, 55, 56, 57, 58, 59] (by decide +kernel) (by decide +kernel)
set_option maxRecDepth 20000 in
theorem gX0_refresh_X5_length : GoodIn wsX0_refresh (wsV RX0 31 RX5 yX5_length wsX5_length) := goodIn_app (goodIn_of _ (by decide +kernel)) ggX0_refresh_X5_length
set_option maxRecDepth 20000 in
theorem ggX0_refresh_X0_insert : GoodIn wsX0_refresh wsX0_insert := goodIn_r _ [20, 2, 4, 21, 22, 23, 8, 24, 25, 26, 27, 28, 29, 30, 31, 32, 33, 34, 35, 36, 37, 38, 39, 40, 41, 15, 42, 43, 44, 45, 46, 48, 49, 50, 51, 52, 53, 54, 55, 56, 57, 58, 59] (by decide +kernel) (by decide +kernel)
set_option maxRecDepth 20000 in
theorem gX0_refresh_X0_insert : GoodIn wsX0_refresh (wsV RX0 34 RX0 yX0_insert wsX0_insert) := goodIn_app (goodIn_of _ (by decide +kernel)) ggX0_refresh_X0_insert
set_option maxRecDepth 20000 in
theorem ggX0_refresh_X5_sharedFrom : GoodIn wsX0_refresh wsX5_sharedFrom := goodIn_r _ [28, 29, 30, 31, 32, 33, 34, 35, 8, 36, 37, 38, 39, 40, 41, 15, 42, 43, 44, 45, 46, 52, 53, 54, 55, 56, 57, 58, 59] (by decide +kernel) (by decide +kernel)
set_option maxRecDepth 20000 in
theorem gX0_refresh_X5_sharedFrom : GoodIn wsX0_refresh (wsV RX0 38 RX5 yX5_sharedFrom wsX5_sharedFrom) := goodIn_app (goodIn_of _ (by decide +kernel)) ggX0_refresh_X5_sharedFrom
theorem dX0_refresh_0 : decode cX0_refresh 0 = .ok (.aload_n 0, 1) := by decide +kernel
theorem dX0_refresh_1 : decode cX0_refresh 1 = .ok (.getfield 22, 3) := by decide +kernel
theorem dX0_refresh_4 : decode cX0_refresh 4 = .ok (.aload_n 1, 1) := by decide +kernel
theorem dX0_refresh_5 : decode cX0_refresh 5 = .ok (.invokevirtual 25, 3) := by decide +kernel
theorem dX0_refresh_8 : decode cX0_refresh 8 = .ok (.if_icmp .ne 4, 3) := by decide +kernel
theorem dX0_refresh_11 : decode cX0_refresh 11 = .ok (.return_, 1) := by decide +kernel
theorem dX0_refresh_12 : decode cX0_refresh 12 = .ok (.aload_n 0, 1) := by decide +kernel
theorem dX0_refresh_13 : decode cX0_refresh 13 = .ok (.aload_n 1, 1) := by decide +kernel
theorem dX0_refresh_14 : decode cX0_refresh 14 = .ok (.invokevirtual 25, 3) := by decide +kernel
theorem dX0_refresh_17 : decode cX0_refresh 17 = .ok (.putfield 22, 3) := by decide +kernel
theorem dX0_refresh_20 : decode cX0_refresh 20 = .ok (.aload_n 0, 1) := by decide +kernel
theorem dX0_refresh_21 : decode cX0_refresh 21 = .ok (.iconst 0, 1) := by decide +kernel
theorem dX0_refresh_22 : decode cX0_refresh 22 = .ok (.putfield 18, 3) := by decide +kernel
theorem dX0_refresh_25 : decode cX0_refresh 25 = .ok (.aload_n 1, 1) := by decide +kernel
theorem dX0_refresh_26 : decode cX0_refresh 26 = .ok (.invokevirtual 31, 3) := by decide +kernel
theorem dX0_refresh_29 : decode cX0_refresh 29 = .ok (.iconst 1, 1) := by decide +kernel
theorem dX0_refresh_30 : decode cX0_refresh 30 = .ok (.isub, 1) := by decide +kernel
theorem dX0_refresh_31 : decode cX0_refresh 31 = .ok (.istore_n 2, 1) := by decide +kernel
theorem dX0_refresh_32 : decode cX0_refresh 32 = .ok (.iload_n 2, 1) := by decide +kernel
theorem dX0_refresh_33 : decode cX0_refresh 33 = .ok (.ifCond .lt 15, 3) := by decide +kernel
theorem dX0_refresh_36 : decode cX0_refresh 36 = .ok (.aload_n 0, 1) := by decide +kernel
theorem dX0_refresh_37 : decode cX0_refresh 37 = .ok (.aload_n 1, 1) := by decide +kernel
theorem dX0_refresh_38 : decode cX0_refresh 38 = .ok (.iload_n 2, 1) := by decide +kernel
theorem dX0_refresh_39 : decode cX0_refresh 39 = .ok (.invokevirtual 34, 3) := by decide +kernel
theorem dX0_refresh_42 : decode cX0_refresh 42 = .ok (.iinc 2 (-1), 3) := by decide +kernel
theorem dX0_refresh_45 : decode cX0_refresh 45 = .ok (.goto (-13), 3) := by decide +kernel
theorem dX0_refresh_48 : decode cX0_refresh 48 = .ok (.iconst 0, 1) := by decide +kernel
theorem dX0_refresh_49 : decode cX0_refresh 49 = .ok (.istore_n 2, 1) := by decide +kernel
theorem dX0_refresh_50 : decode cX0_refresh 50 = .ok (.iload_n 2, 1) := by decide +kernel
theorem dX0_refresh_51 : decode cX0_refresh 51 = .ok (.aload_n 0, 1) := by decide +kernel
theorem dX0_refresh_52 : decode cX0_refresh 52 = .ok (.getfield 18, 3) := by decide +kernel
theorem dX0_refresh_55 : decode cX0_refresh 55 = .ok (.if_icmp .ge 42, 3) := by decide +kernel
theorem dX0_refresh_58 : decode cX0_refresh 58 = .ok (.aload_n 0, 1) := by decide +kernel
theorem dX0_refresh_59 : decode cX0_refresh 59 = .ok (.getfield 15, 3) := by decide +kernel
theorem dX0_refresh_62 : decode cX0_refresh 62 = .ok (.iload_n 2, 1) := by decide +kernel
theorem dX0_refresh_63 : decode cX0_refresh 63 = .ok (.iload_n 2, 1) := by decide +kernel
theorem dX0_refresh_64 : decode cX0_refresh 64 = .ok (.ifCond .ne 7, 3) := by decide +kernel
theorem dX0_refresh_67 : decode cX0_refresh 67 = .ok (.iconst 0, 1) := by decide +kernel
theorem dX0_refresh_68 : decode cX0_refresh 68 = .ok (.goto 22, 3) := by decide +kernel
theorem dX0_refresh_71 : decode cX0_refresh 71 = .ok (.aload_n 1, 1) := by decide +kernel
theorem dX0_refresh_72 : decode cX0_refresh 72 = .ok (.aload_n 0, 1) := by decide +kernel
theorem dX0_refresh_73 : decode cX0_refresh 73 = .ok (.getfield 9, 3) := by decide +kernel
theorem dX0_refresh_76 : decode cX0_refresh 76 = .ok (.iload_n 2, 1) := by decide +kernel
theorem dX0_refresh_77 : decode cX0_refresh 77 = .ok (.iconst 1, 1) := by decide +kernel
theorem dX0_refresh_78 : decode cX0_refresh 78 = .ok (.isub, 1) := by decide +kernel
theorem dX0_refresh_79 : decode cX0_refresh 79 = .ok (.iaload, 1) := by decide +kernel
theorem dX0_refresh_80 : decode cX0_refresh 80 = .ok (.aload_n 1, 1) := by decide +kernel
theorem dX0_refresh_81 : decode cX0_refresh 81 = .ok (.aload_n 0, 1) := by decide +kernel
theorem dX0_refresh_82 : decode cX0_refresh 82 = .ok (.getfield 9, 3) := by decide +kernel
theorem dX0_refresh_85 : decode cX0_refresh 85 = .ok (.iload_n 2, 1) := by decide +kernel
theorem dX0_refresh_86 : decode cX0_refresh 86 = .ok (.iaload, 1) := by decide +kernel
theorem dX0_refresh_87 : decode cX0_refresh 87 = .ok (.invokevirtual 38, 3) := by decide +kernel
theorem dX0_refresh_90 : decode cX0_refresh 90 = .ok (.iastore, 1) := by decide +kernel
theorem dX0_refresh_91 : decode cX0_refresh 91 = .ok (.iinc 2 1, 3) := by decide +kernel
theorem dX0_refresh_94 : decode cX0_refresh 94 = .ok (.goto (-44), 3) := by decide +kernel
theorem dX0_refresh_97 : decode cX0_refresh 97 = .ok (.return_, 1) := by decide +kernel
set_option maxRecDepth 20000 in
theorem ggX0_insert_X5_comesBefore : GoodIn wsX0_insert wsX5_comesBefore := goodIn_r _ [7, 8, 9, 10, 6, 11, 12, 13, 14, 15, 16, 17, 18, 19, 20, 21, 22, 23, 24, 25, 26, 27, 28, 29, 30, 35, 36, 37, 38, 39, 40, 41, 42] (by decide +kernel) (by decide +kernel)
set_option maxRecDepth 20000 in
theorem gX0_insert_X5_comesBefore : GoodIn wsX0_insert (wsV RX0 42 RX5 yX5_comesBefore wsX5_comesBefore) := goodIn_app (goodIn_of _ (by decide +kernel)) ggX0_insert_X5_comesBefore
theorem dX0_insert_0 : decode cX0_insert 0 = .ok (.aload_n 0, 1) := by decide +kernel
theorem dX0_insert_1 : decode cX0_insert 1 = .ok (.getfield 18, 3) := by decide +kernel
theorem dX0_insert_4 : decode cX0_insert 4 = .ok (.bipush 60, 2) := by decide +kernel
theorem dX0_insert_6 : decode cX0_insert 6 = .ok (.if_icmp .lt 4, 3) := by decide +kernel
theorem dX0_insert_9 : decode cX0_insert 9 = .ok (.return_, 1) := by decide +kernel
theorem dX0_insert_10 : decode cX0_insert 10 = .ok (.aload_n 0, 1) := by decide +kernel
theorem dX0_insert_11 : decode cX0_insert 11 = .ok (.getfield 18, 3) := by decide +kernel
theorem dX0_insert_14 : decode cX0_insert 14 = .ok (.istore_n 3, 1) := by decide +kernel
theorem dX0_insert_15 : decode cX0_insert 15 = .ok (.iload_n 3, 1) := by decide +kernel
theorem dX0_insert_16 : decode cX0_insert 16 = .ok (.ifCond .le 39, 3) := by decide +kernel
theorem dX0_insert_19 : decode cX0_insert 19 = .ok (.aload_n 1, 1) := by decide +kernel
theorem dX0_insert_20 : decode cX0_insert 20 = .ok (.iload_n 2, 1) := by decide +kernel
theorem dX0_insert_21 : decode cX0_insert 21 = .ok (.aload_n 0, 1) := by decide +kernel
theorem dX0_insert_22 : decode cX0_insert 22 = .ok (.getfield 9, 3) := by decide +kernel
theorem dX0_insert_25 : decode cX0_insert 25 = .ok (.iload_n 3, 1) := by decide +kernel
theorem dX0_insert_26 : decode cX0_insert 26 = .ok (.iconst 1, 1) := by decide +kernel
theorem dX0_insert_27 : decode cX0_insert 27 = .ok (.isub, 1) := by decide +kernel
theorem dX0_insert_28 : decode cX0_insert 28 = .ok (.iaload, 1) := by decide +kernel
theorem dX0_insert_29 : decode cX0_insert 29 = .ok (.invokevirtual 42, 3) := by decide +kernel
theorem dX0_insert_32 : decode cX0_insert 32 = .ok (.ifCond .eq 23, 3) := by decide +kernel
theorem dX0_insert_35 : decode cX0_insert 35 = .ok (.aload_n 0, 1) := by decide +kernel
theorem dX0_insert_36 : decode cX0_insert 36 = .ok (.getfield 9, 3) := by decide +kernel
theorem dX0_insert_39 : decode cX0_insert 39 = .ok (.iload_n 3, 1) := by decide +kernel
theorem dX0_insert_40 : decode cX0_insert 40 = .ok (.aload_n 0, 1) := by decide +kernel
theorem dX0_insert_41 : decode cX0_insert 41 = .ok (.getfield 9, 3) := by decide +kernel
theorem dX0_insert_44 : decode cX0_insert 44 = .ok (.iload_n 3, 1) := by decide +kernel
theorem dX0_insert_45 : decode cX0_insert 45 = .ok (.iconst 1, 1) := by decide +kernel
theorem dX0_insert_46 : decode cX0_insert 46 = .ok (.isub, 1) := by decide +kernel
theorem dX0_insert_47 : decode cX0_insert 47 = .ok (.iaload, 1) := by decide +kernel
theorem dX0_insert_48 : decode cX0_insert 48 = .ok (.iastore, 1) := by decide +kernel
theorem dX0_insert_49 : decode cX0_insert 49 = .ok (.iinc 3 (-1), 3) := by decide +kernel
theorem dX0_insert_52 : decode cX0_insert 52 = .ok (.goto (-37), 3) := by decide +kernel
theorem dX0_insert_55 : decode cX0_insert 55 = .ok (.aload_n 0, 1) := by decide +kernel
theorem dX0_insert_56 : decode cX0_insert 56 = .ok (.getfield 9, 3) := by decide +kernel
theorem dX0_insert_59 : decode cX0_insert 59 = .ok (.iload_n 3, 1) := by decide +kernel
theorem dX0_insert_60 : decode cX0_insert 60 = .ok (.iload_n 2, 1) := by decide +kernel
theorem dX0_insert_61 : decode cX0_insert 61 = .ok (.iastore, 1) := by decide +kernel
theorem dX0_insert_62 : decode cX0_insert 62 = .ok (.aload_n 0, 1) := by decide +kernel
theorem dX0_insert_63 : decode cX0_insert 63 = .ok (.dup, 1) := by decide +kernel
theorem dX0_insert_64 : decode cX0_insert 64 = .ok (.getfield 18, 3) := by decide +kernel
theorem dX0_insert_67 : decode cX0_insert 67 = .ok (.iconst 1, 1) := by decide +kernel
theorem dX0_insert_68 : decode cX0_insert 68 = .ok (.iadd, 1) := by decide +kernel
theorem dX0_insert_69 : decode cX0_insert 69 = .ok (.putfield 18, 3) := by decide +kernel
theorem dX0_insert_72 : decode cX0_insert 72 = .ok (.return_, 1) := by decide +kernel
set_option maxRecDepth 20000 in
theorem ggX0_factorsBefore_X0_lengthBefore : GoodIn wsX0_factorsBefore wsX0_lengthBefore := goodIn_r _ [12, 13, 14, 15, 16, 17, 18, 19, 6, 20, 21, 22, 23, 24, 25, 26, 27, 28, 29, 30, 31, 32, 33, 34, 35, 36, 37, 38, 39, 40, 41, 46, 47, 48, 49, 50, 51, 52, 53] (by decide +kernel) (by decide +kernel)
set_option maxRecDepth 20000 in
theorem gX0_factorsBefore_X0_lengthBefore : GoodIn wsX0_factorsBefore (wsV RX0 46 RX0 yX0_lengthBefore wsX0_lengthBefore) := goodIn_app (goodIn_of _ (by decide +kernel)) ggX0_factorsBefore_X0_lengthBefore
theorem dX0_factorsBefore_0 : decode cX0_factorsBefore 0 = .ok (.iconst 0, 1) := by decide +kernel
theorem dX0_factorsBefore_1 : decode cX0_factorsBefore 1 = .ok (.istore_n 3, 1) := by decide +kernel
theorem dX0_factorsBefore_2 : decode cX0_factorsBefore 2 = .ok (.iconst 0, 1) := by decide +kernel
theorem dX0_factorsBefore_3 : decode cX0_factorsBefore 3 = .ok (.istore 4, 2) := by decide +kernel
theorem dX0_factorsBefore_5 : decode cX0_factorsBefore 5 = .ok (.iload 4, 2) := by decide +kernel
theorem dX0_factorsBefore_7 : decode cX0_factorsBefore 7 = .ok (.aload_n 0, 1) := by decide +kernel
theorem dX0_factorsBefore_8 : decode cX0_factorsBefore 8 = .ok (.getfield 18, 3) := by decide +kernel
theorem dX0_factorsBefore_11 : decode cX0_factorsBefore 11 = .ok (.if_icmp .ge 37, 3) := by decide +kernel
theorem dX0_factorsBefore_14 : decode cX0_factorsBefore 14 = .ok (.iload_n 3, 1) := by decide +kernel
theorem dX0_factorsBefore_15 : decode cX0_factorsBefore 15 = .ok (.iconst 0, 1) := by decide +kernel
theorem dX0_factorsBefore_16 : decode cX0_factorsBefore 16 = .ok (.aload_n 0, 1) := by decide +kernel
theorem dX0_factorsBefore_17 : decode cX0_factorsBefore 17 = .ok (.aload_n 1, 1) := by decide +kernel
theorem dX0_factorsBefore_18 : decode cX0_factorsBefore 18 = .ok (.aload_n 0, 1) := by decide +kernel
theorem dX0_factorsBefore_19 : decode cX0_factorsBefore 19 = .ok (.getfield 9, 3) := by decide +kernel
theorem dX0_factorsBefore_22 : decode cX0_factorsBefore 22 = .ok (.iload 4, 2) := by decide +kernel
theorem dX0_factorsBefore_24 : decode cX0_factorsBefore 24 = .ok (.iaload, 1) := by decide +kernel
theorem dX0_factorsBefore_25 : decode cX0_factorsBefore 25 = .ok (.aload_n 2, 1) := by decide +kernel
theorem dX0_factorsBefore_26 : decode cX0_factorsBefore 26 = .ok (.invokevirtual 46, 3) := by decide +kernel
theorem dX0_factorsBefore_29 : decode cX0_factorsBefore 29 = .ok (.aload_n 0, 1) := by decide +kernel
theorem dX0_factorsBefore_30 : decode cX0_factorsBefore 30 = .ok (.getfield 15, 3) := by decide +kernel
theorem dX0_factorsBefore_33 : decode cX0_factorsBefore 33 = .ok (.iload 4, 2) := by decide +kernel
theorem dX0_factorsBefore_35 : decode cX0_factorsBefore 35 = .ok (.iaload, 1) := by decide +kernel
theorem dX0_factorsBefore_36 : decode cX0_factorsBefore 36 = .ok (.isub, 1) := by decide +kernel
theorem dX0_factorsBefore_37 : decode cX0_factorsBefore 37 = .ok (.invokestatic 50, 3) := by decide +kernel
theorem dX0_factorsBefore_40 : decode cX0_factorsBefore 40 = .ok (.iadd, 1) := by decide +kernel
theorem dX0_factorsBefore_41 : decode cX0_factorsBefore 41 = .ok (.istore_n 3, 1) := by decide +kernel
theorem dX0_factorsBefore_42 : decode cX0_factorsBefore 42 = .ok (.iinc 4 1, 3) := by decide +kernel
theorem dX0_factorsBefore_45 : decode cX0_factorsBefore 45 = .ok (.goto (-40), 3) := by decide +kernel
theorem dX0_factorsBefore_48 : decode cX0_factorsBefore 48 = .ok (.iload_n 3, 1) := by decide +kernel
theorem dX0_factorsBefore_49 : decode cX0_factorsBefore 49 = .ok (.ireturn, 1) := by decide +kernel
set_option maxRecDepth 20000 in
theorem ggX0_lengthBefore_X5_sharedFrom : GoodIn wsX0_lengthBefore wsX5_sharedFrom := goodIn_r _ [5, 6, 7, 8, 9, 10, 11, 12, 4, 13, 14, 15, 16, 17, 18, 19, 20, 21, 22, 23, 24, 31, 32, 33, 34, 35, 36, 37, 38] (by decide +kernel) (by decide +kernel)
set_option maxRecDepth 20000 in
theorem gX0_lengthBefore_X5_sharedFrom : GoodIn wsX0_lengthBefore (wsV RX0 38 RX5 yX5_sharedFrom wsX5_sharedFrom) := goodIn_app (goodIn_of _ (by decide +kernel)) ggX0_lengthBefore_X5_sharedFrom
set_option maxRecDepth 20000 in
theorem ggX0_lengthBefore_X5_length : GoodIn wsX0_lengthBefore wsX5_length := goodIn_r _ [28, 19, 31, 32, 33, 34, 35, 36, 37, 38] (by decide +kernel) (by decide +kernel)
set_option maxRecDepth 20000 in
theorem gX0_lengthBefore_X5_length : GoodIn wsX0_lengthBefore (wsV RX0 31 RX5 yX5_length wsX5_length) := goodIn_app (goodIn_of _ (by decide +kernel)) ggX0_lengthBefore_X5_length
set_option maxRecDepth 20000 in
theorem ggX0_lengthBefore_X5_lettersFrom : GoodIn wsX0_lengthBefore wsX5_lettersFrom := goodIn_r _ [13, 14, 15, 16, 17, 4, 18, 19, 31, 32, 33, 34, 35, 36, 37, 38] (by decide +kernel) (by decide +kernel)
set_option maxRecDepth 20000 in
theorem gX0_lengthBefore_X5_lettersFrom : GoodIn wsX0_lengthBefore (wsV RX0 56 RX5 yX5_lettersFrom wsX5_lettersFrom) := goodIn_app (goodIn_of _ (by decide +kernel)) ggX0_lengthBefore_X5_lettersFrom
set_option maxRecDepth 20000 in
theorem ggX0_lengthBefore_X5_letterAt : GoodIn wsX0_lengthBefore wsX5_letterAt := goodIn_r _ [23, 24, 15, 16, 17, 4, 18, 19, 31, 32, 33, 34, 35, 36, 37, 38] (by decide +kernel) (by decide +kernel)
set_option maxRecDepth 20000 in
theorem gX0_lengthBefore_X5_letterAt : GoodIn wsX0_lengthBefore (wsV RX0 60 RX5 yX5_letterAt wsX5_letterAt) := goodIn_app (goodIn_of _ (by decide +kernel)) ggX0_lengthBefore_X5_letterAt
theorem dX0_lengthBefore_0 : decode cX0_lengthBefore 0 = .ok (.aload_n 1, 1) := by decide +kernel
theorem dX0_lengthBefore_1 : decode cX0_lengthBefore 1 = .ok (.iload_n 2, 1) := by decide +kernel
theorem dX0_lengthBefore_2 : decode cX0_lengthBefore 2 = .ok (.aload_n 3, 1) := by decide +kernel
theorem dX0_lengthBefore_3 : decode cX0_lengthBefore 3 = .ok (.iconst 0, 1) := by decide +kernel
theorem dX0_lengthBefore_4 : decode cX0_lengthBefore 4 = .ok (.invokevirtual 38, 3) := by decide +kernel
theorem dX0_lengthBefore_7 : decode cX0_lengthBefore 7 = .ok (.istore 4, 2) := by decide +kernel
theorem dX0_lengthBefore_9 : decode cX0_lengthBefore 9 = .ok (.iload 4, 2) := by decide +kernel
theorem dX0_lengthBefore_11 : decode cX0_lengthBefore 11 = .ok (.aload_n 3, 1) := by decide +kernel
theorem dX0_lengthBefore_12 : decode cX0_lengthBefore 12 = .ok (.invokevirtual 31, 3) := by decide +kernel
theorem dX0_lengthBefore_15 : decode cX0_lengthBefore 15 = .ok (.if_icmp .ne 8, 3) := by decide +kernel
theorem dX0_lengthBefore_18 : decode cX0_lengthBefore 18 = .ok (.iload 4, 2) := by decide +kernel
theorem dX0_lengthBefore_20 : decode cX0_lengthBefore 20 = .ok (.iconst 1, 1) := by decide +kernel
theorem dX0_lengthBefore_21 : decode cX0_lengthBefore 21 = .ok (.isub, 1) := by decide +kernel
theorem dX0_lengthBefore_22 : decode cX0_lengthBefore 22 = .ok (.ireturn, 1) := by decide +kernel
theorem dX0_lengthBefore_23 : decode cX0_lengthBefore 23 = .ok (.iload 4, 2) := by decide +kernel
theorem dX0_lengthBefore_25 : decode cX0_lengthBefore 25 = .ok (.aload_n 1, 1) := by decide +kernel
theorem dX0_lengthBefore_26 : decode cX0_lengthBefore 26 = .ok (.iload_n 2, 1) := by decide +kernel
theorem dX0_lengthBefore_27 : decode cX0_lengthBefore 27 = .ok (.invokevirtual 56, 3) := by decide +kernel
theorem dX0_lengthBefore_30 : decode cX0_lengthBefore 30 = .ok (.if_icmp .ge 24, 3) := by decide +kernel
theorem dX0_lengthBefore_33 : decode cX0_lengthBefore 33 = .ok (.aload_n 1, 1) := by decide +kernel
theorem dX0_lengthBefore_34 : decode cX0_lengthBefore 34 = .ok (.iload_n 2, 1) := by decide +kernel
theorem dX0_lengthBefore_35 : decode cX0_lengthBefore 35 = .ok (.iload 4, 2) := by decide +kernel
theorem dX0_lengthBefore_37 : decode cX0_lengthBefore 37 = .ok (.iadd, 1) := by decide +kernel
theorem dX0_lengthBefore_38 : decode cX0_lengthBefore 38 = .ok (.invokevirtual 60, 3) := by decide +kernel
theorem dX0_lengthBefore_41 : decode cX0_lengthBefore 41 = .ok (.aload_n 3, 1) := by decide +kernel
theorem dX0_lengthBefore_42 : decode cX0_lengthBefore 42 = .ok (.iload 4, 2) := by decide +kernel
theorem dX0_lengthBefore_44 : decode cX0_lengthBefore 44 = .ok (.invokevirtual 60, 3) := by decide +kernel
theorem dX0_lengthBefore_47 : decode cX0_lengthBefore 47 = .ok (.if_icmp .le 7, 3) := by decide +kernel
theorem dX0_lengthBefore_50 : decode cX0_lengthBefore 50 = .ok (.iconst 1, 1) := by decide +kernel
theorem dX0_lengthBefore_51 : decode cX0_lengthBefore 51 = .ok (.goto 4, 3) := by decide +kernel
theorem dX0_lengthBefore_54 : decode cX0_lengthBefore 54 = .ok (.iconst 0, 1) := by decide +kernel
theorem dX0_lengthBefore_55 : decode cX0_lengthBefore 55 = .ok (.istore 5, 2) := by decide +kernel
theorem dX0_lengthBefore_57 : decode cX0_lengthBefore 57 = .ok (.iload 5, 2) := by decide +kernel
theorem dX0_lengthBefore_59 : decode cX0_lengthBefore 59 = .ok (.ifCond .eq 8, 3) := by decide +kernel
theorem dX0_lengthBefore_62 : decode cX0_lengthBefore 62 = .ok (.iload 4, 2) := by decide +kernel
theorem dX0_lengthBefore_64 : decode cX0_lengthBefore 64 = .ok (.goto 8, 3) := by decide +kernel
theorem dX0_lengthBefore_67 : decode cX0_lengthBefore 67 = .ok (.aload_n 1, 1) := by decide +kernel
theorem dX0_lengthBefore_68 : decode cX0_lengthBefore 68 = .ok (.iload_n 2, 1) := by decide +kernel
theorem dX0_lengthBefore_69 : decode cX0_lengthBefore 69 = .ok (.invokevirtual 56, 3) := by decide +kernel
theorem dX0_lengthBefore_72 : decode cX0_lengthBefore 72 = .ok (.ireturn, 1) := by decide +kernel
set_option maxRecDepth 20000 in
theorem ggX1_init_X4_init : GoodIn wsX1_init wsX4_init := goodIn_r _ [23, 24, 2, 3, 8, 25, 26] (by decide +kernel) (by decide +kernel)
set_option maxRecDepth 20000 in
theorem gX1_init_X4_init_n11 : GoodIn wsX1_init (wsX4_init) := ggX1_init_X4_init
theorem dX1_init_0 : decode cX1_init 0 = .ok (.aload_n 0, 1) := by decide +kernel
theorem dX1_init_1 : decode cX1_init 1 = .ok (.invokespecial 3, 3) := by decide +kernel
theorem dX1_init_4 : decode cX1_init 4 = .ok (.aload_n 0, 1) := by decide +kernel
theorem dX1_init_5 : decode cX1_init 5 = .ok (.new 9, 3) := by decide +kernel
theorem dX1_init_8 : decode cX1_init 8 = .ok (.dup, 1) := by decide +kernel
theorem dX1_init_9 : decode cX1_init 9 = .ok (.invokespecial 11, 3) := by decide +kernel
theorem dX1_init_12 : decode cX1_init 12 = .ok (.putfield 12, 3) := by decide +kernel
theorem dX1_init_15 : decode cX1_init 15 = .ok (.aload_n 0, 1) := by decide +kernel
theorem dX1_init_16 : decode cX1_init 16 = .ok (.bipush 61, 2) := by decide +kernel
theorem dX1_init_18 : decode cX1_init 18 = .ok (.newarray .int, 2) := by decide +kernel
theorem dX1_init_20 : decode cX1_init 20 = .ok (.putfield 18, 3) := by decide +kernel
theorem dX1_init_23 : decode cX1_init 23 = .ok (.aload_n 0, 1) := by decide +kernel
theorem dX1_init_24 : decode cX1_init 24 = .ok (.bipush 60, 2) := by decide +kernel
theorem dX1_init_26 : decode cX1_init 26 = .ok (.bipush 61, 2) := by decide +kernel
theorem dX1_init_28 : decode cX1_init 28 = .ok (.multianewarray 22 2, 4) := by decide +kernel
theorem dX1_init_32 : decode cX1_init 32 = .ok (.putfield 24, 3) := by decide +kernel
theorem dX1_init_35 : decode cX1_init 35 = .ok (.aload_n 0, 1) := by decide +kernel
theorem dX1_init_36 : decode cX1_init 36 = .ok (.bipush 120, 2) := by decide +kernel
theorem dX1_init_38 : decode cX1_init 38 = .ok (.newarray .int, 2) := by decide +kernel
theorem dX1_init_40 : decode cX1_init 40 = .ok (.putfield 27, 3) := by decide +kernel
theorem dX1_init_43 : decode cX1_init 43 = .ok (.aload_n 0, 1) := by decide +kernel
theorem dX1_init_44 : decode cX1_init 44 = .ok (.bipush 120, 2) := by decide +kernel
theorem dX1_init_46 : decode cX1_init 46 = .ok (.newarray .int, 2) := by decide +kernel
theorem dX1_init_48 : decode cX1_init 48 = .ok (.putfield 30, 3) := by decide +kernel
theorem dX1_init_51 : decode cX1_init 51 = .ok (.aload_n 0, 1) := by decide +kernel
theorem dX1_init_52 : decode cX1_init 52 = .ok (.bipush 120, 2) := by decide +kernel
theorem dX1_init_54 : decode cX1_init 54 = .ok (.newarray .int, 2) := by decide +kernel
theorem dX1_init_56 : decode cX1_init 56 = .ok (.putfield 33, 3) := by decide +kernel
theorem dX1_init_59 : decode cX1_init 59 = .ok (.aload_n 0, 1) := by decide +kernel
theorem dX1_init_60 : decode cX1_init 60 = .ok (.bipush 120, 2) := by decide +kernel
theorem dX1_init_62 : decode cX1_init 62 = .ok (.newarray .int, 2) := by decide +kernel
theorem dX1_init_64 : decode cX1_init 64 = .ok (.putfield 36, 3) := by decide +kernel
theorem dX1_init_67 : decode cX1_init 67 = .ok (.aload_n 0, 1) := by decide +kernel
theorem dX1_init_68 : decode cX1_init 68 = .ok (.bipush 120, 2) := by decide +kernel
theorem dX1_init_70 : decode cX1_init 70 = .ok (.newarray .int, 2) := by decide +kernel
theorem dX1_init_72 : decode cX1_init 72 = .ok (.putfield 39, 3) := by decide +kernel
theorem dX1_init_75 : decode cX1_init 75 = .ok (.aload_n 0, 1) := by decide +kernel
theorem dX1_init_76 : decode cX1_init 76 = .ok (.bipush 120, 2) := by decide +kernel
theorem dX1_init_78 : decode cX1_init 78 = .ok (.newarray .int, 2) := by decide +kernel
theorem dX1_init_80 : decode cX1_init 80 = .ok (.putfield 42, 3) := by decide +kernel
theorem dX1_init_83 : decode cX1_init 83 = .ok (.aload_n 0, 1) := by decide +kernel
theorem dX1_init_84 : decode cX1_init 84 = .ok (.bipush 120, 2) := by decide +kernel
theorem dX1_init_86 : decode cX1_init 86 = .ok (.newarray .int, 2) := by decide +kernel
theorem dX1_init_88 : decode cX1_init 88 = .ok (.putfield 45, 3) := by decide +kernel
theorem dX1_init_91 : decode cX1_init 91 = .ok (.aload_n 0, 1) := by decide +kernel
theorem dX1_init_92 : decode cX1_init 92 = .ok (.iconst 0, 1) := by decide +kernel
theorem dX1_init_93 : decode cX1_init 93 = .ok (.putfield 48, 3) := by decide +kernel
theorem dX1_init_96 : decode cX1_init 96 = .ok (.aload_n 0, 1) := by decide +kernel
theorem dX1_init_97 : decode cX1_init 97 = .ok (.iconst 0, 1) := by decide +kernel
theorem dX1_init_98 : decode cX1_init 98 = .ok (.putfield 52, 3) := by decide +kernel
theorem dX1_init_101 : decode cX1_init 101 = .ok (.aload_n 0, 1) := by decide +kernel
theorem dX1_init_102 : decode cX1_init 102 = .ok (.iconst (-1), 1) := by decide +kernel
theorem dX1_init_103 : decode cX1_init 103 = .ok (.putfield 55, 3) := by decide +kernel
theorem dX1_init_106 : decode cX1_init 106 = .ok (.return_, 1) := by decide +kernel
theorem dX1_size_0 : decode cX1_size 0 = .ok (.aload_n 0, 1) := by decide +kernel
theorem dX1_size_1 : decode cX1_size 1 = .ok (.getfield 52, 3) := by decide +kernel
theorem dX1_size_4 : decode cX1_size 4 = .ok (.ireturn, 1) := by decide +kernel
theorem dX1_has_0 : decode cX1_has 0 = .ok (.iload_n 1, 1) := by decide +kernel
theorem dX1_has_1 : decode cX1_has 1 = .ok (.ifCond .lt 15, 3) := by decide +kernel
theorem dX1_has_4 : decode cX1_has 4 = .ok (.iload_n 1, 1) := by decide +kernel
theorem dX1_has_5 : decode cX1_has 5 = .ok (.aload_n 0, 1) := by decide +kernel
theorem dX1_has_6 : decode cX1_has 6 = .ok (.getfield 52, 3) := by decide +kernel
theorem dX1_has_9 : decode cX1_has 9 = .ok (.if_icmp .ge 7, 3) := by decide +kernel
theorem dX1_has_12 : decode cX1_has 12 = .ok (.iconst 1, 1) := by decide +kernel
theorem dX1_has_13 : decode cX1_has 13 = .ok (.goto 4, 3) := by decide +kernel
theorem dX1_has_16 : decode cX1_has 16 = .ok (.iconst 0, 1) := by decide +kernel
theorem dX1_has_17 : decode cX1_has 17 = .ok (.ireturn, 1) := by decide +kernel
set_option maxRecDepth 20000 in
theorem ggX1_longestIn_X1_has : GoodIn wsX1_longestIn wsX1_has := goodIn_r _ [6, 7, 8, 9, 10, 11, 12, 13, 14, 15, 16, 17, 18, 19, 20] (by decide +kernel) (by decide +kernel)
set_option maxRecDepth 20000 in
theorem gX1_longestIn_X1_has : GoodIn wsX1_longestIn (wsV RX1 58 RX1 yX1_has wsX1_has) := goodIn_app (goodIn_of _ (by decide +kernel)) ggX1_longestIn_X1_has
theorem dX1_longestIn_0 : decode cX1_longestIn 0 = .ok (.aload_n 0, 1) := by decide +kernel
theorem dX1_longestIn_1 : decode cX1_longestIn 1 = .ok (.iload_n 1, 1) := by decide +kernel
theorem dX1_longestIn_2 : decode cX1_longestIn 2 = .ok (.invokevirtual 58, 3) := by decide +kernel
theorem dX1_longestIn_5 : decode cX1_longestIn 5 = .ok (.ifCond .eq 12, 3) := by decide +kernel
theorem dX1_longestIn_8 : decode cX1_longestIn 8 = .ok (.aload_n 0, 1) := by decide +kernel
theorem dX1_longestIn_9 : decode cX1_longestIn 9 = .ok (.getfield 30, 3) := by decide +kernel
theorem dX1_longestIn_12 : decode cX1_longestIn 12 = .ok (.iload_n 1, 1) := by decide +kernel
theorem dX1_longestIn_13 : decode cX1_longestIn 13 = .ok (.iaload, 1) := by decide +kernel
theorem dX1_longestIn_14 : decode cX1_longestIn 14 = .ok (.goto 4, 3) := by decide +kernel
theorem dX1_longestIn_17 : decode cX1_longestIn 17 = .ok (.iconst 0, 1) := by decide +kernel
theorem dX1_longestIn_18 : decode cX1_longestIn 18 = .ok (.ireturn, 1) := by decide +kernel
set_option maxRecDepth 20000 in
theorem ggX1_shortestIn_X1_has : GoodIn wsX1_shortestIn wsX1_has := goodIn_r _ [6, 7, 8, 9, 10, 11, 12, 13, 14, 15, 16, 17, 18, 19, 20] (by decide +kernel) (by decide +kernel)
set_option maxRecDepth 20000 in
theorem gX1_shortestIn_X1_has : GoodIn wsX1_shortestIn (wsV RX1 58 RX1 yX1_has wsX1_has) := goodIn_app (goodIn_of _ (by decide +kernel)) ggX1_shortestIn_X1_has
theorem dX1_shortestIn_0 : decode cX1_shortestIn 0 = .ok (.aload_n 0, 1) := by decide +kernel
theorem dX1_shortestIn_1 : decode cX1_shortestIn 1 = .ok (.iload_n 1, 1) := by decide +kernel
theorem dX1_shortestIn_2 : decode cX1_shortestIn 2 = .ok (.invokevirtual 58, 3) := by decide +kernel
theorem dX1_shortestIn_5 : decode cX1_shortestIn 5 = .ok (.ifCond .eq 12, 3) := by decide +kernel
theorem dX1_shortestIn_8 : decode cX1_shortestIn 8 = .ok (.aload_n 0, 1) := by decide +kernel
theorem dX1_shortestIn_9 : decode cX1_shortestIn 9 = .ok (.getfield 33, 3) := by decide +kernel
theorem dX1_shortestIn_12 : decode cX1_shortestIn 12 = .ok (.iload_n 1, 1) := by decide +kernel
theorem dX1_shortestIn_13 : decode cX1_shortestIn 13 = .ok (.iaload, 1) := by decide +kernel
theorem dX1_shortestIn_14 : decode cX1_shortestIn 14 = .ok (.goto 4, 3) := by decide +kernel
theorem dX1_shortestIn_17 : decode cX1_shortestIn 17 = .ok (.iconst 0, 1) := by decide +kernel
theorem dX1_shortestIn_18 : decode cX1_shortestIn 18 = .ok (.ireturn, 1) := by decide +kernel
set_option maxRecDepth 20000 in
theorem ggX1_endsIn_X1_has : GoodIn wsX1_endsIn wsX1_has := goodIn_r _ [6, 7, 8, 9, 10, 11, 12, 13, 14, 15, 16, 17, 18, 19, 20] (by decide +kernel) (by decide +kernel)
set_option maxRecDepth 20000 in
theorem gX1_endsIn_X1_has : GoodIn wsX1_endsIn (wsV RX1 58 RX1 yX1_has wsX1_has) := goodIn_app (goodIn_of _ (by decide +kernel)) ggX1_endsIn_X1_has
theorem dX1_endsIn_0 : decode cX1_endsIn 0 = .ok (.aload_n 0, 1) := by decide +kernel
theorem dX1_endsIn_1 : decode cX1_endsIn 1 = .ok (.iload_n 1, 1) := by decide +kernel
theorem dX1_endsIn_2 : decode cX1_endsIn 2 = .ok (.invokevirtual 58, 3) := by decide +kernel
theorem dX1_endsIn_5 : decode cX1_endsIn 5 = .ok (.ifCond .eq 12, 3) := by decide +kernel
theorem dX1_endsIn_8 : decode cX1_endsIn 8 = .ok (.aload_n 0, 1) := by decide +kernel
theorem dX1_endsIn_9 : decode cX1_endsIn 9 = .ok (.getfield 36, 3) := by decide +kernel
theorem dX1_endsIn_12 : decode cX1_endsIn 12 = .ok (.iload_n 1, 1) := by decide +kernel
theorem dX1_endsIn_13 : decode cX1_endsIn 13 = .ok (.iaload, 1) := by decide +kernel
theorem dX1_endsIn_14 : decode cX1_endsIn 14 = .ok (.goto 4, 3) := by decide +kernel
theorem dX1_endsIn_17 : decode cX1_endsIn 17 = .ok (.iconst 0, 1) := by decide +kernel
theorem dX1_endsIn_18 : decode cX1_endsIn 18 = .ok (.ireturn, 1) := by decide +kernel
set_option maxRecDepth 20000 in
theorem ggX1_linkOf_X1_has : GoodIn wsX1_linkOf wsX1_has := goodIn_r _ [6, 7, 8, 9, 10, 11, 12, 13, 14, 15, 16, 17, 18, 19, 20] (by decide +kernel) (by decide +kernel)
set_option maxRecDepth 20000 in
theorem gX1_linkOf_X1_has : GoodIn wsX1_linkOf (wsV RX1 58 RX1 yX1_has wsX1_has) := goodIn_app (goodIn_of _ (by decide +kernel)) ggX1_linkOf_X1_has
theorem dX1_linkOf_0 : decode cX1_linkOf 0 = .ok (.aload_n 0, 1) := by decide +kernel
theorem dX1_linkOf_1 : decode cX1_linkOf 1 = .ok (.iload_n 1, 1) := by decide +kernel
theorem dX1_linkOf_2 : decode cX1_linkOf 2 = .ok (.invokevirtual 58, 3) := by decide +kernel
theorem dX1_linkOf_5 : decode cX1_linkOf 5 = .ok (.ifCond .eq 12, 3) := by decide +kernel
theorem dX1_linkOf_8 : decode cX1_linkOf 8 = .ok (.aload_n 0, 1) := by decide +kernel
theorem dX1_linkOf_9 : decode cX1_linkOf 9 = .ok (.getfield 39, 3) := by decide +kernel
theorem dX1_linkOf_12 : decode cX1_linkOf 12 = .ok (.iload_n 1, 1) := by decide +kernel
theorem dX1_linkOf_13 : decode cX1_linkOf 13 = .ok (.iaload, 1) := by decide +kernel
theorem dX1_linkOf_14 : decode cX1_linkOf 14 = .ok (.goto 5, 3) := by decide +kernel
theorem dX1_linkOf_17 : decode cX1_linkOf 17 = .ok (.bipush (-6), 2) := by decide +kernel
theorem dX1_linkOf_19 : decode cX1_linkOf 19 = .ok (.ireturn, 1) := by decide +kernel
set_option maxRecDepth 20000 in
theorem ggX1_stepsOf_X1_has : GoodIn wsX1_stepsOf wsX1_has := goodIn_r _ [7, 8, 9, 10, 11, 12, 13, 14, 15, 16, 17, 18, 19, 20, 21] (by decide +kernel) (by decide +kernel)
set_option maxRecDepth 20000 in
theorem gX1_stepsOf_X1_has : GoodIn wsX1_stepsOf (wsV RX1 58 RX1 yX1_has wsX1_has) := goodIn_app (goodIn_of _ (by decide +kernel)) ggX1_stepsOf_X1_has
theorem dX1_stepsOf_0 : decode cX1_stepsOf 0 = .ok (.aload_n 0, 1) := by decide +kernel
theorem dX1_stepsOf_1 : decode cX1_stepsOf 1 = .ok (.iload_n 1, 1) := by decide +kernel
theorem dX1_stepsOf_2 : decode cX1_stepsOf 2 = .ok (.invokevirtual 58, 3) := by decide +kernel
theorem dX1_stepsOf_5 : decode cX1_stepsOf 5 = .ok (.ifCond .eq 12, 3) := by decide +kernel
theorem dX1_stepsOf_8 : decode cX1_stepsOf 8 = .ok (.aload_n 0, 1) := by decide +kernel
theorem dX1_stepsOf_9 : decode cX1_stepsOf 9 = .ok (.getfield 45, 3) := by decide +kernel
theorem dX1_stepsOf_12 : decode cX1_stepsOf 12 = .ok (.iload_n 1, 1) := by decide +kernel
theorem dX1_stepsOf_13 : decode cX1_stepsOf 13 = .ok (.iaload, 1) := by decide +kernel
theorem dX1_stepsOf_14 : decode cX1_stepsOf 14 = .ok (.goto 7, 3) := by decide +kernel
theorem dX1_stepsOf_17 : decode cX1_stepsOf 17 = .ok (.aload_n 0, 1) := by decide +kernel
theorem dX1_stepsOf_18 : decode cX1_stepsOf 18 = .ok (.getfield 48, 3) := by decide +kernel
theorem dX1_stepsOf_21 : decode cX1_stepsOf 21 = .ok (.ireturn, 1) := by decide +kernel
set_option maxRecDepth 20000 in
theorem ggX1_wordsOf_X1_has : GoodIn wsX1_wordsOf wsX1_has := goodIn_r _ [6, 7, 8, 9, 10, 11, 12, 13, 14, 15, 16, 17, 18, 19, 20] (by decide +kernel) (by decide +kernel)
set_option maxRecDepth 20000 in
theorem gX1_wordsOf_X1_has : GoodIn wsX1_wordsOf (wsV RX1 58 RX1 yX1_has wsX1_has) := goodIn_app (goodIn_of _ (by decide +kernel)) ggX1_wordsOf_X1_has
theorem dX1_wordsOf_0 : decode cX1_wordsOf 0 = .ok (.aload_n 0, 1) := by decide +kernel
theorem dX1_wordsOf_1 : decode cX1_wordsOf 1 = .ok (.iload_n 1, 1) := by decide +kernel
theorem dX1_wordsOf_2 : decode cX1_wordsOf 2 = .ok (.invokevirtual 58, 3) := by decide +kernel
theorem dX1_wordsOf_5 : decode cX1_wordsOf 5 = .ok (.ifCond .eq 12, 3) := by decide +kernel
theorem dX1_wordsOf_8 : decode cX1_wordsOf 8 = .ok (.aload_n 0, 1) := by decide +kernel
theorem dX1_wordsOf_9 : decode cX1_wordsOf 9 = .ok (.getfield 42, 3) := by decide +kernel
theorem dX1_wordsOf_12 : decode cX1_wordsOf 12 = .ok (.iload_n 1, 1) := by decide +kernel
theorem dX1_wordsOf_13 : decode cX1_wordsOf 13 = .ok (.iaload, 1) := by decide +kernel
theorem dX1_wordsOf_14 : decode cX1_wordsOf 14 = .ok (.goto 4, 3) := by decide +kernel
theorem dX1_wordsOf_17 : decode cX1_wordsOf 17 = .ok (.iconst 0, 1) := by decide +kernel
theorem dX1_wordsOf_18 : decode cX1_wordsOf 18 = .ok (.ireturn, 1) := by decide +kernel
set_option maxRecDepth 20000 in
theorem ggX1_firstEndOf_X1_has : GoodIn wsX1_firstEndOf wsX1_has := goodIn_r _ [6, 7, 8, 9, 10, 11, 12, 13, 14, 15, 16, 17, 18, 19, 20] (by decide +kernel) (by decide +kernel)
set_option maxRecDepth 20000 in
theorem gX1_firstEndOf_X1_has : GoodIn wsX1_firstEndOf (wsV RX1 58 RX1 yX1_has wsX1_has) := goodIn_app (goodIn_of _ (by decide +kernel)) ggX1_firstEndOf_X1_has
theorem dX1_firstEndOf_0 : decode cX1_firstEndOf 0 = .ok (.aload_n 0, 1) := by decide +kernel
theorem dX1_firstEndOf_1 : decode cX1_firstEndOf 1 = .ok (.iload_n 1, 1) := by decide +kernel
theorem dX1_firstEndOf_2 : decode cX1_firstEndOf 2 = .ok (.invokevirtual 58, 3) := by decide +kernel
theorem dX1_firstEndOf_5 : decode cX1_firstEndOf 5 = .ok (.ifCond .eq 12, 3) := by decide +kernel
theorem dX1_firstEndOf_8 : decode cX1_firstEndOf 8 = .ok (.aload_n 0, 1) := by decide +kernel
theorem dX1_firstEndOf_9 : decode cX1_firstEndOf 9 = .ok (.getfield 27, 3) := by decide +kernel
theorem dX1_firstEndOf_12 : decode cX1_firstEndOf 12 = .ok (.iload_n 1, 1) := by decide +kernel
theorem dX1_firstEndOf_13 : decode cX1_firstEndOf 13 = .ok (.iaload, 1) := by decide +kernel
theorem dX1_firstEndOf_14 : decode cX1_firstEndOf 14 = .ok (.goto 4, 3) := by decide +kernel
theorem dX1_firstEndOf_17 : decode cX1_firstEndOf 17 = .ok (.iconst 0, 1) := by decide +kernel
theorem dX1_firstEndOf_18 : decode cX1_firstEndOf 18 = .ok (.ireturn, 1) := by decide +kernel
set_option maxRecDepth 20000 in
theorem ggX1_longestStart_X1_firstEndOf : GoodIn wsX1_longestStart wsX1_firstEndOf := goodIn_r _ [5, 6, 7, 8, 9, 4, 10, 11, 17, 18, 19, 20, 21, 22, 23, 24, 25, 26, 27, 28, 29] (by decide +kernel) (by decide +kernel)
set_option maxRecDepth 20000 in
theorem gX1_longestStart_X1_firstEndOf : GoodIn wsX1_longestStart (wsV RX1 62 RX1 yX1_firstEndOf wsX1_firstEndOf) := goodIn_app (goodIn_of _ (by decide +kernel)) ggX1_longestStart_X1_firstEndOf
set_option maxRecDepth 20000 in
theorem ggX1_longestStart_X1_longestIn : GoodIn wsX1_longestStart wsX1_longestIn := goodIn_r _ [15, 16, 7, 8, 9, 4, 10, 11, 17, 18, 19, 20, 21, 22, 23, 24, 25, 26, 27, 28, 29] (by decide +kernel) (by decide +kernel)
set_option maxRecDepth 20000 in
theorem gX1_longestStart_X1_longestIn : GoodIn wsX1_longestStart (wsV RX1 66 RX1 yX1_longestIn wsX1_longestIn) := goodIn_app (goodIn_of _ (by decide +kernel)) ggX1_longestStart_X1_longestIn
theorem dX1_longestStart_0 : decode cX1_longestStart 0 = .ok (.aload_n 0, 1) := by decide +kernel
theorem dX1_longestStart_1 : decode cX1_longestStart 1 = .ok (.iload_n 1, 1) := by decide +kernel
theorem dX1_longestStart_2 : decode cX1_longestStart 2 = .ok (.invokevirtual 62, 3) := by decide +kernel
theorem dX1_longestStart_5 : decode cX1_longestStart 5 = .ok (.aload_n 0, 1) := by decide +kernel
theorem dX1_longestStart_6 : decode cX1_longestStart 6 = .ok (.iload_n 1, 1) := by decide +kernel
theorem dX1_longestStart_7 : decode cX1_longestStart 7 = .ok (.invokevirtual 66, 3) := by decide +kernel
theorem dX1_longestStart_10 : decode cX1_longestStart 10 = .ok (.isub, 1) := by decide +kernel
theorem dX1_longestStart_11 : decode cX1_longestStart 11 = .ok (.iconst 1, 1) := by decide +kernel
theorem dX1_longestStart_12 : decode cX1_longestStart 12 = .ok (.iadd, 1) := by decide +kernel
theorem dX1_longestStart_13 : decode cX1_longestStart 13 = .ok (.ireturn, 1) := by decide +kernel
set_option maxRecDepth 20000 in
theorem ggX1_shortestStart_X1_firstEndOf : GoodIn wsX1_shortestStart wsX1_firstEndOf := goodIn_r _ [5, 6, 7, 8, 9, 4, 10, 11, 17, 18, 19, 20, 21, 22, 23, 24, 25, 26, 27, 28, 29] (by decide +kernel) (by decide +kernel)
set_option maxRecDepth 20000 in
theorem gX1_shortestStart_X1_firstEndOf : GoodIn wsX1_shortestStart (wsV RX1 62 RX1 yX1_firstEndOf wsX1_firstEndOf) := goodIn_app (goodIn_of _ (by decide +kernel)) ggX1_shortestStart_X1_firstEndOf
set_option maxRecDepth 20000 in
theorem ggX1_shortestStart_X1_shortestIn : GoodIn wsX1_shortestStart wsX1_shortestIn := goodIn_r _ [15, 16, 7, 8, 9, 4, 10, 11, 17, 18, 19, 20, 21, 22, 23, 24, 25, 26, 27, 28, 29] (by decide +kernel) (by decide +kernel)
set_option maxRecDepth 20000 in
theorem gX1_shortestStart_X1_shortestIn : GoodIn wsX1_shortestStart (wsV RX1 69 RX1 yX1_shortestIn wsX1_shortestIn) := goodIn_app (goodIn_of _ (by decide +kernel)) ggX1_shortestStart_X1_shortestIn
theorem dX1_shortestStart_0 : decode cX1_shortestStart 0 = .ok (.aload_n 0, 1) := by decide +kernel
theorem dX1_shortestStart_1 : decode cX1_shortestStart 1 = .ok (.iload_n 1, 1) := by decide +kernel
theorem dX1_shortestStart_2 : decode cX1_shortestStart 2 = .ok (.invokevirtual 62, 3) := by decide +kernel
theorem dX1_shortestStart_5 : decode cX1_shortestStart 5 = .ok (.aload_n 0, 1) := by decide +kernel
theorem dX1_shortestStart_6 : decode cX1_shortestStart 6 = .ok (.iload_n 1, 1) := by decide +kernel
theorem dX1_shortestStart_7 : decode cX1_shortestStart 7 = .ok (.invokevirtual 69, 3) := by decide +kernel
theorem dX1_shortestStart_10 : decode cX1_shortestStart 10 = .ok (.isub, 1) := by decide +kernel
theorem dX1_shortestStart_11 : decode cX1_shortestStart 11 = .ok (.iconst 1, 1) := by decide +kernel
theorem dX1_shortestStart_12 : decode cX1_shortestStart 12 = .ok (.iadd, 1) := by decide +kernel
theorem dX1_shortestStart_13 : decode cX1_shortestStart 13 = .ok (.ireturn, 1) := by decide +kernel
theorem dX1_classAt_0 : decode cX1_classAt 0 = .ok (.iload_n 1, 1) := by decide +kernel
theorem dX1_classAt_1 : decode cX1_classAt 1 = .ok (.ifCond .lt 23, 3) := by decide +kernel
theorem dX1_classAt_4 : decode cX1_classAt 4 = .ok (.iload_n 1, 1) := by decide +kernel
theorem dX1_classAt_5 : decode cX1_classAt 5 = .ok (.bipush 60, 2) := by decide +kernel
theorem dX1_classAt_7 : decode cX1_classAt 7 = .ok (.if_icmp .ge 17, 3) := by decide +kernel
theorem dX1_classAt_10 : decode cX1_classAt 10 = .ok (.iload_n 2, 1) := by decide +kernel
theorem dX1_classAt_11 : decode cX1_classAt 11 = .ok (.ifCond .lt 13, 3) := by decide +kernel
theorem dX1_classAt_14 : decode cX1_classAt 14 = .ok (.iload_n 2, 1) := by decide +kernel
theorem dX1_classAt_15 : decode cX1_classAt 15 = .ok (.bipush 60, 2) := by decide +kernel
theorem dX1_classAt_17 : decode cX1_classAt 17 = .ok (.if_icmp .gt 7, 3) := by decide +kernel
theorem dX1_classAt_20 : decode cX1_classAt 20 = .ok (.iconst 1, 1) := by decide +kernel
theorem dX1_classAt_21 : decode cX1_classAt 21 = .ok (.goto 4, 3) := by decide +kernel
theorem dX1_classAt_24 : decode cX1_classAt 24 = .ok (.iconst 0, 1) := by decide +kernel
theorem dX1_classAt_25 : decode cX1_classAt 25 = .ok (.istore_n 3, 1) := by decide +kernel
theorem dX1_classAt_26 : decode cX1_classAt 26 = .ok (.iload_n 3, 1) := by decide +kernel
theorem dX1_classAt_27 : decode cX1_classAt 27 = .ok (.ifCond .eq 14, 3) := by decide +kernel
theorem dX1_classAt_30 : decode cX1_classAt 30 = .ok (.aload_n 0, 1) := by decide +kernel
theorem dX1_classAt_31 : decode cX1_classAt 31 = .ok (.getfield 24, 3) := by decide +kernel
theorem dX1_classAt_34 : decode cX1_classAt 34 = .ok (.iload_n 1, 1) := by decide +kernel
theorem dX1_classAt_35 : decode cX1_classAt 35 = .ok (.aaload, 1) := by decide +kernel
theorem dX1_classAt_36 : decode cX1_classAt 36 = .ok (.iload_n 2, 1) := by decide +kernel
theorem dX1_classAt_37 : decode cX1_classAt 37 = .ok (.iaload, 1) := by decide +kernel
theorem dX1_classAt_38 : decode cX1_classAt 38 = .ok (.goto 5, 3) := by decide +kernel
theorem dX1_classAt_41 : decode cX1_classAt 41 = .ok (.bipush (-6), 2) := by decide +kernel
theorem dX1_classAt_43 : decode cX1_classAt 43 = .ok (.ireturn, 1) := by decide +kernel
set_option maxRecDepth 20000 in
theorem ggX1_refresh_X5_versionTaken : GoodIn wsX1_refresh wsX5_versionTaken := goodIn_r _ [13, 14, 107, 108, 109, 110, 111, 112, 113, 114] (by decide +kernel) (by decide +kernel)
set_option maxRecDepth 20000 in
theorem gX1_refresh_X5_versionTaken : GoodIn wsX1_refresh (wsV RX1 72 RX5 yX5_versionTaken wsX5_versionTaken) := goodIn_app (goodIn_of _ (by decide +kernel)) ggX1_refresh_X5_versionTaken
set_option maxRecDepth 20000 in
theorem ggX1_refresh_X5_length : GoodIn wsX1_refresh wsX5_length := goodIn_r _ [18, 19, 107, 108, 109, 110, 111, 112, 113, 114] (by decide +kernel) (by decide +kernel)
set_option maxRecDepth 20000 in
theorem gX1_refresh_X5_length : GoodIn wsX1_refresh (wsV RX1 78 RX5 yX5_length wsX5_length) := goodIn_app (goodIn_of _ (by decide +kernel)) ggX1_refresh_X5_length
set_option maxRecDepth 20000 in
theorem ggX1_refresh_X5_letterAt : GoodIn wsX1_refresh wsX5_letterAt := goodIn_r _ [23, 24, 25, 26, 27, 12, 28, 19, 107, 108, 109, 110, 111, 112, 113, 114] (by decide +kernel) (by decide +kernel)
set_option maxRecDepth 20000 in
theorem gX1_refresh_X5_letterAt : GoodIn wsX1_refresh (wsV RX1 81 RX5 yX5_letterAt wsX5_letterAt) := goodIn_app (goodIn_of _ (by decide +kernel)) ggX1_refresh_X5_letterAt
set_option maxRecDepth 20000 in
theorem ggX1_refresh_X4_advance : GoodIn wsX1_refresh wsX4_advance := goodIn_r _ [33, 34, 6, 7, 8, 35, 36, 21, 22, 12, 23, 24, 25, 26, 27, 28, 19, 37, 38, 39, 40, 41, 107, 108, 109, 110, 111, 112, 113, 114, 115] (by decide +kernel) (by decide +kernel)
set_option maxRecDepth 20000 in
theorem gX1_refresh_X4_advance : GoodIn wsX1_refresh (wsV RX1 84 RX4 yX4_advance wsX4_advance) := goodIn_app (goodIn_of _ (by decide +kernel)) ggX1_refresh_X4_advance
set_option maxRecDepth 20000 in
theorem ggX1_refresh_X5_placeAt : GoodIn wsX1_refresh wsX5_placeAt := goodIn_r _ [40, 41, 25, 26, 27, 12, 28, 19, 107, 108, 109, 110, 111, 112, 113, 114] (by decide +kernel) (by decide +kernel)
set_option maxRecDepth 20000 in
theorem gX1_refresh_X5_placeAt : GoodIn wsX1_refresh (wsV RX1 88 RX5 yX5_placeAt wsX5_placeAt) := goodIn_app (goodIn_of _ (by decide +kernel)) ggX1_refresh_X5_placeAt
set_option maxRecDepth 20000 in
theorem ggX1_refresh_X1_countEnds : GoodIn wsX1_refresh wsX1_countEnds := goodIn_r _ [47, 48, 4, 5, 6, 7, 8, 49, 50, 51, 32, 52, 35, 94, 95, 96, 97, 98, 99, 100, 101, 102, 103, 104, 105, 106, 115] (by decide +kernel) (by decide +kernel)
set_option maxRecDepth 20000 in
theorem gX1_refresh_X1_countEnds : GoodIn wsX1_refresh (wsV RX1 97 RX1 yX1_countEnds wsX1_countEnds) := goodIn_app (goodIn_of _ (by decide +kernel)) ggX1_refresh_X1_countEnds
set_option maxRecDepth 20000 in
theorem ggX1_refresh_X1_takeKnown : GoodIn wsX1_refresh wsX1_takeKnown := goodIn_r _ [56, 4, 49, 50, 51, 32, 52, 35, 57, 58, 59, 46, 60, 61, 62, 63, 64, 65, 94, 95, 96, 97, 98, 99, 100, 101, 102, 103, 104, 105, 106, 115] (by decide +kernel) (by decide +kernel)
set_option maxRecDepth 20000 in
theorem gX1_refresh_X1_takeKnown : GoodIn wsX1_refresh (wsV RX1 101 RX1 yX1_takeKnown wsX1_takeKnown) := goodIn_app (goodIn_of _ (by decide +kernel)) ggX1_refresh_X1_takeKnown
set_option maxRecDepth 20000 in
theorem ggX1_refresh_X1_addFactorsAt : GoodIn wsX1_refresh wsX1_addFactorsAt := goodIn_r _ [69, 70, 71, 7, 72, 48, 2, 62, 63, 64, 46, 65, 61, 73, 74, 75, 76, 4, 77, 78, 79, 80, 81, 82, 83, 15, 16, 17, 12, 18, 19, 49, 50, 51, 32, 52, 35, 84, 85, 86, 87, 88, 25, 26, 27, 28, 89, 90, 91, 92, 93, 20, 21, 22, 23, 24, 57, 58, 59, 60, 94, 95, 96, 97, 98, 99, 100, 101, 102, 103, 104, 105, 106, 107, 108, 109, 110, 111, 112, 113, 114, 115] (by decide +kernel) (by decide +kernel)
set_option maxRecDepth 20000 in
theorem gX1_refresh_X1_addFactorsAt : GoodIn wsX1_refresh (wsV RX1 104 RX1 yX1_addFactorsAt wsX1_addFactorsAt) := goodIn_app (goodIn_of _ (by decide +kernel)) ggX1_refresh_X1_addFactorsAt
theorem dX1_refresh_0 : decode cX1_refresh 0 = .ok (.aload_n 0, 1) := by decide +kernel
theorem dX1_refresh_1 : decode cX1_refresh 1 = .ok (.getfield 55, 3) := by decide +kernel
theorem dX1_refresh_4 : decode cX1_refresh 4 = .ok (.aload_n 1, 1) := by decide +kernel
theorem dX1_refresh_5 : decode cX1_refresh 5 = .ok (.invokevirtual 72, 3) := by decide +kernel
theorem dX1_refresh_8 : decode cX1_refresh 8 = .ok (.if_icmp .ne 4, 3) := by decide +kernel
theorem dX1_refresh_11 : decode cX1_refresh 11 = .ok (.return_, 1) := by decide +kernel
theorem dX1_refresh_12 : decode cX1_refresh 12 = .ok (.aload_n 0, 1) := by decide +kernel
theorem dX1_refresh_13 : decode cX1_refresh 13 = .ok (.aload_n 1, 1) := by decide +kernel
theorem dX1_refresh_14 : decode cX1_refresh 14 = .ok (.invokevirtual 72, 3) := by decide +kernel
theorem dX1_refresh_17 : decode cX1_refresh 17 = .ok (.putfield 55, 3) := by decide +kernel
theorem dX1_refresh_20 : decode cX1_refresh 20 = .ok (.aload_n 0, 1) := by decide +kernel
theorem dX1_refresh_21 : decode cX1_refresh 21 = .ok (.iconst 0, 1) := by decide +kernel
theorem dX1_refresh_22 : decode cX1_refresh 22 = .ok (.putfield 52, 3) := by decide +kernel
theorem dX1_refresh_25 : decode cX1_refresh 25 = .ok (.aload_n 0, 1) := by decide +kernel
theorem dX1_refresh_26 : decode cX1_refresh 26 = .ok (.iconst 0, 1) := by decide +kernel
theorem dX1_refresh_27 : decode cX1_refresh 27 = .ok (.putfield 48, 3) := by decide +kernel
theorem dX1_refresh_30 : decode cX1_refresh 30 = .ok (.iconst 0, 1) := by decide +kernel
theorem dX1_refresh_31 : decode cX1_refresh 31 = .ok (.istore_n 2, 1) := by decide +kernel
theorem dX1_refresh_32 : decode cX1_refresh 32 = .ok (.iload_n 2, 1) := by decide +kernel
theorem dX1_refresh_33 : decode cX1_refresh 33 = .ok (.aload_n 1, 1) := by decide +kernel
theorem dX1_refresh_34 : decode cX1_refresh 34 = .ok (.invokevirtual 78, 3) := by decide +kernel
theorem dX1_refresh_37 : decode cX1_refresh 37 = .ok (.if_icmp .ge 76, 3) := by decide +kernel
theorem dX1_refresh_40 : decode cX1_refresh 40 = .ok (.aload_n 0, 1) := by decide +kernel
theorem dX1_refresh_41 : decode cX1_refresh 41 = .ok (.dup, 1) := by decide +kernel
theorem dX1_refresh_42 : decode cX1_refresh 42 = .ok (.getfield 48, 3) := by decide +kernel
theorem dX1_refresh_45 : decode cX1_refresh 45 = .ok (.iconst 1, 1) := by decide +kernel
theorem dX1_refresh_46 : decode cX1_refresh 46 = .ok (.aload_n 1, 1) := by decide +kernel
theorem dX1_refresh_47 : decode cX1_refresh 47 = .ok (.iload_n 2, 1) := by decide +kernel
theorem dX1_refresh_48 : decode cX1_refresh 48 = .ok (.invokevirtual 81, 3) := by decide +kernel
theorem dX1_refresh_51 : decode cX1_refresh 51 = .ok (.ishl, 1) := by decide +kernel
theorem dX1_refresh_52 : decode cX1_refresh 52 = .ok (.ior, 1) := by decide +kernel
theorem dX1_refresh_53 : decode cX1_refresh 53 = .ok (.putfield 48, 3) := by decide +kernel
theorem dX1_refresh_56 : decode cX1_refresh 56 = .ok (.aload_n 0, 1) := by decide +kernel
theorem dX1_refresh_57 : decode cX1_refresh 57 = .ok (.getfield 12, 3) := by decide +kernel
theorem dX1_refresh_60 : decode cX1_refresh 60 = .ok (.aload_n 1, 1) := by decide +kernel
theorem dX1_refresh_61 : decode cX1_refresh 61 = .ok (.iload_n 2, 1) := by decide +kernel
theorem dX1_refresh_62 : decode cX1_refresh 62 = .ok (.aload_n 1, 1) := by decide +kernel
theorem dX1_refresh_63 : decode cX1_refresh 63 = .ok (.aload_n 1, 1) := by decide +kernel
theorem dX1_refresh_64 : decode cX1_refresh 64 = .ok (.invokevirtual 78, 3) := by decide +kernel
theorem dX1_refresh_67 : decode cX1_refresh 67 = .ok (.invokevirtual 84, 3) := by decide +kernel
theorem dX1_refresh_70 : decode cX1_refresh 70 = .ok (.pop, 1) := by decide +kernel
theorem dX1_refresh_71 : decode cX1_refresh 71 = .ok (.aload_n 1, 1) := by decide +kernel
theorem dX1_refresh_72 : decode cX1_refresh 72 = .ok (.iload_n 2, 1) := by decide +kernel
theorem dX1_refresh_73 : decode cX1_refresh 73 = .ok (.invokevirtual 88, 3) := by decide +kernel
theorem dX1_refresh_76 : decode cX1_refresh 76 = .ok (.iconst 1, 1) := by decide +kernel
theorem dX1_refresh_77 : decode cX1_refresh 77 = .ok (.iadd, 1) := by decide +kernel
theorem dX1_refresh_78 : decode cX1_refresh 78 = .ok (.bipush 60, 2) := by decide +kernel
theorem dX1_refresh_80 : decode cX1_refresh 80 = .ok (.invokestatic 91, 3) := by decide +kernel
theorem dX1_refresh_83 : decode cX1_refresh 83 = .ok (.istore_n 3, 1) := by decide +kernel
theorem dX1_refresh_84 : decode cX1_refresh 84 = .ok (.aload_n 0, 1) := by decide +kernel
theorem dX1_refresh_85 : decode cX1_refresh 85 = .ok (.aload_n 1, 1) := by decide +kernel
theorem dX1_refresh_86 : decode cX1_refresh 86 = .ok (.invokevirtual 78, 3) := by decide +kernel
theorem dX1_refresh_89 : decode cX1_refresh 89 = .ok (.iload_n 3, 1) := by decide +kernel
theorem dX1_refresh_90 : decode cX1_refresh 90 = .ok (.invokevirtual 97, 3) := by decide +kernel
theorem dX1_refresh_93 : decode cX1_refresh 93 = .ok (.aload_n 0, 1) := by decide +kernel
theorem dX1_refresh_94 : decode cX1_refresh 94 = .ok (.aload_n 1, 1) := by decide +kernel
theorem dX1_refresh_95 : decode cX1_refresh 95 = .ok (.iload_n 2, 1) := by decide +kernel
theorem dX1_refresh_96 : decode cX1_refresh 96 = .ok (.aload_n 0, 1) := by decide +kernel
theorem dX1_refresh_97 : decode cX1_refresh 97 = .ok (.iload_n 2, 1) := by decide +kernel
theorem dX1_refresh_98 : decode cX1_refresh 98 = .ok (.invokevirtual 101, 3) := by decide +kernel
theorem dX1_refresh_101 : decode cX1_refresh 101 = .ok (.iconst 1, 1) := by decide +kernel
theorem dX1_refresh_102 : decode cX1_refresh 102 = .ok (.iadd, 1) := by decide +kernel
theorem dX1_refresh_103 : decode cX1_refresh 103 = .ok (.iload_n 3, 1) := by decide +kernel
theorem dX1_refresh_104 : decode cX1_refresh 104 = .ok (.invokevirtual 104, 3) := by decide +kernel
theorem dX1_refresh_107 : decode cX1_refresh 107 = .ok (.iinc 2 1, 3) := by decide +kernel
theorem dX1_refresh_110 : decode cX1_refresh 110 = .ok (.goto (-78), 3) := by decide +kernel
theorem dX1_refresh_113 : decode cX1_refresh 113 = .ok (.return_, 1) := by decide +kernel
set_option maxRecDepth 20000 in
theorem ggX1_countEnds_X4_lengthAt : GoodIn wsX1_countEnds wsX4_lengthAt := goodIn_r _ [11, 12, 26] (by decide +kernel) (by decide +kernel)
set_option maxRecDepth 20000 in
theorem gX1_countEnds_X4_lengthAt : GoodIn wsX1_countEnds (wsV RX1 108 RX4 yX4_lengthAt wsX4_lengthAt) := goodIn_app (goodIn_of _ (by decide +kernel)) ggX1_countEnds_X4_lengthAt
theorem dX1_countEnds_0 : decode cX1_countEnds 0 = .ok (.iconst 0, 1) := by decide +kernel
theorem dX1_countEnds_1 : decode cX1_countEnds 1 = .ok (.istore_n 3, 1) := by decide +kernel
theorem dX1_countEnds_2 : decode cX1_countEnds 2 = .ok (.iload_n 3, 1) := by decide +kernel
theorem dX1_countEnds_3 : decode cX1_countEnds 3 = .ok (.iload_n 2, 1) := by decide +kernel
theorem dX1_countEnds_4 : decode cX1_countEnds 4 = .ok (.if_icmp .gt 25, 3) := by decide +kernel
theorem dX1_countEnds_7 : decode cX1_countEnds 7 = .ok (.iload_n 3, 1) := by decide +kernel
theorem dX1_countEnds_8 : decode cX1_countEnds 8 = .ok (.aload_n 0, 1) := by decide +kernel
theorem dX1_countEnds_9 : decode cX1_countEnds 9 = .ok (.getfield 18, 3) := by decide +kernel
theorem dX1_countEnds_12 : decode cX1_countEnds 12 = .ok (.arraylength, 1) := by decide +kernel
theorem dX1_countEnds_13 : decode cX1_countEnds 13 = .ok (.if_icmp .ge 16, 3) := by decide +kernel
theorem dX1_countEnds_16 : decode cX1_countEnds 16 = .ok (.aload_n 0, 1) := by decide +kernel
theorem dX1_countEnds_17 : decode cX1_countEnds 17 = .ok (.getfield 18, 3) := by decide +kernel
theorem dX1_countEnds_20 : decode cX1_countEnds 20 = .ok (.iload_n 3, 1) := by decide +kernel
theorem dX1_countEnds_21 : decode cX1_countEnds 21 = .ok (.iconst 0, 1) := by decide +kernel
theorem dX1_countEnds_22 : decode cX1_countEnds 22 = .ok (.iastore, 1) := by decide +kernel
theorem dX1_countEnds_23 : decode cX1_countEnds 23 = .ok (.iinc 3 1, 3) := by decide +kernel
theorem dX1_countEnds_26 : decode cX1_countEnds 26 = .ok (.goto (-24), 3) := by decide +kernel
theorem dX1_countEnds_29 : decode cX1_countEnds 29 = .ok (.iconst 0, 1) := by decide +kernel
theorem dX1_countEnds_30 : decode cX1_countEnds 30 = .ok (.istore_n 3, 1) := by decide +kernel
theorem dX1_countEnds_31 : decode cX1_countEnds 31 = .ok (.iload_n 3, 1) := by decide +kernel
theorem dX1_countEnds_32 : decode cX1_countEnds 32 = .ok (.iload_n 1, 1) := by decide +kernel
theorem dX1_countEnds_33 : decode cX1_countEnds 33 = .ok (.if_icmp .ge 45, 3) := by decide +kernel
theorem dX1_countEnds_36 : decode cX1_countEnds 36 = .ok (.aload_n 0, 1) := by decide +kernel
theorem dX1_countEnds_37 : decode cX1_countEnds 37 = .ok (.getfield 12, 3) := by decide +kernel
theorem dX1_countEnds_40 : decode cX1_countEnds 40 = .ok (.iload_n 3, 1) := by decide +kernel
theorem dX1_countEnds_41 : decode cX1_countEnds 41 = .ok (.invokevirtual 108, 3) := by decide +kernel
theorem dX1_countEnds_44 : decode cX1_countEnds 44 = .ok (.istore 4, 2) := by decide +kernel
theorem dX1_countEnds_46 : decode cX1_countEnds 46 = .ok (.iload 4, 2) := by decide +kernel
theorem dX1_countEnds_48 : decode cX1_countEnds 48 = .ok (.ifCond .lt 24, 3) := by decide +kernel
theorem dX1_countEnds_51 : decode cX1_countEnds 51 = .ok (.iload 4, 2) := by decide +kernel
theorem dX1_countEnds_53 : decode cX1_countEnds 53 = .ok (.aload_n 0, 1) := by decide +kernel
theorem dX1_countEnds_54 : decode cX1_countEnds 54 = .ok (.getfield 18, 3) := by decide +kernel
theorem dX1_countEnds_57 : decode cX1_countEnds 57 = .ok (.arraylength, 1) := by decide +kernel
theorem dX1_countEnds_58 : decode cX1_countEnds 58 = .ok (.if_icmp .ge 14, 3) := by decide +kernel
theorem dX1_countEnds_61 : decode cX1_countEnds 61 = .ok (.aload_n 0, 1) := by decide +kernel
theorem dX1_countEnds_62 : decode cX1_countEnds 62 = .ok (.getfield 18, 3) := by decide +kernel
theorem dX1_countEnds_65 : decode cX1_countEnds 65 = .ok (.iload 4, 2) := by decide +kernel
theorem dX1_countEnds_67 : decode cX1_countEnds 67 = .ok (.dup2, 1) := by decide +kernel
theorem dX1_countEnds_68 : decode cX1_countEnds 68 = .ok (.iaload, 1) := by decide +kernel
theorem dX1_countEnds_69 : decode cX1_countEnds 69 = .ok (.iconst 1, 1) := by decide +kernel
theorem dX1_countEnds_70 : decode cX1_countEnds 70 = .ok (.iadd, 1) := by decide +kernel
theorem dX1_countEnds_71 : decode cX1_countEnds 71 = .ok (.iastore, 1) := by decide +kernel
theorem dX1_countEnds_72 : decode cX1_countEnds 72 = .ok (.iinc 3 1, 3) := by decide +kernel
theorem dX1_countEnds_75 : decode cX1_countEnds 75 = .ok (.goto (-44), 3) := by decide +kernel
theorem dX1_countEnds_78 : decode cX1_countEnds 78 = .ok (.iload_n 2, 1) := by decide +kernel
theorem dX1_countEnds_79 : decode cX1_countEnds 79 = .ok (.aload_n 0, 1) := by decide +kernel
theorem dX1_countEnds_80 : decode cX1_countEnds 80 = .ok (.getfield 18, 3) := by decide +kernel
theorem dX1_countEnds_83 : decode cX1_countEnds 83 = .ok (.arraylength, 1) := by decide +kernel
theorem dX1_countEnds_84 : decode cX1_countEnds 84 = .ok (.iconst 1, 1) := by decide +kernel
theorem dX1_countEnds_85 : decode cX1_countEnds 85 = .ok (.isub, 1) := by decide +kernel
theorem dX1_countEnds_86 : decode cX1_countEnds 86 = .ok (.invokestatic 91, 3) := by decide +kernel
theorem dX1_countEnds_89 : decode cX1_countEnds 89 = .ok (.iconst 1, 1) := by decide +kernel
theorem dX1_countEnds_90 : decode cX1_countEnds 90 = .ok (.isub, 1) := by decide +kernel
theorem dX1_countEnds_91 : decode cX1_countEnds 91 = .ok (.istore_n 3, 1) := by decide +kernel
theorem dX1_countEnds_92 : decode cX1_countEnds 92 = .ok (.iload_n 3, 1) := by decide +kernel
theorem dX1_countEnds_93 : decode cX1_countEnds 93 = .ok (.ifCond .lt 26, 3) := by decide +kernel
theorem dX1_countEnds_96 : decode cX1_countEnds 96 = .ok (.aload_n 0, 1) := by decide +kernel
theorem dX1_countEnds_97 : decode cX1_countEnds 97 = .ok (.getfield 18, 3) := by decide +kernel
theorem dX1_countEnds_100 : decode cX1_countEnds 100 = .ok (.iload_n 3, 1) := by decide +kernel
theorem dX1_countEnds_101 : decode cX1_countEnds 101 = .ok (.dup2, 1) := by decide +kernel
theorem dX1_countEnds_102 : decode cX1_countEnds 102 = .ok (.iaload, 1) := by decide +kernel
theorem dX1_countEnds_103 : decode cX1_countEnds 103 = .ok (.aload_n 0, 1) := by decide +kernel
theorem dX1_countEnds_104 : decode cX1_countEnds 104 = .ok (.getfield 18, 3) := by decide +kernel
theorem dX1_countEnds_107 : decode cX1_countEnds 107 = .ok (.iload_n 3, 1) := by decide +kernel
theorem dX1_countEnds_108 : decode cX1_countEnds 108 = .ok (.iconst 1, 1) := by decide +kernel
theorem dX1_countEnds_109 : decode cX1_countEnds 109 = .ok (.iadd, 1) := by decide +kernel
theorem dX1_countEnds_110 : decode cX1_countEnds 110 = .ok (.iaload, 1) := by decide +kernel
theorem dX1_countEnds_111 : decode cX1_countEnds 111 = .ok (.iadd, 1) := by decide +kernel
theorem dX1_countEnds_112 : decode cX1_countEnds 112 = .ok (.iastore, 1) := by decide +kernel
theorem dX1_countEnds_113 : decode cX1_countEnds 113 = .ok (.iinc 3 (-1), 3) := by decide +kernel
theorem dX1_countEnds_116 : decode cX1_countEnds 116 = .ok (.goto (-24), 3) := by decide +kernel
theorem dX1_countEnds_119 : decode cX1_countEnds 119 = .ok (.return_, 1) := by decide +kernel
set_option maxRecDepth 20000 in
theorem ggX1_takeKnown_X4_lengthAt : GoodIn wsX1_takeKnown wsX4_lengthAt := goodIn_r _ [6, 7, 31] (by decide +kernel) (by decide +kernel)
set_option maxRecDepth 20000 in
theorem gX1_takeKnown_X4_lengthAt : GoodIn wsX1_takeKnown (wsV RX1 108 RX4 yX4_lengthAt wsX4_lengthAt) := goodIn_app (goodIn_of _ (by decide +kernel)) ggX1_takeKnown_X4_lengthAt
set_option maxRecDepth 20000 in
theorem ggX1_takeKnown_X1_classAt : GoodIn wsX1_takeKnown wsX1_classAt := goodIn_r _ [12, 13, 18, 19, 20, 21, 22, 23, 24, 25, 26, 27, 28, 29, 30] (by decide +kernel) (by decide +kernel)
set_option maxRecDepth 20000 in
theorem gX1_takeKnown_X1_classAt : GoodIn wsX1_takeKnown (wsV RX1 111 RX1 yX1_classAt wsX1_classAt) := goodIn_app (goodIn_of _ (by decide +kernel)) ggX1_takeKnown_X1_classAt
set_option maxRecDepth 20000 in
theorem ggX1_takeKnown_X1_putClass : GoodIn wsX1_takeKnown wsX1_putClass := goodIn_r _ [17, 13, 18, 19, 20, 21, 22, 23, 24, 25, 26, 27, 28, 29, 30] (by decide +kernel) (by decide +kernel)
set_option maxRecDepth 20000 in
theorem gX1_takeKnown_X1_putClass : GoodIn wsX1_takeKnown (wsV RX1 114 RX1 yX1_putClass wsX1_putClass) := goodIn_app (goodIn_of _ (by decide +kernel)) ggX1_takeKnown_X1_putClass
theorem dX1_takeKnown_0 : decode cX1_takeKnown 0 = .ok (.iconst 0, 1) := by decide +kernel
theorem dX1_takeKnown_1 : decode cX1_takeKnown 1 = .ok (.istore_n 2, 1) := by decide +kernel
theorem dX1_takeKnown_2 : decode cX1_takeKnown 2 = .ok (.iconst 0, 1) := by decide +kernel
theorem dX1_takeKnown_3 : decode cX1_takeKnown 3 = .ok (.istore_n 3, 1) := by decide +kernel
theorem dX1_takeKnown_4 : decode cX1_takeKnown 4 = .ok (.iconst 0, 1) := by decide +kernel
theorem dX1_takeKnown_5 : decode cX1_takeKnown 5 = .ok (.istore 4, 2) := by decide +kernel
theorem dX1_takeKnown_7 : decode cX1_takeKnown 7 = .ok (.iload 4, 2) := by decide +kernel
theorem dX1_takeKnown_9 : decode cX1_takeKnown 9 = .ok (.iload_n 1, 1) := by decide +kernel
theorem dX1_takeKnown_10 : decode cX1_takeKnown 10 = .ok (.if_icmp .ge 35, 3) := by decide +kernel
theorem dX1_takeKnown_13 : decode cX1_takeKnown 13 = .ok (.aload_n 0, 1) := by decide +kernel
theorem dX1_takeKnown_14 : decode cX1_takeKnown 14 = .ok (.getfield 12, 3) := by decide +kernel
theorem dX1_takeKnown_17 : decode cX1_takeKnown 17 = .ok (.iload 4, 2) := by decide +kernel
theorem dX1_takeKnown_19 : decode cX1_takeKnown 19 = .ok (.invokevirtual 108, 3) := by decide +kernel
theorem dX1_takeKnown_22 : decode cX1_takeKnown 22 = .ok (.iload_n 2, 1) := by decide +kernel
theorem dX1_takeKnown_23 : decode cX1_takeKnown 23 = .ok (.if_icmp .le 16, 3) := by decide +kernel
theorem dX1_takeKnown_26 : decode cX1_takeKnown 26 = .ok (.aload_n 0, 1) := by decide +kernel
theorem dX1_takeKnown_27 : decode cX1_takeKnown 27 = .ok (.getfield 12, 3) := by decide +kernel
theorem dX1_takeKnown_30 : decode cX1_takeKnown 30 = .ok (.iload 4, 2) := by decide +kernel
theorem dX1_takeKnown_32 : decode cX1_takeKnown 32 = .ok (.invokevirtual 108, 3) := by decide +kernel
theorem dX1_takeKnown_35 : decode cX1_takeKnown 35 = .ok (.istore_n 2, 1) := by decide +kernel
theorem dX1_takeKnown_36 : decode cX1_takeKnown 36 = .ok (.iload 4, 2) := by decide +kernel
theorem dX1_takeKnown_38 : decode cX1_takeKnown 38 = .ok (.istore_n 3, 1) := by decide +kernel
theorem dX1_takeKnown_39 : decode cX1_takeKnown 39 = .ok (.iinc 4 1, 3) := by decide +kernel
theorem dX1_takeKnown_42 : decode cX1_takeKnown 42 = .ok (.goto (-35), 3) := by decide +kernel
theorem dX1_takeKnown_45 : decode cX1_takeKnown 45 = .ok (.iconst 1, 1) := by decide +kernel
theorem dX1_takeKnown_46 : decode cX1_takeKnown 46 = .ok (.istore 4, 2) := by decide +kernel
theorem dX1_takeKnown_48 : decode cX1_takeKnown 48 = .ok (.iload 4, 2) := by decide +kernel
theorem dX1_takeKnown_50 : decode cX1_takeKnown 50 = .ok (.iload_n 2, 1) := by decide +kernel
theorem dX1_takeKnown_51 : decode cX1_takeKnown 51 = .ok (.if_icmp .gt 23, 3) := by decide +kernel
theorem dX1_takeKnown_54 : decode cX1_takeKnown 54 = .ok (.aload_n 0, 1) := by decide +kernel
theorem dX1_takeKnown_55 : decode cX1_takeKnown 55 = .ok (.iload_n 1, 1) := by decide +kernel
theorem dX1_takeKnown_56 : decode cX1_takeKnown 56 = .ok (.iload 4, 2) := by decide +kernel
theorem dX1_takeKnown_58 : decode cX1_takeKnown 58 = .ok (.aload_n 0, 1) := by decide +kernel
theorem dX1_takeKnown_59 : decode cX1_takeKnown 59 = .ok (.iload_n 3, 1) := by decide +kernel
theorem dX1_takeKnown_60 : decode cX1_takeKnown 60 = .ok (.iload 4, 2) := by decide +kernel
theorem dX1_takeKnown_62 : decode cX1_takeKnown 62 = .ok (.invokevirtual 111, 3) := by decide +kernel
theorem dX1_takeKnown_65 : decode cX1_takeKnown 65 = .ok (.invokevirtual 114, 3) := by decide +kernel
theorem dX1_takeKnown_68 : decode cX1_takeKnown 68 = .ok (.iinc 4 1, 3) := by decide +kernel
theorem dX1_takeKnown_71 : decode cX1_takeKnown 71 = .ok (.goto (-23), 3) := by decide +kernel
theorem dX1_takeKnown_74 : decode cX1_takeKnown 74 = .ok (.iload_n 2, 1) := by decide +kernel
theorem dX1_takeKnown_75 : decode cX1_takeKnown 75 = .ok (.ireturn, 1) := by decide +kernel
set_option maxRecDepth 20000 in
theorem ggX1_addFactorsAt_X1_putClass : GoodIn wsX1_addFactorsAt wsX1_putClass := goodIn_r _ [11, 12, 60, 61, 62, 63, 64, 65, 66, 67, 68, 69, 70, 71, 72] (by decide +kernel) (by decide +kernel)
set_option maxRecDepth 20000 in
theorem gX1_addFactorsAt_X1_putClass : GoodIn wsX1_addFactorsAt (wsV RX1 114 RX1 yX1_putClass wsX1_putClass) := goodIn_app (goodIn_of _ (by decide +kernel)) ggX1_addFactorsAt_X1_putClass
set_option maxRecDepth 20000 in
theorem ggX1_addFactorsAt_X1_addClass : GoodIn wsX1_addFactorsAt wsX1_addClass := goodIn_r _ [16, 6, 17, 18, 19, 20, 21, 5, 22, 23, 24, 25, 26, 27, 28, 29, 30, 31, 32, 33, 34, 35, 36, 37, 38, 39, 40, 41, 42, 43, 44, 45, 46, 47, 48, 49, 50, 51, 52, 53, 54, 55, 56, 57, 58, 10, 59, 12, 60, 61, 62, 63, 64, 65, 66, 67, 68, 69, 70, 71, 72, 73, 74, 75, 76, 77, 78, 79, 80, 81] (by decide +kernel) (by decide +kernel)
set_option maxRecDepth 20000 in
theorem gX1_addFactorsAt_X1_addClass : GoodIn wsX1_addFactorsAt (wsV RX1 121 RX1 yX1_addClass wsX1_addClass) := goodIn_app (goodIn_of _ (by decide +kernel)) ggX1_addFactorsAt_X1_addClass
theorem dX1_addFactorsAt_0 : decode cX1_addFactorsAt 0 = .ok (.iload_n 3, 1) := by decide +kernel
theorem dX1_addFactorsAt_1 : decode cX1_addFactorsAt 1 = .ok (.istore 5, 2) := by decide +kernel
theorem dX1_addFactorsAt_3 : decode cX1_addFactorsAt 3 = .ok (.iconst 0, 1) := by decide +kernel
theorem dX1_addFactorsAt_4 : decode cX1_addFactorsAt 4 = .ok (.iload_n 3, 1) := by decide +kernel
theorem dX1_addFactorsAt_5 : decode cX1_addFactorsAt 5 = .ok (.invokestatic 118, 3) := by decide +kernel
theorem dX1_addFactorsAt_8 : decode cX1_addFactorsAt 8 = .ok (.istore 6, 2) := by decide +kernel
theorem dX1_addFactorsAt_10 : decode cX1_addFactorsAt 10 = .ok (.iload 6, 2) := by decide +kernel
theorem dX1_addFactorsAt_12 : decode cX1_addFactorsAt 12 = .ok (.iload 4, 2) := by decide +kernel
theorem dX1_addFactorsAt_14 : decode cX1_addFactorsAt 14 = .ok (.if_icmp .gt 96, 3) := by decide +kernel
theorem dX1_addFactorsAt_17 : decode cX1_addFactorsAt 17 = .ok (.iload 6, 2) := by decide +kernel
theorem dX1_addFactorsAt_19 : decode cX1_addFactorsAt 19 = .ok (.aload_n 0, 1) := by decide +kernel
theorem dX1_addFactorsAt_20 : decode cX1_addFactorsAt 20 = .ok (.getfield 18, 3) := by decide +kernel
theorem dX1_addFactorsAt_23 : decode cX1_addFactorsAt 23 = .ok (.arraylength, 1) := by decide +kernel
theorem dX1_addFactorsAt_24 : decode cX1_addFactorsAt 24 = .ok (.if_icmp .ge 86, 3) := by decide +kernel
theorem dX1_addFactorsAt_27 : decode cX1_addFactorsAt 27 = .ok (.aload_n 0, 1) := by decide +kernel
theorem dX1_addFactorsAt_28 : decode cX1_addFactorsAt 28 = .ok (.iload_n 2, 1) := by decide +kernel
theorem dX1_addFactorsAt_29 : decode cX1_addFactorsAt 29 = .ok (.iload 6, 2) := by decide +kernel
theorem dX1_addFactorsAt_31 : decode cX1_addFactorsAt 31 = .ok (.aload_n 0, 1) := by decide +kernel
theorem dX1_addFactorsAt_32 : decode cX1_addFactorsAt 32 = .ok (.getfield 52, 3) := by decide +kernel
theorem dX1_addFactorsAt_35 : decode cX1_addFactorsAt 35 = .ok (.invokevirtual 114, 3) := by decide +kernel
theorem dX1_addFactorsAt_38 : decode cX1_addFactorsAt 38 = .ok (.iload 6, 2) := by decide +kernel
theorem dX1_addFactorsAt_40 : decode cX1_addFactorsAt 40 = .ok (.iload 4, 2) := by decide +kernel
theorem dX1_addFactorsAt_42 : decode cX1_addFactorsAt 42 = .ok (.if_icmp .eq 15, 3) := by decide +kernel
theorem dX1_addFactorsAt_45 : decode cX1_addFactorsAt 45 = .ok (.iload 6, 2) := by decide +kernel
theorem dX1_addFactorsAt_47 : decode cX1_addFactorsAt 47 = .ok (.iconst 1, 1) := by decide +kernel
theorem dX1_addFactorsAt_48 : decode cX1_addFactorsAt 48 = .ok (.iadd, 1) := by decide +kernel
theorem dX1_addFactorsAt_49 : decode cX1_addFactorsAt 49 = .ok (.aload_n 0, 1) := by decide +kernel
theorem dX1_addFactorsAt_50 : decode cX1_addFactorsAt 50 = .ok (.getfield 18, 3) := by decide +kernel
theorem dX1_addFactorsAt_53 : decode cX1_addFactorsAt 53 = .ok (.arraylength, 1) := by decide +kernel
theorem dX1_addFactorsAt_54 : decode cX1_addFactorsAt 54 = .ok (.if_icmp .ne 7, 3) := by decide +kernel
theorem dX1_addFactorsAt_57 : decode cX1_addFactorsAt 57 = .ok (.iconst 1, 1) := by decide +kernel
theorem dX1_addFactorsAt_58 : decode cX1_addFactorsAt 58 = .ok (.goto 4, 3) := by decide +kernel
theorem dX1_addFactorsAt_61 : decode cX1_addFactorsAt 61 = .ok (.iconst 0, 1) := by decide +kernel
theorem dX1_addFactorsAt_62 : decode cX1_addFactorsAt 62 = .ok (.istore 7, 2) := by decide +kernel
theorem dX1_addFactorsAt_64 : decode cX1_addFactorsAt 64 = .ok (.iload 7, 2) := by decide +kernel
theorem dX1_addFactorsAt_66 : decode cX1_addFactorsAt 66 = .ok (.ifCond .ne 22, 3) := by decide +kernel
theorem dX1_addFactorsAt_69 : decode cX1_addFactorsAt 69 = .ok (.aload_n 0, 1) := by decide +kernel
theorem dX1_addFactorsAt_70 : decode cX1_addFactorsAt 70 = .ok (.getfield 18, 3) := by decide +kernel
theorem dX1_addFactorsAt_73 : decode cX1_addFactorsAt 73 = .ok (.iload 6, 2) := by decide +kernel
theorem dX1_addFactorsAt_75 : decode cX1_addFactorsAt 75 = .ok (.iconst 1, 1) := by decide +kernel
theorem dX1_addFactorsAt_76 : decode cX1_addFactorsAt 76 = .ok (.iadd, 1) := by decide +kernel
theorem dX1_addFactorsAt_77 : decode cX1_addFactorsAt 77 = .ok (.iaload, 1) := by decide +kernel
theorem dX1_addFactorsAt_78 : decode cX1_addFactorsAt 78 = .ok (.aload_n 0, 1) := by decide +kernel
theorem dX1_addFactorsAt_79 : decode cX1_addFactorsAt 79 = .ok (.getfield 18, 3) := by decide +kernel
theorem dX1_addFactorsAt_82 : decode cX1_addFactorsAt 82 = .ok (.iload 6, 2) := by decide +kernel
theorem dX1_addFactorsAt_84 : decode cX1_addFactorsAt 84 = .ok (.iaload, 1) := by decide +kernel
theorem dX1_addFactorsAt_85 : decode cX1_addFactorsAt 85 = .ok (.if_icmp .eq 19, 3) := by decide +kernel
theorem dX1_addFactorsAt_88 : decode cX1_addFactorsAt 88 = .ok (.aload_n 0, 1) := by decide +kernel
theorem dX1_addFactorsAt_89 : decode cX1_addFactorsAt 89 = .ok (.aload_n 1, 1) := by decide +kernel
theorem dX1_addFactorsAt_90 : decode cX1_addFactorsAt 90 = .ok (.iload_n 2, 1) := by decide +kernel
theorem dX1_addFactorsAt_91 : decode cX1_addFactorsAt 91 = .ok (.iload 5, 2) := by decide +kernel
theorem dX1_addFactorsAt_93 : decode cX1_addFactorsAt 93 = .ok (.iload 6, 2) := by decide +kernel
theorem dX1_addFactorsAt_95 : decode cX1_addFactorsAt 95 = .ok (.invokevirtual 121, 3) := by decide +kernel
theorem dX1_addFactorsAt_98 : decode cX1_addFactorsAt 98 = .ok (.iload 6, 2) := by decide +kernel
theorem dX1_addFactorsAt_100 : decode cX1_addFactorsAt 100 = .ok (.iconst 1, 1) := by decide +kernel
theorem dX1_addFactorsAt_101 : decode cX1_addFactorsAt 101 = .ok (.iadd, 1) := by decide +kernel
theorem dX1_addFactorsAt_102 : decode cX1_addFactorsAt 102 = .ok (.istore 5, 2) := by decide +kernel
theorem dX1_addFactorsAt_104 : decode cX1_addFactorsAt 104 = .ok (.iinc 6 1, 3) := by decide +kernel
theorem dX1_addFactorsAt_107 : decode cX1_addFactorsAt 107 = .ok (.goto (-97), 3) := by decide +kernel
theorem dX1_addFactorsAt_110 : decode cX1_addFactorsAt 110 = .ok (.return_, 1) := by decide +kernel
theorem dX1_putClass_0 : decode cX1_putClass 0 = .ok (.iload_n 1, 1) := by decide +kernel
theorem dX1_putClass_1 : decode cX1_putClass 1 = .ok (.ifCond .lt 28, 3) := by decide +kernel
theorem dX1_putClass_4 : decode cX1_putClass 4 = .ok (.iload_n 1, 1) := by decide +kernel
theorem dX1_putClass_5 : decode cX1_putClass 5 = .ok (.bipush 60, 2) := by decide +kernel
theorem dX1_putClass_7 : decode cX1_putClass 7 = .ok (.if_icmp .ge 22, 3) := by decide +kernel
theorem dX1_putClass_10 : decode cX1_putClass 10 = .ok (.iload_n 2, 1) := by decide +kernel
theorem dX1_putClass_11 : decode cX1_putClass 11 = .ok (.ifCond .lt 18, 3) := by decide +kernel
theorem dX1_putClass_14 : decode cX1_putClass 14 = .ok (.iload_n 2, 1) := by decide +kernel
theorem dX1_putClass_15 : decode cX1_putClass 15 = .ok (.bipush 60, 2) := by decide +kernel
theorem dX1_putClass_17 : decode cX1_putClass 17 = .ok (.if_icmp .gt 12, 3) := by decide +kernel
theorem dX1_putClass_20 : decode cX1_putClass 20 = .ok (.aload_n 0, 1) := by decide +kernel
theorem dX1_putClass_21 : decode cX1_putClass 21 = .ok (.getfield 24, 3) := by decide +kernel
theorem dX1_putClass_24 : decode cX1_putClass 24 = .ok (.iload_n 1, 1) := by decide +kernel
theorem dX1_putClass_25 : decode cX1_putClass 25 = .ok (.aaload, 1) := by decide +kernel
theorem dX1_putClass_26 : decode cX1_putClass 26 = .ok (.iload_n 2, 1) := by decide +kernel
theorem dX1_putClass_27 : decode cX1_putClass 27 = .ok (.iload_n 3, 1) := by decide +kernel
theorem dX1_putClass_28 : decode cX1_putClass 28 = .ok (.iastore, 1) := by decide +kernel
theorem dX1_putClass_29 : decode cX1_putClass 29 = .ok (.return_, 1) := by decide +kernel
set_option maxRecDepth 20000 in
theorem ggX1_addClass_X5_length : GoodIn wsX1_addClass wsX5_length := goodIn_r _ [15, 16, 61, 62, 63, 64, 65, 66, 67, 68] (by decide +kernel) (by decide +kernel)
set_option maxRecDepth 20000 in
theorem gX1_addClass_X5_length : GoodIn wsX1_addClass (wsV RX1 78 RX5 yX5_length wsX5_length) := goodIn_app (goodIn_of _ (by decide +kernel)) ggX1_addClass_X5_length
set_option maxRecDepth 20000 in
theorem ggX1_addClass_X4_lengthAt : GoodIn wsX1_addClass wsX4_lengthAt := goodIn_r _ [21, 22, 69] (by decide +kernel) (by decide +kernel)
set_option maxRecDepth 20000 in
theorem gX1_addClass_X4_lengthAt : GoodIn wsX1_addClass (wsV RX1 108 RX4 yX4_lengthAt wsX4_lengthAt) := goodIn_app (goodIn_of _ (by decide +kernel)) ggX1_addClass_X4_lengthAt
set_option maxRecDepth 20000 in
theorem ggX1_addClass_X5_wordAt : GoodIn wsX1_addClass wsX5_wordAt := goodIn_r _ [26, 27, 28, 29, 30, 14, 31, 16, 61, 62, 63, 64, 65, 66, 67, 68] (by decide +kernel) (by decide +kernel)
set_option maxRecDepth 20000 in
theorem gX1_addClass_X5_wordAt : GoodIn wsX1_addClass (wsV RX1 124 RX5 yX5_wordAt wsX5_wordAt) := goodIn_app (goodIn_of _ (by decide +kernel)) ggX1_addClass_X5_wordAt
set_option maxRecDepth 20000 in
theorem ggX1_addClass_X5_lettersFrom : GoodIn wsX1_addClass wsX5_lettersFrom := goodIn_r _ [35, 36, 28, 29, 30, 14, 31, 16, 61, 62, 63, 64, 65, 66, 67, 68] (by decide +kernel) (by decide +kernel)
set_option maxRecDepth 20000 in
theorem gX1_addClass_X5_lettersFrom : GoodIn wsX1_addClass (wsV RX1 127 RX5 yX5_lettersFrom wsX5_lettersFrom) := goodIn_app (goodIn_of _ (by decide +kernel)) ggX1_addClass_X5_lettersFrom
set_option maxRecDepth 20000 in
theorem ggX1_addClass_X5_letterAt : GoodIn wsX1_addClass wsX5_letterAt := goodIn_r _ [40, 41, 28, 29, 30, 14, 31, 16, 61, 62, 63, 64, 65, 66, 67, 68] (by decide +kernel) (by decide +kernel)
set_option maxRecDepth 20000 in
theorem gX1_addClass_X5_letterAt : GoodIn wsX1_addClass (wsV RX1 81 RX5 yX5_letterAt wsX5_letterAt) := goodIn_app (goodIn_of _ (by decide +kernel)) ggX1_addClass_X5_letterAt
set_option maxRecDepth 20000 in
theorem ggX1_addClass_X1_classAt : GoodIn wsX1_addClass wsX1_classAt := goodIn_r _ [46, 47, 48, 49, 50, 51, 52, 53, 54, 55, 56, 57, 58, 59, 60] (by decide +kernel) (by decide +kernel)
set_option maxRecDepth 20000 in
theorem gX1_addClass_X1_classAt : GoodIn wsX1_addClass (wsV RX1 111 RX1 yX1_classAt wsX1_classAt) := goodIn_app (goodIn_of _ (by decide +kernel)) ggX1_addClass_X1_classAt
theorem dX1_addClass_0 : decode cX1_addClass 0 = .ok (.aload_n 0, 1) := by decide +kernel
theorem dX1_addClass_1 : decode cX1_addClass 1 = .ok (.getfield 52, 3) := by decide +kernel
theorem dX1_addClass_4 : decode cX1_addClass 4 = .ok (.bipush 120, 2) := by decide +kernel
theorem dX1_addClass_6 : decode cX1_addClass 6 = .ok (.if_icmp .ge 16, 3) := by decide +kernel
theorem dX1_addClass_9 : decode cX1_addClass 9 = .ok (.iload 4, 2) := by decide +kernel
theorem dX1_addClass_11 : decode cX1_addClass 11 = .ok (.iconst 1, 1) := by decide +kernel
theorem dX1_addClass_12 : decode cX1_addClass 12 = .ok (.if_icmp .lt 10, 3) := by decide +kernel
theorem dX1_addClass_15 : decode cX1_addClass 15 = .ok (.iload 4, 2) := by decide +kernel
theorem dX1_addClass_17 : decode cX1_addClass 17 = .ok (.bipush 60, 2) := by decide +kernel
theorem dX1_addClass_19 : decode cX1_addClass 19 = .ok (.if_icmp .le 4, 3) := by decide +kernel
theorem dX1_addClass_22 : decode cX1_addClass 22 = .ok (.return_, 1) := by decide +kernel
theorem dX1_addClass_23 : decode cX1_addClass 23 = .ok (.iconst 0, 1) := by decide +kernel
theorem dX1_addClass_24 : decode cX1_addClass 24 = .ok (.istore 5, 2) := by decide +kernel
theorem dX1_addClass_26 : decode cX1_addClass 26 = .ok (.iconst 0, 1) := by decide +kernel
theorem dX1_addClass_27 : decode cX1_addClass 27 = .ok (.istore 6, 2) := by decide +kernel
theorem dX1_addClass_29 : decode cX1_addClass 29 = .ok (.iconst 0, 1) := by decide +kernel
theorem dX1_addClass_30 : decode cX1_addClass 30 = .ok (.istore 7, 2) := by decide +kernel
theorem dX1_addClass_32 : decode cX1_addClass 32 = .ok (.iload 7, 2) := by decide +kernel
theorem dX1_addClass_34 : decode cX1_addClass 34 = .ok (.aload_n 1, 1) := by decide +kernel
theorem dX1_addClass_35 : decode cX1_addClass 35 = .ok (.invokevirtual 78, 3) := by decide +kernel
theorem dX1_addClass_38 : decode cX1_addClass 38 = .ok (.if_icmp .ge 65, 3) := by decide +kernel
theorem dX1_addClass_41 : decode cX1_addClass 41 = .ok (.aload_n 0, 1) := by decide +kernel
theorem dX1_addClass_42 : decode cX1_addClass 42 = .ok (.getfield 12, 3) := by decide +kernel
theorem dX1_addClass_45 : decode cX1_addClass 45 = .ok (.iload 7, 2) := by decide +kernel
theorem dX1_addClass_47 : decode cX1_addClass 47 = .ok (.invokevirtual 108, 3) := by decide +kernel
theorem dX1_addClass_50 : decode cX1_addClass 50 = .ok (.iload 4, 2) := by decide +kernel
theorem dX1_addClass_52 : decode cX1_addClass 52 = .ok (.if_icmp .lt 45, 3) := by decide +kernel
theorem dX1_addClass_55 : decode cX1_addClass 55 = .ok (.iload 5, 2) := by decide +kernel
theorem dX1_addClass_57 : decode cX1_addClass 57 = .ok (.iconst 1, 1) := by decide +kernel
theorem dX1_addClass_58 : decode cX1_addClass 58 = .ok (.aload_n 1, 1) := by decide +kernel
theorem dX1_addClass_59 : decode cX1_addClass 59 = .ok (.iload 7, 2) := by decide +kernel
theorem dX1_addClass_61 : decode cX1_addClass 61 = .ok (.invokevirtual 124, 3) := by decide +kernel
theorem dX1_addClass_64 : decode cX1_addClass 64 = .ok (.ishl, 1) := by decide +kernel
theorem dX1_addClass_65 : decode cX1_addClass 65 = .ok (.ior, 1) := by decide +kernel
theorem dX1_addClass_66 : decode cX1_addClass 66 = .ok (.istore 5, 2) := by decide +kernel
theorem dX1_addClass_68 : decode cX1_addClass 68 = .ok (.iload 6, 2) := by decide +kernel
theorem dX1_addClass_70 : decode cX1_addClass 70 = .ok (.aload_n 1, 1) := by decide +kernel
theorem dX1_addClass_71 : decode cX1_addClass 71 = .ok (.iload 7, 2) := by decide +kernel
theorem dX1_addClass_73 : decode cX1_addClass 73 = .ok (.invokevirtual 127, 3) := by decide +kernel
theorem dX1_addClass_76 : decode cX1_addClass 76 = .ok (.iconst 1, 1) := by decide +kernel
theorem dX1_addClass_77 : decode cX1_addClass 77 = .ok (.if_icmp .le 16, 3) := by decide +kernel
theorem dX1_addClass_80 : decode cX1_addClass 80 = .ok (.iconst 1, 1) := by decide +kernel
theorem dX1_addClass_81 : decode cX1_addClass 81 = .ok (.aload_n 1, 1) := by decide +kernel
theorem dX1_addClass_82 : decode cX1_addClass 82 = .ok (.iload 7, 2) := by decide +kernel
theorem dX1_addClass_84 : decode cX1_addClass 84 = .ok (.iconst 1, 1) := by decide +kernel
theorem dX1_addClass_85 : decode cX1_addClass 85 = .ok (.iadd, 1) := by decide +kernel
theorem dX1_addClass_86 : decode cX1_addClass 86 = .ok (.invokevirtual 81, 3) := by decide +kernel
theorem dX1_addClass_89 : decode cX1_addClass 89 = .ok (.ishl, 1) := by decide +kernel
theorem dX1_addClass_90 : decode cX1_addClass 90 = .ok (.goto 4, 3) := by decide +kernel
theorem dX1_addClass_93 : decode cX1_addClass 93 = .ok (.iconst 0, 1) := by decide +kernel
theorem dX1_addClass_94 : decode cX1_addClass 94 = .ok (.ior, 1) := by decide +kernel
theorem dX1_addClass_95 : decode cX1_addClass 95 = .ok (.istore 6, 2) := by decide +kernel
theorem dX1_addClass_97 : decode cX1_addClass 97 = .ok (.iinc 7 1, 3) := by decide +kernel
theorem dX1_addClass_100 : decode cX1_addClass 100 = .ok (.goto (-68), 3) := by decide +kernel
theorem dX1_addClass_103 : decode cX1_addClass 103 = .ok (.aload_n 0, 1) := by decide +kernel
theorem dX1_addClass_104 : decode cX1_addClass 104 = .ok (.getfield 27, 3) := by decide +kernel
theorem dX1_addClass_107 : decode cX1_addClass 107 = .ok (.aload_n 0, 1) := by decide +kernel
theorem dX1_addClass_108 : decode cX1_addClass 108 = .ok (.getfield 52, 3) := by decide +kernel
theorem dX1_addClass_111 : decode cX1_addClass 111 = .ok (.iload_n 2, 1) := by decide +kernel
theorem dX1_addClass_112 : decode cX1_addClass 112 = .ok (.iastore, 1) := by decide +kernel
theorem dX1_addClass_113 : decode cX1_addClass 113 = .ok (.aload_n 0, 1) := by decide +kernel
theorem dX1_addClass_114 : decode cX1_addClass 114 = .ok (.getfield 30, 3) := by decide +kernel
theorem dX1_addClass_117 : decode cX1_addClass 117 = .ok (.aload_n 0, 1) := by decide +kernel
theorem dX1_addClass_118 : decode cX1_addClass 118 = .ok (.getfield 52, 3) := by decide +kernel
theorem dX1_addClass_121 : decode cX1_addClass 121 = .ok (.iload 4, 2) := by decide +kernel
theorem dX1_addClass_123 : decode cX1_addClass 123 = .ok (.iastore, 1) := by decide +kernel
theorem dX1_addClass_124 : decode cX1_addClass 124 = .ok (.aload_n 0, 1) := by decide +kernel
theorem dX1_addClass_125 : decode cX1_addClass 125 = .ok (.getfield 33, 3) := by decide +kernel
theorem dX1_addClass_128 : decode cX1_addClass 128 = .ok (.aload_n 0, 1) := by decide +kernel
theorem dX1_addClass_129 : decode cX1_addClass 129 = .ok (.getfield 52, 3) := by decide +kernel
theorem dX1_addClass_132 : decode cX1_addClass 132 = .ok (.iload_n 3, 1) := by decide +kernel
theorem dX1_addClass_133 : decode cX1_addClass 133 = .ok (.iastore, 1) := by decide +kernel
theorem dX1_addClass_134 : decode cX1_addClass 134 = .ok (.aload_n 0, 1) := by decide +kernel
theorem dX1_addClass_135 : decode cX1_addClass 135 = .ok (.getfield 36, 3) := by decide +kernel
theorem dX1_addClass_138 : decode cX1_addClass 138 = .ok (.aload_n 0, 1) := by decide +kernel
theorem dX1_addClass_139 : decode cX1_addClass 139 = .ok (.getfield 52, 3) := by decide +kernel
theorem dX1_addClass_142 : decode cX1_addClass 142 = .ok (.aload_n 0, 1) := by decide +kernel
theorem dX1_addClass_143 : decode cX1_addClass 143 = .ok (.getfield 18, 3) := by decide +kernel
theorem dX1_addClass_146 : decode cX1_addClass 146 = .ok (.iload 4, 2) := by decide +kernel
theorem dX1_addClass_148 : decode cX1_addClass 148 = .ok (.iaload, 1) := by decide +kernel
theorem dX1_addClass_149 : decode cX1_addClass 149 = .ok (.iastore, 1) := by decide +kernel
theorem dX1_addClass_150 : decode cX1_addClass 150 = .ok (.aload_n 0, 1) := by decide +kernel
theorem dX1_addClass_151 : decode cX1_addClass 151 = .ok (.getfield 39, 3) := by decide +kernel
theorem dX1_addClass_154 : decode cX1_addClass 154 = .ok (.aload_n 0, 1) := by decide +kernel
theorem dX1_addClass_155 : decode cX1_addClass 155 = .ok (.getfield 52, 3) := by decide +kernel
theorem dX1_addClass_158 : decode cX1_addClass 158 = .ok (.iload_n 3, 1) := by decide +kernel
theorem dX1_addClass_159 : decode cX1_addClass 159 = .ok (.iconst 1, 1) := by decide +kernel
theorem dX1_addClass_160 : decode cX1_addClass 160 = .ok (.if_icmp .le 14, 3) := by decide +kernel
theorem dX1_addClass_163 : decode cX1_addClass 163 = .ok (.aload_n 0, 1) := by decide +kernel
theorem dX1_addClass_164 : decode cX1_addClass 164 = .ok (.iload_n 2, 1) := by decide +kernel
theorem dX1_addClass_165 : decode cX1_addClass 165 = .ok (.iload_n 3, 1) := by decide +kernel
theorem dX1_addClass_166 : decode cX1_addClass 166 = .ok (.iconst 1, 1) := by decide +kernel
theorem dX1_addClass_167 : decode cX1_addClass 167 = .ok (.isub, 1) := by decide +kernel
theorem dX1_addClass_168 : decode cX1_addClass 168 = .ok (.invokevirtual 111, 3) := by decide +kernel
theorem dX1_addClass_171 : decode cX1_addClass 171 = .ok (.goto 5, 3) := by decide +kernel
theorem dX1_addClass_174 : decode cX1_addClass 174 = .ok (.bipush (-6), 2) := by decide +kernel
theorem dX1_addClass_176 : decode cX1_addClass 176 = .ok (.iastore, 1) := by decide +kernel
theorem dX1_addClass_177 : decode cX1_addClass 177 = .ok (.aload_n 0, 1) := by decide +kernel
theorem dX1_addClass_178 : decode cX1_addClass 178 = .ok (.getfield 42, 3) := by decide +kernel
theorem dX1_addClass_181 : decode cX1_addClass 181 = .ok (.aload_n 0, 1) := by decide +kernel
theorem dX1_addClass_182 : decode cX1_addClass 182 = .ok (.getfield 52, 3) := by decide +kernel
theorem dX1_addClass_185 : decode cX1_addClass 185 = .ok (.iload 5, 2) := by decide +kernel
theorem dX1_addClass_187 : decode cX1_addClass 187 = .ok (.iastore, 1) := by decide +kernel
theorem dX1_addClass_188 : decode cX1_addClass 188 = .ok (.aload_n 0, 1) := by decide +kernel
theorem dX1_addClass_189 : decode cX1_addClass 189 = .ok (.getfield 45, 3) := by decide +kernel
theorem dX1_addClass_192 : decode cX1_addClass 192 = .ok (.aload_n 0, 1) := by decide +kernel
theorem dX1_addClass_193 : decode cX1_addClass 193 = .ok (.getfield 52, 3) := by decide +kernel
theorem dX1_addClass_196 : decode cX1_addClass 196 = .ok (.iload 6, 2) := by decide +kernel
theorem dX1_addClass_198 : decode cX1_addClass 198 = .ok (.iastore, 1) := by decide +kernel
theorem dX1_addClass_199 : decode cX1_addClass 199 = .ok (.aload_n 0, 1) := by decide +kernel
theorem dX1_addClass_200 : decode cX1_addClass 200 = .ok (.dup, 1) := by decide +kernel
theorem dX1_addClass_201 : decode cX1_addClass 201 = .ok (.getfield 52, 3) := by decide +kernel
theorem dX1_addClass_204 : decode cX1_addClass 204 = .ok (.iconst 1, 1) := by decide +kernel
theorem dX1_addClass_205 : decode cX1_addClass 205 = .ok (.iadd, 1) := by decide +kernel
theorem dX1_addClass_206 : decode cX1_addClass 206 = .ok (.putfield 52, 3) := by decide +kernel
theorem dX1_addClass_209 : decode cX1_addClass 209 = .ok (.return_, 1) := by decide +kernel
set_option maxRecDepth 20000 in
theorem ggX1_classAfter_X1_longestIn : GoodIn wsX1_classAfter wsX1_longestIn := goodIn_r _ [5, 6, 7, 8, 9, 4, 10, 11, 47, 48, 49, 50, 51, 52, 53, 54, 55, 56, 57, 58, 59] (by decide +kernel) (by decide +kernel)
set_option maxRecDepth 20000 in
theorem gX1_classAfter_X1_longestIn : GoodIn wsX1_classAfter (wsV RX1 66 RX1 yX1_longestIn wsX1_longestIn) := goodIn_app (goodIn_of _ (by decide +kernel)) ggX1_classAfter_X1_longestIn
set_option maxRecDepth 20000 in
theorem ggX1_classAfter_X1_firstEndOf : GoodIn wsX1_classAfter wsX1_firstEndOf := goodIn_r _ [15, 16, 7, 8, 9, 4, 10, 11, 47, 48, 49, 50, 51, 52, 53, 54, 55, 56, 57, 58, 59] (by decide +kernel) (by decide +kernel)
set_option maxRecDepth 20000 in
theorem gX1_classAfter_X1_firstEndOf : GoodIn wsX1_classAfter (wsV RX1 62 RX1 yX1_firstEndOf wsX1_firstEndOf) := goodIn_app (goodIn_of _ (by decide +kernel)) ggX1_classAfter_X1_firstEndOf
set_option maxRecDepth 20000 in
theorem ggX1_classAfter_X5_length : GoodIn wsX1_classAfter wsX5_length := goodIn_r _ [21, 22, 60, 61, 62, 63, 64, 65, 66, 67] (by decide +kernel) (by decide +kernel)
set_option maxRecDepth 20000 in
theorem gX1_classAfter_X5_length : GoodIn wsX1_classAfter (wsV RX1 78 RX5 yX5_length wsX5_length) := goodIn_app (goodIn_of _ (by decide +kernel)) ggX1_classAfter_X5_length
set_option maxRecDepth 20000 in
theorem ggX1_classAfter_X5_letterAt : GoodIn wsX1_classAfter wsX5_letterAt := goodIn_r _ [26, 27, 28, 29, 30, 20, 31, 22, 60, 61, 62, 63, 64, 65, 66, 67] (by decide +kernel) (by decide +kernel)
set_option maxRecDepth 20000 in
theorem gX1_classAfter_X5_letterAt : GoodIn wsX1_classAfter (wsV RX1 81 RX5 yX5_letterAt wsX5_letterAt) := goodIn_app (goodIn_of _ (by decide +kernel)) ggX1_classAfter_X5_letterAt
set_option maxRecDepth 20000 in
theorem ggX1_classAfter_X5_placeAt : GoodIn wsX1_classAfter wsX5_placeAt := goodIn_r _ [35, 36, 28, 29, 30, 20, 31, 22, 60, 61, 62, 63, 64, 65, 66, 67] (by decide +kernel) (by decide +kernel)
set_option maxRecDepth 20000 in
theorem gX1_classAfter_X5_placeAt : GoodIn wsX1_classAfter (wsV RX1 88 RX5 yX5_placeAt wsX5_placeAt) := goodIn_app (goodIn_of _ (by decide +kernel)) ggX1_classAfter_X5_placeAt
set_option maxRecDepth 20000 in
theorem ggX1_classAfter_X5_sameBefore : GoodIn wsX1_classAfter wsX5_sameBefore := goodIn_r _ [40, 41, 24, 25, 20, 26, 27, 28, 29, 30, 31, 22, 60, 61, 62, 63, 64, 65, 66, 67] (by decide +kernel) (by decide +kernel)
set_option maxRecDepth 20000 in
theorem gX1_classAfter_X5_sameBefore : GoodIn wsX1_classAfter (wsV RX1 130 RX5 yX5_sameBefore wsX5_sameBefore) := goodIn_app (goodIn_of _ (by decide +kernel)) ggX1_classAfter_X5_sameBefore
set_option maxRecDepth 20000 in
theorem ggX1_classAfter_X1_classAt : GoodIn wsX1_classAfter wsX1_classAt := goodIn_r _ [45, 46, 47, 48, 49, 50, 51, 52, 53, 54, 55, 56, 57, 58, 59] (by decide +kernel) (by decide +kernel)
set_option maxRecDepth 20000 in
theorem gX1_classAfter_X1_classAt : GoodIn wsX1_classAfter (wsV RX1 111 RX1 yX1_classAt wsX1_classAt) := goodIn_app (goodIn_of _ (by decide +kernel)) ggX1_classAfter_X1_classAt
theorem dX1_classAfter_0 : decode cX1_classAfter 0 = .ok (.aload_n 0, 1) := by decide +kernel
theorem dX1_classAfter_1 : decode cX1_classAfter 1 = .ok (.iload_n 2, 1) := by decide +kernel
theorem dX1_classAfter_2 : decode cX1_classAfter 2 = .ok (.invokevirtual 66, 3) := by decide +kernel
theorem dX1_classAfter_5 : decode cX1_classAfter 5 = .ok (.istore 4, 2) := by decide +kernel
theorem dX1_classAfter_7 : decode cX1_classAfter 7 = .ok (.aload_n 0, 1) := by decide +kernel
theorem dX1_classAfter_8 : decode cX1_classAfter 8 = .ok (.iload_n 2, 1) := by decide +kernel
theorem dX1_classAfter_9 : decode cX1_classAfter 9 = .ok (.invokevirtual 62, 3) := by decide +kernel
theorem dX1_classAfter_12 : decode cX1_classAfter 12 = .ok (.iconst 1, 1) := by decide +kernel
theorem dX1_classAfter_13 : decode cX1_classAfter 13 = .ok (.iadd, 1) := by decide +kernel
theorem dX1_classAfter_14 : decode cX1_classAfter 14 = .ok (.istore 5, 2) := by decide +kernel
theorem dX1_classAfter_16 : decode cX1_classAfter 16 = .ok (.iconst 0, 1) := by decide +kernel
theorem dX1_classAfter_17 : decode cX1_classAfter 17 = .ok (.istore 6, 2) := by decide +kernel
theorem dX1_classAfter_19 : decode cX1_classAfter 19 = .ok (.iload 6, 2) := by decide +kernel
theorem dX1_classAfter_21 : decode cX1_classAfter 21 = .ok (.aload_n 1, 1) := by decide +kernel
theorem dX1_classAfter_22 : decode cX1_classAfter 22 = .ok (.invokevirtual 78, 3) := by decide +kernel
theorem dX1_classAfter_25 : decode cX1_classAfter 25 = .ok (.if_icmp .ge 66, 3) := by decide +kernel
theorem dX1_classAfter_28 : decode cX1_classAfter 28 = .ok (.aload_n 1, 1) := by decide +kernel
theorem dX1_classAfter_29 : decode cX1_classAfter 29 = .ok (.iload 6, 2) := by decide +kernel
theorem dX1_classAfter_31 : decode cX1_classAfter 31 = .ok (.invokevirtual 81, 3) := by decide +kernel
theorem dX1_classAfter_34 : decode cX1_classAfter 34 = .ok (.iload_n 3, 1) := by decide +kernel
theorem dX1_classAfter_35 : decode cX1_classAfter 35 = .ok (.if_icmp .ne 18, 3) := by decide +kernel
theorem dX1_classAfter_38 : decode cX1_classAfter 38 = .ok (.aload_n 1, 1) := by decide +kernel
theorem dX1_classAfter_39 : decode cX1_classAfter 39 = .ok (.iload 6, 2) := by decide +kernel
theorem dX1_classAfter_41 : decode cX1_classAfter 41 = .ok (.invokevirtual 88, 3) := by decide +kernel
theorem dX1_classAfter_44 : decode cX1_classAfter 44 = .ok (.iload 4, 2) := by decide +kernel
theorem dX1_classAfter_46 : decode cX1_classAfter 46 = .ok (.if_icmp .lt 7, 3) := by decide +kernel
theorem dX1_classAfter_49 : decode cX1_classAfter 49 = .ok (.iconst 1, 1) := by decide +kernel
theorem dX1_classAfter_50 : decode cX1_classAfter 50 = .ok (.goto 4, 3) := by decide +kernel
theorem dX1_classAfter_53 : decode cX1_classAfter 53 = .ok (.iconst 0, 1) := by decide +kernel
theorem dX1_classAfter_54 : decode cX1_classAfter 54 = .ok (.istore 7, 2) := by decide +kernel
theorem dX1_classAfter_56 : decode cX1_classAfter 56 = .ok (.iload 7, 2) := by decide +kernel
theorem dX1_classAfter_58 : decode cX1_classAfter 58 = .ok (.ifCond .eq 27, 3) := by decide +kernel
theorem dX1_classAfter_61 : decode cX1_classAfter 61 = .ok (.aload_n 1, 1) := by decide +kernel
theorem dX1_classAfter_62 : decode cX1_classAfter 62 = .ok (.iload 6, 2) := by decide +kernel
theorem dX1_classAfter_64 : decode cX1_classAfter 64 = .ok (.iload 5, 2) := by decide +kernel
theorem dX1_classAfter_66 : decode cX1_classAfter 66 = .ok (.iload 4, 2) := by decide +kernel
theorem dX1_classAfter_68 : decode cX1_classAfter 68 = .ok (.invokevirtual 130, 3) := by decide +kernel
theorem dX1_classAfter_71 : decode cX1_classAfter 71 = .ok (.ifCond .eq 14, 3) := by decide +kernel
theorem dX1_classAfter_74 : decode cX1_classAfter 74 = .ok (.aload_n 0, 1) := by decide +kernel
theorem dX1_classAfter_75 : decode cX1_classAfter 75 = .ok (.iload 6, 2) := by decide +kernel
theorem dX1_classAfter_77 : decode cX1_classAfter 77 = .ok (.iload 4, 2) := by decide +kernel
theorem dX1_classAfter_79 : decode cX1_classAfter 79 = .ok (.iconst 1, 1) := by decide +kernel
theorem dX1_classAfter_80 : decode cX1_classAfter 80 = .ok (.iadd, 1) := by decide +kernel
theorem dX1_classAfter_81 : decode cX1_classAfter 81 = .ok (.invokevirtual 111, 3) := by decide +kernel
theorem dX1_classAfter_84 : decode cX1_classAfter 84 = .ok (.ireturn, 1) := by decide +kernel
theorem dX1_classAfter_85 : decode cX1_classAfter 85 = .ok (.iinc 6 1, 3) := by decide +kernel
theorem dX1_classAfter_88 : decode cX1_classAfter 88 = .ok (.goto (-69), 3) := by decide +kernel
theorem dX1_classAfter_91 : decode cX1_classAfter 91 = .ok (.bipush (-6), 2) := by decide +kernel
theorem dX1_classAfter_93 : decode cX1_classAfter 93 = .ok (.ireturn, 1) := by decide +kernel
theorem dX1_factorsWith_0 : decode cX1_factorsWith 0 = .ok (.iconst 0, 1) := by decide +kernel
theorem dX1_factorsWith_1 : decode cX1_factorsWith 1 = .ok (.istore_n 3, 1) := by decide +kernel
theorem dX1_factorsWith_2 : decode cX1_factorsWith 2 = .ok (.iconst 0, 1) := by decide +kernel
theorem dX1_factorsWith_3 : decode cX1_factorsWith 3 = .ok (.istore 4, 2) := by decide +kernel
theorem dX1_factorsWith_5 : decode cX1_factorsWith 5 = .ok (.iload 4, 2) := by decide +kernel
theorem dX1_factorsWith_7 : decode cX1_factorsWith 7 = .ok (.aload_n 0, 1) := by decide +kernel
theorem dX1_factorsWith_8 : decode cX1_factorsWith 8 = .ok (.getfield 52, 3) := by decide +kernel
theorem dX1_factorsWith_11 : decode cX1_factorsWith 11 = .ok (.if_icmp .ge 72, 3) := by decide +kernel
theorem dX1_factorsWith_14 : decode cX1_factorsWith 14 = .ok (.aload_n 0, 1) := by decide +kernel
theorem dX1_factorsWith_15 : decode cX1_factorsWith 15 = .ok (.getfield 36, 3) := by decide +kernel
theorem dX1_factorsWith_18 : decode cX1_factorsWith 18 = .ok (.iload 4, 2) := by decide +kernel
theorem dX1_factorsWith_20 : decode cX1_factorsWith 20 = .ok (.iaload, 1) := by decide +kernel
theorem dX1_factorsWith_21 : decode cX1_factorsWith 21 = .ok (.iload_n 1, 1) := by decide +kernel
theorem dX1_factorsWith_22 : decode cX1_factorsWith 22 = .ok (.if_icmp .lt 55, 3) := by decide +kernel
theorem dX1_factorsWith_25 : decode cX1_factorsWith 25 = .ok (.iload_n 2, 1) := by decide +kernel
theorem dX1_factorsWith_26 : decode cX1_factorsWith 26 = .ok (.ifCond .ne 26, 3) := by decide +kernel
theorem dX1_factorsWith_29 : decode cX1_factorsWith 29 = .ok (.iload_n 3, 1) := by decide +kernel
theorem dX1_factorsWith_30 : decode cX1_factorsWith 30 = .ok (.aload_n 0, 1) := by decide +kernel
theorem dX1_factorsWith_31 : decode cX1_factorsWith 31 = .ok (.getfield 30, 3) := by decide +kernel
theorem dX1_factorsWith_34 : decode cX1_factorsWith 34 = .ok (.iload 4, 2) := by decide +kernel
theorem dX1_factorsWith_36 : decode cX1_factorsWith 36 = .ok (.iaload, 1) := by decide +kernel
theorem dX1_factorsWith_37 : decode cX1_factorsWith 37 = .ok (.aload_n 0, 1) := by decide +kernel
theorem dX1_factorsWith_38 : decode cX1_factorsWith 38 = .ok (.getfield 33, 3) := by decide +kernel
theorem dX1_factorsWith_41 : decode cX1_factorsWith 41 = .ok (.iload 4, 2) := by decide +kernel
theorem dX1_factorsWith_43 : decode cX1_factorsWith 43 = .ok (.iaload, 1) := by decide +kernel
theorem dX1_factorsWith_44 : decode cX1_factorsWith 44 = .ok (.isub, 1) := by decide +kernel
theorem dX1_factorsWith_45 : decode cX1_factorsWith 45 = .ok (.iconst 1, 1) := by decide +kernel
theorem dX1_factorsWith_46 : decode cX1_factorsWith 46 = .ok (.iadd, 1) := by decide +kernel
theorem dX1_factorsWith_47 : decode cX1_factorsWith 47 = .ok (.iadd, 1) := by decide +kernel
theorem dX1_factorsWith_48 : decode cX1_factorsWith 48 = .ok (.istore_n 3, 1) := by decide +kernel
theorem dX1_factorsWith_49 : decode cX1_factorsWith 49 = .ok (.goto 28, 3) := by decide +kernel
theorem dX1_factorsWith_52 : decode cX1_factorsWith 52 = .ok (.iload_n 2, 1) := by decide +kernel
theorem dX1_factorsWith_53 : decode cX1_factorsWith 53 = .ok (.aload_n 0, 1) := by decide +kernel
theorem dX1_factorsWith_54 : decode cX1_factorsWith 54 = .ok (.getfield 33, 3) := by decide +kernel
theorem dX1_factorsWith_57 : decode cX1_factorsWith 57 = .ok (.iload 4, 2) := by decide +kernel
theorem dX1_factorsWith_59 : decode cX1_factorsWith 59 = .ok (.iaload, 1) := by decide +kernel
theorem dX1_factorsWith_60 : decode cX1_factorsWith 60 = .ok (.if_icmp .lt 17, 3) := by decide +kernel
theorem dX1_factorsWith_63 : decode cX1_factorsWith 63 = .ok (.iload_n 2, 1) := by decide +kernel
theorem dX1_factorsWith_64 : decode cX1_factorsWith 64 = .ok (.aload_n 0, 1) := by decide +kernel
theorem dX1_factorsWith_65 : decode cX1_factorsWith 65 = .ok (.getfield 30, 3) := by decide +kernel
theorem dX1_factorsWith_68 : decode cX1_factorsWith 68 = .ok (.iload 4, 2) := by decide +kernel
theorem dX1_factorsWith_70 : decode cX1_factorsWith 70 = .ok (.iaload, 1) := by decide +kernel
theorem dX1_factorsWith_71 : decode cX1_factorsWith 71 = .ok (.if_icmp .gt 6, 3) := by decide +kernel
theorem dX1_factorsWith_74 : decode cX1_factorsWith 74 = .ok (.iinc 3 1, 3) := by decide +kernel
theorem dX1_factorsWith_77 : decode cX1_factorsWith 77 = .ok (.iinc 4 1, 3) := by decide +kernel
theorem dX1_factorsWith_80 : decode cX1_factorsWith 80 = .ok (.goto (-75), 3) := by decide +kernel
theorem dX1_factorsWith_83 : decode cX1_factorsWith 83 = .ok (.iload_n 3, 1) := by decide +kernel
theorem dX1_factorsWith_84 : decode cX1_factorsWith 84 = .ok (.ireturn, 1) := by decide +kernel
set_option maxRecDepth 20000 in
theorem ggX1_lengthWith_X5_lettersFrom : GoodIn wsX1_lengthWith wsX5_lettersFrom := goodIn_r _ [5, 6, 7, 8, 9, 4, 10, 11, 28, 29, 30, 31, 32, 33, 34, 35] (by decide +kernel) (by decide +kernel)
set_option maxRecDepth 20000 in
theorem gX1_lengthWith_X5_lettersFrom : GoodIn wsX1_lengthWith (wsV RX1 127 RX5 yX5_lettersFrom wsX5_lettersFrom) := goodIn_app (goodIn_of _ (by decide +kernel)) ggX1_lengthWith_X5_lettersFrom
set_option maxRecDepth 20000 in
theorem ggX1_lengthWith_X1_classAt : GoodIn wsX1_lengthWith wsX1_classAt := goodIn_r _ [16, 17, 36, 37, 38, 39, 40, 41, 42, 43, 44, 45, 46, 47, 48] (by decide +kernel) (by decide +kernel)
set_option maxRecDepth 20000 in
theorem gX1_lengthWith_X1_classAt : GoodIn wsX1_lengthWith (wsV RX1 111 RX1 yX1_classAt wsX1_classAt) := goodIn_app (goodIn_of _ (by decide +kernel)) ggX1_lengthWith_X1_classAt
set_option maxRecDepth 20000 in
theorem ggX1_lengthWith_X1_endsIn : GoodIn wsX1_lengthWith wsX1_endsIn := goodIn_r _ [21, 22, 23, 24, 25, 15, 26, 27, 36, 37, 38, 39, 40, 41, 42, 43, 44, 45, 46, 47, 48] (by decide +kernel) (by decide +kernel)
set_option maxRecDepth 20000 in
theorem gX1_lengthWith_X1_endsIn : GoodIn wsX1_lengthWith (wsV RX1 134 RX1 yX1_endsIn wsX1_endsIn) := goodIn_app (goodIn_of _ (by decide +kernel)) ggX1_lengthWith_X1_endsIn
theorem dX1_lengthWith_0 : decode cX1_lengthWith 0 = .ok (.iload 4, 2) := by decide +kernel
theorem dX1_lengthWith_2 : decode cX1_lengthWith 2 = .ok (.iconst 1, 1) := by decide +kernel
theorem dX1_lengthWith_3 : decode cX1_lengthWith 3 = .ok (.isub, 1) := by decide +kernel
theorem dX1_lengthWith_4 : decode cX1_lengthWith 4 = .ok (.istore 5, 2) := by decide +kernel
theorem dX1_lengthWith_6 : decode cX1_lengthWith 6 = .ok (.aload_n 1, 1) := by decide +kernel
theorem dX1_lengthWith_7 : decode cX1_lengthWith 7 = .ok (.iload_n 3, 1) := by decide +kernel
theorem dX1_lengthWith_8 : decode cX1_lengthWith 8 = .ok (.invokevirtual 127, 3) := by decide +kernel
theorem dX1_lengthWith_11 : decode cX1_lengthWith 11 = .ok (.istore 6, 2) := by decide +kernel
theorem dX1_lengthWith_13 : decode cX1_lengthWith 13 = .ok (.iload 4, 2) := by decide +kernel
theorem dX1_lengthWith_15 : decode cX1_lengthWith 15 = .ok (.istore 7, 2) := by decide +kernel
theorem dX1_lengthWith_17 : decode cX1_lengthWith 17 = .ok (.iload 7, 2) := by decide +kernel
theorem dX1_lengthWith_19 : decode cX1_lengthWith 19 = .ok (.iload 6, 2) := by decide +kernel
theorem dX1_lengthWith_21 : decode cX1_lengthWith 21 = .ok (.if_icmp .gt 36, 3) := by decide +kernel
theorem dX1_lengthWith_24 : decode cX1_lengthWith 24 = .ok (.aload_n 0, 1) := by decide +kernel
theorem dX1_lengthWith_25 : decode cX1_lengthWith 25 = .ok (.aload_n 0, 1) := by decide +kernel
theorem dX1_lengthWith_26 : decode cX1_lengthWith 26 = .ok (.iload_n 3, 1) := by decide +kernel
theorem dX1_lengthWith_27 : decode cX1_lengthWith 27 = .ok (.iload 7, 2) := by decide +kernel
theorem dX1_lengthWith_29 : decode cX1_lengthWith 29 = .ok (.iadd, 1) := by decide +kernel
theorem dX1_lengthWith_30 : decode cX1_lengthWith 30 = .ok (.iconst 1, 1) := by decide +kernel
theorem dX1_lengthWith_31 : decode cX1_lengthWith 31 = .ok (.isub, 1) := by decide +kernel
theorem dX1_lengthWith_32 : decode cX1_lengthWith 32 = .ok (.iload 7, 2) := by decide +kernel
theorem dX1_lengthWith_34 : decode cX1_lengthWith 34 = .ok (.invokevirtual 111, 3) := by decide +kernel
theorem dX1_lengthWith_37 : decode cX1_lengthWith 37 = .ok (.invokevirtual 134, 3) := by decide +kernel
theorem dX1_lengthWith_40 : decode cX1_lengthWith 40 = .ok (.iload_n 2, 1) := by decide +kernel
theorem dX1_lengthWith_41 : decode cX1_lengthWith 41 = .ok (.if_icmp .ge 6, 3) := by decide +kernel
theorem dX1_lengthWith_44 : decode cX1_lengthWith 44 = .ok (.goto 13, 3) := by decide +kernel
theorem dX1_lengthWith_47 : decode cX1_lengthWith 47 = .ok (.iload 7, 2) := by decide +kernel
theorem dX1_lengthWith_49 : decode cX1_lengthWith 49 = .ok (.istore 5, 2) := by decide +kernel
theorem dX1_lengthWith_51 : decode cX1_lengthWith 51 = .ok (.iinc 7 1, 3) := by decide +kernel
theorem dX1_lengthWith_54 : decode cX1_lengthWith 54 = .ok (.goto (-37), 3) := by decide +kernel
theorem dX1_lengthWith_57 : decode cX1_lengthWith 57 = .ok (.iload 5, 2) := by decide +kernel
theorem dX1_lengthWith_59 : decode cX1_lengthWith 59 = .ok (.ireturn, 1) := by decide +kernel
set_option maxRecDepth 20000 in
theorem ggX1_longestShared_J6_bitCount_0f7a4 : GoodIn wsX1_longestShared wsJ6_bitCount_0f7a4 := goodIn_r _ [7, 8, 9, 10] (by decide +kernel) (by decide +kernel)
set_option maxRecDepth 20000 in
theorem gX1_longestShared_J6_bitCount_0f7a4 : GoodIn wsX1_longestShared (va_wsS RX1 137 yJ6_bitCount_0f7a4 wsJ6_bitCount_0f7a4) := goodIn_app (goodIn_of _ (by decide +kernel)) ggX1_longestShared_J6_bitCount_0f7a4
set_option maxRecDepth 20000 in
theorem ggX1_longestShared_X1_longestStart : GoodIn wsX1_longestShared wsX1_longestStart := goodIn_r _ [15, 16, 17, 18, 14, 19, 20, 21, 22, 23, 24, 1, 25, 26, 27, 28, 3, 57, 58, 59, 60, 61, 62, 63, 64, 65, 66, 67, 68, 69] (by decide +kernel) (by decide +kernel)
set_option maxRecDepth 20000 in
theorem gX1_longestShared_X1_longestStart : GoodIn wsX1_longestShared (wsV RX1 142 RX1 yX1_longestStart wsX1_longestStart) := goodIn_app (goodIn_of _ (by decide +kernel)) ggX1_longestShared_X1_longestStart
set_option maxRecDepth 20000 in
theorem ggX1_longestShared_X5_comesBefore : GoodIn wsX1_longestShared wsX5_comesBefore := goodIn_r _ [33, 34, 35, 36, 32, 37, 38, 39, 40, 41, 42, 43, 44, 45, 46, 47, 48, 49, 50, 51, 52, 53, 54, 55, 56, 70, 71, 72, 73, 74, 75, 76, 77] (by decide +kernel) (by decide +kernel)
set_option maxRecDepth 20000 in
theorem gX1_longestShared_X5_comesBefore : GoodIn wsX1_longestShared (wsV RX1 145 RX5 yX5_comesBefore wsX5_comesBefore) := goodIn_app (goodIn_of _ (by decide +kernel)) ggX1_longestShared_X5_comesBefore
theorem dX1_longestShared_0 : decode cX1_longestShared 0 = .ok (.bipush (-6), 2) := by decide +kernel
theorem dX1_longestShared_2 : decode cX1_longestShared 2 = .ok (.istore 4, 2) := by decide +kernel
theorem dX1_longestShared_4 : decode cX1_longestShared 4 = .ok (.iconst 0, 1) := by decide +kernel
theorem dX1_longestShared_5 : decode cX1_longestShared 5 = .ok (.istore 5, 2) := by decide +kernel
theorem dX1_longestShared_7 : decode cX1_longestShared 7 = .ok (.iload 5, 2) := by decide +kernel
theorem dX1_longestShared_9 : decode cX1_longestShared 9 = .ok (.aload_n 0, 1) := by decide +kernel
theorem dX1_longestShared_10 : decode cX1_longestShared 10 = .ok (.getfield 52, 3) := by decide +kernel
theorem dX1_longestShared_13 : decode cX1_longestShared 13 = .ok (.if_icmp .ge 86, 3) := by decide +kernel
theorem dX1_longestShared_16 : decode cX1_longestShared 16 = .ok (.aload_n 0, 1) := by decide +kernel
theorem dX1_longestShared_17 : decode cX1_longestShared 17 = .ok (.getfield 42, 3) := by decide +kernel
theorem dX1_longestShared_20 : decode cX1_longestShared 20 = .ok (.iload 5, 2) := by decide +kernel
theorem dX1_longestShared_22 : decode cX1_longestShared 22 = .ok (.iaload, 1) := by decide +kernel
theorem dX1_longestShared_23 : decode cX1_longestShared 23 = .ok (.iload_n 2, 1) := by decide +kernel
theorem dX1_longestShared_24 : decode cX1_longestShared 24 = .ok (.iand, 1) := by decide +kernel
theorem dX1_longestShared_25 : decode cX1_longestShared 25 = .ok (.invokestatic 137, 3) := by decide +kernel
theorem dX1_longestShared_28 : decode cX1_longestShared 28 = .ok (.iload_n 3, 1) := by decide +kernel
theorem dX1_longestShared_29 : decode cX1_longestShared 29 = .ok (.if_icmp .lt 64, 3) := by decide +kernel
theorem dX1_longestShared_32 : decode cX1_longestShared 32 = .ok (.iload 4, 2) := by decide +kernel
theorem dX1_longestShared_34 : decode cX1_longestShared 34 = .ok (.bipush (-6), 2) := by decide +kernel
theorem dX1_longestShared_36 : decode cX1_longestShared 36 = .ok (.if_icmp .ne 7, 3) := by decide +kernel
theorem dX1_longestShared_39 : decode cX1_longestShared 39 = .ok (.iconst 1, 1) := by decide +kernel
theorem dX1_longestShared_40 : decode cX1_longestShared 40 = .ok (.goto 18, 3) := by decide +kernel
theorem dX1_longestShared_43 : decode cX1_longestShared 43 = .ok (.aload_n 0, 1) := by decide +kernel
theorem dX1_longestShared_44 : decode cX1_longestShared 44 = .ok (.getfield 30, 3) := by decide +kernel
theorem dX1_longestShared_47 : decode cX1_longestShared 47 = .ok (.iload 5, 2) := by decide +kernel
theorem dX1_longestShared_49 : decode cX1_longestShared 49 = .ok (.iaload, 1) := by decide +kernel
theorem dX1_longestShared_50 : decode cX1_longestShared 50 = .ok (.aload_n 0, 1) := by decide +kernel
theorem dX1_longestShared_51 : decode cX1_longestShared 51 = .ok (.getfield 30, 3) := by decide +kernel
theorem dX1_longestShared_54 : decode cX1_longestShared 54 = .ok (.iload 4, 2) := by decide +kernel
theorem dX1_longestShared_56 : decode cX1_longestShared 56 = .ok (.iaload, 1) := by decide +kernel
theorem dX1_longestShared_57 : decode cX1_longestShared 57 = .ok (.isub, 1) := by decide +kernel
theorem dX1_longestShared_58 : decode cX1_longestShared 58 = .ok (.istore 6, 2) := by decide +kernel
theorem dX1_longestShared_60 : decode cX1_longestShared 60 = .ok (.iload 6, 2) := by decide +kernel
theorem dX1_longestShared_62 : decode cX1_longestShared 62 = .ok (.ifCond .gt 27, 3) := by decide +kernel
theorem dX1_longestShared_65 : decode cX1_longestShared 65 = .ok (.iload 6, 2) := by decide +kernel
theorem dX1_longestShared_67 : decode cX1_longestShared 67 = .ok (.ifCond .ne 26, 3) := by decide +kernel
theorem dX1_longestShared_70 : decode cX1_longestShared 70 = .ok (.aload_n 1, 1) := by decide +kernel
theorem dX1_longestShared_71 : decode cX1_longestShared 71 = .ok (.aload_n 0, 1) := by decide +kernel
theorem dX1_longestShared_72 : decode cX1_longestShared 72 = .ok (.iload 5, 2) := by decide +kernel
theorem dX1_longestShared_74 : decode cX1_longestShared 74 = .ok (.invokevirtual 142, 3) := by decide +kernel
theorem dX1_longestShared_77 : decode cX1_longestShared 77 = .ok (.aload_n 0, 1) := by decide +kernel
theorem dX1_longestShared_78 : decode cX1_longestShared 78 = .ok (.iload 4, 2) := by decide +kernel
theorem dX1_longestShared_80 : decode cX1_longestShared 80 = .ok (.invokevirtual 142, 3) := by decide +kernel
theorem dX1_longestShared_83 : decode cX1_longestShared 83 = .ok (.invokevirtual 145, 3) := by decide +kernel
theorem dX1_longestShared_86 : decode cX1_longestShared 86 = .ok (.ifCond .eq 7, 3) := by decide +kernel
theorem dX1_longestShared_89 : decode cX1_longestShared 89 = .ok (.iload 5, 2) := by decide +kernel
theorem dX1_longestShared_91 : decode cX1_longestShared 91 = .ok (.istore 4, 2) := by decide +kernel
theorem dX1_longestShared_93 : decode cX1_longestShared 93 = .ok (.iinc 5 1, 3) := by decide +kernel
theorem dX1_longestShared_96 : decode cX1_longestShared 96 = .ok (.goto (-89), 3) := by decide +kernel
theorem dX1_longestShared_99 : decode cX1_longestShared 99 = .ok (.iload 4, 2) := by decide +kernel
theorem dX1_longestShared_101 : decode cX1_longestShared 101 = .ok (.ireturn, 1) := by decide +kernel
set_option maxRecDepth 20000 in
theorem ggX1_shortestOnlyIn_X1_shortestStart : GoodIn wsX1_shortestOnlyIn wsX1_shortestStart := goodIn_r _ [8, 9, 10, 11, 7, 12, 13, 14, 15, 16, 17, 1, 18, 19, 20, 21, 3, 50, 51, 52, 53, 54, 55, 56, 57, 58, 59, 60, 61, 62] (by decide +kernel) (by decide +kernel)
set_option maxRecDepth 20000 in
theorem gX1_shortestOnlyIn_X1_shortestStart : GoodIn wsX1_shortestOnlyIn (wsV RX1 149 RX1 yX1_shortestStart wsX1_shortestStart) := goodIn_app (goodIn_of _ (by decide +kernel)) ggX1_shortestOnlyIn_X1_shortestStart
set_option maxRecDepth 20000 in
theorem ggX1_shortestOnlyIn_X5_comesBefore : GoodIn wsX1_shortestOnlyIn wsX5_comesBefore := goodIn_r _ [26, 27, 28, 29, 25, 30, 31, 32, 33, 34, 35, 36, 37, 38, 39, 40, 41, 42, 43, 44, 45, 46, 47, 48, 49, 63, 64, 65, 66, 67, 68, 69, 70] (by decide +kernel) (by decide +kernel)
set_option maxRecDepth 20000 in
theorem gX1_shortestOnlyIn_X5_comesBefore : GoodIn wsX1_shortestOnlyIn (wsV RX1 145 RX5 yX5_comesBefore wsX5_comesBefore) := goodIn_app (goodIn_of _ (by decide +kernel)) ggX1_shortestOnlyIn_X5_comesBefore
theorem dX1_shortestOnlyIn_0 : decode cX1_shortestOnlyIn 0 = .ok (.bipush (-6), 2) := by decide +kernel
theorem dX1_shortestOnlyIn_2 : decode cX1_shortestOnlyIn 2 = .ok (.istore_n 3, 1) := by decide +kernel
theorem dX1_shortestOnlyIn_3 : decode cX1_shortestOnlyIn 3 = .ok (.iconst 0, 1) := by decide +kernel
theorem dX1_shortestOnlyIn_4 : decode cX1_shortestOnlyIn 4 = .ok (.istore 4, 2) := by decide +kernel
theorem dX1_shortestOnlyIn_6 : decode cX1_shortestOnlyIn 6 = .ok (.iload 4, 2) := by decide +kernel
theorem dX1_shortestOnlyIn_8 : decode cX1_shortestOnlyIn 8 = .ok (.aload_n 0, 1) := by decide +kernel
theorem dX1_shortestOnlyIn_9 : decode cX1_shortestOnlyIn 9 = .ok (.getfield 52, 3) := by decide +kernel
theorem dX1_shortestOnlyIn_12 : decode cX1_shortestOnlyIn 12 = .ok (.if_icmp .ge 77, 3) := by decide +kernel
theorem dX1_shortestOnlyIn_15 : decode cX1_shortestOnlyIn 15 = .ok (.aload_n 0, 1) := by decide +kernel
theorem dX1_shortestOnlyIn_16 : decode cX1_shortestOnlyIn 16 = .ok (.getfield 42, 3) := by decide +kernel
theorem dX1_shortestOnlyIn_19 : decode cX1_shortestOnlyIn 19 = .ok (.iload 4, 2) := by decide +kernel
theorem dX1_shortestOnlyIn_21 : decode cX1_shortestOnlyIn 21 = .ok (.iaload, 1) := by decide +kernel
theorem dX1_shortestOnlyIn_22 : decode cX1_shortestOnlyIn 22 = .ok (.iload_n 2, 1) := by decide +kernel
theorem dX1_shortestOnlyIn_23 : decode cX1_shortestOnlyIn 23 = .ok (.if_icmp .ne 60, 3) := by decide +kernel
theorem dX1_shortestOnlyIn_26 : decode cX1_shortestOnlyIn 26 = .ok (.iload_n 3, 1) := by decide +kernel
theorem dX1_shortestOnlyIn_27 : decode cX1_shortestOnlyIn 27 = .ok (.bipush (-6), 2) := by decide +kernel
theorem dX1_shortestOnlyIn_29 : decode cX1_shortestOnlyIn 29 = .ok (.if_icmp .ne 7, 3) := by decide +kernel
theorem dX1_shortestOnlyIn_32 : decode cX1_shortestOnlyIn 32 = .ok (.iconst 1, 1) := by decide +kernel
theorem dX1_shortestOnlyIn_33 : decode cX1_shortestOnlyIn 33 = .ok (.goto 17, 3) := by decide +kernel
theorem dX1_shortestOnlyIn_36 : decode cX1_shortestOnlyIn 36 = .ok (.aload_n 0, 1) := by decide +kernel
theorem dX1_shortestOnlyIn_37 : decode cX1_shortestOnlyIn 37 = .ok (.getfield 33, 3) := by decide +kernel
theorem dX1_shortestOnlyIn_40 : decode cX1_shortestOnlyIn 40 = .ok (.iload_n 3, 1) := by decide +kernel
theorem dX1_shortestOnlyIn_41 : decode cX1_shortestOnlyIn 41 = .ok (.iaload, 1) := by decide +kernel
theorem dX1_shortestOnlyIn_42 : decode cX1_shortestOnlyIn 42 = .ok (.aload_n 0, 1) := by decide +kernel
theorem dX1_shortestOnlyIn_43 : decode cX1_shortestOnlyIn 43 = .ok (.getfield 33, 3) := by decide +kernel
theorem dX1_shortestOnlyIn_46 : decode cX1_shortestOnlyIn 46 = .ok (.iload 4, 2) := by decide +kernel
theorem dX1_shortestOnlyIn_48 : decode cX1_shortestOnlyIn 48 = .ok (.iaload, 1) := by decide +kernel
theorem dX1_shortestOnlyIn_49 : decode cX1_shortestOnlyIn 49 = .ok (.isub, 1) := by decide +kernel
theorem dX1_shortestOnlyIn_50 : decode cX1_shortestOnlyIn 50 = .ok (.istore 5, 2) := by decide +kernel
theorem dX1_shortestOnlyIn_52 : decode cX1_shortestOnlyIn 52 = .ok (.iload 5, 2) := by decide +kernel
theorem dX1_shortestOnlyIn_54 : decode cX1_shortestOnlyIn 54 = .ok (.ifCond .gt 26, 3) := by decide +kernel
theorem dX1_shortestOnlyIn_57 : decode cX1_shortestOnlyIn 57 = .ok (.iload 5, 2) := by decide +kernel
theorem dX1_shortestOnlyIn_59 : decode cX1_shortestOnlyIn 59 = .ok (.ifCond .ne 24, 3) := by decide +kernel
theorem dX1_shortestOnlyIn_62 : decode cX1_shortestOnlyIn 62 = .ok (.aload_n 1, 1) := by decide +kernel
theorem dX1_shortestOnlyIn_63 : decode cX1_shortestOnlyIn 63 = .ok (.aload_n 0, 1) := by decide +kernel
theorem dX1_shortestOnlyIn_64 : decode cX1_shortestOnlyIn 64 = .ok (.iload 4, 2) := by decide +kernel
theorem dX1_shortestOnlyIn_66 : decode cX1_shortestOnlyIn 66 = .ok (.invokevirtual 149, 3) := by decide +kernel
theorem dX1_shortestOnlyIn_69 : decode cX1_shortestOnlyIn 69 = .ok (.aload_n 0, 1) := by decide +kernel
theorem dX1_shortestOnlyIn_70 : decode cX1_shortestOnlyIn 70 = .ok (.iload_n 3, 1) := by decide +kernel
theorem dX1_shortestOnlyIn_71 : decode cX1_shortestOnlyIn 71 = .ok (.invokevirtual 149, 3) := by decide +kernel
theorem dX1_shortestOnlyIn_74 : decode cX1_shortestOnlyIn 74 = .ok (.invokevirtual 145, 3) := by decide +kernel
theorem dX1_shortestOnlyIn_77 : decode cX1_shortestOnlyIn 77 = .ok (.ifCond .eq 6, 3) := by decide +kernel
theorem dX1_shortestOnlyIn_80 : decode cX1_shortestOnlyIn 80 = .ok (.iload 4, 2) := by decide +kernel
theorem dX1_shortestOnlyIn_82 : decode cX1_shortestOnlyIn 82 = .ok (.istore_n 3, 1) := by decide +kernel
theorem dX1_shortestOnlyIn_83 : decode cX1_shortestOnlyIn 83 = .ok (.iinc 4 1, 3) := by decide +kernel
theorem dX1_shortestOnlyIn_86 : decode cX1_shortestOnlyIn 86 = .ok (.goto (-80), 3) := by decide +kernel
theorem dX1_shortestOnlyIn_89 : decode cX1_shortestOnlyIn 89 = .ok (.iload_n 3, 1) := by decide +kernel
theorem dX1_shortestOnlyIn_90 : decode cX1_shortestOnlyIn 90 = .ok (.ireturn, 1) := by decide +kernel
set_option maxRecDepth 20000 in
theorem ggX1_minimalAbsent_X1_stepsOf : GoodIn wsX1_minimalAbsent wsX1_stepsOf := goodIn_r _ [8, 3, 9, 10, 11, 12, 7, 13, 1, 21, 22, 23, 24, 25, 26, 27, 28, 29, 30, 31, 32, 33] (by decide +kernel) (by decide +kernel)
set_option maxRecDepth 20000 in
theorem gX1_minimalAbsent_X1_stepsOf : GoodIn wsX1_minimalAbsent (wsV RX1 152 RX1 yX1_stepsOf wsX1_stepsOf) := goodIn_app (goodIn_of _ (by decide +kernel)) ggX1_minimalAbsent_X1_stepsOf
set_option maxRecDepth 20000 in
theorem ggX1_minimalAbsent_J6_bitCount_0f7a4 : GoodIn wsX1_minimalAbsent wsJ6_bitCount_0f7a4 := goodIn_r _ [17, 18, 19, 20] (by decide +kernel) (by decide +kernel)
set_option maxRecDepth 20000 in
theorem gX1_minimalAbsent_J6_bitCount_0f7a4 : GoodIn wsX1_minimalAbsent (va_wsS RX1 137 yJ6_bitCount_0f7a4 wsJ6_bitCount_0f7a4) := goodIn_app (goodIn_of _ (by decide +kernel)) ggX1_minimalAbsent_J6_bitCount_0f7a4
theorem dX1_minimalAbsent_0 : decode cX1_minimalAbsent 0 = .ok (.iconst 0, 1) := by decide +kernel
theorem dX1_minimalAbsent_1 : decode cX1_minimalAbsent 1 = .ok (.istore_n 1, 1) := by decide +kernel
theorem dX1_minimalAbsent_2 : decode cX1_minimalAbsent 2 = .ok (.iconst 0, 1) := by decide +kernel
theorem dX1_minimalAbsent_3 : decode cX1_minimalAbsent 3 = .ok (.istore_n 2, 1) := by decide +kernel
theorem dX1_minimalAbsent_4 : decode cX1_minimalAbsent 4 = .ok (.iload_n 2, 1) := by decide +kernel
theorem dX1_minimalAbsent_5 : decode cX1_minimalAbsent 5 = .ok (.aload_n 0, 1) := by decide +kernel
theorem dX1_minimalAbsent_6 : decode cX1_minimalAbsent 6 = .ok (.getfield 52, 3) := by decide +kernel
theorem dX1_minimalAbsent_9 : decode cX1_minimalAbsent 9 = .ok (.if_icmp .ge 34, 3) := by decide +kernel
theorem dX1_minimalAbsent_12 : decode cX1_minimalAbsent 12 = .ok (.iload_n 1, 1) := by decide +kernel
theorem dX1_minimalAbsent_13 : decode cX1_minimalAbsent 13 = .ok (.aload_n 0, 1) := by decide +kernel
theorem dX1_minimalAbsent_14 : decode cX1_minimalAbsent 14 = .ok (.aload_n 0, 1) := by decide +kernel
theorem dX1_minimalAbsent_15 : decode cX1_minimalAbsent 15 = .ok (.getfield 39, 3) := by decide +kernel
theorem dX1_minimalAbsent_18 : decode cX1_minimalAbsent 18 = .ok (.iload_n 2, 1) := by decide +kernel
theorem dX1_minimalAbsent_19 : decode cX1_minimalAbsent 19 = .ok (.iaload, 1) := by decide +kernel
theorem dX1_minimalAbsent_20 : decode cX1_minimalAbsent 20 = .ok (.invokevirtual 152, 3) := by decide +kernel
theorem dX1_minimalAbsent_23 : decode cX1_minimalAbsent 23 = .ok (.aload_n 0, 1) := by decide +kernel
theorem dX1_minimalAbsent_24 : decode cX1_minimalAbsent 24 = .ok (.getfield 45, 3) := by decide +kernel
theorem dX1_minimalAbsent_27 : decode cX1_minimalAbsent 27 = .ok (.iload_n 2, 1) := by decide +kernel
theorem dX1_minimalAbsent_28 : decode cX1_minimalAbsent 28 = .ok (.iaload, 1) := by decide +kernel
theorem dX1_minimalAbsent_29 : decode cX1_minimalAbsent 29 = .ok (.iconst (-1), 1) := by decide +kernel
theorem dX1_minimalAbsent_30 : decode cX1_minimalAbsent 30 = .ok (.ixor, 1) := by decide +kernel
theorem dX1_minimalAbsent_31 : decode cX1_minimalAbsent 31 = .ok (.iand, 1) := by decide +kernel
theorem dX1_minimalAbsent_32 : decode cX1_minimalAbsent 32 = .ok (.invokestatic 137, 3) := by decide +kernel
theorem dX1_minimalAbsent_35 : decode cX1_minimalAbsent 35 = .ok (.iadd, 1) := by decide +kernel
theorem dX1_minimalAbsent_36 : decode cX1_minimalAbsent 36 = .ok (.istore_n 1, 1) := by decide +kernel
theorem dX1_minimalAbsent_37 : decode cX1_minimalAbsent 37 = .ok (.iinc 2 1, 3) := by decide +kernel
theorem dX1_minimalAbsent_40 : decode cX1_minimalAbsent 40 = .ok (.goto (-36), 3) := by decide +kernel
theorem dX1_minimalAbsent_43 : decode cX1_minimalAbsent 43 = .ok (.iload_n 1, 1) := by decide +kernel
theorem dX1_minimalAbsent_44 : decode cX1_minimalAbsent 44 = .ok (.ireturn, 1) := by decide +kernel
set_option maxRecDepth 20000 in
theorem ggX1_allSteps_J6_bitCount_0f7a4 : GoodIn wsX1_allSteps wsJ6_bitCount_0f7a4 := goodIn_r _ [7, 8, 9, 10] (by decide +kernel) (by decide +kernel)
set_option maxRecDepth 20000 in
theorem gX1_allSteps_J6_bitCount_0f7a4 : GoodIn wsX1_allSteps (va_wsS RX1 137 yJ6_bitCount_0f7a4 wsJ6_bitCount_0f7a4) := goodIn_app (goodIn_of _ (by decide +kernel)) ggX1_allSteps_J6_bitCount_0f7a4
theorem dX1_allSteps_0 : decode cX1_allSteps 0 = .ok (.aload_n 0, 1) := by decide +kernel
theorem dX1_allSteps_1 : decode cX1_allSteps 1 = .ok (.getfield 48, 3) := by decide +kernel
theorem dX1_allSteps_4 : decode cX1_allSteps 4 = .ok (.invokestatic 137, 3) := by decide +kernel
theorem dX1_allSteps_7 : decode cX1_allSteps 7 = .ok (.istore_n 1, 1) := by decide +kernel
theorem dX1_allSteps_8 : decode cX1_allSteps 8 = .ok (.iconst 0, 1) := by decide +kernel
theorem dX1_allSteps_9 : decode cX1_allSteps 9 = .ok (.istore_n 2, 1) := by decide +kernel
theorem dX1_allSteps_10 : decode cX1_allSteps 10 = .ok (.iload_n 2, 1) := by decide +kernel
theorem dX1_allSteps_11 : decode cX1_allSteps 11 = .ok (.aload_n 0, 1) := by decide +kernel
theorem dX1_allSteps_12 : decode cX1_allSteps 12 = .ok (.getfield 52, 3) := by decide +kernel
theorem dX1_allSteps_15 : decode cX1_allSteps 15 = .ok (.if_icmp .ge 21, 3) := by decide +kernel
theorem dX1_allSteps_18 : decode cX1_allSteps 18 = .ok (.iload_n 1, 1) := by decide +kernel
theorem dX1_allSteps_19 : decode cX1_allSteps 19 = .ok (.aload_n 0, 1) := by decide +kernel
theorem dX1_allSteps_20 : decode cX1_allSteps 20 = .ok (.getfield 45, 3) := by decide +kernel
theorem dX1_allSteps_23 : decode cX1_allSteps 23 = .ok (.iload_n 2, 1) := by decide +kernel
theorem dX1_allSteps_24 : decode cX1_allSteps 24 = .ok (.iaload, 1) := by decide +kernel
theorem dX1_allSteps_25 : decode cX1_allSteps 25 = .ok (.invokestatic 137, 3) := by decide +kernel
theorem dX1_allSteps_28 : decode cX1_allSteps 28 = .ok (.iadd, 1) := by decide +kernel
theorem dX1_allSteps_29 : decode cX1_allSteps 29 = .ok (.istore_n 1, 1) := by decide +kernel
theorem dX1_allSteps_30 : decode cX1_allSteps 30 = .ok (.iinc 2 1, 3) := by decide +kernel
theorem dX1_allSteps_33 : decode cX1_allSteps 33 = .ok (.goto (-23), 3) := by decide +kernel
theorem dX1_allSteps_36 : decode cX1_allSteps 36 = .ok (.iload_n 1, 1) := by decide +kernel
theorem dX1_allSteps_37 : decode cX1_allSteps 37 = .ok (.ireturn, 1) := by decide +kernel
theorem dX1_longestRepeat_0 : decode cX1_longestRepeat 0 = .ok (.iconst 0, 1) := by decide +kernel
theorem dX1_longestRepeat_1 : decode cX1_longestRepeat 1 = .ok (.istore_n 1, 1) := by decide +kernel
theorem dX1_longestRepeat_2 : decode cX1_longestRepeat 2 = .ok (.iconst 0, 1) := by decide +kernel
theorem dX1_longestRepeat_3 : decode cX1_longestRepeat 3 = .ok (.istore_n 2, 1) := by decide +kernel
theorem dX1_longestRepeat_4 : decode cX1_longestRepeat 4 = .ok (.iload_n 2, 1) := by decide +kernel
theorem dX1_longestRepeat_5 : decode cX1_longestRepeat 5 = .ok (.aload_n 0, 1) := by decide +kernel
theorem dX1_longestRepeat_6 : decode cX1_longestRepeat 6 = .ok (.getfield 52, 3) := by decide +kernel
theorem dX1_longestRepeat_9 : decode cX1_longestRepeat 9 = .ok (.if_icmp .ge 30, 3) := by decide +kernel
theorem dX1_longestRepeat_12 : decode cX1_longestRepeat 12 = .ok (.aload_n 0, 1) := by decide +kernel
theorem dX1_longestRepeat_13 : decode cX1_longestRepeat 13 = .ok (.getfield 36, 3) := by decide +kernel
theorem dX1_longestRepeat_16 : decode cX1_longestRepeat 16 = .ok (.iload_n 2, 1) := by decide +kernel
theorem dX1_longestRepeat_17 : decode cX1_longestRepeat 17 = .ok (.iaload, 1) := by decide +kernel
theorem dX1_longestRepeat_18 : decode cX1_longestRepeat 18 = .ok (.iconst 2, 1) := by decide +kernel
theorem dX1_longestRepeat_19 : decode cX1_longestRepeat 19 = .ok (.if_icmp .lt 14, 3) := by decide +kernel
theorem dX1_longestRepeat_22 : decode cX1_longestRepeat 22 = .ok (.iload_n 1, 1) := by decide +kernel
theorem dX1_longestRepeat_23 : decode cX1_longestRepeat 23 = .ok (.aload_n 0, 1) := by decide +kernel
theorem dX1_longestRepeat_24 : decode cX1_longestRepeat 24 = .ok (.getfield 30, 3) := by decide +kernel
theorem dX1_longestRepeat_27 : decode cX1_longestRepeat 27 = .ok (.iload_n 2, 1) := by decide +kernel
theorem dX1_longestRepeat_28 : decode cX1_longestRepeat 28 = .ok (.iaload, 1) := by decide +kernel
theorem dX1_longestRepeat_29 : decode cX1_longestRepeat 29 = .ok (.invokestatic 118, 3) := by decide +kernel
theorem dX1_longestRepeat_32 : decode cX1_longestRepeat 32 = .ok (.istore_n 1, 1) := by decide +kernel
theorem dX1_longestRepeat_33 : decode cX1_longestRepeat 33 = .ok (.iinc 2 1, 3) := by decide +kernel
theorem dX1_longestRepeat_36 : decode cX1_longestRepeat 36 = .ok (.goto (-32), 3) := by decide +kernel
theorem dX1_longestRepeat_39 : decode cX1_longestRepeat 39 = .ok (.iload_n 1, 1) := by decide +kernel
theorem dX1_longestRepeat_40 : decode cX1_longestRepeat 40 = .ok (.ireturn, 1) := by decide +kernel
theorem dX2_init_0 : decode cX2_init 0 = .ok (.aload_n 0, 1) := by decide +kernel
theorem dX2_init_1 : decode cX2_init 1 = .ok (.invokespecial 3, 3) := by decide +kernel
theorem dX2_init_4 : decode cX2_init 4 = .ok (.aload_n 0, 1) := by decide +kernel
theorem dX2_init_5 : decode cX2_init 5 = .ok (.sipush 400, 3) := by decide +kernel
theorem dX2_init_8 : decode cX2_init 8 = .ok (.newarray .int, 2) := by decide +kernel
theorem dX2_init_10 : decode cX2_init 10 = .ok (.putfield 9, 3) := by decide +kernel
theorem dX2_init_13 : decode cX2_init 13 = .ok (.aload_n 0, 1) := by decide +kernel
theorem dX2_init_14 : decode cX2_init 14 = .ok (.sipush 400, 3) := by decide +kernel
theorem dX2_init_17 : decode cX2_init 17 = .ok (.newarray .int, 2) := by decide +kernel
theorem dX2_init_19 : decode cX2_init 19 = .ok (.putfield 15, 3) := by decide +kernel
theorem dX2_init_22 : decode cX2_init 22 = .ok (.aload_n 0, 1) := by decide +kernel
theorem dX2_init_23 : decode cX2_init 23 = .ok (.sipush 400, 3) := by decide +kernel
theorem dX2_init_26 : decode cX2_init 26 = .ok (.newarray .int, 2) := by decide +kernel
theorem dX2_init_28 : decode cX2_init 28 = .ok (.putfield 18, 3) := by decide +kernel
theorem dX2_init_31 : decode cX2_init 31 = .ok (.aload_n 0, 1) := by decide +kernel
theorem dX2_init_32 : decode cX2_init 32 = .ok (.sipush 400, 3) := by decide +kernel
theorem dX2_init_35 : decode cX2_init 35 = .ok (.newarray .int, 2) := by decide +kernel
theorem dX2_init_37 : decode cX2_init 37 = .ok (.putfield 21, 3) := by decide +kernel
theorem dX2_init_40 : decode cX2_init 40 = .ok (.aload_n 0, 1) := by decide +kernel
theorem dX2_init_41 : decode cX2_init 41 = .ok (.iconst 1, 1) := by decide +kernel
theorem dX2_init_42 : decode cX2_init 42 = .ok (.putfield 24, 3) := by decide +kernel
theorem dX2_init_45 : decode cX2_init 45 = .ok (.return_, 1) := by decide +kernel
theorem dX2_size_0 : decode cX2_size 0 = .ok (.aload_n 0, 1) := by decide +kernel
theorem dX2_size_1 : decode cX2_size 1 = .ok (.getfield 24, 3) := by decide +kernel
theorem dX2_size_4 : decode cX2_size 4 = .ok (.ireturn, 1) := by decide +kernel
theorem dX2_has_0 : decode cX2_has 0 = .ok (.iload_n 1, 1) := by decide +kernel
theorem dX2_has_1 : decode cX2_has 1 = .ok (.ifCond .lt 15, 3) := by decide +kernel
theorem dX2_has_4 : decode cX2_has 4 = .ok (.iload_n 1, 1) := by decide +kernel
theorem dX2_has_5 : decode cX2_has 5 = .ok (.aload_n 0, 1) := by decide +kernel
theorem dX2_has_6 : decode cX2_has 6 = .ok (.getfield 24, 3) := by decide +kernel
theorem dX2_has_9 : decode cX2_has 9 = .ok (.if_icmp .ge 7, 3) := by decide +kernel
theorem dX2_has_12 : decode cX2_has 12 = .ok (.iconst 1, 1) := by decide +kernel
theorem dX2_has_13 : decode cX2_has 13 = .ok (.goto 4, 3) := by decide +kernel
theorem dX2_has_16 : decode cX2_has 16 = .ok (.iconst 0, 1) := by decide +kernel
theorem dX2_has_17 : decode cX2_has 17 = .ok (.ireturn, 1) := by decide +kernel
theorem dX2_hasRoomFor_0 : decode cX2_hasRoomFor 0 = .ok (.iload_n 1, 1) := by decide +kernel
theorem dX2_hasRoomFor_1 : decode cX2_hasRoomFor 1 = .ok (.sipush 400, 3) := by decide +kernel
theorem dX2_hasRoomFor_4 : decode cX2_hasRoomFor 4 = .ok (.aload_n 0, 1) := by decide +kernel
theorem dX2_hasRoomFor_5 : decode cX2_hasRoomFor 5 = .ok (.getfield 24, 3) := by decide +kernel
theorem dX2_hasRoomFor_8 : decode cX2_hasRoomFor 8 = .ok (.isub, 1) := by decide +kernel
theorem dX2_hasRoomFor_9 : decode cX2_hasRoomFor 9 = .ok (.if_icmp .gt 7, 3) := by decide +kernel
theorem dX2_hasRoomFor_12 : decode cX2_hasRoomFor 12 = .ok (.iconst 1, 1) := by decide +kernel
theorem dX2_hasRoomFor_13 : decode cX2_hasRoomFor 13 = .ok (.goto 4, 3) := by decide +kernel
theorem dX2_hasRoomFor_16 : decode cX2_hasRoomFor 16 = .ok (.iconst 0, 1) := by decide +kernel
theorem dX2_hasRoomFor_17 : decode cX2_hasRoomFor 17 = .ok (.ireturn, 1) := by decide +kernel
set_option maxRecDepth 20000 in
theorem ggX2_parentOf_X2_has : GoodIn wsX2_parentOf wsX2_has := goodIn_r _ [6, 7, 8, 9, 10, 11, 12] (by decide +kernel) (by decide +kernel)
set_option maxRecDepth 20000 in
theorem gX2_parentOf_X2_has : GoodIn wsX2_parentOf (wsV RX2 28 RX2 yX2_has wsX2_has) := goodIn_app (goodIn_of _ (by decide +kernel)) ggX2_parentOf_X2_has
theorem dX2_parentOf_0 : decode cX2_parentOf 0 = .ok (.aload_n 0, 1) := by decide +kernel
theorem dX2_parentOf_1 : decode cX2_parentOf 1 = .ok (.iload_n 1, 1) := by decide +kernel
theorem dX2_parentOf_2 : decode cX2_parentOf 2 = .ok (.invokevirtual 28, 3) := by decide +kernel
theorem dX2_parentOf_5 : decode cX2_parentOf 5 = .ok (.ifCond .eq 16, 3) := by decide +kernel
theorem dX2_parentOf_8 : decode cX2_parentOf 8 = .ok (.iload_n 1, 1) := by decide +kernel
theorem dX2_parentOf_9 : decode cX2_parentOf 9 = .ok (.ifCond .le 12, 3) := by decide +kernel
theorem dX2_parentOf_12 : decode cX2_parentOf 12 = .ok (.aload_n 0, 1) := by decide +kernel
theorem dX2_parentOf_13 : decode cX2_parentOf 13 = .ok (.getfield 9, 3) := by decide +kernel
theorem dX2_parentOf_16 : decode cX2_parentOf 16 = .ok (.iload_n 1, 1) := by decide +kernel
theorem dX2_parentOf_17 : decode cX2_parentOf 17 = .ok (.iaload, 1) := by decide +kernel
theorem dX2_parentOf_18 : decode cX2_parentOf 18 = .ok (.goto 5, 3) := by decide +kernel
theorem dX2_parentOf_21 : decode cX2_parentOf 21 = .ok (.bipush (-6), 2) := by decide +kernel
theorem dX2_parentOf_23 : decode cX2_parentOf 23 = .ok (.ireturn, 1) := by decide +kernel
set_option maxRecDepth 20000 in
theorem ggX2_stepOf_X2_has : GoodIn wsX2_stepOf wsX2_has := goodIn_r _ [6, 7, 8, 9, 10, 11, 12] (by decide +kernel) (by decide +kernel)
set_option maxRecDepth 20000 in
theorem gX2_stepOf_X2_has : GoodIn wsX2_stepOf (wsV RX2 28 RX2 yX2_has wsX2_has) := goodIn_app (goodIn_of _ (by decide +kernel)) ggX2_stepOf_X2_has
theorem dX2_stepOf_0 : decode cX2_stepOf 0 = .ok (.aload_n 0, 1) := by decide +kernel
theorem dX2_stepOf_1 : decode cX2_stepOf 1 = .ok (.iload_n 1, 1) := by decide +kernel
theorem dX2_stepOf_2 : decode cX2_stepOf 2 = .ok (.invokevirtual 28, 3) := by decide +kernel
theorem dX2_stepOf_5 : decode cX2_stepOf 5 = .ok (.ifCond .eq 12, 3) := by decide +kernel
theorem dX2_stepOf_8 : decode cX2_stepOf 8 = .ok (.aload_n 0, 1) := by decide +kernel
theorem dX2_stepOf_9 : decode cX2_stepOf 9 = .ok (.getfield 15, 3) := by decide +kernel
theorem dX2_stepOf_12 : decode cX2_stepOf 12 = .ok (.iload_n 1, 1) := by decide +kernel
theorem dX2_stepOf_13 : decode cX2_stepOf 13 = .ok (.iaload, 1) := by decide +kernel
theorem dX2_stepOf_14 : decode cX2_stepOf 14 = .ok (.goto 5, 3) := by decide +kernel
theorem dX2_stepOf_17 : decode cX2_stepOf 17 = .ok (.bipush (-6), 2) := by decide +kernel
theorem dX2_stepOf_19 : decode cX2_stepOf 19 = .ok (.ireturn, 1) := by decide +kernel
set_option maxRecDepth 20000 in
theorem ggX2_wordsIn_X2_has : GoodIn wsX2_wordsIn wsX2_has := goodIn_r _ [6, 7, 8, 9, 10, 11, 12] (by decide +kernel) (by decide +kernel)
set_option maxRecDepth 20000 in
theorem gX2_wordsIn_X2_has : GoodIn wsX2_wordsIn (wsV RX2 28 RX2 yX2_has wsX2_has) := goodIn_app (goodIn_of _ (by decide +kernel)) ggX2_wordsIn_X2_has
theorem dX2_wordsIn_0 : decode cX2_wordsIn 0 = .ok (.aload_n 0, 1) := by decide +kernel
theorem dX2_wordsIn_1 : decode cX2_wordsIn 1 = .ok (.iload_n 1, 1) := by decide +kernel
theorem dX2_wordsIn_2 : decode cX2_wordsIn 2 = .ok (.invokevirtual 28, 3) := by decide +kernel
theorem dX2_wordsIn_5 : decode cX2_wordsIn 5 = .ok (.ifCond .eq 12, 3) := by decide +kernel
theorem dX2_wordsIn_8 : decode cX2_wordsIn 8 = .ok (.aload_n 0, 1) := by decide +kernel
theorem dX2_wordsIn_9 : decode cX2_wordsIn 9 = .ok (.getfield 18, 3) := by decide +kernel
theorem dX2_wordsIn_12 : decode cX2_wordsIn 12 = .ok (.iload_n 1, 1) := by decide +kernel
theorem dX2_wordsIn_13 : decode cX2_wordsIn 13 = .ok (.iaload, 1) := by decide +kernel
theorem dX2_wordsIn_14 : decode cX2_wordsIn 14 = .ok (.goto 4, 3) := by decide +kernel
theorem dX2_wordsIn_17 : decode cX2_wordsIn 17 = .ok (.iconst 0, 1) := by decide +kernel
theorem dX2_wordsIn_18 : decode cX2_wordsIn 18 = .ok (.ireturn, 1) := by decide +kernel
set_option maxRecDepth 20000 in
theorem ggX2_lettersIn_X2_has : GoodIn wsX2_lettersIn wsX2_has := goodIn_r _ [6, 7, 8, 9, 10, 11, 12] (by decide +kernel) (by decide +kernel)
set_option maxRecDepth 20000 in
theorem gX2_lettersIn_X2_has : GoodIn wsX2_lettersIn (wsV RX2 28 RX2 yX2_has wsX2_has) := goodIn_app (goodIn_of _ (by decide +kernel)) ggX2_lettersIn_X2_has
theorem dX2_lettersIn_0 : decode cX2_lettersIn 0 = .ok (.aload_n 0, 1) := by decide +kernel
theorem dX2_lettersIn_1 : decode cX2_lettersIn 1 = .ok (.iload_n 1, 1) := by decide +kernel
theorem dX2_lettersIn_2 : decode cX2_lettersIn 2 = .ok (.invokevirtual 28, 3) := by decide +kernel
theorem dX2_lettersIn_5 : decode cX2_lettersIn 5 = .ok (.ifCond .eq 12, 3) := by decide +kernel
theorem dX2_lettersIn_8 : decode cX2_lettersIn 8 = .ok (.aload_n 0, 1) := by decide +kernel
theorem dX2_lettersIn_9 : decode cX2_lettersIn 9 = .ok (.getfield 21, 3) := by decide +kernel
theorem dX2_lettersIn_12 : decode cX2_lettersIn 12 = .ok (.iload_n 1, 1) := by decide +kernel
theorem dX2_lettersIn_13 : decode cX2_lettersIn 13 = .ok (.iaload, 1) := by decide +kernel
theorem dX2_lettersIn_14 : decode cX2_lettersIn 14 = .ok (.goto 4, 3) := by decide +kernel
theorem dX2_lettersIn_17 : decode cX2_lettersIn 17 = .ok (.iconst 0, 1) := by decide +kernel
theorem dX2_lettersIn_18 : decode cX2_lettersIn 18 = .ok (.ireturn, 1) := by decide +kernel
set_option maxRecDepth 20000 in
theorem ggX2_depthOf_X2_wordsIn : GoodIn wsX2_depthOf wsX2_wordsIn := goodIn_r _ [5, 6, 7, 8, 9, 4, 10, 11, 17, 18, 19, 20, 21] (by decide +kernel) (by decide +kernel)
set_option maxRecDepth 20000 in
theorem gX2_depthOf_X2_wordsIn : GoodIn wsX2_depthOf (wsV RX2 32 RX2 yX2_wordsIn wsX2_wordsIn) := goodIn_app (goodIn_of _ (by decide +kernel)) ggX2_depthOf_X2_wordsIn
set_option maxRecDepth 20000 in
theorem ggX2_depthOf_X2_lettersIn : GoodIn wsX2_depthOf wsX2_lettersIn := goodIn_r _ [15, 16, 7, 8, 9, 4, 10, 11, 17, 18, 19, 20, 21] (by decide +kernel) (by decide +kernel)
set_option maxRecDepth 20000 in
theorem gX2_depthOf_X2_lettersIn : GoodIn wsX2_depthOf (wsV RX2 36 RX2 yX2_lettersIn wsX2_lettersIn) := goodIn_app (goodIn_of _ (by decide +kernel)) ggX2_depthOf_X2_lettersIn
theorem dX2_depthOf_0 : decode cX2_depthOf 0 = .ok (.aload_n 0, 1) := by decide +kernel
theorem dX2_depthOf_1 : decode cX2_depthOf 1 = .ok (.iload_n 1, 1) := by decide +kernel
theorem dX2_depthOf_2 : decode cX2_depthOf 2 = .ok (.invokevirtual 32, 3) := by decide +kernel
theorem dX2_depthOf_5 : decode cX2_depthOf 5 = .ok (.aload_n 0, 1) := by decide +kernel
theorem dX2_depthOf_6 : decode cX2_depthOf 6 = .ok (.iload_n 1, 1) := by decide +kernel
theorem dX2_depthOf_7 : decode cX2_depthOf 7 = .ok (.invokevirtual 36, 3) := by decide +kernel
theorem dX2_depthOf_10 : decode cX2_depthOf 10 = .ok (.iadd, 1) := by decide +kernel
theorem dX2_depthOf_11 : decode cX2_depthOf 11 = .ok (.ireturn, 1) := by decide +kernel
theorem dX2_childrenOf_0 : decode cX2_childrenOf 0 = .ok (.iconst 0, 1) := by decide +kernel
theorem dX2_childrenOf_1 : decode cX2_childrenOf 1 = .ok (.istore_n 2, 1) := by decide +kernel
theorem dX2_childrenOf_2 : decode cX2_childrenOf 2 = .ok (.iconst 1, 1) := by decide +kernel
theorem dX2_childrenOf_3 : decode cX2_childrenOf 3 = .ok (.istore_n 3, 1) := by decide +kernel
theorem dX2_childrenOf_4 : decode cX2_childrenOf 4 = .ok (.iload_n 3, 1) := by decide +kernel
theorem dX2_childrenOf_5 : decode cX2_childrenOf 5 = .ok (.aload_n 0, 1) := by decide +kernel
theorem dX2_childrenOf_6 : decode cX2_childrenOf 6 = .ok (.getfield 24, 3) := by decide +kernel
theorem dX2_childrenOf_9 : decode cX2_childrenOf 9 = .ok (.if_icmp .ge 22, 3) := by decide +kernel
theorem dX2_childrenOf_12 : decode cX2_childrenOf 12 = .ok (.aload_n 0, 1) := by decide +kernel
theorem dX2_childrenOf_13 : decode cX2_childrenOf 13 = .ok (.getfield 9, 3) := by decide +kernel
theorem dX2_childrenOf_16 : decode cX2_childrenOf 16 = .ok (.iload_n 3, 1) := by decide +kernel
theorem dX2_childrenOf_17 : decode cX2_childrenOf 17 = .ok (.iaload, 1) := by decide +kernel
theorem dX2_childrenOf_18 : decode cX2_childrenOf 18 = .ok (.iload_n 1, 1) := by decide +kernel
theorem dX2_childrenOf_19 : decode cX2_childrenOf 19 = .ok (.if_icmp .ne 6, 3) := by decide +kernel
theorem dX2_childrenOf_22 : decode cX2_childrenOf 22 = .ok (.iinc 2 1, 3) := by decide +kernel
theorem dX2_childrenOf_25 : decode cX2_childrenOf 25 = .ok (.iinc 3 1, 3) := by decide +kernel
theorem dX2_childrenOf_28 : decode cX2_childrenOf 28 = .ok (.goto (-24), 3) := by decide +kernel
theorem dX2_childrenOf_31 : decode cX2_childrenOf 31 = .ok (.iload_n 2, 1) := by decide +kernel
theorem dX2_childrenOf_32 : decode cX2_childrenOf 32 = .ok (.ireturn, 1) := by decide +kernel
set_option maxRecDepth 20000 in
theorem ggX2_grow_X2_has : GoodIn wsX2_grow wsX2_has := goodIn_r _ [10, 2, 15, 16, 17, 18, 19] (by decide +kernel) (by decide +kernel)
set_option maxRecDepth 20000 in
theorem gX2_grow_X2_has : GoodIn wsX2_grow (wsV RX2 28 RX2 yX2_has wsX2_has) := goodIn_app (goodIn_of _ (by decide +kernel)) ggX2_grow_X2_has
set_option maxRecDepth 20000 in
theorem ggX2_grow_X2_hasRoomFor : GoodIn wsX2_grow wsX2_hasRoomFor := goodIn_r _ [14, 2, 15, 16, 17, 18, 19] (by decide +kernel) (by decide +kernel)
set_option maxRecDepth 20000 in
theorem gX2_grow_X2_hasRoomFor : GoodIn wsX2_grow (wsV RX2 39 RX2 yX2_hasRoomFor wsX2_hasRoomFor) := goodIn_app (goodIn_of _ (by decide +kernel)) ggX2_grow_X2_hasRoomFor
theorem dX2_grow_0 : decode cX2_grow 0 = .ok (.aload_n 0, 1) := by decide +kernel
theorem dX2_grow_1 : decode cX2_grow 1 = .ok (.iload_n 1, 1) := by decide +kernel
theorem dX2_grow_2 : decode cX2_grow 2 = .ok (.invokevirtual 28, 3) := by decide +kernel
theorem dX2_grow_5 : decode cX2_grow 5 = .ok (.ifCond .eq 11, 3) := by decide +kernel
theorem dX2_grow_8 : decode cX2_grow 8 = .ok (.aload_n 0, 1) := by decide +kernel
theorem dX2_grow_9 : decode cX2_grow 9 = .ok (.iconst 1, 1) := by decide +kernel
theorem dX2_grow_10 : decode cX2_grow 10 = .ok (.invokevirtual 39, 3) := by decide +kernel
theorem dX2_grow_13 : decode cX2_grow 13 = .ok (.ifCond .ne 5, 3) := by decide +kernel
theorem dX2_grow_16 : decode cX2_grow 16 = .ok (.iload_n 1, 1) := by decide +kernel
theorem dX2_grow_17 : decode cX2_grow 17 = .ok (.ireturn, 1) := by decide +kernel
theorem dX2_grow_18 : decode cX2_grow 18 = .ok (.iload_n 2, 1) := by decide +kernel
theorem dX2_grow_19 : decode cX2_grow 19 = .ok (.iconst (-1), 1) := by decide +kernel
theorem dX2_grow_20 : decode cX2_grow 20 = .ok (.if_icmp .ne 7, 3) := by decide +kernel
theorem dX2_grow_23 : decode cX2_grow 23 = .ok (.iconst 1, 1) := by decide +kernel
theorem dX2_grow_24 : decode cX2_grow 24 = .ok (.goto 4, 3) := by decide +kernel
theorem dX2_grow_27 : decode cX2_grow 27 = .ok (.iconst 0, 1) := by decide +kernel
theorem dX2_grow_28 : decode cX2_grow 28 = .ok (.istore_n 3, 1) := by decide +kernel
theorem dX2_grow_29 : decode cX2_grow 29 = .ok (.aload_n 0, 1) := by decide +kernel
theorem dX2_grow_30 : decode cX2_grow 30 = .ok (.getfield 9, 3) := by decide +kernel
theorem dX2_grow_33 : decode cX2_grow 33 = .ok (.aload_n 0, 1) := by decide +kernel
theorem dX2_grow_34 : decode cX2_grow 34 = .ok (.getfield 24, 3) := by decide +kernel
theorem dX2_grow_37 : decode cX2_grow 37 = .ok (.iload_n 1, 1) := by decide +kernel
theorem dX2_grow_38 : decode cX2_grow 38 = .ok (.iastore, 1) := by decide +kernel
theorem dX2_grow_39 : decode cX2_grow 39 = .ok (.aload_n 0, 1) := by decide +kernel
theorem dX2_grow_40 : decode cX2_grow 40 = .ok (.getfield 15, 3) := by decide +kernel
theorem dX2_grow_43 : decode cX2_grow 43 = .ok (.aload_n 0, 1) := by decide +kernel
theorem dX2_grow_44 : decode cX2_grow 44 = .ok (.getfield 24, 3) := by decide +kernel
theorem dX2_grow_47 : decode cX2_grow 47 = .ok (.iload_n 2, 1) := by decide +kernel
theorem dX2_grow_48 : decode cX2_grow 48 = .ok (.iastore, 1) := by decide +kernel
theorem dX2_grow_49 : decode cX2_grow 49 = .ok (.aload_n 0, 1) := by decide +kernel
theorem dX2_grow_50 : decode cX2_grow 50 = .ok (.getfield 18, 3) := by decide +kernel
theorem dX2_grow_53 : decode cX2_grow 53 = .ok (.aload_n 0, 1) := by decide +kernel
theorem dX2_grow_54 : decode cX2_grow 54 = .ok (.getfield 24, 3) := by decide +kernel
theorem dX2_grow_57 : decode cX2_grow 57 = .ok (.aload_n 0, 1) := by decide +kernel
theorem dX2_grow_58 : decode cX2_grow 58 = .ok (.getfield 18, 3) := by decide +kernel
theorem dX2_grow_61 : decode cX2_grow 61 = .ok (.iload_n 1, 1) := by decide +kernel
theorem dX2_grow_62 : decode cX2_grow 62 = .ok (.iaload, 1) := by decide +kernel
theorem dX2_grow_63 : decode cX2_grow 63 = .ok (.iload_n 3, 1) := by decide +kernel
theorem dX2_grow_64 : decode cX2_grow 64 = .ok (.ifCond .eq 7, 3) := by decide +kernel
theorem dX2_grow_67 : decode cX2_grow 67 = .ok (.iconst 1, 1) := by decide +kernel
theorem dX2_grow_68 : decode cX2_grow 68 = .ok (.goto 4, 3) := by decide +kernel
theorem dX2_grow_71 : decode cX2_grow 71 = .ok (.iconst 0, 1) := by decide +kernel
theorem dX2_grow_72 : decode cX2_grow 72 = .ok (.iadd, 1) := by decide +kernel
theorem dX2_grow_73 : decode cX2_grow 73 = .ok (.iastore, 1) := by decide +kernel
theorem dX2_grow_74 : decode cX2_grow 74 = .ok (.aload_n 0, 1) := by decide +kernel
theorem dX2_grow_75 : decode cX2_grow 75 = .ok (.getfield 21, 3) := by decide +kernel
theorem dX2_grow_78 : decode cX2_grow 78 = .ok (.aload_n 0, 1) := by decide +kernel
theorem dX2_grow_79 : decode cX2_grow 79 = .ok (.getfield 24, 3) := by decide +kernel
theorem dX2_grow_82 : decode cX2_grow 82 = .ok (.aload_n 0, 1) := by decide +kernel
theorem dX2_grow_83 : decode cX2_grow 83 = .ok (.getfield 21, 3) := by decide +kernel
theorem dX2_grow_86 : decode cX2_grow 86 = .ok (.iload_n 1, 1) := by decide +kernel
theorem dX2_grow_87 : decode cX2_grow 87 = .ok (.iaload, 1) := by decide +kernel
theorem dX2_grow_88 : decode cX2_grow 88 = .ok (.iload_n 3, 1) := by decide +kernel
theorem dX2_grow_89 : decode cX2_grow 89 = .ok (.ifCond .eq 7, 3) := by decide +kernel
theorem dX2_grow_92 : decode cX2_grow 92 = .ok (.iconst 0, 1) := by decide +kernel
theorem dX2_grow_93 : decode cX2_grow 93 = .ok (.goto 4, 3) := by decide +kernel
theorem dX2_grow_96 : decode cX2_grow 96 = .ok (.iconst 1, 1) := by decide +kernel
theorem dX2_grow_97 : decode cX2_grow 97 = .ok (.iadd, 1) := by decide +kernel
theorem dX2_grow_98 : decode cX2_grow 98 = .ok (.iastore, 1) := by decide +kernel
theorem dX2_grow_99 : decode cX2_grow 99 = .ok (.aload_n 0, 1) := by decide +kernel
theorem dX2_grow_100 : decode cX2_grow 100 = .ok (.dup, 1) := by decide +kernel
theorem dX2_grow_101 : decode cX2_grow 101 = .ok (.getfield 24, 3) := by decide +kernel
theorem dX2_grow_104 : decode cX2_grow 104 = .ok (.iconst 1, 1) := by decide +kernel
theorem dX2_grow_105 : decode cX2_grow 105 = .ok (.iadd, 1) := by decide +kernel
theorem dX2_grow_106 : decode cX2_grow 106 = .ok (.putfield 24, 3) := by decide +kernel
theorem dX2_grow_109 : decode cX2_grow 109 = .ok (.aload_n 0, 1) := by decide +kernel
theorem dX2_grow_110 : decode cX2_grow 110 = .ok (.getfield 24, 3) := by decide +kernel
theorem dX2_grow_113 : decode cX2_grow 113 = .ok (.iconst 1, 1) := by decide +kernel
theorem dX2_grow_114 : decode cX2_grow 114 = .ok (.isub, 1) := by decide +kernel
theorem dX2_grow_115 : decode cX2_grow 115 = .ok (.ireturn, 1) := by decide +kernel
set_option maxRecDepth 20000 in
theorem ggX2_ancestorOf_X2_parentOf : GoodIn wsX2_ancestorOf wsX2_parentOf := goodIn_r _ [5, 6, 7, 8, 9, 4, 10, 11, 12, 13, 14, 15, 16] (by decide +kernel) (by decide +kernel)
set_option maxRecDepth 20000 in
theorem gX2_ancestorOf_X2_parentOf : GoodIn wsX2_ancestorOf (wsV RX2 42 RX2 yX2_parentOf wsX2_parentOf) := goodIn_app (goodIn_of _ (by decide +kernel)) ggX2_ancestorOf_X2_parentOf
theorem dX2_ancestorOf_0 : decode cX2_ancestorOf 0 = .ok (.iload_n 1, 1) := by decide +kernel
theorem dX2_ancestorOf_1 : decode cX2_ancestorOf 1 = .ok (.istore_n 3, 1) := by decide +kernel
theorem dX2_ancestorOf_2 : decode cX2_ancestorOf 2 = .ok (.iconst 0, 1) := by decide +kernel
theorem dX2_ancestorOf_3 : decode cX2_ancestorOf 3 = .ok (.istore 4, 2) := by decide +kernel
theorem dX2_ancestorOf_5 : decode cX2_ancestorOf 5 = .ok (.iload 4, 2) := by decide +kernel
theorem dX2_ancestorOf_7 : decode cX2_ancestorOf 7 = .ok (.iload_n 2, 1) := by decide +kernel
theorem dX2_ancestorOf_8 : decode cX2_ancestorOf 8 = .ok (.if_icmp .ge 21, 3) := by decide +kernel
theorem dX2_ancestorOf_11 : decode cX2_ancestorOf 11 = .ok (.iload_n 3, 1) := by decide +kernel
theorem dX2_ancestorOf_12 : decode cX2_ancestorOf 12 = .ok (.bipush (-6), 2) := by decide +kernel
theorem dX2_ancestorOf_14 : decode cX2_ancestorOf 14 = .ok (.if_icmp .eq 15, 3) := by decide +kernel
theorem dX2_ancestorOf_17 : decode cX2_ancestorOf 17 = .ok (.aload_n 0, 1) := by decide +kernel
theorem dX2_ancestorOf_18 : decode cX2_ancestorOf 18 = .ok (.iload_n 3, 1) := by decide +kernel
theorem dX2_ancestorOf_19 : decode cX2_ancestorOf 19 = .ok (.invokevirtual 42, 3) := by decide +kernel
theorem dX2_ancestorOf_22 : decode cX2_ancestorOf 22 = .ok (.istore_n 3, 1) := by decide +kernel
theorem dX2_ancestorOf_23 : decode cX2_ancestorOf 23 = .ok (.iinc 4 1, 3) := by decide +kernel
theorem dX2_ancestorOf_26 : decode cX2_ancestorOf 26 = .ok (.goto (-21), 3) := by decide +kernel
theorem dX2_ancestorOf_29 : decode cX2_ancestorOf 29 = .ok (.iload_n 3, 1) := by decide +kernel
theorem dX2_ancestorOf_30 : decode cX2_ancestorOf 30 = .ok (.ireturn, 1) := by decide +kernel
set_option maxRecDepth 20000 in
theorem ggX2_latestCommon_X2_parentOf : GoodIn wsX2_latestCommon wsX2_parentOf := goodIn_r _ [5, 6, 7, 8, 9, 4, 10, 11, 12, 13, 14, 15, 16] (by decide +kernel) (by decide +kernel)
set_option maxRecDepth 20000 in
theorem gX2_latestCommon_X2_parentOf : GoodIn wsX2_latestCommon (wsV RX2 42 RX2 yX2_parentOf wsX2_parentOf) := goodIn_app (goodIn_of _ (by decide +kernel)) ggX2_latestCommon_X2_parentOf
theorem dX2_latestCommon_0 : decode cX2_latestCommon 0 = .ok (.iload_n 1, 1) := by decide +kernel
theorem dX2_latestCommon_1 : decode cX2_latestCommon 1 = .ok (.istore_n 3, 1) := by decide +kernel
theorem dX2_latestCommon_2 : decode cX2_latestCommon 2 = .ok (.iload_n 2, 1) := by decide +kernel
theorem dX2_latestCommon_3 : decode cX2_latestCommon 3 = .ok (.istore 4, 2) := by decide +kernel
theorem dX2_latestCommon_5 : decode cX2_latestCommon 5 = .ok (.iconst 0, 1) := by decide +kernel
theorem dX2_latestCommon_6 : decode cX2_latestCommon 6 = .ok (.istore 5, 2) := by decide +kernel
theorem dX2_latestCommon_8 : decode cX2_latestCommon 8 = .ok (.iload 5, 2) := by decide +kernel
theorem dX2_latestCommon_10 : decode cX2_latestCommon 10 = .ok (.sipush 800, 3) := by decide +kernel
theorem dX2_latestCommon_13 : decode cX2_latestCommon 13 = .ok (.if_icmp .ge 38, 3) := by decide +kernel
theorem dX2_latestCommon_16 : decode cX2_latestCommon 16 = .ok (.iload_n 3, 1) := by decide +kernel
theorem dX2_latestCommon_17 : decode cX2_latestCommon 17 = .ok (.iload 4, 2) := by decide +kernel
theorem dX2_latestCommon_19 : decode cX2_latestCommon 19 = .ok (.if_icmp .eq 32, 3) := by decide +kernel
theorem dX2_latestCommon_22 : decode cX2_latestCommon 22 = .ok (.iload_n 3, 1) := by decide +kernel
theorem dX2_latestCommon_23 : decode cX2_latestCommon 23 = .ok (.iload 4, 2) := by decide +kernel
theorem dX2_latestCommon_25 : decode cX2_latestCommon 25 = .ok (.if_icmp .le 12, 3) := by decide +kernel
theorem dX2_latestCommon_28 : decode cX2_latestCommon 28 = .ok (.aload_n 0, 1) := by decide +kernel
theorem dX2_latestCommon_29 : decode cX2_latestCommon 29 = .ok (.iload_n 3, 1) := by decide +kernel
theorem dX2_latestCommon_30 : decode cX2_latestCommon 30 = .ok (.invokevirtual 42, 3) := by decide +kernel
theorem dX2_latestCommon_33 : decode cX2_latestCommon 33 = .ok (.istore_n 3, 1) := by decide +kernel
theorem dX2_latestCommon_34 : decode cX2_latestCommon 34 = .ok (.goto 11, 3) := by decide +kernel
theorem dX2_latestCommon_37 : decode cX2_latestCommon 37 = .ok (.aload_n 0, 1) := by decide +kernel
theorem dX2_latestCommon_38 : decode cX2_latestCommon 38 = .ok (.iload 4, 2) := by decide +kernel
theorem dX2_latestCommon_40 : decode cX2_latestCommon 40 = .ok (.invokevirtual 42, 3) := by decide +kernel
theorem dX2_latestCommon_43 : decode cX2_latestCommon 43 = .ok (.istore 4, 2) := by decide +kernel
theorem dX2_latestCommon_45 : decode cX2_latestCommon 45 = .ok (.iinc 5 1, 3) := by decide +kernel
theorem dX2_latestCommon_48 : decode cX2_latestCommon 48 = .ok (.goto (-40), 3) := by decide +kernel
theorem dX2_latestCommon_51 : decode cX2_latestCommon 51 = .ok (.iload_n 3, 1) := by decide +kernel
theorem dX2_latestCommon_52 : decode cX2_latestCommon 52 = .ok (.ireturn, 1) := by decide +kernel
theorem dX3_init_0 : decode cX3_init 0 = .ok (.aload_n 0, 1) := by decide +kernel
theorem dX3_init_1 : decode cX3_init 1 = .ok (.invokespecial 3, 3) := by decide +kernel
theorem dX3_init_4 : decode cX3_init 4 = .ok (.aload_n 0, 1) := by decide +kernel
theorem dX3_init_5 : decode cX3_init 5 = .ok (.bipush 60, 2) := by decide +kernel
theorem dX3_init_7 : decode cX3_init 7 = .ok (.newarray .int, 2) := by decide +kernel
theorem dX3_init_9 : decode cX3_init 9 = .ok (.putfield 9, 3) := by decide +kernel
theorem dX3_init_12 : decode cX3_init 12 = .ok (.aload_n 0, 1) := by decide +kernel
theorem dX3_init_13 : decode cX3_init 13 = .ok (.iconst 0, 1) := by decide +kernel
theorem dX3_init_14 : decode cX3_init 14 = .ok (.putfield 15, 3) := by decide +kernel
theorem dX3_init_17 : decode cX3_init 17 = .ok (.return_, 1) := by decide +kernel
theorem dX3_size_0 : decode cX3_size 0 = .ok (.aload_n 0, 1) := by decide +kernel
theorem dX3_size_1 : decode cX3_size 1 = .ok (.getfield 15, 3) := by decide +kernel
theorem dX3_size_4 : decode cX3_size 4 = .ok (.ireturn, 1) := by decide +kernel
theorem dX3_characterAt_0 : decode cX3_characterAt 0 = .ok (.iload_n 1, 1) := by decide +kernel
theorem dX3_characterAt_1 : decode cX3_characterAt 1 = .ok (.ifCond .lt 20, 3) := by decide +kernel
theorem dX3_characterAt_4 : decode cX3_characterAt 4 = .ok (.iload_n 1, 1) := by decide +kernel
theorem dX3_characterAt_5 : decode cX3_characterAt 5 = .ok (.aload_n 0, 1) := by decide +kernel
theorem dX3_characterAt_6 : decode cX3_characterAt 6 = .ok (.getfield 15, 3) := by decide +kernel
theorem dX3_characterAt_9 : decode cX3_characterAt 9 = .ok (.if_icmp .ge 12, 3) := by decide +kernel
theorem dX3_characterAt_12 : decode cX3_characterAt 12 = .ok (.aload_n 0, 1) := by decide +kernel
theorem dX3_characterAt_13 : decode cX3_characterAt 13 = .ok (.getfield 9, 3) := by decide +kernel
theorem dX3_characterAt_16 : decode cX3_characterAt 16 = .ok (.iload_n 1, 1) := by decide +kernel
theorem dX3_characterAt_17 : decode cX3_characterAt 17 = .ok (.iaload, 1) := by decide +kernel
theorem dX3_characterAt_18 : decode cX3_characterAt 18 = .ok (.goto 5, 3) := by decide +kernel
theorem dX3_characterAt_21 : decode cX3_characterAt 21 = .ok (.bipush (-6), 2) := by decide +kernel
theorem dX3_characterAt_23 : decode cX3_characterAt 23 = .ok (.ireturn, 1) := by decide +kernel
theorem dX3_add_0 : decode cX3_add 0 = .ok (.aload_n 0, 1) := by decide +kernel
theorem dX3_add_1 : decode cX3_add 1 = .ok (.getfield 15, 3) := by decide +kernel
theorem dX3_add_4 : decode cX3_add 4 = .ok (.bipush 60, 2) := by decide +kernel
theorem dX3_add_6 : decode cX3_add 6 = .ok (.if_icmp .ge 23, 3) := by decide +kernel
theorem dX3_add_9 : decode cX3_add 9 = .ok (.aload_n 0, 1) := by decide +kernel
theorem dX3_add_10 : decode cX3_add 10 = .ok (.getfield 9, 3) := by decide +kernel
theorem dX3_add_13 : decode cX3_add 13 = .ok (.aload_n 0, 1) := by decide +kernel
theorem dX3_add_14 : decode cX3_add 14 = .ok (.getfield 15, 3) := by decide +kernel
theorem dX3_add_17 : decode cX3_add 17 = .ok (.iload_n 1, 1) := by decide +kernel
theorem dX3_add_18 : decode cX3_add 18 = .ok (.iastore, 1) := by decide +kernel
theorem dX3_add_19 : decode cX3_add 19 = .ok (.aload_n 0, 1) := by decide +kernel
theorem dX3_add_20 : decode cX3_add 20 = .ok (.dup, 1) := by decide +kernel
theorem dX3_add_21 : decode cX3_add 21 = .ok (.getfield 15, 3) := by decide +kernel
theorem dX3_add_24 : decode cX3_add 24 = .ok (.iconst 1, 1) := by decide +kernel
theorem dX3_add_25 : decode cX3_add 25 = .ok (.iadd, 1) := by decide +kernel
theorem dX3_add_26 : decode cX3_add 26 = .ok (.putfield 15, 3) := by decide +kernel
theorem dX3_add_29 : decode cX3_add 29 = .ok (.return_, 1) := by decide +kernel
theorem dX3_clear_0 : decode cX3_clear 0 = .ok (.aload_n 0, 1) := by decide +kernel
theorem dX3_clear_1 : decode cX3_clear 1 = .ok (.iconst 0, 1) := by decide +kernel
theorem dX3_clear_2 : decode cX3_clear 2 = .ok (.putfield 15, 3) := by decide +kernel
theorem dX3_clear_5 : decode cX3_clear 5 = .ok (.return_, 1) := by decide +kernel
set_option maxRecDepth 20000 in
theorem ggX3_write_X3_clear : GoodIn wsX3_write wsX3_clear := goodIn_r _ [5, 6, 23, 24] (by decide +kernel) (by decide +kernel)
set_option maxRecDepth 20000 in
theorem gX3_write_X3_clear : GoodIn wsX3_write (wsV RX3 19 RX3 yX3_clear wsX3_clear) := goodIn_app (goodIn_of _ (by decide +kernel)) ggX3_write_X3_clear
set_option maxRecDepth 20000 in
theorem ggX3_write_X5_letterAt : GoodIn wsX3_write wsX5_letterAt := goodIn_r _ [11, 12, 13, 14, 15, 10, 16, 17, 25, 26, 27, 28, 29, 30, 31, 32] (by decide +kernel) (by decide +kernel)
set_option maxRecDepth 20000 in
theorem gX3_write_X5_letterAt : GoodIn wsX3_write (wsV RX3 22 RX5 yX5_letterAt wsX5_letterAt) := goodIn_app (goodIn_of _ (by decide +kernel)) ggX3_write_X5_letterAt
set_option maxRecDepth 20000 in
theorem ggX3_write_X3_add : GoodIn wsX3_write wsX3_add := goodIn_r _ [21, 6, 22, 23, 24] (by decide +kernel) (by decide +kernel)
set_option maxRecDepth 20000 in
theorem gX3_write_X3_add : GoodIn wsX3_write (wsV RX3 28 RX3 yX3_add wsX3_add) := goodIn_app (goodIn_of _ (by decide +kernel)) ggX3_write_X3_add
theorem dX3_write_0 : decode cX3_write 0 = .ok (.aload_n 0, 1) := by decide +kernel
theorem dX3_write_1 : decode cX3_write 1 = .ok (.invokevirtual 19, 3) := by decide +kernel
theorem dX3_write_4 : decode cX3_write 4 = .ok (.iconst 0, 1) := by decide +kernel
theorem dX3_write_5 : decode cX3_write 5 = .ok (.istore 4, 2) := by decide +kernel
theorem dX3_write_7 : decode cX3_write 7 = .ok (.iload 4, 2) := by decide +kernel
theorem dX3_write_9 : decode cX3_write 9 = .ok (.iload_n 3, 1) := by decide +kernel
theorem dX3_write_10 : decode cX3_write 10 = .ok (.if_icmp .ge 24, 3) := by decide +kernel
theorem dX3_write_13 : decode cX3_write 13 = .ok (.aload_n 0, 1) := by decide +kernel
theorem dX3_write_14 : decode cX3_write 14 = .ok (.bipush 97, 2) := by decide +kernel
theorem dX3_write_16 : decode cX3_write 16 = .ok (.aload_n 1, 1) := by decide +kernel
theorem dX3_write_17 : decode cX3_write 17 = .ok (.iload_n 2, 1) := by decide +kernel
theorem dX3_write_18 : decode cX3_write 18 = .ok (.iload 4, 2) := by decide +kernel
theorem dX3_write_20 : decode cX3_write 20 = .ok (.iadd, 1) := by decide +kernel
theorem dX3_write_21 : decode cX3_write 21 = .ok (.invokevirtual 22, 3) := by decide +kernel
theorem dX3_write_24 : decode cX3_write 24 = .ok (.iadd, 1) := by decide +kernel
theorem dX3_write_25 : decode cX3_write 25 = .ok (.invokevirtual 28, 3) := by decide +kernel
theorem dX3_write_28 : decode cX3_write 28 = .ok (.iinc 4 1, 3) := by decide +kernel
theorem dX3_write_31 : decode cX3_write 31 = .ok (.goto (-24), 3) := by decide +kernel
theorem dX3_write_34 : decode cX3_write 34 = .ok (.return_, 1) := by decide +kernel
set_option maxRecDepth 20000 in
theorem ggX3_faultAsPattern_X3_firstFault : GoodIn wsX3_faultAsPattern wsX3_firstFault := goodIn_r _ [6, 1, 7, 8, 9, 10, 11, 12] (by decide +kernel) (by decide +kernel)
set_option maxRecDepth 20000 in
theorem gX3_faultAsPattern_X3_firstFault : GoodIn wsX3_faultAsPattern (wsV RX3 32 RX3 yX3_firstFault wsX3_firstFault) := goodIn_app (goodIn_of _ (by decide +kernel)) ggX3_faultAsPattern_X3_firstFault
theorem dX3_faultAsPattern_0 : decode cX3_faultAsPattern 0 = .ok (.aload_n 0, 1) := by decide +kernel
theorem dX3_faultAsPattern_1 : decode cX3_faultAsPattern 1 = .ok (.getfield 15, 3) := by decide +kernel
theorem dX3_faultAsPattern_4 : decode cX3_faultAsPattern 4 = .ok (.ifCond .ne 7, 3) := by decide +kernel
theorem dX3_faultAsPattern_7 : decode cX3_faultAsPattern 7 = .ok (.iconst 0, 1) := by decide +kernel
theorem dX3_faultAsPattern_8 : decode cX3_faultAsPattern 8 = .ok (.goto 8, 3) := by decide +kernel
theorem dX3_faultAsPattern_11 : decode cX3_faultAsPattern 11 = .ok (.aload_n 0, 1) := by decide +kernel
theorem dX3_faultAsPattern_12 : decode cX3_faultAsPattern 12 = .ok (.iconst 0, 1) := by decide +kernel
theorem dX3_faultAsPattern_13 : decode cX3_faultAsPattern 13 = .ok (.invokevirtual 32, 3) := by decide +kernel
theorem dX3_faultAsPattern_16 : decode cX3_faultAsPattern 16 = .ok (.ireturn, 1) := by decide +kernel
set_option maxRecDepth 20000 in
theorem ggX3_faultAsWords_X3_firstFault : GoodIn wsX3_faultAsWords wsX3_firstFault := goodIn_r _ [5, 6, 7, 8, 9, 10, 11, 12] (by decide +kernel) (by decide +kernel)
set_option maxRecDepth 20000 in
theorem gX3_faultAsWords_X3_firstFault : GoodIn wsX3_faultAsWords (wsV RX3 32 RX3 yX3_firstFault wsX3_firstFault) := goodIn_app (goodIn_of _ (by decide +kernel)) ggX3_faultAsWords_X3_firstFault
theorem dX3_faultAsWords_0 : decode cX3_faultAsWords 0 = .ok (.aload_n 0, 1) := by decide +kernel
theorem dX3_faultAsWords_1 : decode cX3_faultAsWords 1 = .ok (.iconst 1, 1) := by decide +kernel
theorem dX3_faultAsWords_2 : decode cX3_faultAsWords 2 = .ok (.invokevirtual 32, 3) := by decide +kernel
theorem dX3_faultAsWords_5 : decode cX3_faultAsWords 5 = .ok (.ireturn, 1) := by decide +kernel
set_option maxRecDepth 20000 in
theorem ggX3_firstFault_X6_isLetter : GoodIn wsX3_firstFault wsX6_isLetter := goodIn_r _ [5] (by decide +kernel) (by decide +kernel)
set_option maxRecDepth 20000 in
theorem gX3_firstFault_X6_isLetter_n36 : GoodIn wsX3_firstFault (wsX6_isLetter) := ggX3_firstFault_X6_isLetter
theorem dX3_firstFault_0 : decode cX3_firstFault 0 = .ok (.iconst 0, 1) := by decide +kernel
theorem dX3_firstFault_1 : decode cX3_firstFault 1 = .ok (.istore_n 2, 1) := by decide +kernel
theorem dX3_firstFault_2 : decode cX3_firstFault 2 = .ok (.iload_n 2, 1) := by decide +kernel
theorem dX3_firstFault_3 : decode cX3_firstFault 3 = .ok (.aload_n 0, 1) := by decide +kernel
theorem dX3_firstFault_4 : decode cX3_firstFault 4 = .ok (.getfield 15, 3) := by decide +kernel
theorem dX3_firstFault_7 : decode cX3_firstFault 7 = .ok (.if_icmp .ge 51, 3) := by decide +kernel
theorem dX3_firstFault_10 : decode cX3_firstFault 10 = .ok (.aload_n 0, 1) := by decide +kernel
theorem dX3_firstFault_11 : decode cX3_firstFault 11 = .ok (.getfield 9, 3) := by decide +kernel
theorem dX3_firstFault_14 : decode cX3_firstFault 14 = .ok (.iload_n 2, 1) := by decide +kernel
theorem dX3_firstFault_15 : decode cX3_firstFault 15 = .ok (.iaload, 1) := by decide +kernel
theorem dX3_firstFault_16 : decode cX3_firstFault 16 = .ok (.bipush 97, 2) := by decide +kernel
theorem dX3_firstFault_18 : decode cX3_firstFault 18 = .ok (.isub, 1) := by decide +kernel
theorem dX3_firstFault_19 : decode cX3_firstFault 19 = .ok (.invokestatic 36, 3) := by decide +kernel
theorem dX3_firstFault_22 : decode cX3_firstFault 22 = .ok (.ifCond .ne 18, 3) := by decide +kernel
theorem dX3_firstFault_25 : decode cX3_firstFault 25 = .ok (.iload_n 1, 1) := by decide +kernel
theorem dX3_firstFault_26 : decode cX3_firstFault 26 = .ok (.ifCond .eq 18, 3) := by decide +kernel
theorem dX3_firstFault_29 : decode cX3_firstFault 29 = .ok (.aload_n 0, 1) := by decide +kernel
theorem dX3_firstFault_30 : decode cX3_firstFault 30 = .ok (.getfield 9, 3) := by decide +kernel
theorem dX3_firstFault_33 : decode cX3_firstFault 33 = .ok (.iload_n 2, 1) := by decide +kernel
theorem dX3_firstFault_34 : decode cX3_firstFault 34 = .ok (.iaload, 1) := by decide +kernel
theorem dX3_firstFault_35 : decode cX3_firstFault 35 = .ok (.bipush 47, 2) := by decide +kernel
theorem dX3_firstFault_37 : decode cX3_firstFault 37 = .ok (.if_icmp .ne 7, 3) := by decide +kernel
theorem dX3_firstFault_40 : decode cX3_firstFault 40 = .ok (.iconst 1, 1) := by decide +kernel
theorem dX3_firstFault_41 : decode cX3_firstFault 41 = .ok (.goto 4, 3) := by decide +kernel
theorem dX3_firstFault_44 : decode cX3_firstFault 44 = .ok (.iconst 0, 1) := by decide +kernel
theorem dX3_firstFault_45 : decode cX3_firstFault 45 = .ok (.istore_n 3, 1) := by decide +kernel
theorem dX3_firstFault_46 : decode cX3_firstFault 46 = .ok (.iload_n 3, 1) := by decide +kernel
theorem dX3_firstFault_47 : decode cX3_firstFault 47 = .ok (.ifCond .ne 5, 3) := by decide +kernel
theorem dX3_firstFault_50 : decode cX3_firstFault 50 = .ok (.iload_n 2, 1) := by decide +kernel
theorem dX3_firstFault_51 : decode cX3_firstFault 51 = .ok (.ireturn, 1) := by decide +kernel
theorem dX3_firstFault_52 : decode cX3_firstFault 52 = .ok (.iinc 2 1, 3) := by decide +kernel
theorem dX3_firstFault_55 : decode cX3_firstFault 55 = .ok (.goto (-53), 3) := by decide +kernel
theorem dX3_firstFault_58 : decode cX3_firstFault 58 = .ok (.bipush (-6), 2) := by decide +kernel
theorem dX3_firstFault_60 : decode cX3_firstFault 60 = .ok (.ireturn, 1) := by decide +kernel
theorem dX3_slashes_0 : decode cX3_slashes 0 = .ok (.iconst 0, 1) := by decide +kernel
theorem dX3_slashes_1 : decode cX3_slashes 1 = .ok (.istore_n 1, 1) := by decide +kernel
theorem dX3_slashes_2 : decode cX3_slashes 2 = .ok (.iconst 0, 1) := by decide +kernel
theorem dX3_slashes_3 : decode cX3_slashes 3 = .ok (.istore_n 2, 1) := by decide +kernel
theorem dX3_slashes_4 : decode cX3_slashes 4 = .ok (.iload_n 2, 1) := by decide +kernel
theorem dX3_slashes_5 : decode cX3_slashes 5 = .ok (.aload_n 0, 1) := by decide +kernel
theorem dX3_slashes_6 : decode cX3_slashes 6 = .ok (.getfield 15, 3) := by decide +kernel
theorem dX3_slashes_9 : decode cX3_slashes 9 = .ok (.if_icmp .ge 23, 3) := by decide +kernel
theorem dX3_slashes_12 : decode cX3_slashes 12 = .ok (.aload_n 0, 1) := by decide +kernel
theorem dX3_slashes_13 : decode cX3_slashes 13 = .ok (.getfield 9, 3) := by decide +kernel
theorem dX3_slashes_16 : decode cX3_slashes 16 = .ok (.iload_n 2, 1) := by decide +kernel
theorem dX3_slashes_17 : decode cX3_slashes 17 = .ok (.iaload, 1) := by decide +kernel
theorem dX3_slashes_18 : decode cX3_slashes 18 = .ok (.bipush 47, 2) := by decide +kernel
theorem dX3_slashes_20 : decode cX3_slashes 20 = .ok (.if_icmp .ne 6, 3) := by decide +kernel
theorem dX3_slashes_23 : decode cX3_slashes 23 = .ok (.iinc 1 1, 3) := by decide +kernel
theorem dX3_slashes_26 : decode cX3_slashes 26 = .ok (.iinc 2 1, 3) := by decide +kernel
theorem dX3_slashes_29 : decode cX3_slashes 29 = .ok (.goto (-25), 3) := by decide +kernel
theorem dX3_slashes_32 : decode cX3_slashes 32 = .ok (.iload_n 1, 1) := by decide +kernel
theorem dX3_slashes_33 : decode cX3_slashes 33 = .ok (.ireturn, 1) := by decide +kernel
theorem dX4_init_0 : decode cX4_init 0 = .ok (.aload_n 0, 1) := by decide +kernel
theorem dX4_init_1 : decode cX4_init 1 = .ok (.invokespecial 3, 3) := by decide +kernel
theorem dX4_init_4 : decode cX4_init 4 = .ok (.aload_n 0, 1) := by decide +kernel
theorem dX4_init_5 : decode cX4_init 5 = .ok (.bipush 60, 2) := by decide +kernel
theorem dX4_init_7 : decode cX4_init 7 = .ok (.newarray .int, 2) := by decide +kernel
theorem dX4_init_9 : decode cX4_init 9 = .ok (.putfield 9, 3) := by decide +kernel
theorem dX4_init_12 : decode cX4_init 12 = .ok (.return_, 1) := by decide +kernel
theorem dX4_lengthAt_0 : decode cX4_lengthAt 0 = .ok (.iload_n 1, 1) := by decide +kernel
theorem dX4_lengthAt_1 : decode cX4_lengthAt 1 = .ok (.ifCond .lt 18, 3) := by decide +kernel
theorem dX4_lengthAt_4 : decode cX4_lengthAt 4 = .ok (.iload_n 1, 1) := by decide +kernel
theorem dX4_lengthAt_5 : decode cX4_lengthAt 5 = .ok (.bipush 60, 2) := by decide +kernel
theorem dX4_lengthAt_7 : decode cX4_lengthAt 7 = .ok (.if_icmp .ge 12, 3) := by decide +kernel
theorem dX4_lengthAt_10 : decode cX4_lengthAt 10 = .ok (.aload_n 0, 1) := by decide +kernel
theorem dX4_lengthAt_11 : decode cX4_lengthAt 11 = .ok (.getfield 9, 3) := by decide +kernel
theorem dX4_lengthAt_14 : decode cX4_lengthAt 14 = .ok (.iload_n 1, 1) := by decide +kernel
theorem dX4_lengthAt_15 : decode cX4_lengthAt 15 = .ok (.iaload, 1) := by decide +kernel
theorem dX4_lengthAt_16 : decode cX4_lengthAt 16 = .ok (.goto 4, 3) := by decide +kernel
theorem dX4_lengthAt_19 : decode cX4_lengthAt 19 = .ok (.iconst 0, 1) := by decide +kernel
theorem dX4_lengthAt_20 : decode cX4_lengthAt 20 = .ok (.ireturn, 1) := by decide +kernel
set_option maxRecDepth 20000 in
theorem ggX4_advance_X5_letterAt : GoodIn wsX4_advance wsX5_letterAt := goodIn_r _ [10, 11, 12, 13, 14, 9, 15, 16, 22, 23, 24, 25, 26, 27, 28, 29] (by decide +kernel) (by decide +kernel)
set_option maxRecDepth 20000 in
theorem gX4_advance_X5_letterAt : GoodIn wsX4_advance (wsV RX4 15 RX5 yX5_letterAt wsX5_letterAt) := goodIn_app (goodIn_of _ (by decide +kernel)) ggX4_advance_X5_letterAt
set_option maxRecDepth 20000 in
theorem ggX4_advance_X5_placeAt : GoodIn wsX4_advance wsX5_placeAt := goodIn_r _ [20, 21, 12, 13, 14, 9, 15, 16, 22, 23, 24, 25, 26, 27, 28, 29] (by decide +kernel) (by decide +kernel)
set_option maxRecDepth 20000 in
theorem gX4_advance_X5_placeAt : GoodIn wsX4_advance (wsV RX4 21 RX5 yX5_placeAt wsX5_placeAt) := goodIn_app (goodIn_of _ (by decide +kernel)) ggX4_advance_X5_placeAt
theorem dX4_advance_0 : decode cX4_advance 0 = .ok (.aload_n 1, 1) := by decide +kernel
theorem dX4_advance_1 : decode cX4_advance 1 = .ok (.iload_n 2, 1) := by decide +kernel
theorem dX4_advance_2 : decode cX4_advance 2 = .ok (.invokevirtual 15, 3) := by decide +kernel
theorem dX4_advance_5 : decode cX4_advance 5 = .ok (.istore 5, 2) := by decide +kernel
theorem dX4_advance_7 : decode cX4_advance 7 = .ok (.aload_n 1, 1) := by decide +kernel
theorem dX4_advance_8 : decode cX4_advance 8 = .ok (.iload_n 2, 1) := by decide +kernel
theorem dX4_advance_9 : decode cX4_advance 9 = .ok (.invokevirtual 21, 3) := by decide +kernel
theorem dX4_advance_12 : decode cX4_advance 12 = .ok (.ifCond .le 7, 3) := by decide +kernel
theorem dX4_advance_15 : decode cX4_advance 15 = .ok (.iconst 1, 1) := by decide +kernel
theorem dX4_advance_16 : decode cX4_advance 16 = .ok (.goto 4, 3) := by decide +kernel
theorem dX4_advance_19 : decode cX4_advance 19 = .ok (.iconst 0, 1) := by decide +kernel
theorem dX4_advance_20 : decode cX4_advance 20 = .ok (.istore 6, 2) := by decide +kernel
theorem dX4_advance_22 : decode cX4_advance 22 = .ok (.iconst 0, 1) := by decide +kernel
theorem dX4_advance_23 : decode cX4_advance 23 = .ok (.istore 7, 2) := by decide +kernel
theorem dX4_advance_25 : decode cX4_advance 25 = .ok (.iload 4, 2) := by decide +kernel
theorem dX4_advance_27 : decode cX4_advance 27 = .ok (.aload_n 3, 1) := by decide +kernel
theorem dX4_advance_28 : decode cX4_advance 28 = .ok (.getfield 24, 3) := by decide +kernel
theorem dX4_advance_31 : decode cX4_advance 31 = .ok (.invokestatic 28, 3) := by decide +kernel
theorem dX4_advance_34 : decode cX4_advance 34 = .ok (.bipush 60, 2) := by decide +kernel
theorem dX4_advance_36 : decode cX4_advance 36 = .ok (.invokestatic 28, 3) := by decide +kernel
theorem dX4_advance_39 : decode cX4_advance 39 = .ok (.iconst 1, 1) := by decide +kernel
theorem dX4_advance_40 : decode cX4_advance 40 = .ok (.isub, 1) := by decide +kernel
theorem dX4_advance_41 : decode cX4_advance 41 = .ok (.istore 8, 2) := by decide +kernel
theorem dX4_advance_43 : decode cX4_advance 43 = .ok (.iload 8, 2) := by decide +kernel
theorem dX4_advance_45 : decode cX4_advance 45 = .ok (.ifCond .lt 81, 3) := by decide +kernel
theorem dX4_advance_48 : decode cX4_advance 48 = .ok (.iconst 0, 1) := by decide +kernel
theorem dX4_advance_49 : decode cX4_advance 49 = .ok (.istore 9, 2) := by decide +kernel
theorem dX4_advance_51 : decode cX4_advance 51 = .ok (.aload_n 3, 1) := by decide +kernel
theorem dX4_advance_52 : decode cX4_advance 52 = .ok (.getfield 34, 3) := by decide +kernel
theorem dX4_advance_55 : decode cX4_advance 55 = .ok (.iload 8, 2) := by decide +kernel
theorem dX4_advance_57 : decode cX4_advance 57 = .ok (.iaload, 1) := by decide +kernel
theorem dX4_advance_58 : decode cX4_advance 58 = .ok (.iload 5, 2) := by decide +kernel
theorem dX4_advance_60 : decode cX4_advance 60 = .ok (.if_icmp .ne 40, 3) := by decide +kernel
theorem dX4_advance_63 : decode cX4_advance 63 = .ok (.iload 6, 2) := by decide +kernel
theorem dX4_advance_65 : decode cX4_advance 65 = .ok (.ifCond .eq 32, 3) := by decide +kernel
theorem dX4_advance_68 : decode cX4_advance 68 = .ok (.iload 8, 2) := by decide +kernel
theorem dX4_advance_70 : decode cX4_advance 70 = .ok (.ifCond .le 27, 3) := by decide +kernel
theorem dX4_advance_73 : decode cX4_advance 73 = .ok (.aload_n 3, 1) := by decide +kernel
theorem dX4_advance_74 : decode cX4_advance 74 = .ok (.getfield 37, 3) := by decide +kernel
theorem dX4_advance_77 : decode cX4_advance 77 = .ok (.iload 8, 2) := by decide +kernel
theorem dX4_advance_79 : decode cX4_advance 79 = .ok (.iaload, 1) := by decide +kernel
theorem dX4_advance_80 : decode cX4_advance 80 = .ok (.ifCond .le 17, 3) := by decide +kernel
theorem dX4_advance_83 : decode cX4_advance 83 = .ok (.aload_n 0, 1) := by decide +kernel
theorem dX4_advance_84 : decode cX4_advance 84 = .ok (.getfield 9, 3) := by decide +kernel
theorem dX4_advance_87 : decode cX4_advance 87 = .ok (.iload 8, 2) := by decide +kernel
theorem dX4_advance_89 : decode cX4_advance 89 = .ok (.iconst 1, 1) := by decide +kernel
theorem dX4_advance_90 : decode cX4_advance 90 = .ok (.isub, 1) := by decide +kernel
theorem dX4_advance_91 : decode cX4_advance 91 = .ok (.iaload, 1) := by decide +kernel
theorem dX4_advance_92 : decode cX4_advance 92 = .ok (.iconst 1, 1) := by decide +kernel
theorem dX4_advance_93 : decode cX4_advance 93 = .ok (.iadd, 1) := by decide +kernel
theorem dX4_advance_94 : decode cX4_advance 94 = .ok (.goto 4, 3) := by decide +kernel
theorem dX4_advance_97 : decode cX4_advance 97 = .ok (.iconst 1, 1) := by decide +kernel
theorem dX4_advance_98 : decode cX4_advance 98 = .ok (.istore 9, 2) := by decide +kernel
theorem dX4_advance_100 : decode cX4_advance 100 = .ok (.aload_n 0, 1) := by decide +kernel
theorem dX4_advance_101 : decode cX4_advance 101 = .ok (.getfield 9, 3) := by decide +kernel
theorem dX4_advance_104 : decode cX4_advance 104 = .ok (.iload 8, 2) := by decide +kernel
theorem dX4_advance_106 : decode cX4_advance 106 = .ok (.iload 9, 2) := by decide +kernel
theorem dX4_advance_108 : decode cX4_advance 108 = .ok (.iastore, 1) := by decide +kernel
theorem dX4_advance_109 : decode cX4_advance 109 = .ok (.iload 9, 2) := by decide +kernel
theorem dX4_advance_111 : decode cX4_advance 111 = .ok (.iload 7, 2) := by decide +kernel
theorem dX4_advance_113 : decode cX4_advance 113 = .ok (.if_icmp .le 7, 3) := by decide +kernel
theorem dX4_advance_116 : decode cX4_advance 116 = .ok (.iload 9, 2) := by decide +kernel
theorem dX4_advance_118 : decode cX4_advance 118 = .ok (.istore 7, 2) := by decide +kernel
theorem dX4_advance_120 : decode cX4_advance 120 = .ok (.iinc 8 (-1), 3) := by decide +kernel
theorem dX4_advance_123 : decode cX4_advance 123 = .ok (.goto (-80), 3) := by decide +kernel
theorem dX4_advance_126 : decode cX4_advance 126 = .ok (.iload 7, 2) := by decide +kernel
theorem dX4_advance_128 : decode cX4_advance 128 = .ok (.ireturn, 1) := by decide +kernel
theorem dX5_init_0 : decode cX5_init 0 = .ok (.aload_n 0, 1) := by decide +kernel
