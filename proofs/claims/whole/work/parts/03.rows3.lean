theorem dX7_isSame_16 : decode cX7_isSame 16 = .ok (.iconst 0, 1) := by decide +kernel
theorem dX7_isSame_17 : decode cX7_isSame 17 = .ok (.ireturn, 1) := by decide +kernel
set_option maxRecDepth 20000 in
theorem ggX7_endsAt_X7_isSame : GoodIn wsX7_endsAt wsX7_isSame := goodIn_r _ [6, 7, 8, 9, 5, 10, 11, 12, 13, 14, 15, 16, 17, 18, 19, 20, 21, 22, 23, 24, 25, 26, 27, 28, 29, 30, 31, 32, 33, 34, 35, 36, 37, 38, 39, 40] (by decide +kernel) (by decide +kernel)
set_option maxRecDepth 20000 in
theorem gX7_endsAt_X7_isSame : GoodIn wsX7_endsAt (wsV RX7 161 RX7 yX7_isSame wsX7_isSame) := goodIn_app (goodIn_of _ (by decide +kernel)) ggX7_endsAt_X7_isSame
theorem dX7_endsAt_0 : decode cX7_endsAt 0 = .ok (.iconst 0, 1) := by decide +kernel
theorem dX7_endsAt_1 : decode cX7_endsAt 1 = .ok (.istore_n 3, 1) := by decide +kernel
theorem dX7_endsAt_2 : decode cX7_endsAt 2 = .ok (.iconst 0, 1) := by decide +kernel
theorem dX7_endsAt_3 : decode cX7_endsAt 3 = .ok (.istore 4, 2) := by decide +kernel
theorem dX7_endsAt_5 : decode cX7_endsAt 5 = .ok (.iload 4, 2) := by decide +kernel
theorem dX7_endsAt_7 : decode cX7_endsAt 7 = .ok (.aload_n 0, 1) := by decide +kernel
theorem dX7_endsAt_8 : decode cX7_endsAt 8 = .ok (.getfield 37, 3) := by decide +kernel
theorem dX7_endsAt_11 : decode cX7_endsAt 11 = .ok (.iconst 0, 1) := by decide +kernel
theorem dX7_endsAt_12 : decode cX7_endsAt 12 = .ok (.iaload, 1) := by decide +kernel
theorem dX7_endsAt_13 : decode cX7_endsAt 13 = .ok (.if_icmp .ge 28, 3) := by decide +kernel
theorem dX7_endsAt_16 : decode cX7_endsAt 16 = .ok (.iload_n 3, 1) := by decide +kernel
theorem dX7_endsAt_17 : decode cX7_endsAt 17 = .ok (.aload_n 0, 1) := by decide +kernel
theorem dX7_endsAt_18 : decode cX7_endsAt 18 = .ok (.iload_n 1, 1) := by decide +kernel
theorem dX7_endsAt_19 : decode cX7_endsAt 19 = .ok (.iload 4, 2) := by decide +kernel
theorem dX7_endsAt_21 : decode cX7_endsAt 21 = .ok (.iload_n 2, 1) := by decide +kernel
theorem dX7_endsAt_22 : decode cX7_endsAt 22 = .ok (.invokevirtual 161, 3) := by decide +kernel
theorem dX7_endsAt_25 : decode cX7_endsAt 25 = .ok (.ifCond .eq 7, 3) := by decide +kernel
theorem dX7_endsAt_28 : decode cX7_endsAt 28 = .ok (.iconst 1, 1) := by decide +kernel
theorem dX7_endsAt_29 : decode cX7_endsAt 29 = .ok (.goto 4, 3) := by decide +kernel
theorem dX7_endsAt_32 : decode cX7_endsAt 32 = .ok (.iconst 0, 1) := by decide +kernel
theorem dX7_endsAt_33 : decode cX7_endsAt 33 = .ok (.iadd, 1) := by decide +kernel
theorem dX7_endsAt_34 : decode cX7_endsAt 34 = .ok (.istore_n 3, 1) := by decide +kernel
theorem dX7_endsAt_35 : decode cX7_endsAt 35 = .ok (.iinc 4 1, 3) := by decide +kernel
theorem dX7_endsAt_38 : decode cX7_endsAt 38 = .ok (.goto (-33), 3) := by decide +kernel
theorem dX7_endsAt_41 : decode cX7_endsAt 41 = .ok (.iload_n 3, 1) := by decide +kernel
theorem dX7_endsAt_42 : decode cX7_endsAt 42 = .ok (.ireturn, 1) := by decide +kernel
set_option maxRecDepth 20000 in
theorem ggX7_firstPlace_X7_isSame : GoodIn wsX7_firstPlace wsX7_isSame := goodIn_r _ [5, 6, 7, 8, 4, 9, 10, 11, 12, 13, 14, 15, 16, 17, 18, 19, 20, 21, 22, 23, 24, 25, 26, 27, 28, 29, 30, 31, 32, 33, 34, 35, 36, 37, 38, 39] (by decide +kernel) (by decide +kernel)
set_option maxRecDepth 20000 in
theorem gX7_firstPlace_X7_isSame : GoodIn wsX7_firstPlace (wsV RX7 161 RX7 yX7_isSame wsX7_isSame) := goodIn_app (goodIn_of _ (by decide +kernel)) ggX7_firstPlace_X7_isSame
theorem dX7_firstPlace_0 : decode cX7_firstPlace 0 = .ok (.iconst 0, 1) := by decide +kernel
theorem dX7_firstPlace_1 : decode cX7_firstPlace 1 = .ok (.istore_n 3, 1) := by decide +kernel
theorem dX7_firstPlace_2 : decode cX7_firstPlace 2 = .ok (.aload_n 0, 1) := by decide +kernel
theorem dX7_firstPlace_3 : decode cX7_firstPlace 3 = .ok (.iload_n 1, 1) := by decide +kernel
theorem dX7_firstPlace_4 : decode cX7_firstPlace 4 = .ok (.iload_n 3, 1) := by decide +kernel
theorem dX7_firstPlace_5 : decode cX7_firstPlace 5 = .ok (.iload_n 2, 1) := by decide +kernel
theorem dX7_firstPlace_6 : decode cX7_firstPlace 6 = .ok (.invokevirtual 161, 3) := by decide +kernel
theorem dX7_firstPlace_9 : decode cX7_firstPlace 9 = .ok (.ifCond .ne 9, 3) := by decide +kernel
theorem dX7_firstPlace_12 : decode cX7_firstPlace 12 = .ok (.iinc 3 1, 3) := by decide +kernel
theorem dX7_firstPlace_15 : decode cX7_firstPlace 15 = .ok (.goto (-13), 3) := by decide +kernel
theorem dX7_firstPlace_18 : decode cX7_firstPlace 18 = .ok (.iload_n 3, 1) := by decide +kernel
theorem dX7_firstPlace_19 : decode cX7_firstPlace 19 = .ok (.ireturn, 1) := by decide +kernel
set_option maxRecDepth 20000 in
theorem ggX7_layClasses_X7_firstPlace : GoodIn wsX7_layClasses wsX7_firstPlace := goodIn_r _ [13, 14, 15, 16, 12, 17, 18, 19, 20, 21, 22, 23, 24, 25, 26, 27, 4, 32, 33, 34, 35, 36, 37, 38, 39, 40, 41, 42, 43, 44, 45, 46, 47, 48, 49, 50, 51, 52, 53, 54] (by decide +kernel) (by decide +kernel)
set_option maxRecDepth 20000 in
theorem gX7_layClasses_X7_firstPlace : GoodIn wsX7_layClasses (wsV RX7 167 RX7 yX7_firstPlace wsX7_firstPlace) := goodIn_app (goodIn_of _ (by decide +kernel)) ggX7_layClasses_X7_firstPlace
set_option maxRecDepth 20000 in
theorem ggX7_layClasses_X7_endsAt : GoodIn wsX7_layClasses wsX7_endsAt := goodIn_r _ [31, 2, 14, 15, 16, 12, 17, 18, 19, 20, 21, 22, 23, 24, 25, 26, 27, 4, 32, 33, 34, 35, 36, 37, 38, 39, 40, 41, 42, 43, 44, 45, 46, 47, 48, 49, 50, 51, 52, 53, 54] (by decide +kernel) (by decide +kernel)
set_option maxRecDepth 20000 in
theorem gX7_layClasses_X7_endsAt : GoodIn wsX7_layClasses (wsV RX7 170 RX7 yX7_endsAt wsX7_endsAt) := goodIn_app (goodIn_of _ (by decide +kernel)) ggX7_layClasses_X7_endsAt
theorem dX7_layClasses_0 : decode cX7_layClasses 0 = .ok (.aload_n 0, 1) := by decide +kernel
theorem dX7_layClasses_1 : decode cX7_layClasses 1 = .ok (.iconst 0, 1) := by decide +kernel
theorem dX7_layClasses_2 : decode cX7_layClasses 2 = .ok (.putfield 164, 3) := by decide +kernel
theorem dX7_layClasses_5 : decode cX7_layClasses 5 = .ok (.iconst 0, 1) := by decide +kernel
theorem dX7_layClasses_6 : decode cX7_layClasses 6 = .ok (.istore_n 1, 1) := by decide +kernel
theorem dX7_layClasses_7 : decode cX7_layClasses 7 = .ok (.iload_n 1, 1) := by decide +kernel
theorem dX7_layClasses_8 : decode cX7_layClasses 8 = .ok (.aload_n 0, 1) := by decide +kernel
theorem dX7_layClasses_9 : decode cX7_layClasses 9 = .ok (.getfield 37, 3) := by decide +kernel
theorem dX7_layClasses_12 : decode cX7_layClasses 12 = .ok (.iconst 0, 1) := by decide +kernel
theorem dX7_layClasses_13 : decode cX7_layClasses 13 = .ok (.iaload, 1) := by decide +kernel
theorem dX7_layClasses_14 : decode cX7_layClasses 14 = .ok (.if_icmp .ge 128, 3) := by decide +kernel
theorem dX7_layClasses_17 : decode cX7_layClasses 17 = .ok (.iconst 0, 1) := by decide +kernel
theorem dX7_layClasses_18 : decode cX7_layClasses 18 = .ok (.istore_n 2, 1) := by decide +kernel
theorem dX7_layClasses_19 : decode cX7_layClasses 19 = .ok (.iconst 1, 1) := by decide +kernel
theorem dX7_layClasses_20 : decode cX7_layClasses 20 = .ok (.istore_n 3, 1) := by decide +kernel
theorem dX7_layClasses_21 : decode cX7_layClasses 21 = .ok (.iload_n 3, 1) := by decide +kernel
theorem dX7_layClasses_22 : decode cX7_layClasses 22 = .ok (.iload_n 1, 1) := by decide +kernel
theorem dX7_layClasses_23 : decode cX7_layClasses 23 = .ok (.aload_n 0, 1) := by decide +kernel
theorem dX7_layClasses_24 : decode cX7_layClasses 24 = .ok (.getfield 31, 3) := by decide +kernel
theorem dX7_layClasses_27 : decode cX7_layClasses 27 = .ok (.aload_n 0, 1) := by decide +kernel
theorem dX7_layClasses_28 : decode cX7_layClasses 28 = .ok (.getfield 28, 3) := by decide +kernel
theorem dX7_layClasses_31 : decode cX7_layClasses 31 = .ok (.iload_n 1, 1) := by decide +kernel
theorem dX7_layClasses_32 : decode cX7_layClasses 32 = .ok (.iaload, 1) := by decide +kernel
theorem dX7_layClasses_33 : decode cX7_layClasses 33 = .ok (.iaload, 1) := by decide +kernel
theorem dX7_layClasses_34 : decode cX7_layClasses 34 = .ok (.isub, 1) := by decide +kernel
theorem dX7_layClasses_35 : decode cX7_layClasses 35 = .ok (.iconst 1, 1) := by decide +kernel
theorem dX7_layClasses_36 : decode cX7_layClasses 36 = .ok (.iadd, 1) := by decide +kernel
theorem dX7_layClasses_37 : decode cX7_layClasses 37 = .ok (.if_icmp .gt 99, 3) := by decide +kernel
theorem dX7_layClasses_40 : decode cX7_layClasses 40 = .ok (.iload_n 1, 1) := by decide +kernel
theorem dX7_layClasses_41 : decode cX7_layClasses 41 = .ok (.iload_n 3, 1) := by decide +kernel
theorem dX7_layClasses_42 : decode cX7_layClasses 42 = .ok (.isub, 1) := by decide +kernel
theorem dX7_layClasses_43 : decode cX7_layClasses 43 = .ok (.iconst 1, 1) := by decide +kernel
theorem dX7_layClasses_44 : decode cX7_layClasses 44 = .ok (.iadd, 1) := by decide +kernel
theorem dX7_layClasses_45 : decode cX7_layClasses 45 = .ok (.istore 4, 2) := by decide +kernel
theorem dX7_layClasses_47 : decode cX7_layClasses 47 = .ok (.aload_n 0, 1) := by decide +kernel
theorem dX7_layClasses_48 : decode cX7_layClasses 48 = .ok (.iload 4, 2) := by decide +kernel
theorem dX7_layClasses_50 : decode cX7_layClasses 50 = .ok (.iload_n 3, 1) := by decide +kernel
theorem dX7_layClasses_51 : decode cX7_layClasses 51 = .ok (.invokevirtual 167, 3) := by decide +kernel
theorem dX7_layClasses_54 : decode cX7_layClasses 54 = .ok (.iload 4, 2) := by decide +kernel
theorem dX7_layClasses_56 : decode cX7_layClasses 56 = .ok (.if_icmp .ne 74, 3) := by decide +kernel
theorem dX7_layClasses_59 : decode cX7_layClasses 59 = .ok (.aload_n 0, 1) := by decide +kernel
theorem dX7_layClasses_60 : decode cX7_layClasses 60 = .ok (.iload 4, 2) := by decide +kernel
theorem dX7_layClasses_62 : decode cX7_layClasses 62 = .ok (.iload_n 3, 1) := by decide +kernel
theorem dX7_layClasses_63 : decode cX7_layClasses 63 = .ok (.invokevirtual 170, 3) := by decide +kernel
theorem dX7_layClasses_66 : decode cX7_layClasses 66 = .ok (.istore 5, 2) := by decide +kernel
theorem dX7_layClasses_68 : decode cX7_layClasses 68 = .ok (.iload 5, 2) := by decide +kernel
theorem dX7_layClasses_70 : decode cX7_layClasses 70 = .ok (.iload_n 2, 1) := by decide +kernel
theorem dX7_layClasses_71 : decode cX7_layClasses 71 = .ok (.if_icmp .eq 47, 3) := by decide +kernel
theorem dX7_layClasses_74 : decode cX7_layClasses 74 = .ok (.aload_n 0, 1) := by decide +kernel
theorem dX7_layClasses_75 : decode cX7_layClasses 75 = .ok (.getfield 52, 3) := by decide +kernel
theorem dX7_layClasses_78 : decode cX7_layClasses 78 = .ok (.aload_n 0, 1) := by decide +kernel
theorem dX7_layClasses_79 : decode cX7_layClasses 79 = .ok (.getfield 164, 3) := by decide +kernel
theorem dX7_layClasses_82 : decode cX7_layClasses 82 = .ok (.iload_n 1, 1) := by decide +kernel
theorem dX7_layClasses_83 : decode cX7_layClasses 83 = .ok (.iastore, 1) := by decide +kernel
theorem dX7_layClasses_84 : decode cX7_layClasses 84 = .ok (.aload_n 0, 1) := by decide +kernel
theorem dX7_layClasses_85 : decode cX7_layClasses 85 = .ok (.getfield 55, 3) := by decide +kernel
theorem dX7_layClasses_88 : decode cX7_layClasses 88 = .ok (.aload_n 0, 1) := by decide +kernel
theorem dX7_layClasses_89 : decode cX7_layClasses 89 = .ok (.getfield 164, 3) := by decide +kernel
theorem dX7_layClasses_92 : decode cX7_layClasses 92 = .ok (.iload_n 3, 1) := by decide +kernel
theorem dX7_layClasses_93 : decode cX7_layClasses 93 = .ok (.iastore, 1) := by decide +kernel
theorem dX7_layClasses_94 : decode cX7_layClasses 94 = .ok (.aload_n 0, 1) := by decide +kernel
theorem dX7_layClasses_95 : decode cX7_layClasses 95 = .ok (.getfield 61, 3) := by decide +kernel
theorem dX7_layClasses_98 : decode cX7_layClasses 98 = .ok (.aload_n 0, 1) := by decide +kernel
theorem dX7_layClasses_99 : decode cX7_layClasses 99 = .ok (.getfield 164, 3) := by decide +kernel
theorem dX7_layClasses_102 : decode cX7_layClasses 102 = .ok (.iload 5, 2) := by decide +kernel
theorem dX7_layClasses_104 : decode cX7_layClasses 104 = .ok (.iastore, 1) := by decide +kernel
theorem dX7_layClasses_105 : decode cX7_layClasses 105 = .ok (.aload_n 0, 1) := by decide +kernel
theorem dX7_layClasses_106 : decode cX7_layClasses 106 = .ok (.dup, 1) := by decide +kernel
theorem dX7_layClasses_107 : decode cX7_layClasses 107 = .ok (.getfield 164, 3) := by decide +kernel
theorem dX7_layClasses_110 : decode cX7_layClasses 110 = .ok (.iconst 1, 1) := by decide +kernel
theorem dX7_layClasses_111 : decode cX7_layClasses 111 = .ok (.iadd, 1) := by decide +kernel
theorem dX7_layClasses_112 : decode cX7_layClasses 112 = .ok (.putfield 164, 3) := by decide +kernel
theorem dX7_layClasses_115 : decode cX7_layClasses 115 = .ok (.iload 5, 2) := by decide +kernel
theorem dX7_layClasses_117 : decode cX7_layClasses 117 = .ok (.istore_n 2, 1) := by decide +kernel
theorem dX7_layClasses_118 : decode cX7_layClasses 118 = .ok (.aload_n 0, 1) := by decide +kernel
theorem dX7_layClasses_119 : decode cX7_layClasses 119 = .ok (.getfield 58, 3) := by decide +kernel
theorem dX7_layClasses_122 : decode cX7_layClasses 122 = .ok (.aload_n 0, 1) := by decide +kernel
theorem dX7_layClasses_123 : decode cX7_layClasses 123 = .ok (.getfield 164, 3) := by decide +kernel
theorem dX7_layClasses_126 : decode cX7_layClasses 126 = .ok (.iconst 1, 1) := by decide +kernel
theorem dX7_layClasses_127 : decode cX7_layClasses 127 = .ok (.isub, 1) := by decide +kernel
theorem dX7_layClasses_128 : decode cX7_layClasses 128 = .ok (.iload_n 3, 1) := by decide +kernel
theorem dX7_layClasses_129 : decode cX7_layClasses 129 = .ok (.iastore, 1) := by decide +kernel
theorem dX7_layClasses_130 : decode cX7_layClasses 130 = .ok (.iinc 3 1, 3) := by decide +kernel
theorem dX7_layClasses_133 : decode cX7_layClasses 133 = .ok (.goto (-112), 3) := by decide +kernel
theorem dX7_layClasses_136 : decode cX7_layClasses 136 = .ok (.iinc 1 1, 3) := by decide +kernel
theorem dX7_layClasses_139 : decode cX7_layClasses 139 = .ok (.goto (-132), 3) := by decide +kernel
theorem dX7_layClasses_142 : decode cX7_layClasses 142 = .ok (.return_, 1) := by decide +kernel
set_option maxRecDepth 20000 in
theorem ggX7_classAt_X7_firstPlace : GoodIn wsX7_classAt wsX7_firstPlace := goodIn_r _ [9, 10, 11, 12, 8, 13, 14, 15, 16, 17, 18, 19, 20, 21, 22, 23, 24, 28, 29, 30, 31, 32, 33, 34, 35, 36, 37, 38, 39, 40, 41, 42, 43, 44, 45, 46, 47, 48, 49, 50] (by decide +kernel) (by decide +kernel)
set_option maxRecDepth 20000 in
theorem gX7_classAt_X7_firstPlace : GoodIn wsX7_classAt (wsV RX7 167 RX7 yX7_firstPlace wsX7_firstPlace) := goodIn_app (goodIn_of _ (by decide +kernel)) ggX7_classAt_X7_firstPlace
set_option maxRecDepth 20000 in
theorem ggX7_classAt_X7_in : GoodIn wsX7_classAt wsX7_in := goodIn_r _ [27] (by decide +kernel) (by decide +kernel)
set_option maxRecDepth 20000 in
theorem gX7_classAt_X7_in : GoodIn wsX7_classAt (va_wsS RX7 97 yX7_in wsX7_in) := goodIn_app (goodIn_of _ (by decide +kernel)) ggX7_classAt_X7_in
theorem dX7_classAt_0 : decode cX7_classAt 0 = .ok (.aload_n 0, 1) := by decide +kernel
theorem dX7_classAt_1 : decode cX7_classAt 1 = .ok (.iload_n 1, 1) := by decide +kernel
theorem dX7_classAt_2 : decode cX7_classAt 2 = .ok (.iload_n 2, 1) := by decide +kernel
theorem dX7_classAt_3 : decode cX7_classAt 3 = .ok (.invokevirtual 167, 3) := by decide +kernel
theorem dX7_classAt_6 : decode cX7_classAt 6 = .ok (.iload_n 2, 1) := by decide +kernel
theorem dX7_classAt_7 : decode cX7_classAt 7 = .ok (.iadd, 1) := by decide +kernel
theorem dX7_classAt_8 : decode cX7_classAt 8 = .ok (.iconst 1, 1) := by decide +kernel
theorem dX7_classAt_9 : decode cX7_classAt 9 = .ok (.isub, 1) := by decide +kernel
theorem dX7_classAt_10 : decode cX7_classAt 10 = .ok (.istore_n 3, 1) := by decide +kernel
theorem dX7_classAt_11 : decode cX7_classAt 11 = .ok (.iconst 0, 1) := by decide +kernel
theorem dX7_classAt_12 : decode cX7_classAt 12 = .ok (.istore 4, 2) := by decide +kernel
theorem dX7_classAt_14 : decode cX7_classAt 14 = .ok (.iload 4, 2) := by decide +kernel
theorem dX7_classAt_16 : decode cX7_classAt 16 = .ok (.aload_n 0, 1) := by decide +kernel
theorem dX7_classAt_17 : decode cX7_classAt 17 = .ok (.getfield 164, 3) := by decide +kernel
theorem dX7_classAt_20 : decode cX7_classAt 20 = .ok (.if_icmp .ge 44, 3) := by decide +kernel
theorem dX7_classAt_23 : decode cX7_classAt 23 = .ok (.aload_n 0, 1) := by decide +kernel
theorem dX7_classAt_24 : decode cX7_classAt 24 = .ok (.getfield 52, 3) := by decide +kernel
theorem dX7_classAt_27 : decode cX7_classAt 27 = .ok (.iload 4, 2) := by decide +kernel
theorem dX7_classAt_29 : decode cX7_classAt 29 = .ok (.iaload, 1) := by decide +kernel
theorem dX7_classAt_30 : decode cX7_classAt 30 = .ok (.iload_n 3, 1) := by decide +kernel
theorem dX7_classAt_31 : decode cX7_classAt 31 = .ok (.if_icmp .ne 27, 3) := by decide +kernel
theorem dX7_classAt_34 : decode cX7_classAt 34 = .ok (.iload_n 2, 1) := by decide +kernel
theorem dX7_classAt_35 : decode cX7_classAt 35 = .ok (.aload_n 0, 1) := by decide +kernel
theorem dX7_classAt_36 : decode cX7_classAt 36 = .ok (.getfield 55, 3) := by decide +kernel
theorem dX7_classAt_39 : decode cX7_classAt 39 = .ok (.iload 4, 2) := by decide +kernel
theorem dX7_classAt_41 : decode cX7_classAt 41 = .ok (.iaload, 1) := by decide +kernel
theorem dX7_classAt_42 : decode cX7_classAt 42 = .ok (.aload_n 0, 1) := by decide +kernel
theorem dX7_classAt_43 : decode cX7_classAt 43 = .ok (.getfield 58, 3) := by decide +kernel
theorem dX7_classAt_46 : decode cX7_classAt 46 = .ok (.iload 4, 2) := by decide +kernel
theorem dX7_classAt_48 : decode cX7_classAt 48 = .ok (.iaload, 1) := by decide +kernel
theorem dX7_classAt_49 : decode cX7_classAt 49 = .ok (.invokestatic 97, 3) := by decide +kernel
theorem dX7_classAt_52 : decode cX7_classAt 52 = .ok (.ifCond .eq 6, 3) := by decide +kernel
theorem dX7_classAt_55 : decode cX7_classAt 55 = .ok (.iload 4, 2) := by decide +kernel
theorem dX7_classAt_57 : decode cX7_classAt 57 = .ok (.ireturn, 1) := by decide +kernel
theorem dX7_classAt_58 : decode cX7_classAt 58 = .ok (.iinc 4 1, 3) := by decide +kernel
theorem dX7_classAt_61 : decode cX7_classAt 61 = .ok (.goto (-47), 3) := by decide +kernel
theorem dX7_classAt_64 : decode cX7_classAt 64 = .ok (.bipush (-6), 2) := by decide +kernel
theorem dX7_classAt_66 : decode cX7_classAt 66 = .ok (.ireturn, 1) := by decide +kernel
set_option maxRecDepth 20000 in
theorem ggX7_nextOf_X7_isSame : GoodIn wsX7_nextOf wsX7_isSame := goodIn_r _ [6, 7, 8, 9, 5, 10, 11, 12, 13, 14, 15, 16, 17, 22, 23, 24, 25, 26, 27, 28, 29, 30, 31, 32, 33, 34, 35, 36, 37, 38, 39, 40, 41, 42, 43, 44] (by decide +kernel) (by decide +kernel)
set_option maxRecDepth 20000 in
theorem gX7_nextOf_X7_isSame : GoodIn wsX7_nextOf (wsV RX7 161 RX7 yX7_isSame wsX7_isSame) := goodIn_app (goodIn_of _ (by decide +kernel)) ggX7_nextOf_X7_isSame
set_option maxRecDepth 20000 in
theorem ggX7_nextOf_X7_rest : GoodIn wsX7_nextOf wsX7_rest := goodIn_r _ [15, 16, 17, 22, 23, 24, 25, 26, 27, 28, 29, 30, 31, 32, 33, 34, 35, 36, 37, 38, 39, 40, 41, 42, 43, 44] (by decide +kernel) (by decide +kernel)
set_option maxRecDepth 20000 in
theorem gX7_nextOf_X7_rest : GoodIn wsX7_nextOf (wsV RX7 78 RX7 yX7_rest wsX7_rest) := goodIn_app (goodIn_of _ (by decide +kernel)) ggX7_nextOf_X7_rest
set_option maxRecDepth 20000 in
theorem ggX7_nextOf_X7_letterAt : GoodIn wsX7_nextOf wsX7_letterAt := goodIn_r _ [21, 11, 22, 23, 24, 25, 26, 27, 28, 29, 30, 31, 32, 33, 34, 35, 36, 37, 38, 39, 40, 41, 42, 43, 44] (by decide +kernel) (by decide +kernel)
set_option maxRecDepth 20000 in
theorem gX7_nextOf_X7_letterAt : GoodIn wsX7_nextOf (wsV RX7 127 RX7 yX7_letterAt wsX7_letterAt) := goodIn_app (goodIn_of _ (by decide +kernel)) ggX7_nextOf_X7_letterAt
theorem dX7_nextOf_0 : decode cX7_nextOf 0 = .ok (.iconst 0, 1) := by decide +kernel
theorem dX7_nextOf_1 : decode cX7_nextOf 1 = .ok (.istore_n 3, 1) := by decide +kernel
theorem dX7_nextOf_2 : decode cX7_nextOf 2 = .ok (.iconst 0, 1) := by decide +kernel
theorem dX7_nextOf_3 : decode cX7_nextOf 3 = .ok (.istore 4, 2) := by decide +kernel
theorem dX7_nextOf_5 : decode cX7_nextOf 5 = .ok (.iload 4, 2) := by decide +kernel
theorem dX7_nextOf_7 : decode cX7_nextOf 7 = .ok (.aload_n 0, 1) := by decide +kernel
theorem dX7_nextOf_8 : decode cX7_nextOf 8 = .ok (.getfield 37, 3) := by decide +kernel
theorem dX7_nextOf_11 : decode cX7_nextOf 11 = .ok (.iconst 0, 1) := by decide +kernel
theorem dX7_nextOf_12 : decode cX7_nextOf 12 = .ok (.iaload, 1) := by decide +kernel
theorem dX7_nextOf_13 : decode cX7_nextOf 13 = .ok (.if_icmp .ge 48, 3) := by decide +kernel
theorem dX7_nextOf_16 : decode cX7_nextOf 16 = .ok (.iload_n 3, 1) := by decide +kernel
theorem dX7_nextOf_17 : decode cX7_nextOf 17 = .ok (.aload_n 0, 1) := by decide +kernel
theorem dX7_nextOf_18 : decode cX7_nextOf 18 = .ok (.iload_n 1, 1) := by decide +kernel
theorem dX7_nextOf_19 : decode cX7_nextOf 19 = .ok (.iload 4, 2) := by decide +kernel
theorem dX7_nextOf_21 : decode cX7_nextOf 21 = .ok (.iload_n 2, 1) := by decide +kernel
theorem dX7_nextOf_22 : decode cX7_nextOf 22 = .ok (.invokevirtual 161, 3) := by decide +kernel
theorem dX7_nextOf_25 : decode cX7_nextOf 25 = .ok (.ifCond .eq 27, 3) := by decide +kernel
theorem dX7_nextOf_28 : decode cX7_nextOf 28 = .ok (.aload_n 0, 1) := by decide +kernel
theorem dX7_nextOf_29 : decode cX7_nextOf 29 = .ok (.iconst 0, 1) := by decide +kernel
theorem dX7_nextOf_30 : decode cX7_nextOf 30 = .ok (.iload 4, 2) := by decide +kernel
theorem dX7_nextOf_32 : decode cX7_nextOf 32 = .ok (.invokevirtual 78, 3) := by decide +kernel
theorem dX7_nextOf_35 : decode cX7_nextOf 35 = .ok (.iload_n 2, 1) := by decide +kernel
theorem dX7_nextOf_36 : decode cX7_nextOf 36 = .ok (.if_icmp .le 16, 3) := by decide +kernel
theorem dX7_nextOf_39 : decode cX7_nextOf 39 = .ok (.iconst 1, 1) := by decide +kernel
theorem dX7_nextOf_40 : decode cX7_nextOf 40 = .ok (.aload_n 0, 1) := by decide +kernel
theorem dX7_nextOf_41 : decode cX7_nextOf 41 = .ok (.iload 4, 2) := by decide +kernel
theorem dX7_nextOf_43 : decode cX7_nextOf 43 = .ok (.iload_n 2, 1) := by decide +kernel
theorem dX7_nextOf_44 : decode cX7_nextOf 44 = .ok (.iadd, 1) := by decide +kernel
theorem dX7_nextOf_45 : decode cX7_nextOf 45 = .ok (.invokevirtual 127, 3) := by decide +kernel
theorem dX7_nextOf_48 : decode cX7_nextOf 48 = .ok (.ishl, 1) := by decide +kernel
theorem dX7_nextOf_49 : decode cX7_nextOf 49 = .ok (.goto 4, 3) := by decide +kernel
theorem dX7_nextOf_52 : decode cX7_nextOf 52 = .ok (.iconst 0, 1) := by decide +kernel
theorem dX7_nextOf_53 : decode cX7_nextOf 53 = .ok (.ior, 1) := by decide +kernel
theorem dX7_nextOf_54 : decode cX7_nextOf 54 = .ok (.istore_n 3, 1) := by decide +kernel
theorem dX7_nextOf_55 : decode cX7_nextOf 55 = .ok (.iinc 4 1, 3) := by decide +kernel
theorem dX7_nextOf_58 : decode cX7_nextOf 58 = .ok (.goto (-53), 3) := by decide +kernel
theorem dX7_nextOf_61 : decode cX7_nextOf 61 = .ok (.iload_n 3, 1) := by decide +kernel
theorem dX7_nextOf_62 : decode cX7_nextOf 62 = .ok (.ireturn, 1) := by decide +kernel
theorem dX7_firstOf_0 : decode cX7_firstOf 0 = .ok (.aload_n 0, 1) := by decide +kernel
theorem dX7_firstOf_1 : decode cX7_firstOf 1 = .ok (.getfield 52, 3) := by decide +kernel
theorem dX7_firstOf_4 : decode cX7_firstOf 4 = .ok (.iload_n 1, 1) := by decide +kernel
theorem dX7_firstOf_5 : decode cX7_firstOf 5 = .ok (.iaload, 1) := by decide +kernel
theorem dX7_firstOf_6 : decode cX7_firstOf 6 = .ok (.aload_n 0, 1) := by decide +kernel
theorem dX7_firstOf_7 : decode cX7_firstOf 7 = .ok (.getfield 58, 3) := by decide +kernel
theorem dX7_firstOf_10 : decode cX7_firstOf 10 = .ok (.iload_n 1, 1) := by decide +kernel
theorem dX7_firstOf_11 : decode cX7_firstOf 11 = .ok (.iaload, 1) := by decide +kernel
theorem dX7_firstOf_12 : decode cX7_firstOf 12 = .ok (.isub, 1) := by decide +kernel
theorem dX7_firstOf_13 : decode cX7_firstOf 13 = .ok (.iconst 1, 1) := by decide +kernel
theorem dX7_firstOf_14 : decode cX7_firstOf 14 = .ok (.iadd, 1) := by decide +kernel
theorem dX7_firstOf_15 : decode cX7_firstOf 15 = .ok (.ireturn, 1) := by decide +kernel
set_option maxRecDepth 20000 in
theorem ggX7_linkOf_X7_classAt : GoodIn wsX7_linkOf wsX7_classAt := goodIn_r _ [7, 8, 2, 1, 9, 10, 11, 12, 6, 13, 14, 15, 16, 17, 18, 19, 20, 21, 22, 23, 24, 25, 26, 27, 28, 29, 30, 31, 32, 33, 34, 35, 36, 37, 38, 39, 40, 41, 42, 43, 44, 45, 46, 47, 48, 49, 50, 51, 52, 53, 54] (by decide +kernel) (by decide +kernel)
set_option maxRecDepth 20000 in
theorem gX7_linkOf_X7_classAt : GoodIn wsX7_linkOf (wsV RX7 143 RX7 yX7_classAt wsX7_classAt) := goodIn_app (goodIn_of _ (by decide +kernel)) ggX7_linkOf_X7_classAt
theorem dX7_linkOf_0 : decode cX7_linkOf 0 = .ok (.aload_n 0, 1) := by decide +kernel
theorem dX7_linkOf_1 : decode cX7_linkOf 1 = .ok (.getfield 55, 3) := by decide +kernel
theorem dX7_linkOf_4 : decode cX7_linkOf 4 = .ok (.iload_n 1, 1) := by decide +kernel
theorem dX7_linkOf_5 : decode cX7_linkOf 5 = .ok (.iaload, 1) := by decide +kernel
theorem dX7_linkOf_6 : decode cX7_linkOf 6 = .ok (.iconst 1, 1) := by decide +kernel
theorem dX7_linkOf_7 : decode cX7_linkOf 7 = .ok (.isub, 1) := by decide +kernel
theorem dX7_linkOf_8 : decode cX7_linkOf 8 = .ok (.istore_n 2, 1) := by decide +kernel
theorem dX7_linkOf_9 : decode cX7_linkOf 9 = .ok (.iload_n 2, 1) := by decide +kernel
theorem dX7_linkOf_10 : decode cX7_linkOf 10 = .ok (.ifCond .ne 8, 3) := by decide +kernel
theorem dX7_linkOf_13 : decode cX7_linkOf 13 = .ok (.bipush (-6), 2) := by decide +kernel
theorem dX7_linkOf_15 : decode cX7_linkOf 15 = .ok (.goto 18, 3) := by decide +kernel
theorem dX7_linkOf_18 : decode cX7_linkOf 18 = .ok (.aload_n 0, 1) := by decide +kernel
theorem dX7_linkOf_19 : decode cX7_linkOf 19 = .ok (.aload_n 0, 1) := by decide +kernel
theorem dX7_linkOf_20 : decode cX7_linkOf 20 = .ok (.getfield 52, 3) := by decide +kernel
theorem dX7_linkOf_23 : decode cX7_linkOf 23 = .ok (.iload_n 1, 1) := by decide +kernel
theorem dX7_linkOf_24 : decode cX7_linkOf 24 = .ok (.iaload, 1) := by decide +kernel
theorem dX7_linkOf_25 : decode cX7_linkOf 25 = .ok (.iload_n 2, 1) := by decide +kernel
theorem dX7_linkOf_26 : decode cX7_linkOf 26 = .ok (.isub, 1) := by decide +kernel
theorem dX7_linkOf_27 : decode cX7_linkOf 27 = .ok (.iconst 1, 1) := by decide +kernel
theorem dX7_linkOf_28 : decode cX7_linkOf 28 = .ok (.iadd, 1) := by decide +kernel
theorem dX7_linkOf_29 : decode cX7_linkOf 29 = .ok (.iload_n 2, 1) := by decide +kernel
theorem dX7_linkOf_30 : decode cX7_linkOf 30 = .ok (.invokevirtual 143, 3) := by decide +kernel
theorem dX7_linkOf_33 : decode cX7_linkOf 33 = .ok (.ireturn, 1) := by decide +kernel
set_option maxRecDepth 20000 in
theorem ggX7_wordsOfClass_X7_firstOf : GoodIn wsX7_wordsOfClass wsX7_firstOf := goodIn_r _ [8, 9, 2, 24, 25, 26, 27, 28, 29, 30, 31, 32, 33, 34, 35, 36, 37, 38, 39, 40, 41, 42, 43, 44, 45, 46] (by decide +kernel) (by decide +kernel)
set_option maxRecDepth 20000 in
theorem gX7_wordsOfClass_X7_firstOf : GoodIn wsX7_wordsOfClass (wsV RX7 173 RX7 yX7_firstOf wsX7_firstOf) := goodIn_app (goodIn_of _ (by decide +kernel)) ggX7_wordsOfClass_X7_firstOf
set_option maxRecDepth 20000 in
theorem ggX7_wordsOfClass_X7_isSame : GoodIn wsX7_wordsOfClass wsX7_isSame := goodIn_r _ [13, 14, 15, 16, 7, 17, 18, 19, 20, 21, 22, 23, 3, 24, 25, 26, 27, 28, 29, 30, 31, 32, 33, 34, 35, 36, 37, 38, 39, 40, 41, 42, 43, 44, 45, 46] (by decide +kernel) (by decide +kernel)
set_option maxRecDepth 20000 in
theorem gX7_wordsOfClass_X7_isSame : GoodIn wsX7_wordsOfClass (wsV RX7 161 RX7 yX7_isSame wsX7_isSame) := goodIn_app (goodIn_of _ (by decide +kernel)) ggX7_wordsOfClass_X7_isSame
theorem dX7_wordsOfClass_0 : decode cX7_wordsOfClass 0 = .ok (.iconst 0, 1) := by decide +kernel
theorem dX7_wordsOfClass_1 : decode cX7_wordsOfClass 1 = .ok (.istore_n 2, 1) := by decide +kernel
theorem dX7_wordsOfClass_2 : decode cX7_wordsOfClass 2 = .ok (.iconst 0, 1) := by decide +kernel
theorem dX7_wordsOfClass_3 : decode cX7_wordsOfClass 3 = .ok (.istore_n 3, 1) := by decide +kernel
theorem dX7_wordsOfClass_4 : decode cX7_wordsOfClass 4 = .ok (.iload_n 3, 1) := by decide +kernel
theorem dX7_wordsOfClass_5 : decode cX7_wordsOfClass 5 = .ok (.aload_n 0, 1) := by decide +kernel
theorem dX7_wordsOfClass_6 : decode cX7_wordsOfClass 6 = .ok (.getfield 37, 3) := by decide +kernel
theorem dX7_wordsOfClass_9 : decode cX7_wordsOfClass 9 = .ok (.iconst 0, 1) := by decide +kernel
theorem dX7_wordsOfClass_10 : decode cX7_wordsOfClass 10 = .ok (.iaload, 1) := by decide +kernel
theorem dX7_wordsOfClass_11 : decode cX7_wordsOfClass 11 = .ok (.if_icmp .ge 43, 3) := by decide +kernel
theorem dX7_wordsOfClass_14 : decode cX7_wordsOfClass 14 = .ok (.iload_n 2, 1) := by decide +kernel
theorem dX7_wordsOfClass_15 : decode cX7_wordsOfClass 15 = .ok (.aload_n 0, 1) := by decide +kernel
theorem dX7_wordsOfClass_16 : decode cX7_wordsOfClass 16 = .ok (.aload_n 0, 1) := by decide +kernel
theorem dX7_wordsOfClass_17 : decode cX7_wordsOfClass 17 = .ok (.iload_n 1, 1) := by decide +kernel
theorem dX7_wordsOfClass_18 : decode cX7_wordsOfClass 18 = .ok (.invokevirtual 173, 3) := by decide +kernel
theorem dX7_wordsOfClass_21 : decode cX7_wordsOfClass 21 = .ok (.iload_n 3, 1) := by decide +kernel
theorem dX7_wordsOfClass_22 : decode cX7_wordsOfClass 22 = .ok (.aload_n 0, 1) := by decide +kernel
theorem dX7_wordsOfClass_23 : decode cX7_wordsOfClass 23 = .ok (.getfield 58, 3) := by decide +kernel
theorem dX7_wordsOfClass_26 : decode cX7_wordsOfClass 26 = .ok (.iload_n 1, 1) := by decide +kernel
theorem dX7_wordsOfClass_27 : decode cX7_wordsOfClass 27 = .ok (.iaload, 1) := by decide +kernel
theorem dX7_wordsOfClass_28 : decode cX7_wordsOfClass 28 = .ok (.invokevirtual 161, 3) := by decide +kernel
theorem dX7_wordsOfClass_31 : decode cX7_wordsOfClass 31 = .ok (.ifCond .eq 14, 3) := by decide +kernel
theorem dX7_wordsOfClass_34 : decode cX7_wordsOfClass 34 = .ok (.iconst 1, 1) := by decide +kernel
theorem dX7_wordsOfClass_35 : decode cX7_wordsOfClass 35 = .ok (.aload_n 0, 1) := by decide +kernel
theorem dX7_wordsOfClass_36 : decode cX7_wordsOfClass 36 = .ok (.getfield 28, 3) := by decide +kernel
theorem dX7_wordsOfClass_39 : decode cX7_wordsOfClass 39 = .ok (.iload_n 3, 1) := by decide +kernel
theorem dX7_wordsOfClass_40 : decode cX7_wordsOfClass 40 = .ok (.iaload, 1) := by decide +kernel
theorem dX7_wordsOfClass_41 : decode cX7_wordsOfClass 41 = .ok (.ishl, 1) := by decide +kernel
theorem dX7_wordsOfClass_42 : decode cX7_wordsOfClass 42 = .ok (.goto 4, 3) := by decide +kernel
theorem dX7_wordsOfClass_45 : decode cX7_wordsOfClass 45 = .ok (.iconst 0, 1) := by decide +kernel
theorem dX7_wordsOfClass_46 : decode cX7_wordsOfClass 46 = .ok (.ior, 1) := by decide +kernel
theorem dX7_wordsOfClass_47 : decode cX7_wordsOfClass 47 = .ok (.istore_n 2, 1) := by decide +kernel
theorem dX7_wordsOfClass_48 : decode cX7_wordsOfClass 48 = .ok (.iinc 3 1, 3) := by decide +kernel
theorem dX7_wordsOfClass_51 : decode cX7_wordsOfClass 51 = .ok (.goto (-47), 3) := by decide +kernel
theorem dX7_wordsOfClass_54 : decode cX7_wordsOfClass 54 = .ok (.iload_n 2, 1) := by decide +kernel
theorem dX7_wordsOfClass_55 : decode cX7_wordsOfClass 55 = .ok (.ireturn, 1) := by decide +kernel
set_option maxRecDepth 20000 in
theorem ggX7_isClass_X7_layPresent : GoodIn wsX7_isClass wsX7_layPresent := goodIn_r _ [6, 7, 8, 9, 10, 5, 11, 12, 13, 14, 15, 16, 17, 18, 19, 20, 52, 53, 54, 55, 56, 57, 58, 59, 60, 61, 62, 63, 64, 65, 66, 67, 68, 69, 70, 71, 72, 73, 74] (by decide +kernel) (by decide +kernel)
set_option maxRecDepth 20000 in
theorem gX7_isClass_X7_layPresent : GoodIn wsX7_isClass (wsV RX7 124 RX7 yX7_layPresent wsX7_layPresent) := goodIn_app (goodIn_of _ (by decide +kernel)) ggX7_isClass_X7_layPresent
set_option maxRecDepth 20000 in
theorem ggX7_isClass_X7_layClasses : GoodIn wsX7_isClass wsX7_layClasses := goodIn_r _ [24, 1, 15, 17, 20, 25, 26, 27, 28, 29, 30, 31, 5, 32, 33, 34, 35, 36, 37, 38, 39, 40, 19, 41, 42, 43, 44, 18, 45, 46, 47, 48, 52, 53, 54, 55, 56, 57, 58, 59, 60, 61, 62, 63, 64, 65, 66, 67, 68, 69, 70, 71, 72, 73, 74] (by decide +kernel) (by decide +kernel)
set_option maxRecDepth 20000 in
theorem gX7_isClass_X7_layClasses : GoodIn wsX7_isClass (wsV RX7 140 RX7 yX7_layClasses wsX7_layClasses) := goodIn_app (goodIn_of _ (by decide +kernel)) ggX7_isClass_X7_layClasses
set_option maxRecDepth 20000 in
theorem ggX7_isClass_X7_in : GoodIn wsX7_isClass wsX7_in := goodIn_r _ [51] (by decide +kernel) (by decide +kernel)
set_option maxRecDepth 20000 in
theorem gX7_isClass_X7_in : GoodIn wsX7_isClass (va_wsS RX7 97 yX7_in wsX7_in) := goodIn_app (goodIn_of _ (by decide +kernel)) ggX7_isClass_X7_in
theorem dX7_isClass_0 : decode cX7_isClass 0 = .ok (.aload_n 0, 1) := by decide +kernel
theorem dX7_isClass_1 : decode cX7_isClass 1 = .ok (.invokevirtual 124, 3) := by decide +kernel
theorem dX7_isClass_4 : decode cX7_isClass 4 = .ok (.aload_n 0, 1) := by decide +kernel
theorem dX7_isClass_5 : decode cX7_isClass 5 = .ok (.invokevirtual 140, 3) := by decide +kernel
theorem dX7_isClass_8 : decode cX7_isClass 8 = .ok (.iload_n 1, 1) := by decide +kernel
theorem dX7_isClass_9 : decode cX7_isClass 9 = .ok (.iconst 0, 1) := by decide +kernel
theorem dX7_isClass_10 : decode cX7_isClass 10 = .ok (.aload_n 0, 1) := by decide +kernel
theorem dX7_isClass_11 : decode cX7_isClass 11 = .ok (.getfield 164, 3) := by decide +kernel
theorem dX7_isClass_14 : decode cX7_isClass 14 = .ok (.iconst 1, 1) := by decide +kernel
theorem dX7_isClass_15 : decode cX7_isClass 15 = .ok (.isub, 1) := by decide +kernel
theorem dX7_isClass_16 : decode cX7_isClass 16 = .ok (.invokestatic 97, 3) := by decide +kernel
theorem dX7_isClass_19 : decode cX7_isClass 19 = .ok (.ireturn, 1) := by decide +kernel
set_option maxRecDepth 20000 in
theorem ggX7_group_X7_isClass : GoodIn wsX7_group wsX7_isClass := goodIn_r _ [9, 10, 11, 12, 13, 8, 14, 15, 16, 17, 18, 19, 20, 21, 22, 23, 24, 25, 26, 27, 28, 29, 30, 31, 32, 4, 2, 3, 1, 33, 34, 35, 36, 37, 38, 39, 40, 41, 42, 43, 44, 45, 46, 47, 48, 49, 50, 51, 52, 53, 54, 55, 84, 85, 86, 87, 88, 89, 90, 91, 92, 93, 94, 95, 96, 97, 98, 99, 100, 101, 102, 103, 104, 105, 106] (by decide +kernel) (by decide +kernel)
set_option maxRecDepth 20000 in
theorem gX7_group_X7_isClass : GoodIn wsX7_group (wsV RX7 176 RX7 yX7_isClass wsX7_isClass) := goodIn_app (goodIn_of _ (by decide +kernel)) ggX7_group_X7_isClass
set_option maxRecDepth 20000 in
theorem ggX7_group_X7_linkOf : GoodIn wsX7_group wsX7_linkOf := goodIn_r _ [59, 2, 4, 60, 61, 62, 8, 63, 10, 1, 33, 34, 35, 36, 37, 38, 39, 40, 41, 42, 43, 44, 27, 45, 46, 47, 48, 26, 28, 53, 54, 55, 84, 85, 86, 87, 88, 89, 90, 91, 92, 93, 94, 95, 96, 97, 98, 99, 100, 101, 102, 103, 104, 105, 106] (by decide +kernel) (by decide +kernel)
set_option maxRecDepth 20000 in
theorem gX7_group_X7_linkOf : GoodIn wsX7_group (wsV RX7 179 RX7 yX7_linkOf wsX7_linkOf) := goodIn_app (goodIn_of _ (by decide +kernel)) ggX7_group_X7_linkOf
set_option maxRecDepth 20000 in
theorem ggX7_group_X7_firstOf : GoodIn wsX7_group wsX7_firstOf := goodIn_r _ [67, 4, 1, 84, 85, 86, 87, 88, 89, 90, 91, 92, 93, 94, 95, 96, 97, 98, 99, 100, 101, 102, 103, 104, 105, 106] (by decide +kernel) (by decide +kernel)
set_option maxRecDepth 20000 in
theorem gX7_group_X7_firstOf : GoodIn wsX7_group (wsV RX7 173 RX7 yX7_firstOf wsX7_firstOf) := goodIn_app (goodIn_of _ (by decide +kernel)) ggX7_group_X7_firstOf
set_option maxRecDepth 20000 in
theorem ggX7_group_X7_nextOf : GoodIn wsX7_group wsX7_nextOf := goodIn_r _ [71, 23, 37, 38, 39, 8, 40, 41, 42, 43, 44, 27, 45, 46, 47, 48, 26, 28, 72, 73, 74, 75, 84, 85, 86, 87, 88, 89, 90, 91, 92, 93, 94, 95, 96, 97, 98, 99, 100, 101, 102, 103, 104, 105, 106] (by decide +kernel) (by decide +kernel)
set_option maxRecDepth 20000 in
theorem gX7_group_X7_nextOf : GoodIn wsX7_group (wsV RX7 182 RX7 yX7_nextOf wsX7_nextOf) := goodIn_app (goodIn_of _ (by decide +kernel)) ggX7_group_X7_nextOf
set_option maxRecDepth 20000 in
theorem ggX7_group_X7_wordsOfClass : GoodIn wsX7_group wsX7_wordsOfClass := goodIn_r _ [79, 23, 1, 28, 64, 65, 66, 8, 67, 4, 37, 38, 39, 40, 41, 42, 43, 44, 27, 45, 46, 47, 48, 26, 84, 85, 86, 87, 88, 89, 90, 91, 92, 93, 94, 95, 96, 97, 98, 99, 100, 101, 102, 103, 104, 105, 106] (by decide +kernel) (by decide +kernel)
set_option maxRecDepth 20000 in
theorem gX7_group_X7_wordsOfClass : GoodIn wsX7_group (wsV RX7 185 RX7 yX7_wordsOfClass wsX7_wordsOfClass) := goodIn_app (goodIn_of _ (by decide +kernel)) ggX7_group_X7_wordsOfClass
set_option maxRecDepth 20000 in
theorem ggX7_group_X7_asEnd : GoodIn wsX7_group wsX7_asEnd := goodIn_r _ [83, 28, 25, 84, 85, 86, 87, 88, 89, 90, 91, 92, 93, 94, 95, 96, 97, 98, 99, 100, 101, 102, 103, 104, 105, 106] (by decide +kernel) (by decide +kernel)
set_option maxRecDepth 20000 in
theorem gX7_group_X7_asEnd : GoodIn wsX7_group (wsV RX7 149 RX7 yX7_asEnd wsX7_asEnd) := goodIn_app (goodIn_of _ (by decide +kernel)) ggX7_group_X7_asEnd
theorem dX7_group_0 : decode cX7_group 0 = .ok (.aload_n 0, 1) := by decide +kernel
theorem dX7_group_1 : decode cX7_group 1 = .ok (.iload_n 1, 1) := by decide +kernel
theorem dX7_group_2 : decode cX7_group 2 = .ok (.invokevirtual 176, 3) := by decide +kernel
theorem dX7_group_5 : decode cX7_group 5 = .ok (.ifCond .ne 5, 3) := by decide +kernel
theorem dX7_group_8 : decode cX7_group 8 = .ok (.iconst (-1), 1) := by decide +kernel
theorem dX7_group_9 : decode cX7_group 9 = .ok (.ireturn, 1) := by decide +kernel
theorem dX7_group_10 : decode cX7_group 10 = .ok (.iload_n 2, 1) := by decide +kernel
theorem dX7_group_11 : decode cX7_group 11 = .ok (.tableswitch 101 0 6 #[41, 48, 55, 62, 68, 84, 90], 41) := by decide +kernel
theorem dX7_group_52 : decode cX7_group 52 = .ok (.aload_n 0, 1) := by decide +kernel
theorem dX7_group_53 : decode cX7_group 53 = .ok (.getfield 58, 3) := by decide +kernel
theorem dX7_group_56 : decode cX7_group 56 = .ok (.iload_n 1, 1) := by decide +kernel
theorem dX7_group_57 : decode cX7_group 57 = .ok (.iaload, 1) := by decide +kernel
theorem dX7_group_58 : decode cX7_group 58 = .ok (.ireturn, 1) := by decide +kernel
theorem dX7_group_59 : decode cX7_group 59 = .ok (.aload_n 0, 1) := by decide +kernel
theorem dX7_group_60 : decode cX7_group 60 = .ok (.getfield 55, 3) := by decide +kernel
theorem dX7_group_63 : decode cX7_group 63 = .ok (.iload_n 1, 1) := by decide +kernel
theorem dX7_group_64 : decode cX7_group 64 = .ok (.iaload, 1) := by decide +kernel
theorem dX7_group_65 : decode cX7_group 65 = .ok (.ireturn, 1) := by decide +kernel
theorem dX7_group_66 : decode cX7_group 66 = .ok (.aload_n 0, 1) := by decide +kernel
theorem dX7_group_67 : decode cX7_group 67 = .ok (.getfield 61, 3) := by decide +kernel
theorem dX7_group_70 : decode cX7_group 70 = .ok (.iload_n 1, 1) := by decide +kernel
theorem dX7_group_71 : decode cX7_group 71 = .ok (.iaload, 1) := by decide +kernel
theorem dX7_group_72 : decode cX7_group 72 = .ok (.ireturn, 1) := by decide +kernel
theorem dX7_group_73 : decode cX7_group 73 = .ok (.aload_n 0, 1) := by decide +kernel
theorem dX7_group_74 : decode cX7_group 74 = .ok (.iload_n 1, 1) := by decide +kernel
theorem dX7_group_75 : decode cX7_group 75 = .ok (.invokevirtual 179, 3) := by decide +kernel
theorem dX7_group_78 : decode cX7_group 78 = .ok (.ireturn, 1) := by decide +kernel
theorem dX7_group_79 : decode cX7_group 79 = .ok (.aload_n 0, 1) := by decide +kernel
theorem dX7_group_80 : decode cX7_group 80 = .ok (.aload_n 0, 1) := by decide +kernel
theorem dX7_group_81 : decode cX7_group 81 = .ok (.iload_n 1, 1) := by decide +kernel
theorem dX7_group_82 : decode cX7_group 82 = .ok (.invokevirtual 173, 3) := by decide +kernel
theorem dX7_group_85 : decode cX7_group 85 = .ok (.aload_n 0, 1) := by decide +kernel
theorem dX7_group_86 : decode cX7_group 86 = .ok (.getfield 58, 3) := by decide +kernel
theorem dX7_group_89 : decode cX7_group 89 = .ok (.iload_n 1, 1) := by decide +kernel
theorem dX7_group_90 : decode cX7_group 90 = .ok (.iaload, 1) := by decide +kernel
theorem dX7_group_91 : decode cX7_group 91 = .ok (.invokevirtual 182, 3) := by decide +kernel
theorem dX7_group_94 : decode cX7_group 94 = .ok (.ireturn, 1) := by decide +kernel
theorem dX7_group_95 : decode cX7_group 95 = .ok (.aload_n 0, 1) := by decide +kernel
theorem dX7_group_96 : decode cX7_group 96 = .ok (.iload_n 1, 1) := by decide +kernel
theorem dX7_group_97 : decode cX7_group 97 = .ok (.invokevirtual 185, 3) := by decide +kernel
theorem dX7_group_100 : decode cX7_group 100 = .ok (.ireturn, 1) := by decide +kernel
theorem dX7_group_101 : decode cX7_group 101 = .ok (.aload_n 0, 1) := by decide +kernel
theorem dX7_group_102 : decode cX7_group 102 = .ok (.aload_n 0, 1) := by decide +kernel
theorem dX7_group_103 : decode cX7_group 103 = .ok (.getfield 52, 3) := by decide +kernel
theorem dX7_group_106 : decode cX7_group 106 = .ok (.iload_n 1, 1) := by decide +kernel
theorem dX7_group_107 : decode cX7_group 107 = .ok (.iaload, 1) := by decide +kernel
theorem dX7_group_108 : decode cX7_group 108 = .ok (.invokevirtual 149, 3) := by decide +kernel
theorem dX7_group_111 : decode cX7_group 111 = .ok (.ireturn, 1) := by decide +kernel
theorem dX7_group_112 : decode cX7_group 112 = .ok (.bipush (-2), 2) := by decide +kernel
theorem dX7_group_114 : decode cX7_group 114 = .ok (.ireturn, 1) := by decide +kernel
set_option maxRecDepth 20000 in
theorem ggX7_spell_X7_isClass : GoodIn wsX7_spell wsX7_isClass := goodIn_r _ [6, 7, 8, 9, 10, 5, 11, 12, 13, 14, 15, 16, 17, 18, 19, 20, 21, 22, 23, 24, 25, 26, 27, 28, 29, 30, 31, 32, 1, 33, 34, 35, 36, 37, 38, 39, 40, 41, 42, 43, 44, 45, 46, 47, 48, 49, 50, 51, 52, 53, 54, 55, 70, 71, 72, 73, 74, 75, 76, 77, 78, 79, 80, 81, 82, 83, 84, 85, 86, 87, 88, 89, 90, 91, 92] (by decide +kernel) (by decide +kernel)
set_option maxRecDepth 20000 in
theorem gX7_spell_X7_isClass : GoodIn wsX7_spell (wsV RX7 176 RX7 yX7_isClass wsX7_isClass) := goodIn_app (goodIn_of _ (by decide +kernel)) ggX7_spell_X7_isClass
set_option maxRecDepth 20000 in
theorem ggX7_spell_X7_firstOf : GoodIn wsX7_spell wsX7_firstOf := goodIn_r _ [59, 30, 1, 70, 71, 72, 73, 74, 75, 76, 77, 78, 79, 80, 81, 82, 83, 84, 85, 86, 87, 88, 89, 90, 91, 92] (by decide +kernel) (by decide +kernel)
set_option maxRecDepth 20000 in
theorem gX7_spell_X7_firstOf : GoodIn wsX7_spell (wsV RX7 173 RX7 yX7_firstOf wsX7_firstOf) := goodIn_app (goodIn_of _ (by decide +kernel)) ggX7_spell_X7_firstOf
set_option maxRecDepth 20000 in
theorem ggX7_spell_X7_write : GoodIn wsX7_spell wsX7_write := goodIn_r _ [63, 64, 65, 66, 67, 68, 5, 69, 24, 70, 71, 72, 73, 74, 75, 76, 77, 78, 79, 80, 81, 82, 83, 84, 85, 86, 87, 88, 89, 90, 91, 92] (by decide +kernel) (by decide +kernel)
set_option maxRecDepth 20000 in
theorem gX7_spell_X7_write : GoodIn wsX7_spell (wsV RX7 155 RX7 yX7_write wsX7_write) := goodIn_app (goodIn_of _ (by decide +kernel)) ggX7_spell_X7_write
theorem dX7_spell_0 : decode cX7_spell 0 = .ok (.aload_n 0, 1) := by decide +kernel
theorem dX7_spell_1 : decode cX7_spell 1 = .ok (.iload_n 1, 1) := by decide +kernel
theorem dX7_spell_2 : decode cX7_spell 2 = .ok (.invokevirtual 176, 3) := by decide +kernel
theorem dX7_spell_5 : decode cX7_spell 5 = .ok (.ifCond .eq 21, 3) := by decide +kernel
theorem dX7_spell_8 : decode cX7_spell 8 = .ok (.aload_n 0, 1) := by decide +kernel
theorem dX7_spell_9 : decode cX7_spell 9 = .ok (.aload_n 0, 1) := by decide +kernel
theorem dX7_spell_10 : decode cX7_spell 10 = .ok (.iload_n 1, 1) := by decide +kernel
theorem dX7_spell_11 : decode cX7_spell 11 = .ok (.invokevirtual 173, 3) := by decide +kernel
theorem dX7_spell_14 : decode cX7_spell 14 = .ok (.aload_n 0, 1) := by decide +kernel
theorem dX7_spell_15 : decode cX7_spell 15 = .ok (.getfield 58, 3) := by decide +kernel
theorem dX7_spell_18 : decode cX7_spell 18 = .ok (.iload_n 1, 1) := by decide +kernel
theorem dX7_spell_19 : decode cX7_spell 19 = .ok (.iaload, 1) := by decide +kernel
theorem dX7_spell_20 : decode cX7_spell 20 = .ok (.invokevirtual 155, 3) := by decide +kernel
theorem dX7_spell_23 : decode cX7_spell 23 = .ok (.goto 4, 3) := by decide +kernel
theorem dX7_spell_26 : decode cX7_spell 26 = .ok (.iconst (-1), 1) := by decide +kernel
theorem dX7_spell_27 : decode cX7_spell 27 = .ok (.ireturn, 1) := by decide +kernel
set_option maxRecDepth 20000 in
theorem ggX7_step_X7_isClass : GoodIn wsX7_step wsX7_isClass := goodIn_r _ [7, 8, 9, 10, 11, 6, 12, 13, 14, 15, 16, 17, 18, 19, 20, 2, 21, 22, 23, 24, 25, 26, 27, 28, 29, 30, 31, 32, 1, 33, 34, 35, 36, 37, 38, 39, 40, 41, 42, 43, 44, 45, 46, 47, 48, 49, 50, 51, 52, 53, 54, 55, 68, 69, 70, 71, 72, 73, 74, 75, 76, 77, 78, 79, 80, 81, 82, 83, 84, 85, 86, 87, 88, 89, 90] (by decide +kernel) (by decide +kernel)
set_option maxRecDepth 20000 in
theorem gX7_step_X7_isClass : GoodIn wsX7_step (wsV RX7 176 RX7 yX7_isClass wsX7_isClass) := goodIn_app (goodIn_of _ (by decide +kernel)) ggX7_step_X7_isClass
set_option maxRecDepth 20000 in
theorem ggX7_step_X7_in : GoodIn wsX7_step wsX7_in := goodIn_r _ [55] (by decide +kernel) (by decide +kernel)
set_option maxRecDepth 20000 in
theorem gX7_step_X7_in : GoodIn wsX7_step (va_wsS RX7 97 yX7_in wsX7_in) := goodIn_app (goodIn_of _ (by decide +kernel)) ggX7_step_X7_in
set_option maxRecDepth 20000 in
theorem ggX7_step_X7_rest : GoodIn wsX7_step wsX7_rest := goodIn_r _ [48, 23, 25, 68, 69, 70, 71, 72, 73, 74, 75, 76, 77, 78, 79, 80, 81, 82, 83, 84, 85, 86, 87, 88, 89, 90] (by decide +kernel) (by decide +kernel)
set_option maxRecDepth 20000 in
theorem gX7_step_X7_rest : GoodIn wsX7_step (wsV RX7 78 RX7 yX7_rest wsX7_rest) := goodIn_app (goodIn_of _ (by decide +kernel)) ggX7_step_X7_rest
set_option maxRecDepth 20000 in
theorem ggX7_step_X7_letterAt : GoodIn wsX7_step wsX7_letterAt := goodIn_r _ [59, 24, 68, 69, 70, 71, 72, 73, 74, 75, 76, 77, 78, 79, 80, 81, 82, 83, 84, 85, 86, 87, 88, 89, 90] (by decide +kernel) (by decide +kernel)
set_option maxRecDepth 20000 in
theorem gX7_step_X7_letterAt : GoodIn wsX7_step (wsV RX7 127 RX7 yX7_letterAt wsX7_letterAt) := goodIn_app (goodIn_of _ (by decide +kernel)) ggX7_step_X7_letterAt
set_option maxRecDepth 20000 in
theorem ggX7_step_X7_firstOf : GoodIn wsX7_step wsX7_firstOf := goodIn_r _ [63, 30, 1, 68, 69, 70, 71, 72, 73, 74, 75, 76, 77, 78, 79, 80, 81, 82, 83, 84, 85, 86, 87, 88, 89, 90] (by decide +kernel) (by decide +kernel)
set_option maxRecDepth 20000 in
theorem gX7_step_X7_firstOf : GoodIn wsX7_step (wsV RX7 173 RX7 yX7_firstOf wsX7_firstOf) := goodIn_app (goodIn_of _ (by decide +kernel)) ggX7_step_X7_firstOf
set_option maxRecDepth 20000 in
theorem ggX7_step_X7_isSame : GoodIn wsX7_step wsX7_isSame := goodIn_r _ [40, 41, 42, 43, 6, 44, 24, 45, 46, 47, 48, 23, 25, 68, 69, 70, 71, 72, 73, 74, 75, 76, 77, 78, 79, 80, 81, 82, 83, 84, 85, 86, 87, 88, 89, 90] (by decide +kernel) (by decide +kernel)
set_option maxRecDepth 20000 in
theorem gX7_step_X7_isSame : GoodIn wsX7_step (wsV RX7 161 RX7 yX7_isSame wsX7_isSame) := goodIn_app (goodIn_of _ (by decide +kernel)) ggX7_step_X7_isSame
set_option maxRecDepth 20000 in
theorem ggX7_step_X7_classAt : GoodIn wsX7_step wsX7_classAt := goodIn_r _ [67, 8, 30, 31, 1, 33, 34, 35, 6, 36, 37, 38, 39, 40, 41, 42, 43, 44, 24, 45, 46, 47, 48, 23, 25, 53, 54, 55, 68, 69, 70, 71, 72, 73, 74, 75, 76, 77, 78, 79, 80, 81, 82, 83, 84, 85, 86, 87, 88, 89, 90] (by decide +kernel) (by decide +kernel)
set_option maxRecDepth 20000 in
theorem gX7_step_X7_classAt : GoodIn wsX7_step (wsV RX7 143 RX7 yX7_classAt wsX7_classAt) := goodIn_app (goodIn_of _ (by decide +kernel)) ggX7_step_X7_classAt
theorem dX7_step_0 : decode cX7_step 0 = .ok (.aload_n 0, 1) := by decide +kernel
theorem dX7_step_1 : decode cX7_step 1 = .ok (.iload_n 1, 1) := by decide +kernel
theorem dX7_step_2 : decode cX7_step 2 = .ok (.invokevirtual 176, 3) := by decide +kernel
theorem dX7_step_5 : decode cX7_step 5 = .ok (.ifCond .ne 10, 3) := by decide +kernel
theorem dX7_step_8 : decode cX7_step 8 = .ok (.iload_n 1, 1) := by decide +kernel
theorem dX7_step_9 : decode cX7_step 9 = .ok (.iconst (-1), 1) := by decide +kernel
theorem dX7_step_10 : decode cX7_step 10 = .ok (.if_icmp .eq 5, 3) := by decide +kernel
theorem dX7_step_13 : decode cX7_step 13 = .ok (.iconst (-1), 1) := by decide +kernel
theorem dX7_step_14 : decode cX7_step 14 = .ok (.ireturn, 1) := by decide +kernel
theorem dX7_step_15 : decode cX7_step 15 = .ok (.iload_n 2, 1) := by decide +kernel
theorem dX7_step_16 : decode cX7_step 16 = .ok (.iconst 0, 1) := by decide +kernel
theorem dX7_step_17 : decode cX7_step 17 = .ok (.bipush 7, 2) := by decide +kernel
theorem dX7_step_19 : decode cX7_step 19 = .ok (.invokestatic 97, 3) := by decide +kernel
theorem dX7_step_22 : decode cX7_step 22 = .ok (.ifCond .ne 6, 3) := by decide +kernel
theorem dX7_step_25 : decode cX7_step 25 = .ok (.bipush (-2), 2) := by decide +kernel
theorem dX7_step_27 : decode cX7_step 27 = .ok (.ireturn, 1) := by decide +kernel
theorem dX7_step_28 : decode cX7_step 28 = .ok (.iload_n 1, 1) := by decide +kernel
theorem dX7_step_29 : decode cX7_step 29 = .ok (.iconst (-1), 1) := by decide +kernel
theorem dX7_step_30 : decode cX7_step 30 = .ok (.if_icmp .ne 7, 3) := by decide +kernel
theorem dX7_step_33 : decode cX7_step 33 = .ok (.iconst 0, 1) := by decide +kernel
theorem dX7_step_34 : decode cX7_step 34 = .ok (.goto 9, 3) := by decide +kernel
theorem dX7_step_37 : decode cX7_step 37 = .ok (.aload_n 0, 1) := by decide +kernel
theorem dX7_step_38 : decode cX7_step 38 = .ok (.getfield 58, 3) := by decide +kernel
theorem dX7_step_41 : decode cX7_step 41 = .ok (.iload_n 1, 1) := by decide +kernel
theorem dX7_step_42 : decode cX7_step 42 = .ok (.iaload, 1) := by decide +kernel
theorem dX7_step_43 : decode cX7_step 43 = .ok (.istore_n 3, 1) := by decide +kernel
theorem dX7_step_44 : decode cX7_step 44 = .ok (.iconst 0, 1) := by decide +kernel
theorem dX7_step_45 : decode cX7_step 45 = .ok (.istore 4, 2) := by decide +kernel
theorem dX7_step_47 : decode cX7_step 47 = .ok (.iload 4, 2) := by decide +kernel
theorem dX7_step_49 : decode cX7_step 49 = .ok (.aload_n 0, 1) := by decide +kernel
theorem dX7_step_50 : decode cX7_step 50 = .ok (.getfield 37, 3) := by decide +kernel
theorem dX7_step_53 : decode cX7_step 53 = .ok (.iconst 0, 1) := by decide +kernel
theorem dX7_step_54 : decode cX7_step 54 = .ok (.iaload, 1) := by decide +kernel
theorem dX7_step_55 : decode cX7_step 55 = .ok (.if_icmp .ge 74, 3) := by decide +kernel
theorem dX7_step_58 : decode cX7_step 58 = .ok (.aload_n 0, 1) := by decide +kernel
theorem dX7_step_59 : decode cX7_step 59 = .ok (.iconst 0, 1) := by decide +kernel
theorem dX7_step_60 : decode cX7_step 60 = .ok (.iload 4, 2) := by decide +kernel
theorem dX7_step_62 : decode cX7_step 62 = .ok (.invokevirtual 78, 3) := by decide +kernel
theorem dX7_step_65 : decode cX7_step 65 = .ok (.iload_n 3, 1) := by decide +kernel
theorem dX7_step_66 : decode cX7_step 66 = .ok (.if_icmp .le 39, 3) := by decide +kernel
theorem dX7_step_69 : decode cX7_step 69 = .ok (.aload_n 0, 1) := by decide +kernel
theorem dX7_step_70 : decode cX7_step 70 = .ok (.iload 4, 2) := by decide +kernel
theorem dX7_step_72 : decode cX7_step 72 = .ok (.iload_n 3, 1) := by decide +kernel
theorem dX7_step_73 : decode cX7_step 73 = .ok (.iadd, 1) := by decide +kernel
theorem dX7_step_74 : decode cX7_step 74 = .ok (.invokevirtual 127, 3) := by decide +kernel
theorem dX7_step_77 : decode cX7_step 77 = .ok (.iload_n 2, 1) := by decide +kernel
theorem dX7_step_78 : decode cX7_step 78 = .ok (.if_icmp .ne 27, 3) := by decide +kernel
theorem dX7_step_81 : decode cX7_step 81 = .ok (.iload_n 1, 1) := by decide +kernel
theorem dX7_step_82 : decode cX7_step 82 = .ok (.iconst (-1), 1) := by decide +kernel
theorem dX7_step_83 : decode cX7_step 83 = .ok (.if_icmp .eq 18, 3) := by decide +kernel
theorem dX7_step_86 : decode cX7_step 86 = .ok (.aload_n 0, 1) := by decide +kernel
theorem dX7_step_87 : decode cX7_step 87 = .ok (.aload_n 0, 1) := by decide +kernel
theorem dX7_step_88 : decode cX7_step 88 = .ok (.iload_n 1, 1) := by decide +kernel
theorem dX7_step_89 : decode cX7_step 89 = .ok (.invokevirtual 173, 3) := by decide +kernel
theorem dX7_step_92 : decode cX7_step 92 = .ok (.iload 4, 2) := by decide +kernel
theorem dX7_step_94 : decode cX7_step 94 = .ok (.iload_n 3, 1) := by decide +kernel
theorem dX7_step_95 : decode cX7_step 95 = .ok (.invokevirtual 161, 3) := by decide +kernel
theorem dX7_step_98 : decode cX7_step 98 = .ok (.ifCond .eq 7, 3) := by decide +kernel
theorem dX7_step_101 : decode cX7_step 101 = .ok (.iconst 1, 1) := by decide +kernel
theorem dX7_step_102 : decode cX7_step 102 = .ok (.goto 4, 3) := by decide +kernel
theorem dX7_step_105 : decode cX7_step 105 = .ok (.iconst 0, 1) := by decide +kernel
theorem dX7_step_106 : decode cX7_step 106 = .ok (.istore 5, 2) := by decide +kernel
theorem dX7_step_108 : decode cX7_step 108 = .ok (.iload 5, 2) := by decide +kernel
theorem dX7_step_110 : decode cX7_step 110 = .ok (.ifCond .eq 13, 3) := by decide +kernel
theorem dX7_step_113 : decode cX7_step 113 = .ok (.aload_n 0, 1) := by decide +kernel
theorem dX7_step_114 : decode cX7_step 114 = .ok (.iload 4, 2) := by decide +kernel
theorem dX7_step_116 : decode cX7_step 116 = .ok (.iload_n 3, 1) := by decide +kernel
theorem dX7_step_117 : decode cX7_step 117 = .ok (.iconst 1, 1) := by decide +kernel
theorem dX7_step_118 : decode cX7_step 118 = .ok (.iadd, 1) := by decide +kernel
theorem dX7_step_119 : decode cX7_step 119 = .ok (.invokevirtual 143, 3) := by decide +kernel
theorem dX7_step_122 : decode cX7_step 122 = .ok (.ireturn, 1) := by decide +kernel
theorem dX7_step_123 : decode cX7_step 123 = .ok (.iinc 4 1, 3) := by decide +kernel
theorem dX7_step_126 : decode cX7_step 126 = .ok (.goto (-79), 3) := by decide +kernel
theorem dX7_step_129 : decode cX7_step 129 = .ok (.bipush (-6), 2) := by decide +kernel
theorem dX7_step_131 : decode cX7_step 131 = .ok (.ireturn, 1) := by decide +kernel
set_option maxRecDepth 20000 in
theorem ggX7_areWords_X7_in : GoodIn wsX7_areWords wsX7_in := goodIn_r _ [6] (by decide +kernel) (by decide +kernel)
set_option maxRecDepth 20000 in
theorem gX7_areWords_X7_in : GoodIn wsX7_areWords (va_wsS RX7 97 yX7_in wsX7_in) := goodIn_app (goodIn_of _ (by decide +kernel)) ggX7_areWords_X7_in
theorem dX7_areWords_0 : decode cX7_areWords 0 = .ok (.iload_n 1, 1) := by decide +kernel
theorem dX7_areWords_1 : decode cX7_areWords 1 = .ok (.iconst 0, 1) := by decide +kernel
theorem dX7_areWords_2 : decode cX7_areWords 2 = .ok (.iconst 1, 1) := by decide +kernel
theorem dX7_areWords_3 : decode cX7_areWords 3 = .ok (.aload_n 0, 1) := by decide +kernel
theorem dX7_areWords_4 : decode cX7_areWords 4 = .ok (.getfield 16, 3) := by decide +kernel
theorem dX7_areWords_7 : decode cX7_areWords 7 = .ok (.aload_n 0, 1) := by decide +kernel
theorem dX7_areWords_8 : decode cX7_areWords 8 = .ok (.getfield 71, 3) := by decide +kernel
theorem dX7_areWords_11 : decode cX7_areWords 11 = .ok (.iaload, 1) := by decide +kernel
theorem dX7_areWords_12 : decode cX7_areWords 12 = .ok (.ishl, 1) := by decide +kernel
theorem dX7_areWords_13 : decode cX7_areWords 13 = .ok (.iconst 1, 1) := by decide +kernel
theorem dX7_areWords_14 : decode cX7_areWords 14 = .ok (.isub, 1) := by decide +kernel
theorem dX7_areWords_15 : decode cX7_areWords 15 = .ok (.invokestatic 97, 3) := by decide +kernel
theorem dX7_areWords_18 : decode cX7_areWords 18 = .ok (.ireturn, 1) := by decide +kernel
set_option maxRecDepth 20000 in
theorem ggX7_common_X7_areWords : GoodIn wsX7_common wsX7_areWords := goodIn_r _ [8, 9, 10, 11, 12, 7, 13, 67, 68, 69, 70, 71, 72, 73, 74, 75, 76, 77, 78, 79, 80, 81, 82, 83, 84, 85, 86, 87, 88, 89] (by decide +kernel) (by decide +kernel)
set_option maxRecDepth 20000 in
theorem gX7_common_X7_areWords : GoodIn wsX7_common (wsV RX7 188 RX7 yX7_areWords wsX7_areWords) := goodIn_app (goodIn_of _ (by decide +kernel)) ggX7_common_X7_areWords
set_option maxRecDepth 20000 in
theorem ggX7_common_X7_in : GoodIn wsX7_common wsX7_in := goodIn_r _ [13] (by decide +kernel) (by decide +kernel)
set_option maxRecDepth 20000 in
theorem gX7_common_X7_in : GoodIn wsX7_common (va_wsS RX7 97 yX7_in wsX7_in) := goodIn_app (goodIn_of _ (by decide +kernel)) ggX7_common_X7_in
set_option maxRecDepth 20000 in
theorem ggX7_common_X7_layPresent : GoodIn wsX7_common wsX7_layPresent := goodIn_r _ [17, 10, 18, 19, 20, 7, 21, 22, 23, 24, 1, 25, 26, 27, 28, 29, 67, 68, 69, 70, 71, 72, 73, 74, 75, 76, 77, 78, 79, 80, 81, 82, 83, 84, 85, 86, 87, 88, 89] (by decide +kernel) (by decide +kernel)
set_option maxRecDepth 20000 in
theorem gX7_common_X7_layPresent : GoodIn wsX7_common (wsV RX7 124 RX7 yX7_layPresent wsX7_layPresent) := goodIn_app (goodIn_of _ (by decide +kernel)) ggX7_common_X7_layPresent
set_option maxRecDepth 20000 in
theorem ggX7_common_X7_sort : GoodIn wsX7_common wsX7_sort := goodIn_r _ [33, 1, 3, 2, 34, 35, 36, 7, 37, 28, 38, 39, 40, 41, 42, 43, 44, 45, 27, 29, 67, 68, 69, 70, 71, 72, 73, 74, 75, 76, 77, 78, 79, 80, 81, 82, 83, 84, 85, 86, 87, 88, 89] (by decide +kernel) (by decide +kernel)
set_option maxRecDepth 20000 in
theorem gX7_common_X7_sort : GoodIn wsX7_common (wsV RX7 117 RX7 yX7_sort wsX7_sort) := goodIn_app (goodIn_of _ (by decide +kernel)) ggX7_common_X7_sort
set_option maxRecDepth 20000 in
theorem ggX7_common_X7_rest : GoodIn wsX7_common wsX7_rest := goodIn_r _ [45, 27, 29, 67, 68, 69, 70, 71, 72, 73, 74, 75, 76, 77, 78, 79, 80, 81, 82, 83, 84, 85, 86, 87, 88, 89] (by decide +kernel) (by decide +kernel)
set_option maxRecDepth 20000 in
theorem gX7_common_X7_rest : GoodIn wsX7_common (wsV RX7 78 RX7 yX7_rest wsX7_rest) := goodIn_app (goodIn_of _ (by decide +kernel)) ggX7_common_X7_rest
set_option maxRecDepth 20000 in
theorem ggX7_common_X7_wordsOf : GoodIn wsX7_common wsX7_wordsOf := goodIn_r _ [49, 29, 3, 50, 51, 52, 7, 53, 1, 2, 67, 68, 69, 70, 71, 72, 73, 74, 75, 76, 77, 78, 79, 80, 81, 82, 83, 84, 85, 86, 87, 88, 89] (by decide +kernel) (by decide +kernel)
set_option maxRecDepth 20000 in
theorem gX7_common_X7_wordsOf : GoodIn wsX7_common (wsV RX7 191 RX7 yX7_wordsOf wsX7_wordsOf) := goodIn_app (goodIn_of _ (by decide +kernel)) ggX7_common_X7_wordsOf
set_option maxRecDepth 20000 in
theorem ggX7_common_X7_sizeOf : GoodIn wsX7_common wsX7_sizeOf := goodIn_r _ [56] (by decide +kernel) (by decide +kernel)
set_option maxRecDepth 20000 in
theorem gX7_common_X7_sizeOf : GoodIn wsX7_common (va_wsS RX7 194 yX7_sizeOf wsX7_sizeOf) := goodIn_app (goodIn_of _ (by decide +kernel)) ggX7_common_X7_sizeOf
set_option maxRecDepth 20000 in
theorem ggX7_common_X7_write : GoodIn wsX7_common wsX7_write := goodIn_r _ [60, 61, 62, 63, 64, 65, 7, 66, 28, 67, 68, 69, 70, 71, 72, 73, 74, 75, 76, 77, 78, 79, 80, 81, 82, 83, 84, 85, 86, 87, 88, 89] (by decide +kernel) (by decide +kernel)
set_option maxRecDepth 20000 in
theorem gX7_common_X7_write : GoodIn wsX7_common (wsV RX7 155 RX7 yX7_write wsX7_write) := goodIn_app (goodIn_of _ (by decide +kernel)) ggX7_common_X7_write
theorem dX7_common_0 : decode cX7_common 0 = .ok (.aload_n 0, 1) := by decide +kernel
theorem dX7_common_1 : decode cX7_common 1 = .ok (.iload_n 1, 1) := by decide +kernel
theorem dX7_common_2 : decode cX7_common 2 = .ok (.invokevirtual 188, 3) := by decide +kernel
theorem dX7_common_5 : decode cX7_common 5 = .ok (.ifCond .ne 5, 3) := by decide +kernel
theorem dX7_common_8 : decode cX7_common 8 = .ok (.iconst (-1), 1) := by decide +kernel
theorem dX7_common_9 : decode cX7_common 9 = .ok (.ireturn, 1) := by decide +kernel
theorem dX7_common_10 : decode cX7_common 10 = .ok (.iload_n 2, 1) := by decide +kernel
theorem dX7_common_11 : decode cX7_common 11 = .ok (.iconst 1, 1) := by decide +kernel
theorem dX7_common_12 : decode cX7_common 12 = .ok (.bipush 6, 2) := by decide +kernel
theorem dX7_common_14 : decode cX7_common 14 = .ok (.invokestatic 97, 3) := by decide +kernel
theorem dX7_common_17 : decode cX7_common 17 = .ok (.ifCond .ne 6, 3) := by decide +kernel
theorem dX7_common_20 : decode cX7_common 20 = .ok (.bipush (-2), 2) := by decide +kernel
theorem dX7_common_22 : decode cX7_common 22 = .ok (.ireturn, 1) := by decide +kernel
theorem dX7_common_23 : decode cX7_common 23 = .ok (.aload_n 0, 1) := by decide +kernel
theorem dX7_common_24 : decode cX7_common 24 = .ok (.invokevirtual 124, 3) := by decide +kernel
theorem dX7_common_27 : decode cX7_common 27 = .ok (.aload_n 0, 1) := by decide +kernel
theorem dX7_common_28 : decode cX7_common 28 = .ok (.invokevirtual 117, 3) := by decide +kernel
theorem dX7_common_31 : decode cX7_common 31 = .ok (.bipush (-6), 2) := by decide +kernel
theorem dX7_common_33 : decode cX7_common 33 = .ok (.istore_n 3, 1) := by decide +kernel
theorem dX7_common_34 : decode cX7_common 34 = .ok (.iconst 0, 1) := by decide +kernel
theorem dX7_common_35 : decode cX7_common 35 = .ok (.istore 4, 2) := by decide +kernel
theorem dX7_common_37 : decode cX7_common 37 = .ok (.iconst 0, 1) := by decide +kernel
theorem dX7_common_38 : decode cX7_common 38 = .ok (.istore 5, 2) := by decide +kernel
theorem dX7_common_40 : decode cX7_common 40 = .ok (.iload 5, 2) := by decide +kernel
theorem dX7_common_42 : decode cX7_common 42 = .ok (.aload_n 0, 1) := by decide +kernel
theorem dX7_common_43 : decode cX7_common 43 = .ok (.getfield 37, 3) := by decide +kernel
theorem dX7_common_46 : decode cX7_common 46 = .ok (.iconst 0, 1) := by decide +kernel
theorem dX7_common_47 : decode cX7_common 47 = .ok (.iaload, 1) := by decide +kernel
theorem dX7_common_48 : decode cX7_common 48 = .ok (.if_icmp .ge 79, 3) := by decide +kernel
theorem dX7_common_51 : decode cX7_common 51 = .ok (.aload_n 0, 1) := by decide +kernel
theorem dX7_common_52 : decode cX7_common 52 = .ok (.getfield 49, 3) := by decide +kernel
theorem dX7_common_55 : decode cX7_common 55 = .ok (.iload 5, 2) := by decide +kernel
theorem dX7_common_57 : decode cX7_common 57 = .ok (.iaload, 1) := by decide +kernel
theorem dX7_common_58 : decode cX7_common 58 = .ok (.iconst 1, 1) := by decide +kernel
theorem dX7_common_59 : decode cX7_common 59 = .ok (.iadd, 1) := by decide +kernel
theorem dX7_common_60 : decode cX7_common 60 = .ok (.istore 6, 2) := by decide +kernel
theorem dX7_common_62 : decode cX7_common 62 = .ok (.iload 6, 2) := by decide +kernel
theorem dX7_common_64 : decode cX7_common 64 = .ok (.aload_n 0, 1) := by decide +kernel
theorem dX7_common_65 : decode cX7_common 65 = .ok (.iconst 0, 1) := by decide +kernel
theorem dX7_common_66 : decode cX7_common 66 = .ok (.aload_n 0, 1) := by decide +kernel
theorem dX7_common_67 : decode cX7_common 67 = .ok (.getfield 46, 3) := by decide +kernel
theorem dX7_common_70 : decode cX7_common 70 = .ok (.iload 5, 2) := by decide +kernel
theorem dX7_common_72 : decode cX7_common 72 = .ok (.iaload, 1) := by decide +kernel
theorem dX7_common_73 : decode cX7_common 73 = .ok (.invokevirtual 78, 3) := by decide +kernel
theorem dX7_common_76 : decode cX7_common 76 = .ok (.if_icmp .gt 45, 3) := by decide +kernel
theorem dX7_common_79 : decode cX7_common 79 = .ok (.iload 6, 2) := by decide +kernel
theorem dX7_common_81 : decode cX7_common 81 = .ok (.iload 4, 2) := by decide +kernel
theorem dX7_common_83 : decode cX7_common 83 = .ok (.if_icmp .le 32, 3) := by decide +kernel
theorem dX7_common_86 : decode cX7_common 86 = .ok (.aload_n 0, 1) := by decide +kernel
theorem dX7_common_87 : decode cX7_common 87 = .ok (.iload 5, 2) := by decide +kernel
theorem dX7_common_89 : decode cX7_common 89 = .ok (.iload 6, 2) := by decide +kernel
theorem dX7_common_91 : decode cX7_common 91 = .ok (.invokevirtual 191, 3) := by decide +kernel
theorem dX7_common_94 : decode cX7_common 94 = .ok (.iload_n 1, 1) := by decide +kernel
theorem dX7_common_95 : decode cX7_common 95 = .ok (.iand, 1) := by decide +kernel
theorem dX7_common_96 : decode cX7_common 96 = .ok (.invokestatic 194, 3) := by decide +kernel
theorem dX7_common_99 : decode cX7_common 99 = .ok (.iload_n 2, 1) := by decide +kernel
theorem dX7_common_100 : decode cX7_common 100 = .ok (.if_icmp .lt 15, 3) := by decide +kernel
theorem dX7_common_103 : decode cX7_common 103 = .ok (.aload_n 0, 1) := by decide +kernel
theorem dX7_common_104 : decode cX7_common 104 = .ok (.getfield 46, 3) := by decide +kernel
theorem dX7_common_107 : decode cX7_common 107 = .ok (.iload 5, 2) := by decide +kernel
theorem dX7_common_109 : decode cX7_common 109 = .ok (.iaload, 1) := by decide +kernel
theorem dX7_common_110 : decode cX7_common 110 = .ok (.istore_n 3, 1) := by decide +kernel
theorem dX7_common_111 : decode cX7_common 111 = .ok (.iload 6, 2) := by decide +kernel
theorem dX7_common_113 : decode cX7_common 113 = .ok (.istore 4, 2) := by decide +kernel
theorem dX7_common_115 : decode cX7_common 115 = .ok (.iinc 6 1, 3) := by decide +kernel
theorem dX7_common_118 : decode cX7_common 118 = .ok (.goto (-56), 3) := by decide +kernel
theorem dX7_common_121 : decode cX7_common 121 = .ok (.iinc 5 1, 3) := by decide +kernel
theorem dX7_common_124 : decode cX7_common 124 = .ok (.goto (-84), 3) := by decide +kernel
theorem dX7_common_127 : decode cX7_common 127 = .ok (.iload_n 3, 1) := by decide +kernel
theorem dX7_common_128 : decode cX7_common 128 = .ok (.ifCond .ge 8, 3) := by decide +kernel
theorem dX7_common_131 : decode cX7_common 131 = .ok (.bipush (-6), 2) := by decide +kernel
theorem dX7_common_133 : decode cX7_common 133 = .ok (.goto 10, 3) := by decide +kernel
theorem dX7_common_136 : decode cX7_common 136 = .ok (.aload_n 0, 1) := by decide +kernel
theorem dX7_common_137 : decode cX7_common 137 = .ok (.iload_n 3, 1) := by decide +kernel
theorem dX7_common_138 : decode cX7_common 138 = .ok (.iload 4, 2) := by decide +kernel
theorem dX7_common_140 : decode cX7_common 140 = .ok (.invokevirtual 155, 3) := by decide +kernel
theorem dX7_common_143 : decode cX7_common 143 = .ok (.ireturn, 1) := by decide +kernel
set_option maxRecDepth 20000 in
theorem ggX7_unique_X7_areWords : GoodIn wsX7_unique wsX7_areWords := goodIn_r _ [8, 9, 10, 11, 12, 7, 13, 64, 65, 66, 67, 68, 69, 70, 71, 72, 73, 74, 75, 76, 77, 78, 79, 80, 81, 82, 83, 84, 85, 86] (by decide +kernel) (by decide +kernel)
set_option maxRecDepth 20000 in
theorem gX7_unique_X7_areWords : GoodIn wsX7_unique (wsV RX7 188 RX7 yX7_areWords wsX7_areWords) := goodIn_app (goodIn_of _ (by decide +kernel)) ggX7_unique_X7_areWords
set_option maxRecDepth 20000 in
theorem ggX7_unique_X7_layPresent : GoodIn wsX7_unique wsX7_layPresent := goodIn_r _ [17, 10, 18, 19, 20, 7, 21, 22, 23, 24, 1, 25, 26, 27, 28, 29, 64, 65, 66, 67, 68, 69, 70, 71, 72, 73, 74, 75, 76, 77, 78, 79, 80, 81, 82, 83, 84, 85, 86] (by decide +kernel) (by decide +kernel)
set_option maxRecDepth 20000 in
theorem gX7_unique_X7_layPresent : GoodIn wsX7_unique (wsV RX7 124 RX7 yX7_layPresent wsX7_layPresent) := goodIn_app (goodIn_of _ (by decide +kernel)) ggX7_unique_X7_layPresent
set_option maxRecDepth 20000 in
theorem ggX7_unique_X7_sort : GoodIn wsX7_unique wsX7_sort := goodIn_r _ [33, 1, 3, 2, 34, 35, 36, 7, 37, 28, 38, 39, 40, 41, 42, 43, 44, 45, 27, 29, 64, 65, 66, 67, 68, 69, 70, 71, 72, 73, 74, 75, 76, 77, 78, 79, 80, 81, 82, 83, 84, 85, 86] (by decide +kernel) (by decide +kernel)
set_option maxRecDepth 20000 in
theorem gX7_unique_X7_sort : GoodIn wsX7_unique (wsV RX7 117 RX7 yX7_sort wsX7_sort) := goodIn_app (goodIn_of _ (by decide +kernel)) ggX7_unique_X7_sort
set_option maxRecDepth 20000 in
theorem ggX7_unique_X7_rest : GoodIn wsX7_unique wsX7_rest := goodIn_r _ [45, 27, 29, 64, 65, 66, 67, 68, 69, 70, 71, 72, 73, 74, 75, 76, 77, 78, 79, 80, 81, 82, 83, 84, 85, 86] (by decide +kernel) (by decide +kernel)
set_option maxRecDepth 20000 in
theorem gX7_unique_X7_rest : GoodIn wsX7_unique (wsV RX7 78 RX7 yX7_rest wsX7_rest) := goodIn_app (goodIn_of _ (by decide +kernel)) ggX7_unique_X7_rest
set_option maxRecDepth 20000 in
theorem ggX7_unique_X7_wordsOf : GoodIn wsX7_unique wsX7_wordsOf := goodIn_r _ [49, 29, 3, 50, 51, 52, 7, 53, 1, 2, 64, 65, 66, 67, 68, 69, 70, 71, 72, 73, 74, 75, 76, 77, 78, 79, 80, 81, 82, 83, 84, 85, 86] (by decide +kernel) (by decide +kernel)
set_option maxRecDepth 20000 in
theorem gX7_unique_X7_wordsOf : GoodIn wsX7_unique (wsV RX7 191 RX7 yX7_wordsOf wsX7_wordsOf) := goodIn_app (goodIn_of _ (by decide +kernel)) ggX7_unique_X7_wordsOf
set_option maxRecDepth 20000 in
theorem ggX7_unique_X7_write : GoodIn wsX7_unique wsX7_write := goodIn_r _ [57, 58, 59, 60, 61, 62, 7, 63, 28, 64, 65, 66, 67, 68, 69, 70, 71, 72, 73, 74, 75, 76, 77, 78, 79, 80, 81, 82, 83, 84, 85, 86] (by decide +kernel) (by decide +kernel)
set_option maxRecDepth 20000 in
theorem gX7_unique_X7_write : GoodIn wsX7_unique (wsV RX7 155 RX7 yX7_write wsX7_write) := goodIn_app (goodIn_of _ (by decide +kernel)) ggX7_unique_X7_write
theorem dX7_unique_0 : decode cX7_unique 0 = .ok (.aload_n 0, 1) := by decide +kernel
theorem dX7_unique_1 : decode cX7_unique 1 = .ok (.iload_n 1, 1) := by decide +kernel
theorem dX7_unique_2 : decode cX7_unique 2 = .ok (.invokevirtual 188, 3) := by decide +kernel
theorem dX7_unique_5 : decode cX7_unique 5 = .ok (.ifCond .ne 5, 3) := by decide +kernel
theorem dX7_unique_8 : decode cX7_unique 8 = .ok (.iconst (-1), 1) := by decide +kernel
theorem dX7_unique_9 : decode cX7_unique 9 = .ok (.ireturn, 1) := by decide +kernel
theorem dX7_unique_10 : decode cX7_unique 10 = .ok (.iload_n 1, 1) := by decide +kernel
theorem dX7_unique_11 : decode cX7_unique 11 = .ok (.ifCond .ne 6, 3) := by decide +kernel
theorem dX7_unique_14 : decode cX7_unique 14 = .ok (.bipush (-2), 2) := by decide +kernel
theorem dX7_unique_16 : decode cX7_unique 16 = .ok (.ireturn, 1) := by decide +kernel
theorem dX7_unique_17 : decode cX7_unique 17 = .ok (.aload_n 0, 1) := by decide +kernel
theorem dX7_unique_18 : decode cX7_unique 18 = .ok (.invokevirtual 124, 3) := by decide +kernel
theorem dX7_unique_21 : decode cX7_unique 21 = .ok (.aload_n 0, 1) := by decide +kernel
theorem dX7_unique_22 : decode cX7_unique 22 = .ok (.invokevirtual 117, 3) := by decide +kernel
theorem dX7_unique_25 : decode cX7_unique 25 = .ok (.bipush (-6), 2) := by decide +kernel
theorem dX7_unique_27 : decode cX7_unique 27 = .ok (.istore_n 2, 1) := by decide +kernel
theorem dX7_unique_28 : decode cX7_unique 28 = .ok (.bipush 61, 2) := by decide +kernel
theorem dX7_unique_30 : decode cX7_unique 30 = .ok (.istore_n 3, 1) := by decide +kernel
theorem dX7_unique_31 : decode cX7_unique 31 = .ok (.iconst 0, 1) := by decide +kernel
theorem dX7_unique_32 : decode cX7_unique 32 = .ok (.istore 4, 2) := by decide +kernel
theorem dX7_unique_34 : decode cX7_unique 34 = .ok (.iload 4, 2) := by decide +kernel
theorem dX7_unique_36 : decode cX7_unique 36 = .ok (.aload_n 0, 1) := by decide +kernel
theorem dX7_unique_37 : decode cX7_unique 37 = .ok (.getfield 37, 3) := by decide +kernel
theorem dX7_unique_40 : decode cX7_unique 40 = .ok (.iconst 0, 1) := by decide +kernel
theorem dX7_unique_41 : decode cX7_unique 41 = .ok (.iaload, 1) := by decide +kernel
theorem dX7_unique_42 : decode cX7_unique 42 = .ok (.if_icmp .ge 72, 3) := by decide +kernel
theorem dX7_unique_45 : decode cX7_unique 45 = .ok (.aload_n 0, 1) := by decide +kernel
theorem dX7_unique_46 : decode cX7_unique 46 = .ok (.getfield 49, 3) := by decide +kernel
theorem dX7_unique_49 : decode cX7_unique 49 = .ok (.iload 4, 2) := by decide +kernel
theorem dX7_unique_51 : decode cX7_unique 51 = .ok (.iaload, 1) := by decide +kernel
theorem dX7_unique_52 : decode cX7_unique 52 = .ok (.iconst 1, 1) := by decide +kernel
theorem dX7_unique_53 : decode cX7_unique 53 = .ok (.iadd, 1) := by decide +kernel
theorem dX7_unique_54 : decode cX7_unique 54 = .ok (.istore 5, 2) := by decide +kernel
theorem dX7_unique_56 : decode cX7_unique 56 = .ok (.iload 5, 2) := by decide +kernel
theorem dX7_unique_58 : decode cX7_unique 58 = .ok (.aload_n 0, 1) := by decide +kernel
theorem dX7_unique_59 : decode cX7_unique 59 = .ok (.iconst 0, 1) := by decide +kernel
theorem dX7_unique_60 : decode cX7_unique 60 = .ok (.aload_n 0, 1) := by decide +kernel
theorem dX7_unique_61 : decode cX7_unique 61 = .ok (.getfield 46, 3) := by decide +kernel
theorem dX7_unique_64 : decode cX7_unique 64 = .ok (.iload 4, 2) := by decide +kernel
theorem dX7_unique_66 : decode cX7_unique 66 = .ok (.iaload, 1) := by decide +kernel
theorem dX7_unique_67 : decode cX7_unique 67 = .ok (.invokevirtual 78, 3) := by decide +kernel
theorem dX7_unique_70 : decode cX7_unique 70 = .ok (.if_icmp .gt 38, 3) := by decide +kernel
theorem dX7_unique_73 : decode cX7_unique 73 = .ok (.iload 5, 2) := by decide +kernel
theorem dX7_unique_75 : decode cX7_unique 75 = .ok (.iload_n 3, 1) := by decide +kernel
theorem dX7_unique_76 : decode cX7_unique 76 = .ok (.if_icmp .ge 26, 3) := by decide +kernel
theorem dX7_unique_79 : decode cX7_unique 79 = .ok (.aload_n 0, 1) := by decide +kernel
theorem dX7_unique_80 : decode cX7_unique 80 = .ok (.iload 4, 2) := by decide +kernel
theorem dX7_unique_82 : decode cX7_unique 82 = .ok (.iload 5, 2) := by decide +kernel
theorem dX7_unique_84 : decode cX7_unique 84 = .ok (.invokevirtual 191, 3) := by decide +kernel
theorem dX7_unique_87 : decode cX7_unique 87 = .ok (.iload_n 1, 1) := by decide +kernel
theorem dX7_unique_88 : decode cX7_unique 88 = .ok (.if_icmp .ne 14, 3) := by decide +kernel
theorem dX7_unique_91 : decode cX7_unique 91 = .ok (.aload_n 0, 1) := by decide +kernel
theorem dX7_unique_92 : decode cX7_unique 92 = .ok (.getfield 46, 3) := by decide +kernel
theorem dX7_unique_95 : decode cX7_unique 95 = .ok (.iload 4, 2) := by decide +kernel
theorem dX7_unique_97 : decode cX7_unique 97 = .ok (.iaload, 1) := by decide +kernel
theorem dX7_unique_98 : decode cX7_unique 98 = .ok (.istore_n 2, 1) := by decide +kernel
theorem dX7_unique_99 : decode cX7_unique 99 = .ok (.iload 5, 2) := by decide +kernel
theorem dX7_unique_101 : decode cX7_unique 101 = .ok (.istore_n 3, 1) := by decide +kernel
theorem dX7_unique_102 : decode cX7_unique 102 = .ok (.iinc 5 1, 3) := by decide +kernel
theorem dX7_unique_105 : decode cX7_unique 105 = .ok (.goto (-49), 3) := by decide +kernel
theorem dX7_unique_108 : decode cX7_unique 108 = .ok (.iinc 4 1, 3) := by decide +kernel
theorem dX7_unique_111 : decode cX7_unique 111 = .ok (.goto (-77), 3) := by decide +kernel
theorem dX7_unique_114 : decode cX7_unique 114 = .ok (.iload_n 2, 1) := by decide +kernel
theorem dX7_unique_115 : decode cX7_unique 115 = .ok (.ifCond .ge 8, 3) := by decide +kernel
theorem dX7_unique_118 : decode cX7_unique 118 = .ok (.bipush (-6), 2) := by decide +kernel
theorem dX7_unique_120 : decode cX7_unique 120 = .ok (.goto 9, 3) := by decide +kernel
theorem dX7_unique_123 : decode cX7_unique 123 = .ok (.aload_n 0, 1) := by decide +kernel
theorem dX7_unique_124 : decode cX7_unique 124 = .ok (.iload_n 2, 1) := by decide +kernel
theorem dX7_unique_125 : decode cX7_unique 125 = .ok (.iload_n 3, 1) := by decide +kernel
theorem dX7_unique_126 : decode cX7_unique 126 = .ok (.invokevirtual 155, 3) := by decide +kernel
theorem dX7_unique_129 : decode cX7_unique 129 = .ok (.ireturn, 1) := by decide +kernel
set_option maxRecDepth 20000 in
theorem ggX7_isTriedFactor_X7_rest : GoodIn wsX7_isTriedFactor wsX7_rest := goodIn_r _ [7, 8, 9, 15, 16, 17, 18, 19, 20, 21, 22, 23, 24, 25, 26, 27, 28, 29, 30, 31, 32, 33, 34, 35, 36, 37] (by decide +kernel) (by decide +kernel)
set_option maxRecDepth 20000 in
theorem gX7_isTriedFactor_X7_rest : GoodIn wsX7_isTriedFactor (wsV RX7 78 RX7 yX7_rest wsX7_rest) := goodIn_app (goodIn_of _ (by decide +kernel)) ggX7_isTriedFactor_X7_rest
set_option maxRecDepth 20000 in
theorem ggX7_isTriedFactor_X7_letterAt : GoodIn wsX7_isTriedFactor wsX7_letterAt := goodIn_r _ [13, 14, 15, 16, 17, 18, 19, 20, 21, 22, 23, 24, 25, 26, 27, 28, 29, 30, 31, 32, 33, 34, 35, 36, 37] (by decide +kernel) (by decide +kernel)
set_option maxRecDepth 20000 in
theorem gX7_isTriedFactor_X7_letterAt : GoodIn wsX7_isTriedFactor (wsV RX7 127 RX7 yX7_letterAt wsX7_letterAt) := goodIn_app (goodIn_of _ (by decide +kernel)) ggX7_isTriedFactor_X7_letterAt
theorem dX7_isTriedFactor_0 : decode cX7_isTriedFactor 0 = .ok (.iconst 0, 1) := by decide +kernel
theorem dX7_isTriedFactor_1 : decode cX7_isTriedFactor 1 = .ok (.istore_n 2, 1) := by decide +kernel
theorem dX7_isTriedFactor_2 : decode cX7_isTriedFactor 2 = .ok (.iload_n 2, 1) := by decide +kernel
theorem dX7_isTriedFactor_3 : decode cX7_isTriedFactor 3 = .ok (.aload_n 0, 1) := by decide +kernel
theorem dX7_isTriedFactor_4 : decode cX7_isTriedFactor 4 = .ok (.getfield 37, 3) := by decide +kernel
theorem dX7_isTriedFactor_7 : decode cX7_isTriedFactor 7 = .ok (.iconst 0, 1) := by decide +kernel
theorem dX7_isTriedFactor_8 : decode cX7_isTriedFactor 8 = .ok (.iaload, 1) := by decide +kernel
theorem dX7_isTriedFactor_9 : decode cX7_isTriedFactor 9 = .ok (.if_icmp .ge 74, 3) := by decide +kernel
theorem dX7_isTriedFactor_12 : decode cX7_isTriedFactor 12 = .ok (.aload_n 0, 1) := by decide +kernel
theorem dX7_isTriedFactor_13 : decode cX7_isTriedFactor 13 = .ok (.iconst 0, 1) := by decide +kernel
theorem dX7_isTriedFactor_14 : decode cX7_isTriedFactor 14 = .ok (.iload_n 2, 1) := by decide +kernel
theorem dX7_isTriedFactor_15 : decode cX7_isTriedFactor 15 = .ok (.invokevirtual 78, 3) := by decide +kernel
theorem dX7_isTriedFactor_18 : decode cX7_isTriedFactor 18 = .ok (.iload_n 1, 1) := by decide +kernel
theorem dX7_isTriedFactor_19 : decode cX7_isTriedFactor 19 = .ok (.if_icmp .lt 7, 3) := by decide +kernel
theorem dX7_isTriedFactor_22 : decode cX7_isTriedFactor 22 = .ok (.iconst 1, 1) := by decide +kernel
theorem dX7_isTriedFactor_23 : decode cX7_isTriedFactor 23 = .ok (.goto 4, 3) := by decide +kernel
theorem dX7_isTriedFactor_26 : decode cX7_isTriedFactor 26 = .ok (.iconst 0, 1) := by decide +kernel
theorem dX7_isTriedFactor_27 : decode cX7_isTriedFactor 27 = .ok (.istore_n 3, 1) := by decide +kernel
theorem dX7_isTriedFactor_28 : decode cX7_isTriedFactor 28 = .ok (.iconst 0, 1) := by decide +kernel
theorem dX7_isTriedFactor_29 : decode cX7_isTriedFactor 29 = .ok (.istore 4, 2) := by decide +kernel
theorem dX7_isTriedFactor_31 : decode cX7_isTriedFactor 31 = .ok (.iload 4, 2) := by decide +kernel
theorem dX7_isTriedFactor_33 : decode cX7_isTriedFactor 33 = .ok (.iload_n 1, 1) := by decide +kernel
theorem dX7_isTriedFactor_34 : decode cX7_isTriedFactor 34 = .ok (.if_icmp .ge 37, 3) := by decide +kernel
theorem dX7_isTriedFactor_37 : decode cX7_isTriedFactor 37 = .ok (.iload_n 3, 1) := by decide +kernel
theorem dX7_isTriedFactor_38 : decode cX7_isTriedFactor 38 = .ok (.ifCond .eq 33, 3) := by decide +kernel
theorem dX7_isTriedFactor_41 : decode cX7_isTriedFactor 41 = .ok (.aload_n 0, 1) := by decide +kernel
theorem dX7_isTriedFactor_42 : decode cX7_isTriedFactor 42 = .ok (.iload_n 2, 1) := by decide +kernel
theorem dX7_isTriedFactor_43 : decode cX7_isTriedFactor 43 = .ok (.iload 4, 2) := by decide +kernel
theorem dX7_isTriedFactor_45 : decode cX7_isTriedFactor 45 = .ok (.iadd, 1) := by decide +kernel
theorem dX7_isTriedFactor_46 : decode cX7_isTriedFactor 46 = .ok (.invokevirtual 127, 3) := by decide +kernel
theorem dX7_isTriedFactor_49 : decode cX7_isTriedFactor 49 = .ok (.aload_n 0, 1) := by decide +kernel
theorem dX7_isTriedFactor_50 : decode cX7_isTriedFactor 50 = .ok (.getfield 64, 3) := by decide +kernel
theorem dX7_isTriedFactor_53 : decode cX7_isTriedFactor 53 = .ok (.iload 4, 2) := by decide +kernel
theorem dX7_isTriedFactor_55 : decode cX7_isTriedFactor 55 = .ok (.iaload, 1) := by decide +kernel
theorem dX7_isTriedFactor_56 : decode cX7_isTriedFactor 56 = .ok (.if_icmp .ne 7, 3) := by decide +kernel
theorem dX7_isTriedFactor_59 : decode cX7_isTriedFactor 59 = .ok (.iconst 1, 1) := by decide +kernel
theorem dX7_isTriedFactor_60 : decode cX7_isTriedFactor 60 = .ok (.goto 4, 3) := by decide +kernel
theorem dX7_isTriedFactor_63 : decode cX7_isTriedFactor 63 = .ok (.iconst 0, 1) := by decide +kernel
theorem dX7_isTriedFactor_64 : decode cX7_isTriedFactor 64 = .ok (.istore_n 3, 1) := by decide +kernel
theorem dX7_isTriedFactor_65 : decode cX7_isTriedFactor 65 = .ok (.iinc 4 1, 3) := by decide +kernel
theorem dX7_isTriedFactor_68 : decode cX7_isTriedFactor 68 = .ok (.goto (-37), 3) := by decide +kernel
theorem dX7_isTriedFactor_71 : decode cX7_isTriedFactor 71 = .ok (.iload_n 3, 1) := by decide +kernel
theorem dX7_isTriedFactor_72 : decode cX7_isTriedFactor 72 = .ok (.ifCond .eq 5, 3) := by decide +kernel
theorem dX7_isTriedFactor_75 : decode cX7_isTriedFactor 75 = .ok (.iconst 1, 1) := by decide +kernel
theorem dX7_isTriedFactor_76 : decode cX7_isTriedFactor 76 = .ok (.ireturn, 1) := by decide +kernel
theorem dX7_isTriedFactor_77 : decode cX7_isTriedFactor 77 = .ok (.iinc 2 1, 3) := by decide +kernel
theorem dX7_isTriedFactor_80 : decode cX7_isTriedFactor 80 = .ok (.goto (-78), 3) := by decide +kernel
theorem dX7_isTriedFactor_83 : decode cX7_isTriedFactor 83 = .ok (.iconst 0, 1) := by decide +kernel
theorem dX7_isTriedFactor_84 : decode cX7_isTriedFactor 84 = .ok (.ireturn, 1) := by decide +kernel
theorem dX7_nextTried_0 : decode cX7_nextTried 0 = .ok (.iload_n 1, 1) := by decide +kernel
theorem dX7_nextTried_1 : decode cX7_nextTried 1 = .ok (.iconst 1, 1) := by decide +kernel
theorem dX7_nextTried_2 : decode cX7_nextTried 2 = .ok (.isub, 1) := by decide +kernel
theorem dX7_nextTried_3 : decode cX7_nextTried 3 = .ok (.istore_n 3, 1) := by decide +kernel
theorem dX7_nextTried_4 : decode cX7_nextTried 4 = .ok (.iload_n 3, 1) := by decide +kernel
theorem dX7_nextTried_5 : decode cX7_nextTried 5 = .ok (.ifCond .lt 28, 3) := by decide +kernel
theorem dX7_nextTried_8 : decode cX7_nextTried 8 = .ok (.aload_n 0, 1) := by decide +kernel
theorem dX7_nextTried_9 : decode cX7_nextTried 9 = .ok (.getfield 64, 3) := by decide +kernel
theorem dX7_nextTried_12 : decode cX7_nextTried 12 = .ok (.iload_n 3, 1) := by decide +kernel
theorem dX7_nextTried_13 : decode cX7_nextTried 13 = .ok (.iaload, 1) := by decide +kernel
theorem dX7_nextTried_14 : decode cX7_nextTried 14 = .ok (.iload_n 2, 1) := by decide +kernel
theorem dX7_nextTried_15 : decode cX7_nextTried 15 = .ok (.iconst 1, 1) := by decide +kernel
theorem dX7_nextTried_16 : decode cX7_nextTried 16 = .ok (.isub, 1) := by decide +kernel
theorem dX7_nextTried_17 : decode cX7_nextTried 17 = .ok (.if_icmp .ne 16, 3) := by decide +kernel
theorem dX7_nextTried_20 : decode cX7_nextTried 20 = .ok (.aload_n 0, 1) := by decide +kernel
theorem dX7_nextTried_21 : decode cX7_nextTried 21 = .ok (.getfield 64, 3) := by decide +kernel
theorem dX7_nextTried_24 : decode cX7_nextTried 24 = .ok (.iload_n 3, 1) := by decide +kernel
theorem dX7_nextTried_25 : decode cX7_nextTried 25 = .ok (.iconst 0, 1) := by decide +kernel
theorem dX7_nextTried_26 : decode cX7_nextTried 26 = .ok (.iastore, 1) := by decide +kernel
theorem dX7_nextTried_27 : decode cX7_nextTried 27 = .ok (.iinc 3 (-1), 3) := by decide +kernel
theorem dX7_nextTried_30 : decode cX7_nextTried 30 = .ok (.goto (-26), 3) := by decide +kernel
theorem dX7_nextTried_33 : decode cX7_nextTried 33 = .ok (.iload_n 3, 1) := by decide +kernel
theorem dX7_nextTried_34 : decode cX7_nextTried 34 = .ok (.ifCond .ge 5, 3) := by decide +kernel
theorem dX7_nextTried_37 : decode cX7_nextTried 37 = .ok (.iconst 0, 1) := by decide +kernel
theorem dX7_nextTried_38 : decode cX7_nextTried 38 = .ok (.ireturn, 1) := by decide +kernel
theorem dX7_nextTried_39 : decode cX7_nextTried 39 = .ok (.aload_n 0, 1) := by decide +kernel
theorem dX7_nextTried_40 : decode cX7_nextTried 40 = .ok (.getfield 64, 3) := by decide +kernel
theorem dX7_nextTried_43 : decode cX7_nextTried 43 = .ok (.iload_n 3, 1) := by decide +kernel
theorem dX7_nextTried_44 : decode cX7_nextTried 44 = .ok (.dup2, 1) := by decide +kernel
theorem dX7_nextTried_45 : decode cX7_nextTried 45 = .ok (.iaload, 1) := by decide +kernel
theorem dX7_nextTried_46 : decode cX7_nextTried 46 = .ok (.iconst 1, 1) := by decide +kernel
theorem dX7_nextTried_47 : decode cX7_nextTried 47 = .ok (.iadd, 1) := by decide +kernel
theorem dX7_nextTried_48 : decode cX7_nextTried 48 = .ok (.iastore, 1) := by decide +kernel
theorem dX7_nextTried_49 : decode cX7_nextTried 49 = .ok (.iconst 1, 1) := by decide +kernel
theorem dX7_nextTried_50 : decode cX7_nextTried 50 = .ok (.ireturn, 1) := by decide +kernel
set_option maxRecDepth 20000 in
theorem ggX7_absent_X7_in : GoodIn wsX7_absent wsX7_in := goodIn_r _ [7] (by decide +kernel) (by decide +kernel)
set_option maxRecDepth 20000 in
theorem gX7_absent_X7_in : GoodIn wsX7_absent (va_wsS RX7 97 yX7_in wsX7_in) := goodIn_app (goodIn_of _ (by decide +kernel)) ggX7_absent_X7_in
set_option maxRecDepth 20000 in
theorem ggX7_absent_X7_layPresent : GoodIn wsX7_absent wsX7_layPresent := goodIn_r _ [11, 12, 13, 14, 15, 6, 16, 17, 18, 19, 20, 21, 22, 23, 24, 25, 42, 43, 44, 45, 46, 47, 48, 49, 50, 51, 52, 53, 54, 55, 56, 57, 58, 59, 60, 61, 62, 63, 64] (by decide +kernel) (by decide +kernel)
set_option maxRecDepth 20000 in
theorem gX7_absent_X7_layPresent : GoodIn wsX7_absent (wsV RX7 124 RX7 yX7_layPresent wsX7_layPresent) := goodIn_app (goodIn_of _ (by decide +kernel)) ggX7_absent_X7_layPresent
set_option maxRecDepth 20000 in
theorem ggX7_absent_X7_isTriedFactor : GoodIn wsX7_absent wsX7_isTriedFactor := goodIn_r _ [29, 20, 1, 30, 31, 32, 6, 33, 23, 25, 34, 35, 36, 37, 24, 42, 43, 44, 45, 46, 47, 48, 49, 50, 51, 52, 53, 54, 55, 56, 57, 58, 59, 60, 61, 62, 63, 64] (by decide +kernel) (by decide +kernel)
set_option maxRecDepth 20000 in
theorem gX7_absent_X7_isTriedFactor : GoodIn wsX7_absent (wsV RX7 197 RX7 yX7_isTriedFactor wsX7_isTriedFactor) := goodIn_app (goodIn_of _ (by decide +kernel)) ggX7_absent_X7_isTriedFactor
set_option maxRecDepth 20000 in
theorem ggX7_absent_X7_nextTried : GoodIn wsX7_absent wsX7_nextTried := goodIn_r _ [41, 1, 42, 43, 44, 45, 46, 47, 48, 49, 50, 51, 52, 53, 54, 55, 56, 57, 58, 59, 60, 61, 62, 63, 64] (by decide +kernel) (by decide +kernel)
set_option maxRecDepth 20000 in
theorem gX7_absent_X7_nextTried : GoodIn wsX7_absent (wsV RX7 200 RX7 yX7_nextTried wsX7_nextTried) := goodIn_app (goodIn_of _ (by decide +kernel)) ggX7_absent_X7_nextTried
theorem dX7_absent_0 : decode cX7_absent 0 = .ok (.iload_n 1, 1) := by decide +kernel
theorem dX7_absent_1 : decode cX7_absent 1 = .ok (.iconst 1, 1) := by decide +kernel
theorem dX7_absent_2 : decode cX7_absent 2 = .ok (.bipush 8, 2) := by decide +kernel
theorem dX7_absent_4 : decode cX7_absent 4 = .ok (.invokestatic 97, 3) := by decide +kernel
theorem dX7_absent_7 : decode cX7_absent 7 = .ok (.ifCond .ne 6, 3) := by decide +kernel
theorem dX7_absent_10 : decode cX7_absent 10 = .ok (.bipush (-2), 2) := by decide +kernel
theorem dX7_absent_12 : decode cX7_absent 12 = .ok (.ireturn, 1) := by decide +kernel
theorem dX7_absent_13 : decode cX7_absent 13 = .ok (.aload_n 0, 1) := by decide +kernel
theorem dX7_absent_14 : decode cX7_absent 14 = .ok (.invokevirtual 124, 3) := by decide +kernel
theorem dX7_absent_17 : decode cX7_absent 17 = .ok (.iconst 1, 1) := by decide +kernel
theorem dX7_absent_18 : decode cX7_absent 18 = .ok (.istore_n 2, 1) := by decide +kernel
theorem dX7_absent_19 : decode cX7_absent 19 = .ok (.iload_n 2, 1) := by decide +kernel
theorem dX7_absent_20 : decode cX7_absent 20 = .ok (.bipush 60, 2) := by decide +kernel
theorem dX7_absent_22 : decode cX7_absent 22 = .ok (.if_icmp .gt 92, 3) := by decide +kernel
theorem dX7_absent_25 : decode cX7_absent 25 = .ok (.iconst 0, 1) := by decide +kernel
theorem dX7_absent_26 : decode cX7_absent 26 = .ok (.istore_n 3, 1) := by decide +kernel
theorem dX7_absent_27 : decode cX7_absent 27 = .ok (.iload_n 3, 1) := by decide +kernel
theorem dX7_absent_28 : decode cX7_absent 28 = .ok (.iload_n 2, 1) := by decide +kernel
theorem dX7_absent_29 : decode cX7_absent 29 = .ok (.if_icmp .ge 16, 3) := by decide +kernel
theorem dX7_absent_32 : decode cX7_absent 32 = .ok (.aload_n 0, 1) := by decide +kernel
theorem dX7_absent_33 : decode cX7_absent 33 = .ok (.getfield 64, 3) := by decide +kernel
theorem dX7_absent_36 : decode cX7_absent 36 = .ok (.iload_n 3, 1) := by decide +kernel
theorem dX7_absent_37 : decode cX7_absent 37 = .ok (.iconst 0, 1) := by decide +kernel
theorem dX7_absent_38 : decode cX7_absent 38 = .ok (.iastore, 1) := by decide +kernel
theorem dX7_absent_39 : decode cX7_absent 39 = .ok (.iinc 3 1, 3) := by decide +kernel
theorem dX7_absent_42 : decode cX7_absent 42 = .ok (.goto (-15), 3) := by decide +kernel
theorem dX7_absent_45 : decode cX7_absent 45 = .ok (.iconst 1, 1) := by decide +kernel
theorem dX7_absent_46 : decode cX7_absent 46 = .ok (.istore_n 3, 1) := by decide +kernel
theorem dX7_absent_47 : decode cX7_absent 47 = .ok (.iload_n 3, 1) := by decide +kernel
theorem dX7_absent_48 : decode cX7_absent 48 = .ok (.ifCond .eq 60, 3) := by decide +kernel
theorem dX7_absent_51 : decode cX7_absent 51 = .ok (.aload_n 0, 1) := by decide +kernel
theorem dX7_absent_52 : decode cX7_absent 52 = .ok (.iload_n 2, 1) := by decide +kernel
theorem dX7_absent_53 : decode cX7_absent 53 = .ok (.invokevirtual 197, 3) := by decide +kernel
theorem dX7_absent_56 : decode cX7_absent 56 = .ok (.ifCond .ne 42, 3) := by decide +kernel
theorem dX7_absent_59 : decode cX7_absent 59 = .ok (.iconst 0, 1) := by decide +kernel
theorem dX7_absent_60 : decode cX7_absent 60 = .ok (.istore 4, 2) := by decide +kernel
theorem dX7_absent_62 : decode cX7_absent 62 = .ok (.iload 4, 2) := by decide +kernel
theorem dX7_absent_64 : decode cX7_absent 64 = .ok (.iload_n 2, 1) := by decide +kernel
theorem dX7_absent_65 : decode cX7_absent 65 = .ok (.if_icmp .ge 26, 3) := by decide +kernel
theorem dX7_absent_68 : decode cX7_absent 68 = .ok (.aload_n 0, 1) := by decide +kernel
theorem dX7_absent_69 : decode cX7_absent 69 = .ok (.getfield 22, 3) := by decide +kernel
theorem dX7_absent_72 : decode cX7_absent 72 = .ok (.iload 4, 2) := by decide +kernel
theorem dX7_absent_74 : decode cX7_absent 74 = .ok (.bipush 97, 2) := by decide +kernel
theorem dX7_absent_76 : decode cX7_absent 76 = .ok (.aload_n 0, 1) := by decide +kernel
theorem dX7_absent_77 : decode cX7_absent 77 = .ok (.getfield 64, 3) := by decide +kernel
theorem dX7_absent_80 : decode cX7_absent 80 = .ok (.iload 4, 2) := by decide +kernel
theorem dX7_absent_82 : decode cX7_absent 82 = .ok (.iaload, 1) := by decide +kernel
theorem dX7_absent_83 : decode cX7_absent 83 = .ok (.iadd, 1) := by decide +kernel
theorem dX7_absent_84 : decode cX7_absent 84 = .ok (.iastore, 1) := by decide +kernel
theorem dX7_absent_85 : decode cX7_absent 85 = .ok (.iinc 4 1, 3) := by decide +kernel
theorem dX7_absent_88 : decode cX7_absent 88 = .ok (.goto (-26), 3) := by decide +kernel
theorem dX7_absent_91 : decode cX7_absent 91 = .ok (.aload_n 0, 1) := by decide +kernel
theorem dX7_absent_92 : decode cX7_absent 92 = .ok (.iload_n 2, 1) := by decide +kernel
theorem dX7_absent_93 : decode cX7_absent 93 = .ok (.putfield 104, 3) := by decide +kernel
theorem dX7_absent_96 : decode cX7_absent 96 = .ok (.iload_n 2, 1) := by decide +kernel
theorem dX7_absent_97 : decode cX7_absent 97 = .ok (.ireturn, 1) := by decide +kernel
theorem dX7_absent_98 : decode cX7_absent 98 = .ok (.aload_n 0, 1) := by decide +kernel
theorem dX7_absent_99 : decode cX7_absent 99 = .ok (.iload_n 2, 1) := by decide +kernel
theorem dX7_absent_100 : decode cX7_absent 100 = .ok (.iload_n 1, 1) := by decide +kernel
theorem dX7_absent_101 : decode cX7_absent 101 = .ok (.invokevirtual 200, 3) := by decide +kernel
theorem dX7_absent_104 : decode cX7_absent 104 = .ok (.istore_n 3, 1) := by decide +kernel
theorem dX7_absent_105 : decode cX7_absent 105 = .ok (.goto (-58), 3) := by decide +kernel
theorem dX7_absent_108 : decode cX7_absent 108 = .ok (.iinc 2 1, 3) := by decide +kernel
theorem dX7_absent_111 : decode cX7_absent 111 = .ok (.goto (-92), 3) := by decide +kernel
theorem dX7_absent_114 : decode cX7_absent 114 = .ok (.bipush (-4), 2) := by decide +kernel
theorem dX7_absent_116 : decode cX7_absent 116 = .ok (.ireturn, 1) := by decide +kernel
set_option maxRecDepth 20000 in
theorem ggX7_lettersOfAll_X7_letterAt : GoodIn wsX7_lettersOfAll wsX7_letterAt := goodIn_r _ [6, 7, 8, 9, 10, 11, 12, 13, 14, 15, 16, 17, 18, 19, 20, 21, 22, 23, 24, 25, 26, 27, 28, 29, 30] (by decide +kernel) (by decide +kernel)
set_option maxRecDepth 20000 in
theorem gX7_lettersOfAll_X7_letterAt : GoodIn wsX7_lettersOfAll (wsV RX7 127 RX7 yX7_letterAt wsX7_letterAt) := goodIn_app (goodIn_of _ (by decide +kernel)) ggX7_lettersOfAll_X7_letterAt
theorem dX7_lettersOfAll_0 : decode cX7_lettersOfAll 0 = .ok (.iconst 0, 1) := by decide +kernel
theorem dX7_lettersOfAll_1 : decode cX7_lettersOfAll 1 = .ok (.istore_n 1, 1) := by decide +kernel
theorem dX7_lettersOfAll_2 : decode cX7_lettersOfAll 2 = .ok (.iconst 0, 1) := by decide +kernel
theorem dX7_lettersOfAll_3 : decode cX7_lettersOfAll 3 = .ok (.istore_n 2, 1) := by decide +kernel
theorem dX7_lettersOfAll_4 : decode cX7_lettersOfAll 4 = .ok (.iload_n 2, 1) := by decide +kernel
theorem dX7_lettersOfAll_5 : decode cX7_lettersOfAll 5 = .ok (.aload_n 0, 1) := by decide +kernel
theorem dX7_lettersOfAll_6 : decode cX7_lettersOfAll 6 = .ok (.getfield 37, 3) := by decide +kernel
theorem dX7_lettersOfAll_9 : decode cX7_lettersOfAll 9 = .ok (.iconst 0, 1) := by decide +kernel
theorem dX7_lettersOfAll_10 : decode cX7_lettersOfAll 10 = .ok (.iaload, 1) := by decide +kernel
theorem dX7_lettersOfAll_11 : decode cX7_lettersOfAll 11 = .ok (.if_icmp .ge 19, 3) := by decide +kernel
theorem dX7_lettersOfAll_14 : decode cX7_lettersOfAll 14 = .ok (.iload_n 1, 1) := by decide +kernel
theorem dX7_lettersOfAll_15 : decode cX7_lettersOfAll 15 = .ok (.iconst 1, 1) := by decide +kernel
theorem dX7_lettersOfAll_16 : decode cX7_lettersOfAll 16 = .ok (.aload_n 0, 1) := by decide +kernel
theorem dX7_lettersOfAll_17 : decode cX7_lettersOfAll 17 = .ok (.iload_n 2, 1) := by decide +kernel
theorem dX7_lettersOfAll_18 : decode cX7_lettersOfAll 18 = .ok (.invokevirtual 127, 3) := by decide +kernel
theorem dX7_lettersOfAll_21 : decode cX7_lettersOfAll 21 = .ok (.ishl, 1) := by decide +kernel
theorem dX7_lettersOfAll_22 : decode cX7_lettersOfAll 22 = .ok (.ior, 1) := by decide +kernel
theorem dX7_lettersOfAll_23 : decode cX7_lettersOfAll 23 = .ok (.istore_n 1, 1) := by decide +kernel
theorem dX7_lettersOfAll_24 : decode cX7_lettersOfAll 24 = .ok (.iinc 2 1, 3) := by decide +kernel
theorem dX7_lettersOfAll_27 : decode cX7_lettersOfAll 27 = .ok (.goto (-23), 3) := by decide +kernel
theorem dX7_lettersOfAll_30 : decode cX7_lettersOfAll 30 = .ok (.iload_n 1, 1) := by decide +kernel
theorem dX7_lettersOfAll_31 : decode cX7_lettersOfAll 31 = .ok (.ireturn, 1) := by decide +kernel
set_option maxRecDepth 20000 in
theorem ggX7_minimal_X7_layPresent : GoodIn wsX7_minimal wsX7_layPresent := goodIn_r _ [8, 9, 10, 11, 12, 7, 13, 14, 15, 16, 1, 17, 18, 19, 20, 21, 57, 58, 59, 60, 61, 62, 63, 64, 65, 66, 67, 68, 69, 70, 71, 72, 73, 74, 75, 76, 77, 78, 79] (by decide +kernel) (by decide +kernel)
set_option maxRecDepth 20000 in
theorem gX7_minimal_X7_layPresent : GoodIn wsX7_minimal (wsV RX7 124 RX7 yX7_layPresent wsX7_layPresent) := goodIn_app (goodIn_of _ (by decide +kernel)) ggX7_minimal_X7_layPresent
set_option maxRecDepth 20000 in
theorem ggX7_minimal_X7_sort : GoodIn wsX7_minimal wsX7_sort := goodIn_r _ [25, 1, 3, 2, 26, 27, 28, 7, 29, 20, 30, 31, 32, 33, 34, 35, 36, 37, 19, 21, 57, 58, 59, 60, 61, 62, 63, 64, 65, 66, 67, 68, 69, 70, 71, 72, 73, 74, 75, 76, 77, 78, 79] (by decide +kernel) (by decide +kernel)
set_option maxRecDepth 20000 in
theorem gX7_minimal_X7_sort : GoodIn wsX7_minimal (wsV RX7 117 RX7 yX7_sort wsX7_sort) := goodIn_app (goodIn_of _ (by decide +kernel)) ggX7_minimal_X7_sort
set_option maxRecDepth 20000 in
theorem ggX7_minimal_X7_rest : GoodIn wsX7_minimal wsX7_rest := goodIn_r _ [37, 19, 21, 57, 58, 59, 60, 61, 62, 63, 64, 65, 66, 67, 68, 69, 70, 71, 72, 73, 74, 75, 76, 77, 78, 79] (by decide +kernel) (by decide +kernel)
set_option maxRecDepth 20000 in
theorem gX7_minimal_X7_rest : GoodIn wsX7_minimal (wsV RX7 78 RX7 yX7_rest wsX7_rest) := goodIn_app (goodIn_of _ (by decide +kernel)) ggX7_minimal_X7_rest
set_option maxRecDepth 20000 in
theorem ggX7_minimal_X7_lettersOfAll : GoodIn wsX7_minimal wsX7_lettersOfAll := goodIn_r _ [41, 1, 42, 43, 44, 7, 45, 20, 57, 58, 59, 60, 61, 62, 63, 64, 65, 66, 67, 68, 69, 70, 71, 72, 73, 74, 75, 76, 77, 78, 79] (by decide +kernel) (by decide +kernel)
set_option maxRecDepth 20000 in
theorem gX7_minimal_X7_lettersOfAll : GoodIn wsX7_minimal (wsV RX7 203 RX7 yX7_lettersOfAll wsX7_lettersOfAll) := goodIn_app (goodIn_of _ (by decide +kernel)) ggX7_minimal_X7_lettersOfAll
set_option maxRecDepth 20000 in
theorem ggX7_minimal_X7_nextOf : GoodIn wsX7_minimal wsX7_nextOf := goodIn_r _ [49, 1, 50, 51, 52, 7, 53, 30, 31, 32, 33, 20, 34, 35, 36, 37, 19, 21, 42, 43, 44, 45, 57, 58, 59, 60, 61, 62, 63, 64, 65, 66, 67, 68, 69, 70, 71, 72, 73, 74, 75, 76, 77, 78, 79] (by decide +kernel) (by decide +kernel)
set_option maxRecDepth 20000 in
theorem gX7_minimal_X7_nextOf : GoodIn wsX7_minimal (wsV RX7 182 RX7 yX7_nextOf wsX7_nextOf) := goodIn_app (goodIn_of _ (by decide +kernel)) ggX7_minimal_X7_nextOf
set_option maxRecDepth 20000 in
theorem ggX7_minimal_X7_sizeOf : GoodIn wsX7_minimal wsX7_sizeOf := goodIn_r _ [56] (by decide +kernel) (by decide +kernel)
set_option maxRecDepth 20000 in
theorem gX7_minimal_X7_sizeOf : GoodIn wsX7_minimal (va_wsS RX7 194 yX7_sizeOf wsX7_sizeOf) := goodIn_app (goodIn_of _ (by decide +kernel)) ggX7_minimal_X7_sizeOf
theorem dX7_minimal_0 : decode cX7_minimal 0 = .ok (.aload_n 0, 1) := by decide +kernel
theorem dX7_minimal_1 : decode cX7_minimal 1 = .ok (.invokevirtual 124, 3) := by decide +kernel
theorem dX7_minimal_4 : decode cX7_minimal 4 = .ok (.aload_n 0, 1) := by decide +kernel
theorem dX7_minimal_5 : decode cX7_minimal 5 = .ok (.invokevirtual 117, 3) := by decide +kernel
theorem dX7_minimal_8 : decode cX7_minimal 8 = .ok (.iconst 0, 1) := by decide +kernel
theorem dX7_minimal_9 : decode cX7_minimal 9 = .ok (.istore_n 1, 1) := by decide +kernel
theorem dX7_minimal_10 : decode cX7_minimal 10 = .ok (.iconst 0, 1) := by decide +kernel
theorem dX7_minimal_11 : decode cX7_minimal 11 = .ok (.istore_n 2, 1) := by decide +kernel
theorem dX7_minimal_12 : decode cX7_minimal 12 = .ok (.iload_n 2, 1) := by decide +kernel
theorem dX7_minimal_13 : decode cX7_minimal 13 = .ok (.aload_n 0, 1) := by decide +kernel
theorem dX7_minimal_14 : decode cX7_minimal 14 = .ok (.getfield 37, 3) := by decide +kernel
theorem dX7_minimal_17 : decode cX7_minimal 17 = .ok (.iconst 0, 1) := by decide +kernel
theorem dX7_minimal_18 : decode cX7_minimal 18 = .ok (.iaload, 1) := by decide +kernel
theorem dX7_minimal_19 : decode cX7_minimal 19 = .ok (.if_icmp .ge 90, 3) := by decide +kernel
theorem dX7_minimal_22 : decode cX7_minimal 22 = .ok (.aload_n 0, 1) := by decide +kernel
theorem dX7_minimal_23 : decode cX7_minimal 23 = .ok (.getfield 49, 3) := by decide +kernel
theorem dX7_minimal_26 : decode cX7_minimal 26 = .ok (.iload_n 2, 1) := by decide +kernel
theorem dX7_minimal_27 : decode cX7_minimal 27 = .ok (.iaload, 1) := by decide +kernel
theorem dX7_minimal_28 : decode cX7_minimal 28 = .ok (.iconst 1, 1) := by decide +kernel
theorem dX7_minimal_29 : decode cX7_minimal 29 = .ok (.iadd, 1) := by decide +kernel
theorem dX7_minimal_30 : decode cX7_minimal 30 = .ok (.istore_n 3, 1) := by decide +kernel
theorem dX7_minimal_31 : decode cX7_minimal 31 = .ok (.iload_n 3, 1) := by decide +kernel
theorem dX7_minimal_32 : decode cX7_minimal 32 = .ok (.aload_n 0, 1) := by decide +kernel
theorem dX7_minimal_33 : decode cX7_minimal 33 = .ok (.iconst 0, 1) := by decide +kernel
theorem dX7_minimal_34 : decode cX7_minimal 34 = .ok (.aload_n 0, 1) := by decide +kernel
theorem dX7_minimal_35 : decode cX7_minimal 35 = .ok (.getfield 46, 3) := by decide +kernel
theorem dX7_minimal_38 : decode cX7_minimal 38 = .ok (.iload_n 2, 1) := by decide +kernel
theorem dX7_minimal_39 : decode cX7_minimal 39 = .ok (.iaload, 1) := by decide +kernel
theorem dX7_minimal_40 : decode cX7_minimal 40 = .ok (.invokevirtual 78, 3) := by decide +kernel
theorem dX7_minimal_43 : decode cX7_minimal 43 = .ok (.if_icmp .gt 60, 3) := by decide +kernel
theorem dX7_minimal_46 : decode cX7_minimal 46 = .ok (.iload_n 3, 1) := by decide +kernel
theorem dX7_minimal_47 : decode cX7_minimal 47 = .ok (.iconst 1, 1) := by decide +kernel
theorem dX7_minimal_48 : decode cX7_minimal 48 = .ok (.if_icmp .ne 10, 3) := by decide +kernel
theorem dX7_minimal_51 : decode cX7_minimal 51 = .ok (.aload_n 0, 1) := by decide +kernel
theorem dX7_minimal_52 : decode cX7_minimal 52 = .ok (.invokevirtual 203, 3) := by decide +kernel
theorem dX7_minimal_55 : decode cX7_minimal 55 = .ok (.goto 18, 3) := by decide +kernel
theorem dX7_minimal_58 : decode cX7_minimal 58 = .ok (.aload_n 0, 1) := by decide +kernel
theorem dX7_minimal_59 : decode cX7_minimal 59 = .ok (.aload_n 0, 1) := by decide +kernel
theorem dX7_minimal_60 : decode cX7_minimal 60 = .ok (.getfield 46, 3) := by decide +kernel
theorem dX7_minimal_63 : decode cX7_minimal 63 = .ok (.iload_n 2, 1) := by decide +kernel
theorem dX7_minimal_64 : decode cX7_minimal 64 = .ok (.iaload, 1) := by decide +kernel
theorem dX7_minimal_65 : decode cX7_minimal 65 = .ok (.iconst 1, 1) := by decide +kernel
theorem dX7_minimal_66 : decode cX7_minimal 66 = .ok (.iadd, 1) := by decide +kernel
theorem dX7_minimal_67 : decode cX7_minimal 67 = .ok (.iload_n 3, 1) := by decide +kernel
theorem dX7_minimal_68 : decode cX7_minimal 68 = .ok (.iconst 1, 1) := by decide +kernel
theorem dX7_minimal_69 : decode cX7_minimal 69 = .ok (.isub, 1) := by decide +kernel
theorem dX7_minimal_70 : decode cX7_minimal 70 = .ok (.invokevirtual 182, 3) := by decide +kernel
theorem dX7_minimal_73 : decode cX7_minimal 73 = .ok (.istore 4, 2) := by decide +kernel
theorem dX7_minimal_75 : decode cX7_minimal 75 = .ok (.iload_n 1, 1) := by decide +kernel
theorem dX7_minimal_76 : decode cX7_minimal 76 = .ok (.iload 4, 2) := by decide +kernel
theorem dX7_minimal_78 : decode cX7_minimal 78 = .ok (.aload_n 0, 1) := by decide +kernel
theorem dX7_minimal_79 : decode cX7_minimal 79 = .ok (.aload_n 0, 1) := by decide +kernel
theorem dX7_minimal_80 : decode cX7_minimal 80 = .ok (.getfield 46, 3) := by decide +kernel
theorem dX7_minimal_83 : decode cX7_minimal 83 = .ok (.iload_n 2, 1) := by decide +kernel
theorem dX7_minimal_84 : decode cX7_minimal 84 = .ok (.iaload, 1) := by decide +kernel
theorem dX7_minimal_85 : decode cX7_minimal 85 = .ok (.iload_n 3, 1) := by decide +kernel
theorem dX7_minimal_86 : decode cX7_minimal 86 = .ok (.invokevirtual 182, 3) := by decide +kernel
theorem dX7_minimal_89 : decode cX7_minimal 89 = .ok (.iconst (-1), 1) := by decide +kernel
theorem dX7_minimal_90 : decode cX7_minimal 90 = .ok (.ixor, 1) := by decide +kernel
theorem dX7_minimal_91 : decode cX7_minimal 91 = .ok (.iand, 1) := by decide +kernel
theorem dX7_minimal_92 : decode cX7_minimal 92 = .ok (.invokestatic 194, 3) := by decide +kernel
theorem dX7_minimal_95 : decode cX7_minimal 95 = .ok (.iadd, 1) := by decide +kernel
theorem dX7_minimal_96 : decode cX7_minimal 96 = .ok (.istore_n 1, 1) := by decide +kernel
theorem dX7_minimal_97 : decode cX7_minimal 97 = .ok (.iinc 3 1, 3) := by decide +kernel
theorem dX7_minimal_100 : decode cX7_minimal 100 = .ok (.goto (-69), 3) := by decide +kernel
theorem dX7_minimal_103 : decode cX7_minimal 103 = .ok (.iinc 2 1, 3) := by decide +kernel
theorem dX7_minimal_106 : decode cX7_minimal 106 = .ok (.goto (-94), 3) := by decide +kernel
theorem dX7_minimal_109 : decode cX7_minimal 109 = .ok (.iload_n 1, 1) := by decide +kernel
theorem dX7_minimal_110 : decode cX7_minimal 110 = .ok (.ireturn, 1) := by decide +kernel
set_option maxRecDepth 20000 in
theorem ggX7_allSteps_X7_lettersOfAll : GoodIn wsX7_allSteps wsX7_lettersOfAll := goodIn_r _ [7, 8, 9, 10, 11, 6, 12, 13, 40, 41, 42, 43, 44, 45, 46, 47, 48, 49, 50, 51, 52, 53, 54, 55, 56, 57, 58, 59, 60, 61, 62] (by decide +kernel) (by decide +kernel)
set_option maxRecDepth 20000 in
theorem gX7_allSteps_X7_lettersOfAll : GoodIn wsX7_allSteps (wsV RX7 203 RX7 yX7_lettersOfAll wsX7_lettersOfAll) := goodIn_app (goodIn_of _ (by decide +kernel)) ggX7_allSteps_X7_lettersOfAll
set_option maxRecDepth 20000 in
theorem ggX7_allSteps_X7_sizeOf : GoodIn wsX7_allSteps wsX7_sizeOf := goodIn_r _ [16] (by decide +kernel) (by decide +kernel)
set_option maxRecDepth 20000 in
theorem gX7_allSteps_X7_sizeOf : GoodIn wsX7_allSteps (va_wsS RX7 194 yX7_sizeOf wsX7_sizeOf) := goodIn_app (goodIn_of _ (by decide +kernel)) ggX7_allSteps_X7_sizeOf
set_option maxRecDepth 20000 in
theorem ggX7_allSteps_X7_firstOf : GoodIn wsX7_allSteps wsX7_firstOf := goodIn_r _ [20, 21, 2, 40, 41, 42, 43, 44, 45, 46, 47, 48, 49, 50, 51, 52, 53, 54, 55, 56, 57, 58, 59, 60, 61, 62] (by decide +kernel) (by decide +kernel)
set_option maxRecDepth 20000 in
theorem gX7_allSteps_X7_firstOf : GoodIn wsX7_allSteps (wsV RX7 173 RX7 yX7_firstOf wsX7_firstOf) := goodIn_app (goodIn_of _ (by decide +kernel)) ggX7_allSteps_X7_firstOf
set_option maxRecDepth 20000 in
theorem ggX7_allSteps_X7_nextOf : GoodIn wsX7_allSteps wsX7_nextOf := goodIn_r _ [25, 8, 26, 27, 28, 6, 29, 30, 31, 32, 33, 13, 34, 35, 36, 37, 38, 39, 9, 10, 11, 12, 40, 41, 42, 43, 44, 45, 46, 47, 48, 49, 50, 51, 52, 53, 54, 55, 56, 57, 58, 59, 60, 61, 62] (by decide +kernel) (by decide +kernel)
set_option maxRecDepth 20000 in
theorem gX7_allSteps_X7_nextOf : GoodIn wsX7_allSteps (wsV RX7 182 RX7 yX7_nextOf wsX7_nextOf) := goodIn_app (goodIn_of _ (by decide +kernel)) ggX7_allSteps_X7_nextOf
theorem dX7_allSteps_0 : decode cX7_allSteps 0 = .ok (.aload_n 0, 1) := by decide +kernel
theorem dX7_allSteps_1 : decode cX7_allSteps 1 = .ok (.invokevirtual 203, 3) := by decide +kernel
theorem dX7_allSteps_4 : decode cX7_allSteps 4 = .ok (.invokestatic 194, 3) := by decide +kernel
theorem dX7_allSteps_7 : decode cX7_allSteps 7 = .ok (.istore_n 1, 1) := by decide +kernel
theorem dX7_allSteps_8 : decode cX7_allSteps 8 = .ok (.iconst 0, 1) := by decide +kernel
theorem dX7_allSteps_9 : decode cX7_allSteps 9 = .ok (.istore_n 2, 1) := by decide +kernel
theorem dX7_allSteps_10 : decode cX7_allSteps 10 = .ok (.iload_n 2, 1) := by decide +kernel
theorem dX7_allSteps_11 : decode cX7_allSteps 11 = .ok (.aload_n 0, 1) := by decide +kernel
theorem dX7_allSteps_12 : decode cX7_allSteps 12 = .ok (.getfield 164, 3) := by decide +kernel
theorem dX7_allSteps_15 : decode cX7_allSteps 15 = .ok (.if_icmp .ge 30, 3) := by decide +kernel
theorem dX7_allSteps_18 : decode cX7_allSteps 18 = .ok (.iload_n 1, 1) := by decide +kernel
theorem dX7_allSteps_19 : decode cX7_allSteps 19 = .ok (.aload_n 0, 1) := by decide +kernel
theorem dX7_allSteps_20 : decode cX7_allSteps 20 = .ok (.aload_n 0, 1) := by decide +kernel
theorem dX7_allSteps_21 : decode cX7_allSteps 21 = .ok (.iload_n 2, 1) := by decide +kernel
theorem dX7_allSteps_22 : decode cX7_allSteps 22 = .ok (.invokevirtual 173, 3) := by decide +kernel
theorem dX7_allSteps_25 : decode cX7_allSteps 25 = .ok (.aload_n 0, 1) := by decide +kernel
theorem dX7_allSteps_26 : decode cX7_allSteps 26 = .ok (.getfield 58, 3) := by decide +kernel
theorem dX7_allSteps_29 : decode cX7_allSteps 29 = .ok (.iload_n 2, 1) := by decide +kernel
theorem dX7_allSteps_30 : decode cX7_allSteps 30 = .ok (.iaload, 1) := by decide +kernel
theorem dX7_allSteps_31 : decode cX7_allSteps 31 = .ok (.invokevirtual 182, 3) := by decide +kernel
theorem dX7_allSteps_34 : decode cX7_allSteps 34 = .ok (.invokestatic 194, 3) := by decide +kernel
theorem dX7_allSteps_37 : decode cX7_allSteps 37 = .ok (.iadd, 1) := by decide +kernel
theorem dX7_allSteps_38 : decode cX7_allSteps 38 = .ok (.istore_n 1, 1) := by decide +kernel
theorem dX7_allSteps_39 : decode cX7_allSteps 39 = .ok (.iinc 2 1, 3) := by decide +kernel
theorem dX7_allSteps_42 : decode cX7_allSteps 42 = .ok (.goto (-32), 3) := by decide +kernel
theorem dX7_allSteps_45 : decode cX7_allSteps 45 = .ok (.iload_n 1, 1) := by decide +kernel
theorem dX7_allSteps_46 : decode cX7_allSteps 46 = .ok (.ireturn, 1) := by decide +kernel
theorem dX7_longestTwice_0 : decode cX7_longestTwice 0 = .ok (.iconst 0, 1) := by decide +kernel
theorem dX7_longestTwice_1 : decode cX7_longestTwice 1 = .ok (.istore_n 1, 1) := by decide +kernel
theorem dX7_longestTwice_2 : decode cX7_longestTwice 2 = .ok (.iconst 0, 1) := by decide +kernel
theorem dX7_longestTwice_3 : decode cX7_longestTwice 3 = .ok (.istore_n 2, 1) := by decide +kernel
theorem dX7_longestTwice_4 : decode cX7_longestTwice 4 = .ok (.iload_n 2, 1) := by decide +kernel
theorem dX7_longestTwice_5 : decode cX7_longestTwice 5 = .ok (.aload_n 0, 1) := by decide +kernel
theorem dX7_longestTwice_6 : decode cX7_longestTwice 6 = .ok (.getfield 37, 3) := by decide +kernel
theorem dX7_longestTwice_9 : decode cX7_longestTwice 9 = .ok (.iconst 0, 1) := by decide +kernel
theorem dX7_longestTwice_10 : decode cX7_longestTwice 10 = .ok (.iaload, 1) := by decide +kernel
theorem dX7_longestTwice_11 : decode cX7_longestTwice 11 = .ok (.if_icmp .ge 30, 3) := by decide +kernel
theorem dX7_longestTwice_14 : decode cX7_longestTwice 14 = .ok (.aload_n 0, 1) := by decide +kernel
theorem dX7_longestTwice_15 : decode cX7_longestTwice 15 = .ok (.getfield 49, 3) := by decide +kernel
theorem dX7_longestTwice_18 : decode cX7_longestTwice 18 = .ok (.iload_n 2, 1) := by decide +kernel
theorem dX7_longestTwice_19 : decode cX7_longestTwice 19 = .ok (.iaload, 1) := by decide +kernel
theorem dX7_longestTwice_20 : decode cX7_longestTwice 20 = .ok (.iload_n 1, 1) := by decide +kernel
theorem dX7_longestTwice_21 : decode cX7_longestTwice 21 = .ok (.if_icmp .le 12, 3) := by decide +kernel
theorem dX7_longestTwice_24 : decode cX7_longestTwice 24 = .ok (.aload_n 0, 1) := by decide +kernel
theorem dX7_longestTwice_25 : decode cX7_longestTwice 25 = .ok (.getfield 49, 3) := by decide +kernel
theorem dX7_longestTwice_28 : decode cX7_longestTwice 28 = .ok (.iload_n 2, 1) := by decide +kernel
theorem dX7_longestTwice_29 : decode cX7_longestTwice 29 = .ok (.iaload, 1) := by decide +kernel
theorem dX7_longestTwice_30 : decode cX7_longestTwice 30 = .ok (.goto 4, 3) := by decide +kernel
theorem dX7_longestTwice_33 : decode cX7_longestTwice 33 = .ok (.iload_n 1, 1) := by decide +kernel
theorem dX7_longestTwice_34 : decode cX7_longestTwice 34 = .ok (.istore_n 1, 1) := by decide +kernel
theorem dX7_longestTwice_35 : decode cX7_longestTwice 35 = .ok (.iinc 2 1, 3) := by decide +kernel
theorem dX7_longestTwice_38 : decode cX7_longestTwice 38 = .ok (.goto (-34), 3) := by decide +kernel
theorem dX7_longestTwice_41 : decode cX7_longestTwice 41 = .ok (.iload_n 1, 1) := by decide +kernel
theorem dX7_longestTwice_42 : decode cX7_longestTwice 42 = .ok (.ireturn, 1) := by decide +kernel
set_option maxRecDepth 20000 in
theorem ggX7_count_X7_in : GoodIn wsX7_count wsX7_in := goodIn_r _ [9] (by decide +kernel) (by decide +kernel)
set_option maxRecDepth 20000 in
theorem gX7_count_X7_in : GoodIn wsX7_count (va_wsS RX7 97 yX7_in wsX7_in) := goodIn_app (goodIn_of _ (by decide +kernel)) ggX7_count_X7_in
set_option maxRecDepth 20000 in
theorem ggX7_count_X7_layPresent : GoodIn wsX7_count wsX7_layPresent := goodIn_r _ [13, 1, 14, 15, 16, 8, 17, 18, 19, 20, 21, 22, 23, 24, 25, 26, 92, 93, 94, 95, 96, 97, 98, 99, 100, 101, 102, 103, 104, 105, 106, 107, 108, 109, 110, 111, 112, 113, 114] (by decide +kernel) (by decide +kernel)
set_option maxRecDepth 20000 in
theorem gX7_count_X7_layPresent : GoodIn wsX7_count (wsV RX7 124 RX7 yX7_layPresent wsX7_layPresent) := goodIn_app (goodIn_of _ (by decide +kernel)) ggX7_count_X7_layPresent
set_option maxRecDepth 20000 in
theorem ggX7_count_X7_sort : GoodIn wsX7_count wsX7_sort := goodIn_r _ [30, 21, 31, 32, 33, 34, 35, 8, 36, 25, 37, 38, 39, 40, 41, 42, 43, 44, 24, 26, 92, 93, 94, 95, 96, 97, 98, 99, 100, 101, 102, 103, 104, 105, 106, 107, 108, 109, 110, 111, 112, 113, 114] (by decide +kernel) (by decide +kernel)
set_option maxRecDepth 20000 in
theorem gX7_count_X7_sort : GoodIn wsX7_count (wsV RX7 117 RX7 yX7_sort wsX7_sort) := goodIn_app (goodIn_of _ (by decide +kernel)) ggX7_count_X7_sort
set_option maxRecDepth 20000 in
theorem ggX7_count_X7_layClasses : GoodIn wsX7_count wsX7_layClasses := goodIn_r _ [48, 5, 21, 23, 26, 49, 50, 51, 52, 53, 54, 55, 8, 56, 57, 58, 59, 60, 37, 38, 39, 40, 25, 41, 42, 43, 44, 24, 61, 62, 63, 64, 92, 93, 94, 95, 96, 97, 98, 99, 100, 101, 102, 103, 104, 105, 106, 107, 108, 109, 110, 111, 112, 113, 114] (by decide +kernel) (by decide +kernel)
set_option maxRecDepth 20000 in
theorem gX7_count_X7_layClasses : GoodIn wsX7_count (wsV RX7 140 RX7 yX7_layClasses wsX7_layClasses) := goodIn_app (goodIn_of _ (by decide +kernel)) ggX7_count_X7_layClasses
set_option maxRecDepth 20000 in
theorem ggX7_count_X7_allSteps : GoodIn wsX7_count wsX7_allSteps := goodIn_r _ [68, 5, 52, 69, 70, 71, 8, 72, 21, 73, 74, 75, 76, 25, 77, 78, 79, 80, 81, 82, 83, 49, 84, 85, 86, 87, 57, 58, 59, 60, 37, 38, 39, 40, 41, 42, 43, 44, 24, 26, 92, 93, 94, 95, 96, 97, 98, 99, 100, 101, 102, 103, 104, 105, 106, 107, 108, 109, 110, 111, 112, 113, 114] (by decide +kernel) (by decide +kernel)
set_option maxRecDepth 20000 in
theorem gX7_count_X7_allSteps : GoodIn wsX7_count (wsV RX7 206 RX7 yX7_allSteps wsX7_allSteps) := goodIn_app (goodIn_of _ (by decide +kernel)) ggX7_count_X7_allSteps
set_option maxRecDepth 20000 in
theorem ggX7_count_X7_longestTwice : GoodIn wsX7_count wsX7_longestTwice := goodIn_r _ [91, 21, 32, 92, 93, 94, 95, 96, 97, 98, 99, 100, 101, 102, 103, 104, 105, 106, 107, 108, 109, 110, 111, 112, 113, 114] (by decide +kernel) (by decide +kernel)
set_option maxRecDepth 20000 in
theorem gX7_count_X7_longestTwice : GoodIn wsX7_count (wsV RX7 209 RX7 yX7_longestTwice wsX7_longestTwice) := goodIn_app (goodIn_of _ (by decide +kernel)) ggX7_count_X7_longestTwice
theorem dX7_count_0 : decode cX7_count 0 = .ok (.iload_n 1, 1) := by decide +kernel
theorem dX7_count_1 : decode cX7_count 1 = .ok (.iconst 0, 1) := by decide +kernel
theorem dX7_count_2 : decode cX7_count 2 = .ok (.bipush 6, 2) := by decide +kernel
theorem dX7_count_4 : decode cX7_count 4 = .ok (.invokestatic 97, 3) := by decide +kernel
theorem dX7_count_7 : decode cX7_count 7 = .ok (.ifCond .ne 6, 3) := by decide +kernel
theorem dX7_count_10 : decode cX7_count 10 = .ok (.bipush (-2), 2) := by decide +kernel
theorem dX7_count_12 : decode cX7_count 12 = .ok (.ireturn, 1) := by decide +kernel
theorem dX7_count_13 : decode cX7_count 13 = .ok (.aload_n 0, 1) := by decide +kernel
theorem dX7_count_14 : decode cX7_count 14 = .ok (.invokevirtual 124, 3) := by decide +kernel
theorem dX7_count_17 : decode cX7_count 17 = .ok (.aload_n 0, 1) := by decide +kernel
theorem dX7_count_18 : decode cX7_count 18 = .ok (.invokevirtual 117, 3) := by decide +kernel
theorem dX7_count_21 : decode cX7_count 21 = .ok (.iload_n 1, 1) := by decide +kernel
theorem dX7_count_22 : decode cX7_count 22 = .ok (.tableswitch 86 0 5 #[38, 43, 48, 58, 68, 77], 38) := by decide +kernel
theorem dX7_count_60 : decode cX7_count 60 = .ok (.aload_n 0, 1) := by decide +kernel
theorem dX7_count_61 : decode cX7_count 61 = .ok (.getfield 71, 3) := by decide +kernel
theorem dX7_count_64 : decode cX7_count 64 = .ok (.ireturn, 1) := by decide +kernel
theorem dX7_count_65 : decode cX7_count 65 = .ok (.aload_n 0, 1) := by decide +kernel
theorem dX7_count_66 : decode cX7_count 66 = .ok (.getfield 67, 3) := by decide +kernel
theorem dX7_count_69 : decode cX7_count 69 = .ok (.ireturn, 1) := by decide +kernel
theorem dX7_count_70 : decode cX7_count 70 = .ok (.aload_n 0, 1) := by decide +kernel
theorem dX7_count_71 : decode cX7_count 71 = .ok (.getfield 16, 3) := by decide +kernel
theorem dX7_count_74 : decode cX7_count 74 = .ok (.aload_n 0, 1) := by decide +kernel
theorem dX7_count_75 : decode cX7_count 75 = .ok (.getfield 71, 3) := by decide +kernel
theorem dX7_count_78 : decode cX7_count 78 = .ok (.iaload, 1) := by decide +kernel
theorem dX7_count_79 : decode cX7_count 79 = .ok (.ireturn, 1) := by decide +kernel
theorem dX7_count_80 : decode cX7_count 80 = .ok (.aload_n 0, 1) := by decide +kernel
theorem dX7_count_81 : decode cX7_count 81 = .ok (.getfield 19, 3) := by decide +kernel
theorem dX7_count_84 : decode cX7_count 84 = .ok (.aload_n 0, 1) := by decide +kernel
theorem dX7_count_85 : decode cX7_count 85 = .ok (.getfield 71, 3) := by decide +kernel
theorem dX7_count_88 : decode cX7_count 88 = .ok (.iaload, 1) := by decide +kernel
theorem dX7_count_89 : decode cX7_count 89 = .ok (.ireturn, 1) := by decide +kernel
theorem dX7_count_90 : decode cX7_count 90 = .ok (.aload_n 0, 1) := by decide +kernel
theorem dX7_count_91 : decode cX7_count 91 = .ok (.invokevirtual 140, 3) := by decide +kernel
theorem dX7_count_94 : decode cX7_count 94 = .ok (.aload_n 0, 1) := by decide +kernel
theorem dX7_count_95 : decode cX7_count 95 = .ok (.getfield 164, 3) := by decide +kernel
theorem dX7_count_98 : decode cX7_count 98 = .ok (.ireturn, 1) := by decide +kernel
theorem dX7_count_99 : decode cX7_count 99 = .ok (.aload_n 0, 1) := by decide +kernel
theorem dX7_count_100 : decode cX7_count 100 = .ok (.invokevirtual 140, 3) := by decide +kernel
theorem dX7_count_103 : decode cX7_count 103 = .ok (.aload_n 0, 1) := by decide +kernel
theorem dX7_count_104 : decode cX7_count 104 = .ok (.invokevirtual 206, 3) := by decide +kernel
theorem dX7_count_107 : decode cX7_count 107 = .ok (.ireturn, 1) := by decide +kernel
theorem dX7_count_108 : decode cX7_count 108 = .ok (.aload_n 0, 1) := by decide +kernel
theorem dX7_count_109 : decode cX7_count 109 = .ok (.invokevirtual 209, 3) := by decide +kernel
theorem dX7_count_112 : decode cX7_count 112 = .ok (.ireturn, 1) := by decide +kernel
theorem dJ6_bitCount_0f7a4_0 : decode cJ6_bitCount_0f7a4 0 = .ok (.iload_n 0, 1) := by decide +kernel
theorem dJ6_bitCount_0f7a4_1 : decode cJ6_bitCount_0f7a4 1 = .ok (.iload_n 0, 1) := by decide +kernel
theorem dJ6_bitCount_0f7a4_2 : decode cJ6_bitCount_0f7a4 2 = .ok (.iconst 1, 1) := by decide +kernel
theorem dJ6_bitCount_0f7a4_3 : decode cJ6_bitCount_0f7a4 3 = .ok (.iushr, 1) := by decide +kernel
theorem dJ6_bitCount_0f7a4_4 : decode cJ6_bitCount_0f7a4 4 = .ok (.ldc_w 265, 3) := by decide +kernel
theorem dJ6_bitCount_0f7a4_7 : decode cJ6_bitCount_0f7a4 7 = .ok (.iand, 1) := by decide +kernel
theorem dJ6_bitCount_0f7a4_8 : decode cJ6_bitCount_0f7a4 8 = .ok (.isub, 1) := by decide +kernel
theorem dJ6_bitCount_0f7a4_9 : decode cJ6_bitCount_0f7a4 9 = .ok (.istore_n 0, 1) := by decide +kernel
theorem dJ6_bitCount_0f7a4_10 : decode cJ6_bitCount_0f7a4 10 = .ok (.iload_n 0, 1) := by decide +kernel
theorem dJ6_bitCount_0f7a4_11 : decode cJ6_bitCount_0f7a4 11 = .ok (.ldc_w 266, 3) := by decide +kernel
theorem dJ6_bitCount_0f7a4_14 : decode cJ6_bitCount_0f7a4 14 = .ok (.iand, 1) := by decide +kernel
theorem dJ6_bitCount_0f7a4_15 : decode cJ6_bitCount_0f7a4 15 = .ok (.iload_n 0, 1) := by decide +kernel
theorem dJ6_bitCount_0f7a4_16 : decode cJ6_bitCount_0f7a4 16 = .ok (.iconst 2, 1) := by decide +kernel
theorem dJ6_bitCount_0f7a4_17 : decode cJ6_bitCount_0f7a4 17 = .ok (.iushr, 1) := by decide +kernel
theorem dJ6_bitCount_0f7a4_18 : decode cJ6_bitCount_0f7a4 18 = .ok (.ldc_w 266, 3) := by decide +kernel
theorem dJ6_bitCount_0f7a4_21 : decode cJ6_bitCount_0f7a4 21 = .ok (.iand, 1) := by decide +kernel
theorem dJ6_bitCount_0f7a4_22 : decode cJ6_bitCount_0f7a4 22 = .ok (.iadd, 1) := by decide +kernel
theorem dJ6_bitCount_0f7a4_23 : decode cJ6_bitCount_0f7a4 23 = .ok (.istore_n 0, 1) := by decide +kernel
theorem dJ6_bitCount_0f7a4_24 : decode cJ6_bitCount_0f7a4 24 = .ok (.iload_n 0, 1) := by decide +kernel
theorem dJ6_bitCount_0f7a4_25 : decode cJ6_bitCount_0f7a4 25 = .ok (.iload_n 0, 1) := by decide +kernel
theorem dJ6_bitCount_0f7a4_26 : decode cJ6_bitCount_0f7a4 26 = .ok (.iconst 4, 1) := by decide +kernel
theorem dJ6_bitCount_0f7a4_27 : decode cJ6_bitCount_0f7a4 27 = .ok (.iushr, 1) := by decide +kernel
theorem dJ6_bitCount_0f7a4_28 : decode cJ6_bitCount_0f7a4 28 = .ok (.iadd, 1) := by decide +kernel
theorem dJ6_bitCount_0f7a4_29 : decode cJ6_bitCount_0f7a4 29 = .ok (.ldc_w 267, 3) := by decide +kernel
theorem dJ6_bitCount_0f7a4_32 : decode cJ6_bitCount_0f7a4 32 = .ok (.iand, 1) := by decide +kernel
theorem dJ6_bitCount_0f7a4_33 : decode cJ6_bitCount_0f7a4 33 = .ok (.istore_n 0, 1) := by decide +kernel
theorem dJ6_bitCount_0f7a4_34 : decode cJ6_bitCount_0f7a4 34 = .ok (.iload_n 0, 1) := by decide +kernel
theorem dJ6_bitCount_0f7a4_35 : decode cJ6_bitCount_0f7a4 35 = .ok (.iload_n 0, 1) := by decide +kernel
theorem dJ6_bitCount_0f7a4_36 : decode cJ6_bitCount_0f7a4 36 = .ok (.bipush 8, 2) := by decide +kernel
theorem dJ6_bitCount_0f7a4_38 : decode cJ6_bitCount_0f7a4 38 = .ok (.iushr, 1) := by decide +kernel
theorem dJ6_bitCount_0f7a4_39 : decode cJ6_bitCount_0f7a4 39 = .ok (.iadd, 1) := by decide +kernel
theorem dJ6_bitCount_0f7a4_40 : decode cJ6_bitCount_0f7a4 40 = .ok (.istore_n 0, 1) := by decide +kernel
theorem dJ6_bitCount_0f7a4_41 : decode cJ6_bitCount_0f7a4 41 = .ok (.iload_n 0, 1) := by decide +kernel
theorem dJ6_bitCount_0f7a4_42 : decode cJ6_bitCount_0f7a4 42 = .ok (.iload_n 0, 1) := by decide +kernel
theorem dJ6_bitCount_0f7a4_43 : decode cJ6_bitCount_0f7a4 43 = .ok (.bipush 16, 2) := by decide +kernel
theorem dJ6_bitCount_0f7a4_45 : decode cJ6_bitCount_0f7a4 45 = .ok (.iushr, 1) := by decide +kernel
theorem dJ6_bitCount_0f7a4_46 : decode cJ6_bitCount_0f7a4 46 = .ok (.iadd, 1) := by decide +kernel
theorem dJ6_bitCount_0f7a4_47 : decode cJ6_bitCount_0f7a4 47 = .ok (.istore_n 0, 1) := by decide +kernel
theorem dJ6_bitCount_0f7a4_48 : decode cJ6_bitCount_0f7a4 48 = .ok (.iload_n 0, 1) := by decide +kernel
theorem dJ6_bitCount_0f7a4_49 : decode cJ6_bitCount_0f7a4 49 = .ok (.bipush 63, 2) := by decide +kernel
theorem dJ6_bitCount_0f7a4_51 : decode cJ6_bitCount_0f7a4 51 = .ok (.iand, 1) := by decide +kernel
theorem dJ6_bitCount_0f7a4_52 : decode cJ6_bitCount_0f7a4 52 = .ok (.ireturn, 1) := by decide +kernel
theorem dJ9_max_7cf53_0 : decode cJ9_max_7cf53 0 = .ok (.iload_n 0, 1) := by decide +kernel
theorem dJ9_max_7cf53_1 : decode cJ9_max_7cf53 1 = .ok (.iload_n 1, 1) := by decide +kernel
theorem dJ9_max_7cf53_2 : decode cJ9_max_7cf53 2 = .ok (.if_icmp .lt 7, 3) := by decide +kernel
theorem dJ9_max_7cf53_5 : decode cJ9_max_7cf53 5 = .ok (.iload_n 0, 1) := by decide +kernel
theorem dJ9_max_7cf53_6 : decode cJ9_max_7cf53 6 = .ok (.goto 4, 3) := by decide +kernel
theorem dJ9_max_7cf53_9 : decode cJ9_max_7cf53 9 = .ok (.iload_n 1, 1) := by decide +kernel
theorem dJ9_max_7cf53_10 : decode cJ9_max_7cf53 10 = .ok (.ireturn, 1) := by decide +kernel
theorem dJ9_min_7cf53_0 : decode cJ9_min_7cf53 0 = .ok (.iload_n 0, 1) := by decide +kernel
theorem dJ9_min_7cf53_1 : decode cJ9_min_7cf53 1 = .ok (.iload_n 1, 1) := by decide +kernel
theorem dJ9_min_7cf53_2 : decode cJ9_min_7cf53 2 = .ok (.if_icmp .gt 7, 3) := by decide +kernel
theorem dJ9_min_7cf53_5 : decode cJ9_min_7cf53 5 = .ok (.iload_n 0, 1) := by decide +kernel
theorem dJ9_min_7cf53_6 : decode cJ9_min_7cf53 6 = .ok (.goto 4, 3) := by decide +kernel
theorem dJ9_min_7cf53_9 : decode cJ9_min_7cf53 9 = .ok (.iload_n 1, 1) := by decide +kernel
theorem dJ9_min_7cf53_10 : decode cJ9_min_7cf53 10 = .ok (.ireturn, 1) := by decide +kernel
set_option maxRecDepth 20000 in
theorem ggL_law_X6_init : GoodIn wsL_law wsX6_init := goodIn_r _ [8, 9, 10, 11, 12, 13, 14, 15, 16, 17, 18, 19, 20, 21, 22, 23, 24, 25, 26, 27, 28, 29, 30, 31, 32, 33, 34, 35, 36, 37, 38, 39, 40, 41, 42, 43, 44, 45, 46, 47, 48, 49, 50, 51, 52, 53, 54, 55, 56, 57, 58, 59, 60, 61, 62, 63, 64, 65, 66, 67, 68, 69, 70, 71, 72, 73, 74, 75, 76, 77, 78, 79, 80, 81, 82, 83, 84, 85, 86, 87, 88, 89, 90, 91, 92, 93, 94, 960, 961, 962, 963, 964, 926, 927, 928, 929, 930, 931, 932, 933, 934, 935, 936, 965, 966, 967, 968, 969, 970, 971, 972, 973, 974, 975, 976, 977, 978, 979, 980, 981, 982, 983, 984, 985, 986, 987, 988, 989, 990, 991, 992] (by decide +kernel) (by decide +kernel)
set_option maxRecDepth 20000 in
theorem gL_law_X6_init : GoodIn wsL_law (wsX6_init) := ggL_law_X6_init
set_option maxRecDepth 20000 in
theorem ggL_law_X7_init : GoodIn wsL_law wsX7_init := goodIn_r _ [97, 98, 10, 11, 44, 99, 100, 101, 102, 103, 104, 105, 106, 107, 108, 109, 110, 111, 112, 113, 114, 115, 116, 117, 118, 937, 938, 939, 940, 941, 942, 943, 944, 945, 946, 947, 948, 949, 950, 951, 952, 953, 954, 955, 956, 957, 958, 959] (by decide +kernel) (by decide +kernel)
set_option maxRecDepth 20000 in
theorem gL_law_X7_init : GoodIn wsL_law (wsX7_init) := ggL_law_X7_init
set_option maxRecDepth 20000 in
theorem ggL_law_X6_begin : GoodIn wsL_law wsX6_begin := goodIn_r _ [122, 15, 40, 123, 124, 125, 14, 126, 47, 127, 128, 129, 130, 49, 131, 132, 133, 134, 135, 136, 137, 138, 45, 46, 48, 139, 926, 927, 928, 929, 930, 931, 932, 933, 934, 935, 936, 960, 961, 962, 963, 964] (by decide +kernel) (by decide +kernel)
set_option maxRecDepth 20000 in
theorem gL_law_X6_begin : GoodIn wsL_law (wsV RL 13 RX6 yX6_begin wsX6_begin) := goodIn_app (goodIn_of _ (by decide +kernel)) ggL_law_X6_begin
set_option maxRecDepth 20000 in
theorem ggL_law_X7_begin : GoodIn wsL_law wsX7_begin := goodIn_r _ [143, 101, 144, 118, 145, 146, 147, 5, 148, 99, 100, 102, 937, 938, 939, 940, 941, 942, 943, 944, 945, 946, 947, 948, 949, 950, 951, 952, 953, 954, 955, 956, 957, 958, 959] (by decide +kernel) (by decide +kernel)
set_option maxRecDepth 20000 in
theorem gL_law_X7_begin : GoodIn wsL_law (wsV RL 17 RX7 yX7_begin wsX7_begin) := goodIn_app (goodIn_of _ (by decide +kernel)) ggL_law_X7_begin
set_option maxRecDepth 20000 in
theorem ggL_law_X6_append : GoodIn wsL_law wsX6_append := goodIn_r _ [152, 15, 40, 153, 154, 2, 155, 123, 124, 125, 14, 126, 47, 127, 128, 129, 130, 49, 156, 157, 158, 159, 48, 131, 132, 133, 134, 135, 136, 137, 138, 45, 46, 139, 926, 927, 928, 929, 930, 931, 932, 933, 934, 935, 936, 960, 961, 962, 963, 964] (by decide +kernel) (by decide +kernel)
set_option maxRecDepth 20000 in
theorem gL_law_X6_append : GoodIn wsL_law (wsV RL 18 RX6 yX6_append wsX6_append) := goodIn_app (goodIn_of _ (by decide +kernel)) ggL_law_X6_append
set_option maxRecDepth 20000 in
theorem ggL_law_X7_append : GoodIn wsL_law wsX7_append := goodIn_r _ [163, 101, 144, 102, 118, 164, 165, 5, 166, 145, 146, 147, 148, 99, 100, 937, 938, 939, 940, 941, 942, 943, 944, 945, 946, 947, 948, 949, 950, 951, 952, 953, 954, 955, 956, 957, 958, 959] (by decide +kernel) (by decide +kernel)
set_option maxRecDepth 20000 in
theorem gL_law_X7_append : GoodIn wsL_law (wsV RL 22 RX7 yX7_append wsX7_append) := goodIn_app (goodIn_of _ (by decide +kernel)) ggL_law_X7_append
set_option maxRecDepth 20000 in
theorem ggL_law_X6_load : GoodIn wsL_law wsX6_load := goodIn_r _ [170, 19, 15, 40, 171, 172, 173, 18, 174, 175, 176, 177, 178, 54, 53, 154, 2, 155, 179, 180, 181, 182, 183, 184, 185, 186, 123, 124, 125, 14, 126, 47, 127, 128, 129, 130, 49, 187, 188, 189, 190, 156, 157, 158, 159, 48, 131, 132, 133, 134, 135, 136, 137, 138, 45, 46, 139, 191, 192, 193, 194, 926, 927, 928, 929, 930, 931, 932, 933, 934, 935, 936, 965, 966, 960, 961, 962, 963, 964] (by decide +kernel) (by decide +kernel)
set_option maxRecDepth 20000 in
theorem gL_law_X6_load : GoodIn wsL_law (wsV RL 23 RX6 yX6_load wsX6_load) := goodIn_app (goodIn_of _ (by decide +kernel)) ggL_law_X6_load
set_option maxRecDepth 20000 in
theorem ggL_law_X7_load : GoodIn wsL_law wsX7_load := goodIn_r _ [198, 199, 103, 101, 144, 102, 118, 200, 201, 202, 5, 203, 204, 205, 206, 207, 164, 165, 166, 145, 146, 147, 148, 99, 100, 937, 938, 939, 940, 941, 942, 943, 944, 945, 946, 947, 948, 949, 950, 951, 952, 953, 954, 955, 956, 957, 958, 959] (by decide +kernel) (by decide +kernel)
set_option maxRecDepth 20000 in
theorem gL_law_X7_load : GoodIn wsL_law (wsV RL 26 RX7 yX7_load wsX7_load) := goodIn_app (goodIn_of _ (by decide +kernel)) ggL_law_X7_load
set_option maxRecDepth 20000 in
theorem ggL_law_X6_go : GoodIn wsL_law wsX6_go := goodIn_r _ [211, 15, 40, 212, 128, 129, 14, 130, 49, 926, 927, 928, 929, 930, 931, 932, 933, 934, 935, 936, 960, 961, 962, 963, 964] (by decide +kernel) (by decide +kernel)
set_option maxRecDepth 20000 in
theorem gL_law_X6_go : GoodIn wsL_law (wsV RL 27 RX6 yX6_go wsX6_go) := goodIn_app (goodIn_of _ (by decide +kernel)) ggL_law_X6_go
set_option maxRecDepth 20000 in
theorem ggL_law_X7_go : GoodIn wsL_law wsX7_go := goodIn_r _ [216, 144, 217, 218, 219, 5, 220, 118, 164, 165, 166, 937, 938, 939, 940, 941, 942, 943, 944, 945, 946, 947, 948, 949, 950, 951, 952, 953, 954, 955, 956, 957, 958, 959] (by decide +kernel) (by decide +kernel)
set_option maxRecDepth 20000 in
theorem gL_law_X7_go : GoodIn wsL_law (wsV RL 30 RX7 yX7_go wsX7_go) := goodIn_app (goodIn_of _ (by decide +kernel)) ggL_law_X7_go
set_option maxRecDepth 20000 in
theorem ggL_law_X6_back : GoodIn wsL_law wsX6_back := goodIn_r _ [224, 15, 40, 225, 226, 227, 14, 228, 229, 230, 231, 232, 45, 127, 128, 129, 130, 49, 926, 927, 928, 929, 930, 931, 932, 933, 934, 935, 936, 960, 961, 962, 963, 964] (by decide +kernel) (by decide +kernel)
set_option maxRecDepth 20000 in
theorem gL_law_X6_back : GoodIn wsL_law (wsV RL 31 RX6 yX6_back wsX6_back) := goodIn_app (goodIn_of _ (by decide +kernel)) ggL_law_X6_back
set_option maxRecDepth 20000 in
theorem ggL_law_X7_back : GoodIn wsL_law wsX7_back := goodIn_r _ [236, 144, 99, 164, 165, 5, 166, 937, 938, 939, 940, 941, 942, 943, 944, 945, 946, 947, 948, 949, 950, 951, 952, 953, 954, 955, 956, 957, 958, 959] (by decide +kernel) (by decide +kernel)
set_option maxRecDepth 20000 in
theorem gL_law_X7_back : GoodIn wsL_law (wsV RL 34 RX7 yX7_back wsX7_back) := goodIn_app (goodIn_of _ (by decide +kernel)) ggL_law_X7_back
set_option maxRecDepth 20000 in
theorem ggL_law_X6_version : GoodIn wsL_law wsX6_version := goodIn_r _ [240, 15, 212, 128, 129, 14, 130, 49, 241, 230, 231, 232, 45, 127, 242, 243, 244, 245, 123, 124, 125, 126, 47, 156, 157, 158, 159, 48, 246, 247, 248, 249, 250, 251, 252, 253, 254, 2, 255, 33, 34, 38, 39, 256, 257, 258, 259, 260, 261, 262, 22, 263, 65, 63, 64, 60, 59, 61, 264, 265, 266, 267, 268, 269, 46, 270, 271, 272, 273, 62, 274, 275, 276, 277, 58, 278, 279, 280, 281, 282, 283, 284, 285, 286, 287, 288, 289, 290, 291, 292, 293, 294, 295, 296, 297, 37, 298, 299, 300, 301, 87, 302, 303, 304, 305, 306, 307, 308, 309, 310, 926, 927, 928, 929, 930, 931, 932, 933, 934, 935, 936, 960, 961, 962, 963, 964, 967, 968, 969, 970, 971, 972, 973, 974, 992] (by decide +kernel) (by decide +kernel)
set_option maxRecDepth 20000 in
theorem gL_law_X6_version : GoodIn wsL_law (wsV RL 35 RX6 yX6_version wsX6_version) := goodIn_app (goodIn_of _ (by decide +kernel)) ggL_law_X6_version
set_option maxRecDepth 20000 in
theorem ggL_law_X7_version : GoodIn wsL_law wsX7_version := goodIn_r _ [314, 99, 101, 102, 217, 218, 219, 5, 220, 118, 164, 165, 166, 315, 316, 317, 318, 319, 320, 321, 322, 323, 324, 325, 326, 110, 100, 108, 109, 106, 107, 104, 105, 327, 328, 329, 330, 111, 112, 331, 332, 333, 334, 335, 336, 337, 338, 339, 340, 341, 342, 343, 344, 345, 346, 937, 938, 939, 940, 941, 942, 943, 944, 945, 946, 947, 948, 949, 950, 951, 952, 953, 954, 955, 956, 957, 958, 959] (by decide +kernel) (by decide +kernel)
set_option maxRecDepth 20000 in
theorem gL_law_X7_version : GoodIn wsL_law (wsV RL 39 RX7 yX7_version wsX7_version) := goodIn_app (goodIn_of _ (by decide +kernel)) ggL_law_X7_version
set_option maxRecDepth 20000 in
theorem ggL_law_X6_meet : GoodIn wsL_law wsX6_meet := goodIn_r _ [350, 15, 212, 128, 129, 14, 130, 49, 351, 352, 353, 354, 229, 230, 231, 232, 45, 127, 926, 927, 928, 929, 930, 931, 932, 933, 934, 935, 936, 960, 961, 962, 963, 964] (by decide +kernel) (by decide +kernel)
set_option maxRecDepth 20000 in
theorem gL_law_X6_meet : GoodIn wsL_law (wsV RL 40 RX6 yX6_meet wsX6_meet) := goodIn_app (goodIn_of _ (by decide +kernel)) ggL_law_X6_meet
set_option maxRecDepth 20000 in
theorem ggL_law_X7_meet : GoodIn wsL_law wsX7_meet := goodIn_r _ [358, 99, 217, 218, 219, 5, 220, 118, 164, 165, 166, 937, 938, 939, 940, 941, 942, 943, 944, 945, 946, 947, 948, 949, 950, 951, 952, 953, 954, 955, 956, 957, 958, 959] (by decide +kernel) (by decide +kernel)
set_option maxRecDepth 20000 in
theorem gL_law_X7_meet : GoodIn wsL_law (wsV RL 43 RX7 yX7_meet wsX7_meet) := goodIn_app (goodIn_of _ (by decide +kernel)) ggL_law_X7_meet
set_option maxRecDepth 20000 in
theorem ggL_law_X6_more : GoodIn wsL_law wsX6_more := goodIn_r _ [362, 15, 212, 128, 129, 14, 130, 49, 252, 253, 254, 2, 255, 33, 34, 38, 39, 256, 257, 258, 259, 260, 261, 262, 22, 263, 65, 63, 64, 60, 59, 61, 264, 124, 125, 126, 47, 127, 265, 157, 158, 159, 48, 266, 267, 268, 269, 46, 270, 271, 272, 273, 62, 274, 275, 276, 277, 58, 278, 279, 280, 281, 282, 230, 231, 232, 45, 283, 284, 285, 286, 287, 288, 289, 290, 291, 292, 293, 294, 295, 296, 297, 37, 298, 299, 300, 301, 87, 302, 303, 304, 305, 306, 307, 308, 309, 310, 926, 927, 928, 929, 930, 931, 932, 933, 934, 935, 936, 960, 961, 962, 963, 964, 967, 968, 969, 970, 971, 972, 973, 974, 992] (by decide +kernel) (by decide +kernel)
set_option maxRecDepth 20000 in
theorem gL_law_X6_more : GoodIn wsL_law (wsV RL 44 RX6 yX6_more wsX6_more) := goodIn_app (goodIn_of _ (by decide +kernel)) ggL_law_X6_more
set_option maxRecDepth 20000 in
theorem ggL_law_X7_more : GoodIn wsL_law wsX7_more := goodIn_r _ [366, 108, 112, 111, 217, 218, 219, 5, 220, 118, 164, 165, 166, 323, 324, 325, 326, 110, 100, 99, 109, 106, 107, 104, 105, 327, 328, 329, 330, 331, 332, 333, 334, 335, 336, 337, 338, 339, 340, 341, 342, 937, 938, 939, 940, 941, 942, 943, 944, 945, 946, 947, 948, 949, 950, 951, 952, 953, 954, 955, 956, 957, 958, 959] (by decide +kernel) (by decide +kernel)
set_option maxRecDepth 20000 in
theorem gL_law_X7_more : GoodIn wsL_law (wsV RL 47 RX7 yX7_more wsX7_more) := goodIn_app (goodIn_of _ (by decide +kernel)) ggL_law_X7_more
set_option maxRecDepth 20000 in
theorem ggL_law_X6_letter : GoodIn wsL_law wsX6_letter := goodIn_r _ [370, 23, 371, 372, 373, 2, 374, 15, 40, 260, 261, 262, 22, 263, 65, 63, 64, 60, 59, 61, 264, 124, 125, 14, 126, 47, 127, 128, 129, 130, 49, 265, 157, 158, 159, 48, 266, 267, 268, 269, 46, 270, 271, 272, 273, 62, 274, 275, 276, 277, 58, 278, 279, 280, 281, 282, 230, 231, 232, 45, 283, 284, 285, 286, 287, 288, 289, 290, 375, 376, 377, 378, 379, 380, 381, 303, 304, 305, 926, 927, 928, 929, 930, 931, 932, 933, 934, 935, 936, 967, 968, 969, 970, 971, 972, 973, 974, 960, 961, 962, 963, 964] (by decide +kernel) (by decide +kernel)
set_option maxRecDepth 20000 in
theorem gL_law_X6_letter : GoodIn wsL_law (wsV RL 48 RX6 yX6_letter wsX6_letter) := goodIn_app (goodIn_of _ (by decide +kernel)) ggL_law_X6_letter
set_option maxRecDepth 20000 in
theorem ggL_law_X7_letter : GoodIn wsL_law wsX7_letter := goodIn_r _ [385, 101, 144, 107, 106, 164, 165, 5, 166, 386, 387, 388, 389, 323, 324, 325, 326, 110, 100, 99, 108, 109, 104, 105, 390, 391, 392, 393, 937, 938, 939, 940, 941, 942, 943, 944, 945, 946, 947, 948, 949, 950, 951, 952, 953, 954, 955, 956, 957, 958, 959] (by decide +kernel) (by decide +kernel)
set_option maxRecDepth 20000 in
theorem gL_law_X7_letter : GoodIn wsL_law (wsV RL 51 RX7 yX7_letter wsX7_letter) := goodIn_app (goodIn_of _ (by decide +kernel)) ggL_law_X7_letter
set_option maxRecDepth 20000 in
theorem ggL_law_X6_say : GoodIn wsL_law wsX6_say := goodIn_r _ [397, 19, 179, 180, 181, 18, 182, 54, 398, 399, 400, 401, 53, 926, 927, 928, 929, 930, 931, 932, 933, 934, 935, 936, 965, 966] (by decide +kernel) (by decide +kernel)
set_option maxRecDepth 20000 in
theorem gL_law_X6_say : GoodIn wsL_law (wsV RL 52 RX6 yX6_say wsX6_say) := goodIn_app (goodIn_of _ (by decide +kernel)) ggL_law_X6_say
set_option maxRecDepth 20000 in
theorem ggL_law_X7_say : GoodIn wsL_law wsX7_say := goodIn_r _ [405, 199, 103, 164, 165, 5, 166, 937, 938, 939, 940, 941, 942, 943, 944, 945, 946, 947, 948, 949, 950, 951, 952, 953, 954, 955, 956, 957, 958, 959] (by decide +kernel) (by decide +kernel)
set_option maxRecDepth 20000 in
theorem gL_law_X7_say : GoodIn wsL_law (wsV RL 55 RX7 yX7_say wsX7_say) := goodIn_app (goodIn_of _ (by decide +kernel)) ggL_law_X7_say
set_option maxRecDepth 20000 in
theorem ggL_law_X6_wipe : GoodIn wsL_law wsX6_wipe := goodIn_r _ [409, 19, 179, 180, 181, 18, 182, 54, 191, 192, 193, 194, 926, 927, 928, 929, 930, 931, 932, 933, 934, 935, 936, 965, 966] (by decide +kernel) (by decide +kernel)
set_option maxRecDepth 20000 in
theorem gL_law_X6_wipe : GoodIn wsL_law (wsV RL 56 RX6 yX6_wipe wsX6_wipe) := goodIn_app (goodIn_of _ (by decide +kernel)) ggL_law_X6_wipe
set_option maxRecDepth 20000 in
theorem ggL_law_X7_wipe : GoodIn wsL_law wsX7_wipe := goodIn_r _ [413, 199, 937, 938, 939, 940, 941, 942, 943, 944, 945, 946, 947, 948, 949, 950, 951, 952, 953, 954, 955, 956, 957, 958, 959] (by decide +kernel) (by decide +kernel)
set_option maxRecDepth 20000 in
theorem gL_law_X7_wipe : GoodIn wsL_law (wsV RL 59 RX7 yX7_wipe wsX7_wipe) := goodIn_app (goodIn_of _ (by decide +kernel)) ggL_law_X7_wipe
set_option maxRecDepth 20000 in
theorem ggL_law_X6_pad : GoodIn wsL_law wsX6_pad := goodIn_r _ [417, 19, 179, 180, 181, 18, 182, 54, 187, 188, 189, 190, 53, 926, 927, 928, 929, 930, 931, 932, 933, 934, 935, 936, 965, 966] (by decide +kernel) (by decide +kernel)
set_option maxRecDepth 20000 in
theorem gL_law_X6_pad : GoodIn wsL_law (wsV RL 60 RX6 yX6_pad wsX6_pad) := goodIn_app (goodIn_of _ (by decide +kernel)) ggL_law_X6_pad
set_option maxRecDepth 20000 in
theorem ggL_law_X7_pad : GoodIn wsL_law wsX7_pad := goodIn_r _ [421, 199, 103, 164, 165, 5, 166, 937, 938, 939, 940, 941, 942, 943, 944, 945, 946, 947, 948, 949, 950, 951, 952, 953, 954, 955, 956, 957, 958, 959] (by decide +kernel) (by decide +kernel)
set_option maxRecDepth 20000 in
theorem gL_law_X7_pad : GoodIn wsL_law (wsV RL 63 RX7 yX7_pad wsX7_pad) := goodIn_app (goodIn_of _ (by decide +kernel)) ggL_law_X7_pad
set_option maxRecDepth 20000 in
theorem ggL_law_X6_fault : GoodIn wsL_law wsX6_fault := goodIn_r _ [425, 19, 426, 427, 428, 18, 429, 54, 175, 176, 177, 178, 53, 154, 2, 155, 171, 172, 173, 174, 926, 927, 928, 929, 930, 931, 932, 933, 934, 935, 936, 965, 966] (by decide +kernel) (by decide +kernel)
set_option maxRecDepth 20000 in
theorem gL_law_X6_fault : GoodIn wsL_law (wsV RL 64 RX6 yX6_fault wsX6_fault) := goodIn_app (goodIn_of _ (by decide +kernel)) ggL_law_X6_fault
set_option maxRecDepth 20000 in
theorem ggL_law_X7_fault : GoodIn wsL_law wsX7_fault := goodIn_r _ [433, 164, 165, 5, 166, 200, 201, 202, 203, 199, 103, 204, 205, 206, 207, 937, 938, 939, 940, 941, 942, 943, 944, 945, 946, 947, 948, 949, 950, 951, 952, 953, 954, 955, 956, 957, 958, 959] (by decide +kernel) (by decide +kernel)
set_option maxRecDepth 20000 in
theorem gL_law_X7_fault : GoodIn wsL_law (wsV RL 67 RX7 yX7_fault wsX7_fault) := goodIn_app (goodIn_of _ (by decide +kernel)) ggL_law_X7_fault
set_option maxRecDepth 20000 in
theorem ggL_law_X6_occurs : GoodIn wsL_law wsX6_occurs := goodIn_r _ [437, 23, 32, 438, 439, 440, 2, 441, 19, 426, 427, 428, 18, 429, 54, 175, 176, 177, 178, 53, 154, 155, 442, 443, 444, 22, 445, 64, 58, 446, 180, 181, 182, 447, 448, 449, 450, 65, 63, 62, 451, 300, 258, 301, 452, 257, 259, 59, 60, 61, 453, 188, 189, 190, 371, 372, 373, 374, 15, 40, 260, 261, 262, 263, 264, 124, 125, 14, 126, 47, 127, 128, 129, 130, 49, 265, 157, 158, 159, 48, 266, 267, 268, 269, 46, 270, 271, 272, 273, 274, 275, 276, 277, 278, 279, 280, 281, 282, 230, 231, 232, 45, 283, 284, 285, 286, 287, 288, 289, 290, 454, 455, 456, 457, 458, 459, 460, 461, 462, 307, 308, 309, 463, 292, 293, 294, 464, 303, 304, 305, 465, 466, 467, 468, 469, 470, 471, 472, 27, 473, 474, 475, 476, 477, 478, 479, 26, 480, 83, 82, 81, 70, 481, 482, 483, 484, 485, 486, 487, 488, 296, 297, 37, 298, 299, 87, 302, 306, 489, 490, 491, 492, 493, 71, 494, 495, 496, 497, 498, 499, 500, 501, 502, 503, 504, 505, 73, 506, 507, 508, 509, 510, 511, 512, 513, 514, 515, 516, 517, 518, 74, 75, 76, 77, 78, 79, 80, 519, 520, 521, 522, 523, 524, 525, 526, 291, 527, 528, 529, 530, 531, 926, 927, 928, 929, 930, 931, 932, 933, 934, 935, 936, 965, 966, 967, 968, 969, 970, 971, 972, 973, 974, 960, 961, 962, 963, 964, 975, 976, 977, 978, 979, 980, 981, 982, 983, 984, 985, 986, 987, 992] (by decide +kernel) (by decide +kernel)
set_option maxRecDepth 20000 in
theorem gL_law_X6_occurs : GoodIn wsL_law (wsV RL 68 RX6 yX6_occurs wsX6_occurs) := goodIn_app (goodIn_of _ (by decide +kernel)) ggL_law_X6_occurs
set_option maxRecDepth 20000 in
theorem ggL_law_X7_occurs : GoodIn wsL_law wsX7_occurs := goodIn_r _ [535, 108, 199, 105, 164, 165, 5, 166, 536, 537, 538, 539, 200, 201, 202, 203, 103, 204, 205, 206, 207, 386, 387, 388, 389, 144, 323, 324, 325, 326, 110, 100, 99, 109, 106, 107, 104, 540, 541, 542, 543, 339, 340, 341, 342, 390, 391, 392, 393, 544, 545, 546, 547, 548, 113, 114, 116, 115, 549, 550, 551, 552, 553, 554, 555, 556, 335, 336, 337, 338, 557, 558, 559, 560, 561, 562, 563, 564, 565, 566, 567, 568, 937, 938, 939, 940, 941, 942, 943, 944, 945, 946, 947, 948, 949, 950, 951, 952, 953, 954, 955, 956, 957, 958, 959] (by decide +kernel) (by decide +kernel)
set_option maxRecDepth 20000 in
theorem gL_law_X7_occurs : GoodIn wsL_law (wsV RL 71 RX7 yX7_occurs wsX7_occurs) := goodIn_app (goodIn_of _ (by decide +kernel)) ggL_law_X7_occurs
set_option maxRecDepth 20000 in
theorem ggL_law_X6_end : GoodIn wsL_law wsX6_end := goodIn_r _ [572, 23, 32, 438, 439, 440, 2, 441, 19, 426, 427, 428, 18, 429, 54, 175, 176, 177, 178, 53, 154, 155, 442, 443, 444, 22, 445, 64, 58, 446, 180, 181, 182, 447, 448, 449, 450, 65, 63, 62, 451, 300, 258, 301, 452, 257, 259, 59, 60, 61, 453, 188, 189, 190, 371, 372, 373, 374, 15, 40, 260, 261, 262, 263, 264, 124, 125, 14, 126, 47, 127, 128, 129, 130, 49, 265, 157, 158, 159, 48, 266, 267, 268, 269, 46, 270, 271, 272, 273, 274, 275, 276, 277, 278, 279, 280, 281, 282, 230, 231, 232, 45, 283, 284, 285, 286, 287, 288, 289, 290, 473, 474, 475, 476, 458, 459, 460, 461, 462, 307, 308, 309, 463, 292, 293, 294, 464, 303, 304, 305, 573, 574, 575, 576, 577, 520, 521, 522, 926, 927, 928, 929, 930, 931, 932, 933, 934, 935, 936, 965, 966, 967, 968, 969, 970, 971, 972, 973, 974, 960, 961, 962, 963, 964] (by decide +kernel) (by decide +kernel)
set_option maxRecDepth 20000 in
theorem gL_law_X6_end : GoodIn wsL_law (wsV RL 72 RX6 yX6_end wsX6_end) := goodIn_app (goodIn_of _ (by decide +kernel)) ggL_law_X6_end
set_option maxRecDepth 20000 in
theorem ggL_law_X7_end : GoodIn wsL_law wsX7_end := goodIn_r _ [581, 108, 199, 536, 537, 538, 5, 539, 200, 201, 202, 203, 103, 204, 205, 206, 207, 164, 165, 166, 386, 387, 388, 389, 144, 323, 324, 325, 326, 110, 100, 99, 109, 106, 107, 104, 105, 540, 541, 542, 543, 339, 340, 341, 342, 390, 391, 392, 393, 582, 583, 584, 585, 937, 938, 939, 940, 941, 942, 943, 944, 945, 946, 947, 948, 949, 950, 951, 952, 953, 954, 955, 956, 957, 958, 959] (by decide +kernel) (by decide +kernel)
set_option maxRecDepth 20000 in
theorem gL_law_X7_end : GoodIn wsL_law (wsV RL 75 RX7 yX7_end wsX7_end) := goodIn_app (goodIn_of _ (by decide +kernel)) ggL_law_X7_end
set_option maxRecDepth 20000 in
theorem ggL_law_X6_matches : GoodIn wsL_law wsX6_matches := goodIn_r _ [589, 32, 38, 23, 438, 439, 440, 2, 441, 19, 426, 427, 428, 18, 429, 54, 175, 176, 177, 178, 53, 154, 155, 442, 443, 444, 22, 445, 64, 58, 446, 180, 181, 182, 447, 448, 449, 450, 65, 63, 62, 451, 300, 258, 301, 452, 257, 259, 59, 60, 61, 453, 188, 189, 190, 291, 292, 293, 294, 371, 372, 373, 374, 15, 40, 260, 261, 262, 263, 264, 124, 125, 14, 126, 47, 127, 128, 129, 130, 49, 265, 157, 158, 159, 48, 266, 267, 268, 269, 46, 270, 271, 272, 273, 274, 275, 276, 277, 278, 279, 280, 281, 282, 230, 231, 232, 45, 283, 284, 285, 286, 287, 288, 289, 290, 295, 296, 297, 37, 298, 299, 87, 302, 303, 304, 305, 306, 307, 308, 309, 926, 927, 928, 929, 930, 931, 932, 933, 934, 935, 936, 965, 966, 967, 968, 969, 970, 971, 972, 973, 974, 960, 961, 962, 963, 964, 992] (by decide +kernel) (by decide +kernel)
set_option maxRecDepth 20000 in
theorem gL_law_X6_matches : GoodIn wsL_law (wsV RL 76 RX6 yX6_matches wsX6_matches) := goodIn_app (goodIn_of _ (by decide +kernel)) ggL_law_X6_matches
set_option maxRecDepth 20000 in
theorem ggL_law_X7_matches : GoodIn wsL_law wsX7_matches := goodIn_r _ [593, 199, 536, 537, 538, 5, 539, 200, 201, 202, 203, 103, 204, 205, 206, 207, 164, 165, 166, 386, 387, 388, 389, 144, 323, 324, 325, 326, 110, 100, 99, 108, 109, 106, 107, 104, 105, 594, 595, 596, 597, 540, 541, 542, 543, 339, 340, 341, 342, 390, 391, 392, 393, 937, 938, 939, 940, 941, 942, 943, 944, 945, 946, 947, 948, 949, 950, 951, 952, 953, 954, 955, 956, 957, 958, 959] (by decide +kernel) (by decide +kernel)
set_option maxRecDepth 20000 in
theorem gL_law_X7_matches : GoodIn wsL_law (wsV RL 79 RX7 yX7_matches wsX7_matches) := goodIn_app (goodIn_of _ (by decide +kernel)) ggL_law_X7_matches
set_option maxRecDepth 20000 in
theorem ggL_law_X6_parts : GoodIn wsL_law wsX6_parts := goodIn_r _ [601, 32, 38, 23, 438, 439, 440, 2, 441, 19, 426, 427, 428, 18, 429, 54, 175, 176, 177, 178, 53, 154, 155, 442, 443, 444, 22, 445, 64, 58, 446, 180, 181, 182, 447, 448, 449, 450, 65, 63, 62, 451, 300, 258, 301, 452, 257, 259, 59, 60, 61, 453, 188, 189, 190, 371, 372, 373, 374, 15, 40, 260, 261, 262, 263, 264, 124, 125, 14, 126, 47, 127, 128, 129, 130, 49, 265, 157, 158, 159, 48, 266, 267, 268, 269, 46, 270, 271, 272, 273, 274, 275, 276, 277, 278, 279, 280, 281, 282, 230, 231, 232, 45, 283, 284, 285, 286, 287, 288, 289, 290, 291, 292, 293, 294, 295, 296, 297, 37, 298, 299, 87, 302, 303, 304, 305, 306, 307, 308, 309, 926, 927, 928, 929, 930, 931, 932, 933, 934, 935, 936, 965, 966, 967, 968, 969, 970, 971, 972, 973, 974, 960, 961, 962, 963, 964, 992] (by decide +kernel) (by decide +kernel)
set_option maxRecDepth 20000 in
theorem gL_law_X6_parts : GoodIn wsL_law (wsV RL 80 RX6 yX6_parts wsX6_parts) := goodIn_app (goodIn_of _ (by decide +kernel)) ggL_law_X6_parts
set_option maxRecDepth 20000 in
theorem ggL_law_X7_parts : GoodIn wsL_law wsX7_parts := goodIn_r _ [605, 199, 536, 537, 538, 5, 539, 200, 201, 202, 203, 103, 204, 205, 206, 207, 164, 165, 166, 386, 387, 388, 389, 144, 323, 324, 325, 326, 110, 100, 99, 108, 109, 106, 107, 104, 105, 594, 595, 596, 597, 540, 541, 542, 543, 339, 340, 341, 342, 390, 391, 392, 393, 937, 938, 939, 940, 941, 942, 943, 944, 945, 946, 947, 948, 949, 950, 951, 952, 953, 954, 955, 956, 957, 958, 959] (by decide +kernel) (by decide +kernel)
set_option maxRecDepth 20000 in
theorem gL_law_X7_parts : GoodIn wsL_law (wsV RL 83 RX7 yX7_parts wsX7_parts) := goodIn_app (goodIn_of _ (by decide +kernel)) ggL_law_X7_parts
set_option maxRecDepth 20000 in
theorem ggL_law_X6_factors : GoodIn wsL_law wsX6_factors := goodIn_r _ [609, 27, 610, 611, 2, 612, 613, 614, 615, 616, 23, 371, 372, 373, 374, 15, 40, 260, 261, 262, 22, 263, 65, 63, 64, 60, 59, 61, 264, 124, 125, 14, 126, 47, 127, 128, 129, 130, 49, 265, 157, 158, 159, 48, 266, 267, 268, 269, 46, 270, 271, 272, 273, 62, 274, 275, 276, 277, 58, 278, 279, 280, 281, 282, 230, 231, 232, 45, 283, 284, 285, 286, 287, 288, 289, 290, 477, 478, 479, 26, 480, 83, 82, 81, 70, 481, 300, 258, 301, 482, 483, 484, 485, 486, 292, 293, 294, 487, 303, 304, 305, 488, 296, 297, 37, 298, 299, 87, 302, 306, 307, 308, 309, 489, 490, 491, 492, 493, 71, 494, 495, 496, 497, 498, 499, 500, 501, 502, 503, 504, 505, 73, 506, 507, 508, 509, 510, 511, 512, 513, 514, 257, 259, 515, 516, 517, 518, 74, 75, 76, 77, 78, 79, 80, 519, 520, 521, 522, 523, 524, 525, 526, 617, 618, 619, 620, 926, 927, 928, 929, 930, 931, 932, 933, 934, 935, 936, 967, 968, 969, 970, 971, 972, 973, 974, 960, 961, 962, 963, 964, 975, 976, 977, 978, 979, 980, 981, 982, 983, 984, 985, 986, 987, 992] (by decide +kernel) (by decide +kernel)
set_option maxRecDepth 20000 in
theorem gL_law_X6_factors : GoodIn wsL_law (wsV RL 84 RX6 yX6_factors wsX6_factors) := goodIn_app (goodIn_of _ (by decide +kernel)) ggL_law_X6_factors
set_option maxRecDepth 20000 in
theorem ggL_law_X7_factors : GoodIn wsL_law wsX7_factors := goodIn_r _ [624, 108, 112, 111, 164, 165, 5, 166, 386, 387, 388, 389, 144, 323, 324, 325, 326, 110, 100, 99, 109, 106, 107, 104, 105, 327, 328, 329, 330, 331, 332, 333, 334, 335, 336, 337, 338, 339, 340, 341, 342, 625, 626, 627, 628, 937, 938, 939, 940, 941, 942, 943, 944, 945, 946, 947, 948, 949, 950, 951, 952, 953, 954, 955, 956, 957, 958, 959] (by decide +kernel) (by decide +kernel)
set_option maxRecDepth 20000 in
theorem gL_law_X7_factors : GoodIn wsL_law (wsV RL 87 RX7 yX7_factors wsX7_factors) := goodIn_app (goodIn_of _ (by decide +kernel)) ggL_law_X7_factors
set_option maxRecDepth 20000 in
theorem ggL_law_X6_kth : GoodIn wsL_law wsX6_kth := goodIn_r _ [632, 31, 23, 27, 610, 611, 2, 612, 613, 614, 615, 616, 371, 372, 373, 374, 15, 40, 260, 261, 262, 22, 263, 65, 63, 64, 60, 59, 61, 264, 124, 125, 14, 126, 47, 127, 128, 129, 130, 49, 265, 157, 158, 159, 48, 266, 267, 268, 269, 46, 270, 271, 272, 273, 62, 274, 275, 276, 277, 58, 278, 279, 280, 281, 282, 230, 231, 232, 45, 283, 284, 285, 286, 287, 288, 289, 290, 477, 478, 479, 26, 480, 83, 82, 81, 70, 481, 300, 258, 301, 482, 483, 484, 485, 486, 292, 293, 294, 487, 303, 304, 305, 488, 296, 297, 37, 298, 299, 87, 302, 306, 307, 308, 309, 489, 490, 491, 492, 493, 71, 494, 495, 496, 497, 498, 499, 500, 501, 502, 503, 504, 505, 73, 506, 507, 508, 509, 510, 511, 512, 513, 514, 257, 259, 515, 516, 517, 518, 74, 75, 76, 77, 78, 79, 80, 519, 520, 521, 522, 523, 524, 525, 526, 633, 634, 635, 30, 636, 94, 93, 92, 91, 637, 638, 639, 640, 641, 642, 643, 644, 645, 646, 647, 648, 649, 650, 451, 651, 464, 652, 291, 653, 654, 655, 656, 657, 658, 659, 660, 661, 662, 663, 664, 665, 666, 667, 668, 669, 670, 671, 672, 673, 674, 675, 676, 19, 677, 678, 679, 18, 680, 681, 192, 193, 194, 54, 682, 683, 399, 400, 401, 53, 926, 927, 928, 929, 930, 931, 932, 933, 934, 935, 936, 967, 968, 969, 970, 971, 972, 973, 974, 960, 961, 962, 963, 964, 975, 976, 977, 978, 979, 980, 981, 982, 983, 984, 985, 986, 987, 992, 988, 989, 990, 991, 965, 966] (by decide +kernel) (by decide +kernel)
set_option maxRecDepth 20000 in
theorem gL_law_X6_kth : GoodIn wsL_law (wsV RL 88 RX6 yX6_kth wsX6_kth) := goodIn_app (goodIn_of _ (by decide +kernel)) ggL_law_X6_kth
set_option maxRecDepth 20000 in
theorem ggL_law_X7_kth : GoodIn wsL_law wsX7_kth := goodIn_r _ [687, 108, 112, 111, 164, 165, 5, 166, 386, 387, 388, 389, 144, 323, 324, 325, 326, 110, 100, 99, 109, 106, 107, 104, 105, 327, 328, 329, 330, 331, 332, 333, 334, 335, 336, 337, 338, 339, 340, 341, 342, 625, 626, 627, 628, 688, 689, 690, 691, 103, 199, 390, 391, 392, 393, 937, 938, 939, 940, 941, 942, 943, 944, 945, 946, 947, 948, 949, 950, 951, 952, 953, 954, 955, 956, 957, 958, 959] (by decide +kernel) (by decide +kernel)
set_option maxRecDepth 20000 in
theorem gL_law_X7_kth : GoodIn wsL_law (wsV RL 91 RX7 yX7_kth wsX7_kth) := goodIn_app (goodIn_of _ (by decide +kernel)) ggL_law_X7_kth
set_option maxRecDepth 20000 in
theorem ggL_law_X6_before : GoodIn wsL_law wsX6_before := goodIn_r _ [695, 31, 23, 32, 438, 439, 440, 2, 441, 19, 426, 427, 428, 18, 429, 54, 175, 176, 177, 178, 53, 154, 155, 442, 443, 444, 22, 445, 64, 58, 446, 180, 181, 182, 447, 448, 449, 450, 65, 63, 62, 451, 300, 258, 301, 452, 257, 259, 59, 60, 61, 453, 188, 189, 190, 371, 372, 373, 374, 15, 40, 260, 261, 262, 263, 264, 124, 125, 14, 126, 47, 127, 128, 129, 130, 49, 265, 157, 158, 159, 48, 266, 267, 268, 269, 46, 270, 271, 272, 273, 274, 275, 276, 277, 278, 279, 280, 281, 282, 230, 231, 232, 45, 283, 284, 285, 286, 287, 288, 289, 290, 633, 634, 635, 30, 636, 94, 93, 92, 91, 637, 483, 484, 485, 638, 292, 293, 294, 639, 640, 641, 642, 643, 644, 645, 646, 647, 648, 649, 650, 651, 524, 525, 526, 464, 303, 304, 305, 652, 696, 697, 698, 699, 700, 701, 702, 703, 704, 705, 706, 926, 927, 928, 929, 930, 931, 932, 933, 934, 935, 936, 965, 966, 967, 968, 969, 970, 971, 972, 973, 974, 960, 961, 962, 963, 964, 988, 989, 990, 991] (by decide +kernel) (by decide +kernel)
set_option maxRecDepth 20000 in
theorem gL_law_X6_before : GoodIn wsL_law (wsV RL 92 RX6 yX6_before wsX6_before) := goodIn_app (goodIn_of _ (by decide +kernel)) ggL_law_X6_before
set_option maxRecDepth 20000 in
theorem ggL_law_X7_before : GoodIn wsL_law wsX7_before := goodIn_r _ [710, 108, 112, 111, 536, 537, 538, 5, 539, 200, 201, 202, 203, 199, 103, 204, 205, 206, 207, 164, 165, 166, 386, 387, 388, 389, 144, 323, 324, 325, 326, 110, 100, 99, 109, 106, 107, 104, 105, 327, 328, 329, 330, 331, 332, 333, 334, 335, 336, 337, 338, 339, 340, 341, 342, 711, 712, 713, 714, 390, 391, 392, 393, 937, 938, 939, 940, 941, 942, 943, 944, 945, 946, 947, 948, 949, 950, 951, 952, 953, 954, 955, 956, 957, 958, 959] (by decide +kernel) (by decide +kernel)
set_option maxRecDepth 20000 in
theorem gL_law_X7_before : GoodIn wsL_law (wsV RL 95 RX7 yX7_before wsX7_before) := goodIn_app (goodIn_of _ (by decide +kernel)) ggL_law_X7_before
set_option maxRecDepth 20000 in
theorem ggL_law_X6_group : GoodIn wsL_law wsX6_group := goodIn_r _ [718, 27, 23, 613, 614, 615, 2, 616, 371, 372, 373, 374, 15, 40, 260, 261, 262, 22, 263, 65, 63, 64, 60, 59, 61, 264, 124, 125, 14, 126, 47, 127, 128, 129, 130, 49, 265, 157, 158, 159, 48, 266, 267, 268, 269, 46, 270, 271, 272, 273, 62, 274, 275, 276, 277, 58, 278, 279, 280, 281, 282, 230, 231, 232, 45, 283, 284, 285, 286, 287, 288, 289, 290, 477, 478, 479, 26, 480, 83, 82, 81, 70, 481, 300, 258, 301, 482, 483, 484, 485, 486, 292, 293, 294, 487, 303, 304, 305, 488, 296, 297, 37, 298, 299, 87, 302, 306, 307, 308, 309, 489, 490, 491, 492, 493, 71, 494, 495, 496, 497, 498, 499, 500, 501, 502, 503, 504, 505, 73, 506, 507, 508, 509, 510, 511, 512, 513, 514, 257, 259, 515, 516, 517, 518, 74, 75, 76, 77, 78, 79, 80, 519, 520, 521, 522, 523, 524, 525, 526, 719, 670, 671, 672, 720, 721, 722, 723, 669, 724, 725, 726, 727, 728, 666, 667, 668, 729, 730, 731, 732, 733, 734, 735, 736, 737, 738, 739, 740, 741, 742, 743, 744, 573, 574, 575, 576, 577, 462, 926, 927, 928, 929, 930, 931, 932, 933, 934, 935, 936, 967, 968, 969, 970, 971, 972, 973, 974, 960, 961, 962, 963, 964, 975, 976, 977, 978, 979, 980, 981, 982, 983, 984, 985, 986, 987, 992] (by decide +kernel) (by decide +kernel)
set_option maxRecDepth 20000 in
theorem gL_law_X6_group : GoodIn wsL_law (wsV RL 96 RX6 yX6_group wsX6_group) := goodIn_app (goodIn_of _ (by decide +kernel)) ggL_law_X6_group
set_option maxRecDepth 20000 in
theorem ggL_law_X7_group : GoodIn wsL_law wsX7_group := goodIn_r _ [748, 115, 114, 116, 113, 749, 750, 751, 5, 752, 548, 386, 387, 388, 389, 144, 323, 324, 325, 326, 110, 100, 99, 108, 109, 106, 107, 104, 105, 544, 545, 546, 547, 549, 550, 551, 552, 553, 554, 555, 556, 335, 336, 337, 338, 339, 340, 341, 342, 557, 558, 559, 560, 164, 165, 166, 753, 754, 755, 756, 561, 562, 563, 564, 757, 758, 759, 760, 761, 762, 763, 764, 390, 391, 392, 393, 765, 766, 767, 768, 582, 583, 584, 585, 937, 938, 939, 940, 941, 942, 943, 944, 945, 946, 947, 948, 949, 950, 951, 952, 953, 954, 955, 956, 957, 958, 959] (by decide +kernel) (by decide +kernel)
set_option maxRecDepth 20000 in
theorem gL_law_X7_group : GoodIn wsL_law (wsV RL 99 RX7 yX7_group wsX7_group) := goodIn_app (goodIn_of _ (by decide +kernel)) ggL_law_X7_group
set_option maxRecDepth 20000 in
theorem ggL_law_X6_spell : GoodIn wsL_law wsX6_spell := goodIn_r _ [772, 27, 613, 614, 615, 2, 616, 23, 371, 372, 373, 374, 15, 40, 260, 261, 262, 22, 263, 65, 63, 64, 60, 59, 61, 264, 124, 125, 14, 126, 47, 127, 128, 129, 130, 49, 265, 157, 158, 159, 48, 266, 267, 268, 269, 46, 270, 271, 272, 273, 62, 274, 275, 276, 277, 58, 278, 279, 280, 281, 282, 230, 231, 232, 45, 283, 284, 285, 286, 287, 288, 289, 290, 477, 478, 479, 26, 480, 83, 82, 81, 70, 481, 300, 258, 301, 482, 483, 484, 485, 486, 292, 293, 294, 487, 303, 304, 305, 488, 296, 297, 37, 298, 299, 87, 302, 306, 307, 308, 309, 489, 490, 491, 492, 493, 71, 494, 495, 496, 497, 498, 499, 500, 501, 502, 503, 504, 505, 73, 506, 507, 508, 509, 510, 511, 512, 513, 514, 257, 259, 515, 516, 517, 518, 74, 75, 76, 77, 78, 79, 80, 519, 520, 521, 522, 523, 524, 525, 526, 719, 670, 671, 672, 773, 774, 775, 776, 777, 742, 743, 744, 669, 778, 721, 722, 723, 720, 673, 674, 675, 676, 19, 677, 678, 679, 18, 680, 681, 192, 193, 194, 54, 682, 683, 399, 400, 401, 53, 926, 927, 928, 929, 930, 931, 932, 933, 934, 935, 936, 967, 968, 969, 970, 971, 972, 973, 974, 960, 961, 962, 963, 964, 975, 976, 977, 978, 979, 980, 981, 982, 983, 984, 985, 986, 987, 992, 965, 966] (by decide +kernel) (by decide +kernel)
set_option maxRecDepth 20000 in
theorem gL_law_X6_spell : GoodIn wsL_law (wsV RL 100 RX6 yX6_spell wsX6_spell) := goodIn_app (goodIn_of _ (by decide +kernel)) ggL_law_X6_spell
set_option maxRecDepth 20000 in
theorem ggL_law_X7_spell : GoodIn wsL_law wsX7_spell := goodIn_r _ [782, 115, 749, 750, 751, 5, 752, 548, 386, 387, 388, 389, 144, 323, 324, 325, 326, 110, 100, 99, 108, 109, 106, 107, 104, 105, 544, 545, 546, 547, 113, 114, 116, 549, 550, 551, 552, 553, 554, 555, 556, 335, 336, 337, 338, 339, 340, 341, 342, 557, 558, 559, 560, 164, 165, 166, 757, 758, 759, 760, 688, 689, 690, 691, 103, 199, 390, 391, 392, 393, 937, 938, 939, 940, 941, 942, 943, 944, 945, 946, 947, 948, 949, 950, 951, 952, 953, 954, 955, 956, 957, 958, 959] (by decide +kernel) (by decide +kernel)
set_option maxRecDepth 20000 in
theorem gL_law_X7_spell : GoodIn wsL_law (wsV RL 103 RX7 yX7_spell wsX7_spell) := goodIn_app (goodIn_of _ (by decide +kernel)) ggL_law_X7_spell
set_option maxRecDepth 20000 in
theorem ggL_law_X6_step : GoodIn wsL_law wsX6_step := goodIn_r _ [786, 27, 23, 613, 614, 615, 2, 616, 371, 372, 373, 374, 15, 40, 260, 261, 262, 22, 263, 65, 63, 64, 60, 59, 61, 264, 124, 125, 14, 126, 47, 127, 128, 129, 130, 49, 265, 157, 158, 159, 48, 266, 267, 268, 269, 46, 270, 271, 272, 273, 62, 274, 275, 276, 277, 58, 278, 279, 280, 281, 282, 230, 231, 232, 45, 283, 284, 285, 286, 287, 288, 289, 290, 477, 478, 479, 26, 480, 83, 82, 81, 70, 481, 300, 258, 301, 482, 483, 484, 485, 486, 292, 293, 294, 487, 303, 304, 305, 488, 296, 297, 37, 298, 299, 87, 302, 306, 307, 308, 309, 489, 490, 491, 492, 493, 71, 494, 495, 496, 497, 498, 499, 500, 501, 502, 503, 504, 505, 73, 506, 507, 508, 509, 510, 511, 512, 513, 514, 257, 259, 515, 516, 517, 518, 74, 75, 76, 77, 78, 79, 80, 519, 520, 521, 522, 523, 524, 525, 526, 719, 670, 671, 672, 153, 154, 155, 787, 788, 789, 790, 778, 721, 722, 723, 669, 777, 742, 743, 744, 791, 792, 793, 794, 464, 926, 927, 928, 929, 930, 931, 932, 933, 934, 935, 936, 967, 968, 969, 970, 971, 972, 973, 974, 960, 961, 962, 963, 964, 975, 976, 977, 978, 979, 980, 981, 982, 983, 984, 985, 986, 987, 992] (by decide +kernel) (by decide +kernel)
set_option maxRecDepth 20000 in
theorem gL_law_X6_step : GoodIn wsL_law (wsV RL 104 RX6 yX6_step wsX6_step) := goodIn_app (goodIn_of _ (by decide +kernel)) ggL_law_X6_step
set_option maxRecDepth 20000 in
theorem ggL_law_X7_step : GoodIn wsL_law wsX7_step := goodIn_r _ [798, 115, 108, 749, 750, 751, 5, 752, 548, 386, 387, 388, 389, 144, 323, 324, 325, 326, 110, 100, 99, 109, 106, 107, 104, 105, 544, 545, 546, 547, 113, 114, 116, 549, 550, 551, 552, 553, 554, 555, 556, 335, 336, 337, 338, 339, 340, 341, 342, 557, 558, 559, 560, 164, 165, 166, 390, 391, 392, 393, 757, 758, 759, 760, 561, 562, 563, 564, 937, 938, 939, 940, 941, 942, 943, 944, 945, 946, 947, 948, 949, 950, 951, 952, 953, 954, 955, 956, 957, 958, 959] (by decide +kernel) (by decide +kernel)
set_option maxRecDepth 20000 in
theorem gL_law_X7_step : GoodIn wsL_law (wsV RL 107 RX7 yX7_step wsX7_step) := goodIn_app (goodIn_of _ (by decide +kernel)) ggL_law_X7_step
set_option maxRecDepth 20000 in
theorem ggL_law_X6_common : GoodIn wsL_law wsX6_common := goodIn_r _ [802, 27, 23, 803, 804, 805, 2, 806, 15, 40, 123, 124, 125, 14, 126, 47, 127, 128, 129, 130, 49, 613, 614, 615, 616, 371, 372, 373, 374, 260, 261, 262, 22, 263, 65, 63, 64, 60, 59, 61, 264, 265, 157, 158, 159, 48, 266, 267, 268, 269, 46, 270, 271, 272, 273, 62, 274, 275, 276, 277, 58, 278, 279, 280, 281, 282, 230, 231, 232, 45, 283, 284, 285, 286, 287, 288, 289, 290, 477, 478, 479, 26, 480, 83, 82, 81, 70, 481, 300, 258, 301, 482, 483, 484, 485, 486, 292, 293, 294, 487, 303, 304, 305, 488, 296, 297, 37, 298, 299, 87, 302, 306, 307, 308, 309, 489, 490, 491, 492, 493, 71, 494, 495, 496, 497, 498, 499, 500, 501, 502, 503, 504, 505, 73, 506, 507, 508, 509, 510, 511, 512, 513, 514, 257, 259, 515, 516, 517, 518, 74, 75, 76, 77, 78, 79, 80, 519, 520, 521, 522, 523, 524, 525, 526, 807, 808, 809, 810, 811, 812, 813, 814, 815, 816, 817, 818, 774, 775, 776, 777, 742, 743, 744, 669, 670, 671, 672, 778, 721, 722, 723, 819, 644, 645, 646, 647, 648, 649, 650, 451, 651, 464, 773, 720, 673, 674, 675, 676, 19, 677, 678, 679, 18, 680, 681, 192, 193, 194, 54, 682, 683, 399, 400, 401, 53, 926, 927, 928, 929, 930, 931, 932, 933, 934, 935, 936, 960, 961, 962, 963, 964, 967, 968, 969, 970, 971, 972, 973, 974, 975, 976, 977, 978, 979, 980, 981, 982, 983, 984, 985, 986, 987, 992, 965, 966] (by decide +kernel) (by decide +kernel)
set_option maxRecDepth 20000 in
theorem gL_law_X6_common : GoodIn wsL_law (wsV RL 108 RX6 yX6_common wsX6_common) := goodIn_app (goodIn_of _ (by decide +kernel)) ggL_law_X6_common
set_option maxRecDepth 20000 in
theorem ggL_law_X7_common : GoodIn wsL_law wsX7_common := goodIn_r _ [823, 108, 112, 111, 824, 825, 826, 5, 827, 101, 144, 164, 165, 166, 386, 387, 388, 389, 323, 324, 325, 326, 110, 100, 99, 109, 106, 107, 104, 105, 327, 328, 329, 330, 331, 332, 333, 334, 335, 336, 337, 338, 339, 340, 341, 342, 828, 829, 830, 831, 625, 626, 627, 628, 832, 833, 834, 688, 689, 690, 691, 103, 199, 390, 391, 392, 393, 937, 938, 939, 940, 941, 942, 943, 944, 945, 946, 947, 948, 949, 950, 951, 952, 953, 954, 955, 956, 957, 958, 959] (by decide +kernel) (by decide +kernel)
set_option maxRecDepth 20000 in
theorem gL_law_X7_common : GoodIn wsL_law (wsV RL 111 RX7 yX7_common wsX7_common) := goodIn_app (goodIn_of _ (by decide +kernel)) ggL_law_X7_common
set_option maxRecDepth 20000 in
theorem ggL_law_X6_unique : GoodIn wsL_law wsX6_unique := goodIn_r _ [838, 27, 23, 803, 804, 805, 2, 806, 15, 40, 123, 124, 125, 14, 126, 47, 127, 128, 129, 130, 49, 613, 614, 615, 616, 371, 372, 373, 374, 260, 261, 262, 22, 263, 65, 63, 64, 60, 59, 61, 264, 265, 157, 158, 159, 48, 266, 267, 268, 269, 46, 270, 271, 272, 273, 62, 274, 275, 276, 277, 58, 278, 279, 280, 281, 282, 230, 231, 232, 45, 283, 284, 285, 286, 287, 288, 289, 290, 477, 478, 479, 26, 480, 83, 82, 81, 70, 481, 300, 258, 301, 482, 483, 484, 485, 486, 292, 293, 294, 487, 303, 304, 305, 488, 296, 297, 37, 298, 299, 87, 302, 306, 307, 308, 309, 489, 490, 491, 492, 493, 71, 494, 495, 496, 497, 498, 499, 500, 501, 502, 503, 504, 505, 73, 506, 507, 508, 509, 510, 511, 512, 513, 514, 257, 259, 515, 516, 517, 518, 74, 75, 76, 77, 78, 79, 80, 519, 520, 521, 522, 523, 524, 525, 526, 839, 840, 841, 842, 843, 844, 845, 846, 777, 742, 743, 744, 669, 670, 671, 672, 847, 725, 726, 727, 819, 644, 645, 646, 647, 648, 649, 650, 451, 651, 464, 848, 724, 673, 674, 675, 676, 19, 677, 678, 679, 18, 680, 681, 192, 193, 194, 54, 682, 683, 399, 400, 401, 53, 926, 927, 928, 929, 930, 931, 932, 933, 934, 935, 936, 960, 961, 962, 963, 964, 967, 968, 969, 970, 971, 972, 973, 974, 975, 976, 977, 978, 979, 980, 981, 982, 983, 984, 985, 986, 987, 992, 965, 966] (by decide +kernel) (by decide +kernel)
set_option maxRecDepth 20000 in
theorem gL_law_X6_unique : GoodIn wsL_law (wsV RL 112 RX6 yX6_unique wsX6_unique) := goodIn_app (goodIn_of _ (by decide +kernel)) ggL_law_X6_unique
set_option maxRecDepth 20000 in
theorem ggL_law_X7_unique : GoodIn wsL_law wsX7_unique := goodIn_r _ [852, 108, 112, 111, 824, 825, 826, 5, 827, 101, 144, 164, 165, 166, 386, 387, 388, 389, 323, 324, 325, 326, 110, 100, 99, 109, 106, 107, 104, 105, 327, 328, 329, 330, 331, 332, 333, 334, 335, 336, 337, 338, 339, 340, 341, 342, 828, 829, 830, 831, 625, 626, 627, 628, 688, 689, 690, 691, 103, 199, 390, 391, 392, 393, 937, 938, 939, 940, 941, 942, 943, 944, 945, 946, 947, 948, 949, 950, 951, 952, 953, 954, 955, 956, 957, 958, 959] (by decide +kernel) (by decide +kernel)
set_option maxRecDepth 20000 in
theorem gL_law_X7_unique : GoodIn wsL_law (wsV RL 115 RX7 yX7_unique wsX7_unique) := goodIn_app (goodIn_of _ (by decide +kernel)) ggL_law_X7_unique
set_option maxRecDepth 20000 in
theorem ggL_law_X6_absent : GoodIn wsL_law wsX6_absent := goodIn_r _ [856, 32, 23, 19, 371, 372, 373, 2, 374, 15, 40, 260, 261, 262, 22, 263, 65, 63, 64, 60, 59, 61, 264, 124, 125, 14, 126, 47, 127, 128, 129, 130, 49, 265, 157, 158, 159, 48, 266, 267, 268, 269, 46, 270, 271, 272, 273, 62, 274, 275, 276, 277, 58, 278, 279, 280, 281, 282, 230, 231, 232, 45, 283, 284, 285, 286, 287, 288, 289, 290, 857, 858, 859, 860, 447, 448, 449, 450, 451, 300, 258, 301, 452, 257, 259, 473, 474, 475, 476, 458, 459, 460, 461, 462, 307, 308, 309, 463, 292, 293, 294, 464, 303, 304, 305, 677, 678, 679, 18, 680, 681, 192, 193, 194, 54, 682, 683, 399, 400, 401, 53, 861, 862, 863, 864, 926, 927, 928, 929, 930, 931, 932, 933, 934, 935, 936, 967, 968, 969, 970, 971, 972, 973, 974, 960, 961, 962, 963, 964, 965, 966] (by decide +kernel) (by decide +kernel)
set_option maxRecDepth 20000 in
theorem gL_law_X6_absent : GoodIn wsL_law (wsV RL 116 RX6 yX6_absent wsX6_absent) := goodIn_app (goodIn_of _ (by decide +kernel)) ggL_law_X6_absent
set_option maxRecDepth 20000 in
theorem ggL_law_X7_absent : GoodIn wsL_law wsX7_absent := goodIn_r _ [868, 117, 103, 199, 164, 165, 5, 166, 386, 387, 388, 389, 144, 323, 324, 325, 326, 110, 100, 99, 108, 109, 106, 107, 104, 105, 869, 870, 871, 872, 339, 340, 341, 342, 390, 391, 392, 393, 873, 874, 875, 876, 937, 938, 939, 940, 941, 942, 943, 944, 945, 946, 947, 948, 949, 950, 951, 952, 953, 954, 955, 956, 957, 958, 959] (by decide +kernel) (by decide +kernel)
set_option maxRecDepth 20000 in
theorem gL_law_X7_absent : GoodIn wsL_law (wsV RL 119 RX7 yX7_absent wsX7_absent) := goodIn_app (goodIn_of _ (by decide +kernel)) ggL_law_X7_absent
set_option maxRecDepth 20000 in
theorem ggL_law_X6_minimal : GoodIn wsL_law wsX6_minimal := goodIn_r _ [880, 27, 613, 614, 615, 2, 616, 23, 371, 372, 373, 374, 15, 40, 260, 261, 262, 22, 263, 65, 63, 64, 60, 59, 61, 264, 124, 125, 14, 126, 47, 127, 128, 129, 130, 49, 265, 157, 158, 159, 48, 266, 267, 268, 269, 46, 270, 271, 272, 273, 62, 274, 275, 276, 277, 58, 278, 279, 280, 281, 282, 230, 231, 232, 45, 283, 284, 285, 286, 287, 288, 289, 290, 477, 478, 479, 26, 480, 83, 82, 81, 70, 481, 300, 258, 301, 482, 483, 484, 485, 486, 292, 293, 294, 487, 303, 304, 305, 488, 296, 297, 37, 298, 299, 87, 302, 306, 307, 308, 309, 489, 490, 491, 492, 493, 71, 494, 495, 496, 497, 498, 499, 500, 501, 502, 503, 504, 505, 73, 506, 507, 508, 509, 510, 511, 512, 513, 514, 257, 259, 515, 516, 517, 518, 74, 75, 76, 77, 78, 79, 80, 519, 520, 521, 522, 523, 524, 525, 526, 881, 882, 883, 884, 885, 734, 735, 736, 669, 670, 671, 672, 811, 812, 813, 814, 815, 816, 817, 926, 927, 928, 929, 930, 931, 932, 933, 934, 935, 936, 967, 968, 969, 970, 971, 972, 973, 974, 960, 961, 962, 963, 964, 975, 976, 977, 978, 979, 980, 981, 982, 983, 984, 985, 986, 987, 992] (by decide +kernel) (by decide +kernel)
set_option maxRecDepth 20000 in
theorem gL_law_X6_minimal : GoodIn wsL_law (wsV RL 120 RX6 yX6_minimal wsX6_minimal) := goodIn_app (goodIn_of _ (by decide +kernel)) ggL_law_X6_minimal
set_option maxRecDepth 20000 in
theorem ggL_law_X7_minimal : GoodIn wsL_law wsX7_minimal := goodIn_r _ [889, 108, 112, 111, 386, 387, 388, 5, 389, 144, 323, 324, 325, 326, 110, 100, 99, 109, 106, 107, 104, 105, 327, 328, 329, 330, 331, 332, 333, 334, 335, 336, 337, 338, 339, 340, 341, 342, 890, 891, 892, 893, 390, 391, 392, 393, 761, 762, 763, 764, 553, 554, 555, 556, 832, 833, 834, 937, 938, 939, 940, 941, 942, 943, 944, 945, 946, 947, 948, 949, 950, 951, 952, 953, 954, 955, 956, 957, 958, 959] (by decide +kernel) (by decide +kernel)
set_option maxRecDepth 20000 in
theorem gL_law_X7_minimal : GoodIn wsL_law (wsV RL 123 RX7 yX7_minimal wsX7_minimal) := goodIn_app (goodIn_of _ (by decide +kernel)) ggL_law_X7_minimal
set_option maxRecDepth 20000 in
theorem ggL_law_X6_count : GoodIn wsL_law wsX6_count := goodIn_r _ [897, 40, 15, 27, 613, 614, 615, 2, 616, 23, 371, 372, 373, 374, 260, 261, 262, 22, 263, 65, 63, 64, 60, 59, 61, 264, 124, 125, 14, 126, 47, 127, 128, 129, 130, 49, 265, 157, 158, 159, 48, 266, 267, 268, 269, 46, 270, 271, 272, 273, 62, 274, 275, 276, 277, 58, 278, 279, 280, 281, 282, 230, 231, 232, 45, 283, 284, 285, 286, 287, 288, 289, 290, 477, 478, 479, 26, 480, 83, 82, 81, 70, 481, 300, 258, 301, 482, 483, 484, 485, 486, 292, 293, 294, 487, 303, 304, 305, 488, 296, 297, 37, 298, 299, 87, 302, 306, 307, 308, 309, 489, 490, 491, 492, 493, 71, 494, 495, 496, 497, 498, 499, 500, 501, 502, 503, 504, 505, 73, 506, 507, 508, 509, 510, 511, 512, 513, 514, 257, 259, 515, 516, 517, 518, 74, 75, 76, 77, 78, 79, 80, 519, 520, 521, 522, 523, 524, 525, 526, 898, 899, 900, 901, 123, 156, 902, 903, 904, 905, 906, 907, 908, 909, 811, 812, 813, 814, 815, 816, 817, 910, 911, 912, 913, 926, 927, 928, 929, 930, 931, 932, 933, 934, 935, 936, 967, 968, 969, 970, 971, 972, 973, 974, 960, 961, 962, 963, 964, 975, 976, 977, 978, 979, 980, 981, 982, 983, 984, 985, 986, 987, 992] (by decide +kernel) (by decide +kernel)
set_option maxRecDepth 20000 in
theorem gL_law_X6_count : GoodIn wsL_law (wsV RL 124 RX6 yX6_count wsX6_count) := goodIn_app (goodIn_of _ (by decide +kernel)) ggL_law_X6_count
set_option maxRecDepth 20000 in
theorem ggL_law_X7_count : GoodIn wsL_law wsX7_count := goodIn_r _ [917, 144, 118, 101, 102, 548, 164, 165, 5, 166, 386, 387, 388, 389, 323, 324, 325, 326, 110, 100, 99, 108, 109, 106, 107, 104, 105, 327, 328, 329, 330, 111, 112, 331, 332, 333, 334, 335, 336, 337, 338, 339, 340, 341, 342, 544, 545, 546, 547, 113, 114, 116, 115, 549, 550, 551, 552, 553, 554, 555, 556, 557, 558, 559, 560, 918, 919, 920, 921, 890, 891, 892, 893, 390, 391, 392, 393, 832, 833, 834, 757, 758, 759, 760, 761, 762, 763, 764, 922, 923, 924, 925, 937, 938, 939, 940, 941, 942, 943, 944, 945, 946, 947, 948, 949, 950, 951, 952, 953, 954, 955, 956, 957, 958, 959] (by decide +kernel) (by decide +kernel)
set_option maxRecDepth 20000 in
theorem gL_law_X7_count : GoodIn wsL_law (wsV RL 127 RX7 yX7_count wsX7_count) := goodIn_app (goodIn_of _ (by decide +kernel)) ggL_law_X7_count
theorem dL_law_0 : decode cL_law 0 = .ok (.new 7, 3) := by decide +kernel
theorem dL_law_3 : decode cL_law 3 = .ok (.dup, 1) := by decide +kernel
theorem dL_law_4 : decode cL_law 4 = .ok (.invokespecial 9, 3) := by decide +kernel
theorem dL_law_7 : decode cL_law 7 = .ok (.astore_n 1, 1) := by decide +kernel
theorem dL_law_8 : decode cL_law 8 = .ok (.new 10, 3) := by decide +kernel
theorem dL_law_11 : decode cL_law 11 = .ok (.dup, 1) := by decide +kernel
theorem dL_law_12 : decode cL_law 12 = .ok (.invokespecial 12, 3) := by decide +kernel
theorem dL_law_15 : decode cL_law 15 = .ok (.astore_n 2, 1) := by decide +kernel
theorem dL_law_16 : decode cL_law 16 = .ok (.iconst 0, 1) := by decide +kernel
theorem dL_law_17 : decode cL_law 17 = .ok (.istore_n 3, 1) := by decide +kernel
theorem dL_law_18 : decode cL_law 18 = .ok (.iload_n 3, 1) := by decide +kernel
theorem dL_law_19 : decode cL_law 19 = .ok (.aload_n 0, 1) := by decide +kernel
theorem dL_law_20 : decode cL_law 20 = .ok (.arraylength, 1) := by decide +kernel
theorem dL_law_21 : decode cL_law 21 = .ok (.iconst 3, 1) := by decide +kernel
theorem dL_law_22 : decode cL_law 22 = .ok (.isub, 1) := by decide +kernel
theorem dL_law_23 : decode cL_law 23 = .ok (.if_icmp .gt 817, 3) := by decide +kernel
theorem dL_law_26 : decode cL_law 26 = .ok (.aload_n 0, 1) := by decide +kernel
theorem dL_law_27 : decode cL_law 27 = .ok (.iload_n 3, 1) := by decide +kernel
theorem dL_law_28 : decode cL_law 28 = .ok (.iaload, 1) := by decide +kernel
theorem dL_law_29 : decode cL_law 29 = .ok (.bipush 31, 2) := by decide +kernel
theorem dL_law_31 : decode cL_law 31 = .ok (.iand, 1) := by decide +kernel
theorem dL_law_32 : decode cL_law 32 = .ok (.tableswitch 802 0 27 #[128, 141, 164, 177, 200, 223, 256, 289, 322, 355, 378, 391, 414, 437, 460, 483, 506, 519, 552, 585, 598, 631, 654, 687, 720, 743, 766, 779], 128) := by decide +kernel
theorem dL_law_160 : decode cL_law 160 = .ok (.aload_n 1, 1) := by decide +kernel
theorem dL_law_161 : decode cL_law 161 = .ok (.invokevirtual 13, 3) := by decide +kernel
theorem dL_law_164 : decode cL_law 164 = .ok (.aload_n 2, 1) := by decide +kernel
theorem dL_law_165 : decode cL_law 165 = .ok (.invokevirtual 17, 3) := by decide +kernel
theorem dL_law_168 : decode cL_law 168 = .ok (.if_icmp .eq 666, 3) := by decide +kernel
theorem dL_law_171 : decode cL_law 171 = .ok (.iconst 0, 1) := by decide +kernel
theorem dL_law_172 : decode cL_law 172 = .ok (.ireturn, 1) := by decide +kernel
theorem dL_law_173 : decode cL_law 173 = .ok (.aload_n 1, 1) := by decide +kernel
theorem dL_law_174 : decode cL_law 174 = .ok (.aload_n 0, 1) := by decide +kernel
theorem dL_law_175 : decode cL_law 175 = .ok (.iload_n 3, 1) := by decide +kernel
theorem dL_law_176 : decode cL_law 176 = .ok (.iconst 1, 1) := by decide +kernel
theorem dL_law_177 : decode cL_law 177 = .ok (.iadd, 1) := by decide +kernel
theorem dL_law_178 : decode cL_law 178 = .ok (.iaload, 1) := by decide +kernel
theorem dL_law_179 : decode cL_law 179 = .ok (.invokevirtual 18, 3) := by decide +kernel
theorem dL_law_182 : decode cL_law 182 = .ok (.aload_n 2, 1) := by decide +kernel
theorem dL_law_183 : decode cL_law 183 = .ok (.aload_n 0, 1) := by decide +kernel
theorem dL_law_184 : decode cL_law 184 = .ok (.iload_n 3, 1) := by decide +kernel
theorem dL_law_185 : decode cL_law 185 = .ok (.iconst 1, 1) := by decide +kernel
theorem dL_law_186 : decode cL_law 186 = .ok (.iadd, 1) := by decide +kernel
theorem dL_law_187 : decode cL_law 187 = .ok (.iaload, 1) := by decide +kernel
theorem dL_law_188 : decode cL_law 188 = .ok (.invokevirtual 22, 3) := by decide +kernel
theorem dL_law_191 : decode cL_law 191 = .ok (.if_icmp .eq 643, 3) := by decide +kernel
theorem dL_law_194 : decode cL_law 194 = .ok (.iconst 0, 1) := by decide +kernel
theorem dL_law_195 : decode cL_law 195 = .ok (.ireturn, 1) := by decide +kernel
theorem dL_law_196 : decode cL_law 196 = .ok (.aload_n 1, 1) := by decide +kernel
theorem dL_law_197 : decode cL_law 197 = .ok (.invokevirtual 23, 3) := by decide +kernel
theorem dL_law_200 : decode cL_law 200 = .ok (.aload_n 2, 1) := by decide +kernel
theorem dL_law_201 : decode cL_law 201 = .ok (.invokevirtual 26, 3) := by decide +kernel
theorem dL_law_204 : decode cL_law 204 = .ok (.if_icmp .eq 630, 3) := by decide +kernel
theorem dL_law_207 : decode cL_law 207 = .ok (.iconst 0, 1) := by decide +kernel
theorem dL_law_208 : decode cL_law 208 = .ok (.ireturn, 1) := by decide +kernel
theorem dL_law_209 : decode cL_law 209 = .ok (.aload_n 1, 1) := by decide +kernel
theorem dL_law_210 : decode cL_law 210 = .ok (.aload_n 0, 1) := by decide +kernel
theorem dL_law_211 : decode cL_law 211 = .ok (.iload_n 3, 1) := by decide +kernel
theorem dL_law_212 : decode cL_law 212 = .ok (.iconst 1, 1) := by decide +kernel
theorem dL_law_213 : decode cL_law 213 = .ok (.iadd, 1) := by decide +kernel
theorem dL_law_214 : decode cL_law 214 = .ok (.iaload, 1) := by decide +kernel
theorem dL_law_215 : decode cL_law 215 = .ok (.invokevirtual 27, 3) := by decide +kernel
theorem dL_law_218 : decode cL_law 218 = .ok (.aload_n 2, 1) := by decide +kernel
theorem dL_law_219 : decode cL_law 219 = .ok (.aload_n 0, 1) := by decide +kernel
theorem dL_law_220 : decode cL_law 220 = .ok (.iload_n 3, 1) := by decide +kernel
theorem dL_law_221 : decode cL_law 221 = .ok (.iconst 1, 1) := by decide +kernel
theorem dL_law_222 : decode cL_law 222 = .ok (.iadd, 1) := by decide +kernel
theorem dL_law_223 : decode cL_law 223 = .ok (.iaload, 1) := by decide +kernel
theorem dL_law_224 : decode cL_law 224 = .ok (.invokevirtual 30, 3) := by decide +kernel
theorem dL_law_227 : decode cL_law 227 = .ok (.if_icmp .eq 607, 3) := by decide +kernel
theorem dL_law_230 : decode cL_law 230 = .ok (.iconst 0, 1) := by decide +kernel
theorem dL_law_231 : decode cL_law 231 = .ok (.ireturn, 1) := by decide +kernel
theorem dL_law_232 : decode cL_law 232 = .ok (.aload_n 1, 1) := by decide +kernel
theorem dL_law_233 : decode cL_law 233 = .ok (.aload_n 0, 1) := by decide +kernel
theorem dL_law_234 : decode cL_law 234 = .ok (.iload_n 3, 1) := by decide +kernel
theorem dL_law_235 : decode cL_law 235 = .ok (.iconst 1, 1) := by decide +kernel
theorem dL_law_236 : decode cL_law 236 = .ok (.iadd, 1) := by decide +kernel
theorem dL_law_237 : decode cL_law 237 = .ok (.iaload, 1) := by decide +kernel
theorem dL_law_238 : decode cL_law 238 = .ok (.invokevirtual 31, 3) := by decide +kernel
theorem dL_law_241 : decode cL_law 241 = .ok (.aload_n 2, 1) := by decide +kernel
theorem dL_law_242 : decode cL_law 242 = .ok (.aload_n 0, 1) := by decide +kernel
theorem dL_law_243 : decode cL_law 243 = .ok (.iload_n 3, 1) := by decide +kernel
theorem dL_law_244 : decode cL_law 244 = .ok (.iconst 1, 1) := by decide +kernel
theorem dL_law_245 : decode cL_law 245 = .ok (.iadd, 1) := by decide +kernel
theorem dL_law_246 : decode cL_law 246 = .ok (.iaload, 1) := by decide +kernel
theorem dL_law_247 : decode cL_law 247 = .ok (.invokevirtual 34, 3) := by decide +kernel
theorem dL_law_250 : decode cL_law 250 = .ok (.if_icmp .eq 584, 3) := by decide +kernel
theorem dL_law_253 : decode cL_law 253 = .ok (.iconst 0, 1) := by decide +kernel
theorem dL_law_254 : decode cL_law 254 = .ok (.ireturn, 1) := by decide +kernel
theorem dL_law_255 : decode cL_law 255 = .ok (.aload_n 1, 1) := by decide +kernel
theorem dL_law_256 : decode cL_law 256 = .ok (.aload_n 0, 1) := by decide +kernel
theorem dL_law_257 : decode cL_law 257 = .ok (.iload_n 3, 1) := by decide +kernel
theorem dL_law_258 : decode cL_law 258 = .ok (.iconst 1, 1) := by decide +kernel
theorem dL_law_259 : decode cL_law 259 = .ok (.iadd, 1) := by decide +kernel
theorem dL_law_260 : decode cL_law 260 = .ok (.iaload, 1) := by decide +kernel
theorem dL_law_261 : decode cL_law 261 = .ok (.aload_n 0, 1) := by decide +kernel
theorem dL_law_262 : decode cL_law 262 = .ok (.iload_n 3, 1) := by decide +kernel
theorem dL_law_263 : decode cL_law 263 = .ok (.iconst 2, 1) := by decide +kernel
theorem dL_law_264 : decode cL_law 264 = .ok (.iadd, 1) := by decide +kernel
theorem dL_law_265 : decode cL_law 265 = .ok (.iaload, 1) := by decide +kernel
theorem dL_law_266 : decode cL_law 266 = .ok (.invokevirtual 35, 3) := by decide +kernel
theorem dL_law_269 : decode cL_law 269 = .ok (.aload_n 2, 1) := by decide +kernel
theorem dL_law_270 : decode cL_law 270 = .ok (.aload_n 0, 1) := by decide +kernel
theorem dL_law_271 : decode cL_law 271 = .ok (.iload_n 3, 1) := by decide +kernel
theorem dL_law_272 : decode cL_law 272 = .ok (.iconst 1, 1) := by decide +kernel
theorem dL_law_273 : decode cL_law 273 = .ok (.iadd, 1) := by decide +kernel
theorem dL_law_274 : decode cL_law 274 = .ok (.iaload, 1) := by decide +kernel
theorem dL_law_275 : decode cL_law 275 = .ok (.aload_n 0, 1) := by decide +kernel
theorem dL_law_276 : decode cL_law 276 = .ok (.iload_n 3, 1) := by decide +kernel
theorem dL_law_277 : decode cL_law 277 = .ok (.iconst 2, 1) := by decide +kernel
theorem dL_law_278 : decode cL_law 278 = .ok (.iadd, 1) := by decide +kernel
theorem dL_law_279 : decode cL_law 279 = .ok (.iaload, 1) := by decide +kernel
theorem dL_law_280 : decode cL_law 280 = .ok (.invokevirtual 39, 3) := by decide +kernel
theorem dL_law_283 : decode cL_law 283 = .ok (.if_icmp .eq 551, 3) := by decide +kernel
theorem dL_law_286 : decode cL_law 286 = .ok (.iconst 0, 1) := by decide +kernel
theorem dL_law_287 : decode cL_law 287 = .ok (.ireturn, 1) := by decide +kernel
theorem dL_law_288 : decode cL_law 288 = .ok (.aload_n 1, 1) := by decide +kernel
theorem dL_law_289 : decode cL_law 289 = .ok (.aload_n 0, 1) := by decide +kernel
theorem dL_law_290 : decode cL_law 290 = .ok (.iload_n 3, 1) := by decide +kernel
theorem dL_law_291 : decode cL_law 291 = .ok (.iconst 1, 1) := by decide +kernel
theorem dL_law_292 : decode cL_law 292 = .ok (.iadd, 1) := by decide +kernel
theorem dL_law_293 : decode cL_law 293 = .ok (.iaload, 1) := by decide +kernel
theorem dL_law_294 : decode cL_law 294 = .ok (.aload_n 0, 1) := by decide +kernel
theorem dL_law_295 : decode cL_law 295 = .ok (.iload_n 3, 1) := by decide +kernel
theorem dL_law_296 : decode cL_law 296 = .ok (.iconst 2, 1) := by decide +kernel
theorem dL_law_297 : decode cL_law 297 = .ok (.iadd, 1) := by decide +kernel
theorem dL_law_298 : decode cL_law 298 = .ok (.iaload, 1) := by decide +kernel
theorem dL_law_299 : decode cL_law 299 = .ok (.invokevirtual 40, 3) := by decide +kernel
theorem dL_law_302 : decode cL_law 302 = .ok (.aload_n 2, 1) := by decide +kernel
theorem dL_law_303 : decode cL_law 303 = .ok (.aload_n 0, 1) := by decide +kernel
theorem dL_law_304 : decode cL_law 304 = .ok (.iload_n 3, 1) := by decide +kernel
theorem dL_law_305 : decode cL_law 305 = .ok (.iconst 1, 1) := by decide +kernel
theorem dL_law_306 : decode cL_law 306 = .ok (.iadd, 1) := by decide +kernel
theorem dL_law_307 : decode cL_law 307 = .ok (.iaload, 1) := by decide +kernel
theorem dL_law_308 : decode cL_law 308 = .ok (.aload_n 0, 1) := by decide +kernel
theorem dL_law_309 : decode cL_law 309 = .ok (.iload_n 3, 1) := by decide +kernel
theorem dL_law_310 : decode cL_law 310 = .ok (.iconst 2, 1) := by decide +kernel
theorem dL_law_311 : decode cL_law 311 = .ok (.iadd, 1) := by decide +kernel
theorem dL_law_312 : decode cL_law 312 = .ok (.iaload, 1) := by decide +kernel
theorem dL_law_313 : decode cL_law 313 = .ok (.invokevirtual 43, 3) := by decide +kernel
theorem dL_law_316 : decode cL_law 316 = .ok (.if_icmp .eq 518, 3) := by decide +kernel
theorem dL_law_319 : decode cL_law 319 = .ok (.iconst 0, 1) := by decide +kernel
theorem dL_law_320 : decode cL_law 320 = .ok (.ireturn, 1) := by decide +kernel
theorem dL_law_321 : decode cL_law 321 = .ok (.aload_n 1, 1) := by decide +kernel
theorem dL_law_322 : decode cL_law 322 = .ok (.aload_n 0, 1) := by decide +kernel
theorem dL_law_323 : decode cL_law 323 = .ok (.iload_n 3, 1) := by decide +kernel
theorem dL_law_324 : decode cL_law 324 = .ok (.iconst 1, 1) := by decide +kernel
theorem dL_law_325 : decode cL_law 325 = .ok (.iadd, 1) := by decide +kernel
theorem dL_law_326 : decode cL_law 326 = .ok (.iaload, 1) := by decide +kernel
theorem dL_law_327 : decode cL_law 327 = .ok (.aload_n 0, 1) := by decide +kernel
theorem dL_law_328 : decode cL_law 328 = .ok (.iload_n 3, 1) := by decide +kernel
theorem dL_law_329 : decode cL_law 329 = .ok (.iconst 2, 1) := by decide +kernel
theorem dL_law_330 : decode cL_law 330 = .ok (.iadd, 1) := by decide +kernel
theorem dL_law_331 : decode cL_law 331 = .ok (.iaload, 1) := by decide +kernel
theorem dL_law_332 : decode cL_law 332 = .ok (.invokevirtual 44, 3) := by decide +kernel
theorem dL_law_335 : decode cL_law 335 = .ok (.aload_n 2, 1) := by decide +kernel
theorem dL_law_336 : decode cL_law 336 = .ok (.aload_n 0, 1) := by decide +kernel
theorem dL_law_337 : decode cL_law 337 = .ok (.iload_n 3, 1) := by decide +kernel
theorem dL_law_338 : decode cL_law 338 = .ok (.iconst 1, 1) := by decide +kernel
theorem dL_law_339 : decode cL_law 339 = .ok (.iadd, 1) := by decide +kernel
theorem dL_law_340 : decode cL_law 340 = .ok (.iaload, 1) := by decide +kernel
theorem dL_law_341 : decode cL_law 341 = .ok (.aload_n 0, 1) := by decide +kernel
theorem dL_law_342 : decode cL_law 342 = .ok (.iload_n 3, 1) := by decide +kernel
theorem dL_law_343 : decode cL_law 343 = .ok (.iconst 2, 1) := by decide +kernel
theorem dL_law_344 : decode cL_law 344 = .ok (.iadd, 1) := by decide +kernel
theorem dL_law_345 : decode cL_law 345 = .ok (.iaload, 1) := by decide +kernel
theorem dL_law_346 : decode cL_law 346 = .ok (.invokevirtual 47, 3) := by decide +kernel
theorem dL_law_349 : decode cL_law 349 = .ok (.if_icmp .eq 485, 3) := by decide +kernel
theorem dL_law_352 : decode cL_law 352 = .ok (.iconst 0, 1) := by decide +kernel
theorem dL_law_353 : decode cL_law 353 = .ok (.ireturn, 1) := by decide +kernel
theorem dL_law_354 : decode cL_law 354 = .ok (.aload_n 1, 1) := by decide +kernel
theorem dL_law_355 : decode cL_law 355 = .ok (.aload_n 0, 1) := by decide +kernel
theorem dL_law_356 : decode cL_law 356 = .ok (.iload_n 3, 1) := by decide +kernel
theorem dL_law_357 : decode cL_law 357 = .ok (.iconst 1, 1) := by decide +kernel
theorem dL_law_358 : decode cL_law 358 = .ok (.iadd, 1) := by decide +kernel
theorem dL_law_359 : decode cL_law 359 = .ok (.iaload, 1) := by decide +kernel
theorem dL_law_360 : decode cL_law 360 = .ok (.aload_n 0, 1) := by decide +kernel
theorem dL_law_361 : decode cL_law 361 = .ok (.iload_n 3, 1) := by decide +kernel
theorem dL_law_362 : decode cL_law 362 = .ok (.iconst 2, 1) := by decide +kernel
theorem dL_law_363 : decode cL_law 363 = .ok (.iadd, 1) := by decide +kernel
theorem dL_law_364 : decode cL_law 364 = .ok (.iaload, 1) := by decide +kernel
theorem dL_law_365 : decode cL_law 365 = .ok (.invokevirtual 48, 3) := by decide +kernel
theorem dL_law_368 : decode cL_law 368 = .ok (.aload_n 2, 1) := by decide +kernel
theorem dL_law_369 : decode cL_law 369 = .ok (.aload_n 0, 1) := by decide +kernel
theorem dL_law_370 : decode cL_law 370 = .ok (.iload_n 3, 1) := by decide +kernel
theorem dL_law_371 : decode cL_law 371 = .ok (.iconst 1, 1) := by decide +kernel
theorem dL_law_372 : decode cL_law 372 = .ok (.iadd, 1) := by decide +kernel
theorem dL_law_373 : decode cL_law 373 = .ok (.iaload, 1) := by decide +kernel
theorem dL_law_374 : decode cL_law 374 = .ok (.aload_n 0, 1) := by decide +kernel
theorem dL_law_375 : decode cL_law 375 = .ok (.iload_n 3, 1) := by decide +kernel
theorem dL_law_376 : decode cL_law 376 = .ok (.iconst 2, 1) := by decide +kernel
theorem dL_law_377 : decode cL_law 377 = .ok (.iadd, 1) := by decide +kernel
theorem dL_law_378 : decode cL_law 378 = .ok (.iaload, 1) := by decide +kernel
theorem dL_law_379 : decode cL_law 379 = .ok (.invokevirtual 51, 3) := by decide +kernel
theorem dL_law_382 : decode cL_law 382 = .ok (.if_icmp .eq 452, 3) := by decide +kernel
theorem dL_law_385 : decode cL_law 385 = .ok (.iconst 0, 1) := by decide +kernel
theorem dL_law_386 : decode cL_law 386 = .ok (.ireturn, 1) := by decide +kernel
theorem dL_law_387 : decode cL_law 387 = .ok (.aload_n 1, 1) := by decide +kernel
theorem dL_law_388 : decode cL_law 388 = .ok (.aload_n 0, 1) := by decide +kernel
theorem dL_law_389 : decode cL_law 389 = .ok (.iload_n 3, 1) := by decide +kernel
theorem dL_law_390 : decode cL_law 390 = .ok (.iconst 1, 1) := by decide +kernel
theorem dL_law_391 : decode cL_law 391 = .ok (.iadd, 1) := by decide +kernel
theorem dL_law_392 : decode cL_law 392 = .ok (.iaload, 1) := by decide +kernel
theorem dL_law_393 : decode cL_law 393 = .ok (.invokevirtual 52, 3) := by decide +kernel
theorem dL_law_396 : decode cL_law 396 = .ok (.aload_n 2, 1) := by decide +kernel
theorem dL_law_397 : decode cL_law 397 = .ok (.aload_n 0, 1) := by decide +kernel
theorem dL_law_398 : decode cL_law 398 = .ok (.iload_n 3, 1) := by decide +kernel
theorem dL_law_399 : decode cL_law 399 = .ok (.iconst 1, 1) := by decide +kernel
theorem dL_law_400 : decode cL_law 400 = .ok (.iadd, 1) := by decide +kernel
theorem dL_law_401 : decode cL_law 401 = .ok (.iaload, 1) := by decide +kernel
theorem dL_law_402 : decode cL_law 402 = .ok (.invokevirtual 55, 3) := by decide +kernel
theorem dL_law_405 : decode cL_law 405 = .ok (.if_icmp .eq 429, 3) := by decide +kernel
theorem dL_law_408 : decode cL_law 408 = .ok (.iconst 0, 1) := by decide +kernel
theorem dL_law_409 : decode cL_law 409 = .ok (.ireturn, 1) := by decide +kernel
theorem dL_law_410 : decode cL_law 410 = .ok (.aload_n 1, 1) := by decide +kernel
theorem dL_law_411 : decode cL_law 411 = .ok (.invokevirtual 56, 3) := by decide +kernel
theorem dL_law_414 : decode cL_law 414 = .ok (.aload_n 2, 1) := by decide +kernel
theorem dL_law_415 : decode cL_law 415 = .ok (.invokevirtual 59, 3) := by decide +kernel
theorem dL_law_418 : decode cL_law 418 = .ok (.if_icmp .eq 416, 3) := by decide +kernel
theorem dL_law_421 : decode cL_law 421 = .ok (.iconst 0, 1) := by decide +kernel
theorem dL_law_422 : decode cL_law 422 = .ok (.ireturn, 1) := by decide +kernel
theorem dL_law_423 : decode cL_law 423 = .ok (.aload_n 1, 1) := by decide +kernel
theorem dL_law_424 : decode cL_law 424 = .ok (.aload_n 0, 1) := by decide +kernel
theorem dL_law_425 : decode cL_law 425 = .ok (.iload_n 3, 1) := by decide +kernel
theorem dL_law_426 : decode cL_law 426 = .ok (.iconst 1, 1) := by decide +kernel
theorem dL_law_427 : decode cL_law 427 = .ok (.iadd, 1) := by decide +kernel
theorem dL_law_428 : decode cL_law 428 = .ok (.iaload, 1) := by decide +kernel
theorem dL_law_429 : decode cL_law 429 = .ok (.invokevirtual 60, 3) := by decide +kernel
theorem dL_law_432 : decode cL_law 432 = .ok (.aload_n 2, 1) := by decide +kernel
theorem dL_law_433 : decode cL_law 433 = .ok (.aload_n 0, 1) := by decide +kernel
theorem dL_law_434 : decode cL_law 434 = .ok (.iload_n 3, 1) := by decide +kernel
theorem dL_law_435 : decode cL_law 435 = .ok (.iconst 1, 1) := by decide +kernel
theorem dL_law_436 : decode cL_law 436 = .ok (.iadd, 1) := by decide +kernel
theorem dL_law_437 : decode cL_law 437 = .ok (.iaload, 1) := by decide +kernel
theorem dL_law_438 : decode cL_law 438 = .ok (.invokevirtual 63, 3) := by decide +kernel
theorem dL_law_441 : decode cL_law 441 = .ok (.if_icmp .eq 393, 3) := by decide +kernel
theorem dL_law_444 : decode cL_law 444 = .ok (.iconst 0, 1) := by decide +kernel
theorem dL_law_445 : decode cL_law 445 = .ok (.ireturn, 1) := by decide +kernel
theorem dL_law_446 : decode cL_law 446 = .ok (.aload_n 1, 1) := by decide +kernel
theorem dL_law_447 : decode cL_law 447 = .ok (.aload_n 0, 1) := by decide +kernel
theorem dL_law_448 : decode cL_law 448 = .ok (.iload_n 3, 1) := by decide +kernel
theorem dL_law_449 : decode cL_law 449 = .ok (.iconst 1, 1) := by decide +kernel
theorem dL_law_450 : decode cL_law 450 = .ok (.iadd, 1) := by decide +kernel
theorem dL_law_451 : decode cL_law 451 = .ok (.iaload, 1) := by decide +kernel
theorem dL_law_452 : decode cL_law 452 = .ok (.invokevirtual 64, 3) := by decide +kernel
theorem dL_law_455 : decode cL_law 455 = .ok (.aload_n 2, 1) := by decide +kernel
theorem dL_law_456 : decode cL_law 456 = .ok (.aload_n 0, 1) := by decide +kernel
theorem dL_law_457 : decode cL_law 457 = .ok (.iload_n 3, 1) := by decide +kernel
theorem dL_law_458 : decode cL_law 458 = .ok (.iconst 1, 1) := by decide +kernel
theorem dL_law_459 : decode cL_law 459 = .ok (.iadd, 1) := by decide +kernel
theorem dL_law_460 : decode cL_law 460 = .ok (.iaload, 1) := by decide +kernel
theorem dL_law_461 : decode cL_law 461 = .ok (.invokevirtual 67, 3) := by decide +kernel
theorem dL_law_464 : decode cL_law 464 = .ok (.if_icmp .eq 370, 3) := by decide +kernel
theorem dL_law_467 : decode cL_law 467 = .ok (.iconst 0, 1) := by decide +kernel
theorem dL_law_468 : decode cL_law 468 = .ok (.ireturn, 1) := by decide +kernel
theorem dL_law_469 : decode cL_law 469 = .ok (.aload_n 1, 1) := by decide +kernel
theorem dL_law_470 : decode cL_law 470 = .ok (.aload_n 0, 1) := by decide +kernel
theorem dL_law_471 : decode cL_law 471 = .ok (.iload_n 3, 1) := by decide +kernel
theorem dL_law_472 : decode cL_law 472 = .ok (.iconst 1, 1) := by decide +kernel
theorem dL_law_473 : decode cL_law 473 = .ok (.iadd, 1) := by decide +kernel
theorem dL_law_474 : decode cL_law 474 = .ok (.iaload, 1) := by decide +kernel
theorem dL_law_475 : decode cL_law 475 = .ok (.invokevirtual 68, 3) := by decide +kernel
theorem dL_law_478 : decode cL_law 478 = .ok (.aload_n 2, 1) := by decide +kernel
theorem dL_law_479 : decode cL_law 479 = .ok (.aload_n 0, 1) := by decide +kernel
theorem dL_law_480 : decode cL_law 480 = .ok (.iload_n 3, 1) := by decide +kernel
theorem dL_law_481 : decode cL_law 481 = .ok (.iconst 1, 1) := by decide +kernel
theorem dL_law_482 : decode cL_law 482 = .ok (.iadd, 1) := by decide +kernel
theorem dL_law_483 : decode cL_law 483 = .ok (.iaload, 1) := by decide +kernel
theorem dL_law_484 : decode cL_law 484 = .ok (.invokevirtual 71, 3) := by decide +kernel
theorem dL_law_487 : decode cL_law 487 = .ok (.if_icmp .eq 347, 3) := by decide +kernel
theorem dL_law_490 : decode cL_law 490 = .ok (.iconst 0, 1) := by decide +kernel
theorem dL_law_491 : decode cL_law 491 = .ok (.ireturn, 1) := by decide +kernel
theorem dL_law_492 : decode cL_law 492 = .ok (.aload_n 1, 1) := by decide +kernel
theorem dL_law_493 : decode cL_law 493 = .ok (.aload_n 0, 1) := by decide +kernel
theorem dL_law_494 : decode cL_law 494 = .ok (.iload_n 3, 1) := by decide +kernel
theorem dL_law_495 : decode cL_law 495 = .ok (.iconst 1, 1) := by decide +kernel
theorem dL_law_496 : decode cL_law 496 = .ok (.iadd, 1) := by decide +kernel
theorem dL_law_497 : decode cL_law 497 = .ok (.iaload, 1) := by decide +kernel
theorem dL_law_498 : decode cL_law 498 = .ok (.invokevirtual 72, 3) := by decide +kernel
theorem dL_law_501 : decode cL_law 501 = .ok (.aload_n 2, 1) := by decide +kernel
theorem dL_law_502 : decode cL_law 502 = .ok (.aload_n 0, 1) := by decide +kernel
theorem dL_law_503 : decode cL_law 503 = .ok (.iload_n 3, 1) := by decide +kernel
theorem dL_law_504 : decode cL_law 504 = .ok (.iconst 1, 1) := by decide +kernel
theorem dL_law_505 : decode cL_law 505 = .ok (.iadd, 1) := by decide +kernel
theorem dL_law_506 : decode cL_law 506 = .ok (.iaload, 1) := by decide +kernel
theorem dL_law_507 : decode cL_law 507 = .ok (.invokevirtual 75, 3) := by decide +kernel
theorem dL_law_510 : decode cL_law 510 = .ok (.if_icmp .eq 324, 3) := by decide +kernel
theorem dL_law_513 : decode cL_law 513 = .ok (.iconst 0, 1) := by decide +kernel
theorem dL_law_514 : decode cL_law 514 = .ok (.ireturn, 1) := by decide +kernel
theorem dL_law_515 : decode cL_law 515 = .ok (.aload_n 1, 1) := by decide +kernel
theorem dL_law_516 : decode cL_law 516 = .ok (.aload_n 0, 1) := by decide +kernel
theorem dL_law_517 : decode cL_law 517 = .ok (.iload_n 3, 1) := by decide +kernel
theorem dL_law_518 : decode cL_law 518 = .ok (.iconst 1, 1) := by decide +kernel
theorem dL_law_519 : decode cL_law 519 = .ok (.iadd, 1) := by decide +kernel
theorem dL_law_520 : decode cL_law 520 = .ok (.iaload, 1) := by decide +kernel
theorem dL_law_521 : decode cL_law 521 = .ok (.invokevirtual 76, 3) := by decide +kernel
theorem dL_law_524 : decode cL_law 524 = .ok (.aload_n 2, 1) := by decide +kernel
theorem dL_law_525 : decode cL_law 525 = .ok (.aload_n 0, 1) := by decide +kernel
theorem dL_law_526 : decode cL_law 526 = .ok (.iload_n 3, 1) := by decide +kernel
theorem dL_law_527 : decode cL_law 527 = .ok (.iconst 1, 1) := by decide +kernel
theorem dL_law_528 : decode cL_law 528 = .ok (.iadd, 1) := by decide +kernel
theorem dL_law_529 : decode cL_law 529 = .ok (.iaload, 1) := by decide +kernel
theorem dL_law_530 : decode cL_law 530 = .ok (.invokevirtual 79, 3) := by decide +kernel
theorem dL_law_533 : decode cL_law 533 = .ok (.if_icmp .eq 301, 3) := by decide +kernel
theorem dL_law_536 : decode cL_law 536 = .ok (.iconst 0, 1) := by decide +kernel
theorem dL_law_537 : decode cL_law 537 = .ok (.ireturn, 1) := by decide +kernel
theorem dL_law_538 : decode cL_law 538 = .ok (.aload_n 1, 1) := by decide +kernel
theorem dL_law_539 : decode cL_law 539 = .ok (.invokevirtual 80, 3) := by decide +kernel
theorem dL_law_542 : decode cL_law 542 = .ok (.aload_n 2, 1) := by decide +kernel
theorem dL_law_543 : decode cL_law 543 = .ok (.invokevirtual 83, 3) := by decide +kernel
theorem dL_law_546 : decode cL_law 546 = .ok (.if_icmp .eq 288, 3) := by decide +kernel
theorem dL_law_549 : decode cL_law 549 = .ok (.iconst 0, 1) := by decide +kernel
theorem dL_law_550 : decode cL_law 550 = .ok (.ireturn, 1) := by decide +kernel
theorem dL_law_551 : decode cL_law 551 = .ok (.aload_n 1, 1) := by decide +kernel
theorem dL_law_552 : decode cL_law 552 = .ok (.aload_n 0, 1) := by decide +kernel
theorem dL_law_553 : decode cL_law 553 = .ok (.iload_n 3, 1) := by decide +kernel
theorem dL_law_554 : decode cL_law 554 = .ok (.iconst 1, 1) := by decide +kernel
theorem dL_law_555 : decode cL_law 555 = .ok (.iadd, 1) := by decide +kernel
theorem dL_law_556 : decode cL_law 556 = .ok (.iaload, 1) := by decide +kernel
theorem dL_law_557 : decode cL_law 557 = .ok (.aload_n 0, 1) := by decide +kernel
theorem dL_law_558 : decode cL_law 558 = .ok (.iload_n 3, 1) := by decide +kernel
theorem dL_law_559 : decode cL_law 559 = .ok (.iconst 2, 1) := by decide +kernel
theorem dL_law_560 : decode cL_law 560 = .ok (.iadd, 1) := by decide +kernel
theorem dL_law_561 : decode cL_law 561 = .ok (.iaload, 1) := by decide +kernel
theorem dL_law_562 : decode cL_law 562 = .ok (.invokevirtual 84, 3) := by decide +kernel
theorem dL_law_565 : decode cL_law 565 = .ok (.aload_n 2, 1) := by decide +kernel
theorem dL_law_566 : decode cL_law 566 = .ok (.aload_n 0, 1) := by decide +kernel
theorem dL_law_567 : decode cL_law 567 = .ok (.iload_n 3, 1) := by decide +kernel
theorem dL_law_568 : decode cL_law 568 = .ok (.iconst 1, 1) := by decide +kernel
theorem dL_law_569 : decode cL_law 569 = .ok (.iadd, 1) := by decide +kernel
theorem dL_law_570 : decode cL_law 570 = .ok (.iaload, 1) := by decide +kernel
theorem dL_law_571 : decode cL_law 571 = .ok (.aload_n 0, 1) := by decide +kernel
theorem dL_law_572 : decode cL_law 572 = .ok (.iload_n 3, 1) := by decide +kernel
theorem dL_law_573 : decode cL_law 573 = .ok (.iconst 2, 1) := by decide +kernel
theorem dL_law_574 : decode cL_law 574 = .ok (.iadd, 1) := by decide +kernel
theorem dL_law_575 : decode cL_law 575 = .ok (.iaload, 1) := by decide +kernel
theorem dL_law_576 : decode cL_law 576 = .ok (.invokevirtual 87, 3) := by decide +kernel
theorem dL_law_579 : decode cL_law 579 = .ok (.if_icmp .eq 255, 3) := by decide +kernel
theorem dL_law_582 : decode cL_law 582 = .ok (.iconst 0, 1) := by decide +kernel
theorem dL_law_583 : decode cL_law 583 = .ok (.ireturn, 1) := by decide +kernel
theorem dL_law_584 : decode cL_law 584 = .ok (.aload_n 1, 1) := by decide +kernel
theorem dL_law_585 : decode cL_law 585 = .ok (.aload_n 0, 1) := by decide +kernel
theorem dL_law_586 : decode cL_law 586 = .ok (.iload_n 3, 1) := by decide +kernel
theorem dL_law_587 : decode cL_law 587 = .ok (.iconst 1, 1) := by decide +kernel
theorem dL_law_588 : decode cL_law 588 = .ok (.iadd, 1) := by decide +kernel
theorem dL_law_589 : decode cL_law 589 = .ok (.iaload, 1) := by decide +kernel
theorem dL_law_590 : decode cL_law 590 = .ok (.aload_n 0, 1) := by decide +kernel
theorem dL_law_591 : decode cL_law 591 = .ok (.iload_n 3, 1) := by decide +kernel
theorem dL_law_592 : decode cL_law 592 = .ok (.iconst 2, 1) := by decide +kernel
theorem dL_law_593 : decode cL_law 593 = .ok (.iadd, 1) := by decide +kernel
theorem dL_law_594 : decode cL_law 594 = .ok (.iaload, 1) := by decide +kernel
theorem dL_law_595 : decode cL_law 595 = .ok (.invokevirtual 88, 3) := by decide +kernel
theorem dL_law_598 : decode cL_law 598 = .ok (.aload_n 2, 1) := by decide +kernel
theorem dL_law_599 : decode cL_law 599 = .ok (.aload_n 0, 1) := by decide +kernel
theorem dL_law_600 : decode cL_law 600 = .ok (.iload_n 3, 1) := by decide +kernel
theorem dL_law_601 : decode cL_law 601 = .ok (.iconst 1, 1) := by decide +kernel
theorem dL_law_602 : decode cL_law 602 = .ok (.iadd, 1) := by decide +kernel
theorem dL_law_603 : decode cL_law 603 = .ok (.iaload, 1) := by decide +kernel
theorem dL_law_604 : decode cL_law 604 = .ok (.aload_n 0, 1) := by decide +kernel
theorem dL_law_605 : decode cL_law 605 = .ok (.iload_n 3, 1) := by decide +kernel
theorem dL_law_606 : decode cL_law 606 = .ok (.iconst 2, 1) := by decide +kernel
theorem dL_law_607 : decode cL_law 607 = .ok (.iadd, 1) := by decide +kernel
theorem dL_law_608 : decode cL_law 608 = .ok (.iaload, 1) := by decide +kernel
theorem dL_law_609 : decode cL_law 609 = .ok (.invokevirtual 91, 3) := by decide +kernel
theorem dL_law_612 : decode cL_law 612 = .ok (.if_icmp .eq 222, 3) := by decide +kernel
theorem dL_law_615 : decode cL_law 615 = .ok (.iconst 0, 1) := by decide +kernel
theorem dL_law_616 : decode cL_law 616 = .ok (.ireturn, 1) := by decide +kernel
theorem dL_law_617 : decode cL_law 617 = .ok (.aload_n 1, 1) := by decide +kernel
theorem dL_law_618 : decode cL_law 618 = .ok (.invokevirtual 92, 3) := by decide +kernel
theorem dL_law_621 : decode cL_law 621 = .ok (.aload_n 2, 1) := by decide +kernel
theorem dL_law_622 : decode cL_law 622 = .ok (.invokevirtual 95, 3) := by decide +kernel
theorem dL_law_625 : decode cL_law 625 = .ok (.if_icmp .eq 209, 3) := by decide +kernel
theorem dL_law_628 : decode cL_law 628 = .ok (.iconst 0, 1) := by decide +kernel
theorem dL_law_629 : decode cL_law 629 = .ok (.ireturn, 1) := by decide +kernel
theorem dL_law_630 : decode cL_law 630 = .ok (.aload_n 1, 1) := by decide +kernel
theorem dL_law_631 : decode cL_law 631 = .ok (.aload_n 0, 1) := by decide +kernel
theorem dL_law_632 : decode cL_law 632 = .ok (.iload_n 3, 1) := by decide +kernel
theorem dL_law_633 : decode cL_law 633 = .ok (.iconst 1, 1) := by decide +kernel
theorem dL_law_634 : decode cL_law 634 = .ok (.iadd, 1) := by decide +kernel
theorem dL_law_635 : decode cL_law 635 = .ok (.iaload, 1) := by decide +kernel
theorem dL_law_636 : decode cL_law 636 = .ok (.aload_n 0, 1) := by decide +kernel
theorem dL_law_637 : decode cL_law 637 = .ok (.iload_n 3, 1) := by decide +kernel
theorem dL_law_638 : decode cL_law 638 = .ok (.iconst 2, 1) := by decide +kernel
theorem dL_law_639 : decode cL_law 639 = .ok (.iadd, 1) := by decide +kernel
theorem dL_law_640 : decode cL_law 640 = .ok (.iaload, 1) := by decide +kernel
theorem dL_law_641 : decode cL_law 641 = .ok (.invokevirtual 96, 3) := by decide +kernel
theorem dL_law_644 : decode cL_law 644 = .ok (.aload_n 2, 1) := by decide +kernel
theorem dL_law_645 : decode cL_law 645 = .ok (.aload_n 0, 1) := by decide +kernel
theorem dL_law_646 : decode cL_law 646 = .ok (.iload_n 3, 1) := by decide +kernel
theorem dL_law_647 : decode cL_law 647 = .ok (.iconst 1, 1) := by decide +kernel
theorem dL_law_648 : decode cL_law 648 = .ok (.iadd, 1) := by decide +kernel
theorem dL_law_649 : decode cL_law 649 = .ok (.iaload, 1) := by decide +kernel
theorem dL_law_650 : decode cL_law 650 = .ok (.aload_n 0, 1) := by decide +kernel
theorem dL_law_651 : decode cL_law 651 = .ok (.iload_n 3, 1) := by decide +kernel
theorem dL_law_652 : decode cL_law 652 = .ok (.iconst 2, 1) := by decide +kernel
theorem dL_law_653 : decode cL_law 653 = .ok (.iadd, 1) := by decide +kernel
theorem dL_law_654 : decode cL_law 654 = .ok (.iaload, 1) := by decide +kernel
theorem dL_law_655 : decode cL_law 655 = .ok (.invokevirtual 99, 3) := by decide +kernel
theorem dL_law_658 : decode cL_law 658 = .ok (.if_icmp .eq 176, 3) := by decide +kernel
theorem dL_law_661 : decode cL_law 661 = .ok (.iconst 0, 1) := by decide +kernel
theorem dL_law_662 : decode cL_law 662 = .ok (.ireturn, 1) := by decide +kernel
theorem dL_law_663 : decode cL_law 663 = .ok (.aload_n 1, 1) := by decide +kernel
theorem dL_law_664 : decode cL_law 664 = .ok (.aload_n 0, 1) := by decide +kernel
theorem dL_law_665 : decode cL_law 665 = .ok (.iload_n 3, 1) := by decide +kernel
theorem dL_law_666 : decode cL_law 666 = .ok (.iconst 1, 1) := by decide +kernel
theorem dL_law_667 : decode cL_law 667 = .ok (.iadd, 1) := by decide +kernel
theorem dL_law_668 : decode cL_law 668 = .ok (.iaload, 1) := by decide +kernel
theorem dL_law_669 : decode cL_law 669 = .ok (.invokevirtual 100, 3) := by decide +kernel
theorem dL_law_672 : decode cL_law 672 = .ok (.aload_n 2, 1) := by decide +kernel
theorem dL_law_673 : decode cL_law 673 = .ok (.aload_n 0, 1) := by decide +kernel
theorem dL_law_674 : decode cL_law 674 = .ok (.iload_n 3, 1) := by decide +kernel
theorem dL_law_675 : decode cL_law 675 = .ok (.iconst 1, 1) := by decide +kernel
theorem dL_law_676 : decode cL_law 676 = .ok (.iadd, 1) := by decide +kernel
theorem dL_law_677 : decode cL_law 677 = .ok (.iaload, 1) := by decide +kernel
theorem dL_law_678 : decode cL_law 678 = .ok (.invokevirtual 103, 3) := by decide +kernel
theorem dL_law_681 : decode cL_law 681 = .ok (.if_icmp .eq 153, 3) := by decide +kernel
theorem dL_law_684 : decode cL_law 684 = .ok (.iconst 0, 1) := by decide +kernel
theorem dL_law_685 : decode cL_law 685 = .ok (.ireturn, 1) := by decide +kernel
theorem dL_law_686 : decode cL_law 686 = .ok (.aload_n 1, 1) := by decide +kernel
theorem dL_law_687 : decode cL_law 687 = .ok (.aload_n 0, 1) := by decide +kernel
theorem dL_law_688 : decode cL_law 688 = .ok (.iload_n 3, 1) := by decide +kernel
theorem dL_law_689 : decode cL_law 689 = .ok (.iconst 1, 1) := by decide +kernel
theorem dL_law_690 : decode cL_law 690 = .ok (.iadd, 1) := by decide +kernel
theorem dL_law_691 : decode cL_law 691 = .ok (.iaload, 1) := by decide +kernel
theorem dL_law_692 : decode cL_law 692 = .ok (.aload_n 0, 1) := by decide +kernel
theorem dL_law_693 : decode cL_law 693 = .ok (.iload_n 3, 1) := by decide +kernel
theorem dL_law_694 : decode cL_law 694 = .ok (.iconst 2, 1) := by decide +kernel
theorem dL_law_695 : decode cL_law 695 = .ok (.iadd, 1) := by decide +kernel
theorem dL_law_696 : decode cL_law 696 = .ok (.iaload, 1) := by decide +kernel
theorem dL_law_697 : decode cL_law 697 = .ok (.invokevirtual 104, 3) := by decide +kernel
theorem dL_law_700 : decode cL_law 700 = .ok (.aload_n 2, 1) := by decide +kernel
theorem dL_law_701 : decode cL_law 701 = .ok (.aload_n 0, 1) := by decide +kernel
theorem dL_law_702 : decode cL_law 702 = .ok (.iload_n 3, 1) := by decide +kernel
theorem dL_law_703 : decode cL_law 703 = .ok (.iconst 1, 1) := by decide +kernel
theorem dL_law_704 : decode cL_law 704 = .ok (.iadd, 1) := by decide +kernel
theorem dL_law_705 : decode cL_law 705 = .ok (.iaload, 1) := by decide +kernel
theorem dL_law_706 : decode cL_law 706 = .ok (.aload_n 0, 1) := by decide +kernel
theorem dL_law_707 : decode cL_law 707 = .ok (.iload_n 3, 1) := by decide +kernel
theorem dL_law_708 : decode cL_law 708 = .ok (.iconst 2, 1) := by decide +kernel
theorem dL_law_709 : decode cL_law 709 = .ok (.iadd, 1) := by decide +kernel
theorem dL_law_710 : decode cL_law 710 = .ok (.iaload, 1) := by decide +kernel
theorem dL_law_711 : decode cL_law 711 = .ok (.invokevirtual 107, 3) := by decide +kernel
theorem dL_law_714 : decode cL_law 714 = .ok (.if_icmp .eq 120, 3) := by decide +kernel
theorem dL_law_717 : decode cL_law 717 = .ok (.iconst 0, 1) := by decide +kernel
theorem dL_law_718 : decode cL_law 718 = .ok (.ireturn, 1) := by decide +kernel
theorem dL_law_719 : decode cL_law 719 = .ok (.aload_n 1, 1) := by decide +kernel
theorem dL_law_720 : decode cL_law 720 = .ok (.aload_n 0, 1) := by decide +kernel
theorem dL_law_721 : decode cL_law 721 = .ok (.iload_n 3, 1) := by decide +kernel
theorem dL_law_722 : decode cL_law 722 = .ok (.iconst 1, 1) := by decide +kernel
theorem dL_law_723 : decode cL_law 723 = .ok (.iadd, 1) := by decide +kernel
theorem dL_law_724 : decode cL_law 724 = .ok (.iaload, 1) := by decide +kernel
theorem dL_law_725 : decode cL_law 725 = .ok (.aload_n 0, 1) := by decide +kernel
theorem dL_law_726 : decode cL_law 726 = .ok (.iload_n 3, 1) := by decide +kernel
theorem dL_law_727 : decode cL_law 727 = .ok (.iconst 2, 1) := by decide +kernel
theorem dL_law_728 : decode cL_law 728 = .ok (.iadd, 1) := by decide +kernel
theorem dL_law_729 : decode cL_law 729 = .ok (.iaload, 1) := by decide +kernel
theorem dL_law_730 : decode cL_law 730 = .ok (.invokevirtual 108, 3) := by decide +kernel
theorem dL_law_733 : decode cL_law 733 = .ok (.aload_n 2, 1) := by decide +kernel
theorem dL_law_734 : decode cL_law 734 = .ok (.aload_n 0, 1) := by decide +kernel
theorem dL_law_735 : decode cL_law 735 = .ok (.iload_n 3, 1) := by decide +kernel
theorem dL_law_736 : decode cL_law 736 = .ok (.iconst 1, 1) := by decide +kernel
theorem dL_law_737 : decode cL_law 737 = .ok (.iadd, 1) := by decide +kernel
theorem dL_law_738 : decode cL_law 738 = .ok (.iaload, 1) := by decide +kernel
theorem dL_law_739 : decode cL_law 739 = .ok (.aload_n 0, 1) := by decide +kernel
theorem dL_law_740 : decode cL_law 740 = .ok (.iload_n 3, 1) := by decide +kernel
theorem dL_law_741 : decode cL_law 741 = .ok (.iconst 2, 1) := by decide +kernel
theorem dL_law_742 : decode cL_law 742 = .ok (.iadd, 1) := by decide +kernel
theorem dL_law_743 : decode cL_law 743 = .ok (.iaload, 1) := by decide +kernel
theorem dL_law_744 : decode cL_law 744 = .ok (.invokevirtual 111, 3) := by decide +kernel
theorem dL_law_747 : decode cL_law 747 = .ok (.if_icmp .eq 87, 3) := by decide +kernel
theorem dL_law_750 : decode cL_law 750 = .ok (.iconst 0, 1) := by decide +kernel
theorem dL_law_751 : decode cL_law 751 = .ok (.ireturn, 1) := by decide +kernel
theorem dL_law_752 : decode cL_law 752 = .ok (.aload_n 1, 1) := by decide +kernel
theorem dL_law_753 : decode cL_law 753 = .ok (.aload_n 0, 1) := by decide +kernel
theorem dL_law_754 : decode cL_law 754 = .ok (.iload_n 3, 1) := by decide +kernel
theorem dL_law_755 : decode cL_law 755 = .ok (.iconst 1, 1) := by decide +kernel
theorem dL_law_756 : decode cL_law 756 = .ok (.iadd, 1) := by decide +kernel
theorem dL_law_757 : decode cL_law 757 = .ok (.iaload, 1) := by decide +kernel
theorem dL_law_758 : decode cL_law 758 = .ok (.invokevirtual 112, 3) := by decide +kernel
theorem dL_law_761 : decode cL_law 761 = .ok (.aload_n 2, 1) := by decide +kernel
theorem dL_law_762 : decode cL_law 762 = .ok (.aload_n 0, 1) := by decide +kernel
theorem dL_law_763 : decode cL_law 763 = .ok (.iload_n 3, 1) := by decide +kernel
theorem dL_law_764 : decode cL_law 764 = .ok (.iconst 1, 1) := by decide +kernel
theorem dL_law_765 : decode cL_law 765 = .ok (.iadd, 1) := by decide +kernel
theorem dL_law_766 : decode cL_law 766 = .ok (.iaload, 1) := by decide +kernel
theorem dL_law_767 : decode cL_law 767 = .ok (.invokevirtual 115, 3) := by decide +kernel
theorem dL_law_770 : decode cL_law 770 = .ok (.if_icmp .eq 64, 3) := by decide +kernel
theorem dL_law_773 : decode cL_law 773 = .ok (.iconst 0, 1) := by decide +kernel
theorem dL_law_774 : decode cL_law 774 = .ok (.ireturn, 1) := by decide +kernel
theorem dL_law_775 : decode cL_law 775 = .ok (.aload_n 1, 1) := by decide +kernel
theorem dL_law_776 : decode cL_law 776 = .ok (.aload_n 0, 1) := by decide +kernel
theorem dL_law_777 : decode cL_law 777 = .ok (.iload_n 3, 1) := by decide +kernel
theorem dL_law_778 : decode cL_law 778 = .ok (.iconst 1, 1) := by decide +kernel
theorem dL_law_779 : decode cL_law 779 = .ok (.iadd, 1) := by decide +kernel
theorem dL_law_780 : decode cL_law 780 = .ok (.iaload, 1) := by decide +kernel
theorem dL_law_781 : decode cL_law 781 = .ok (.invokevirtual 116, 3) := by decide +kernel
theorem dL_law_784 : decode cL_law 784 = .ok (.aload_n 2, 1) := by decide +kernel
theorem dL_law_785 : decode cL_law 785 = .ok (.aload_n 0, 1) := by decide +kernel
theorem dL_law_786 : decode cL_law 786 = .ok (.iload_n 3, 1) := by decide +kernel
theorem dL_law_787 : decode cL_law 787 = .ok (.iconst 1, 1) := by decide +kernel
theorem dL_law_788 : decode cL_law 788 = .ok (.iadd, 1) := by decide +kernel
theorem dL_law_789 : decode cL_law 789 = .ok (.iaload, 1) := by decide +kernel
theorem dL_law_790 : decode cL_law 790 = .ok (.invokevirtual 119, 3) := by decide +kernel
theorem dL_law_793 : decode cL_law 793 = .ok (.if_icmp .eq 41, 3) := by decide +kernel
theorem dL_law_796 : decode cL_law 796 = .ok (.iconst 0, 1) := by decide +kernel
theorem dL_law_797 : decode cL_law 797 = .ok (.ireturn, 1) := by decide +kernel
theorem dL_law_798 : decode cL_law 798 = .ok (.aload_n 1, 1) := by decide +kernel
theorem dL_law_799 : decode cL_law 799 = .ok (.invokevirtual 120, 3) := by decide +kernel
theorem dL_law_802 : decode cL_law 802 = .ok (.aload_n 2, 1) := by decide +kernel
theorem dL_law_803 : decode cL_law 803 = .ok (.invokevirtual 123, 3) := by decide +kernel
theorem dL_law_806 : decode cL_law 806 = .ok (.if_icmp .eq 28, 3) := by decide +kernel
theorem dL_law_809 : decode cL_law 809 = .ok (.iconst 0, 1) := by decide +kernel
theorem dL_law_810 : decode cL_law 810 = .ok (.ireturn, 1) := by decide +kernel
theorem dL_law_811 : decode cL_law 811 = .ok (.aload_n 1, 1) := by decide +kernel
theorem dL_law_812 : decode cL_law 812 = .ok (.aload_n 0, 1) := by decide +kernel
theorem dL_law_813 : decode cL_law 813 = .ok (.iload_n 3, 1) := by decide +kernel
theorem dL_law_814 : decode cL_law 814 = .ok (.iconst 1, 1) := by decide +kernel
theorem dL_law_815 : decode cL_law 815 = .ok (.iadd, 1) := by decide +kernel
theorem dL_law_816 : decode cL_law 816 = .ok (.iaload, 1) := by decide +kernel
theorem dL_law_817 : decode cL_law 817 = .ok (.invokevirtual 124, 3) := by decide +kernel
theorem dL_law_820 : decode cL_law 820 = .ok (.aload_n 2, 1) := by decide +kernel
theorem dL_law_821 : decode cL_law 821 = .ok (.aload_n 0, 1) := by decide +kernel
theorem dL_law_822 : decode cL_law 822 = .ok (.iload_n 3, 1) := by decide +kernel
theorem dL_law_823 : decode cL_law 823 = .ok (.iconst 1, 1) := by decide +kernel
theorem dL_law_824 : decode cL_law 824 = .ok (.iadd, 1) := by decide +kernel
theorem dL_law_825 : decode cL_law 825 = .ok (.iaload, 1) := by decide +kernel
theorem dL_law_826 : decode cL_law 826 = .ok (.invokevirtual 127, 3) := by decide +kernel
theorem dL_law_829 : decode cL_law 829 = .ok (.if_icmp .eq 5, 3) := by decide +kernel
theorem dL_law_832 : decode cL_law 832 = .ok (.iconst 0, 1) := by decide +kernel
theorem dL_law_833 : decode cL_law 833 = .ok (.ireturn, 1) := by decide +kernel
theorem dL_law_834 : decode cL_law 834 = .ok (.iinc 3 3, 3) := by decide +kernel
theorem dL_law_837 : decode cL_law 837 = .ok (.goto (-819), 3) := by decide +kernel
theorem dL_law_840 : decode cL_law 840 = .ok (.iconst 1, 1) := by decide +kernel
theorem dL_law_841 : decode cL_law 841 = .ok (.ireturn, 1) := by decide +kernel
