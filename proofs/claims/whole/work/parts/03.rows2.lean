set_option maxRecDepth 20000 in
theorem gX6_factorsOfOnly_X5_length : GoodIn wsX6_factorsOfOnly (wsV RX6 168 RX5 yX5_length wsX5_length) := goodIn_app (goodIn_of _ (by decide +kernel)) ggX6_factorsOfOnly_X5_length
set_option maxRecDepth 20000 in
theorem ggX6_factorsOfOnly_X4_advance : GoodIn wsX6_factorsOfOnly wsX4_advance := goodIn_r _ [77, 78, 79, 8, 80, 81, 82, 83, 84, 13, 85, 51, 52, 53, 54, 55, 17, 86, 87, 88, 89, 18, 102, 103, 104, 105, 106, 107, 108, 109, 115] (by decide +kernel) (by decide +kernel)
set_option maxRecDepth 20000 in
theorem gX6_factorsOfOnly_X4_advance : GoodIn wsX6_factorsOfOnly (wsV RX6 171 RX4 yX4_advance wsX4_advance) := goodIn_app (goodIn_of _ (by decide +kernel)) ggX6_factorsOfOnly_X4_advance
set_option maxRecDepth 20000 in
theorem ggX6_factorsOfOnly_X5_placeAt : GoodIn wsX6_factorsOfOnly wsX5_placeAt := goodIn_r _ [89, 18, 52, 53, 54, 13, 55, 17, 102, 103, 104, 105, 106, 107, 108, 109] (by decide +kernel) (by decide +kernel)
set_option maxRecDepth 20000 in
theorem gX6_factorsOfOnly_X5_placeAt : GoodIn wsX6_factorsOfOnly (wsV RX6 278 RX5 yX5_placeAt wsX5_placeAt) := goodIn_app (goodIn_of _ (by decide +kernel)) ggX6_factorsOfOnly_X5_placeAt
theorem dX6_factorsOfOnly_0 : decode cX6_factorsOfOnly 0 = .ok (.aload_n 0, 1) := by decide +kernel
theorem dX6_factorsOfOnly_1 : decode cX6_factorsOfOnly 1 = .ok (.getfield 47, 3) := by decide +kernel
theorem dX6_factorsOfOnly_4 : decode cX6_factorsOfOnly 4 = .ok (.aload_n 0, 1) := by decide +kernel
theorem dX6_factorsOfOnly_5 : decode cX6_factorsOfOnly 5 = .ok (.getfield 10, 3) := by decide +kernel
theorem dX6_factorsOfOnly_8 : decode cX6_factorsOfOnly 8 = .ok (.iload_n 1, 1) := by decide +kernel
theorem dX6_factorsOfOnly_9 : decode cX6_factorsOfOnly 9 = .ok (.invokevirtual 266, 3) := by decide +kernel
theorem dX6_factorsOfOnly_12 : decode cX6_factorsOfOnly 12 = .ok (.aload_n 0, 1) := by decide +kernel
theorem dX6_factorsOfOnly_13 : decode cX6_factorsOfOnly 13 = .ok (.getfield 50, 3) := by decide +kernel
theorem dX6_factorsOfOnly_16 : decode cX6_factorsOfOnly 16 = .ok (.aload_n 0, 1) := by decide +kernel
theorem dX6_factorsOfOnly_17 : decode cX6_factorsOfOnly 17 = .ok (.getfield 10, 3) := by decide +kernel
theorem dX6_factorsOfOnly_20 : decode cX6_factorsOfOnly 20 = .ok (.iload_n 2, 1) := by decide +kernel
theorem dX6_factorsOfOnly_21 : decode cX6_factorsOfOnly 21 = .ok (.invokevirtual 266, 3) := by decide +kernel
theorem dX6_factorsOfOnly_24 : decode cX6_factorsOfOnly 24 = .ok (.iconst 0, 1) := by decide +kernel
theorem dX6_factorsOfOnly_25 : decode cX6_factorsOfOnly 25 = .ok (.istore_n 3, 1) := by decide +kernel
theorem dX6_factorsOfOnly_26 : decode cX6_factorsOfOnly 26 = .ok (.iconst 0, 1) := by decide +kernel
theorem dX6_factorsOfOnly_27 : decode cX6_factorsOfOnly 27 = .ok (.istore 4, 2) := by decide +kernel
theorem dX6_factorsOfOnly_29 : decode cX6_factorsOfOnly 29 = .ok (.iload 4, 2) := by decide +kernel
theorem dX6_factorsOfOnly_31 : decode cX6_factorsOfOnly 31 = .ok (.aload_n 0, 1) := by decide +kernel
theorem dX6_factorsOfOnly_32 : decode cX6_factorsOfOnly 32 = .ok (.getfield 47, 3) := by decide +kernel
theorem dX6_factorsOfOnly_35 : decode cX6_factorsOfOnly 35 = .ok (.invokevirtual 168, 3) := by decide +kernel
theorem dX6_factorsOfOnly_38 : decode cX6_factorsOfOnly 38 = .ok (.if_icmp .ge 78, 3) := by decide +kernel
theorem dX6_factorsOfOnly_41 : decode cX6_factorsOfOnly 41 = .ok (.aload_n 0, 1) := by decide +kernel
theorem dX6_factorsOfOnly_42 : decode cX6_factorsOfOnly 42 = .ok (.getfield 56, 3) := by decide +kernel
theorem dX6_factorsOfOnly_45 : decode cX6_factorsOfOnly 45 = .ok (.aload_n 0, 1) := by decide +kernel
theorem dX6_factorsOfOnly_46 : decode cX6_factorsOfOnly 46 = .ok (.getfield 47, 3) := by decide +kernel
theorem dX6_factorsOfOnly_49 : decode cX6_factorsOfOnly 49 = .ok (.iload 4, 2) := by decide +kernel
theorem dX6_factorsOfOnly_51 : decode cX6_factorsOfOnly 51 = .ok (.aload_n 0, 1) := by decide +kernel
theorem dX6_factorsOfOnly_52 : decode cX6_factorsOfOnly 52 = .ok (.getfield 47, 3) := by decide +kernel
theorem dX6_factorsOfOnly_55 : decode cX6_factorsOfOnly 55 = .ok (.iload 4, 2) := by decide +kernel
theorem dX6_factorsOfOnly_57 : decode cX6_factorsOfOnly 57 = .ok (.invokevirtual 171, 3) := by decide +kernel
theorem dX6_factorsOfOnly_60 : decode cX6_factorsOfOnly 60 = .ok (.istore 5, 2) := by decide +kernel
theorem dX6_factorsOfOnly_62 : decode cX6_factorsOfOnly 62 = .ok (.aload_n 0, 1) := by decide +kernel
theorem dX6_factorsOfOnly_63 : decode cX6_factorsOfOnly 63 = .ok (.getfield 60, 3) := by decide +kernel
theorem dX6_factorsOfOnly_66 : decode cX6_factorsOfOnly 66 = .ok (.aload_n 0, 1) := by decide +kernel
theorem dX6_factorsOfOnly_67 : decode cX6_factorsOfOnly 67 = .ok (.getfield 47, 3) := by decide +kernel
theorem dX6_factorsOfOnly_70 : decode cX6_factorsOfOnly 70 = .ok (.iload 4, 2) := by decide +kernel
theorem dX6_factorsOfOnly_72 : decode cX6_factorsOfOnly 72 = .ok (.aload_n 0, 1) := by decide +kernel
theorem dX6_factorsOfOnly_73 : decode cX6_factorsOfOnly 73 = .ok (.getfield 50, 3) := by decide +kernel
theorem dX6_factorsOfOnly_76 : decode cX6_factorsOfOnly 76 = .ok (.aload_n 0, 1) := by decide +kernel
theorem dX6_factorsOfOnly_77 : decode cX6_factorsOfOnly 77 = .ok (.getfield 50, 3) := by decide +kernel
theorem dX6_factorsOfOnly_80 : decode cX6_factorsOfOnly 80 = .ok (.invokevirtual 168, 3) := by decide +kernel
theorem dX6_factorsOfOnly_83 : decode cX6_factorsOfOnly 83 = .ok (.invokevirtual 171, 3) := by decide +kernel
theorem dX6_factorsOfOnly_86 : decode cX6_factorsOfOnly 86 = .ok (.istore 6, 2) := by decide +kernel
theorem dX6_factorsOfOnly_88 : decode cX6_factorsOfOnly 88 = .ok (.iload_n 3, 1) := by decide +kernel
theorem dX6_factorsOfOnly_89 : decode cX6_factorsOfOnly 89 = .ok (.aload_n 0, 1) := by decide +kernel
theorem dX6_factorsOfOnly_90 : decode cX6_factorsOfOnly 90 = .ok (.getfield 47, 3) := by decide +kernel
theorem dX6_factorsOfOnly_93 : decode cX6_factorsOfOnly 93 = .ok (.iload 4, 2) := by decide +kernel
theorem dX6_factorsOfOnly_95 : decode cX6_factorsOfOnly 95 = .ok (.invokevirtual 278, 3) := by decide +kernel
theorem dX6_factorsOfOnly_98 : decode cX6_factorsOfOnly 98 = .ok (.iconst 1, 1) := by decide +kernel
theorem dX6_factorsOfOnly_99 : decode cX6_factorsOfOnly 99 = .ok (.iadd, 1) := by decide +kernel
theorem dX6_factorsOfOnly_100 : decode cX6_factorsOfOnly 100 = .ok (.iload 5, 2) := by decide +kernel
theorem dX6_factorsOfOnly_102 : decode cX6_factorsOfOnly 102 = .ok (.iload 6, 2) := by decide +kernel
theorem dX6_factorsOfOnly_104 : decode cX6_factorsOfOnly 104 = .ok (.invokestatic 281, 3) := by decide +kernel
theorem dX6_factorsOfOnly_107 : decode cX6_factorsOfOnly 107 = .ok (.isub, 1) := by decide +kernel
theorem dX6_factorsOfOnly_108 : decode cX6_factorsOfOnly 108 = .ok (.iadd, 1) := by decide +kernel
theorem dX6_factorsOfOnly_109 : decode cX6_factorsOfOnly 109 = .ok (.istore_n 3, 1) := by decide +kernel
theorem dX6_factorsOfOnly_110 : decode cX6_factorsOfOnly 110 = .ok (.iinc 4 1, 3) := by decide +kernel
theorem dX6_factorsOfOnly_113 : decode cX6_factorsOfOnly 113 = .ok (.goto (-84), 3) := by decide +kernel
theorem dX6_factorsOfOnly_116 : decode cX6_factorsOfOnly 116 = .ok (.iload_n 3, 1) := by decide +kernel
theorem dX6_factorsOfOnly_117 : decode cX6_factorsOfOnly 117 = .ok (.ireturn, 1) := by decide +kernel
theorem dX7_init_0 : decode cX7_init 0 = .ok (.aload_n 0, 1) := by decide +kernel
theorem dX7_init_1 : decode cX7_init 1 = .ok (.invokespecial 1, 3) := by decide +kernel
theorem dX7_init_4 : decode cX7_init 4 = .ok (.aload_n 0, 1) := by decide +kernel
theorem dX7_init_5 : decode cX7_init 5 = .ok (.sipush 400, 3) := by decide +kernel
theorem dX7_init_8 : decode cX7_init 8 = .ok (.newarray .int, 2) := by decide +kernel
theorem dX7_init_10 : decode cX7_init 10 = .ok (.putfield 7, 3) := by decide +kernel
theorem dX7_init_13 : decode cX7_init 13 = .ok (.aload_n 0, 1) := by decide +kernel
theorem dX7_init_14 : decode cX7_init 14 = .ok (.sipush 400, 3) := by decide +kernel
theorem dX7_init_17 : decode cX7_init 17 = .ok (.newarray .int, 2) := by decide +kernel
theorem dX7_init_19 : decode cX7_init 19 = .ok (.putfield 13, 3) := by decide +kernel
theorem dX7_init_22 : decode cX7_init 22 = .ok (.aload_n 0, 1) := by decide +kernel
theorem dX7_init_23 : decode cX7_init 23 = .ok (.sipush 400, 3) := by decide +kernel
theorem dX7_init_26 : decode cX7_init 26 = .ok (.newarray .int, 2) := by decide +kernel
theorem dX7_init_28 : decode cX7_init 28 = .ok (.putfield 16, 3) := by decide +kernel
theorem dX7_init_31 : decode cX7_init 31 = .ok (.aload_n 0, 1) := by decide +kernel
theorem dX7_init_32 : decode cX7_init 32 = .ok (.sipush 400, 3) := by decide +kernel
theorem dX7_init_35 : decode cX7_init 35 = .ok (.newarray .int, 2) := by decide +kernel
theorem dX7_init_37 : decode cX7_init 37 = .ok (.putfield 19, 3) := by decide +kernel
theorem dX7_init_40 : decode cX7_init 40 = .ok (.aload_n 0, 1) := by decide +kernel
theorem dX7_init_41 : decode cX7_init 41 = .ok (.bipush 60, 2) := by decide +kernel
theorem dX7_init_43 : decode cX7_init 43 = .ok (.newarray .int, 2) := by decide +kernel
theorem dX7_init_45 : decode cX7_init 45 = .ok (.putfield 22, 3) := by decide +kernel
theorem dX7_init_48 : decode cX7_init 48 = .ok (.aload_n 0, 1) := by decide +kernel
theorem dX7_init_49 : decode cX7_init 49 = .ok (.bipush 120, 2) := by decide +kernel
theorem dX7_init_51 : decode cX7_init 51 = .ok (.newarray .int, 2) := by decide +kernel
theorem dX7_init_53 : decode cX7_init 53 = .ok (.putfield 25, 3) := by decide +kernel
theorem dX7_init_56 : decode cX7_init 56 = .ok (.aload_n 0, 1) := by decide +kernel
theorem dX7_init_57 : decode cX7_init 57 = .ok (.bipush 120, 2) := by decide +kernel
theorem dX7_init_59 : decode cX7_init 59 = .ok (.newarray .int, 2) := by decide +kernel
theorem dX7_init_61 : decode cX7_init 61 = .ok (.putfield 28, 3) := by decide +kernel
theorem dX7_init_64 : decode cX7_init 64 = .ok (.aload_n 0, 1) := by decide +kernel
theorem dX7_init_65 : decode cX7_init 65 = .ok (.bipush 12, 2) := by decide +kernel
theorem dX7_init_67 : decode cX7_init 67 = .ok (.newarray .int, 2) := by decide +kernel
theorem dX7_init_69 : decode cX7_init 69 = .ok (.putfield 31, 3) := by decide +kernel
theorem dX7_init_72 : decode cX7_init 72 = .ok (.aload_n 0, 1) := by decide +kernel
theorem dX7_init_73 : decode cX7_init 73 = .ok (.bipush 12, 2) := by decide +kernel
theorem dX7_init_75 : decode cX7_init 75 = .ok (.newarray .int, 2) := by decide +kernel
theorem dX7_init_77 : decode cX7_init 77 = .ok (.putfield 34, 3) := by decide +kernel
theorem dX7_init_80 : decode cX7_init 80 = .ok (.aload_n 0, 1) := by decide +kernel
theorem dX7_init_81 : decode cX7_init 81 = .ok (.iconst 2, 1) := by decide +kernel
theorem dX7_init_82 : decode cX7_init 82 = .ok (.newarray .int, 2) := by decide +kernel
theorem dX7_init_84 : decode cX7_init 84 = .ok (.putfield 37, 3) := by decide +kernel
theorem dX7_init_87 : decode cX7_init 87 = .ok (.aload_n 0, 1) := by decide +kernel
theorem dX7_init_88 : decode cX7_init 88 = .ok (.iconst 2, 1) := by decide +kernel
theorem dX7_init_89 : decode cX7_init 89 = .ok (.newarray .int, 2) := by decide +kernel
theorem dX7_init_91 : decode cX7_init 91 = .ok (.putfield 40, 3) := by decide +kernel
theorem dX7_init_94 : decode cX7_init 94 = .ok (.aload_n 0, 1) := by decide +kernel
theorem dX7_init_95 : decode cX7_init 95 = .ok (.bipush 70, 2) := by decide +kernel
theorem dX7_init_97 : decode cX7_init 97 = .ok (.newarray .int, 2) := by decide +kernel
theorem dX7_init_99 : decode cX7_init 99 = .ok (.putfield 43, 3) := by decide +kernel
theorem dX7_init_102 : decode cX7_init 102 = .ok (.aload_n 0, 1) := by decide +kernel
theorem dX7_init_103 : decode cX7_init 103 = .ok (.bipush 60, 2) := by decide +kernel
theorem dX7_init_105 : decode cX7_init 105 = .ok (.newarray .int, 2) := by decide +kernel
theorem dX7_init_107 : decode cX7_init 107 = .ok (.putfield 46, 3) := by decide +kernel
theorem dX7_init_110 : decode cX7_init 110 = .ok (.aload_n 0, 1) := by decide +kernel
theorem dX7_init_111 : decode cX7_init 111 = .ok (.bipush 60, 2) := by decide +kernel
theorem dX7_init_113 : decode cX7_init 113 = .ok (.newarray .int, 2) := by decide +kernel
theorem dX7_init_115 : decode cX7_init 115 = .ok (.putfield 49, 3) := by decide +kernel
theorem dX7_init_118 : decode cX7_init 118 = .ok (.aload_n 0, 1) := by decide +kernel
theorem dX7_init_119 : decode cX7_init 119 = .ok (.sipush 200, 3) := by decide +kernel
theorem dX7_init_122 : decode cX7_init 122 = .ok (.newarray .int, 2) := by decide +kernel
theorem dX7_init_124 : decode cX7_init 124 = .ok (.putfield 52, 3) := by decide +kernel
theorem dX7_init_127 : decode cX7_init 127 = .ok (.aload_n 0, 1) := by decide +kernel
theorem dX7_init_128 : decode cX7_init 128 = .ok (.sipush 200, 3) := by decide +kernel
theorem dX7_init_131 : decode cX7_init 131 = .ok (.newarray .int, 2) := by decide +kernel
theorem dX7_init_133 : decode cX7_init 133 = .ok (.putfield 55, 3) := by decide +kernel
theorem dX7_init_136 : decode cX7_init 136 = .ok (.aload_n 0, 1) := by decide +kernel
theorem dX7_init_137 : decode cX7_init 137 = .ok (.sipush 200, 3) := by decide +kernel
theorem dX7_init_140 : decode cX7_init 140 = .ok (.newarray .int, 2) := by decide +kernel
theorem dX7_init_142 : decode cX7_init 142 = .ok (.putfield 58, 3) := by decide +kernel
theorem dX7_init_145 : decode cX7_init 145 = .ok (.aload_n 0, 1) := by decide +kernel
theorem dX7_init_146 : decode cX7_init 146 = .ok (.sipush 200, 3) := by decide +kernel
theorem dX7_init_149 : decode cX7_init 149 = .ok (.newarray .int, 2) := by decide +kernel
theorem dX7_init_151 : decode cX7_init 151 = .ok (.putfield 61, 3) := by decide +kernel
theorem dX7_init_154 : decode cX7_init 154 = .ok (.aload_n 0, 1) := by decide +kernel
theorem dX7_init_155 : decode cX7_init 155 = .ok (.bipush 61, 2) := by decide +kernel
theorem dX7_init_157 : decode cX7_init 157 = .ok (.newarray .int, 2) := by decide +kernel
theorem dX7_init_159 : decode cX7_init 159 = .ok (.putfield 64, 3) := by decide +kernel
theorem dX7_init_162 : decode cX7_init 162 = .ok (.aload_n 0, 1) := by decide +kernel
theorem dX7_init_163 : decode cX7_init 163 = .ok (.getfield 7, 3) := by decide +kernel
theorem dX7_init_166 : decode cX7_init 166 = .ok (.iconst 0, 1) := by decide +kernel
theorem dX7_init_167 : decode cX7_init 167 = .ok (.bipush (-6), 2) := by decide +kernel
theorem dX7_init_169 : decode cX7_init 169 = .ok (.iastore, 1) := by decide +kernel
theorem dX7_init_170 : decode cX7_init 170 = .ok (.aload_n 0, 1) := by decide +kernel
theorem dX7_init_171 : decode cX7_init 171 = .ok (.iconst 1, 1) := by decide +kernel
theorem dX7_init_172 : decode cX7_init 172 = .ok (.putfield 67, 3) := by decide +kernel
theorem dX7_init_175 : decode cX7_init 175 = .ok (.return_, 1) := by decide +kernel
theorem dX7_in_0 : decode cX7_in 0 = .ok (.iload_n 0, 1) := by decide +kernel
theorem dX7_in_1 : decode cX7_in 1 = .ok (.iload_n 1, 1) := by decide +kernel
theorem dX7_in_2 : decode cX7_in 2 = .ok (.if_icmp .lt 12, 3) := by decide +kernel
theorem dX7_in_5 : decode cX7_in 5 = .ok (.iload_n 0, 1) := by decide +kernel
theorem dX7_in_6 : decode cX7_in 6 = .ok (.iload_n 2, 1) := by decide +kernel
theorem dX7_in_7 : decode cX7_in 7 = .ok (.if_icmp .gt 7, 3) := by decide +kernel
theorem dX7_in_10 : decode cX7_in 10 = .ok (.iconst 1, 1) := by decide +kernel
theorem dX7_in_11 : decode cX7_in 11 = .ok (.goto 4, 3) := by decide +kernel
theorem dX7_in_14 : decode cX7_in 14 = .ok (.iconst 0, 1) := by decide +kernel
theorem dX7_in_15 : decode cX7_in 15 = .ok (.ireturn, 1) := by decide +kernel
theorem dX7_sizeOf_0 : decode cX7_sizeOf 0 = .ok (.iconst 0, 1) := by decide +kernel
theorem dX7_sizeOf_1 : decode cX7_sizeOf 1 = .ok (.istore_n 1, 1) := by decide +kernel
theorem dX7_sizeOf_2 : decode cX7_sizeOf 2 = .ok (.iconst 0, 1) := by decide +kernel
theorem dX7_sizeOf_3 : decode cX7_sizeOf 3 = .ok (.istore_n 2, 1) := by decide +kernel
theorem dX7_sizeOf_4 : decode cX7_sizeOf 4 = .ok (.iload_n 2, 1) := by decide +kernel
theorem dX7_sizeOf_5 : decode cX7_sizeOf 5 = .ok (.bipush 8, 2) := by decide +kernel
theorem dX7_sizeOf_7 : decode cX7_sizeOf 7 = .ok (.if_icmp .ge 17, 3) := by decide +kernel
theorem dX7_sizeOf_10 : decode cX7_sizeOf 10 = .ok (.iload_n 1, 1) := by decide +kernel
theorem dX7_sizeOf_11 : decode cX7_sizeOf 11 = .ok (.iload_n 0, 1) := by decide +kernel
theorem dX7_sizeOf_12 : decode cX7_sizeOf 12 = .ok (.iload_n 2, 1) := by decide +kernel
theorem dX7_sizeOf_13 : decode cX7_sizeOf 13 = .ok (.ishr, 1) := by decide +kernel
theorem dX7_sizeOf_14 : decode cX7_sizeOf 14 = .ok (.iconst 1, 1) := by decide +kernel
theorem dX7_sizeOf_15 : decode cX7_sizeOf 15 = .ok (.iand, 1) := by decide +kernel
theorem dX7_sizeOf_16 : decode cX7_sizeOf 16 = .ok (.iadd, 1) := by decide +kernel
theorem dX7_sizeOf_17 : decode cX7_sizeOf 17 = .ok (.istore_n 1, 1) := by decide +kernel
theorem dX7_sizeOf_18 : decode cX7_sizeOf 18 = .ok (.iinc 2 1, 3) := by decide +kernel
theorem dX7_sizeOf_21 : decode cX7_sizeOf 21 = .ok (.goto (-17), 3) := by decide +kernel
theorem dX7_sizeOf_24 : decode cX7_sizeOf 24 = .ok (.iload_n 1, 1) := by decide +kernel
theorem dX7_sizeOf_25 : decode cX7_sizeOf 25 = .ok (.ireturn, 1) := by decide +kernel
theorem dX7_lay_0 : decode cX7_lay 0 = .ok (.iconst 0, 1) := by decide +kernel
theorem dX7_lay_1 : decode cX7_lay 1 = .ok (.istore_n 3, 1) := by decide +kernel
theorem dX7_lay_2 : decode cX7_lay 2 = .ok (.iload_n 2, 1) := by decide +kernel
theorem dX7_lay_3 : decode cX7_lay 3 = .ok (.istore 4, 2) := by decide +kernel
theorem dX7_lay_5 : decode cX7_lay 5 = .ok (.iload 4, 2) := by decide +kernel
theorem dX7_lay_7 : decode cX7_lay 7 = .ok (.ifCond .le 31, 3) := by decide +kernel
theorem dX7_lay_10 : decode cX7_lay 10 = .ok (.aload_n 0, 1) := by decide +kernel
theorem dX7_lay_11 : decode cX7_lay 11 = .ok (.getfield 43, 3) := by decide +kernel
theorem dX7_lay_14 : decode cX7_lay 14 = .ok (.iload_n 3, 1) := by decide +kernel
theorem dX7_lay_15 : decode cX7_lay 15 = .ok (.aload_n 0, 1) := by decide +kernel
theorem dX7_lay_16 : decode cX7_lay 16 = .ok (.getfield 13, 3) := by decide +kernel
theorem dX7_lay_19 : decode cX7_lay 19 = .ok (.iload 4, 2) := by decide +kernel
theorem dX7_lay_21 : decode cX7_lay 21 = .ok (.iaload, 1) := by decide +kernel
theorem dX7_lay_22 : decode cX7_lay 22 = .ok (.iastore, 1) := by decide +kernel
theorem dX7_lay_23 : decode cX7_lay 23 = .ok (.iinc 3 1, 3) := by decide +kernel
theorem dX7_lay_26 : decode cX7_lay 26 = .ok (.aload_n 0, 1) := by decide +kernel
theorem dX7_lay_27 : decode cX7_lay 27 = .ok (.getfield 7, 3) := by decide +kernel
theorem dX7_lay_30 : decode cX7_lay 30 = .ok (.iload 4, 2) := by decide +kernel
theorem dX7_lay_32 : decode cX7_lay 32 = .ok (.iaload, 1) := by decide +kernel
theorem dX7_lay_33 : decode cX7_lay 33 = .ok (.istore 4, 2) := by decide +kernel
theorem dX7_lay_35 : decode cX7_lay 35 = .ok (.goto (-30), 3) := by decide +kernel
theorem dX7_lay_38 : decode cX7_lay 38 = .ok (.aload_n 0, 1) := by decide +kernel
theorem dX7_lay_39 : decode cX7_lay 39 = .ok (.getfield 37, 3) := by decide +kernel
theorem dX7_lay_42 : decode cX7_lay 42 = .ok (.iload_n 1, 1) := by decide +kernel
theorem dX7_lay_43 : decode cX7_lay 43 = .ok (.iconst 0, 1) := by decide +kernel
theorem dX7_lay_44 : decode cX7_lay 44 = .ok (.iastore, 1) := by decide +kernel
theorem dX7_lay_45 : decode cX7_lay 45 = .ok (.aload_n 0, 1) := by decide +kernel
theorem dX7_lay_46 : decode cX7_lay 46 = .ok (.getfield 40, 3) := by decide +kernel
theorem dX7_lay_49 : decode cX7_lay 49 = .ok (.iload_n 1, 1) := by decide +kernel
theorem dX7_lay_50 : decode cX7_lay 50 = .ok (.iconst 0, 1) := by decide +kernel
theorem dX7_lay_51 : decode cX7_lay 51 = .ok (.iastore, 1) := by decide +kernel
theorem dX7_lay_52 : decode cX7_lay 52 = .ok (.iload_n 3, 1) := by decide +kernel
theorem dX7_lay_53 : decode cX7_lay 53 = .ok (.iconst 1, 1) := by decide +kernel
theorem dX7_lay_54 : decode cX7_lay 54 = .ok (.isub, 1) := by decide +kernel
theorem dX7_lay_55 : decode cX7_lay 55 = .ok (.istore 4, 2) := by decide +kernel
theorem dX7_lay_57 : decode cX7_lay 57 = .ok (.iload 4, 2) := by decide +kernel
theorem dX7_lay_59 : decode cX7_lay 59 = .ok (.ifCond .lt 144, 3) := by decide +kernel
theorem dX7_lay_62 : decode cX7_lay 62 = .ok (.bipush 6, 2) := by decide +kernel
theorem dX7_lay_64 : decode cX7_lay 64 = .ok (.iload_n 1, 1) := by decide +kernel
theorem dX7_lay_65 : decode cX7_lay 65 = .ok (.imul, 1) := by decide +kernel
theorem dX7_lay_66 : decode cX7_lay 66 = .ok (.aload_n 0, 1) := by decide +kernel
theorem dX7_lay_67 : decode cX7_lay 67 = .ok (.getfield 40, 3) := by decide +kernel
theorem dX7_lay_70 : decode cX7_lay 70 = .ok (.iload_n 1, 1) := by decide +kernel
theorem dX7_lay_71 : decode cX7_lay 71 = .ok (.iaload, 1) := by decide +kernel
theorem dX7_lay_72 : decode cX7_lay 72 = .ok (.iadd, 1) := by decide +kernel
theorem dX7_lay_73 : decode cX7_lay 73 = .ok (.istore 5, 2) := by decide +kernel
theorem dX7_lay_75 : decode cX7_lay 75 = .ok (.aload_n 0, 1) := by decide +kernel
theorem dX7_lay_76 : decode cX7_lay 76 = .ok (.getfield 43, 3) := by decide +kernel
theorem dX7_lay_79 : decode cX7_lay 79 = .ok (.iload 4, 2) := by decide +kernel
theorem dX7_lay_81 : decode cX7_lay 81 = .ok (.iaload, 1) := by decide +kernel
theorem dX7_lay_82 : decode cX7_lay 82 = .ok (.iconst (-1), 1) := by decide +kernel
theorem dX7_lay_83 : decode cX7_lay 83 = .ok (.if_icmp .ne 42, 3) := by decide +kernel
theorem dX7_lay_86 : decode cX7_lay 86 = .ok (.aload_n 0, 1) := by decide +kernel
theorem dX7_lay_87 : decode cX7_lay 87 = .ok (.getfield 31, 3) := by decide +kernel
theorem dX7_lay_90 : decode cX7_lay 90 = .ok (.iload 5, 2) := by decide +kernel
theorem dX7_lay_92 : decode cX7_lay 92 = .ok (.aload_n 0, 1) := by decide +kernel
theorem dX7_lay_93 : decode cX7_lay 93 = .ok (.getfield 37, 3) := by decide +kernel
theorem dX7_lay_96 : decode cX7_lay 96 = .ok (.iload_n 1, 1) := by decide +kernel
theorem dX7_lay_97 : decode cX7_lay 97 = .ok (.iaload, 1) := by decide +kernel
theorem dX7_lay_98 : decode cX7_lay 98 = .ok (.iastore, 1) := by decide +kernel
theorem dX7_lay_99 : decode cX7_lay 99 = .ok (.aload_n 0, 1) := by decide +kernel
theorem dX7_lay_100 : decode cX7_lay 100 = .ok (.getfield 34, 3) := by decide +kernel
theorem dX7_lay_103 : decode cX7_lay 103 = .ok (.iload 5, 2) := by decide +kernel
theorem dX7_lay_105 : decode cX7_lay 105 = .ok (.aload_n 0, 1) := by decide +kernel
theorem dX7_lay_106 : decode cX7_lay 106 = .ok (.getfield 37, 3) := by decide +kernel
theorem dX7_lay_109 : decode cX7_lay 109 = .ok (.iload_n 1, 1) := by decide +kernel
theorem dX7_lay_110 : decode cX7_lay 110 = .ok (.iaload, 1) := by decide +kernel
theorem dX7_lay_111 : decode cX7_lay 111 = .ok (.iastore, 1) := by decide +kernel
theorem dX7_lay_112 : decode cX7_lay 112 = .ok (.aload_n 0, 1) := by decide +kernel
theorem dX7_lay_113 : decode cX7_lay 113 = .ok (.getfield 40, 3) := by decide +kernel
theorem dX7_lay_116 : decode cX7_lay 116 = .ok (.iload_n 1, 1) := by decide +kernel
theorem dX7_lay_117 : decode cX7_lay 117 = .ok (.dup2, 1) := by decide +kernel
theorem dX7_lay_118 : decode cX7_lay 118 = .ok (.iaload, 1) := by decide +kernel
theorem dX7_lay_119 : decode cX7_lay 119 = .ok (.iconst 1, 1) := by decide +kernel
theorem dX7_lay_120 : decode cX7_lay 120 = .ok (.iadd, 1) := by decide +kernel
theorem dX7_lay_121 : decode cX7_lay 121 = .ok (.iastore, 1) := by decide +kernel
theorem dX7_lay_122 : decode cX7_lay 122 = .ok (.goto 75, 3) := by decide +kernel
theorem dX7_lay_125 : decode cX7_lay 125 = .ok (.aload_n 0, 1) := by decide +kernel
theorem dX7_lay_126 : decode cX7_lay 126 = .ok (.getfield 25, 3) := by decide +kernel
theorem dX7_lay_129 : decode cX7_lay 129 = .ok (.bipush 60, 2) := by decide +kernel
theorem dX7_lay_131 : decode cX7_lay 131 = .ok (.iload_n 1, 1) := by decide +kernel
theorem dX7_lay_132 : decode cX7_lay 132 = .ok (.imul, 1) := by decide +kernel
theorem dX7_lay_133 : decode cX7_lay 133 = .ok (.aload_n 0, 1) := by decide +kernel
theorem dX7_lay_134 : decode cX7_lay 134 = .ok (.getfield 37, 3) := by decide +kernel
theorem dX7_lay_137 : decode cX7_lay 137 = .ok (.iload_n 1, 1) := by decide +kernel
theorem dX7_lay_138 : decode cX7_lay 138 = .ok (.iaload, 1) := by decide +kernel
theorem dX7_lay_139 : decode cX7_lay 139 = .ok (.iadd, 1) := by decide +kernel
theorem dX7_lay_140 : decode cX7_lay 140 = .ok (.aload_n 0, 1) := by decide +kernel
theorem dX7_lay_141 : decode cX7_lay 141 = .ok (.getfield 43, 3) := by decide +kernel
theorem dX7_lay_144 : decode cX7_lay 144 = .ok (.iload 4, 2) := by decide +kernel
theorem dX7_lay_146 : decode cX7_lay 146 = .ok (.iaload, 1) := by decide +kernel
theorem dX7_lay_147 : decode cX7_lay 147 = .ok (.iastore, 1) := by decide +kernel
theorem dX7_lay_148 : decode cX7_lay 148 = .ok (.aload_n 0, 1) := by decide +kernel
theorem dX7_lay_149 : decode cX7_lay 149 = .ok (.getfield 28, 3) := by decide +kernel
theorem dX7_lay_152 : decode cX7_lay 152 = .ok (.bipush 60, 2) := by decide +kernel
theorem dX7_lay_154 : decode cX7_lay 154 = .ok (.iload_n 1, 1) := by decide +kernel
theorem dX7_lay_155 : decode cX7_lay 155 = .ok (.imul, 1) := by decide +kernel
theorem dX7_lay_156 : decode cX7_lay 156 = .ok (.aload_n 0, 1) := by decide +kernel
theorem dX7_lay_157 : decode cX7_lay 157 = .ok (.getfield 37, 3) := by decide +kernel
theorem dX7_lay_160 : decode cX7_lay 160 = .ok (.iload_n 1, 1) := by decide +kernel
theorem dX7_lay_161 : decode cX7_lay 161 = .ok (.iaload, 1) := by decide +kernel
theorem dX7_lay_162 : decode cX7_lay 162 = .ok (.iadd, 1) := by decide +kernel
theorem dX7_lay_163 : decode cX7_lay 163 = .ok (.aload_n 0, 1) := by decide +kernel
theorem dX7_lay_164 : decode cX7_lay 164 = .ok (.getfield 40, 3) := by decide +kernel
theorem dX7_lay_167 : decode cX7_lay 167 = .ok (.iload_n 1, 1) := by decide +kernel
theorem dX7_lay_168 : decode cX7_lay 168 = .ok (.iaload, 1) := by decide +kernel
theorem dX7_lay_169 : decode cX7_lay 169 = .ok (.iconst 1, 1) := by decide +kernel
theorem dX7_lay_170 : decode cX7_lay 170 = .ok (.isub, 1) := by decide +kernel
theorem dX7_lay_171 : decode cX7_lay 171 = .ok (.iastore, 1) := by decide +kernel
theorem dX7_lay_172 : decode cX7_lay 172 = .ok (.aload_n 0, 1) := by decide +kernel
theorem dX7_lay_173 : decode cX7_lay 173 = .ok (.getfield 37, 3) := by decide +kernel
theorem dX7_lay_176 : decode cX7_lay 176 = .ok (.iload_n 1, 1) := by decide +kernel
theorem dX7_lay_177 : decode cX7_lay 177 = .ok (.dup2, 1) := by decide +kernel
theorem dX7_lay_178 : decode cX7_lay 178 = .ok (.iaload, 1) := by decide +kernel
theorem dX7_lay_179 : decode cX7_lay 179 = .ok (.iconst 1, 1) := by decide +kernel
theorem dX7_lay_180 : decode cX7_lay 180 = .ok (.iadd, 1) := by decide +kernel
theorem dX7_lay_181 : decode cX7_lay 181 = .ok (.iastore, 1) := by decide +kernel
theorem dX7_lay_182 : decode cX7_lay 182 = .ok (.aload_n 0, 1) := by decide +kernel
theorem dX7_lay_183 : decode cX7_lay 183 = .ok (.getfield 34, 3) := by decide +kernel
theorem dX7_lay_186 : decode cX7_lay 186 = .ok (.iload 5, 2) := by decide +kernel
theorem dX7_lay_188 : decode cX7_lay 188 = .ok (.iconst 1, 1) := by decide +kernel
theorem dX7_lay_189 : decode cX7_lay 189 = .ok (.isub, 1) := by decide +kernel
theorem dX7_lay_190 : decode cX7_lay 190 = .ok (.aload_n 0, 1) := by decide +kernel
theorem dX7_lay_191 : decode cX7_lay 191 = .ok (.getfield 37, 3) := by decide +kernel
theorem dX7_lay_194 : decode cX7_lay 194 = .ok (.iload_n 1, 1) := by decide +kernel
theorem dX7_lay_195 : decode cX7_lay 195 = .ok (.iaload, 1) := by decide +kernel
theorem dX7_lay_196 : decode cX7_lay 196 = .ok (.iastore, 1) := by decide +kernel
theorem dX7_lay_197 : decode cX7_lay 197 = .ok (.iinc 4 (-1), 3) := by decide +kernel
theorem dX7_lay_200 : decode cX7_lay 200 = .ok (.goto (-143), 3) := by decide +kernel
theorem dX7_lay_203 : decode cX7_lay 203 = .ok (.return_, 1) := by decide +kernel
set_option maxRecDepth 20000 in
theorem ggX7_layPresent_X7_lay : GoodIn wsX7_layPresent wsX7_lay := goodIn_r _ [6, 7, 8, 9, 10, 11, 12, 13, 14, 15, 16, 17, 18, 19, 20, 21, 22, 23, 24, 25, 26, 27, 28, 29, 30, 31, 32, 33, 34, 35, 36, 37, 38] (by decide +kernel) (by decide +kernel)
set_option maxRecDepth 20000 in
theorem gX7_layPresent_X7_lay : GoodIn wsX7_layPresent (wsV RX7 74 RX7 yX7_lay wsX7_lay) := goodIn_app (goodIn_of _ (by decide +kernel)) ggX7_layPresent_X7_lay
theorem dX7_layPresent_0 : decode cX7_layPresent 0 = .ok (.aload_n 0, 1) := by decide +kernel
theorem dX7_layPresent_1 : decode cX7_layPresent 1 = .ok (.iconst 0, 1) := by decide +kernel
theorem dX7_layPresent_2 : decode cX7_layPresent 2 = .ok (.aload_n 0, 1) := by decide +kernel
theorem dX7_layPresent_3 : decode cX7_layPresent 3 = .ok (.getfield 71, 3) := by decide +kernel
theorem dX7_layPresent_6 : decode cX7_layPresent 6 = .ok (.invokevirtual 74, 3) := by decide +kernel
theorem dX7_layPresent_9 : decode cX7_layPresent 9 = .ok (.return_, 1) := by decide +kernel
theorem dX7_letterAt_0 : decode cX7_letterAt 0 = .ok (.aload_n 0, 1) := by decide +kernel
theorem dX7_letterAt_1 : decode cX7_letterAt 1 = .ok (.getfield 25, 3) := by decide +kernel
theorem dX7_letterAt_4 : decode cX7_letterAt 4 = .ok (.iload_n 1, 1) := by decide +kernel
theorem dX7_letterAt_5 : decode cX7_letterAt 5 = .ok (.iaload, 1) := by decide +kernel
theorem dX7_letterAt_6 : decode cX7_letterAt 6 = .ok (.ireturn, 1) := by decide +kernel
theorem dX7_rest_0 : decode cX7_rest 0 = .ok (.aload_n 0, 1) := by decide +kernel
theorem dX7_rest_1 : decode cX7_rest 1 = .ok (.getfield 34, 3) := by decide +kernel
theorem dX7_rest_4 : decode cX7_rest 4 = .ok (.bipush 6, 2) := by decide +kernel
theorem dX7_rest_6 : decode cX7_rest 6 = .ok (.iload_n 1, 1) := by decide +kernel
theorem dX7_rest_7 : decode cX7_rest 7 = .ok (.imul, 1) := by decide +kernel
theorem dX7_rest_8 : decode cX7_rest 8 = .ok (.aload_n 0, 1) := by decide +kernel
theorem dX7_rest_9 : decode cX7_rest 9 = .ok (.getfield 28, 3) := by decide +kernel
theorem dX7_rest_12 : decode cX7_rest 12 = .ok (.bipush 60, 2) := by decide +kernel
theorem dX7_rest_14 : decode cX7_rest 14 = .ok (.iload_n 1, 1) := by decide +kernel
theorem dX7_rest_15 : decode cX7_rest 15 = .ok (.imul, 1) := by decide +kernel
theorem dX7_rest_16 : decode cX7_rest 16 = .ok (.iload_n 2, 1) := by decide +kernel
theorem dX7_rest_17 : decode cX7_rest 17 = .ok (.iadd, 1) := by decide +kernel
theorem dX7_rest_18 : decode cX7_rest 18 = .ok (.iaload, 1) := by decide +kernel
theorem dX7_rest_19 : decode cX7_rest 19 = .ok (.iadd, 1) := by decide +kernel
theorem dX7_rest_20 : decode cX7_rest 20 = .ok (.iaload, 1) := by decide +kernel
theorem dX7_rest_21 : decode cX7_rest 21 = .ok (.iload_n 2, 1) := by decide +kernel
theorem dX7_rest_22 : decode cX7_rest 22 = .ok (.isub, 1) := by decide +kernel
theorem dX7_rest_23 : decode cX7_rest 23 = .ok (.ireturn, 1) := by decide +kernel
set_option maxRecDepth 20000 in
theorem ggX7_alike_X7_rest : GoodIn wsX7_alike wsX7_rest := goodIn_r _ [6, 7, 8, 9, 10, 11, 12, 13, 14, 15, 16, 17, 18, 19, 20, 21, 22, 23, 24, 25, 26, 27, 28, 29, 30, 31] (by decide +kernel) (by decide +kernel)
set_option maxRecDepth 20000 in
theorem gX7_alike_X7_rest : GoodIn wsX7_alike (wsV RX7 78 RX7 yX7_rest wsX7_rest) := goodIn_app (goodIn_of _ (by decide +kernel)) ggX7_alike_X7_rest
theorem dX7_alike_0 : decode cX7_alike 0 = .ok (.aload_n 0, 1) := by decide +kernel
theorem dX7_alike_1 : decode cX7_alike 1 = .ok (.iload_n 1, 1) := by decide +kernel
theorem dX7_alike_2 : decode cX7_alike 2 = .ok (.iload_n 2, 1) := by decide +kernel
theorem dX7_alike_3 : decode cX7_alike 3 = .ok (.invokevirtual 78, 3) := by decide +kernel
theorem dX7_alike_6 : decode cX7_alike 6 = .ok (.aload_n 0, 1) := by decide +kernel
theorem dX7_alike_7 : decode cX7_alike 7 = .ok (.iload_n 3, 1) := by decide +kernel
theorem dX7_alike_8 : decode cX7_alike 8 = .ok (.iload 4, 2) := by decide +kernel
theorem dX7_alike_10 : decode cX7_alike 10 = .ok (.invokevirtual 78, 3) := by decide +kernel
theorem dX7_alike_13 : decode cX7_alike 13 = .ok (.if_icmp .ge 12, 3) := by decide +kernel
theorem dX7_alike_16 : decode cX7_alike 16 = .ok (.aload_n 0, 1) := by decide +kernel
theorem dX7_alike_17 : decode cX7_alike 17 = .ok (.iload_n 1, 1) := by decide +kernel
theorem dX7_alike_18 : decode cX7_alike 18 = .ok (.iload_n 2, 1) := by decide +kernel
theorem dX7_alike_19 : decode cX7_alike 19 = .ok (.invokevirtual 78, 3) := by decide +kernel
theorem dX7_alike_22 : decode cX7_alike 22 = .ok (.goto 10, 3) := by decide +kernel
theorem dX7_alike_25 : decode cX7_alike 25 = .ok (.aload_n 0, 1) := by decide +kernel
theorem dX7_alike_26 : decode cX7_alike 26 = .ok (.iload_n 3, 1) := by decide +kernel
theorem dX7_alike_27 : decode cX7_alike 27 = .ok (.iload 4, 2) := by decide +kernel
theorem dX7_alike_29 : decode cX7_alike 29 = .ok (.invokevirtual 78, 3) := by decide +kernel
theorem dX7_alike_32 : decode cX7_alike 32 = .ok (.istore 5, 2) := by decide +kernel
theorem dX7_alike_34 : decode cX7_alike 34 = .ok (.iconst 0, 1) := by decide +kernel
theorem dX7_alike_35 : decode cX7_alike 35 = .ok (.istore 6, 2) := by decide +kernel
theorem dX7_alike_37 : decode cX7_alike 37 = .ok (.iload 6, 2) := by decide +kernel
theorem dX7_alike_39 : decode cX7_alike 39 = .ok (.iload 5, 2) := by decide +kernel
theorem dX7_alike_41 : decode cX7_alike 41 = .ok (.if_icmp .ge 41, 3) := by decide +kernel
theorem dX7_alike_44 : decode cX7_alike 44 = .ok (.aload_n 0, 1) := by decide +kernel
theorem dX7_alike_45 : decode cX7_alike 45 = .ok (.getfield 25, 3) := by decide +kernel
theorem dX7_alike_48 : decode cX7_alike 48 = .ok (.bipush 60, 2) := by decide +kernel
theorem dX7_alike_50 : decode cX7_alike 50 = .ok (.iload_n 1, 1) := by decide +kernel
theorem dX7_alike_51 : decode cX7_alike 51 = .ok (.imul, 1) := by decide +kernel
theorem dX7_alike_52 : decode cX7_alike 52 = .ok (.iload_n 2, 1) := by decide +kernel
theorem dX7_alike_53 : decode cX7_alike 53 = .ok (.iadd, 1) := by decide +kernel
theorem dX7_alike_54 : decode cX7_alike 54 = .ok (.iload 6, 2) := by decide +kernel
theorem dX7_alike_56 : decode cX7_alike 56 = .ok (.iadd, 1) := by decide +kernel
theorem dX7_alike_57 : decode cX7_alike 57 = .ok (.iaload, 1) := by decide +kernel
theorem dX7_alike_58 : decode cX7_alike 58 = .ok (.aload_n 0, 1) := by decide +kernel
theorem dX7_alike_59 : decode cX7_alike 59 = .ok (.getfield 25, 3) := by decide +kernel
theorem dX7_alike_62 : decode cX7_alike 62 = .ok (.bipush 60, 2) := by decide +kernel
theorem dX7_alike_64 : decode cX7_alike 64 = .ok (.iload_n 3, 1) := by decide +kernel
theorem dX7_alike_65 : decode cX7_alike 65 = .ok (.imul, 1) := by decide +kernel
theorem dX7_alike_66 : decode cX7_alike 66 = .ok (.iload 4, 2) := by decide +kernel
theorem dX7_alike_68 : decode cX7_alike 68 = .ok (.iadd, 1) := by decide +kernel
theorem dX7_alike_69 : decode cX7_alike 69 = .ok (.iload 6, 2) := by decide +kernel
theorem dX7_alike_71 : decode cX7_alike 71 = .ok (.iadd, 1) := by decide +kernel
theorem dX7_alike_72 : decode cX7_alike 72 = .ok (.iaload, 1) := by decide +kernel
theorem dX7_alike_73 : decode cX7_alike 73 = .ok (.if_icmp .ne 9, 3) := by decide +kernel
theorem dX7_alike_76 : decode cX7_alike 76 = .ok (.iinc 6 1, 3) := by decide +kernel
theorem dX7_alike_79 : decode cX7_alike 79 = .ok (.goto (-42), 3) := by decide +kernel
theorem dX7_alike_82 : decode cX7_alike 82 = .ok (.iload 6, 2) := by decide +kernel
theorem dX7_alike_84 : decode cX7_alike 84 = .ok (.ireturn, 1) := by decide +kernel
set_option maxRecDepth 20000 in
theorem ggX7_isBefore_X7_alike : GoodIn wsX7_isBefore wsX7_alike := goodIn_r _ [6, 1, 7, 8, 9, 5, 10, 11, 12, 13, 14, 15, 16, 17, 18, 19, 20, 21, 22, 23, 24, 25, 26, 27, 28, 29, 30, 31, 32, 33, 34, 35] (by decide +kernel) (by decide +kernel)
set_option maxRecDepth 20000 in
theorem gX7_isBefore_X7_alike : GoodIn wsX7_isBefore (wsV RX7 82 RX7 yX7_alike wsX7_alike) := goodIn_app (goodIn_of _ (by decide +kernel)) ggX7_isBefore_X7_alike
set_option maxRecDepth 20000 in
theorem ggX7_isBefore_X7_rest : GoodIn wsX7_isBefore wsX7_rest := goodIn_r _ [10, 11, 12, 13, 14, 15, 16, 17, 18, 19, 20, 21, 22, 23, 24, 25, 26, 27, 28, 29, 30, 31, 32, 33, 34, 35] (by decide +kernel) (by decide +kernel)
set_option maxRecDepth 20000 in
theorem gX7_isBefore_X7_rest : GoodIn wsX7_isBefore (wsV RX7 78 RX7 yX7_rest wsX7_rest) := goodIn_app (goodIn_of _ (by decide +kernel)) ggX7_isBefore_X7_rest
theorem dX7_isBefore_0 : decode cX7_isBefore 0 = .ok (.aload_n 0, 1) := by decide +kernel
theorem dX7_isBefore_1 : decode cX7_isBefore 1 = .ok (.iconst 0, 1) := by decide +kernel
theorem dX7_isBefore_2 : decode cX7_isBefore 2 = .ok (.iload_n 1, 1) := by decide +kernel
theorem dX7_isBefore_3 : decode cX7_isBefore 3 = .ok (.iconst 0, 1) := by decide +kernel
theorem dX7_isBefore_4 : decode cX7_isBefore 4 = .ok (.iload_n 2, 1) := by decide +kernel
theorem dX7_isBefore_5 : decode cX7_isBefore 5 = .ok (.invokevirtual 82, 3) := by decide +kernel
theorem dX7_isBefore_8 : decode cX7_isBefore 8 = .ok (.istore_n 3, 1) := by decide +kernel
theorem dX7_isBefore_9 : decode cX7_isBefore 9 = .ok (.iload_n 3, 1) := by decide +kernel
theorem dX7_isBefore_10 : decode cX7_isBefore 10 = .ok (.aload_n 0, 1) := by decide +kernel
theorem dX7_isBefore_11 : decode cX7_isBefore 11 = .ok (.iconst 0, 1) := by decide +kernel
theorem dX7_isBefore_12 : decode cX7_isBefore 12 = .ok (.iload_n 1, 1) := by decide +kernel
theorem dX7_isBefore_13 : decode cX7_isBefore 13 = .ok (.invokevirtual 78, 3) := by decide +kernel
theorem dX7_isBefore_16 : decode cX7_isBefore 16 = .ok (.if_icmp .ne 24, 3) := by decide +kernel
theorem dX7_isBefore_19 : decode cX7_isBefore 19 = .ok (.iload_n 3, 1) := by decide +kernel
theorem dX7_isBefore_20 : decode cX7_isBefore 20 = .ok (.aload_n 0, 1) := by decide +kernel
theorem dX7_isBefore_21 : decode cX7_isBefore 21 = .ok (.iconst 0, 1) := by decide +kernel
theorem dX7_isBefore_22 : decode cX7_isBefore 22 = .ok (.iload_n 2, 1) := by decide +kernel
theorem dX7_isBefore_23 : decode cX7_isBefore 23 = .ok (.invokevirtual 78, 3) := by decide +kernel
theorem dX7_isBefore_26 : decode cX7_isBefore 26 = .ok (.if_icmp .lt 8, 3) := by decide +kernel
theorem dX7_isBefore_29 : decode cX7_isBefore 29 = .ok (.iload_n 1, 1) := by decide +kernel
theorem dX7_isBefore_30 : decode cX7_isBefore 30 = .ok (.iload_n 2, 1) := by decide +kernel
theorem dX7_isBefore_31 : decode cX7_isBefore 31 = .ok (.if_icmp .ge 7, 3) := by decide +kernel
theorem dX7_isBefore_34 : decode cX7_isBefore 34 = .ok (.iconst 1, 1) := by decide +kernel
theorem dX7_isBefore_35 : decode cX7_isBefore 35 = .ok (.goto 4, 3) := by decide +kernel
theorem dX7_isBefore_38 : decode cX7_isBefore 38 = .ok (.iconst 0, 1) := by decide +kernel
theorem dX7_isBefore_39 : decode cX7_isBefore 39 = .ok (.ireturn, 1) := by decide +kernel
theorem dX7_isBefore_40 : decode cX7_isBefore 40 = .ok (.iload_n 3, 1) := by decide +kernel
theorem dX7_isBefore_41 : decode cX7_isBefore 41 = .ok (.aload_n 0, 1) := by decide +kernel
theorem dX7_isBefore_42 : decode cX7_isBefore 42 = .ok (.iconst 0, 1) := by decide +kernel
theorem dX7_isBefore_43 : decode cX7_isBefore 43 = .ok (.iload_n 2, 1) := by decide +kernel
theorem dX7_isBefore_44 : decode cX7_isBefore 44 = .ok (.invokevirtual 78, 3) := by decide +kernel
theorem dX7_isBefore_47 : decode cX7_isBefore 47 = .ok (.if_icmp .ge 26, 3) := by decide +kernel
theorem dX7_isBefore_50 : decode cX7_isBefore 50 = .ok (.aload_n 0, 1) := by decide +kernel
theorem dX7_isBefore_51 : decode cX7_isBefore 51 = .ok (.getfield 25, 3) := by decide +kernel
theorem dX7_isBefore_54 : decode cX7_isBefore 54 = .ok (.iload_n 1, 1) := by decide +kernel
theorem dX7_isBefore_55 : decode cX7_isBefore 55 = .ok (.iload_n 3, 1) := by decide +kernel
theorem dX7_isBefore_56 : decode cX7_isBefore 56 = .ok (.iadd, 1) := by decide +kernel
theorem dX7_isBefore_57 : decode cX7_isBefore 57 = .ok (.iaload, 1) := by decide +kernel
theorem dX7_isBefore_58 : decode cX7_isBefore 58 = .ok (.aload_n 0, 1) := by decide +kernel
theorem dX7_isBefore_59 : decode cX7_isBefore 59 = .ok (.getfield 25, 3) := by decide +kernel
theorem dX7_isBefore_62 : decode cX7_isBefore 62 = .ok (.iload_n 2, 1) := by decide +kernel
theorem dX7_isBefore_63 : decode cX7_isBefore 63 = .ok (.iload_n 3, 1) := by decide +kernel
theorem dX7_isBefore_64 : decode cX7_isBefore 64 = .ok (.iadd, 1) := by decide +kernel
theorem dX7_isBefore_65 : decode cX7_isBefore 65 = .ok (.iaload, 1) := by decide +kernel
theorem dX7_isBefore_66 : decode cX7_isBefore 66 = .ok (.if_icmp .ge 7, 3) := by decide +kernel
theorem dX7_isBefore_69 : decode cX7_isBefore 69 = .ok (.iconst 1, 1) := by decide +kernel
theorem dX7_isBefore_70 : decode cX7_isBefore 70 = .ok (.goto 4, 3) := by decide +kernel
theorem dX7_isBefore_73 : decode cX7_isBefore 73 = .ok (.iconst 0, 1) := by decide +kernel
theorem dX7_isBefore_74 : decode cX7_isBefore 74 = .ok (.ireturn, 1) := by decide +kernel
set_option maxRecDepth 20000 in
theorem ggX7_sort_X7_isBefore : GoodIn wsX7_sort wsX7_isBefore := goodIn_r _ [8, 9, 10, 11, 12, 7, 13, 14, 15, 16, 17, 18, 19, 20, 21, 22, 23, 24, 25, 26, 27, 28, 29, 30, 31, 32, 33, 34, 35, 36, 37, 38, 39, 40, 41, 42] (by decide +kernel) (by decide +kernel)
set_option maxRecDepth 20000 in
theorem gX7_sort_X7_isBefore : GoodIn wsX7_sort (wsV RX7 86 RX7 yX7_isBefore wsX7_isBefore) := goodIn_app (goodIn_of _ (by decide +kernel)) ggX7_sort_X7_isBefore
set_option maxRecDepth 20000 in
theorem ggX7_sort_X7_alike : GoodIn wsX7_sort wsX7_alike := goodIn_r _ [13, 9, 14, 15, 16, 7, 17, 18, 19, 20, 21, 22, 23, 24, 25, 26, 27, 28, 29, 30, 31, 32, 33, 34, 35, 36, 37, 38, 39, 40, 41, 42] (by decide +kernel) (by decide +kernel)
set_option maxRecDepth 20000 in
theorem gX7_sort_X7_alike : GoodIn wsX7_sort (wsV RX7 82 RX7 yX7_alike wsX7_alike) := goodIn_app (goodIn_of _ (by decide +kernel)) ggX7_sort_X7_alike
theorem dX7_sort_0 : decode cX7_sort 0 = .ok (.iconst 0, 1) := by decide +kernel
theorem dX7_sort_1 : decode cX7_sort 1 = .ok (.istore_n 1, 1) := by decide +kernel
theorem dX7_sort_2 : decode cX7_sort 2 = .ok (.iload_n 1, 1) := by decide +kernel
theorem dX7_sort_3 : decode cX7_sort 3 = .ok (.aload_n 0, 1) := by decide +kernel
theorem dX7_sort_4 : decode cX7_sort 4 = .ok (.getfield 37, 3) := by decide +kernel
theorem dX7_sort_7 : decode cX7_sort 7 = .ok (.iconst 0, 1) := by decide +kernel
theorem dX7_sort_8 : decode cX7_sort 8 = .ok (.iaload, 1) := by decide +kernel
theorem dX7_sort_9 : decode cX7_sort 9 = .ok (.if_icmp .ge 58, 3) := by decide +kernel
theorem dX7_sort_12 : decode cX7_sort 12 = .ok (.iload_n 1, 1) := by decide +kernel
theorem dX7_sort_13 : decode cX7_sort 13 = .ok (.istore_n 2, 1) := by decide +kernel
theorem dX7_sort_14 : decode cX7_sort 14 = .ok (.iload_n 2, 1) := by decide +kernel
theorem dX7_sort_15 : decode cX7_sort 15 = .ok (.ifCond .le 39, 3) := by decide +kernel
theorem dX7_sort_18 : decode cX7_sort 18 = .ok (.aload_n 0, 1) := by decide +kernel
theorem dX7_sort_19 : decode cX7_sort 19 = .ok (.iload_n 1, 1) := by decide +kernel
theorem dX7_sort_20 : decode cX7_sort 20 = .ok (.aload_n 0, 1) := by decide +kernel
theorem dX7_sort_21 : decode cX7_sort 21 = .ok (.getfield 46, 3) := by decide +kernel
theorem dX7_sort_24 : decode cX7_sort 24 = .ok (.iload_n 2, 1) := by decide +kernel
theorem dX7_sort_25 : decode cX7_sort 25 = .ok (.iconst 1, 1) := by decide +kernel
theorem dX7_sort_26 : decode cX7_sort 26 = .ok (.isub, 1) := by decide +kernel
theorem dX7_sort_27 : decode cX7_sort 27 = .ok (.iaload, 1) := by decide +kernel
theorem dX7_sort_28 : decode cX7_sort 28 = .ok (.invokevirtual 86, 3) := by decide +kernel
theorem dX7_sort_31 : decode cX7_sort 31 = .ok (.ifCond .eq 23, 3) := by decide +kernel
theorem dX7_sort_34 : decode cX7_sort 34 = .ok (.aload_n 0, 1) := by decide +kernel
theorem dX7_sort_35 : decode cX7_sort 35 = .ok (.getfield 46, 3) := by decide +kernel
theorem dX7_sort_38 : decode cX7_sort 38 = .ok (.iload_n 2, 1) := by decide +kernel
theorem dX7_sort_39 : decode cX7_sort 39 = .ok (.aload_n 0, 1) := by decide +kernel
theorem dX7_sort_40 : decode cX7_sort 40 = .ok (.getfield 46, 3) := by decide +kernel
theorem dX7_sort_43 : decode cX7_sort 43 = .ok (.iload_n 2, 1) := by decide +kernel
theorem dX7_sort_44 : decode cX7_sort 44 = .ok (.iconst 1, 1) := by decide +kernel
theorem dX7_sort_45 : decode cX7_sort 45 = .ok (.isub, 1) := by decide +kernel
theorem dX7_sort_46 : decode cX7_sort 46 = .ok (.iaload, 1) := by decide +kernel
theorem dX7_sort_47 : decode cX7_sort 47 = .ok (.iastore, 1) := by decide +kernel
theorem dX7_sort_48 : decode cX7_sort 48 = .ok (.iinc 2 (-1), 3) := by decide +kernel
theorem dX7_sort_51 : decode cX7_sort 51 = .ok (.goto (-37), 3) := by decide +kernel
theorem dX7_sort_54 : decode cX7_sort 54 = .ok (.aload_n 0, 1) := by decide +kernel
theorem dX7_sort_55 : decode cX7_sort 55 = .ok (.getfield 46, 3) := by decide +kernel
theorem dX7_sort_58 : decode cX7_sort 58 = .ok (.iload_n 2, 1) := by decide +kernel
theorem dX7_sort_59 : decode cX7_sort 59 = .ok (.iload_n 1, 1) := by decide +kernel
theorem dX7_sort_60 : decode cX7_sort 60 = .ok (.iastore, 1) := by decide +kernel
theorem dX7_sort_61 : decode cX7_sort 61 = .ok (.iinc 1 1, 3) := by decide +kernel
theorem dX7_sort_64 : decode cX7_sort 64 = .ok (.goto (-62), 3) := by decide +kernel
theorem dX7_sort_67 : decode cX7_sort 67 = .ok (.iconst 0, 1) := by decide +kernel
theorem dX7_sort_68 : decode cX7_sort 68 = .ok (.istore_n 1, 1) := by decide +kernel
theorem dX7_sort_69 : decode cX7_sort 69 = .ok (.iload_n 1, 1) := by decide +kernel
theorem dX7_sort_70 : decode cX7_sort 70 = .ok (.aload_n 0, 1) := by decide +kernel
theorem dX7_sort_71 : decode cX7_sort 71 = .ok (.getfield 37, 3) := by decide +kernel
theorem dX7_sort_74 : decode cX7_sort 74 = .ok (.iconst 0, 1) := by decide +kernel
theorem dX7_sort_75 : decode cX7_sort 75 = .ok (.iaload, 1) := by decide +kernel
theorem dX7_sort_76 : decode cX7_sort 76 = .ok (.if_icmp .ge 43, 3) := by decide +kernel
theorem dX7_sort_79 : decode cX7_sort 79 = .ok (.aload_n 0, 1) := by decide +kernel
theorem dX7_sort_80 : decode cX7_sort 80 = .ok (.getfield 49, 3) := by decide +kernel
theorem dX7_sort_83 : decode cX7_sort 83 = .ok (.iload_n 1, 1) := by decide +kernel
theorem dX7_sort_84 : decode cX7_sort 84 = .ok (.iload_n 1, 1) := by decide +kernel
theorem dX7_sort_85 : decode cX7_sort 85 = .ok (.ifCond .ne 7, 3) := by decide +kernel
theorem dX7_sort_88 : decode cX7_sort 88 = .ok (.iconst 0, 1) := by decide +kernel
theorem dX7_sort_89 : decode cX7_sort 89 = .ok (.goto 23, 3) := by decide +kernel
theorem dX7_sort_92 : decode cX7_sort 92 = .ok (.aload_n 0, 1) := by decide +kernel
theorem dX7_sort_93 : decode cX7_sort 93 = .ok (.iconst 0, 1) := by decide +kernel
theorem dX7_sort_94 : decode cX7_sort 94 = .ok (.aload_n 0, 1) := by decide +kernel
theorem dX7_sort_95 : decode cX7_sort 95 = .ok (.getfield 46, 3) := by decide +kernel
theorem dX7_sort_98 : decode cX7_sort 98 = .ok (.iload_n 1, 1) := by decide +kernel
theorem dX7_sort_99 : decode cX7_sort 99 = .ok (.iconst 1, 1) := by decide +kernel
theorem dX7_sort_100 : decode cX7_sort 100 = .ok (.isub, 1) := by decide +kernel
theorem dX7_sort_101 : decode cX7_sort 101 = .ok (.iaload, 1) := by decide +kernel
theorem dX7_sort_102 : decode cX7_sort 102 = .ok (.iconst 0, 1) := by decide +kernel
theorem dX7_sort_103 : decode cX7_sort 103 = .ok (.aload_n 0, 1) := by decide +kernel
theorem dX7_sort_104 : decode cX7_sort 104 = .ok (.getfield 46, 3) := by decide +kernel
theorem dX7_sort_107 : decode cX7_sort 107 = .ok (.iload_n 1, 1) := by decide +kernel
theorem dX7_sort_108 : decode cX7_sort 108 = .ok (.iaload, 1) := by decide +kernel
theorem dX7_sort_109 : decode cX7_sort 109 = .ok (.invokevirtual 82, 3) := by decide +kernel
theorem dX7_sort_112 : decode cX7_sort 112 = .ok (.iastore, 1) := by decide +kernel
theorem dX7_sort_113 : decode cX7_sort 113 = .ok (.iinc 1 1, 3) := by decide +kernel
theorem dX7_sort_116 : decode cX7_sort 116 = .ok (.goto (-47), 3) := by decide +kernel
theorem dX7_sort_119 : decode cX7_sort 119 = .ok (.return_, 1) := by decide +kernel
theorem dX7_endsOf_0 : decode cX7_endsOf 0 = .ok (.iload_n 1, 1) := by decide +kernel
theorem dX7_endsOf_1 : decode cX7_endsOf 1 = .ok (.iconst 1, 1) := by decide +kernel
theorem dX7_endsOf_2 : decode cX7_endsOf 2 = .ok (.iadd, 1) := by decide +kernel
theorem dX7_endsOf_3 : decode cX7_endsOf 3 = .ok (.istore_n 3, 1) := by decide +kernel
theorem dX7_endsOf_4 : decode cX7_endsOf 4 = .ok (.iload_n 3, 1) := by decide +kernel
theorem dX7_endsOf_5 : decode cX7_endsOf 5 = .ok (.aload_n 0, 1) := by decide +kernel
theorem dX7_endsOf_6 : decode cX7_endsOf 6 = .ok (.getfield 37, 3) := by decide +kernel
theorem dX7_endsOf_9 : decode cX7_endsOf 9 = .ok (.iconst 0, 1) := by decide +kernel
theorem dX7_endsOf_10 : decode cX7_endsOf 10 = .ok (.iaload, 1) := by decide +kernel
theorem dX7_endsOf_11 : decode cX7_endsOf 11 = .ok (.if_icmp .ge 19, 3) := by decide +kernel
theorem dX7_endsOf_14 : decode cX7_endsOf 14 = .ok (.aload_n 0, 1) := by decide +kernel
theorem dX7_endsOf_15 : decode cX7_endsOf 15 = .ok (.getfield 49, 3) := by decide +kernel
theorem dX7_endsOf_18 : decode cX7_endsOf 18 = .ok (.iload_n 3, 1) := by decide +kernel
theorem dX7_endsOf_19 : decode cX7_endsOf 19 = .ok (.iaload, 1) := by decide +kernel
theorem dX7_endsOf_20 : decode cX7_endsOf 20 = .ok (.iload_n 2, 1) := by decide +kernel
theorem dX7_endsOf_21 : decode cX7_endsOf 21 = .ok (.if_icmp .lt 9, 3) := by decide +kernel
theorem dX7_endsOf_24 : decode cX7_endsOf 24 = .ok (.iinc 3 1, 3) := by decide +kernel
theorem dX7_endsOf_27 : decode cX7_endsOf 27 = .ok (.goto (-23), 3) := by decide +kernel
theorem dX7_endsOf_30 : decode cX7_endsOf 30 = .ok (.iload_n 3, 1) := by decide +kernel
theorem dX7_endsOf_31 : decode cX7_endsOf 31 = .ok (.iload_n 1, 1) := by decide +kernel
theorem dX7_endsOf_32 : decode cX7_endsOf 32 = .ok (.isub, 1) := by decide +kernel
theorem dX7_endsOf_33 : decode cX7_endsOf 33 = .ok (.ireturn, 1) := by decide +kernel
set_option maxRecDepth 20000 in
theorem ggX7_wordsOf_X7_endsOf : GoodIn wsX7_wordsOf wsX7_endsOf := goodIn_r _ [7, 8, 9, 10, 11, 12, 13, 14, 15, 16, 17, 18, 19, 20, 21, 22, 23, 24, 25, 26, 27, 28, 29, 30, 31, 32] (by decide +kernel) (by decide +kernel)
set_option maxRecDepth 20000 in
theorem gX7_wordsOf_X7_endsOf : GoodIn wsX7_wordsOf (wsV RX7 90 RX7 yX7_endsOf wsX7_endsOf) := goodIn_app (goodIn_of _ (by decide +kernel)) ggX7_wordsOf_X7_endsOf
theorem dX7_wordsOf_0 : decode cX7_wordsOf 0 = .ok (.iconst 0, 1) := by decide +kernel
theorem dX7_wordsOf_1 : decode cX7_wordsOf 1 = .ok (.istore_n 3, 1) := by decide +kernel
theorem dX7_wordsOf_2 : decode cX7_wordsOf 2 = .ok (.iload_n 1, 1) := by decide +kernel
theorem dX7_wordsOf_3 : decode cX7_wordsOf 3 = .ok (.istore 4, 2) := by decide +kernel
theorem dX7_wordsOf_5 : decode cX7_wordsOf 5 = .ok (.iload 4, 2) := by decide +kernel
theorem dX7_wordsOf_7 : decode cX7_wordsOf 7 = .ok (.iload_n 1, 1) := by decide +kernel
theorem dX7_wordsOf_8 : decode cX7_wordsOf 8 = .ok (.aload_n 0, 1) := by decide +kernel
theorem dX7_wordsOf_9 : decode cX7_wordsOf 9 = .ok (.iload_n 1, 1) := by decide +kernel
theorem dX7_wordsOf_10 : decode cX7_wordsOf 10 = .ok (.iload_n 2, 1) := by decide +kernel
theorem dX7_wordsOf_11 : decode cX7_wordsOf 11 = .ok (.invokevirtual 90, 3) := by decide +kernel
theorem dX7_wordsOf_14 : decode cX7_wordsOf 14 = .ok (.iadd, 1) := by decide +kernel
theorem dX7_wordsOf_15 : decode cX7_wordsOf 15 = .ok (.if_icmp .ge 26, 3) := by decide +kernel
theorem dX7_wordsOf_18 : decode cX7_wordsOf 18 = .ok (.iload_n 3, 1) := by decide +kernel
theorem dX7_wordsOf_19 : decode cX7_wordsOf 19 = .ok (.iconst 1, 1) := by decide +kernel
theorem dX7_wordsOf_20 : decode cX7_wordsOf 20 = .ok (.aload_n 0, 1) := by decide +kernel
theorem dX7_wordsOf_21 : decode cX7_wordsOf 21 = .ok (.getfield 28, 3) := by decide +kernel
theorem dX7_wordsOf_24 : decode cX7_wordsOf 24 = .ok (.aload_n 0, 1) := by decide +kernel
theorem dX7_wordsOf_25 : decode cX7_wordsOf 25 = .ok (.getfield 46, 3) := by decide +kernel
theorem dX7_wordsOf_28 : decode cX7_wordsOf 28 = .ok (.iload 4, 2) := by decide +kernel
theorem dX7_wordsOf_30 : decode cX7_wordsOf 30 = .ok (.iaload, 1) := by decide +kernel
theorem dX7_wordsOf_31 : decode cX7_wordsOf 31 = .ok (.iaload, 1) := by decide +kernel
theorem dX7_wordsOf_32 : decode cX7_wordsOf 32 = .ok (.ishl, 1) := by decide +kernel
theorem dX7_wordsOf_33 : decode cX7_wordsOf 33 = .ok (.ior, 1) := by decide +kernel
theorem dX7_wordsOf_34 : decode cX7_wordsOf 34 = .ok (.istore_n 3, 1) := by decide +kernel
theorem dX7_wordsOf_35 : decode cX7_wordsOf 35 = .ok (.iinc 4 1, 3) := by decide +kernel
theorem dX7_wordsOf_38 : decode cX7_wordsOf 38 = .ok (.goto (-33), 3) := by decide +kernel
theorem dX7_wordsOf_41 : decode cX7_wordsOf 41 = .ok (.iload_n 3, 1) := by decide +kernel
theorem dX7_wordsOf_42 : decode cX7_wordsOf 42 = .ok (.ireturn, 1) := by decide +kernel
set_option maxRecDepth 20000 in
theorem ggX7_distinct_X7_rest : GoodIn wsX7_distinct wsX7_rest := goodIn_r _ [8, 9, 10, 11, 12, 13, 14, 15, 16, 17, 18, 19, 20, 21, 22, 23, 24, 25, 26, 27, 28, 29, 30, 31, 32, 33] (by decide +kernel) (by decide +kernel)
set_option maxRecDepth 20000 in
theorem gX7_distinct_X7_rest : GoodIn wsX7_distinct (wsV RX7 78 RX7 yX7_rest wsX7_rest) := goodIn_app (goodIn_of _ (by decide +kernel)) ggX7_distinct_X7_rest
theorem dX7_distinct_0 : decode cX7_distinct 0 = .ok (.iconst 0, 1) := by decide +kernel
theorem dX7_distinct_1 : decode cX7_distinct 1 = .ok (.istore_n 1, 1) := by decide +kernel
theorem dX7_distinct_2 : decode cX7_distinct 2 = .ok (.iconst 0, 1) := by decide +kernel
theorem dX7_distinct_3 : decode cX7_distinct 3 = .ok (.istore_n 2, 1) := by decide +kernel
theorem dX7_distinct_4 : decode cX7_distinct 4 = .ok (.iload_n 2, 1) := by decide +kernel
theorem dX7_distinct_5 : decode cX7_distinct 5 = .ok (.aload_n 0, 1) := by decide +kernel
theorem dX7_distinct_6 : decode cX7_distinct 6 = .ok (.getfield 37, 3) := by decide +kernel
theorem dX7_distinct_9 : decode cX7_distinct 9 = .ok (.iconst 0, 1) := by decide +kernel
theorem dX7_distinct_10 : decode cX7_distinct 10 = .ok (.iaload, 1) := by decide +kernel
theorem dX7_distinct_11 : decode cX7_distinct 11 = .ok (.if_icmp .ge 30, 3) := by decide +kernel
theorem dX7_distinct_14 : decode cX7_distinct 14 = .ok (.iload_n 1, 1) := by decide +kernel
theorem dX7_distinct_15 : decode cX7_distinct 15 = .ok (.aload_n 0, 1) := by decide +kernel
theorem dX7_distinct_16 : decode cX7_distinct 16 = .ok (.iconst 0, 1) := by decide +kernel
theorem dX7_distinct_17 : decode cX7_distinct 17 = .ok (.aload_n 0, 1) := by decide +kernel
theorem dX7_distinct_18 : decode cX7_distinct 18 = .ok (.getfield 46, 3) := by decide +kernel
theorem dX7_distinct_21 : decode cX7_distinct 21 = .ok (.iload_n 2, 1) := by decide +kernel
theorem dX7_distinct_22 : decode cX7_distinct 22 = .ok (.iaload, 1) := by decide +kernel
theorem dX7_distinct_23 : decode cX7_distinct 23 = .ok (.invokevirtual 78, 3) := by decide +kernel
theorem dX7_distinct_26 : decode cX7_distinct 26 = .ok (.aload_n 0, 1) := by decide +kernel
theorem dX7_distinct_27 : decode cX7_distinct 27 = .ok (.getfield 49, 3) := by decide +kernel
theorem dX7_distinct_30 : decode cX7_distinct 30 = .ok (.iload_n 2, 1) := by decide +kernel
theorem dX7_distinct_31 : decode cX7_distinct 31 = .ok (.iaload, 1) := by decide +kernel
theorem dX7_distinct_32 : decode cX7_distinct 32 = .ok (.isub, 1) := by decide +kernel
theorem dX7_distinct_33 : decode cX7_distinct 33 = .ok (.iadd, 1) := by decide +kernel
theorem dX7_distinct_34 : decode cX7_distinct 34 = .ok (.istore_n 1, 1) := by decide +kernel
theorem dX7_distinct_35 : decode cX7_distinct 35 = .ok (.iinc 2 1, 3) := by decide +kernel
theorem dX7_distinct_38 : decode cX7_distinct 38 = .ok (.goto (-34), 3) := by decide +kernel
theorem dX7_distinct_41 : decode cX7_distinct 41 = .ok (.iload_n 1, 1) := by decide +kernel
theorem dX7_distinct_42 : decode cX7_distinct 42 = .ok (.ireturn, 1) := by decide +kernel
theorem dX7_make_0 : decode cX7_make 0 = .ok (.aload_n 0, 1) := by decide +kernel
theorem dX7_make_1 : decode cX7_make 1 = .ok (.getfield 67, 3) := by decide +kernel
theorem dX7_make_4 : decode cX7_make 4 = .ok (.istore_n 2, 1) := by decide +kernel
theorem dX7_make_5 : decode cX7_make 5 = .ok (.aload_n 0, 1) := by decide +kernel
theorem dX7_make_6 : decode cX7_make 6 = .ok (.getfield 7, 3) := by decide +kernel
theorem dX7_make_9 : decode cX7_make 9 = .ok (.iload_n 2, 1) := by decide +kernel
theorem dX7_make_10 : decode cX7_make 10 = .ok (.aload_n 0, 1) := by decide +kernel
theorem dX7_make_11 : decode cX7_make 11 = .ok (.getfield 71, 3) := by decide +kernel
theorem dX7_make_14 : decode cX7_make 14 = .ok (.iastore, 1) := by decide +kernel
theorem dX7_make_15 : decode cX7_make 15 = .ok (.aload_n 0, 1) := by decide +kernel
theorem dX7_make_16 : decode cX7_make 16 = .ok (.getfield 13, 3) := by decide +kernel
theorem dX7_make_19 : decode cX7_make 19 = .ok (.iload_n 2, 1) := by decide +kernel
theorem dX7_make_20 : decode cX7_make 20 = .ok (.iload_n 1, 1) := by decide +kernel
theorem dX7_make_21 : decode cX7_make 21 = .ok (.iastore, 1) := by decide +kernel
theorem dX7_make_22 : decode cX7_make 22 = .ok (.aload_n 0, 1) := by decide +kernel
theorem dX7_make_23 : decode cX7_make 23 = .ok (.getfield 16, 3) := by decide +kernel
theorem dX7_make_26 : decode cX7_make 26 = .ok (.iload_n 2, 1) := by decide +kernel
theorem dX7_make_27 : decode cX7_make 27 = .ok (.aload_n 0, 1) := by decide +kernel
theorem dX7_make_28 : decode cX7_make 28 = .ok (.getfield 16, 3) := by decide +kernel
theorem dX7_make_31 : decode cX7_make 31 = .ok (.aload_n 0, 1) := by decide +kernel
theorem dX7_make_32 : decode cX7_make 32 = .ok (.getfield 71, 3) := by decide +kernel
theorem dX7_make_35 : decode cX7_make 35 = .ok (.iaload, 1) := by decide +kernel
theorem dX7_make_36 : decode cX7_make 36 = .ok (.iload_n 1, 1) := by decide +kernel
theorem dX7_make_37 : decode cX7_make 37 = .ok (.iconst (-1), 1) := by decide +kernel
theorem dX7_make_38 : decode cX7_make 38 = .ok (.if_icmp .ne 7, 3) := by decide +kernel
theorem dX7_make_41 : decode cX7_make 41 = .ok (.iconst 1, 1) := by decide +kernel
theorem dX7_make_42 : decode cX7_make 42 = .ok (.goto 4, 3) := by decide +kernel
theorem dX7_make_45 : decode cX7_make 45 = .ok (.iconst 0, 1) := by decide +kernel
theorem dX7_make_46 : decode cX7_make 46 = .ok (.iadd, 1) := by decide +kernel
theorem dX7_make_47 : decode cX7_make 47 = .ok (.iastore, 1) := by decide +kernel
theorem dX7_make_48 : decode cX7_make 48 = .ok (.aload_n 0, 1) := by decide +kernel
theorem dX7_make_49 : decode cX7_make 49 = .ok (.getfield 19, 3) := by decide +kernel
theorem dX7_make_52 : decode cX7_make 52 = .ok (.iload_n 2, 1) := by decide +kernel
theorem dX7_make_53 : decode cX7_make 53 = .ok (.aload_n 0, 1) := by decide +kernel
theorem dX7_make_54 : decode cX7_make 54 = .ok (.getfield 19, 3) := by decide +kernel
theorem dX7_make_57 : decode cX7_make 57 = .ok (.aload_n 0, 1) := by decide +kernel
theorem dX7_make_58 : decode cX7_make 58 = .ok (.getfield 71, 3) := by decide +kernel
theorem dX7_make_61 : decode cX7_make 61 = .ok (.iaload, 1) := by decide +kernel
theorem dX7_make_62 : decode cX7_make 62 = .ok (.iload_n 1, 1) := by decide +kernel
theorem dX7_make_63 : decode cX7_make 63 = .ok (.iconst (-1), 1) := by decide +kernel
theorem dX7_make_64 : decode cX7_make 64 = .ok (.if_icmp .ne 7, 3) := by decide +kernel
theorem dX7_make_67 : decode cX7_make 67 = .ok (.iconst 0, 1) := by decide +kernel
theorem dX7_make_68 : decode cX7_make 68 = .ok (.goto 4, 3) := by decide +kernel
theorem dX7_make_71 : decode cX7_make 71 = .ok (.iconst 1, 1) := by decide +kernel
theorem dX7_make_72 : decode cX7_make 72 = .ok (.iadd, 1) := by decide +kernel
theorem dX7_make_73 : decode cX7_make 73 = .ok (.iastore, 1) := by decide +kernel
theorem dX7_make_74 : decode cX7_make 74 = .ok (.aload_n 0, 1) := by decide +kernel
theorem dX7_make_75 : decode cX7_make 75 = .ok (.dup, 1) := by decide +kernel
theorem dX7_make_76 : decode cX7_make 76 = .ok (.getfield 67, 3) := by decide +kernel
theorem dX7_make_79 : decode cX7_make 79 = .ok (.iconst 1, 1) := by decide +kernel
theorem dX7_make_80 : decode cX7_make 80 = .ok (.iadd, 1) := by decide +kernel
theorem dX7_make_81 : decode cX7_make 81 = .ok (.putfield 67, 3) := by decide +kernel
theorem dX7_make_84 : decode cX7_make 84 = .ok (.aload_n 0, 1) := by decide +kernel
theorem dX7_make_85 : decode cX7_make 85 = .ok (.iload_n 2, 1) := by decide +kernel
theorem dX7_make_86 : decode cX7_make 86 = .ok (.putfield 71, 3) := by decide +kernel
theorem dX7_make_89 : decode cX7_make 89 = .ok (.iload_n 2, 1) := by decide +kernel
theorem dX7_make_90 : decode cX7_make 90 = .ok (.ireturn, 1) := by decide +kernel
set_option maxRecDepth 20000 in
theorem ggX7_begin_X7_make : GoodIn wsX7_begin wsX7_make := goodIn_r _ [8, 3, 9, 2, 10, 1, 11, 12, 13, 14, 15, 16, 17, 18, 19, 20, 21, 22, 23, 24, 25, 26, 27, 28, 29, 30, 31, 32, 33, 34] (by decide +kernel) (by decide +kernel)
set_option maxRecDepth 20000 in
theorem gX7_begin_X7_make : GoodIn wsX7_begin (wsV RX7 93 RX7 yX7_make wsX7_make) := goodIn_app (goodIn_of _ (by decide +kernel)) ggX7_begin_X7_make
theorem dX7_begin_0 : decode cX7_begin 0 = .ok (.aload_n 0, 1) := by decide +kernel
theorem dX7_begin_1 : decode cX7_begin 1 = .ok (.getfield 16, 3) := by decide +kernel
theorem dX7_begin_4 : decode cX7_begin 4 = .ok (.aload_n 0, 1) := by decide +kernel
theorem dX7_begin_5 : decode cX7_begin 5 = .ok (.getfield 71, 3) := by decide +kernel
theorem dX7_begin_8 : decode cX7_begin 8 = .ok (.iaload, 1) := by decide +kernel
theorem dX7_begin_9 : decode cX7_begin 9 = .ok (.bipush 6, 2) := by decide +kernel
theorem dX7_begin_11 : decode cX7_begin 11 = .ok (.if_icmp .eq 13, 3) := by decide +kernel
theorem dX7_begin_14 : decode cX7_begin 14 = .ok (.aload_n 0, 1) := by decide +kernel
theorem dX7_begin_15 : decode cX7_begin 15 = .ok (.getfield 67, 3) := by decide +kernel
theorem dX7_begin_18 : decode cX7_begin 18 = .ok (.sipush 400, 3) := by decide +kernel
theorem dX7_begin_21 : decode cX7_begin 21 = .ok (.if_icmp .ne 8, 3) := by decide +kernel
theorem dX7_begin_24 : decode cX7_begin 24 = .ok (.bipush (-4), 2) := by decide +kernel
theorem dX7_begin_26 : decode cX7_begin 26 = .ok (.goto 8, 3) := by decide +kernel
theorem dX7_begin_29 : decode cX7_begin 29 = .ok (.aload_n 0, 1) := by decide +kernel
theorem dX7_begin_30 : decode cX7_begin 30 = .ok (.iconst (-1), 1) := by decide +kernel
theorem dX7_begin_31 : decode cX7_begin 31 = .ok (.invokevirtual 93, 3) := by decide +kernel
theorem dX7_begin_34 : decode cX7_begin 34 = .ok (.ireturn, 1) := by decide +kernel
set_option maxRecDepth 20000 in
theorem ggX7_append_X7_in : GoodIn wsX7_append wsX7_in := goodIn_r _ [8] (by decide +kernel) (by decide +kernel)
set_option maxRecDepth 20000 in
theorem gX7_append_X7_in : GoodIn wsX7_append (va_wsS RX7 97 yX7_in wsX7_in) := goodIn_app (goodIn_of _ (by decide +kernel)) ggX7_append_X7_in
set_option maxRecDepth 20000 in
theorem ggX7_append_X7_make : GoodIn wsX7_append wsX7_make := goodIn_r _ [12, 4, 13, 2, 14, 1, 3, 15, 16, 17, 18, 19, 20, 21, 22, 23, 24, 25, 26, 27, 28, 29, 30, 31, 32, 33, 34, 35, 36, 37] (by decide +kernel) (by decide +kernel)
set_option maxRecDepth 20000 in
theorem gX7_append_X7_make : GoodIn wsX7_append (wsV RX7 93 RX7 yX7_make wsX7_make) := goodIn_app (goodIn_of _ (by decide +kernel)) ggX7_append_X7_make
theorem dX7_append_0 : decode cX7_append 0 = .ok (.iload_n 1, 1) := by decide +kernel
theorem dX7_append_1 : decode cX7_append 1 = .ok (.iconst 0, 1) := by decide +kernel
theorem dX7_append_2 : decode cX7_append 2 = .ok (.bipush 7, 2) := by decide +kernel
theorem dX7_append_4 : decode cX7_append 4 = .ok (.invokestatic 97, 3) := by decide +kernel
theorem dX7_append_7 : decode cX7_append 7 = .ok (.ifCond .ne 6, 3) := by decide +kernel
theorem dX7_append_10 : decode cX7_append 10 = .ok (.bipush (-2), 2) := by decide +kernel
theorem dX7_append_12 : decode cX7_append 12 = .ok (.ireturn, 1) := by decide +kernel
theorem dX7_append_13 : decode cX7_append 13 = .ok (.aload_n 0, 1) := by decide +kernel
theorem dX7_append_14 : decode cX7_append 14 = .ok (.getfield 16, 3) := by decide +kernel
theorem dX7_append_17 : decode cX7_append 17 = .ok (.aload_n 0, 1) := by decide +kernel
theorem dX7_append_18 : decode cX7_append 18 = .ok (.getfield 71, 3) := by decide +kernel
theorem dX7_append_21 : decode cX7_append 21 = .ok (.iaload, 1) := by decide +kernel
theorem dX7_append_22 : decode cX7_append 22 = .ok (.ifCond .ne 6, 3) := by decide +kernel
theorem dX7_append_25 : decode cX7_append 25 = .ok (.bipush (-5), 2) := by decide +kernel
theorem dX7_append_27 : decode cX7_append 27 = .ok (.ireturn, 1) := by decide +kernel
theorem dX7_append_28 : decode cX7_append 28 = .ok (.aload_n 0, 1) := by decide +kernel
theorem dX7_append_29 : decode cX7_append 29 = .ok (.getfield 19, 3) := by decide +kernel
theorem dX7_append_32 : decode cX7_append 32 = .ok (.aload_n 0, 1) := by decide +kernel
theorem dX7_append_33 : decode cX7_append 33 = .ok (.getfield 71, 3) := by decide +kernel
theorem dX7_append_36 : decode cX7_append 36 = .ok (.iaload, 1) := by decide +kernel
theorem dX7_append_37 : decode cX7_append 37 = .ok (.bipush 60, 2) := by decide +kernel
theorem dX7_append_39 : decode cX7_append 39 = .ok (.if_icmp .eq 13, 3) := by decide +kernel
theorem dX7_append_42 : decode cX7_append 42 = .ok (.aload_n 0, 1) := by decide +kernel
theorem dX7_append_43 : decode cX7_append 43 = .ok (.getfield 67, 3) := by decide +kernel
theorem dX7_append_46 : decode cX7_append 46 = .ok (.sipush 400, 3) := by decide +kernel
theorem dX7_append_49 : decode cX7_append 49 = .ok (.if_icmp .ne 8, 3) := by decide +kernel
theorem dX7_append_52 : decode cX7_append 52 = .ok (.bipush (-4), 2) := by decide +kernel
theorem dX7_append_54 : decode cX7_append 54 = .ok (.goto 8, 3) := by decide +kernel
theorem dX7_append_57 : decode cX7_append 57 = .ok (.aload_n 0, 1) := by decide +kernel
theorem dX7_append_58 : decode cX7_append 58 = .ok (.iload_n 1, 1) := by decide +kernel
theorem dX7_append_59 : decode cX7_append 59 = .ok (.invokevirtual 93, 3) := by decide +kernel
theorem dX7_append_62 : decode cX7_append 62 = .ok (.ireturn, 1) := by decide +kernel
set_option maxRecDepth 20000 in
theorem ggX7_isLetter_X7_in : GoodIn wsX7_isLetter wsX7_in := goodIn_r _ [4] (by decide +kernel) (by decide +kernel)
set_option maxRecDepth 20000 in
theorem gX7_isLetter_X7_in : GoodIn wsX7_isLetter (va_wsS RX7 97 yX7_in wsX7_in) := goodIn_app (goodIn_of _ (by decide +kernel)) ggX7_isLetter_X7_in
theorem dX7_isLetter_0 : decode cX7_isLetter 0 = .ok (.iload_n 1, 1) := by decide +kernel
theorem dX7_isLetter_1 : decode cX7_isLetter 1 = .ok (.bipush 97, 2) := by decide +kernel
theorem dX7_isLetter_3 : decode cX7_isLetter 3 = .ok (.bipush 104, 2) := by decide +kernel
theorem dX7_isLetter_5 : decode cX7_isLetter 5 = .ok (.invokestatic 97, 3) := by decide +kernel
theorem dX7_isLetter_8 : decode cX7_isLetter 8 = .ok (.ireturn, 1) := by decide +kernel
set_option maxRecDepth 20000 in
theorem ggX7_load_X7_faultOf : GoodIn wsX7_load wsX7_faultOf := goodIn_r _ [11, 1, 2, 12, 13, 14, 10, 15, 16, 17, 18, 25, 26, 27, 28, 29, 30, 31, 32, 33, 34, 35, 36, 37, 38, 39, 40, 41, 42, 43, 44, 45, 46, 47] (by decide +kernel) (by decide +kernel)
set_option maxRecDepth 20000 in
theorem gX7_load_X7_faultOf : GoodIn wsX7_load (wsV RX7 101 RX7 yX7_faultOf wsX7_faultOf) := goodIn_app (goodIn_of _ (by decide +kernel)) ggX7_load_X7_faultOf
set_option maxRecDepth 20000 in
theorem ggX7_load_X7_make : GoodIn wsX7_load wsX7_make := goodIn_r _ [22, 6, 23, 4, 24, 3, 5, 25, 26, 27, 28, 29, 30, 31, 32, 33, 34, 35, 36, 37, 38, 39, 40, 41, 42, 43, 44, 45, 46, 47] (by decide +kernel) (by decide +kernel)
set_option maxRecDepth 20000 in
theorem gX7_load_X7_make : GoodIn wsX7_load (wsV RX7 93 RX7 yX7_make wsX7_make) := goodIn_app (goodIn_of _ (by decide +kernel)) ggX7_load_X7_make
theorem dX7_load_0 : decode cX7_load 0 = .ok (.aload_n 0, 1) := by decide +kernel
theorem dX7_load_1 : decode cX7_load 1 = .ok (.iconst 1, 1) := by decide +kernel
theorem dX7_load_2 : decode cX7_load 2 = .ok (.invokevirtual 101, 3) := by decide +kernel
theorem dX7_load_5 : decode cX7_load 5 = .ok (.bipush (-6), 2) := by decide +kernel
theorem dX7_load_7 : decode cX7_load 7 = .ok (.if_icmp .eq 6, 3) := by decide +kernel
theorem dX7_load_10 : decode cX7_load 10 = .ok (.bipush (-3), 2) := by decide +kernel
theorem dX7_load_12 : decode cX7_load 12 = .ok (.ireturn, 1) := by decide +kernel
theorem dX7_load_13 : decode cX7_load 13 = .ok (.aload_n 0, 1) := by decide +kernel
theorem dX7_load_14 : decode cX7_load 14 = .ok (.getfield 104, 3) := by decide +kernel
theorem dX7_load_17 : decode cX7_load 17 = .ok (.ifCond .le 29, 3) := by decide +kernel
theorem dX7_load_20 : decode cX7_load 20 = .ok (.aload_n 0, 1) := by decide +kernel
theorem dX7_load_21 : decode cX7_load 21 = .ok (.getfield 22, 3) := by decide +kernel
theorem dX7_load_24 : decode cX7_load 24 = .ok (.iconst 0, 1) := by decide +kernel
theorem dX7_load_25 : decode cX7_load 25 = .ok (.iaload, 1) := by decide +kernel
theorem dX7_load_26 : decode cX7_load 26 = .ok (.bipush 47, 2) := by decide +kernel
theorem dX7_load_28 : decode cX7_load 28 = .ok (.if_icmp .eq 18, 3) := by decide +kernel
theorem dX7_load_31 : decode cX7_load 31 = .ok (.aload_n 0, 1) := by decide +kernel
theorem dX7_load_32 : decode cX7_load 32 = .ok (.getfield 16, 3) := by decide +kernel
theorem dX7_load_35 : decode cX7_load 35 = .ok (.aload_n 0, 1) := by decide +kernel
theorem dX7_load_36 : decode cX7_load 36 = .ok (.getfield 71, 3) := by decide +kernel
theorem dX7_load_39 : decode cX7_load 39 = .ok (.iaload, 1) := by decide +kernel
theorem dX7_load_40 : decode cX7_load 40 = .ok (.ifCond .ne 6, 3) := by decide +kernel
theorem dX7_load_43 : decode cX7_load 43 = .ok (.bipush (-5), 2) := by decide +kernel
theorem dX7_load_45 : decode cX7_load 45 = .ok (.ireturn, 1) := by decide +kernel
theorem dX7_load_46 : decode cX7_load 46 = .ok (.iconst 0, 1) := by decide +kernel
theorem dX7_load_47 : decode cX7_load 47 = .ok (.istore_n 1, 1) := by decide +kernel
theorem dX7_load_48 : decode cX7_load 48 = .ok (.iconst 0, 1) := by decide +kernel
theorem dX7_load_49 : decode cX7_load 49 = .ok (.istore_n 2, 1) := by decide +kernel
theorem dX7_load_50 : decode cX7_load 50 = .ok (.iload_n 2, 1) := by decide +kernel
theorem dX7_load_51 : decode cX7_load 51 = .ok (.aload_n 0, 1) := by decide +kernel
theorem dX7_load_52 : decode cX7_load 52 = .ok (.getfield 104, 3) := by decide +kernel
theorem dX7_load_55 : decode cX7_load 55 = .ok (.if_icmp .ge 28, 3) := by decide +kernel
theorem dX7_load_58 : decode cX7_load 58 = .ok (.iload_n 1, 1) := by decide +kernel
theorem dX7_load_59 : decode cX7_load 59 = .ok (.aload_n 0, 1) := by decide +kernel
theorem dX7_load_60 : decode cX7_load 60 = .ok (.getfield 22, 3) := by decide +kernel
theorem dX7_load_63 : decode cX7_load 63 = .ok (.iload_n 2, 1) := by decide +kernel
theorem dX7_load_64 : decode cX7_load 64 = .ok (.iaload, 1) := by decide +kernel
theorem dX7_load_65 : decode cX7_load 65 = .ok (.bipush 47, 2) := by decide +kernel
theorem dX7_load_67 : decode cX7_load 67 = .ok (.if_icmp .ne 7, 3) := by decide +kernel
theorem dX7_load_70 : decode cX7_load 70 = .ok (.iconst 1, 1) := by decide +kernel
theorem dX7_load_71 : decode cX7_load 71 = .ok (.goto 4, 3) := by decide +kernel
theorem dX7_load_74 : decode cX7_load 74 = .ok (.iconst 0, 1) := by decide +kernel
theorem dX7_load_75 : decode cX7_load 75 = .ok (.iadd, 1) := by decide +kernel
theorem dX7_load_76 : decode cX7_load 76 = .ok (.istore_n 1, 1) := by decide +kernel
theorem dX7_load_77 : decode cX7_load 77 = .ok (.iinc 2 1, 3) := by decide +kernel
theorem dX7_load_80 : decode cX7_load 80 = .ok (.goto (-30), 3) := by decide +kernel
theorem dX7_load_83 : decode cX7_load 83 = .ok (.aload_n 0, 1) := by decide +kernel
theorem dX7_load_84 : decode cX7_load 84 = .ok (.getfield 16, 3) := by decide +kernel
theorem dX7_load_87 : decode cX7_load 87 = .ok (.aload_n 0, 1) := by decide +kernel
theorem dX7_load_88 : decode cX7_load 88 = .ok (.getfield 71, 3) := by decide +kernel
theorem dX7_load_91 : decode cX7_load 91 = .ok (.iaload, 1) := by decide +kernel
theorem dX7_load_92 : decode cX7_load 92 = .ok (.iload_n 1, 1) := by decide +kernel
theorem dX7_load_93 : decode cX7_load 93 = .ok (.iadd, 1) := by decide +kernel
theorem dX7_load_94 : decode cX7_load 94 = .ok (.bipush 6, 2) := by decide +kernel
theorem dX7_load_96 : decode cX7_load 96 = .ok (.if_icmp .gt 39, 3) := by decide +kernel
theorem dX7_load_99 : decode cX7_load 99 = .ok (.aload_n 0, 1) := by decide +kernel
theorem dX7_load_100 : decode cX7_load 100 = .ok (.getfield 19, 3) := by decide +kernel
theorem dX7_load_103 : decode cX7_load 103 = .ok (.aload_n 0, 1) := by decide +kernel
theorem dX7_load_104 : decode cX7_load 104 = .ok (.getfield 71, 3) := by decide +kernel
theorem dX7_load_107 : decode cX7_load 107 = .ok (.iaload, 1) := by decide +kernel
theorem dX7_load_108 : decode cX7_load 108 = .ok (.aload_n 0, 1) := by decide +kernel
theorem dX7_load_109 : decode cX7_load 109 = .ok (.getfield 104, 3) := by decide +kernel
theorem dX7_load_112 : decode cX7_load 112 = .ok (.iadd, 1) := by decide +kernel
theorem dX7_load_113 : decode cX7_load 113 = .ok (.iload_n 1, 1) := by decide +kernel
theorem dX7_load_114 : decode cX7_load 114 = .ok (.isub, 1) := by decide +kernel
theorem dX7_load_115 : decode cX7_load 115 = .ok (.bipush 60, 2) := by decide +kernel
theorem dX7_load_117 : decode cX7_load 117 = .ok (.if_icmp .gt 18, 3) := by decide +kernel
theorem dX7_load_120 : decode cX7_load 120 = .ok (.aload_n 0, 1) := by decide +kernel
theorem dX7_load_121 : decode cX7_load 121 = .ok (.getfield 67, 3) := by decide +kernel
theorem dX7_load_124 : decode cX7_load 124 = .ok (.aload_n 0, 1) := by decide +kernel
theorem dX7_load_125 : decode cX7_load 125 = .ok (.getfield 104, 3) := by decide +kernel
theorem dX7_load_128 : decode cX7_load 128 = .ok (.iadd, 1) := by decide +kernel
theorem dX7_load_129 : decode cX7_load 129 = .ok (.sipush 400, 3) := by decide +kernel
theorem dX7_load_132 : decode cX7_load 132 = .ok (.if_icmp .le 6, 3) := by decide +kernel
theorem dX7_load_135 : decode cX7_load 135 = .ok (.bipush (-4), 2) := by decide +kernel
theorem dX7_load_137 : decode cX7_load 137 = .ok (.ireturn, 1) := by decide +kernel
theorem dX7_load_138 : decode cX7_load 138 = .ok (.iconst 0, 1) := by decide +kernel
theorem dX7_load_139 : decode cX7_load 139 = .ok (.istore_n 2, 1) := by decide +kernel
theorem dX7_load_140 : decode cX7_load 140 = .ok (.iload_n 2, 1) := by decide +kernel
theorem dX7_load_141 : decode cX7_load 141 = .ok (.aload_n 0, 1) := by decide +kernel
theorem dX7_load_142 : decode cX7_load 142 = .ok (.getfield 104, 3) := by decide +kernel
theorem dX7_load_145 : decode cX7_load 145 = .ok (.if_icmp .ge 38, 3) := by decide +kernel
theorem dX7_load_148 : decode cX7_load 148 = .ok (.aload_n 0, 1) := by decide +kernel
theorem dX7_load_149 : decode cX7_load 149 = .ok (.aload_n 0, 1) := by decide +kernel
theorem dX7_load_150 : decode cX7_load 150 = .ok (.getfield 22, 3) := by decide +kernel
theorem dX7_load_153 : decode cX7_load 153 = .ok (.iload_n 2, 1) := by decide +kernel
theorem dX7_load_154 : decode cX7_load 154 = .ok (.iaload, 1) := by decide +kernel
theorem dX7_load_155 : decode cX7_load 155 = .ok (.bipush 47, 2) := by decide +kernel
theorem dX7_load_157 : decode cX7_load 157 = .ok (.if_icmp .ne 7, 3) := by decide +kernel
theorem dX7_load_160 : decode cX7_load 160 = .ok (.iconst (-1), 1) := by decide +kernel
theorem dX7_load_161 : decode cX7_load 161 = .ok (.goto 12, 3) := by decide +kernel
theorem dX7_load_164 : decode cX7_load 164 = .ok (.aload_n 0, 1) := by decide +kernel
theorem dX7_load_165 : decode cX7_load 165 = .ok (.getfield 22, 3) := by decide +kernel
theorem dX7_load_168 : decode cX7_load 168 = .ok (.iload_n 2, 1) := by decide +kernel
theorem dX7_load_169 : decode cX7_load 169 = .ok (.iaload, 1) := by decide +kernel
theorem dX7_load_170 : decode cX7_load 170 = .ok (.bipush 97, 2) := by decide +kernel
theorem dX7_load_172 : decode cX7_load 172 = .ok (.isub, 1) := by decide +kernel
theorem dX7_load_173 : decode cX7_load 173 = .ok (.invokevirtual 93, 3) := by decide +kernel
theorem dX7_load_176 : decode cX7_load 176 = .ok (.istore_n 3, 1) := by decide +kernel
theorem dX7_load_177 : decode cX7_load 177 = .ok (.iinc 2 1, 3) := by decide +kernel
theorem dX7_load_180 : decode cX7_load 180 = .ok (.goto (-40), 3) := by decide +kernel
theorem dX7_load_183 : decode cX7_load 183 = .ok (.aload_n 0, 1) := by decide +kernel
theorem dX7_load_184 : decode cX7_load 184 = .ok (.iconst 0, 1) := by decide +kernel
theorem dX7_load_185 : decode cX7_load 185 = .ok (.putfield 104, 3) := by decide +kernel
theorem dX7_load_188 : decode cX7_load 188 = .ok (.aload_n 0, 1) := by decide +kernel
theorem dX7_load_189 : decode cX7_load 189 = .ok (.getfield 71, 3) := by decide +kernel
theorem dX7_load_192 : decode cX7_load 192 = .ok (.ireturn, 1) := by decide +kernel
set_option maxRecDepth 20000 in
theorem ggX7_isVersion_X7_in : GoodIn wsX7_isVersion wsX7_in := goodIn_r _ [5] (by decide +kernel) (by decide +kernel)
set_option maxRecDepth 20000 in
theorem gX7_isVersion_X7_in : GoodIn wsX7_isVersion (va_wsS RX7 97 yX7_in wsX7_in) := goodIn_app (goodIn_of _ (by decide +kernel)) ggX7_isVersion_X7_in
theorem dX7_isVersion_0 : decode cX7_isVersion 0 = .ok (.iload_n 1, 1) := by decide +kernel
theorem dX7_isVersion_1 : decode cX7_isVersion 1 = .ok (.iconst 0, 1) := by decide +kernel
theorem dX7_isVersion_2 : decode cX7_isVersion 2 = .ok (.aload_n 0, 1) := by decide +kernel
theorem dX7_isVersion_3 : decode cX7_isVersion 3 = .ok (.getfield 67, 3) := by decide +kernel
theorem dX7_isVersion_6 : decode cX7_isVersion 6 = .ok (.iconst 1, 1) := by decide +kernel
theorem dX7_isVersion_7 : decode cX7_isVersion 7 = .ok (.isub, 1) := by decide +kernel
theorem dX7_isVersion_8 : decode cX7_isVersion 8 = .ok (.invokestatic 97, 3) := by decide +kernel
theorem dX7_isVersion_11 : decode cX7_isVersion 11 = .ok (.ireturn, 1) := by decide +kernel
set_option maxRecDepth 20000 in
theorem ggX7_go_X7_isVersion : GoodIn wsX7_go wsX7_isVersion := goodIn_r _ [6, 7, 8, 9, 5, 10, 11, 12, 13, 14, 15, 16, 17, 18, 19, 20, 21, 22, 23, 24, 25, 26, 27, 28, 29, 30, 31, 32, 33] (by decide +kernel) (by decide +kernel)
set_option maxRecDepth 20000 in
theorem gX7_go_X7_isVersion : GoodIn wsX7_go (wsV RX7 107 RX7 yX7_isVersion wsX7_isVersion) := goodIn_app (goodIn_of _ (by decide +kernel)) ggX7_go_X7_isVersion
theorem dX7_go_0 : decode cX7_go 0 = .ok (.aload_n 0, 1) := by decide +kernel
theorem dX7_go_1 : decode cX7_go 1 = .ok (.iload_n 1, 1) := by decide +kernel
theorem dX7_go_2 : decode cX7_go 2 = .ok (.invokevirtual 107, 3) := by decide +kernel
theorem dX7_go_5 : decode cX7_go 5 = .ok (.ifCond .ne 5, 3) := by decide +kernel
theorem dX7_go_8 : decode cX7_go 8 = .ok (.iconst (-1), 1) := by decide +kernel
theorem dX7_go_9 : decode cX7_go 9 = .ok (.ireturn, 1) := by decide +kernel
theorem dX7_go_10 : decode cX7_go 10 = .ok (.aload_n 0, 1) := by decide +kernel
theorem dX7_go_11 : decode cX7_go 11 = .ok (.getfield 71, 3) := by decide +kernel
theorem dX7_go_14 : decode cX7_go 14 = .ok (.istore_n 2, 1) := by decide +kernel
theorem dX7_go_15 : decode cX7_go 15 = .ok (.aload_n 0, 1) := by decide +kernel
theorem dX7_go_16 : decode cX7_go 16 = .ok (.iload_n 1, 1) := by decide +kernel
theorem dX7_go_17 : decode cX7_go 17 = .ok (.putfield 71, 3) := by decide +kernel
theorem dX7_go_20 : decode cX7_go 20 = .ok (.iload_n 2, 1) := by decide +kernel
theorem dX7_go_21 : decode cX7_go 21 = .ok (.ireturn, 1) := by decide +kernel
set_option maxRecDepth 20000 in
theorem ggX7_back_X7_in : GoodIn wsX7_back wsX7_in := goodIn_r _ [6] (by decide +kernel) (by decide +kernel)
set_option maxRecDepth 20000 in
theorem gX7_back_X7_in : GoodIn wsX7_back (va_wsS RX7 97 yX7_in wsX7_in) := goodIn_app (goodIn_of _ (by decide +kernel)) ggX7_back_X7_in
theorem dX7_back_0 : decode cX7_back 0 = .ok (.iload_n 1, 1) := by decide +kernel
theorem dX7_back_1 : decode cX7_back 1 = .ok (.iconst 0, 1) := by decide +kernel
theorem dX7_back_2 : decode cX7_back 2 = .ok (.sipush 400, 3) := by decide +kernel
theorem dX7_back_5 : decode cX7_back 5 = .ok (.invokestatic 97, 3) := by decide +kernel
theorem dX7_back_8 : decode cX7_back 8 = .ok (.ifCond .ne 6, 3) := by decide +kernel
theorem dX7_back_11 : decode cX7_back 11 = .ok (.bipush (-2), 2) := by decide +kernel
theorem dX7_back_13 : decode cX7_back 13 = .ok (.ireturn, 1) := by decide +kernel
theorem dX7_back_14 : decode cX7_back 14 = .ok (.aload_n 0, 1) := by decide +kernel
theorem dX7_back_15 : decode cX7_back 15 = .ok (.getfield 71, 3) := by decide +kernel
theorem dX7_back_18 : decode cX7_back 18 = .ok (.istore_n 2, 1) := by decide +kernel
theorem dX7_back_19 : decode cX7_back 19 = .ok (.iconst 0, 1) := by decide +kernel
theorem dX7_back_20 : decode cX7_back 20 = .ok (.istore_n 3, 1) := by decide +kernel
theorem dX7_back_21 : decode cX7_back 21 = .ok (.iload_n 3, 1) := by decide +kernel
theorem dX7_back_22 : decode cX7_back 22 = .ok (.iload_n 1, 1) := by decide +kernel
theorem dX7_back_23 : decode cX7_back 23 = .ok (.if_icmp .ge 20, 3) := by decide +kernel
theorem dX7_back_26 : decode cX7_back 26 = .ok (.iload_n 2, 1) := by decide +kernel
theorem dX7_back_27 : decode cX7_back 27 = .ok (.ifCond .lt 16, 3) := by decide +kernel
theorem dX7_back_30 : decode cX7_back 30 = .ok (.aload_n 0, 1) := by decide +kernel
theorem dX7_back_31 : decode cX7_back 31 = .ok (.getfield 7, 3) := by decide +kernel
theorem dX7_back_34 : decode cX7_back 34 = .ok (.iload_n 2, 1) := by decide +kernel
theorem dX7_back_35 : decode cX7_back 35 = .ok (.iaload, 1) := by decide +kernel
theorem dX7_back_36 : decode cX7_back 36 = .ok (.istore_n 2, 1) := by decide +kernel
theorem dX7_back_37 : decode cX7_back 37 = .ok (.iinc 3 1, 3) := by decide +kernel
theorem dX7_back_40 : decode cX7_back 40 = .ok (.goto (-19), 3) := by decide +kernel
theorem dX7_back_43 : decode cX7_back 43 = .ok (.iload_n 2, 1) := by decide +kernel
theorem dX7_back_44 : decode cX7_back 44 = .ok (.ifCond .ge 6, 3) := by decide +kernel
theorem dX7_back_47 : decode cX7_back 47 = .ok (.bipush (-6), 2) := by decide +kernel
theorem dX7_back_49 : decode cX7_back 49 = .ok (.ireturn, 1) := by decide +kernel
theorem dX7_back_50 : decode cX7_back 50 = .ok (.aload_n 0, 1) := by decide +kernel
theorem dX7_back_51 : decode cX7_back 51 = .ok (.iload_n 2, 1) := by decide +kernel
theorem dX7_back_52 : decode cX7_back 52 = .ok (.putfield 71, 3) := by decide +kernel
theorem dX7_back_55 : decode cX7_back 55 = .ok (.iload_n 2, 1) := by decide +kernel
theorem dX7_back_56 : decode cX7_back 56 = .ok (.ireturn, 1) := by decide +kernel
theorem dX7_depth_0 : decode cX7_depth 0 = .ok (.iconst 0, 1) := by decide +kernel
theorem dX7_depth_1 : decode cX7_depth 1 = .ok (.istore_n 2, 1) := by decide +kernel
theorem dX7_depth_2 : decode cX7_depth 2 = .ok (.iload_n 1, 1) := by decide +kernel
theorem dX7_depth_3 : decode cX7_depth 3 = .ok (.istore_n 3, 1) := by decide +kernel
theorem dX7_depth_4 : decode cX7_depth 4 = .ok (.iload_n 3, 1) := by decide +kernel
theorem dX7_depth_5 : decode cX7_depth 5 = .ok (.ifCond .le 16, 3) := by decide +kernel
theorem dX7_depth_8 : decode cX7_depth 8 = .ok (.iinc 2 1, 3) := by decide +kernel
theorem dX7_depth_11 : decode cX7_depth 11 = .ok (.aload_n 0, 1) := by decide +kernel
theorem dX7_depth_12 : decode cX7_depth 12 = .ok (.getfield 7, 3) := by decide +kernel
theorem dX7_depth_15 : decode cX7_depth 15 = .ok (.iload_n 3, 1) := by decide +kernel
theorem dX7_depth_16 : decode cX7_depth 16 = .ok (.iaload, 1) := by decide +kernel
theorem dX7_depth_17 : decode cX7_depth 17 = .ok (.istore_n 3, 1) := by decide +kernel
theorem dX7_depth_18 : decode cX7_depth 18 = .ok (.goto (-14), 3) := by decide +kernel
theorem dX7_depth_21 : decode cX7_depth 21 = .ok (.iload_n 2, 1) := by decide +kernel
theorem dX7_depth_22 : decode cX7_depth 22 = .ok (.ireturn, 1) := by decide +kernel
theorem dX7_children_0 : decode cX7_children 0 = .ok (.iconst 0, 1) := by decide +kernel
theorem dX7_children_1 : decode cX7_children 1 = .ok (.istore_n 2, 1) := by decide +kernel
theorem dX7_children_2 : decode cX7_children 2 = .ok (.iconst 1, 1) := by decide +kernel
theorem dX7_children_3 : decode cX7_children 3 = .ok (.istore_n 3, 1) := by decide +kernel
theorem dX7_children_4 : decode cX7_children 4 = .ok (.iload_n 3, 1) := by decide +kernel
theorem dX7_children_5 : decode cX7_children 5 = .ok (.aload_n 0, 1) := by decide +kernel
theorem dX7_children_6 : decode cX7_children 6 = .ok (.getfield 67, 3) := by decide +kernel
theorem dX7_children_9 : decode cX7_children 9 = .ok (.if_icmp .ge 27, 3) := by decide +kernel
theorem dX7_children_12 : decode cX7_children 12 = .ok (.iload_n 2, 1) := by decide +kernel
theorem dX7_children_13 : decode cX7_children 13 = .ok (.aload_n 0, 1) := by decide +kernel
theorem dX7_children_14 : decode cX7_children 14 = .ok (.getfield 7, 3) := by decide +kernel
theorem dX7_children_17 : decode cX7_children 17 = .ok (.iload_n 3, 1) := by decide +kernel
theorem dX7_children_18 : decode cX7_children 18 = .ok (.iaload, 1) := by decide +kernel
theorem dX7_children_19 : decode cX7_children 19 = .ok (.iload_n 1, 1) := by decide +kernel
theorem dX7_children_20 : decode cX7_children 20 = .ok (.if_icmp .ne 7, 3) := by decide +kernel
theorem dX7_children_23 : decode cX7_children 23 = .ok (.iconst 1, 1) := by decide +kernel
theorem dX7_children_24 : decode cX7_children 24 = .ok (.goto 4, 3) := by decide +kernel
theorem dX7_children_27 : decode cX7_children 27 = .ok (.iconst 0, 1) := by decide +kernel
theorem dX7_children_28 : decode cX7_children 28 = .ok (.iadd, 1) := by decide +kernel
theorem dX7_children_29 : decode cX7_children 29 = .ok (.istore_n 2, 1) := by decide +kernel
theorem dX7_children_30 : decode cX7_children 30 = .ok (.iinc 3 1, 3) := by decide +kernel
theorem dX7_children_33 : decode cX7_children 33 = .ok (.goto (-29), 3) := by decide +kernel
theorem dX7_children_36 : decode cX7_children 36 = .ok (.iload_n 2, 1) := by decide +kernel
theorem dX7_children_37 : decode cX7_children 37 = .ok (.ireturn, 1) := by decide +kernel
set_option maxRecDepth 20000 in
theorem ggX7_version_X7_isVersion : GoodIn wsX7_version wsX7_isVersion := goodIn_r _ [8, 9, 10, 11, 7, 12, 55, 56, 57, 58, 59, 60, 61, 62, 63, 64, 65, 66, 67, 68, 69, 70, 71, 72, 73, 74, 75, 76, 77] (by decide +kernel) (by decide +kernel)
set_option maxRecDepth 20000 in
theorem gX7_version_X7_isVersion : GoodIn wsX7_version (wsV RX7 107 RX7 yX7_isVersion wsX7_isVersion) := goodIn_app (goodIn_of _ (by decide +kernel)) ggX7_version_X7_isVersion
set_option maxRecDepth 20000 in
theorem ggX7_version_X7_children : GoodIn wsX7_version wsX7_children := goodIn_r _ [16, 9, 1, 55, 56, 57, 58, 59, 60, 61, 62, 63, 64, 65, 66, 67, 68, 69, 70, 71, 72, 73, 74, 75, 76, 77] (by decide +kernel) (by decide +kernel)
set_option maxRecDepth 20000 in
theorem gX7_version_X7_children : GoodIn wsX7_version (wsV RX7 111 RX7 yX7_children wsX7_children) := goodIn_app (goodIn_of _ (by decide +kernel)) ggX7_version_X7_children
set_option maxRecDepth 20000 in
theorem ggX7_version_X7_depth : GoodIn wsX7_version wsX7_depth := goodIn_r _ [20, 1, 55, 56, 57, 58, 59, 60, 61, 62, 63, 64, 65, 66, 67, 68, 69, 70, 71, 72, 73, 74, 75, 76, 77] (by decide +kernel) (by decide +kernel)
set_option maxRecDepth 20000 in
theorem gX7_version_X7_depth : GoodIn wsX7_version (wsV RX7 114 RX7 yX7_depth wsX7_depth) := goodIn_app (goodIn_of _ (by decide +kernel)) ggX7_version_X7_depth
set_option maxRecDepth 20000 in
theorem ggX7_version_X7_lay : GoodIn wsX7_version wsX7_lay := goodIn_r _ [24, 25, 26, 1, 27, 28, 29, 30, 31, 32, 55, 56, 57, 58, 59, 60, 61, 62, 63, 64, 65, 66, 67, 68, 69, 70, 71, 72, 73, 74, 75, 76, 77] (by decide +kernel) (by decide +kernel)
set_option maxRecDepth 20000 in
theorem gX7_version_X7_lay : GoodIn wsX7_version (wsV RX7 74 RX7 yX7_lay wsX7_lay) := goodIn_app (goodIn_of _ (by decide +kernel)) ggX7_version_X7_lay
set_option maxRecDepth 20000 in
theorem ggX7_version_X7_sort : GoodIn wsX7_version wsX7_sort := goodIn_r _ [36, 27, 37, 38, 39, 40, 41, 7, 42, 31, 43, 44, 45, 46, 47, 48, 49, 50, 30, 32, 55, 56, 57, 58, 59, 60, 61, 62, 63, 64, 65, 66, 67, 68, 69, 70, 71, 72, 73, 74, 75, 76, 77] (by decide +kernel) (by decide +kernel)
set_option maxRecDepth 20000 in
theorem gX7_version_X7_sort : GoodIn wsX7_version (wsV RX7 117 RX7 yX7_sort wsX7_sort) := goodIn_app (goodIn_of _ (by decide +kernel)) ggX7_version_X7_sort
set_option maxRecDepth 20000 in
theorem ggX7_version_X7_distinct : GoodIn wsX7_version wsX7_distinct := goodIn_r _ [54, 27, 37, 38, 47, 48, 49, 7, 50, 30, 32, 55, 56, 57, 58, 59, 60, 61, 62, 63, 64, 65, 66, 67, 68, 69, 70, 71, 72, 73, 74, 75, 76, 77] (by decide +kernel) (by decide +kernel)
set_option maxRecDepth 20000 in
theorem gX7_version_X7_distinct : GoodIn wsX7_version (wsV RX7 120 RX7 yX7_distinct wsX7_distinct) := goodIn_app (goodIn_of _ (by decide +kernel)) ggX7_version_X7_distinct
theorem dX7_version_0 : decode cX7_version 0 = .ok (.aload_n 0, 1) := by decide +kernel
theorem dX7_version_1 : decode cX7_version 1 = .ok (.iload_n 1, 1) := by decide +kernel
theorem dX7_version_2 : decode cX7_version 2 = .ok (.invokevirtual 107, 3) := by decide +kernel
theorem dX7_version_5 : decode cX7_version 5 = .ok (.ifCond .ne 5, 3) := by decide +kernel
theorem dX7_version_8 : decode cX7_version 8 = .ok (.iconst (-1), 1) := by decide +kernel
theorem dX7_version_9 : decode cX7_version 9 = .ok (.ireturn, 1) := by decide +kernel
theorem dX7_version_10 : decode cX7_version 10 = .ok (.iload_n 2, 1) := by decide +kernel
theorem dX7_version_11 : decode cX7_version 11 = .ok (.tableswitch 85 0 5 #[37, 44, 50, 57, 64, 70], 37) := by decide +kernel
theorem dX7_version_48 : decode cX7_version 48 = .ok (.aload_n 0, 1) := by decide +kernel
theorem dX7_version_49 : decode cX7_version 49 = .ok (.getfield 7, 3) := by decide +kernel
theorem dX7_version_52 : decode cX7_version 52 = .ok (.iload_n 1, 1) := by decide +kernel
theorem dX7_version_53 : decode cX7_version 53 = .ok (.iaload, 1) := by decide +kernel
theorem dX7_version_54 : decode cX7_version 54 = .ok (.ireturn, 1) := by decide +kernel
theorem dX7_version_55 : decode cX7_version 55 = .ok (.aload_n 0, 1) := by decide +kernel
theorem dX7_version_56 : decode cX7_version 56 = .ok (.iload_n 1, 1) := by decide +kernel
theorem dX7_version_57 : decode cX7_version 57 = .ok (.invokevirtual 111, 3) := by decide +kernel
theorem dX7_version_60 : decode cX7_version 60 = .ok (.ireturn, 1) := by decide +kernel
theorem dX7_version_61 : decode cX7_version 61 = .ok (.aload_n 0, 1) := by decide +kernel
theorem dX7_version_62 : decode cX7_version 62 = .ok (.getfield 16, 3) := by decide +kernel
theorem dX7_version_65 : decode cX7_version 65 = .ok (.iload_n 1, 1) := by decide +kernel
theorem dX7_version_66 : decode cX7_version 66 = .ok (.iaload, 1) := by decide +kernel
theorem dX7_version_67 : decode cX7_version 67 = .ok (.ireturn, 1) := by decide +kernel
theorem dX7_version_68 : decode cX7_version 68 = .ok (.aload_n 0, 1) := by decide +kernel
theorem dX7_version_69 : decode cX7_version 69 = .ok (.getfield 19, 3) := by decide +kernel
theorem dX7_version_72 : decode cX7_version 72 = .ok (.iload_n 1, 1) := by decide +kernel
theorem dX7_version_73 : decode cX7_version 73 = .ok (.iaload, 1) := by decide +kernel
theorem dX7_version_74 : decode cX7_version 74 = .ok (.ireturn, 1) := by decide +kernel
theorem dX7_version_75 : decode cX7_version 75 = .ok (.aload_n 0, 1) := by decide +kernel
theorem dX7_version_76 : decode cX7_version 76 = .ok (.iload_n 1, 1) := by decide +kernel
theorem dX7_version_77 : decode cX7_version 77 = .ok (.invokevirtual 114, 3) := by decide +kernel
theorem dX7_version_80 : decode cX7_version 80 = .ok (.ireturn, 1) := by decide +kernel
theorem dX7_version_81 : decode cX7_version 81 = .ok (.aload_n 0, 1) := by decide +kernel
theorem dX7_version_82 : decode cX7_version 82 = .ok (.iconst 0, 1) := by decide +kernel
theorem dX7_version_83 : decode cX7_version 83 = .ok (.iload_n 1, 1) := by decide +kernel
theorem dX7_version_84 : decode cX7_version 84 = .ok (.invokevirtual 74, 3) := by decide +kernel
theorem dX7_version_87 : decode cX7_version 87 = .ok (.aload_n 0, 1) := by decide +kernel
theorem dX7_version_88 : decode cX7_version 88 = .ok (.invokevirtual 117, 3) := by decide +kernel
theorem dX7_version_91 : decode cX7_version 91 = .ok (.aload_n 0, 1) := by decide +kernel
theorem dX7_version_92 : decode cX7_version 92 = .ok (.invokevirtual 120, 3) := by decide +kernel
theorem dX7_version_95 : decode cX7_version 95 = .ok (.ireturn, 1) := by decide +kernel
theorem dX7_version_96 : decode cX7_version 96 = .ok (.bipush (-2), 2) := by decide +kernel
theorem dX7_version_98 : decode cX7_version 98 = .ok (.ireturn, 1) := by decide +kernel
set_option maxRecDepth 20000 in
theorem ggX7_meet_X7_isVersion : GoodIn wsX7_meet wsX7_isVersion := goodIn_r _ [6, 7, 8, 9, 5, 10, 11, 12, 13, 14, 15, 16, 17, 18, 19, 20, 21, 22, 23, 24, 25, 26, 27, 28, 29, 30, 31, 32, 33] (by decide +kernel) (by decide +kernel)
set_option maxRecDepth 20000 in
theorem gX7_meet_X7_isVersion : GoodIn wsX7_meet (wsV RX7 107 RX7 yX7_isVersion wsX7_isVersion) := goodIn_app (goodIn_of _ (by decide +kernel)) ggX7_meet_X7_isVersion
theorem dX7_meet_0 : decode cX7_meet 0 = .ok (.aload_n 0, 1) := by decide +kernel
theorem dX7_meet_1 : decode cX7_meet 1 = .ok (.iload_n 1, 1) := by decide +kernel
theorem dX7_meet_2 : decode cX7_meet 2 = .ok (.invokevirtual 107, 3) := by decide +kernel
theorem dX7_meet_5 : decode cX7_meet 5 = .ok (.ifCond .eq 11, 3) := by decide +kernel
theorem dX7_meet_8 : decode cX7_meet 8 = .ok (.aload_n 0, 1) := by decide +kernel
theorem dX7_meet_9 : decode cX7_meet 9 = .ok (.iload_n 2, 1) := by decide +kernel
theorem dX7_meet_10 : decode cX7_meet 10 = .ok (.invokevirtual 107, 3) := by decide +kernel
theorem dX7_meet_13 : decode cX7_meet 13 = .ok (.ifCond .ne 5, 3) := by decide +kernel
theorem dX7_meet_16 : decode cX7_meet 16 = .ok (.iconst (-1), 1) := by decide +kernel
theorem dX7_meet_17 : decode cX7_meet 17 = .ok (.ireturn, 1) := by decide +kernel
theorem dX7_meet_18 : decode cX7_meet 18 = .ok (.iload_n 1, 1) := by decide +kernel
theorem dX7_meet_19 : decode cX7_meet 19 = .ok (.istore_n 3, 1) := by decide +kernel
theorem dX7_meet_20 : decode cX7_meet 20 = .ok (.iload_n 2, 1) := by decide +kernel
theorem dX7_meet_21 : decode cX7_meet 21 = .ok (.istore 4, 2) := by decide +kernel
theorem dX7_meet_23 : decode cX7_meet 23 = .ok (.iload_n 3, 1) := by decide +kernel
theorem dX7_meet_24 : decode cX7_meet 24 = .ok (.iload 4, 2) := by decide +kernel
theorem dX7_meet_26 : decode cX7_meet 26 = .ok (.if_icmp .eq 31, 3) := by decide +kernel
theorem dX7_meet_29 : decode cX7_meet 29 = .ok (.iload_n 3, 1) := by decide +kernel
theorem dX7_meet_30 : decode cX7_meet 30 = .ok (.iload 4, 2) := by decide +kernel
theorem dX7_meet_32 : decode cX7_meet 32 = .ok (.if_icmp .le 13, 3) := by decide +kernel
theorem dX7_meet_35 : decode cX7_meet 35 = .ok (.aload_n 0, 1) := by decide +kernel
theorem dX7_meet_36 : decode cX7_meet 36 = .ok (.getfield 7, 3) := by decide +kernel
theorem dX7_meet_39 : decode cX7_meet 39 = .ok (.iload_n 3, 1) := by decide +kernel
theorem dX7_meet_40 : decode cX7_meet 40 = .ok (.iaload, 1) := by decide +kernel
theorem dX7_meet_41 : decode cX7_meet 41 = .ok (.istore_n 3, 1) := by decide +kernel
theorem dX7_meet_42 : decode cX7_meet 42 = .ok (.goto (-19), 3) := by decide +kernel
theorem dX7_meet_45 : decode cX7_meet 45 = .ok (.aload_n 0, 1) := by decide +kernel
theorem dX7_meet_46 : decode cX7_meet 46 = .ok (.getfield 7, 3) := by decide +kernel
theorem dX7_meet_49 : decode cX7_meet 49 = .ok (.iload 4, 2) := by decide +kernel
theorem dX7_meet_51 : decode cX7_meet 51 = .ok (.iaload, 1) := by decide +kernel
theorem dX7_meet_52 : decode cX7_meet 52 = .ok (.istore 4, 2) := by decide +kernel
theorem dX7_meet_54 : decode cX7_meet 54 = .ok (.goto (-31), 3) := by decide +kernel
theorem dX7_meet_57 : decode cX7_meet 57 = .ok (.iload_n 3, 1) := by decide +kernel
theorem dX7_meet_58 : decode cX7_meet 58 = .ok (.ireturn, 1) := by decide +kernel
set_option maxRecDepth 20000 in
theorem ggX7_more_X7_isVersion : GoodIn wsX7_more wsX7_isVersion := goodIn_r _ [8, 9, 10, 11, 7, 12, 41, 42, 43, 44, 45, 46, 47, 48, 49, 50, 51, 52, 53, 54, 55, 56, 57, 58, 59, 60, 61, 62, 63] (by decide +kernel) (by decide +kernel)
set_option maxRecDepth 20000 in
theorem gX7_more_X7_isVersion : GoodIn wsX7_more (wsV RX7 107 RX7 yX7_isVersion wsX7_isVersion) := goodIn_app (goodIn_of _ (by decide +kernel)) ggX7_more_X7_isVersion
set_option maxRecDepth 20000 in
theorem ggX7_more_X7_lay : GoodIn wsX7_more wsX7_lay := goodIn_r _ [16, 17, 18, 19, 1, 20, 21, 22, 23, 24, 41, 42, 43, 44, 45, 46, 47, 48, 49, 50, 51, 52, 53, 54, 55, 56, 57, 58, 59, 60, 61, 62, 63] (by decide +kernel) (by decide +kernel)
set_option maxRecDepth 20000 in
theorem gX7_more_X7_lay : GoodIn wsX7_more (wsV RX7 74 RX7 yX7_lay wsX7_lay) := goodIn_app (goodIn_of _ (by decide +kernel)) ggX7_more_X7_lay
set_option maxRecDepth 20000 in
theorem ggX7_more_X7_sort : GoodIn wsX7_more wsX7_sort := goodIn_r _ [28, 1, 3, 2, 29, 30, 31, 7, 32, 23, 33, 34, 35, 36, 37, 38, 39, 40, 22, 24, 41, 42, 43, 44, 45, 46, 47, 48, 49, 50, 51, 52, 53, 54, 55, 56, 57, 58, 59, 60, 61, 62, 63] (by decide +kernel) (by decide +kernel)
set_option maxRecDepth 20000 in
theorem gX7_more_X7_sort : GoodIn wsX7_more (wsV RX7 117 RX7 yX7_sort wsX7_sort) := goodIn_app (goodIn_of _ (by decide +kernel)) ggX7_more_X7_sort
set_option maxRecDepth 20000 in
theorem ggX7_more_X7_alike : GoodIn wsX7_more wsX7_alike := goodIn_r _ [36, 23, 37, 38, 39, 7, 40, 22, 24, 41, 42, 43, 44, 45, 46, 47, 48, 49, 50, 51, 52, 53, 54, 55, 56, 57, 58, 59, 60, 61, 62, 63] (by decide +kernel) (by decide +kernel)
set_option maxRecDepth 20000 in
theorem gX7_more_X7_alike : GoodIn wsX7_more (wsV RX7 82 RX7 yX7_alike wsX7_alike) := goodIn_app (goodIn_of _ (by decide +kernel)) ggX7_more_X7_alike
set_option maxRecDepth 20000 in
theorem ggX7_more_X7_rest : GoodIn wsX7_more wsX7_rest := goodIn_r _ [40, 22, 24, 41, 42, 43, 44, 45, 46, 47, 48, 49, 50, 51, 52, 53, 54, 55, 56, 57, 58, 59, 60, 61, 62, 63] (by decide +kernel) (by decide +kernel)
set_option maxRecDepth 20000 in
theorem gX7_more_X7_rest : GoodIn wsX7_more (wsV RX7 78 RX7 yX7_rest wsX7_rest) := goodIn_app (goodIn_of _ (by decide +kernel)) ggX7_more_X7_rest
theorem dX7_more_0 : decode cX7_more 0 = .ok (.aload_n 0, 1) := by decide +kernel
theorem dX7_more_1 : decode cX7_more 1 = .ok (.iload_n 1, 1) := by decide +kernel
theorem dX7_more_2 : decode cX7_more 2 = .ok (.invokevirtual 107, 3) := by decide +kernel
theorem dX7_more_5 : decode cX7_more 5 = .ok (.ifCond .eq 11, 3) := by decide +kernel
theorem dX7_more_8 : decode cX7_more 8 = .ok (.aload_n 0, 1) := by decide +kernel
theorem dX7_more_9 : decode cX7_more 9 = .ok (.iload_n 2, 1) := by decide +kernel
theorem dX7_more_10 : decode cX7_more 10 = .ok (.invokevirtual 107, 3) := by decide +kernel
theorem dX7_more_13 : decode cX7_more 13 = .ok (.ifCond .ne 5, 3) := by decide +kernel
theorem dX7_more_16 : decode cX7_more 16 = .ok (.iconst (-1), 1) := by decide +kernel
theorem dX7_more_17 : decode cX7_more 17 = .ok (.ireturn, 1) := by decide +kernel
theorem dX7_more_18 : decode cX7_more 18 = .ok (.aload_n 0, 1) := by decide +kernel
theorem dX7_more_19 : decode cX7_more 19 = .ok (.iconst 0, 1) := by decide +kernel
theorem dX7_more_20 : decode cX7_more 20 = .ok (.iload_n 1, 1) := by decide +kernel
theorem dX7_more_21 : decode cX7_more 21 = .ok (.invokevirtual 74, 3) := by decide +kernel
theorem dX7_more_24 : decode cX7_more 24 = .ok (.aload_n 0, 1) := by decide +kernel
theorem dX7_more_25 : decode cX7_more 25 = .ok (.invokevirtual 117, 3) := by decide +kernel
theorem dX7_more_28 : decode cX7_more 28 = .ok (.aload_n 0, 1) := by decide +kernel
theorem dX7_more_29 : decode cX7_more 29 = .ok (.iconst 1, 1) := by decide +kernel
theorem dX7_more_30 : decode cX7_more 30 = .ok (.iload_n 2, 1) := by decide +kernel
theorem dX7_more_31 : decode cX7_more 31 = .ok (.invokevirtual 74, 3) := by decide +kernel
theorem dX7_more_34 : decode cX7_more 34 = .ok (.iconst 0, 1) := by decide +kernel
theorem dX7_more_35 : decode cX7_more 35 = .ok (.istore_n 3, 1) := by decide +kernel
theorem dX7_more_36 : decode cX7_more 36 = .ok (.iconst 0, 1) := by decide +kernel
theorem dX7_more_37 : decode cX7_more 37 = .ok (.istore 4, 2) := by decide +kernel
theorem dX7_more_39 : decode cX7_more 39 = .ok (.iload 4, 2) := by decide +kernel
theorem dX7_more_41 : decode cX7_more 41 = .ok (.aload_n 0, 1) := by decide +kernel
theorem dX7_more_42 : decode cX7_more 42 = .ok (.getfield 37, 3) := by decide +kernel
theorem dX7_more_45 : decode cX7_more 45 = .ok (.iconst 0, 1) := by decide +kernel
theorem dX7_more_46 : decode cX7_more 46 = .ok (.iaload, 1) := by decide +kernel
theorem dX7_more_47 : decode cX7_more 47 = .ok (.if_icmp .ge 89, 3) := by decide +kernel
theorem dX7_more_50 : decode cX7_more 50 = .ok (.aload_n 0, 1) := by decide +kernel
theorem dX7_more_51 : decode cX7_more 51 = .ok (.getfield 49, 3) := by decide +kernel
theorem dX7_more_54 : decode cX7_more 54 = .ok (.iload 4, 2) := by decide +kernel
theorem dX7_more_56 : decode cX7_more 56 = .ok (.iaload, 1) := by decide +kernel
theorem dX7_more_57 : decode cX7_more 57 = .ok (.istore 5, 2) := by decide +kernel
theorem dX7_more_59 : decode cX7_more 59 = .ok (.iconst 0, 1) := by decide +kernel
theorem dX7_more_60 : decode cX7_more 60 = .ok (.istore 6, 2) := by decide +kernel
theorem dX7_more_62 : decode cX7_more 62 = .ok (.iload 6, 2) := by decide +kernel
theorem dX7_more_64 : decode cX7_more 64 = .ok (.aload_n 0, 1) := by decide +kernel
theorem dX7_more_65 : decode cX7_more 65 = .ok (.getfield 37, 3) := by decide +kernel
theorem dX7_more_68 : decode cX7_more 68 = .ok (.iconst 1, 1) := by decide +kernel
theorem dX7_more_69 : decode cX7_more 69 = .ok (.iaload, 1) := by decide +kernel
theorem dX7_more_70 : decode cX7_more 70 = .ok (.if_icmp .ge 42, 3) := by decide +kernel
theorem dX7_more_73 : decode cX7_more 73 = .ok (.aload_n 0, 1) := by decide +kernel
theorem dX7_more_74 : decode cX7_more 74 = .ok (.iconst 0, 1) := by decide +kernel
theorem dX7_more_75 : decode cX7_more 75 = .ok (.aload_n 0, 1) := by decide +kernel
theorem dX7_more_76 : decode cX7_more 76 = .ok (.getfield 46, 3) := by decide +kernel
theorem dX7_more_79 : decode cX7_more 79 = .ok (.iload 4, 2) := by decide +kernel
theorem dX7_more_81 : decode cX7_more 81 = .ok (.iaload, 1) := by decide +kernel
theorem dX7_more_82 : decode cX7_more 82 = .ok (.iconst 1, 1) := by decide +kernel
theorem dX7_more_83 : decode cX7_more 83 = .ok (.iload 6, 2) := by decide +kernel
theorem dX7_more_85 : decode cX7_more 85 = .ok (.invokevirtual 82, 3) := by decide +kernel
theorem dX7_more_88 : decode cX7_more 88 = .ok (.istore 7, 2) := by decide +kernel
theorem dX7_more_90 : decode cX7_more 90 = .ok (.iload 7, 2) := by decide +kernel
theorem dX7_more_92 : decode cX7_more 92 = .ok (.iload 5, 2) := by decide +kernel
theorem dX7_more_94 : decode cX7_more 94 = .ok (.if_icmp .le 8, 3) := by decide +kernel
theorem dX7_more_97 : decode cX7_more 97 = .ok (.iload 7, 2) := by decide +kernel
theorem dX7_more_99 : decode cX7_more 99 = .ok (.goto 5, 3) := by decide +kernel
theorem dX7_more_102 : decode cX7_more 102 = .ok (.iload 5, 2) := by decide +kernel
theorem dX7_more_104 : decode cX7_more 104 = .ok (.istore 5, 2) := by decide +kernel
theorem dX7_more_106 : decode cX7_more 106 = .ok (.iinc 6 1, 3) := by decide +kernel
theorem dX7_more_109 : decode cX7_more 109 = .ok (.goto (-47), 3) := by decide +kernel
theorem dX7_more_112 : decode cX7_more 112 = .ok (.iload_n 3, 1) := by decide +kernel
theorem dX7_more_113 : decode cX7_more 113 = .ok (.aload_n 0, 1) := by decide +kernel
theorem dX7_more_114 : decode cX7_more 114 = .ok (.iconst 0, 1) := by decide +kernel
theorem dX7_more_115 : decode cX7_more 115 = .ok (.aload_n 0, 1) := by decide +kernel
theorem dX7_more_116 : decode cX7_more 116 = .ok (.getfield 46, 3) := by decide +kernel
theorem dX7_more_119 : decode cX7_more 119 = .ok (.iload 4, 2) := by decide +kernel
theorem dX7_more_121 : decode cX7_more 121 = .ok (.iaload, 1) := by decide +kernel
theorem dX7_more_122 : decode cX7_more 122 = .ok (.invokevirtual 78, 3) := by decide +kernel
theorem dX7_more_125 : decode cX7_more 125 = .ok (.iload 5, 2) := by decide +kernel
theorem dX7_more_127 : decode cX7_more 127 = .ok (.isub, 1) := by decide +kernel
theorem dX7_more_128 : decode cX7_more 128 = .ok (.iadd, 1) := by decide +kernel
theorem dX7_more_129 : decode cX7_more 129 = .ok (.istore_n 3, 1) := by decide +kernel
theorem dX7_more_130 : decode cX7_more 130 = .ok (.iinc 4 1, 3) := by decide +kernel
theorem dX7_more_133 : decode cX7_more 133 = .ok (.goto (-94), 3) := by decide +kernel
theorem dX7_more_136 : decode cX7_more 136 = .ok (.iload_n 3, 1) := by decide +kernel
theorem dX7_more_137 : decode cX7_more 137 = .ok (.ireturn, 1) := by decide +kernel
set_option maxRecDepth 20000 in
theorem ggX7_letter_X7_in : GoodIn wsX7_letter wsX7_in := goodIn_r _ [8] (by decide +kernel) (by decide +kernel)
set_option maxRecDepth 20000 in
theorem gX7_letter_X7_in : GoodIn wsX7_letter (va_wsS RX7 97 yX7_in wsX7_in) := goodIn_app (goodIn_of _ (by decide +kernel)) ggX7_letter_X7_in
set_option maxRecDepth 20000 in
theorem ggX7_letter_X7_layPresent : GoodIn wsX7_letter wsX7_layPresent := goodIn_r _ [12, 2, 13, 14, 15, 7, 16, 17, 18, 19, 20, 21, 4, 3, 22, 23, 28, 29, 30, 31, 32, 33, 34, 35, 36, 37, 38, 39, 40, 41, 42, 43, 44, 45, 46, 47, 48, 49, 50] (by decide +kernel) (by decide +kernel)
set_option maxRecDepth 20000 in
theorem gX7_letter_X7_layPresent : GoodIn wsX7_letter (wsV RX7 124 RX7 yX7_layPresent wsX7_layPresent) := goodIn_app (goodIn_of _ (by decide +kernel)) ggX7_letter_X7_layPresent
set_option maxRecDepth 20000 in
theorem ggX7_letter_X7_letterAt : GoodIn wsX7_letter wsX7_letterAt := goodIn_r _ [27, 22, 28, 29, 30, 31, 32, 33, 34, 35, 36, 37, 38, 39, 40, 41, 42, 43, 44, 45, 46, 47, 48, 49, 50] (by decide +kernel) (by decide +kernel)
set_option maxRecDepth 20000 in
theorem gX7_letter_X7_letterAt : GoodIn wsX7_letter (wsV RX7 127 RX7 yX7_letterAt wsX7_letterAt) := goodIn_app (goodIn_of _ (by decide +kernel)) ggX7_letter_X7_letterAt
theorem dX7_letter_0 : decode cX7_letter 0 = .ok (.iload_n 1, 1) := by decide +kernel
theorem dX7_letter_1 : decode cX7_letter 1 = .ok (.iconst 0, 1) := by decide +kernel
theorem dX7_letter_2 : decode cX7_letter 2 = .ok (.aload_n 0, 1) := by decide +kernel
theorem dX7_letter_3 : decode cX7_letter 3 = .ok (.getfield 16, 3) := by decide +kernel
theorem dX7_letter_6 : decode cX7_letter 6 = .ok (.aload_n 0, 1) := by decide +kernel
theorem dX7_letter_7 : decode cX7_letter 7 = .ok (.getfield 71, 3) := by decide +kernel
theorem dX7_letter_10 : decode cX7_letter 10 = .ok (.iaload, 1) := by decide +kernel
theorem dX7_letter_11 : decode cX7_letter 11 = .ok (.iconst 1, 1) := by decide +kernel
theorem dX7_letter_12 : decode cX7_letter 12 = .ok (.isub, 1) := by decide +kernel
theorem dX7_letter_13 : decode cX7_letter 13 = .ok (.invokestatic 97, 3) := by decide +kernel
theorem dX7_letter_16 : decode cX7_letter 16 = .ok (.ifCond .ne 5, 3) := by decide +kernel
theorem dX7_letter_19 : decode cX7_letter 19 = .ok (.iconst (-1), 1) := by decide +kernel
theorem dX7_letter_20 : decode cX7_letter 20 = .ok (.ireturn, 1) := by decide +kernel
theorem dX7_letter_21 : decode cX7_letter 21 = .ok (.aload_n 0, 1) := by decide +kernel
theorem dX7_letter_22 : decode cX7_letter 22 = .ok (.invokevirtual 124, 3) := by decide +kernel
theorem dX7_letter_25 : decode cX7_letter 25 = .ok (.aload_n 0, 1) := by decide +kernel
theorem dX7_letter_26 : decode cX7_letter 26 = .ok (.getfield 34, 3) := by decide +kernel
theorem dX7_letter_29 : decode cX7_letter 29 = .ok (.iload_n 1, 1) := by decide +kernel
theorem dX7_letter_30 : decode cX7_letter 30 = .ok (.iaload, 1) := by decide +kernel
theorem dX7_letter_31 : decode cX7_letter 31 = .ok (.aload_n 0, 1) := by decide +kernel
theorem dX7_letter_32 : decode cX7_letter 32 = .ok (.getfield 31, 3) := by decide +kernel
theorem dX7_letter_35 : decode cX7_letter 35 = .ok (.iload_n 1, 1) := by decide +kernel
theorem dX7_letter_36 : decode cX7_letter 36 = .ok (.iaload, 1) := by decide +kernel
theorem dX7_letter_37 : decode cX7_letter 37 = .ok (.isub, 1) := by decide +kernel
theorem dX7_letter_38 : decode cX7_letter 38 = .ok (.istore_n 3, 1) := by decide +kernel
theorem dX7_letter_39 : decode cX7_letter 39 = .ok (.iload_n 2, 1) := by decide +kernel
theorem dX7_letter_40 : decode cX7_letter 40 = .ok (.iconst (-1), 1) := by decide +kernel
theorem dX7_letter_41 : decode cX7_letter 41 = .ok (.if_icmp .ne 7, 3) := by decide +kernel
theorem dX7_letter_44 : decode cX7_letter 44 = .ok (.iload_n 3, 1) := by decide +kernel
theorem dX7_letter_45 : decode cX7_letter 45 = .ok (.goto 31, 3) := by decide +kernel
theorem dX7_letter_48 : decode cX7_letter 48 = .ok (.iload_n 2, 1) := by decide +kernel
theorem dX7_letter_49 : decode cX7_letter 49 = .ok (.iconst 0, 1) := by decide +kernel
theorem dX7_letter_50 : decode cX7_letter 50 = .ok (.iload_n 3, 1) := by decide +kernel
theorem dX7_letter_51 : decode cX7_letter 51 = .ok (.iconst 1, 1) := by decide +kernel
theorem dX7_letter_52 : decode cX7_letter 52 = .ok (.isub, 1) := by decide +kernel
theorem dX7_letter_53 : decode cX7_letter 53 = .ok (.invokestatic 97, 3) := by decide +kernel
theorem dX7_letter_56 : decode cX7_letter 56 = .ok (.ifCond .eq 18, 3) := by decide +kernel
theorem dX7_letter_59 : decode cX7_letter 59 = .ok (.aload_n 0, 1) := by decide +kernel
theorem dX7_letter_60 : decode cX7_letter 60 = .ok (.aload_n 0, 1) := by decide +kernel
theorem dX7_letter_61 : decode cX7_letter 61 = .ok (.getfield 31, 3) := by decide +kernel
theorem dX7_letter_64 : decode cX7_letter 64 = .ok (.iload_n 1, 1) := by decide +kernel
theorem dX7_letter_65 : decode cX7_letter 65 = .ok (.iaload, 1) := by decide +kernel
theorem dX7_letter_66 : decode cX7_letter 66 = .ok (.iload_n 2, 1) := by decide +kernel
theorem dX7_letter_67 : decode cX7_letter 67 = .ok (.iadd, 1) := by decide +kernel
theorem dX7_letter_68 : decode cX7_letter 68 = .ok (.invokevirtual 127, 3) := by decide +kernel
theorem dX7_letter_71 : decode cX7_letter 71 = .ok (.goto 5, 3) := by decide +kernel
theorem dX7_letter_74 : decode cX7_letter 74 = .ok (.bipush (-6), 2) := by decide +kernel
theorem dX7_letter_76 : decode cX7_letter 76 = .ok (.ireturn, 1) := by decide +kernel
set_option maxRecDepth 20000 in
theorem ggX7_say_X7_in : GoodIn wsX7_say wsX7_in := goodIn_r _ [6] (by decide +kernel) (by decide +kernel)
set_option maxRecDepth 20000 in
theorem gX7_say_X7_in : GoodIn wsX7_say (va_wsS RX7 97 yX7_in wsX7_in) := goodIn_app (goodIn_of _ (by decide +kernel)) ggX7_say_X7_in
theorem dX7_say_0 : decode cX7_say 0 = .ok (.iload_n 1, 1) := by decide +kernel
theorem dX7_say_1 : decode cX7_say 1 = .ok (.bipush 33, 2) := by decide +kernel
theorem dX7_say_3 : decode cX7_say 3 = .ok (.bipush 126, 2) := by decide +kernel
theorem dX7_say_5 : decode cX7_say 5 = .ok (.invokestatic 97, 3) := by decide +kernel
theorem dX7_say_8 : decode cX7_say 8 = .ok (.ifCond .ne 6, 3) := by decide +kernel
theorem dX7_say_11 : decode cX7_say 11 = .ok (.bipush (-2), 2) := by decide +kernel
theorem dX7_say_13 : decode cX7_say 13 = .ok (.ireturn, 1) := by decide +kernel
theorem dX7_say_14 : decode cX7_say 14 = .ok (.aload_n 0, 1) := by decide +kernel
theorem dX7_say_15 : decode cX7_say 15 = .ok (.getfield 104, 3) := by decide +kernel
theorem dX7_say_18 : decode cX7_say 18 = .ok (.bipush 60, 2) := by decide +kernel
theorem dX7_say_20 : decode cX7_say 20 = .ok (.if_icmp .ne 6, 3) := by decide +kernel
theorem dX7_say_23 : decode cX7_say 23 = .ok (.bipush (-4), 2) := by decide +kernel
theorem dX7_say_25 : decode cX7_say 25 = .ok (.ireturn, 1) := by decide +kernel
theorem dX7_say_26 : decode cX7_say 26 = .ok (.aload_n 0, 1) := by decide +kernel
theorem dX7_say_27 : decode cX7_say 27 = .ok (.getfield 22, 3) := by decide +kernel
theorem dX7_say_30 : decode cX7_say 30 = .ok (.aload_n 0, 1) := by decide +kernel
theorem dX7_say_31 : decode cX7_say 31 = .ok (.getfield 104, 3) := by decide +kernel
theorem dX7_say_34 : decode cX7_say 34 = .ok (.iload_n 1, 1) := by decide +kernel
theorem dX7_say_35 : decode cX7_say 35 = .ok (.iastore, 1) := by decide +kernel
theorem dX7_say_36 : decode cX7_say 36 = .ok (.aload_n 0, 1) := by decide +kernel
theorem dX7_say_37 : decode cX7_say 37 = .ok (.dup, 1) := by decide +kernel
theorem dX7_say_38 : decode cX7_say 38 = .ok (.getfield 104, 3) := by decide +kernel
theorem dX7_say_41 : decode cX7_say 41 = .ok (.iconst 1, 1) := by decide +kernel
theorem dX7_say_42 : decode cX7_say 42 = .ok (.iadd, 1) := by decide +kernel
theorem dX7_say_43 : decode cX7_say 43 = .ok (.putfield 104, 3) := by decide +kernel
theorem dX7_say_46 : decode cX7_say 46 = .ok (.aload_n 0, 1) := by decide +kernel
theorem dX7_say_47 : decode cX7_say 47 = .ok (.getfield 104, 3) := by decide +kernel
theorem dX7_say_50 : decode cX7_say 50 = .ok (.ireturn, 1) := by decide +kernel
theorem dX7_wipe_0 : decode cX7_wipe 0 = .ok (.aload_n 0, 1) := by decide +kernel
theorem dX7_wipe_1 : decode cX7_wipe 1 = .ok (.getfield 104, 3) := by decide +kernel
theorem dX7_wipe_4 : decode cX7_wipe 4 = .ok (.istore_n 1, 1) := by decide +kernel
theorem dX7_wipe_5 : decode cX7_wipe 5 = .ok (.aload_n 0, 1) := by decide +kernel
theorem dX7_wipe_6 : decode cX7_wipe 6 = .ok (.iconst 0, 1) := by decide +kernel
theorem dX7_wipe_7 : decode cX7_wipe 7 = .ok (.putfield 104, 3) := by decide +kernel
theorem dX7_wipe_10 : decode cX7_wipe 10 = .ok (.iload_n 1, 1) := by decide +kernel
theorem dX7_wipe_11 : decode cX7_wipe 11 = .ok (.ireturn, 1) := by decide +kernel
set_option maxRecDepth 20000 in
theorem ggX7_pad_X7_in : GoodIn wsX7_pad wsX7_in := goodIn_r _ [6] (by decide +kernel) (by decide +kernel)
set_option maxRecDepth 20000 in
theorem gX7_pad_X7_in : GoodIn wsX7_pad (va_wsS RX7 97 yX7_in wsX7_in) := goodIn_app (goodIn_of _ (by decide +kernel)) ggX7_pad_X7_in
theorem dX7_pad_0 : decode cX7_pad 0 = .ok (.iload_n 1, 1) := by decide +kernel
theorem dX7_pad_1 : decode cX7_pad 1 = .ok (.iconst (-1), 1) := by decide +kernel
theorem dX7_pad_2 : decode cX7_pad 2 = .ok (.if_icmp .ne 10, 3) := by decide +kernel
theorem dX7_pad_5 : decode cX7_pad 5 = .ok (.aload_n 0, 1) := by decide +kernel
theorem dX7_pad_6 : decode cX7_pad 6 = .ok (.getfield 104, 3) := by decide +kernel
theorem dX7_pad_9 : decode cX7_pad 9 = .ok (.goto 28, 3) := by decide +kernel
theorem dX7_pad_12 : decode cX7_pad 12 = .ok (.iload_n 1, 1) := by decide +kernel
theorem dX7_pad_13 : decode cX7_pad 13 = .ok (.iconst 0, 1) := by decide +kernel
theorem dX7_pad_14 : decode cX7_pad 14 = .ok (.aload_n 0, 1) := by decide +kernel
theorem dX7_pad_15 : decode cX7_pad 15 = .ok (.getfield 104, 3) := by decide +kernel
theorem dX7_pad_18 : decode cX7_pad 18 = .ok (.iconst 1, 1) := by decide +kernel
theorem dX7_pad_19 : decode cX7_pad 19 = .ok (.isub, 1) := by decide +kernel
theorem dX7_pad_20 : decode cX7_pad 20 = .ok (.invokestatic 97, 3) := by decide +kernel
theorem dX7_pad_23 : decode cX7_pad 23 = .ok (.ifCond .eq 12, 3) := by decide +kernel
theorem dX7_pad_26 : decode cX7_pad 26 = .ok (.aload_n 0, 1) := by decide +kernel
theorem dX7_pad_27 : decode cX7_pad 27 = .ok (.getfield 22, 3) := by decide +kernel
theorem dX7_pad_30 : decode cX7_pad 30 = .ok (.iload_n 1, 1) := by decide +kernel
theorem dX7_pad_31 : decode cX7_pad 31 = .ok (.iaload, 1) := by decide +kernel
theorem dX7_pad_32 : decode cX7_pad 32 = .ok (.goto 5, 3) := by decide +kernel
theorem dX7_pad_35 : decode cX7_pad 35 = .ok (.bipush (-6), 2) := by decide +kernel
theorem dX7_pad_37 : decode cX7_pad 37 = .ok (.ireturn, 1) := by decide +kernel
set_option maxRecDepth 20000 in
theorem ggX7_faultOf_X7_isLetter : GoodIn wsX7_faultOf wsX7_isLetter := goodIn_r _ [7, 8, 9, 6, 10] (by decide +kernel) (by decide +kernel)
set_option maxRecDepth 20000 in
theorem gX7_faultOf_X7_isLetter : GoodIn wsX7_faultOf (wsV RX7 130 RX7 yX7_isLetter wsX7_isLetter) := goodIn_app (goodIn_of _ (by decide +kernel)) ggX7_faultOf_X7_isLetter
theorem dX7_faultOf_0 : decode cX7_faultOf 0 = .ok (.iconst 0, 1) := by decide +kernel
theorem dX7_faultOf_1 : decode cX7_faultOf 1 = .ok (.istore_n 2, 1) := by decide +kernel
theorem dX7_faultOf_2 : decode cX7_faultOf 2 = .ok (.iload_n 2, 1) := by decide +kernel
theorem dX7_faultOf_3 : decode cX7_faultOf 3 = .ok (.aload_n 0, 1) := by decide +kernel
theorem dX7_faultOf_4 : decode cX7_faultOf 4 = .ok (.getfield 104, 3) := by decide +kernel
theorem dX7_faultOf_7 : decode cX7_faultOf 7 = .ok (.if_icmp .ge 40, 3) := by decide +kernel
theorem dX7_faultOf_10 : decode cX7_faultOf 10 = .ok (.aload_n 0, 1) := by decide +kernel
theorem dX7_faultOf_11 : decode cX7_faultOf 11 = .ok (.aload_n 0, 1) := by decide +kernel
theorem dX7_faultOf_12 : decode cX7_faultOf 12 = .ok (.getfield 22, 3) := by decide +kernel
theorem dX7_faultOf_15 : decode cX7_faultOf 15 = .ok (.iload_n 2, 1) := by decide +kernel
theorem dX7_faultOf_16 : decode cX7_faultOf 16 = .ok (.iaload, 1) := by decide +kernel
theorem dX7_faultOf_17 : decode cX7_faultOf 17 = .ok (.invokevirtual 130, 3) := by decide +kernel
theorem dX7_faultOf_20 : decode cX7_faultOf 20 = .ok (.ifCond .ne 21, 3) := by decide +kernel
theorem dX7_faultOf_23 : decode cX7_faultOf 23 = .ok (.iload_n 1, 1) := by decide +kernel
theorem dX7_faultOf_24 : decode cX7_faultOf 24 = .ok (.iconst 1, 1) := by decide +kernel
theorem dX7_faultOf_25 : decode cX7_faultOf 25 = .ok (.if_icmp .ne 14, 3) := by decide +kernel
theorem dX7_faultOf_28 : decode cX7_faultOf 28 = .ok (.aload_n 0, 1) := by decide +kernel
theorem dX7_faultOf_29 : decode cX7_faultOf 29 = .ok (.getfield 22, 3) := by decide +kernel
theorem dX7_faultOf_32 : decode cX7_faultOf 32 = .ok (.iload_n 2, 1) := by decide +kernel
theorem dX7_faultOf_33 : decode cX7_faultOf 33 = .ok (.iaload, 1) := by decide +kernel
theorem dX7_faultOf_34 : decode cX7_faultOf 34 = .ok (.bipush 47, 2) := by decide +kernel
theorem dX7_faultOf_36 : decode cX7_faultOf 36 = .ok (.if_icmp .eq 5, 3) := by decide +kernel
theorem dX7_faultOf_39 : decode cX7_faultOf 39 = .ok (.iload_n 2, 1) := by decide +kernel
theorem dX7_faultOf_40 : decode cX7_faultOf 40 = .ok (.ireturn, 1) := by decide +kernel
theorem dX7_faultOf_41 : decode cX7_faultOf 41 = .ok (.iinc 2 1, 3) := by decide +kernel
theorem dX7_faultOf_44 : decode cX7_faultOf 44 = .ok (.goto (-42), 3) := by decide +kernel
theorem dX7_faultOf_47 : decode cX7_faultOf 47 = .ok (.iload_n 1, 1) := by decide +kernel
theorem dX7_faultOf_48 : decode cX7_faultOf 48 = .ok (.ifCond .ne 14, 3) := by decide +kernel
theorem dX7_faultOf_51 : decode cX7_faultOf 51 = .ok (.aload_n 0, 1) := by decide +kernel
theorem dX7_faultOf_52 : decode cX7_faultOf 52 = .ok (.getfield 104, 3) := by decide +kernel
theorem dX7_faultOf_55 : decode cX7_faultOf 55 = .ok (.ifCond .ne 7, 3) := by decide +kernel
theorem dX7_faultOf_58 : decode cX7_faultOf 58 = .ok (.iconst 0, 1) := by decide +kernel
theorem dX7_faultOf_59 : decode cX7_faultOf 59 = .ok (.goto 5, 3) := by decide +kernel
theorem dX7_faultOf_62 : decode cX7_faultOf 62 = .ok (.bipush (-6), 2) := by decide +kernel
theorem dX7_faultOf_64 : decode cX7_faultOf 64 = .ok (.ireturn, 1) := by decide +kernel
set_option maxRecDepth 20000 in
theorem ggX7_fault_X7_in : GoodIn wsX7_fault wsX7_in := goodIn_r _ [4] (by decide +kernel) (by decide +kernel)
set_option maxRecDepth 20000 in
theorem gX7_fault_X7_in : GoodIn wsX7_fault (va_wsS RX7 97 yX7_in wsX7_in) := goodIn_app (goodIn_of _ (by decide +kernel)) ggX7_fault_X7_in
set_option maxRecDepth 20000 in
theorem ggX7_fault_X7_faultOf : GoodIn wsX7_fault wsX7_faultOf := goodIn_r _ [8, 9, 10, 11, 12, 13, 3, 14, 1, 2, 4, 15, 16, 17, 18, 19, 20, 21, 22, 23, 24, 25, 26, 27, 28, 29, 30, 31, 32, 33, 34, 35, 36, 37] (by decide +kernel) (by decide +kernel)
set_option maxRecDepth 20000 in
theorem gX7_fault_X7_faultOf : GoodIn wsX7_fault (wsV RX7 101 RX7 yX7_faultOf wsX7_faultOf) := goodIn_app (goodIn_of _ (by decide +kernel)) ggX7_fault_X7_faultOf
theorem dX7_fault_0 : decode cX7_fault 0 = .ok (.iload_n 1, 1) := by decide +kernel
theorem dX7_fault_1 : decode cX7_fault 1 = .ok (.iconst 0, 1) := by decide +kernel
theorem dX7_fault_2 : decode cX7_fault 2 = .ok (.iconst 1, 1) := by decide +kernel
theorem dX7_fault_3 : decode cX7_fault 3 = .ok (.invokestatic 97, 3) := by decide +kernel
theorem dX7_fault_6 : decode cX7_fault 6 = .ok (.ifCond .eq 11, 3) := by decide +kernel
theorem dX7_fault_9 : decode cX7_fault 9 = .ok (.aload_n 0, 1) := by decide +kernel
theorem dX7_fault_10 : decode cX7_fault 10 = .ok (.iload_n 1, 1) := by decide +kernel
theorem dX7_fault_11 : decode cX7_fault 11 = .ok (.invokevirtual 101, 3) := by decide +kernel
theorem dX7_fault_14 : decode cX7_fault 14 = .ok (.goto 5, 3) := by decide +kernel
theorem dX7_fault_17 : decode cX7_fault 17 = .ok (.bipush (-2), 2) := by decide +kernel
theorem dX7_fault_19 : decode cX7_fault 19 = .ok (.ireturn, 1) := by decide +kernel
set_option maxRecDepth 20000 in
theorem ggX7_isPattern_X7_faultOf : GoodIn wsX7_isPattern wsX7_faultOf := goodIn_r _ [5, 6, 7, 8, 9, 10, 4, 11, 12, 13, 14, 15, 16, 17, 18, 19, 20, 21, 22, 23, 24, 25, 26, 27, 28, 29, 30, 31, 32, 33, 34, 35, 36, 37] (by decide +kernel) (by decide +kernel)
set_option maxRecDepth 20000 in
theorem gX7_isPattern_X7_faultOf : GoodIn wsX7_isPattern (wsV RX7 101 RX7 yX7_faultOf wsX7_faultOf) := goodIn_app (goodIn_of _ (by decide +kernel)) ggX7_isPattern_X7_faultOf
theorem dX7_isPattern_0 : decode cX7_isPattern 0 = .ok (.aload_n 0, 1) := by decide +kernel
theorem dX7_isPattern_1 : decode cX7_isPattern 1 = .ok (.iconst 0, 1) := by decide +kernel
theorem dX7_isPattern_2 : decode cX7_isPattern 2 = .ok (.invokevirtual 101, 3) := by decide +kernel
theorem dX7_isPattern_5 : decode cX7_isPattern 5 = .ok (.bipush (-6), 2) := by decide +kernel
theorem dX7_isPattern_7 : decode cX7_isPattern 7 = .ok (.if_icmp .ne 7, 3) := by decide +kernel
theorem dX7_isPattern_10 : decode cX7_isPattern 10 = .ok (.iconst 1, 1) := by decide +kernel
theorem dX7_isPattern_11 : decode cX7_isPattern 11 = .ok (.goto 4, 3) := by decide +kernel
theorem dX7_isPattern_14 : decode cX7_isPattern 14 = .ok (.iconst 0, 1) := by decide +kernel
theorem dX7_isPattern_15 : decode cX7_isPattern 15 = .ok (.ireturn, 1) := by decide +kernel
set_option maxRecDepth 20000 in
theorem ggX7_write_X7_letterAt : GoodIn wsX7_write wsX7_letterAt := goodIn_r _ [7, 8, 9, 10, 11, 12, 13, 14, 15, 16, 17, 18, 19, 20, 21, 22, 23, 24, 25, 26, 27, 28, 29, 30, 31] (by decide +kernel) (by decide +kernel)
set_option maxRecDepth 20000 in
theorem gX7_write_X7_letterAt : GoodIn wsX7_write (wsV RX7 127 RX7 yX7_letterAt wsX7_letterAt) := goodIn_app (goodIn_of _ (by decide +kernel)) ggX7_write_X7_letterAt
theorem dX7_write_0 : decode cX7_write 0 = .ok (.iconst 0, 1) := by decide +kernel
theorem dX7_write_1 : decode cX7_write 1 = .ok (.istore_n 3, 1) := by decide +kernel
theorem dX7_write_2 : decode cX7_write 2 = .ok (.iload_n 3, 1) := by decide +kernel
theorem dX7_write_3 : decode cX7_write 3 = .ok (.iload_n 2, 1) := by decide +kernel
theorem dX7_write_4 : decode cX7_write 4 = .ok (.if_icmp .ge 25, 3) := by decide +kernel
theorem dX7_write_7 : decode cX7_write 7 = .ok (.aload_n 0, 1) := by decide +kernel
theorem dX7_write_8 : decode cX7_write 8 = .ok (.getfield 22, 3) := by decide +kernel
theorem dX7_write_11 : decode cX7_write 11 = .ok (.iload_n 3, 1) := by decide +kernel
theorem dX7_write_12 : decode cX7_write 12 = .ok (.bipush 97, 2) := by decide +kernel
theorem dX7_write_14 : decode cX7_write 14 = .ok (.aload_n 0, 1) := by decide +kernel
theorem dX7_write_15 : decode cX7_write 15 = .ok (.iload_n 1, 1) := by decide +kernel
theorem dX7_write_16 : decode cX7_write 16 = .ok (.iload_n 3, 1) := by decide +kernel
theorem dX7_write_17 : decode cX7_write 17 = .ok (.iadd, 1) := by decide +kernel
theorem dX7_write_18 : decode cX7_write 18 = .ok (.invokevirtual 127, 3) := by decide +kernel
theorem dX7_write_21 : decode cX7_write 21 = .ok (.iadd, 1) := by decide +kernel
theorem dX7_write_22 : decode cX7_write 22 = .ok (.iastore, 1) := by decide +kernel
theorem dX7_write_23 : decode cX7_write 23 = .ok (.iinc 3 1, 3) := by decide +kernel
theorem dX7_write_26 : decode cX7_write 26 = .ok (.goto (-24), 3) := by decide +kernel
theorem dX7_write_29 : decode cX7_write 29 = .ok (.aload_n 0, 1) := by decide +kernel
theorem dX7_write_30 : decode cX7_write 30 = .ok (.iload_n 2, 1) := by decide +kernel
theorem dX7_write_31 : decode cX7_write 31 = .ok (.putfield 104, 3) := by decide +kernel
theorem dX7_write_34 : decode cX7_write 34 = .ok (.iload_n 2, 1) := by decide +kernel
theorem dX7_write_35 : decode cX7_write 35 = .ok (.ireturn, 1) := by decide +kernel
set_option maxRecDepth 20000 in
theorem ggX7_stands_X7_rest : GoodIn wsX7_stands wsX7_rest := goodIn_r _ [6, 7, 8, 14, 15, 16, 17, 18, 19, 20, 21, 22, 23, 24, 25, 26, 27, 28, 29, 30, 31, 32, 33, 34, 35, 36] (by decide +kernel) (by decide +kernel)
set_option maxRecDepth 20000 in
theorem gX7_stands_X7_rest : GoodIn wsX7_stands (wsV RX7 78 RX7 yX7_rest wsX7_rest) := goodIn_app (goodIn_of _ (by decide +kernel)) ggX7_stands_X7_rest
set_option maxRecDepth 20000 in
theorem ggX7_stands_X7_letterAt : GoodIn wsX7_stands wsX7_letterAt := goodIn_r _ [12, 13, 14, 15, 16, 17, 18, 19, 20, 21, 22, 23, 24, 25, 26, 27, 28, 29, 30, 31, 32, 33, 34, 35, 36] (by decide +kernel) (by decide +kernel)
set_option maxRecDepth 20000 in
theorem gX7_stands_X7_letterAt : GoodIn wsX7_stands (wsV RX7 127 RX7 yX7_letterAt wsX7_letterAt) := goodIn_app (goodIn_of _ (by decide +kernel)) ggX7_stands_X7_letterAt
theorem dX7_stands_0 : decode cX7_stands 0 = .ok (.aload_n 0, 1) := by decide +kernel
theorem dX7_stands_1 : decode cX7_stands 1 = .ok (.iconst 0, 1) := by decide +kernel
theorem dX7_stands_2 : decode cX7_stands 2 = .ok (.iload_n 1, 1) := by decide +kernel
theorem dX7_stands_3 : decode cX7_stands 3 = .ok (.invokevirtual 78, 3) := by decide +kernel
theorem dX7_stands_6 : decode cX7_stands 6 = .ok (.iload_n 3, 1) := by decide +kernel
theorem dX7_stands_7 : decode cX7_stands 7 = .ok (.if_icmp .lt 7, 3) := by decide +kernel
theorem dX7_stands_10 : decode cX7_stands 10 = .ok (.iconst 1, 1) := by decide +kernel
theorem dX7_stands_11 : decode cX7_stands 11 = .ok (.goto 4, 3) := by decide +kernel
theorem dX7_stands_14 : decode cX7_stands 14 = .ok (.iconst 0, 1) := by decide +kernel
theorem dX7_stands_15 : decode cX7_stands 15 = .ok (.istore 4, 2) := by decide +kernel
theorem dX7_stands_17 : decode cX7_stands 17 = .ok (.iconst 0, 1) := by decide +kernel
theorem dX7_stands_18 : decode cX7_stands 18 = .ok (.istore 5, 2) := by decide +kernel
theorem dX7_stands_20 : decode cX7_stands 20 = .ok (.iload 5, 2) := by decide +kernel
theorem dX7_stands_22 : decode cX7_stands 22 = .ok (.iload_n 3, 1) := by decide +kernel
theorem dX7_stands_23 : decode cX7_stands 23 = .ok (.if_icmp .ge 44, 3) := by decide +kernel
theorem dX7_stands_26 : decode cX7_stands 26 = .ok (.iload 4, 2) := by decide +kernel
theorem dX7_stands_28 : decode cX7_stands 28 = .ok (.ifCond .eq 39, 3) := by decide +kernel
theorem dX7_stands_31 : decode cX7_stands 31 = .ok (.aload_n 0, 1) := by decide +kernel
theorem dX7_stands_32 : decode cX7_stands 32 = .ok (.iload_n 1, 1) := by decide +kernel
theorem dX7_stands_33 : decode cX7_stands 33 = .ok (.iload 5, 2) := by decide +kernel
theorem dX7_stands_35 : decode cX7_stands 35 = .ok (.iadd, 1) := by decide +kernel
theorem dX7_stands_36 : decode cX7_stands 36 = .ok (.invokevirtual 127, 3) := by decide +kernel
theorem dX7_stands_39 : decode cX7_stands 39 = .ok (.aload_n 0, 1) := by decide +kernel
theorem dX7_stands_40 : decode cX7_stands 40 = .ok (.getfield 22, 3) := by decide +kernel
theorem dX7_stands_43 : decode cX7_stands 43 = .ok (.iload_n 2, 1) := by decide +kernel
theorem dX7_stands_44 : decode cX7_stands 44 = .ok (.iload 5, 2) := by decide +kernel
theorem dX7_stands_46 : decode cX7_stands 46 = .ok (.iadd, 1) := by decide +kernel
theorem dX7_stands_47 : decode cX7_stands 47 = .ok (.iaload, 1) := by decide +kernel
theorem dX7_stands_48 : decode cX7_stands 48 = .ok (.bipush 97, 2) := by decide +kernel
theorem dX7_stands_50 : decode cX7_stands 50 = .ok (.isub, 1) := by decide +kernel
theorem dX7_stands_51 : decode cX7_stands 51 = .ok (.if_icmp .ne 7, 3) := by decide +kernel
theorem dX7_stands_54 : decode cX7_stands 54 = .ok (.iconst 1, 1) := by decide +kernel
theorem dX7_stands_55 : decode cX7_stands 55 = .ok (.goto 4, 3) := by decide +kernel
theorem dX7_stands_58 : decode cX7_stands 58 = .ok (.iconst 0, 1) := by decide +kernel
theorem dX7_stands_59 : decode cX7_stands 59 = .ok (.istore 4, 2) := by decide +kernel
theorem dX7_stands_61 : decode cX7_stands 61 = .ok (.iinc 5 1, 3) := by decide +kernel
theorem dX7_stands_64 : decode cX7_stands 64 = .ok (.goto (-44), 3) := by decide +kernel
theorem dX7_stands_67 : decode cX7_stands 67 = .ok (.iload 4, 2) := by decide +kernel
theorem dX7_stands_69 : decode cX7_stands 69 = .ok (.ireturn, 1) := by decide +kernel
set_option maxRecDepth 20000 in
theorem ggX7_isFactor_X7_stands : GoodIn wsX7_isFactor wsX7_stands := goodIn_r _ [6, 7, 8, 9, 10, 5, 11, 12, 13, 14, 15, 16, 17, 18, 19, 20, 21, 22, 23, 24, 25, 26, 27, 28, 29, 30, 31, 32, 33, 34, 35, 36, 37, 38, 39, 40, 41] (by decide +kernel) (by decide +kernel)
set_option maxRecDepth 20000 in
theorem gX7_isFactor_X7_stands : GoodIn wsX7_isFactor (wsV RX7 133 RX7 yX7_stands wsX7_stands) := goodIn_app (goodIn_of _ (by decide +kernel)) ggX7_isFactor_X7_stands
theorem dX7_isFactor_0 : decode cX7_isFactor 0 = .ok (.iconst 0, 1) := by decide +kernel
theorem dX7_isFactor_1 : decode cX7_isFactor 1 = .ok (.istore_n 3, 1) := by decide +kernel
theorem dX7_isFactor_2 : decode cX7_isFactor 2 = .ok (.iload_n 3, 1) := by decide +kernel
theorem dX7_isFactor_3 : decode cX7_isFactor 3 = .ok (.aload_n 0, 1) := by decide +kernel
theorem dX7_isFactor_4 : decode cX7_isFactor 4 = .ok (.getfield 37, 3) := by decide +kernel
theorem dX7_isFactor_7 : decode cX7_isFactor 7 = .ok (.iconst 0, 1) := by decide +kernel
theorem dX7_isFactor_8 : decode cX7_isFactor 8 = .ok (.iaload, 1) := by decide +kernel
theorem dX7_isFactor_9 : decode cX7_isFactor 9 = .ok (.if_icmp .ge 21, 3) := by decide +kernel
theorem dX7_isFactor_12 : decode cX7_isFactor 12 = .ok (.aload_n 0, 1) := by decide +kernel
theorem dX7_isFactor_13 : decode cX7_isFactor 13 = .ok (.iload_n 3, 1) := by decide +kernel
theorem dX7_isFactor_14 : decode cX7_isFactor 14 = .ok (.iload_n 1, 1) := by decide +kernel
theorem dX7_isFactor_15 : decode cX7_isFactor 15 = .ok (.iload_n 2, 1) := by decide +kernel
theorem dX7_isFactor_16 : decode cX7_isFactor 16 = .ok (.invokevirtual 133, 3) := by decide +kernel
theorem dX7_isFactor_19 : decode cX7_isFactor 19 = .ok (.ifCond .eq 5, 3) := by decide +kernel
theorem dX7_isFactor_22 : decode cX7_isFactor 22 = .ok (.iconst 1, 1) := by decide +kernel
theorem dX7_isFactor_23 : decode cX7_isFactor 23 = .ok (.ireturn, 1) := by decide +kernel
theorem dX7_isFactor_24 : decode cX7_isFactor 24 = .ok (.iinc 3 1, 3) := by decide +kernel
theorem dX7_isFactor_27 : decode cX7_isFactor 27 = .ok (.goto (-25), 3) := by decide +kernel
theorem dX7_isFactor_30 : decode cX7_isFactor 30 = .ok (.iconst 0, 1) := by decide +kernel
theorem dX7_isFactor_31 : decode cX7_isFactor 31 = .ok (.ireturn, 1) := by decide +kernel
set_option maxRecDepth 20000 in
theorem ggX7_apart_X7_stands : GoodIn wsX7_apart wsX7_stands := goodIn_r _ [7, 8, 9, 10, 11, 6, 12, 13, 14, 15, 16, 17, 18, 19, 20, 21, 22, 23, 24, 25, 26, 27, 28, 29, 30, 31, 32, 33, 34, 35, 36, 37, 38, 39, 40, 41, 42] (by decide +kernel) (by decide +kernel)
set_option maxRecDepth 20000 in
theorem gX7_apart_X7_stands : GoodIn wsX7_apart (wsV RX7 133 RX7 yX7_stands wsX7_stands) := goodIn_app (goodIn_of _ (by decide +kernel)) ggX7_apart_X7_stands
theorem dX7_apart_0 : decode cX7_apart 0 = .ok (.iconst 0, 1) := by decide +kernel
theorem dX7_apart_1 : decode cX7_apart 1 = .ok (.istore_n 1, 1) := by decide +kernel
theorem dX7_apart_2 : decode cX7_apart 2 = .ok (.iconst 0, 1) := by decide +kernel
theorem dX7_apart_3 : decode cX7_apart 3 = .ok (.istore_n 2, 1) := by decide +kernel
theorem dX7_apart_4 : decode cX7_apart 4 = .ok (.iconst 0, 1) := by decide +kernel
theorem dX7_apart_5 : decode cX7_apart 5 = .ok (.istore_n 3, 1) := by decide +kernel
theorem dX7_apart_6 : decode cX7_apart 6 = .ok (.iload_n 3, 1) := by decide +kernel
theorem dX7_apart_7 : decode cX7_apart 7 = .ok (.aload_n 0, 1) := by decide +kernel
theorem dX7_apart_8 : decode cX7_apart 8 = .ok (.getfield 37, 3) := by decide +kernel
theorem dX7_apart_11 : decode cX7_apart 11 = .ok (.iconst 0, 1) := by decide +kernel
theorem dX7_apart_12 : decode cX7_apart 12 = .ok (.iaload, 1) := by decide +kernel
theorem dX7_apart_13 : decode cX7_apart 13 = .ok (.if_icmp .ge 37, 3) := by decide +kernel
theorem dX7_apart_16 : decode cX7_apart 16 = .ok (.iload_n 3, 1) := by decide +kernel
theorem dX7_apart_17 : decode cX7_apart 17 = .ok (.iload_n 2, 1) := by decide +kernel
theorem dX7_apart_18 : decode cX7_apart 18 = .ok (.if_icmp .lt 26, 3) := by decide +kernel
theorem dX7_apart_21 : decode cX7_apart 21 = .ok (.aload_n 0, 1) := by decide +kernel
theorem dX7_apart_22 : decode cX7_apart 22 = .ok (.iload_n 3, 1) := by decide +kernel
theorem dX7_apart_23 : decode cX7_apart 23 = .ok (.iconst 0, 1) := by decide +kernel
theorem dX7_apart_24 : decode cX7_apart 24 = .ok (.aload_n 0, 1) := by decide +kernel
theorem dX7_apart_25 : decode cX7_apart 25 = .ok (.getfield 104, 3) := by decide +kernel
theorem dX7_apart_28 : decode cX7_apart 28 = .ok (.invokevirtual 133, 3) := by decide +kernel
theorem dX7_apart_31 : decode cX7_apart 31 = .ok (.ifCond .eq 13, 3) := by decide +kernel
theorem dX7_apart_34 : decode cX7_apart 34 = .ok (.iinc 1 1, 3) := by decide +kernel
theorem dX7_apart_37 : decode cX7_apart 37 = .ok (.iload_n 3, 1) := by decide +kernel
theorem dX7_apart_38 : decode cX7_apart 38 = .ok (.aload_n 0, 1) := by decide +kernel
theorem dX7_apart_39 : decode cX7_apart 39 = .ok (.getfield 104, 3) := by decide +kernel
theorem dX7_apart_42 : decode cX7_apart 42 = .ok (.iadd, 1) := by decide +kernel
theorem dX7_apart_43 : decode cX7_apart 43 = .ok (.istore_n 2, 1) := by decide +kernel
theorem dX7_apart_44 : decode cX7_apart 44 = .ok (.iinc 3 1, 3) := by decide +kernel
theorem dX7_apart_47 : decode cX7_apart 47 = .ok (.goto (-41), 3) := by decide +kernel
theorem dX7_apart_50 : decode cX7_apart 50 = .ok (.iload_n 1, 1) := by decide +kernel
theorem dX7_apart_51 : decode cX7_apart 51 = .ok (.ireturn, 1) := by decide +kernel
set_option maxRecDepth 20000 in
theorem ggX7_occurs_X7_in : GoodIn wsX7_occurs wsX7_in := goodIn_r _ [7] (by decide +kernel) (by decide +kernel)
set_option maxRecDepth 20000 in
theorem gX7_occurs_X7_in : GoodIn wsX7_occurs (va_wsS RX7 97 yX7_in wsX7_in) := goodIn_app (goodIn_of _ (by decide +kernel)) ggX7_occurs_X7_in
set_option maxRecDepth 20000 in
theorem ggX7_occurs_X7_isPattern : GoodIn wsX7_occurs wsX7_isPattern := goodIn_r _ [11, 12, 13, 14, 6, 15, 2, 16, 17, 18, 19, 20, 4, 5, 7, 82, 83, 84, 85, 86, 87, 88, 89, 90, 91, 92, 93, 94, 95, 96, 97, 98, 99, 100, 101, 102, 103, 104] (by decide +kernel) (by decide +kernel)
set_option maxRecDepth 20000 in
theorem gX7_occurs_X7_isPattern : GoodIn wsX7_occurs (wsV RX7 136 RX7 yX7_isPattern wsX7_isPattern) := goodIn_app (goodIn_of _ (by decide +kernel)) ggX7_occurs_X7_isPattern
set_option maxRecDepth 20000 in
theorem ggX7_occurs_X7_layPresent : GoodIn wsX7_occurs wsX7_layPresent := goodIn_r _ [24, 25, 26, 27, 28, 6, 29, 30, 31, 32, 1, 33, 34, 35, 36, 3, 82, 83, 84, 85, 86, 87, 88, 89, 90, 91, 92, 93, 94, 95, 96, 97, 98, 99, 100, 101, 102, 103, 104] (by decide +kernel) (by decide +kernel)
set_option maxRecDepth 20000 in
theorem gX7_occurs_X7_layPresent : GoodIn wsX7_occurs (wsV RX7 124 RX7 yX7_layPresent wsX7_layPresent) := goodIn_app (goodIn_of _ (by decide +kernel)) ggX7_occurs_X7_layPresent
set_option maxRecDepth 20000 in
theorem ggX7_occurs_X7_stands : GoodIn wsX7_occurs wsX7_stands := goodIn_r _ [40, 16, 41, 42, 43, 6, 44, 35, 3, 45, 46, 47, 48, 36, 82, 83, 84, 85, 86, 87, 88, 89, 90, 91, 92, 93, 94, 95, 96, 97, 98, 99, 100, 101, 102, 103, 104] (by decide +kernel) (by decide +kernel)
set_option maxRecDepth 20000 in
theorem gX7_occurs_X7_stands : GoodIn wsX7_occurs (wsV RX7 133 RX7 yX7_stands wsX7_stands) := goodIn_app (goodIn_of _ (by decide +kernel)) ggX7_occurs_X7_stands
set_option maxRecDepth 20000 in
theorem ggX7_occurs_X7_layClasses : GoodIn wsX7_occurs wsX7_layClasses := goodIn_r _ [52, 53, 1, 34, 3, 54, 55, 56, 57, 58, 59, 60, 6, 61, 62, 63, 64, 65, 66, 67, 68, 69, 36, 41, 42, 43, 44, 35, 70, 71, 72, 73, 82, 83, 84, 85, 86, 87, 88, 89, 90, 91, 92, 93, 94, 95, 96, 97, 98, 99, 100, 101, 102, 103, 104] (by decide +kernel) (by decide +kernel)
set_option maxRecDepth 20000 in
theorem gX7_occurs_X7_layClasses : GoodIn wsX7_occurs (wsV RX7 140 RX7 yX7_layClasses wsX7_layClasses) := goodIn_app (goodIn_of _ (by decide +kernel)) ggX7_occurs_X7_layClasses
set_option maxRecDepth 20000 in
theorem ggX7_occurs_X7_classAt : GoodIn wsX7_occurs wsX7_classAt := goodIn_r _ [77, 53, 54, 55, 57, 58, 59, 60, 6, 61, 62, 63, 64, 65, 66, 67, 68, 69, 36, 41, 42, 43, 44, 35, 3, 4, 5, 7, 82, 83, 84, 85, 86, 87, 88, 89, 90, 91, 92, 93, 94, 95, 96, 97, 98, 99, 100, 101, 102, 103, 104] (by decide +kernel) (by decide +kernel)
set_option maxRecDepth 20000 in
theorem gX7_occurs_X7_classAt : GoodIn wsX7_occurs (wsV RX7 143 RX7 yX7_classAt wsX7_classAt) := goodIn_app (goodIn_of _ (by decide +kernel)) ggX7_occurs_X7_classAt
set_option maxRecDepth 20000 in
theorem ggX7_occurs_X7_apart : GoodIn wsX7_occurs wsX7_apart := goodIn_r _ [81, 1, 2, 37, 38, 39, 6, 40, 16, 41, 42, 43, 44, 35, 3, 45, 46, 47, 48, 36, 82, 83, 84, 85, 86, 87, 88, 89, 90, 91, 92, 93, 94, 95, 96, 97, 98, 99, 100, 101, 102, 103, 104] (by decide +kernel) (by decide +kernel)
set_option maxRecDepth 20000 in
theorem gX7_occurs_X7_apart : GoodIn wsX7_occurs (wsV RX7 146 RX7 yX7_apart wsX7_apart) := goodIn_app (goodIn_of _ (by decide +kernel)) ggX7_occurs_X7_apart
theorem dX7_occurs_0 : decode cX7_occurs 0 = .ok (.iload_n 1, 1) := by decide +kernel
theorem dX7_occurs_1 : decode cX7_occurs 1 = .ok (.iconst 0, 1) := by decide +kernel
theorem dX7_occurs_2 : decode cX7_occurs 2 = .ok (.iconst 3, 1) := by decide +kernel
theorem dX7_occurs_3 : decode cX7_occurs 3 = .ok (.invokestatic 97, 3) := by decide +kernel
theorem dX7_occurs_6 : decode cX7_occurs 6 = .ok (.ifCond .ne 6, 3) := by decide +kernel
theorem dX7_occurs_9 : decode cX7_occurs 9 = .ok (.bipush (-2), 2) := by decide +kernel
theorem dX7_occurs_11 : decode cX7_occurs 11 = .ok (.ireturn, 1) := by decide +kernel
theorem dX7_occurs_12 : decode cX7_occurs 12 = .ok (.aload_n 0, 1) := by decide +kernel
theorem dX7_occurs_13 : decode cX7_occurs 13 = .ok (.invokevirtual 136, 3) := by decide +kernel
theorem dX7_occurs_16 : decode cX7_occurs 16 = .ok (.ifCond .ne 6, 3) := by decide +kernel
theorem dX7_occurs_19 : decode cX7_occurs 19 = .ok (.bipush (-3), 2) := by decide +kernel
theorem dX7_occurs_21 : decode cX7_occurs 21 = .ok (.ireturn, 1) := by decide +kernel
theorem dX7_occurs_22 : decode cX7_occurs 22 = .ok (.aload_n 0, 1) := by decide +kernel
theorem dX7_occurs_23 : decode cX7_occurs 23 = .ok (.invokevirtual 124, 3) := by decide +kernel
theorem dX7_occurs_26 : decode cX7_occurs 26 = .ok (.iconst 0, 1) := by decide +kernel
theorem dX7_occurs_27 : decode cX7_occurs 27 = .ok (.istore_n 2, 1) := by decide +kernel
theorem dX7_occurs_28 : decode cX7_occurs 28 = .ok (.iconst 0, 1) := by decide +kernel
theorem dX7_occurs_29 : decode cX7_occurs 29 = .ok (.istore_n 3, 1) := by decide +kernel
theorem dX7_occurs_30 : decode cX7_occurs 30 = .ok (.bipush (-6), 2) := by decide +kernel
theorem dX7_occurs_32 : decode cX7_occurs 32 = .ok (.istore 4, 2) := by decide +kernel
theorem dX7_occurs_34 : decode cX7_occurs 34 = .ok (.aload_n 0, 1) := by decide +kernel
theorem dX7_occurs_35 : decode cX7_occurs 35 = .ok (.getfield 37, 3) := by decide +kernel
theorem dX7_occurs_38 : decode cX7_occurs 38 = .ok (.iconst 0, 1) := by decide +kernel
theorem dX7_occurs_39 : decode cX7_occurs 39 = .ok (.iaload, 1) := by decide +kernel
theorem dX7_occurs_40 : decode cX7_occurs 40 = .ok (.iconst 1, 1) := by decide +kernel
theorem dX7_occurs_41 : decode cX7_occurs 41 = .ok (.isub, 1) := by decide +kernel
theorem dX7_occurs_42 : decode cX7_occurs 42 = .ok (.istore 5, 2) := by decide +kernel
theorem dX7_occurs_44 : decode cX7_occurs 44 = .ok (.iload 5, 2) := by decide +kernel
theorem dX7_occurs_46 : decode cX7_occurs 46 = .ok (.ifCond .lt 42, 3) := by decide +kernel
theorem dX7_occurs_49 : decode cX7_occurs 49 = .ok (.aload_n 0, 1) := by decide +kernel
theorem dX7_occurs_50 : decode cX7_occurs 50 = .ok (.iload 5, 2) := by decide +kernel
theorem dX7_occurs_52 : decode cX7_occurs 52 = .ok (.iconst 0, 1) := by decide +kernel
theorem dX7_occurs_53 : decode cX7_occurs 53 = .ok (.aload_n 0, 1) := by decide +kernel
theorem dX7_occurs_54 : decode cX7_occurs 54 = .ok (.getfield 104, 3) := by decide +kernel
theorem dX7_occurs_57 : decode cX7_occurs 57 = .ok (.invokevirtual 133, 3) := by decide +kernel
theorem dX7_occurs_60 : decode cX7_occurs 60 = .ok (.ifCond .eq 22, 3) := by decide +kernel
theorem dX7_occurs_63 : decode cX7_occurs 63 = .ok (.iinc 2 1, 3) := by decide +kernel
theorem dX7_occurs_66 : decode cX7_occurs 66 = .ok (.iload_n 3, 1) := by decide +kernel
theorem dX7_occurs_67 : decode cX7_occurs 67 = .ok (.iconst 1, 1) := by decide +kernel
theorem dX7_occurs_68 : decode cX7_occurs 68 = .ok (.aload_n 0, 1) := by decide +kernel
theorem dX7_occurs_69 : decode cX7_occurs 69 = .ok (.getfield 28, 3) := by decide +kernel
theorem dX7_occurs_72 : decode cX7_occurs 72 = .ok (.iload 5, 2) := by decide +kernel
theorem dX7_occurs_74 : decode cX7_occurs 74 = .ok (.iaload, 1) := by decide +kernel
theorem dX7_occurs_75 : decode cX7_occurs 75 = .ok (.ishl, 1) := by decide +kernel
theorem dX7_occurs_76 : decode cX7_occurs 76 = .ok (.ior, 1) := by decide +kernel
theorem dX7_occurs_77 : decode cX7_occurs 77 = .ok (.istore_n 3, 1) := by decide +kernel
theorem dX7_occurs_78 : decode cX7_occurs 78 = .ok (.iload 5, 2) := by decide +kernel
theorem dX7_occurs_80 : decode cX7_occurs 80 = .ok (.istore 4, 2) := by decide +kernel
theorem dX7_occurs_82 : decode cX7_occurs 82 = .ok (.iinc 5 (-1), 3) := by decide +kernel
theorem dX7_occurs_85 : decode cX7_occurs 85 = .ok (.goto (-41), 3) := by decide +kernel
theorem dX7_occurs_88 : decode cX7_occurs 88 = .ok (.iload_n 1, 1) := by decide +kernel
theorem dX7_occurs_89 : decode cX7_occurs 89 = .ok (.tableswitch 56 0 2 #[27, 29, 31], 27) := by decide +kernel
theorem dX7_occurs_116 : decode cX7_occurs 116 = .ok (.iload_n 2, 1) := by decide +kernel
theorem dX7_occurs_117 : decode cX7_occurs 117 = .ok (.ireturn, 1) := by decide +kernel
theorem dX7_occurs_118 : decode cX7_occurs 118 = .ok (.iload_n 3, 1) := by decide +kernel
theorem dX7_occurs_119 : decode cX7_occurs 119 = .ok (.ireturn, 1) := by decide +kernel
theorem dX7_occurs_120 : decode cX7_occurs 120 = .ok (.aload_n 0, 1) := by decide +kernel
theorem dX7_occurs_121 : decode cX7_occurs 121 = .ok (.invokevirtual 140, 3) := by decide +kernel
theorem dX7_occurs_124 : decode cX7_occurs 124 = .ok (.iload 4, 2) := by decide +kernel
theorem dX7_occurs_126 : decode cX7_occurs 126 = .ok (.ifCond .ge 8, 3) := by decide +kernel
theorem dX7_occurs_129 : decode cX7_occurs 129 = .ok (.bipush (-6), 2) := by decide +kernel
theorem dX7_occurs_131 : decode cX7_occurs 131 = .ok (.goto 13, 3) := by decide +kernel
theorem dX7_occurs_134 : decode cX7_occurs 134 = .ok (.aload_n 0, 1) := by decide +kernel
theorem dX7_occurs_135 : decode cX7_occurs 135 = .ok (.iload 4, 2) := by decide +kernel
theorem dX7_occurs_137 : decode cX7_occurs 137 = .ok (.aload_n 0, 1) := by decide +kernel
theorem dX7_occurs_138 : decode cX7_occurs 138 = .ok (.getfield 104, 3) := by decide +kernel
theorem dX7_occurs_141 : decode cX7_occurs 141 = .ok (.invokevirtual 143, 3) := by decide +kernel
theorem dX7_occurs_144 : decode cX7_occurs 144 = .ok (.ireturn, 1) := by decide +kernel
theorem dX7_occurs_145 : decode cX7_occurs 145 = .ok (.aload_n 0, 1) := by decide +kernel
theorem dX7_occurs_146 : decode cX7_occurs 146 = .ok (.invokevirtual 146, 3) := by decide +kernel
theorem dX7_occurs_149 : decode cX7_occurs 149 = .ok (.ireturn, 1) := by decide +kernel
theorem dX7_asEnd_0 : decode cX7_asEnd 0 = .ok (.bipush 100, 2) := by decide +kernel
theorem dX7_asEnd_2 : decode cX7_asEnd 2 = .ok (.aload_n 0, 1) := by decide +kernel
theorem dX7_asEnd_3 : decode cX7_asEnd 3 = .ok (.getfield 28, 3) := by decide +kernel
theorem dX7_asEnd_6 : decode cX7_asEnd 6 = .ok (.iload_n 1, 1) := by decide +kernel
theorem dX7_asEnd_7 : decode cX7_asEnd 7 = .ok (.iaload, 1) := by decide +kernel
theorem dX7_asEnd_8 : decode cX7_asEnd 8 = .ok (.imul, 1) := by decide +kernel
theorem dX7_asEnd_9 : decode cX7_asEnd 9 = .ok (.iload_n 1, 1) := by decide +kernel
theorem dX7_asEnd_10 : decode cX7_asEnd 10 = .ok (.iadd, 1) := by decide +kernel
theorem dX7_asEnd_11 : decode cX7_asEnd 11 = .ok (.aload_n 0, 1) := by decide +kernel
theorem dX7_asEnd_12 : decode cX7_asEnd 12 = .ok (.getfield 31, 3) := by decide +kernel
theorem dX7_asEnd_15 : decode cX7_asEnd 15 = .ok (.aload_n 0, 1) := by decide +kernel
theorem dX7_asEnd_16 : decode cX7_asEnd 16 = .ok (.getfield 28, 3) := by decide +kernel
theorem dX7_asEnd_19 : decode cX7_asEnd 19 = .ok (.iload_n 1, 1) := by decide +kernel
theorem dX7_asEnd_20 : decode cX7_asEnd 20 = .ok (.iaload, 1) := by decide +kernel
theorem dX7_asEnd_21 : decode cX7_asEnd 21 = .ok (.iaload, 1) := by decide +kernel
theorem dX7_asEnd_22 : decode cX7_asEnd 22 = .ok (.isub, 1) := by decide +kernel
theorem dX7_asEnd_23 : decode cX7_asEnd 23 = .ok (.ireturn, 1) := by decide +kernel
set_option maxRecDepth 20000 in
theorem ggX7_end_X7_isPattern : GoodIn wsX7_end wsX7_isPattern := goodIn_r _ [7, 8, 9, 10, 6, 11, 2, 12, 13, 14, 15, 16, 17, 18, 19, 53, 54, 55, 56, 57, 58, 59, 60, 61, 62, 63, 64, 65, 66, 67, 68, 69, 70, 71, 72, 73, 74, 75] (by decide +kernel) (by decide +kernel)
set_option maxRecDepth 20000 in
theorem gX7_end_X7_isPattern : GoodIn wsX7_end (wsV RX7 136 RX7 yX7_isPattern wsX7_isPattern) := goodIn_app (goodIn_of _ (by decide +kernel)) ggX7_end_X7_isPattern
set_option maxRecDepth 20000 in
theorem ggX7_end_X7_layPresent : GoodIn wsX7_end wsX7_layPresent := goodIn_r _ [23, 24, 25, 26, 27, 6, 28, 29, 30, 31, 1, 32, 33, 34, 35, 36, 53, 54, 55, 56, 57, 58, 59, 60, 61, 62, 63, 64, 65, 66, 67, 68, 69, 70, 71, 72, 73, 74, 75] (by decide +kernel) (by decide +kernel)
set_option maxRecDepth 20000 in
theorem gX7_end_X7_layPresent : GoodIn wsX7_end (wsV RX7 124 RX7 yX7_layPresent wsX7_layPresent) := goodIn_app (goodIn_of _ (by decide +kernel)) ggX7_end_X7_layPresent
set_option maxRecDepth 20000 in
theorem ggX7_end_X7_stands : GoodIn wsX7_end wsX7_stands := goodIn_r _ [40, 12, 41, 42, 43, 6, 44, 34, 36, 45, 46, 47, 48, 35, 53, 54, 55, 56, 57, 58, 59, 60, 61, 62, 63, 64, 65, 66, 67, 68, 69, 70, 71, 72, 73, 74, 75] (by decide +kernel) (by decide +kernel)
set_option maxRecDepth 20000 in
theorem gX7_end_X7_stands : GoodIn wsX7_end (wsV RX7 133 RX7 yX7_stands wsX7_stands) := goodIn_app (goodIn_of _ (by decide +kernel)) ggX7_end_X7_stands
set_option maxRecDepth 20000 in
theorem ggX7_end_X7_asEnd : GoodIn wsX7_end wsX7_asEnd := goodIn_r _ [52, 36, 33, 53, 54, 55, 56, 57, 58, 59, 60, 61, 62, 63, 64, 65, 66, 67, 68, 69, 70, 71, 72, 73, 74, 75] (by decide +kernel) (by decide +kernel)
set_option maxRecDepth 20000 in
theorem gX7_end_X7_asEnd : GoodIn wsX7_end (wsV RX7 149 RX7 yX7_asEnd wsX7_asEnd) := goodIn_app (goodIn_of _ (by decide +kernel)) ggX7_end_X7_asEnd
theorem dX7_end_0 : decode cX7_end 0 = .ok (.aload_n 0, 1) := by decide +kernel
theorem dX7_end_1 : decode cX7_end 1 = .ok (.invokevirtual 136, 3) := by decide +kernel
theorem dX7_end_4 : decode cX7_end 4 = .ok (.ifCond .ne 6, 3) := by decide +kernel
theorem dX7_end_7 : decode cX7_end 7 = .ok (.bipush (-3), 2) := by decide +kernel
theorem dX7_end_9 : decode cX7_end 9 = .ok (.ireturn, 1) := by decide +kernel
theorem dX7_end_10 : decode cX7_end 10 = .ok (.aload_n 0, 1) := by decide +kernel
theorem dX7_end_11 : decode cX7_end 11 = .ok (.invokevirtual 124, 3) := by decide +kernel
theorem dX7_end_14 : decode cX7_end 14 = .ok (.iconst 0, 1) := by decide +kernel
theorem dX7_end_15 : decode cX7_end 15 = .ok (.istore_n 2, 1) := by decide +kernel
theorem dX7_end_16 : decode cX7_end 16 = .ok (.iconst 0, 1) := by decide +kernel
theorem dX7_end_17 : decode cX7_end 17 = .ok (.istore_n 3, 1) := by decide +kernel
theorem dX7_end_18 : decode cX7_end 18 = .ok (.iload_n 3, 1) := by decide +kernel
theorem dX7_end_19 : decode cX7_end 19 = .ok (.aload_n 0, 1) := by decide +kernel
theorem dX7_end_20 : decode cX7_end 20 = .ok (.getfield 37, 3) := by decide +kernel
theorem dX7_end_23 : decode cX7_end 23 = .ok (.iconst 0, 1) := by decide +kernel
theorem dX7_end_24 : decode cX7_end 24 = .ok (.iaload, 1) := by decide +kernel
theorem dX7_end_25 : decode cX7_end 25 = .ok (.if_icmp .ge 43, 3) := by decide +kernel
theorem dX7_end_28 : decode cX7_end 28 = .ok (.aload_n 0, 1) := by decide +kernel
theorem dX7_end_29 : decode cX7_end 29 = .ok (.iload_n 3, 1) := by decide +kernel
theorem dX7_end_30 : decode cX7_end 30 = .ok (.iconst 0, 1) := by decide +kernel
theorem dX7_end_31 : decode cX7_end 31 = .ok (.aload_n 0, 1) := by decide +kernel
theorem dX7_end_32 : decode cX7_end 32 = .ok (.getfield 104, 3) := by decide +kernel
theorem dX7_end_35 : decode cX7_end 35 = .ok (.invokevirtual 133, 3) := by decide +kernel
theorem dX7_end_38 : decode cX7_end 38 = .ok (.ifCond .eq 24, 3) := by decide +kernel
theorem dX7_end_41 : decode cX7_end 41 = .ok (.iload_n 2, 1) := by decide +kernel
theorem dX7_end_42 : decode cX7_end 42 = .ok (.iload_n 1, 1) := by decide +kernel
theorem dX7_end_43 : decode cX7_end 43 = .ok (.if_icmp .ne 16, 3) := by decide +kernel
theorem dX7_end_46 : decode cX7_end 46 = .ok (.aload_n 0, 1) := by decide +kernel
theorem dX7_end_47 : decode cX7_end 47 = .ok (.iload_n 3, 1) := by decide +kernel
theorem dX7_end_48 : decode cX7_end 48 = .ok (.aload_n 0, 1) := by decide +kernel
theorem dX7_end_49 : decode cX7_end 49 = .ok (.getfield 104, 3) := by decide +kernel
theorem dX7_end_52 : decode cX7_end 52 = .ok (.iadd, 1) := by decide +kernel
theorem dX7_end_53 : decode cX7_end 53 = .ok (.iconst 1, 1) := by decide +kernel
theorem dX7_end_54 : decode cX7_end 54 = .ok (.isub, 1) := by decide +kernel
theorem dX7_end_55 : decode cX7_end 55 = .ok (.invokevirtual 149, 3) := by decide +kernel
theorem dX7_end_58 : decode cX7_end 58 = .ok (.ireturn, 1) := by decide +kernel
theorem dX7_end_59 : decode cX7_end 59 = .ok (.iinc 2 1, 3) := by decide +kernel
theorem dX7_end_62 : decode cX7_end 62 = .ok (.iinc 3 1, 3) := by decide +kernel
theorem dX7_end_65 : decode cX7_end 65 = .ok (.goto (-47), 3) := by decide +kernel
theorem dX7_end_68 : decode cX7_end 68 = .ok (.bipush (-6), 2) := by decide +kernel
theorem dX7_end_70 : decode cX7_end 70 = .ok (.ireturn, 1) := by decide +kernel
set_option maxRecDepth 20000 in
theorem ggX7_matches_X7_isPattern : GoodIn wsX7_matches wsX7_isPattern := goodIn_r _ [6, 7, 8, 9, 5, 10, 1, 11, 12, 13, 14, 15, 16, 17, 18, 53, 54, 55, 56, 57, 58, 59, 60, 61, 62, 63, 64, 65, 66, 67, 68, 69, 70, 71, 72, 73, 74, 75] (by decide +kernel) (by decide +kernel)
set_option maxRecDepth 20000 in
theorem gX7_matches_X7_isPattern : GoodIn wsX7_matches (wsV RX7 136 RX7 yX7_isPattern wsX7_isPattern) := goodIn_app (goodIn_of _ (by decide +kernel)) ggX7_matches_X7_isPattern
set_option maxRecDepth 20000 in
theorem ggX7_matches_X7_in : GoodIn wsX7_matches wsX7_in := goodIn_r _ [18] (by decide +kernel) (by decide +kernel)
set_option maxRecDepth 20000 in
theorem gX7_matches_X7_in : GoodIn wsX7_matches (va_wsS RX7 97 yX7_in wsX7_in) := goodIn_app (goodIn_of _ (by decide +kernel)) ggX7_matches_X7_in
set_option maxRecDepth 20000 in
theorem ggX7_matches_X7_layPresent : GoodIn wsX7_matches wsX7_layPresent := goodIn_r _ [22, 23, 24, 25, 26, 5, 27, 28, 29, 30, 31, 32, 33, 34, 35, 36, 53, 54, 55, 56, 57, 58, 59, 60, 61, 62, 63, 64, 65, 66, 67, 68, 69, 70, 71, 72, 73, 74, 75] (by decide +kernel) (by decide +kernel)
set_option maxRecDepth 20000 in
theorem gX7_matches_X7_layPresent : GoodIn wsX7_matches (wsV RX7 124 RX7 yX7_layPresent wsX7_layPresent) := goodIn_app (goodIn_of _ (by decide +kernel)) ggX7_matches_X7_layPresent
set_option maxRecDepth 20000 in
theorem ggX7_matches_X7_isFactor : GoodIn wsX7_matches wsX7_isFactor := goodIn_r _ [40, 31, 41, 42, 43, 5, 44, 11, 45, 46, 47, 48, 34, 36, 49, 50, 51, 52, 35, 53, 54, 55, 56, 57, 58, 59, 60, 61, 62, 63, 64, 65, 66, 67, 68, 69, 70, 71, 72, 73, 74, 75] (by decide +kernel) (by decide +kernel)
set_option maxRecDepth 20000 in
theorem gX7_matches_X7_isFactor : GoodIn wsX7_matches (wsV RX7 152 RX7 yX7_isFactor wsX7_isFactor) := goodIn_app (goodIn_of _ (by decide +kernel)) ggX7_matches_X7_isFactor
theorem dX7_matches_0 : decode cX7_matches 0 = .ok (.aload_n 0, 1) := by decide +kernel
theorem dX7_matches_1 : decode cX7_matches 1 = .ok (.invokevirtual 136, 3) := by decide +kernel
theorem dX7_matches_4 : decode cX7_matches 4 = .ok (.ifCond .ne 6, 3) := by decide +kernel
theorem dX7_matches_7 : decode cX7_matches 7 = .ok (.bipush (-3), 2) := by decide +kernel
theorem dX7_matches_9 : decode cX7_matches 9 = .ok (.ireturn, 1) := by decide +kernel
theorem dX7_matches_10 : decode cX7_matches 10 = .ok (.iload_n 1, 1) := by decide +kernel
theorem dX7_matches_11 : decode cX7_matches 11 = .ok (.iconst 1, 1) := by decide +kernel
theorem dX7_matches_12 : decode cX7_matches 12 = .ok (.aload_n 0, 1) := by decide +kernel
theorem dX7_matches_13 : decode cX7_matches 13 = .ok (.getfield 104, 3) := by decide +kernel
theorem dX7_matches_16 : decode cX7_matches 16 = .ok (.invokestatic 97, 3) := by decide +kernel
theorem dX7_matches_19 : decode cX7_matches 19 = .ok (.ifCond .ne 6, 3) := by decide +kernel
theorem dX7_matches_22 : decode cX7_matches 22 = .ok (.bipush (-2), 2) := by decide +kernel
theorem dX7_matches_24 : decode cX7_matches 24 = .ok (.ireturn, 1) := by decide +kernel
theorem dX7_matches_25 : decode cX7_matches 25 = .ok (.aload_n 0, 1) := by decide +kernel
theorem dX7_matches_26 : decode cX7_matches 26 = .ok (.invokevirtual 124, 3) := by decide +kernel
theorem dX7_matches_29 : decode cX7_matches 29 = .ok (.iload_n 1, 1) := by decide +kernel
theorem dX7_matches_30 : decode cX7_matches 30 = .ok (.istore_n 2, 1) := by decide +kernel
theorem dX7_matches_31 : decode cX7_matches 31 = .ok (.iload_n 2, 1) := by decide +kernel
theorem dX7_matches_32 : decode cX7_matches 32 = .ok (.ifCond .le 20, 3) := by decide +kernel
theorem dX7_matches_35 : decode cX7_matches 35 = .ok (.aload_n 0, 1) := by decide +kernel
theorem dX7_matches_36 : decode cX7_matches 36 = .ok (.iload_n 1, 1) := by decide +kernel
theorem dX7_matches_37 : decode cX7_matches 37 = .ok (.iload_n 2, 1) := by decide +kernel
theorem dX7_matches_38 : decode cX7_matches 38 = .ok (.isub, 1) := by decide +kernel
theorem dX7_matches_39 : decode cX7_matches 39 = .ok (.iload_n 2, 1) := by decide +kernel
theorem dX7_matches_40 : decode cX7_matches 40 = .ok (.invokevirtual 152, 3) := by decide +kernel
theorem dX7_matches_43 : decode cX7_matches 43 = .ok (.ifCond .ne 9, 3) := by decide +kernel
theorem dX7_matches_46 : decode cX7_matches 46 = .ok (.iinc 2 (-1), 3) := by decide +kernel
theorem dX7_matches_49 : decode cX7_matches 49 = .ok (.goto (-18), 3) := by decide +kernel
theorem dX7_matches_52 : decode cX7_matches 52 = .ok (.iload_n 2, 1) := by decide +kernel
theorem dX7_matches_53 : decode cX7_matches 53 = .ok (.ireturn, 1) := by decide +kernel
set_option maxRecDepth 20000 in
theorem ggX7_parts_X7_isPattern : GoodIn wsX7_parts wsX7_isPattern := goodIn_r _ [6, 7, 8, 9, 5, 10, 1, 11, 12, 13, 14, 15, 16, 17, 18, 53, 54, 55, 56, 57, 58, 59, 60, 61, 62, 63, 64, 65, 66, 67, 68, 69, 70, 71, 72, 73, 74, 75] (by decide +kernel) (by decide +kernel)
set_option maxRecDepth 20000 in
theorem gX7_parts_X7_isPattern : GoodIn wsX7_parts (wsV RX7 136 RX7 yX7_isPattern wsX7_isPattern) := goodIn_app (goodIn_of _ (by decide +kernel)) ggX7_parts_X7_isPattern
set_option maxRecDepth 20000 in
theorem ggX7_parts_X7_layPresent : GoodIn wsX7_parts wsX7_layPresent := goodIn_r _ [22, 23, 24, 25, 26, 5, 27, 28, 29, 30, 31, 32, 33, 34, 35, 36, 53, 54, 55, 56, 57, 58, 59, 60, 61, 62, 63, 64, 65, 66, 67, 68, 69, 70, 71, 72, 73, 74, 75] (by decide +kernel) (by decide +kernel)
set_option maxRecDepth 20000 in
theorem gX7_parts_X7_layPresent : GoodIn wsX7_parts (wsV RX7 124 RX7 yX7_layPresent wsX7_layPresent) := goodIn_app (goodIn_of _ (by decide +kernel)) ggX7_parts_X7_layPresent
set_option maxRecDepth 20000 in
theorem ggX7_parts_X7_isFactor : GoodIn wsX7_parts wsX7_isFactor := goodIn_r _ [40, 31, 41, 42, 43, 5, 44, 11, 45, 46, 47, 48, 34, 36, 49, 50, 51, 52, 35, 53, 54, 55, 56, 57, 58, 59, 60, 61, 62, 63, 64, 65, 66, 67, 68, 69, 70, 71, 72, 73, 74, 75] (by decide +kernel) (by decide +kernel)
set_option maxRecDepth 20000 in
theorem gX7_parts_X7_isFactor : GoodIn wsX7_parts (wsV RX7 152 RX7 yX7_isFactor wsX7_isFactor) := goodIn_app (goodIn_of _ (by decide +kernel)) ggX7_parts_X7_isFactor
theorem dX7_parts_0 : decode cX7_parts 0 = .ok (.aload_n 0, 1) := by decide +kernel
theorem dX7_parts_1 : decode cX7_parts 1 = .ok (.invokevirtual 136, 3) := by decide +kernel
theorem dX7_parts_4 : decode cX7_parts 4 = .ok (.ifCond .ne 6, 3) := by decide +kernel
theorem dX7_parts_7 : decode cX7_parts 7 = .ok (.bipush (-3), 2) := by decide +kernel
theorem dX7_parts_9 : decode cX7_parts 9 = .ok (.ireturn, 1) := by decide +kernel
theorem dX7_parts_10 : decode cX7_parts 10 = .ok (.aload_n 0, 1) := by decide +kernel
theorem dX7_parts_11 : decode cX7_parts 11 = .ok (.invokevirtual 124, 3) := by decide +kernel
theorem dX7_parts_14 : decode cX7_parts 14 = .ok (.iconst 0, 1) := by decide +kernel
theorem dX7_parts_15 : decode cX7_parts 15 = .ok (.istore_n 1, 1) := by decide +kernel
theorem dX7_parts_16 : decode cX7_parts 16 = .ok (.iconst 0, 1) := by decide +kernel
theorem dX7_parts_17 : decode cX7_parts 17 = .ok (.istore_n 2, 1) := by decide +kernel
theorem dX7_parts_18 : decode cX7_parts 18 = .ok (.iload_n 2, 1) := by decide +kernel
theorem dX7_parts_19 : decode cX7_parts 19 = .ok (.aload_n 0, 1) := by decide +kernel
theorem dX7_parts_20 : decode cX7_parts 20 = .ok (.getfield 104, 3) := by decide +kernel
theorem dX7_parts_23 : decode cX7_parts 23 = .ok (.if_icmp .ge 46, 3) := by decide +kernel
theorem dX7_parts_26 : decode cX7_parts 26 = .ok (.aload_n 0, 1) := by decide +kernel
theorem dX7_parts_27 : decode cX7_parts 27 = .ok (.getfield 104, 3) := by decide +kernel
theorem dX7_parts_30 : decode cX7_parts 30 = .ok (.iload_n 2, 1) := by decide +kernel
theorem dX7_parts_31 : decode cX7_parts 31 = .ok (.isub, 1) := by decide +kernel
theorem dX7_parts_32 : decode cX7_parts 32 = .ok (.istore_n 3, 1) := by decide +kernel
theorem dX7_parts_33 : decode cX7_parts 33 = .ok (.iload_n 3, 1) := by decide +kernel
theorem dX7_parts_34 : decode cX7_parts 34 = .ok (.ifCond .le 18, 3) := by decide +kernel
theorem dX7_parts_37 : decode cX7_parts 37 = .ok (.aload_n 0, 1) := by decide +kernel
theorem dX7_parts_38 : decode cX7_parts 38 = .ok (.iload_n 2, 1) := by decide +kernel
theorem dX7_parts_39 : decode cX7_parts 39 = .ok (.iload_n 3, 1) := by decide +kernel
theorem dX7_parts_40 : decode cX7_parts 40 = .ok (.invokevirtual 152, 3) := by decide +kernel
theorem dX7_parts_43 : decode cX7_parts 43 = .ok (.ifCond .ne 9, 3) := by decide +kernel
theorem dX7_parts_46 : decode cX7_parts 46 = .ok (.iinc 3 (-1), 3) := by decide +kernel
theorem dX7_parts_49 : decode cX7_parts 49 = .ok (.goto (-16), 3) := by decide +kernel
theorem dX7_parts_52 : decode cX7_parts 52 = .ok (.iload_n 3, 1) := by decide +kernel
theorem dX7_parts_53 : decode cX7_parts 53 = .ok (.ifCond .ne 6, 3) := by decide +kernel
theorem dX7_parts_56 : decode cX7_parts 56 = .ok (.bipush (-6), 2) := by decide +kernel
theorem dX7_parts_58 : decode cX7_parts 58 = .ok (.ireturn, 1) := by decide +kernel
theorem dX7_parts_59 : decode cX7_parts 59 = .ok (.iload_n 2, 1) := by decide +kernel
theorem dX7_parts_60 : decode cX7_parts 60 = .ok (.iload_n 3, 1) := by decide +kernel
theorem dX7_parts_61 : decode cX7_parts 61 = .ok (.iadd, 1) := by decide +kernel
theorem dX7_parts_62 : decode cX7_parts 62 = .ok (.istore_n 2, 1) := by decide +kernel
theorem dX7_parts_63 : decode cX7_parts 63 = .ok (.iinc 1 1, 3) := by decide +kernel
theorem dX7_parts_66 : decode cX7_parts 66 = .ok (.goto (-48), 3) := by decide +kernel
theorem dX7_parts_69 : decode cX7_parts 69 = .ok (.iload_n 1, 1) := by decide +kernel
theorem dX7_parts_70 : decode cX7_parts 70 = .ok (.ireturn, 1) := by decide +kernel
set_option maxRecDepth 20000 in
theorem ggX7_factors_X7_in : GoodIn wsX7_factors wsX7_in := goodIn_r _ [7] (by decide +kernel) (by decide +kernel)
set_option maxRecDepth 20000 in
theorem gX7_factors_X7_in : GoodIn wsX7_factors (va_wsS RX7 97 yX7_in wsX7_in) := goodIn_app (goodIn_of _ (by decide +kernel)) ggX7_factors_X7_in
set_option maxRecDepth 20000 in
theorem ggX7_factors_X7_layPresent : GoodIn wsX7_factors wsX7_layPresent := goodIn_r _ [11, 12, 13, 14, 15, 6, 16, 17, 18, 19, 1, 20, 21, 22, 23, 24, 45, 46, 47, 48, 49, 50, 51, 52, 53, 54, 55, 56, 57, 58, 59, 60, 61, 62, 63, 64, 65, 66, 67] (by decide +kernel) (by decide +kernel)
set_option maxRecDepth 20000 in
theorem gX7_factors_X7_layPresent : GoodIn wsX7_factors (wsV RX7 124 RX7 yX7_layPresent wsX7_layPresent) := goodIn_app (goodIn_of _ (by decide +kernel)) ggX7_factors_X7_layPresent
set_option maxRecDepth 20000 in
theorem ggX7_factors_X7_sort : GoodIn wsX7_factors wsX7_sort := goodIn_r _ [28, 1, 3, 2, 29, 30, 31, 6, 32, 23, 33, 34, 35, 36, 37, 38, 39, 40, 22, 24, 45, 46, 47, 48, 49, 50, 51, 52, 53, 54, 55, 56, 57, 58, 59, 60, 61, 62, 63, 64, 65, 66, 67] (by decide +kernel) (by decide +kernel)
set_option maxRecDepth 20000 in
theorem gX7_factors_X7_sort : GoodIn wsX7_factors (wsV RX7 117 RX7 yX7_sort wsX7_sort) := goodIn_app (goodIn_of _ (by decide +kernel)) ggX7_factors_X7_sort
set_option maxRecDepth 20000 in
theorem ggX7_factors_X7_rest : GoodIn wsX7_factors wsX7_rest := goodIn_r _ [40, 22, 24, 45, 46, 47, 48, 49, 50, 51, 52, 53, 54, 55, 56, 57, 58, 59, 60, 61, 62, 63, 64, 65, 66, 67] (by decide +kernel) (by decide +kernel)
set_option maxRecDepth 20000 in
theorem gX7_factors_X7_rest : GoodIn wsX7_factors (wsV RX7 78 RX7 yX7_rest wsX7_rest) := goodIn_app (goodIn_of _ (by decide +kernel)) ggX7_factors_X7_rest
set_option maxRecDepth 20000 in
theorem ggX7_factors_X7_endsOf : GoodIn wsX7_factors wsX7_endsOf := goodIn_r _ [44, 1, 2, 45, 46, 47, 48, 49, 50, 51, 52, 53, 54, 55, 56, 57, 58, 59, 60, 61, 62, 63, 64, 65, 66, 67] (by decide +kernel) (by decide +kernel)
set_option maxRecDepth 20000 in
theorem gX7_factors_X7_endsOf : GoodIn wsX7_factors (wsV RX7 90 RX7 yX7_endsOf wsX7_endsOf) := goodIn_app (goodIn_of _ (by decide +kernel)) ggX7_factors_X7_endsOf
theorem dX7_factors_0 : decode cX7_factors 0 = .ok (.iload_n 1, 1) := by decide +kernel
theorem dX7_factors_1 : decode cX7_factors 1 = .ok (.iconst 1, 1) := by decide +kernel
theorem dX7_factors_2 : decode cX7_factors 2 = .ok (.bipush 60, 2) := by decide +kernel
theorem dX7_factors_4 : decode cX7_factors 4 = .ok (.invokestatic 97, 3) := by decide +kernel
theorem dX7_factors_7 : decode cX7_factors 7 = .ok (.ifCond .eq 13, 3) := by decide +kernel
theorem dX7_factors_10 : decode cX7_factors 10 = .ok (.iload_n 2, 1) := by decide +kernel
theorem dX7_factors_11 : decode cX7_factors 11 = .ok (.iconst 0, 1) := by decide +kernel
theorem dX7_factors_12 : decode cX7_factors 12 = .ok (.bipush 60, 2) := by decide +kernel
theorem dX7_factors_14 : decode cX7_factors 14 = .ok (.invokestatic 97, 3) := by decide +kernel
theorem dX7_factors_17 : decode cX7_factors 17 = .ok (.ifCond .ne 6, 3) := by decide +kernel
theorem dX7_factors_20 : decode cX7_factors 20 = .ok (.bipush (-2), 2) := by decide +kernel
theorem dX7_factors_22 : decode cX7_factors 22 = .ok (.ireturn, 1) := by decide +kernel
theorem dX7_factors_23 : decode cX7_factors 23 = .ok (.aload_n 0, 1) := by decide +kernel
theorem dX7_factors_24 : decode cX7_factors 24 = .ok (.invokevirtual 124, 3) := by decide +kernel
theorem dX7_factors_27 : decode cX7_factors 27 = .ok (.aload_n 0, 1) := by decide +kernel
theorem dX7_factors_28 : decode cX7_factors 28 = .ok (.invokevirtual 117, 3) := by decide +kernel
theorem dX7_factors_31 : decode cX7_factors 31 = .ok (.iconst 0, 1) := by decide +kernel
theorem dX7_factors_32 : decode cX7_factors 32 = .ok (.istore_n 3, 1) := by decide +kernel
theorem dX7_factors_33 : decode cX7_factors 33 = .ok (.iconst 0, 1) := by decide +kernel
theorem dX7_factors_34 : decode cX7_factors 34 = .ok (.istore 4, 2) := by decide +kernel
theorem dX7_factors_36 : decode cX7_factors 36 = .ok (.iload 4, 2) := by decide +kernel
theorem dX7_factors_38 : decode cX7_factors 38 = .ok (.aload_n 0, 1) := by decide +kernel
theorem dX7_factors_39 : decode cX7_factors 39 = .ok (.getfield 37, 3) := by decide +kernel
theorem dX7_factors_42 : decode cX7_factors 42 = .ok (.iconst 0, 1) := by decide +kernel
theorem dX7_factors_43 : decode cX7_factors 43 = .ok (.iaload, 1) := by decide +kernel
theorem dX7_factors_44 : decode cX7_factors 44 = .ok (.if_icmp .ge 73, 3) := by decide +kernel
theorem dX7_factors_47 : decode cX7_factors 47 = .ok (.aload_n 0, 1) := by decide +kernel
theorem dX7_factors_48 : decode cX7_factors 48 = .ok (.getfield 49, 3) := by decide +kernel
theorem dX7_factors_51 : decode cX7_factors 51 = .ok (.iload 4, 2) := by decide +kernel
theorem dX7_factors_53 : decode cX7_factors 53 = .ok (.iaload, 1) := by decide +kernel
theorem dX7_factors_54 : decode cX7_factors 54 = .ok (.iconst 1, 1) := by decide +kernel
theorem dX7_factors_55 : decode cX7_factors 55 = .ok (.iadd, 1) := by decide +kernel
theorem dX7_factors_56 : decode cX7_factors 56 = .ok (.istore 5, 2) := by decide +kernel
theorem dX7_factors_58 : decode cX7_factors 58 = .ok (.iload 5, 2) := by decide +kernel
theorem dX7_factors_60 : decode cX7_factors 60 = .ok (.aload_n 0, 1) := by decide +kernel
theorem dX7_factors_61 : decode cX7_factors 61 = .ok (.iconst 0, 1) := by decide +kernel
theorem dX7_factors_62 : decode cX7_factors 62 = .ok (.aload_n 0, 1) := by decide +kernel
theorem dX7_factors_63 : decode cX7_factors 63 = .ok (.getfield 46, 3) := by decide +kernel
theorem dX7_factors_66 : decode cX7_factors 66 = .ok (.iload 4, 2) := by decide +kernel
theorem dX7_factors_68 : decode cX7_factors 68 = .ok (.iaload, 1) := by decide +kernel
theorem dX7_factors_69 : decode cX7_factors 69 = .ok (.invokevirtual 78, 3) := by decide +kernel
theorem dX7_factors_72 : decode cX7_factors 72 = .ok (.if_icmp .gt 39, 3) := by decide +kernel
theorem dX7_factors_75 : decode cX7_factors 75 = .ok (.iload_n 3, 1) := by decide +kernel
theorem dX7_factors_76 : decode cX7_factors 76 = .ok (.iload_n 2, 1) := by decide +kernel
theorem dX7_factors_77 : decode cX7_factors 77 = .ok (.ifCond .eq 9, 3) := by decide +kernel
theorem dX7_factors_80 : decode cX7_factors 80 = .ok (.iload 5, 2) := by decide +kernel
theorem dX7_factors_82 : decode cX7_factors 82 = .ok (.iload_n 2, 1) := by decide +kernel
theorem dX7_factors_83 : decode cX7_factors 83 = .ok (.if_icmp .ne 19, 3) := by decide +kernel
theorem dX7_factors_86 : decode cX7_factors 86 = .ok (.aload_n 0, 1) := by decide +kernel
theorem dX7_factors_87 : decode cX7_factors 87 = .ok (.iload 4, 2) := by decide +kernel
theorem dX7_factors_89 : decode cX7_factors 89 = .ok (.iload 5, 2) := by decide +kernel
theorem dX7_factors_91 : decode cX7_factors 91 = .ok (.invokevirtual 90, 3) := by decide +kernel
theorem dX7_factors_94 : decode cX7_factors 94 = .ok (.iload_n 1, 1) := by decide +kernel
theorem dX7_factors_95 : decode cX7_factors 95 = .ok (.if_icmp .lt 7, 3) := by decide +kernel
theorem dX7_factors_98 : decode cX7_factors 98 = .ok (.iconst 1, 1) := by decide +kernel
theorem dX7_factors_99 : decode cX7_factors 99 = .ok (.goto 4, 3) := by decide +kernel
theorem dX7_factors_102 : decode cX7_factors 102 = .ok (.iconst 0, 1) := by decide +kernel
theorem dX7_factors_103 : decode cX7_factors 103 = .ok (.iadd, 1) := by decide +kernel
theorem dX7_factors_104 : decode cX7_factors 104 = .ok (.istore_n 3, 1) := by decide +kernel
theorem dX7_factors_105 : decode cX7_factors 105 = .ok (.iinc 5 1, 3) := by decide +kernel
theorem dX7_factors_108 : decode cX7_factors 108 = .ok (.goto (-50), 3) := by decide +kernel
theorem dX7_factors_111 : decode cX7_factors 111 = .ok (.iinc 4 1, 3) := by decide +kernel
theorem dX7_factors_114 : decode cX7_factors 114 = .ok (.goto (-78), 3) := by decide +kernel
theorem dX7_factors_117 : decode cX7_factors 117 = .ok (.iload_n 3, 1) := by decide +kernel
theorem dX7_factors_118 : decode cX7_factors 118 = .ok (.ireturn, 1) := by decide +kernel
set_option maxRecDepth 20000 in
theorem ggX7_kth_X7_in : GoodIn wsX7_kth wsX7_in := goodIn_r _ [7] (by decide +kernel) (by decide +kernel)
set_option maxRecDepth 20000 in
theorem gX7_kth_X7_in : GoodIn wsX7_kth (va_wsS RX7 97 yX7_in wsX7_in) := goodIn_app (goodIn_of _ (by decide +kernel)) ggX7_kth_X7_in
set_option maxRecDepth 20000 in
theorem ggX7_kth_X7_layPresent : GoodIn wsX7_kth wsX7_layPresent := goodIn_r _ [11, 12, 13, 14, 15, 6, 16, 17, 18, 19, 1, 20, 21, 22, 23, 24, 55, 56, 57, 58, 59, 60, 61, 62, 63, 64, 65, 66, 67, 68, 69, 70, 71, 72, 73, 74, 75, 76, 77] (by decide +kernel) (by decide +kernel)
set_option maxRecDepth 20000 in
theorem gX7_kth_X7_layPresent : GoodIn wsX7_kth (wsV RX7 124 RX7 yX7_layPresent wsX7_layPresent) := goodIn_app (goodIn_of _ (by decide +kernel)) ggX7_kth_X7_layPresent
set_option maxRecDepth 20000 in
theorem ggX7_kth_X7_sort : GoodIn wsX7_kth wsX7_sort := goodIn_r _ [28, 1, 3, 2, 29, 30, 31, 6, 32, 23, 33, 34, 35, 36, 37, 38, 39, 40, 22, 24, 55, 56, 57, 58, 59, 60, 61, 62, 63, 64, 65, 66, 67, 68, 69, 70, 71, 72, 73, 74, 75, 76, 77] (by decide +kernel) (by decide +kernel)
set_option maxRecDepth 20000 in
theorem gX7_kth_X7_sort : GoodIn wsX7_kth (wsV RX7 117 RX7 yX7_sort wsX7_sort) := goodIn_app (goodIn_of _ (by decide +kernel)) ggX7_kth_X7_sort
set_option maxRecDepth 20000 in
theorem ggX7_kth_X7_rest : GoodIn wsX7_kth wsX7_rest := goodIn_r _ [40, 22, 24, 55, 56, 57, 58, 59, 60, 61, 62, 63, 64, 65, 66, 67, 68, 69, 70, 71, 72, 73, 74, 75, 76, 77] (by decide +kernel) (by decide +kernel)
set_option maxRecDepth 20000 in
theorem gX7_kth_X7_rest : GoodIn wsX7_kth (wsV RX7 78 RX7 yX7_rest wsX7_rest) := goodIn_app (goodIn_of _ (by decide +kernel)) ggX7_kth_X7_rest
set_option maxRecDepth 20000 in
theorem ggX7_kth_X7_endsOf : GoodIn wsX7_kth wsX7_endsOf := goodIn_r _ [44, 1, 2, 55, 56, 57, 58, 59, 60, 61, 62, 63, 64, 65, 66, 67, 68, 69, 70, 71, 72, 73, 74, 75, 76, 77] (by decide +kernel) (by decide +kernel)
set_option maxRecDepth 20000 in
theorem gX7_kth_X7_endsOf : GoodIn wsX7_kth (wsV RX7 90 RX7 yX7_endsOf wsX7_endsOf) := goodIn_app (goodIn_of _ (by decide +kernel)) ggX7_kth_X7_endsOf
set_option maxRecDepth 20000 in
theorem ggX7_kth_X7_write : GoodIn wsX7_kth wsX7_write := goodIn_r _ [48, 49, 50, 51, 52, 53, 6, 54, 23, 55, 56, 57, 58, 59, 60, 61, 62, 63, 64, 65, 66, 67, 68, 69, 70, 71, 72, 73, 74, 75, 76, 77] (by decide +kernel) (by decide +kernel)
set_option maxRecDepth 20000 in
theorem gX7_kth_X7_write : GoodIn wsX7_kth (wsV RX7 155 RX7 yX7_write wsX7_write) := goodIn_app (goodIn_of _ (by decide +kernel)) ggX7_kth_X7_write
theorem dX7_kth_0 : decode cX7_kth 0 = .ok (.iload_n 1, 1) := by decide +kernel
theorem dX7_kth_1 : decode cX7_kth 1 = .ok (.iconst 1, 1) := by decide +kernel
theorem dX7_kth_2 : decode cX7_kth 2 = .ok (.bipush 60, 2) := by decide +kernel
theorem dX7_kth_4 : decode cX7_kth 4 = .ok (.invokestatic 97, 3) := by decide +kernel
theorem dX7_kth_7 : decode cX7_kth 7 = .ok (.ifCond .ne 6, 3) := by decide +kernel
theorem dX7_kth_10 : decode cX7_kth 10 = .ok (.bipush (-2), 2) := by decide +kernel
theorem dX7_kth_12 : decode cX7_kth 12 = .ok (.ireturn, 1) := by decide +kernel
theorem dX7_kth_13 : decode cX7_kth 13 = .ok (.aload_n 0, 1) := by decide +kernel
theorem dX7_kth_14 : decode cX7_kth 14 = .ok (.invokevirtual 124, 3) := by decide +kernel
theorem dX7_kth_17 : decode cX7_kth 17 = .ok (.aload_n 0, 1) := by decide +kernel
theorem dX7_kth_18 : decode cX7_kth 18 = .ok (.invokevirtual 117, 3) := by decide +kernel
theorem dX7_kth_21 : decode cX7_kth 21 = .ok (.iconst 0, 1) := by decide +kernel
theorem dX7_kth_22 : decode cX7_kth 22 = .ok (.istore_n 3, 1) := by decide +kernel
theorem dX7_kth_23 : decode cX7_kth 23 = .ok (.iconst 0, 1) := by decide +kernel
theorem dX7_kth_24 : decode cX7_kth 24 = .ok (.istore 4, 2) := by decide +kernel
theorem dX7_kth_26 : decode cX7_kth 26 = .ok (.iload 4, 2) := by decide +kernel
theorem dX7_kth_28 : decode cX7_kth 28 = .ok (.aload_n 0, 1) := by decide +kernel
theorem dX7_kth_29 : decode cX7_kth 29 = .ok (.getfield 37, 3) := by decide +kernel
theorem dX7_kth_32 : decode cX7_kth 32 = .ok (.iconst 0, 1) := by decide +kernel
theorem dX7_kth_33 : decode cX7_kth 33 = .ok (.iaload, 1) := by decide +kernel
theorem dX7_kth_34 : decode cX7_kth 34 = .ok (.if_icmp .ge 77, 3) := by decide +kernel
theorem dX7_kth_37 : decode cX7_kth 37 = .ok (.aload_n 0, 1) := by decide +kernel
theorem dX7_kth_38 : decode cX7_kth 38 = .ok (.getfield 49, 3) := by decide +kernel
theorem dX7_kth_41 : decode cX7_kth 41 = .ok (.iload 4, 2) := by decide +kernel
theorem dX7_kth_43 : decode cX7_kth 43 = .ok (.iaload, 1) := by decide +kernel
theorem dX7_kth_44 : decode cX7_kth 44 = .ok (.iconst 1, 1) := by decide +kernel
theorem dX7_kth_45 : decode cX7_kth 45 = .ok (.iadd, 1) := by decide +kernel
theorem dX7_kth_46 : decode cX7_kth 46 = .ok (.istore 5, 2) := by decide +kernel
theorem dX7_kth_48 : decode cX7_kth 48 = .ok (.iload 5, 2) := by decide +kernel
theorem dX7_kth_50 : decode cX7_kth 50 = .ok (.aload_n 0, 1) := by decide +kernel
theorem dX7_kth_51 : decode cX7_kth 51 = .ok (.iconst 0, 1) := by decide +kernel
theorem dX7_kth_52 : decode cX7_kth 52 = .ok (.aload_n 0, 1) := by decide +kernel
theorem dX7_kth_53 : decode cX7_kth 53 = .ok (.getfield 46, 3) := by decide +kernel
theorem dX7_kth_56 : decode cX7_kth 56 = .ok (.iload 4, 2) := by decide +kernel
theorem dX7_kth_58 : decode cX7_kth 58 = .ok (.iaload, 1) := by decide +kernel
theorem dX7_kth_59 : decode cX7_kth 59 = .ok (.invokevirtual 78, 3) := by decide +kernel
theorem dX7_kth_62 : decode cX7_kth 62 = .ok (.if_icmp .gt 43, 3) := by decide +kernel
theorem dX7_kth_65 : decode cX7_kth 65 = .ok (.aload_n 0, 1) := by decide +kernel
theorem dX7_kth_66 : decode cX7_kth 66 = .ok (.iload 4, 2) := by decide +kernel
theorem dX7_kth_68 : decode cX7_kth 68 = .ok (.iload 5, 2) := by decide +kernel
theorem dX7_kth_70 : decode cX7_kth 70 = .ok (.invokevirtual 90, 3) := by decide +kernel
theorem dX7_kth_73 : decode cX7_kth 73 = .ok (.iload_n 1, 1) := by decide +kernel
theorem dX7_kth_74 : decode cX7_kth 74 = .ok (.if_icmp .lt 25, 3) := by decide +kernel
theorem dX7_kth_77 : decode cX7_kth 77 = .ok (.iload_n 3, 1) := by decide +kernel
theorem dX7_kth_78 : decode cX7_kth 78 = .ok (.iload_n 2, 1) := by decide +kernel
theorem dX7_kth_79 : decode cX7_kth 79 = .ok (.if_icmp .ne 17, 3) := by decide +kernel
theorem dX7_kth_82 : decode cX7_kth 82 = .ok (.aload_n 0, 1) := by decide +kernel
theorem dX7_kth_83 : decode cX7_kth 83 = .ok (.aload_n 0, 1) := by decide +kernel
theorem dX7_kth_84 : decode cX7_kth 84 = .ok (.getfield 46, 3) := by decide +kernel
theorem dX7_kth_87 : decode cX7_kth 87 = .ok (.iload 4, 2) := by decide +kernel
theorem dX7_kth_89 : decode cX7_kth 89 = .ok (.iaload, 1) := by decide +kernel
theorem dX7_kth_90 : decode cX7_kth 90 = .ok (.iload 5, 2) := by decide +kernel
theorem dX7_kth_92 : decode cX7_kth 92 = .ok (.invokevirtual 155, 3) := by decide +kernel
theorem dX7_kth_95 : decode cX7_kth 95 = .ok (.ireturn, 1) := by decide +kernel
theorem dX7_kth_96 : decode cX7_kth 96 = .ok (.iinc 3 1, 3) := by decide +kernel
theorem dX7_kth_99 : decode cX7_kth 99 = .ok (.iinc 5 1, 3) := by decide +kernel
theorem dX7_kth_102 : decode cX7_kth 102 = .ok (.goto (-54), 3) := by decide +kernel
theorem dX7_kth_105 : decode cX7_kth 105 = .ok (.iinc 4 1, 3) := by decide +kernel
theorem dX7_kth_108 : decode cX7_kth 108 = .ok (.goto (-82), 3) := by decide +kernel
theorem dX7_kth_111 : decode cX7_kth 111 = .ok (.bipush (-6), 2) := by decide +kernel
theorem dX7_kth_113 : decode cX7_kth 113 = .ok (.ireturn, 1) := by decide +kernel
set_option maxRecDepth 20000 in
theorem ggX7_comesBefore_X7_letterAt : GoodIn wsX7_comesBefore wsX7_letterAt := goodIn_r _ [7, 8, 9, 10, 11, 12, 13, 14, 15, 16, 17, 18, 19, 20, 21, 22, 23, 24, 25, 26, 27, 28, 29, 30, 31] (by decide +kernel) (by decide +kernel)
set_option maxRecDepth 20000 in
theorem gX7_comesBefore_X7_letterAt : GoodIn wsX7_comesBefore (wsV RX7 127 RX7 yX7_letterAt wsX7_letterAt) := goodIn_app (goodIn_of _ (by decide +kernel)) ggX7_comesBefore_X7_letterAt
theorem dX7_comesBefore_0 : decode cX7_comesBefore 0 = .ok (.iconst 0, 1) := by decide +kernel
theorem dX7_comesBefore_1 : decode cX7_comesBefore 1 = .ok (.istore_n 3, 1) := by decide +kernel
theorem dX7_comesBefore_2 : decode cX7_comesBefore 2 = .ok (.iload_n 3, 1) := by decide +kernel
theorem dX7_comesBefore_3 : decode cX7_comesBefore 3 = .ok (.iload_n 2, 1) := by decide +kernel
theorem dX7_comesBefore_4 : decode cX7_comesBefore 4 = .ok (.if_icmp .ge 36, 3) := by decide +kernel
theorem dX7_comesBefore_7 : decode cX7_comesBefore 7 = .ok (.iload_n 3, 1) := by decide +kernel
theorem dX7_comesBefore_8 : decode cX7_comesBefore 8 = .ok (.aload_n 0, 1) := by decide +kernel
theorem dX7_comesBefore_9 : decode cX7_comesBefore 9 = .ok (.getfield 104, 3) := by decide +kernel
theorem dX7_comesBefore_12 : decode cX7_comesBefore 12 = .ok (.if_icmp .ge 28, 3) := by decide +kernel
theorem dX7_comesBefore_15 : decode cX7_comesBefore 15 = .ok (.aload_n 0, 1) := by decide +kernel
theorem dX7_comesBefore_16 : decode cX7_comesBefore 16 = .ok (.iload_n 1, 1) := by decide +kernel
theorem dX7_comesBefore_17 : decode cX7_comesBefore 17 = .ok (.iload_n 3, 1) := by decide +kernel
theorem dX7_comesBefore_18 : decode cX7_comesBefore 18 = .ok (.iadd, 1) := by decide +kernel
theorem dX7_comesBefore_19 : decode cX7_comesBefore 19 = .ok (.invokevirtual 127, 3) := by decide +kernel
theorem dX7_comesBefore_22 : decode cX7_comesBefore 22 = .ok (.aload_n 0, 1) := by decide +kernel
theorem dX7_comesBefore_23 : decode cX7_comesBefore 23 = .ok (.getfield 22, 3) := by decide +kernel
theorem dX7_comesBefore_26 : decode cX7_comesBefore 26 = .ok (.iload_n 3, 1) := by decide +kernel
theorem dX7_comesBefore_27 : decode cX7_comesBefore 27 = .ok (.iaload, 1) := by decide +kernel
theorem dX7_comesBefore_28 : decode cX7_comesBefore 28 = .ok (.bipush 97, 2) := by decide +kernel
theorem dX7_comesBefore_30 : decode cX7_comesBefore 30 = .ok (.isub, 1) := by decide +kernel
theorem dX7_comesBefore_31 : decode cX7_comesBefore 31 = .ok (.if_icmp .ne 9, 3) := by decide +kernel
theorem dX7_comesBefore_34 : decode cX7_comesBefore 34 = .ok (.iinc 3 1, 3) := by decide +kernel
theorem dX7_comesBefore_37 : decode cX7_comesBefore 37 = .ok (.goto (-35), 3) := by decide +kernel
theorem dX7_comesBefore_40 : decode cX7_comesBefore 40 = .ok (.iload_n 3, 1) := by decide +kernel
theorem dX7_comesBefore_41 : decode cX7_comesBefore 41 = .ok (.iload_n 2, 1) := by decide +kernel
theorem dX7_comesBefore_42 : decode cX7_comesBefore 42 = .ok (.if_icmp .eq 11, 3) := by decide +kernel
theorem dX7_comesBefore_45 : decode cX7_comesBefore 45 = .ok (.iload_n 3, 1) := by decide +kernel
theorem dX7_comesBefore_46 : decode cX7_comesBefore 46 = .ok (.aload_n 0, 1) := by decide +kernel
theorem dX7_comesBefore_47 : decode cX7_comesBefore 47 = .ok (.getfield 104, 3) := by decide +kernel
theorem dX7_comesBefore_50 : decode cX7_comesBefore 50 = .ok (.if_icmp .ne 22, 3) := by decide +kernel
theorem dX7_comesBefore_53 : decode cX7_comesBefore 53 = .ok (.iload_n 3, 1) := by decide +kernel
theorem dX7_comesBefore_54 : decode cX7_comesBefore 54 = .ok (.iload_n 2, 1) := by decide +kernel
theorem dX7_comesBefore_55 : decode cX7_comesBefore 55 = .ok (.if_icmp .ne 15, 3) := by decide +kernel
theorem dX7_comesBefore_58 : decode cX7_comesBefore 58 = .ok (.iload_n 2, 1) := by decide +kernel
theorem dX7_comesBefore_59 : decode cX7_comesBefore 59 = .ok (.aload_n 0, 1) := by decide +kernel
theorem dX7_comesBefore_60 : decode cX7_comesBefore 60 = .ok (.getfield 104, 3) := by decide +kernel
theorem dX7_comesBefore_63 : decode cX7_comesBefore 63 = .ok (.if_icmp .ge 7, 3) := by decide +kernel
theorem dX7_comesBefore_66 : decode cX7_comesBefore 66 = .ok (.iconst 1, 1) := by decide +kernel
theorem dX7_comesBefore_67 : decode cX7_comesBefore 67 = .ok (.goto 4, 3) := by decide +kernel
theorem dX7_comesBefore_70 : decode cX7_comesBefore 70 = .ok (.iconst 0, 1) := by decide +kernel
theorem dX7_comesBefore_71 : decode cX7_comesBefore 71 = .ok (.ireturn, 1) := by decide +kernel
theorem dX7_comesBefore_72 : decode cX7_comesBefore 72 = .ok (.aload_n 0, 1) := by decide +kernel
theorem dX7_comesBefore_73 : decode cX7_comesBefore 73 = .ok (.iload_n 1, 1) := by decide +kernel
theorem dX7_comesBefore_74 : decode cX7_comesBefore 74 = .ok (.iload_n 3, 1) := by decide +kernel
theorem dX7_comesBefore_75 : decode cX7_comesBefore 75 = .ok (.iadd, 1) := by decide +kernel
theorem dX7_comesBefore_76 : decode cX7_comesBefore 76 = .ok (.invokevirtual 127, 3) := by decide +kernel
theorem dX7_comesBefore_79 : decode cX7_comesBefore 79 = .ok (.aload_n 0, 1) := by decide +kernel
theorem dX7_comesBefore_80 : decode cX7_comesBefore 80 = .ok (.getfield 22, 3) := by decide +kernel
theorem dX7_comesBefore_83 : decode cX7_comesBefore 83 = .ok (.iload_n 3, 1) := by decide +kernel
theorem dX7_comesBefore_84 : decode cX7_comesBefore 84 = .ok (.iaload, 1) := by decide +kernel
theorem dX7_comesBefore_85 : decode cX7_comesBefore 85 = .ok (.bipush 97, 2) := by decide +kernel
theorem dX7_comesBefore_87 : decode cX7_comesBefore 87 = .ok (.isub, 1) := by decide +kernel
theorem dX7_comesBefore_88 : decode cX7_comesBefore 88 = .ok (.if_icmp .ge 7, 3) := by decide +kernel
theorem dX7_comesBefore_91 : decode cX7_comesBefore 91 = .ok (.iconst 1, 1) := by decide +kernel
theorem dX7_comesBefore_92 : decode cX7_comesBefore 92 = .ok (.goto 4, 3) := by decide +kernel
theorem dX7_comesBefore_95 : decode cX7_comesBefore 95 = .ok (.iconst 0, 1) := by decide +kernel
theorem dX7_comesBefore_96 : decode cX7_comesBefore 96 = .ok (.ireturn, 1) := by decide +kernel
set_option maxRecDepth 20000 in
theorem ggX7_before_X7_isPattern : GoodIn wsX7_before wsX7_isPattern := goodIn_r _ [8, 9, 10, 11, 7, 12, 13, 14, 15, 16, 17, 18, 19, 20, 21, 63, 64, 65, 66, 67, 68, 69, 70, 71, 72, 73, 74, 75, 76, 77, 78, 79, 80, 81, 82, 83, 84, 85] (by decide +kernel) (by decide +kernel)
set_option maxRecDepth 20000 in
theorem gX7_before_X7_isPattern : GoodIn wsX7_before (wsV RX7 136 RX7 yX7_isPattern wsX7_isPattern) := goodIn_app (goodIn_of _ (by decide +kernel)) ggX7_before_X7_isPattern
set_option maxRecDepth 20000 in
theorem ggX7_before_X7_layPresent : GoodIn wsX7_before wsX7_layPresent := goodIn_r _ [25, 26, 27, 28, 29, 7, 30, 31, 32, 33, 1, 34, 35, 36, 37, 38, 63, 64, 65, 66, 67, 68, 69, 70, 71, 72, 73, 74, 75, 76, 77, 78, 79, 80, 81, 82, 83, 84, 85] (by decide +kernel) (by decide +kernel)
set_option maxRecDepth 20000 in
theorem gX7_before_X7_layPresent : GoodIn wsX7_before (wsV RX7 124 RX7 yX7_layPresent wsX7_layPresent) := goodIn_app (goodIn_of _ (by decide +kernel)) ggX7_before_X7_layPresent
set_option maxRecDepth 20000 in
theorem ggX7_before_X7_sort : GoodIn wsX7_before wsX7_sort := goodIn_r _ [42, 1, 3, 2, 43, 44, 45, 7, 46, 37, 47, 48, 49, 50, 51, 52, 53, 54, 36, 38, 63, 64, 65, 66, 67, 68, 69, 70, 71, 72, 73, 74, 75, 76, 77, 78, 79, 80, 81, 82, 83, 84, 85] (by decide +kernel) (by decide +kernel)
set_option maxRecDepth 20000 in
theorem gX7_before_X7_sort : GoodIn wsX7_before (wsV RX7 117 RX7 yX7_sort wsX7_sort) := goodIn_app (goodIn_of _ (by decide +kernel)) ggX7_before_X7_sort
set_option maxRecDepth 20000 in
theorem ggX7_before_X7_rest : GoodIn wsX7_before wsX7_rest := goodIn_r _ [54, 36, 38, 63, 64, 65, 66, 67, 68, 69, 70, 71, 72, 73, 74, 75, 76, 77, 78, 79, 80, 81, 82, 83, 84, 85] (by decide +kernel) (by decide +kernel)
set_option maxRecDepth 20000 in
theorem gX7_before_X7_rest : GoodIn wsX7_before (wsV RX7 78 RX7 yX7_rest wsX7_rest) := goodIn_app (goodIn_of _ (by decide +kernel)) ggX7_before_X7_rest
set_option maxRecDepth 20000 in
theorem ggX7_before_X7_comesBefore : GoodIn wsX7_before wsX7_comesBefore := goodIn_r _ [58, 13, 14, 59, 60, 61, 7, 62, 37, 63, 64, 65, 66, 67, 68, 69, 70, 71, 72, 73, 74, 75, 76, 77, 78, 79, 80, 81, 82, 83, 84, 85] (by decide +kernel) (by decide +kernel)
set_option maxRecDepth 20000 in
theorem gX7_before_X7_comesBefore : GoodIn wsX7_before (wsV RX7 158 RX7 yX7_comesBefore wsX7_comesBefore) := goodIn_app (goodIn_of _ (by decide +kernel)) ggX7_before_X7_comesBefore
theorem dX7_before_0 : decode cX7_before 0 = .ok (.aload_n 0, 1) := by decide +kernel
theorem dX7_before_1 : decode cX7_before 1 = .ok (.invokevirtual 136, 3) := by decide +kernel
theorem dX7_before_4 : decode cX7_before 4 = .ok (.ifCond .ne 6, 3) := by decide +kernel
theorem dX7_before_7 : decode cX7_before 7 = .ok (.bipush (-3), 2) := by decide +kernel
theorem dX7_before_9 : decode cX7_before 9 = .ok (.ireturn, 1) := by decide +kernel
theorem dX7_before_10 : decode cX7_before 10 = .ok (.aload_n 0, 1) := by decide +kernel
theorem dX7_before_11 : decode cX7_before 11 = .ok (.invokevirtual 124, 3) := by decide +kernel
theorem dX7_before_14 : decode cX7_before 14 = .ok (.aload_n 0, 1) := by decide +kernel
theorem dX7_before_15 : decode cX7_before 15 = .ok (.invokevirtual 117, 3) := by decide +kernel
theorem dX7_before_18 : decode cX7_before 18 = .ok (.iconst 0, 1) := by decide +kernel
theorem dX7_before_19 : decode cX7_before 19 = .ok (.istore_n 1, 1) := by decide +kernel
theorem dX7_before_20 : decode cX7_before 20 = .ok (.iconst 0, 1) := by decide +kernel
theorem dX7_before_21 : decode cX7_before 21 = .ok (.istore_n 2, 1) := by decide +kernel
theorem dX7_before_22 : decode cX7_before 22 = .ok (.iload_n 2, 1) := by decide +kernel
theorem dX7_before_23 : decode cX7_before 23 = .ok (.aload_n 0, 1) := by decide +kernel
theorem dX7_before_24 : decode cX7_before 24 = .ok (.getfield 37, 3) := by decide +kernel
theorem dX7_before_27 : decode cX7_before 27 = .ok (.iconst 0, 1) := by decide +kernel
theorem dX7_before_28 : decode cX7_before 28 = .ok (.iaload, 1) := by decide +kernel
theorem dX7_before_29 : decode cX7_before 29 = .ok (.if_icmp .ge 61, 3) := by decide +kernel
theorem dX7_before_32 : decode cX7_before 32 = .ok (.aload_n 0, 1) := by decide +kernel
theorem dX7_before_33 : decode cX7_before 33 = .ok (.getfield 49, 3) := by decide +kernel
theorem dX7_before_36 : decode cX7_before 36 = .ok (.iload_n 2, 1) := by decide +kernel
theorem dX7_before_37 : decode cX7_before 37 = .ok (.iaload, 1) := by decide +kernel
theorem dX7_before_38 : decode cX7_before 38 = .ok (.iconst 1, 1) := by decide +kernel
theorem dX7_before_39 : decode cX7_before 39 = .ok (.iadd, 1) := by decide +kernel
theorem dX7_before_40 : decode cX7_before 40 = .ok (.istore_n 3, 1) := by decide +kernel
theorem dX7_before_41 : decode cX7_before 41 = .ok (.iload_n 3, 1) := by decide +kernel
theorem dX7_before_42 : decode cX7_before 42 = .ok (.aload_n 0, 1) := by decide +kernel
theorem dX7_before_43 : decode cX7_before 43 = .ok (.iconst 0, 1) := by decide +kernel
theorem dX7_before_44 : decode cX7_before 44 = .ok (.aload_n 0, 1) := by decide +kernel
theorem dX7_before_45 : decode cX7_before 45 = .ok (.getfield 46, 3) := by decide +kernel
theorem dX7_before_48 : decode cX7_before 48 = .ok (.iload_n 2, 1) := by decide +kernel
theorem dX7_before_49 : decode cX7_before 49 = .ok (.iaload, 1) := by decide +kernel
theorem dX7_before_50 : decode cX7_before 50 = .ok (.invokevirtual 78, 3) := by decide +kernel
theorem dX7_before_53 : decode cX7_before 53 = .ok (.if_icmp .gt 31, 3) := by decide +kernel
theorem dX7_before_56 : decode cX7_before 56 = .ok (.iload_n 1, 1) := by decide +kernel
theorem dX7_before_57 : decode cX7_before 57 = .ok (.aload_n 0, 1) := by decide +kernel
theorem dX7_before_58 : decode cX7_before 58 = .ok (.aload_n 0, 1) := by decide +kernel
theorem dX7_before_59 : decode cX7_before 59 = .ok (.getfield 46, 3) := by decide +kernel
theorem dX7_before_62 : decode cX7_before 62 = .ok (.iload_n 2, 1) := by decide +kernel
theorem dX7_before_63 : decode cX7_before 63 = .ok (.iaload, 1) := by decide +kernel
theorem dX7_before_64 : decode cX7_before 64 = .ok (.iload_n 3, 1) := by decide +kernel
theorem dX7_before_65 : decode cX7_before 65 = .ok (.invokevirtual 158, 3) := by decide +kernel
theorem dX7_before_68 : decode cX7_before 68 = .ok (.ifCond .eq 7, 3) := by decide +kernel
theorem dX7_before_71 : decode cX7_before 71 = .ok (.iconst 1, 1) := by decide +kernel
theorem dX7_before_72 : decode cX7_before 72 = .ok (.goto 4, 3) := by decide +kernel
theorem dX7_before_75 : decode cX7_before 75 = .ok (.iconst 0, 1) := by decide +kernel
theorem dX7_before_76 : decode cX7_before 76 = .ok (.iadd, 1) := by decide +kernel
theorem dX7_before_77 : decode cX7_before 77 = .ok (.istore_n 1, 1) := by decide +kernel
theorem dX7_before_78 : decode cX7_before 78 = .ok (.iinc 3 1, 3) := by decide +kernel
theorem dX7_before_81 : decode cX7_before 81 = .ok (.goto (-40), 3) := by decide +kernel
theorem dX7_before_84 : decode cX7_before 84 = .ok (.iinc 2 1, 3) := by decide +kernel
theorem dX7_before_87 : decode cX7_before 87 = .ok (.goto (-65), 3) := by decide +kernel
theorem dX7_before_90 : decode cX7_before 90 = .ok (.iload_n 1, 1) := by decide +kernel
theorem dX7_before_91 : decode cX7_before 91 = .ok (.ireturn, 1) := by decide +kernel
set_option maxRecDepth 20000 in
theorem ggX7_isSame_X7_alike : GoodIn wsX7_isSame wsX7_alike := goodIn_r _ [5, 6, 7, 8, 9, 4, 10, 11, 12, 13, 14, 15, 16, 17, 18, 19, 20, 21, 22, 23, 24, 25, 26, 27, 28, 29, 30, 31, 32, 33, 34, 35] (by decide +kernel) (by decide +kernel)
set_option maxRecDepth 20000 in
theorem gX7_isSame_X7_alike : GoodIn wsX7_isSame (wsV RX7 82 RX7 yX7_alike wsX7_alike) := goodIn_app (goodIn_of _ (by decide +kernel)) ggX7_isSame_X7_alike
theorem dX7_isSame_0 : decode cX7_isSame 0 = .ok (.aload_n 0, 1) := by decide +kernel
theorem dX7_isSame_1 : decode cX7_isSame 1 = .ok (.iconst 0, 1) := by decide +kernel
theorem dX7_isSame_2 : decode cX7_isSame 2 = .ok (.iload_n 1, 1) := by decide +kernel
theorem dX7_isSame_3 : decode cX7_isSame 3 = .ok (.iconst 0, 1) := by decide +kernel
theorem dX7_isSame_4 : decode cX7_isSame 4 = .ok (.iload_n 2, 1) := by decide +kernel
theorem dX7_isSame_5 : decode cX7_isSame 5 = .ok (.invokevirtual 82, 3) := by decide +kernel
theorem dX7_isSame_8 : decode cX7_isSame 8 = .ok (.iload_n 3, 1) := by decide +kernel
theorem dX7_isSame_9 : decode cX7_isSame 9 = .ok (.if_icmp .lt 7, 3) := by decide +kernel
theorem dX7_isSame_12 : decode cX7_isSame 12 = .ok (.iconst 1, 1) := by decide +kernel
theorem dX7_isSame_13 : decode cX7_isSame 13 = .ok (.goto 4, 3) := by decide +kernel
