theorem dX7_isFactor_9 : decode cX7_isFactor 9 = .ok (.if_icmp .ge 21, 3) := by decide +kernel
theorem dX7_isFactor_12 : decode cX7_isFactor 12 = .ok (.aload_n 0, 1) := by decide +kernel
theorem dX7_isFactor_13 : decode cX7_isFactor 13 = .ok (.iload_n 3, 1) := by decide +kernel
theorem dX7_isFactor_14 : decode cX7_isFactor 14 = .ok (.iload_n 1, 1) := by decide +kernel
theorem dX7_isFactor_15 : decode cX7_isFactor 15 = .ok (.iload_n 2, 1) := by decide +kernel
theorem dX7_isFactor_16 : decode cX7_isFactor 16 = .ok (.invokevirtual 133, 3) := by decide +kernel
theorem dX7_isFactor_19 : decode cX7_isFactor 19 = .ok (.ifCond .eq 5, 3) := by decide +kernel
theorem dX7_isFactor_22 : decode cX7_isFactor 22 = .ok (.iconst 1, 1) := by decide +kernel
theorem dX7_isFactor_23 : decode cX7_isFactor 23 = .ok (.ireturn, 1) := by decide +kernel
theorem dX7_isFactor_24 : decode cX7_isFactor 24 = .ok (.iinc 3 1, 3) := by decide +kernel
theorem dX7_isFactor_27 : decode cX7_isFactor 27 = .ok (.goto (-25), 3) := by decide +kernel
theorem dX7_isFactor_30 : decode cX7_isFactor 30 = .ok (.iconst 0, 1) := by decide +kernel
theorem dX7_isFactor_31 : decode cX7_isFactor 31 = .ok (.ireturn, 1) := by decide +kernel
set_option maxRecDepth 20000 in
theorem ggX7_apart_X7_stands : GoodIn wsX7_apart wsX7_stands := goodIn_r _ [7, 8, 9, 10, 11, 6, 12, 13, 14, 15, 16, 17, 18, 19, 20, 21, 22, 23, 24, 25, 26, 27, 28, 29, 30, 31, 32, 33, 34, 35, 36, 37, 38, 39, 40, 41, 42] (by decide +kernel) (by decide +kernel)
set_option maxRecDepth 20000 in
theorem gX7_apart_X7_stands : GoodIn wsX7_apart (wsV RX7 133 RX7 yX7_stands wsX7_stands) := goodIn_app (goodIn_of _ (by decide +kernel)) ggX7_apart_X7_stands
theorem dX7_apart_0 : decode cX7_apart 0 = .ok (.iconst 0, 1) := by decide +kernel
theorem dX7_apart_1 : decode cX7_apart 1 = .ok (.istore_n 1, 1) := by decide +kernel
theorem dX7_apart_2 : decode cX7_apart 2 = .ok (.iconst 0, 1) := by decide +kernel
theorem dX7_apart_3 : decode cX7_apart 3 = .ok (.istore_n 2, 1) := by decide +kernel
theorem dX7_apart_4 : decode cX7_apart 4 = .ok (.iconst 0, 1) := by decide +kernel
theorem dX7_apart_5 : decode cX7_apart 5 = .ok (.istore_n 3, 1) := by decide +kernel
theorem dX7_apart_6 : decode cX7_apart 6 = .ok (.iload_n 3, 1) := by decide +kernel
theorem dX7_apart_7 : decode cX7_apart 7 = .ok (.aload_n 0, 1) := by decide +kernel
theorem dX7_apart_8 : decode cX7_apart 8 = .ok (.getfield 37, 3) := by decide +kernel
theorem dX7_apart_11 : decode cX7_apart 11 = .ok (.iconst 0, 1) := by decide +kernel
theorem dX7_apart_12 : decode cX7_apart 12 = .ok (.iaload, 1) := by decide +kernel
theorem dX7_apart_13 : decode cX7_apart 13 = .ok (.if_icmp .ge 37, 3) := by decide +kernel
theorem dX7_apart_16 : decode cX7_apart 16 = .ok (.iload_n 3, 1) := by decide +kernel
theorem dX7_apart_17 : decode cX7_apart 17 = .ok (.iload_n 2, 1) := by decide +kernel
theorem dX7_apart_18 : decode cX7_apart 18 = .ok (.if_icmp .lt 26, 3) := by decide +kernel
theorem dX7_apart_21 : decode cX7_apart 21 = .ok (.aload_n 0, 1) := by decide +kernel
theorem dX7_apart_22 : decode cX7_apart 22 = .ok (.iload_n 3, 1) := by decide +kernel
theorem dX7_apart_23 : decode cX7_apart 23 = .ok (.iconst 0, 1) := by decide +kernel
theorem dX7_apart_24 : decode cX7_apart 24 = .ok (.aload_n 0, 1) := by decide +kernel
theorem dX7_apart_25 : decode cX7_apart 25 = .ok (.getfield 104, 3) := by decide +kernel
theorem dX7_apart_28 : decode cX7_apart 28 = .ok (.invokevirtual 133, 3) := by decide +kernel
theorem dX7_apart_31 : decode cX7_apart 31 = .ok (.ifCond .eq 13, 3) := by decide +kernel
theorem dX7_apart_34 : decode cX7_apart 34 = .ok (.iinc 1 1, 3) := by decide +kernel
theorem dX7_apart_37 : decode cX7_apart 37 = .ok (.iload_n 3, 1) := by decide +kernel
theorem dX7_apart_38 : decode cX7_apart 38 = .ok (.aload_n 0, 1) := by decide +kernel
theorem dX7_apart_39 : decode cX7_apart 39 = .ok (.getfield 104, 3) := by decide +kernel
theorem dX7_apart_42 : decode cX7_apart 42 = .ok (.iadd, 1) := by decide +kernel
theorem dX7_apart_43 : decode cX7_apart 43 = .ok (.istore_n 2, 1) := by decide +kernel
theorem dX7_apart_44 : decode cX7_apart 44 = .ok (.iinc 3 1, 3) := by decide +kernel
theorem dX7_apart_47 : decode cX7_apart 47 = .ok (.goto (-41), 3) := by decide +kernel
theorem dX7_apart_50 : decode cX7_apart 50 = .ok (.iload_n 1, 1) := by decide +kernel
theorem dX7_apart_51 : decode cX7_apart 51 = .ok (.ireturn, 1) := by decide +kernel
set_option maxRecDepth 20000 in
theorem ggX7_occurs_X7_in : GoodIn wsX7_occurs wsX7_in := goodIn_r _ [7] (by decide +kernel) (by decide +kernel)
set_option maxRecDepth 20000 in
theorem gX7_occurs_X7_in : GoodIn wsX7_occurs (va_wsS RX7 97 yX7_in wsX7_in) := goodIn_app (goodIn_of _ (by decide +kernel)) ggX7_occurs_X7_in
set_option maxRecDepth 20000 in
theorem ggX7_occurs_X7_isPattern : GoodIn wsX7_occurs wsX7_isPattern := goodIn_r _ [11, 12, 13, 14, 6, 15, 2, 16, 17, 18, 19, 20, 4, 5, 7, 82, 83, 84, 85, 86, 87, 88, 89, 90, 91, 92, 93, 94, 95, 96, 97, 98, 99, 100, 101, 102, 103, 104] (by decide +kernel) (by decide +kernel)
set_option maxRecDepth 20000 in
theorem gX7_occurs_X7_isPattern : GoodIn wsX7_occurs (wsV RX7 136 RX7 yX7_isPattern wsX7_isPattern) := goodIn_app (goodIn_of _ (by decide +kernel)) ggX7_occurs_X7_isPattern
set_option maxRecDepth 20000 in
theorem ggX7_occurs_X7_layPresent : GoodIn wsX7_occurs wsX7_layPresent := goodIn_r _ [24, 25, 26, 27, 28, 6, 29, 30, 31, 32, 1, 33, 34, 35, 36, 3, 82, 83, 84, 85, 86, 87, 88, 89, 90, 91, 92, 93, 94, 95, 96, 97, 98, 99, 100, 101, 102, 103, 104] (by decide +kernel) (by decide +kernel)
set_option maxRecDepth 20000 in
theorem gX7_occurs_X7_layPresent : GoodIn wsX7_occurs (wsV RX7 124 RX7 yX7_layPresent wsX7_layPresent) := goodIn_app (goodIn_of _ (by decide +kernel)) ggX7_occurs_X7_layPresent
set_option maxRecDepth 20000 in
theorem ggX7_occurs_X7_stands : GoodIn wsX7_occurs wsX7_stands := goodIn_r _ [40, 16, 41, 42, 43, 6, 44, 35, 3, 45, 46, 47, 48, 36, 82, 83, 84, 85, 86, 87, 88, 89, 90, 91, 92, 93, 94, 95, 96, 97, 98, 99, 100, 101, 102, 103, 104] (by decide +kernel) (by decide +kernel)
set_option maxRecDepth 20000 in
theorem gX7_occurs_X7_stands : GoodIn wsX7_occurs (wsV RX7 133 RX7 yX7_stands wsX7_stands) := goodIn_app (goodIn_of _ (by decide +kernel)) ggX7_occurs_X7_stands
set_option maxRecDepth 20000 in
theorem ggX7_occurs_X7_layClasses : GoodIn wsX7_occurs wsX7_layClasses := goodIn_r _ [52, 53, 1, 34, 3, 54, 55, 56, 57, 58, 59, 60, 6, 61, 62, 63, 64, 65, 66, 67, 68, 69, 36, 41, 42, 43, 44, 35, 70, 71, 72, 73, 82, 83, 84, 85, 86, 87, 88, 89, 90, 91, 92, 93, 94, 95, 96, 97, 98, 99, 100, 101, 102, 103, 104] (by decide +kernel) (by decide +kernel)
set_option maxRecDepth 20000 in
theorem gX7_occurs_X7_layClasses : GoodIn wsX7_occurs (wsV RX7 140 RX7 yX7_layClasses wsX7_layClasses) := goodIn_app (goodIn_of _ (by decide +kernel)) ggX7_occurs_X7_layClasses
set_option maxRecDepth 20000 in
theorem ggX7_occurs_X7_classAt : GoodIn wsX7_occurs wsX7_classAt := goodIn_r _ [77, 53, 54, 55, 57, 58, 59, 60, 6, 61, 62, 63, 64, 65, 66, 67, 68, 69, 36, 41, 42, 43, 44, 35, 3, 4, 5, 7, 82, 83, 84, 85, 86, 87, 88, 89, 90, 91, 92, 93, 94, 95, 96, 97, 98, 99, 100, 101, 102, 103, 104] (by decide +kernel) (by decide +kernel)
set_option maxRecDepth 20000 in
theorem gX7_occurs_X7_classAt : GoodIn wsX7_occurs (wsV RX7 143 RX7 yX7_classAt wsX7_classAt) := goodIn_app (goodIn_of _ (by decide +kernel)) ggX7_occurs_X7_classAt
set_option maxRecDepth 20000 in
theorem ggX7_occurs_X7_apart : GoodIn wsX7_occurs wsX7_apart := goodIn_r _ [81, 1, 2, 37, 38, 39, 6, 40, 16, 41, 42, 43, 44, 35, 3, 45, 46, 47, 48, 36, 82, 83, 84, 85, 86, 87, 88, 89, 90, 91, 92, 93, 94, 95, 96, 97, 98, 99, 100, 101, 102, 103, 104] (by decide +kernel) (by decide +kernel)
set_option maxRecDepth 20000 in
theorem gX7_occurs_X7_apart : GoodIn wsX7_occurs (wsV RX7 146 RX7 yX7_apart wsX7_apart) := goodIn_app (goodIn_of _ (by decide +kernel)) ggX7_occurs_X7_apart
theorem dX7_occurs_0 : decode cX7_occurs 0 = .ok (.iload_n 1, 1) := by decide +kernel
theorem dX7_occurs_1 : decode cX7_occurs 1 = .ok (.iconst 0, 1) := by decide +kernel
theorem dX7_occurs_2 : decode cX7_occurs 2 = .ok (.iconst 3, 1) := by decide +kernel
theorem dX7_occurs_3 : decode cX7_occurs 3 = .ok (.invokestatic 97, 3) := by decide +kernel
theorem dX7_occurs_6 : decode cX7_occurs 6 = .ok (.ifCond .ne 6, 3) := by decide +kernel
theorem dX7_occurs_9 : decode cX7_occurs 9 = .ok (.bipush (-2), 2) := by decide +kernel
theorem dX7_occurs_11 : decode cX7_occurs 11 = .ok (.ireturn, 1) := by decide +kernel
theorem dX7_occurs_12 : decode cX7_occurs 12 = .ok (.aload_n 0, 1) := by decide +kernel
theorem dX7_occurs_13 : decode cX7_occurs 13 = .ok (.invokevirtual 136, 3) := by decide +kernel
theorem dX7_occurs_16 : decode cX7_occurs 16 = .ok (.ifCond .ne 6, 3) := by decide +kernel
theorem dX7_occurs_19 : decode cX7_occurs 19 = .ok (.bipush (-3), 2) := by decide +kernel
theorem dX7_occurs_21 : decode cX7_occurs 21 = .ok (.ireturn, 1) := by decide +kernel
theorem dX7_occurs_22 : decode cX7_occurs 22 = .ok (.aload_n 0, 1) := by decide +kernel
theorem dX7_occurs_23 : decode cX7_occurs 23 = .ok (.invokevirtual 124, 3) := by decide +kernel
theorem dX7_occurs_26 : decode cX7_occurs 26 = .ok (.iconst 0, 1) := by decide +kernel
theorem dX7_occurs_27 : decode cX7_occurs 27 = .ok (.istore_n 2, 1) := by decide +kernel
theorem dX7_occurs_28 : decode cX7_occurs 28 = .ok (.iconst 0, 1) := by decide +kernel
theorem dX7_occurs_29 : decode cX7_occurs 29 = .ok (.istore_n 3, 1) := by decide +kernel
theorem dX7_occurs_30 : decode cX7_occurs 30 = .ok (.bipush (-6), 2) := by decide +kernel
theorem dX7_occurs_32 : decode cX7_occurs 32 = .ok (.istore 4, 2) := by decide +kernel
theorem dX7_occurs_34 : decode cX7_occurs 34 = .ok (.aload_n 0, 1) := by decide +kernel
theorem dX7_occurs_35 : decode cX7_occurs 35 = .ok (.getfield 37, 3) := by decide +kernel
theorem dX7_occurs_38 : decode cX7_occurs 38 = .ok (.iconst 0, 1) := by decide +kernel
theorem dX7_occurs_39 : decode cX7_occurs 39 = .ok (.iaload, 1) := by decide +kernel
theorem dX7_occurs_40 : decode cX7_occurs 40 = .ok (.iconst 1, 1) := by decide +kernel
theorem dX7_occurs_41 : decode cX7_occurs 41 = .ok (.isub, 1) := by decide +kernel
theorem dX7_occurs_42 : decode cX7_occurs 42 = .ok (.istore 5, 2) := by decide +kernel
theorem dX7_occurs_44 : decode cX7_occurs 44 = .ok (.iload 5, 2) := by decide +kernel
theorem dX7_occurs_46 : decode cX7_occurs 46 = .ok (.ifCond .lt 42, 3) := by decide +kernel
theorem dX7_occurs_49 : decode cX7_occurs 49 = .ok (.aload_n 0, 1) := by decide +kernel
theorem dX7_occurs_50 : decode cX7_occurs 50 = .ok (.iload 5, 2) := by decide +kernel
theorem dX7_occurs_52 : decode cX7_occurs 52 = .ok (.iconst 0, 1) := by decide +kernel
theorem dX7_occurs_53 : decode cX7_occurs 53 = .ok (.aload_n 0, 1) := by decide +kernel
theorem dX7_occurs_54 : decode cX7_occurs 54 = .ok (.getfield 104, 3) := by decide +kernel
theorem dX7_occurs_57 : decode cX7_occurs 57 = .ok (.invokevirtual 133, 3) := by decide +kernel
theorem dX7_occurs_60 : decode cX7_occurs 60 = .ok (.ifCond .eq 22, 3) := by decide +kernel
theorem dX7_occurs_63 : decode cX7_occurs 63 = .ok (.iinc 2 1, 3) := by decide +kernel
theorem dX7_occurs_66 : decode cX7_occurs 66 = .ok (.iload_n 3, 1) := by decide +kernel
theorem dX7_occurs_67 : decode cX7_occurs 67 = .ok (.iconst 1, 1) := by decide +kernel
theorem dX7_occurs_68 : decode cX7_occurs 68 = .ok (.aload_n 0, 1) := by decide +kernel
theorem dX7_occurs_69 : decode cX7_occurs 69 = .ok (.getfield 28, 3) := by decide +kernel
theorem dX7_occurs_72 : decode cX7_occurs 72 = .ok (.iload 5, 2) := by decide +kernel
theorem dX7_occurs_74 : decode cX7_occurs 74 = .ok (.iaload, 1) := by decide +kernel
theorem dX7_occurs_75 : decode cX7_occurs 75 = .ok (.ishl, 1) := by decide +kernel
theorem dX7_occurs_76 : decode cX7_occurs 76 = .ok (.ior, 1) := by decide +kernel
theorem dX7_occurs_77 : decode cX7_occurs 77 = .ok (.istore_n 3, 1) := by decide +kernel
theorem dX7_occurs_78 : decode cX7_occurs 78 = .ok (.iload 5, 2) := by decide +kernel
theorem dX7_occurs_80 : decode cX7_occurs 80 = .ok (.istore 4, 2) := by decide +kernel
theorem dX7_occurs_82 : decode cX7_occurs 82 = .ok (.iinc 5 (-1), 3) := by decide +kernel
theorem dX7_occurs_85 : decode cX7_occurs 85 = .ok (.goto (-41), 3) := by decide +kernel
theorem dX7_occurs_88 : decode cX7_occurs 88 = .ok (.iload_n 1, 1) := by decide +kernel
theorem dX7_occurs_89 : decode cX7_occurs 89 = .ok (.tableswitch 56 0 2 #[27, 29, 31], 27) := by decide +kernel
theorem dX7_occurs_116 : decode cX7_occurs 116 = .ok (.iload_n 2, 1) := by decide +kernel
theorem dX7_occurs_117 : decode cX7_occurs 117 = .ok (.ireturn, 1) := by decide +kernel
theorem dX7_occurs_118 : decode cX7_occurs 118 = .ok (.iload_n 3, 1) := by decide +kernel
theorem dX7_occurs_119 : decode cX7_occurs 119 = .ok (.ireturn, 1) := by decide +kernel
theorem dX7_occurs_120 : decode cX7_occurs 120 = .ok (.aload_n 0, 1) := by decide +kernel
theorem dX7_occurs_121 : decode cX7_occurs 121 = .ok (.invokevirtual 140, 3) := by decide +kernel
theorem dX7_occurs_124 : decode cX7_occurs 124 = .ok (.iload 4, 2) := by decide +kernel
theorem dX7_occurs_126 : decode cX7_occurs 126 = .ok (.ifCond .ge 8, 3) := by decide +kernel
theorem dX7_occurs_129 : decode cX7_occurs 129 = .ok (.bipush (-6), 2) := by decide +kernel
theorem dX7_occurs_131 : decode cX7_occurs 131 = .ok (.goto 13, 3) := by decide +kernel
theorem dX7_occurs_134 : decode cX7_occurs 134 = .ok (.aload_n 0, 1) := by decide +kernel
theorem dX7_occurs_135 : decode cX7_occurs 135 = .ok (.iload 4, 2) := by decide +kernel
theorem dX7_occurs_137 : decode cX7_occurs 137 = .ok (.aload_n 0, 1) := by decide +kernel
theorem dX7_occurs_138 : decode cX7_occurs 138 = .ok (.getfield 104, 3) := by decide +kernel
theorem dX7_occurs_141 : decode cX7_occurs 141 = .ok (.invokevirtual 143, 3) := by decide +kernel
theorem dX7_occurs_144 : decode cX7_occurs 144 = .ok (.ireturn, 1) := by decide +kernel
theorem dX7_occurs_145 : decode cX7_occurs 145 = .ok (.aload_n 0, 1) := by decide +kernel
theorem dX7_occurs_146 : decode cX7_occurs 146 = .ok (.invokevirtual 146, 3) := by decide +kernel
theorem dX7_occurs_149 : decode cX7_occurs 149 = .ok (.ireturn, 1) := by decide +kernel
theorem dX7_asEnd_0 : decode cX7_asEnd 0 = .ok (.bipush 100, 2) := by decide +kernel
theorem dX7_asEnd_2 : decode cX7_asEnd 2 = .ok (.aload_n 0, 1) := by decide +kernel
theorem dX7_asEnd_3 : decode cX7_asEnd 3 = .ok (.getfield 28, 3) := by decide +kernel
theorem dX7_asEnd_6 : decode cX7_asEnd 6 = .ok (.iload_n 1, 1) := by decide +kernel
theorem dX7_asEnd_7 : decode cX7_asEnd 7 = .ok (.iaload, 1) := by decide +kernel
theorem dX7_asEnd_8 : decode cX7_asEnd 8 = .ok (.imul, 1) := by decide +kernel
theorem dX7_asEnd_9 : decode cX7_asEnd 9 = .ok (.iload_n 1, 1) := by decide +kernel
theorem dX7_asEnd_10 : decode cX7_asEnd 10 = .ok (.iadd, 1) := by decide +kernel
theorem dX7_asEnd_11 : decode cX7_asEnd 11 = .ok (.aload_n 0, 1) := by decide +kernel
theorem dX7_asEnd_12 : decode cX7_asEnd 12 = .ok (.getfield 31, 3) := by decide +kernel
theorem dX7_asEnd_15 : decode cX7_asEnd 15 = .ok (.aload_n 0, 1) := by decide +kernel
theorem dX7_asEnd_16 : decode cX7_asEnd 16 = .ok (.getfield 28, 3) := by decide +kernel
theorem dX7_asEnd_19 : decode cX7_asEnd 19 = .ok (.iload_n 1, 1) := by decide +kernel
theorem dX7_asEnd_20 : decode cX7_asEnd 20 = .ok (.iaload, 1) := by decide +kernel
theorem dX7_asEnd_21 : decode cX7_asEnd 21 = .ok (.iaload, 1) := by decide +kernel
theorem dX7_asEnd_22 : decode cX7_asEnd 22 = .ok (.isub, 1) := by decide +kernel
theorem dX7_asEnd_23 : decode cX7_asEnd 23 = .ok (.ireturn, 1) := by decide +kernel
set_option maxRecDepth 20000 in
theorem ggX7_end_X7_isPattern : GoodIn wsX7_end wsX7_isPattern := goodIn_r _ [7, 8, 9, 10, 6, 11, 2, 12, 13, 14, 15, 16, 17, 18, 19, 53, 54, 55, 56, 57, 58, 59, 60, 61, 62, 63, 64, 65, 66, 67, 68, 69, 70, 71, 72, 73, 74, 75] (by decide +kernel) (by decide +kernel)
set_option maxRecDepth 20000 in
theorem gX7_end_X7_isPattern : GoodIn wsX7_end (wsV RX7 136 RX7 yX7_isPattern wsX7_isPattern) := goodIn_app (goodIn_of _ (by decide +kernel)) ggX7_end_X7_isPattern
set_option maxRecDepth 20000 in
theorem ggX7_end_X7_layPresent : GoodIn wsX7_end wsX7_layPresent := goodIn_r _ [23, 24, 25, 26, 27, 6, 28, 29, 30, 31, 1, 32, 33, 34, 35, 36, 53, 54, 55, 56, 57, 58, 59, 60, 61, 62, 63, 64, 65, 66, 67, 68, 69, 70, 71, 72, 73, 74, 75] (by decide +kernel) (by decide +kernel)
set_option maxRecDepth 20000 in
theorem gX7_end_X7_layPresent : GoodIn wsX7_end (wsV RX7 124 RX7 yX7_layPresent wsX7_layPresent) := goodIn_app (goodIn_of _ (by decide +kernel)) ggX7_end_X7_layPresent
set_option maxRecDepth 20000 in
theorem ggX7_end_X7_stands : GoodIn wsX7_end wsX7_stands := goodIn_r _ [40, 12, 41, 42, 43, 6, 44, 34, 36, 45, 46, 47, 48, 35, 53, 54, 55, 56, 57, 58, 59, 60, 61, 62, 63, 64, 65, 66, 67, 68, 69, 70, 71, 72, 73, 74, 75] (by decide +kernel) (by decide +kernel)
set_option maxRecDepth 20000 in
theorem gX7_end_X7_stands : GoodIn wsX7_end (wsV RX7 133 RX7 yX7_stands wsX7_stands) := goodIn_app (goodIn_of _ (by decide +kernel)) ggX7_end_X7_stands
set_option maxRecDepth 20000 in
theorem ggX7_end_X7_asEnd : GoodIn wsX7_end wsX7_asEnd := goodIn_r _ [52, 36, 33, 53, 54, 55, 56, 57, 58, 59, 60, 61, 62, 63, 64, 65, 66, 67, 68, 69, 70, 71, 72, 73, 74, 75] (by decide +kernel) (by decide +kernel)
set_option maxRecDepth 20000 in
theorem gX7_end_X7_asEnd : GoodIn wsX7_end (wsV RX7 149 RX7 yX7_asEnd wsX7_asEnd) := goodIn_app (goodIn_of _ (by decide +kernel)) ggX7_end_X7_asEnd
theorem dX7_end_0 : decode cX7_end 0 = .ok (.aload_n 0, 1) := by decide +kernel
theorem dX7_end_1 : decode cX7_end 1 = .ok (.invokevirtual 136, 3) := by decide +kernel
theorem dX7_end_4 : decode cX7_end 4 = .ok (.ifCond .ne 6, 3) := by decide +kernel
theorem dX7_end_7 : decode cX7_end 7 = .ok (.bipush (-3), 2) := by decide +kernel
theorem dX7_end_9 : decode cX7_end 9 = .ok (.ireturn, 1) := by decide +kernel
theorem dX7_end_10 : decode cX7_end 10 = .ok (.aload_n 0, 1) := by decide +kernel
theorem dX7_end_11 : decode cX7_end 11 = .ok (.invokevirtual 124, 3) := by decide +kernel
theorem dX7_end_14 : decode cX7_end 14 = .ok (.iconst 0, 1) := by decide +kernel
theorem dX7_end_15 : decode cX7_end 15 = .ok (.istore_n 2, 1) := by decide +kernel
theorem dX7_end_16 : decode cX7_end 16 = .ok (.iconst 0, 1) := by decide +kernel
theorem dX7_end_17 : decode cX7_end 17 = .ok (.istore_n 3, 1) := by decide +kernel
theorem dX7_end_18 : decode cX7_end 18 = .ok (.iload_n 3, 1) := by decide +kernel
theorem dX7_end_19 : decode cX7_end 19 = .ok (.aload_n 0, 1) := by decide +kernel
theorem dX7_end_20 : decode cX7_end 20 = .ok (.getfield 37, 3) := by decide +kernel
theorem dX7_end_23 : decode cX7_end 23 = .ok (.iconst 0, 1) := by decide +kernel
theorem dX7_end_24 : decode cX7_end 24 = .ok (.iaload, 1) := by decide +kernel
theorem dX7_end_25 : decode cX7_end 25 = .ok (.if_icmp .ge 43, 3) := by decide +kernel
theorem dX7_end_28 : decode cX7_end 28 = .ok (.aload_n 0, 1) := by decide +kernel
theorem dX7_end_29 : decode cX7_end 29 = .ok (.iload_n 3, 1) := by decide +kernel
theorem dX7_end_30 : decode cX7_end 30 = .ok (.iconst 0, 1) := by decide +kernel
theorem dX7_end_31 : decode cX7_end 31 = .ok (.aload_n 0, 1) := by decide +kernel
theorem dX7_end_32 : decode cX7_end 32 = .ok (.getfield 104, 3) := by decide +kernel
theorem dX7_end_35 : decode cX7_end 35 = .ok (.invokevirtual 133, 3) := by decide +kernel
theorem dX7_end_38 : decode cX7_end 38 = .ok (.ifCond .eq 24, 3) := by decide +kernel
theorem dX7_end_41 : decode cX7_end 41 = .ok (.iload_n 2, 1) := by decide +kernel
theorem dX7_end_42 : decode cX7_end 42 = .ok (.iload_n 1, 1) := by decide +kernel
theorem dX7_end_43 : decode cX7_end 43 = .ok (.if_icmp .ne 16, 3) := by decide +kernel
theorem dX7_end_46 : decode cX7_end 46 = .ok (.aload_n 0, 1) := by decide +kernel
theorem dX7_end_47 : decode cX7_end 47 = .ok (.iload_n 3, 1) := by decide +kernel
theorem dX7_end_48 : decode cX7_end 48 = .ok (.aload_n 0, 1) := by decide +kernel
theorem dX7_end_49 : decode cX7_end 49 = .ok (.getfield 104, 3) := by decide +kernel
theorem dX7_end_52 : decode cX7_end 52 = .ok (.iadd, 1) := by decide +kernel
theorem dX7_end_53 : decode cX7_end 53 = .ok (.iconst 1, 1) := by decide +kernel
theorem dX7_end_54 : decode cX7_end 54 = .ok (.isub, 1) := by decide +kernel
theorem dX7_end_55 : decode cX7_end 55 = .ok (.invokevirtual 149, 3) := by decide +kernel
theorem dX7_end_58 : decode cX7_end 58 = .ok (.ireturn, 1) := by decide +kernel
theorem dX7_end_59 : decode cX7_end 59 = .ok (.iinc 2 1, 3) := by decide +kernel
theorem dX7_end_62 : decode cX7_end 62 = .ok (.iinc 3 1, 3) := by decide +kernel
theorem dX7_end_65 : decode cX7_end 65 = .ok (.goto (-47), 3) := by decide +kernel
theorem dX7_end_68 : decode cX7_end 68 = .ok (.bipush (-6), 2) := by decide +kernel
theorem dX7_end_70 : decode cX7_end 70 = .ok (.ireturn, 1) := by decide +kernel
set_option maxRecDepth 20000 in
theorem ggX7_matches_X7_isPattern : GoodIn wsX7_matches wsX7_isPattern := goodIn_r _ [6, 7, 8, 9, 5, 10, 1, 11, 12, 13, 14, 15, 16, 17, 18, 53, 54, 55, 56, 57, 58, 59, 60, 61, 62, 63, 64, 65, 66, 67, 68, 69, 70, 71, 72, 73, 74, 75] (by decide +kernel) (by decide +kernel)
set_option maxRecDepth 20000 in
theorem gX7_matches_X7_isPattern : GoodIn wsX7_matches (wsV RX7 136 RX7 yX7_isPattern wsX7_isPattern) := goodIn_app (goodIn_of _ (by decide +kernel)) ggX7_matches_X7_isPattern
set_option maxRecDepth 20000 in
theorem ggX7_matches_X7_in : GoodIn wsX7_matches wsX7_in := goodIn_r _ [18] (by decide +kernel) (by decide +kernel)
set_option maxRecDepth 20000 in
theorem gX7_matches_X7_in : GoodIn wsX7_matches (va_wsS RX7 97 yX7_in wsX7_in) := goodIn_app (goodIn_of _ (by decide +kernel)) ggX7_matches_X7_in
set_option maxRecDepth 20000 in
theorem ggX7_matches_X7_layPresent : GoodIn wsX7_matches wsX7_layPresent := goodIn_r _ [22, 23, 24, 25, 26, 5, 27, 28, 29, 30, 31, 32, 33, 34, 35, 36, 53, 54, 55, 56, 57, 58, 59, 60, 61, 62, 63, 64, 65, 66, 67, 68, 69, 70, 71, 72, 73, 74, 75] (by decide +kernel) (by decide +kernel)
set_option maxRecDepth 20000 in
theorem gX7_matches_X7_layPresent : GoodIn wsX7_matches (wsV RX7 124 RX7 yX7_layPresent wsX7_layPresent) := goodIn_app (goodIn_of _ (by decide +kernel)) ggX7_matches_X7_layPresent
set_option maxRecDepth 20000 in
theorem ggX7_matches_X7_isFactor : GoodIn wsX7_matches wsX7_isFactor := goodIn_r _ [40, 31, 41, 42, 43, 5, 44, 11, 45, 46, 47, 48, 34, 36, 49, 50, 51, 52, 35, 53, 54, 55, 56, 57, 58, 59, 60, 61, 62, 63, 64, 65, 66, 67, 68, 69, 70, 71, 72, 73, 74, 75] (by decide +kernel) (by decide +kernel)
set_option maxRecDepth 20000 in
theorem gX7_matches_X7_isFactor : GoodIn wsX7_matches (wsV RX7 152 RX7 yX7_isFactor wsX7_isFactor) := goodIn_app (goodIn_of _ (by decide +kernel)) ggX7_matches_X7_isFactor
theorem dX7_matches_0 : decode cX7_matches 0 = .ok (.aload_n 0, 1) := by decide +kernel
theorem dX7_matches_1 : decode cX7_matches 1 = .ok (.invokevirtual 136, 3) := by decide +kernel
theorem dX7_matches_4 : decode cX7_matches 4 = .ok (.ifCond .ne 6, 3) := by decide +kernel
theorem dX7_matches_7 : decode cX7_matches 7 = .ok (.bipush (-3), 2) := by decide +kernel
theorem dX7_matches_9 : decode cX7_matches 9 = .ok (.ireturn, 1) := by decide +kernel
theorem dX7_matches_10 : decode cX7_matches 10 = .ok (.iload_n 1, 1) := by decide +kernel
theorem dX7_matches_11 : decode cX7_matches 11 = .ok (.iconst 1, 1) := by decide +kernel
theorem dX7_matches_12 : decode cX7_matches 12 = .ok (.aload_n 0, 1) := by decide +kernel
theorem dX7_matches_13 : decode cX7_matches 13 = .ok (.getfield 104, 3) := by decide +kernel
theorem dX7_matches_16 : decode cX7_matches 16 = .ok (.invokestatic 97, 3) := by decide +kernel
theorem dX7_matches_19 : decode cX7_matches 19 = .ok (.ifCond .ne 6, 3) := by decide +kernel
theorem dX7_matches_22 : decode cX7_matches 22 = .ok (.bipush (-2), 2) := by decide +kernel
theorem dX7_matches_24 : decode cX7_matches 24 = .ok (.ireturn, 1) := by decide +kernel
theorem dX7_matches_25 : decode cX7_matches 25 = .ok (.aload_n 0, 1) := by decide +kernel
theorem dX7_matches_26 : decode cX7_matches 26 = .ok (.invokevirtual 124, 3) := by decide +kernel
theorem dX7_matches_29 : decode cX7_matches 29 = .ok (.iload_n 1, 1) := by decide +kernel
theorem dX7_matches_30 : decode cX7_matches 30 = .ok (.istore_n 2, 1) := by decide +kernel
theorem dX7_matches_31 : decode cX7_matches 31 = .ok (.iload_n 2, 1) := by decide +kernel
theorem dX7_matches_32 : decode cX7_matches 32 = .ok (.ifCond .le 20, 3) := by decide +kernel
theorem dX7_matches_35 : decode cX7_matches 35 = .ok (.aload_n 0, 1) := by decide +kernel
theorem dX7_matches_36 : decode cX7_matches 36 = .ok (.iload_n 1, 1) := by decide +kernel
theorem dX7_matches_37 : decode cX7_matches 37 = .ok (.iload_n 2, 1) := by decide +kernel
theorem dX7_matches_38 : decode cX7_matches 38 = .ok (.isub, 1) := by decide +kernel
theorem dX7_matches_39 : decode cX7_matches 39 = .ok (.iload_n 2, 1) := by decide +kernel
theorem dX7_matches_40 : decode cX7_matches 40 = .ok (.invokevirtual 152, 3) := by decide +kernel
theorem dX7_matches_43 : decode cX7_matches 43 = .ok (.ifCond .ne 9, 3) := by decide +kernel
theorem dX7_matches_46 : decode cX7_matches 46 = .ok (.iinc 2 (-1), 3) := by decide +kernel
theorem dX7_matches_49 : decode cX7_matches 49 = .ok (.goto (-18), 3) := by decide +kernel
theorem dX7_matches_52 : decode cX7_matches 52 = .ok (.iload_n 2, 1) := by decide +kernel
theorem dX7_matches_53 : decode cX7_matches 53 = .ok (.ireturn, 1) := by decide +kernel
set_option maxRecDepth 20000 in
theorem ggX7_parts_X7_isPattern : GoodIn wsX7_parts wsX7_isPattern := goodIn_r _ [6, 7, 8, 9, 5, 10, 1, 11, 12, 13, 14, 15, 16, 17, 18, 53, 54, 55, 56, 57, 58, 59, 60, 61, 62, 63, 64, 65, 66, 67, 68, 69, 70, 71, 72, 73, 74, 75] (by decide +kernel) (by decide +kernel)
set_option maxRecDepth 20000 in
theorem gX7_parts_X7_isPattern : GoodIn wsX7_parts (wsV RX7 136 RX7 yX7_isPattern wsX7_isPattern) := goodIn_app (goodIn_of _ (by decide +kernel)) ggX7_parts_X7_isPattern
set_option maxRecDepth 20000 in
theorem ggX7_parts_X7_layPresent : GoodIn wsX7_parts wsX7_layPresent := goodIn_r _ [22, 23, 24, 25, 26, 5, 27, 28, 29, 30, 31, 32, 33, 34, 35, 36, 53, 54, 55, 56, 57, 58, 59, 60, 61, 62, 63, 64, 65, 66, 67, 68, 69, 70, 71, 72, 73, 74, 75] (by decide +kernel) (by decide +kernel)
set_option maxRecDepth 20000 in
theorem gX7_parts_X7_layPresent : GoodIn wsX7_parts (wsV RX7 124 RX7 yX7_layPresent wsX7_layPresent) := goodIn_app (goodIn_of _ (by decide +kernel)) ggX7_parts_X7_layPresent
set_option maxRecDepth 20000 in
theorem ggX7_parts_X7_isFactor : GoodIn wsX7_parts wsX7_isFactor := goodIn_r _ [40, 31, 41, 42, 43, 5, 44, 11, 45, 46, 47, 48, 34, 36, 49, 50, 51, 52, 35, 53, 54, 55, 56, 57, 58, 59, 60, 61, 62, 63, 64, 65, 66, 67, 68, 69, 70, 71, 72, 73, 74, 75] (by decide +kernel) (by decide +kernel)
set_option maxRecDepth 20000 in
theorem gX7_parts_X7_isFactor : GoodIn wsX7_parts (wsV RX7 152 RX7 yX7_isFactor wsX7_isFactor) := goodIn_app (goodIn_of _ (by decide +kernel)) ggX7_parts_X7_isFactor
theorem dX7_parts_0 : decode cX7_parts 0 = .ok (.aload_n 0, 1) := by decide +kernel
theorem dX7_parts_1 : decode cX7_parts 1 = .ok (.invokevirtual 136, 3) := by decide +kernel
theorem dX7_parts_4 : decode cX7_parts 4 = .ok (.ifCond .ne 6, 3) := by decide +kernel
theorem dX7_parts_7 : decode cX7_parts 7 = .ok (.bipush (-3), 2) := by decide +kernel
theorem dX7_parts_9 : decode cX7_parts 9 = .ok (.ireturn, 1) := by decide +kernel
theorem dX7_parts_10 : decode cX7_parts 10 = .ok (.aload_n 0, 1) := by decide +kernel
theorem dX7_parts_11 : decode cX7_parts 11 = .ok (.invokevirtual 124, 3) := by decide +kernel
theorem dX7_parts_14 : decode cX7_parts 14 = .ok (.iconst 0, 1) := by decide +kernel
theorem dX7_parts_15 : decode cX7_parts 15 = .ok (.istore_n 1, 1) := by decide +kernel
theorem dX7_parts_16 : decode cX7_parts 16 = .ok (.iconst 0, 1) := by decide +kernel
theorem dX7_parts_17 : decode cX7_parts 17 = .ok (.istore_n 2, 1) := by decide +kernel
theorem dX7_parts_18 : decode cX7_parts 18 = .ok (.iload_n 2, 1) := by decide +kernel
theorem dX7_parts_19 : decode cX7_parts 19 = .ok (.aload_n 0, 1) := by decide +kernel
theorem dX7_parts_20 : decode cX7_parts 20 = .ok (.getfield 104, 3) := by decide +kernel
theorem dX7_parts_23 : decode cX7_parts 23 = .ok (.if_icmp .ge 46, 3) := by decide +kernel
theorem dX7_parts_26 : decode cX7_parts 26 = .ok (.aload_n 0, 1) := by decide +kernel
theorem dX7_parts_27 : decode cX7_parts 27 = .ok (.getfield 104, 3) := by decide +kernel
theorem dX7_parts_30 : decode cX7_parts 30 = .ok (.iload_n 2, 1) := by decide +kernel
theorem dX7_parts_31 : decode cX7_parts 31 = .ok (.isub, 1) := by decide +kernel
theorem dX7_parts_32 : decode cX7_parts 32 = .ok (.istore_n 3, 1) := by decide +kernel
theorem dX7_parts_33 : decode cX7_parts 33 = .ok (.iload_n 3, 1) := by decide +kernel
theorem dX7_parts_34 : decode cX7_parts 34 = .ok (.ifCond .le 18, 3) := by decide +kernel
theorem dX7_parts_37 : decode cX7_parts 37 = .ok (.aload_n 0, 1) := by decide +kernel
theorem dX7_parts_38 : decode cX7_parts 38 = .ok (.iload_n 2, 1) := by decide +kernel
theorem dX7_parts_39 : decode cX7_parts 39 = .ok (.iload_n 3, 1) := by decide +kernel
theorem dX7_parts_40 : decode cX7_parts 40 = .ok (.invokevirtual 152, 3) := by decide +kernel
theorem dX7_parts_43 : decode cX7_parts 43 = .ok (.ifCond .ne 9, 3) := by decide +kernel
theorem dX7_parts_46 : decode cX7_parts 46 = .ok (.iinc 3 (-1), 3) := by decide +kernel
theorem dX7_parts_49 : decode cX7_parts 49 = .ok (.goto (-16), 3) := by decide +kernel
theorem dX7_parts_52 : decode cX7_parts 52 = .ok (.iload_n 3, 1) := by decide +kernel
theorem dX7_parts_53 : decode cX7_parts 53 = .ok (.ifCond .ne 6, 3) := by decide +kernel
theorem dX7_parts_56 : decode cX7_parts 56 = .ok (.bipush (-6), 2) := by decide +kernel
theorem dX7_parts_58 : decode cX7_parts 58 = .ok (.ireturn, 1) := by decide +kernel
theorem dX7_parts_59 : decode cX7_parts 59 = .ok (.iload_n 2, 1) := by decide +kernel
theorem dX7_parts_60 : decode cX7_parts 60 = .ok (.iload_n 3, 1) := by decide +kernel
theorem dX7_parts_61 : decode cX7_parts 61 = .ok (.iadd, 1) := by decide +kernel
theorem dX7_parts_62 : decode cX7_parts 62 = .ok (.istore_n 2, 1) := by decide +kernel
theorem dX7_parts_63 : decode cX7_parts 63 = .ok (.iinc 1 1, 3) := by decide +kernel
theorem dX7_parts_66 : decode cX7_parts 66 = .ok (.goto (-48), 3) := by decide +kernel
theorem dX7_parts_69 : decode cX7_parts 69 = .ok (.iload_n 1, 1) := by decide +kernel
theorem dX7_parts_70 : decode cX7_parts 70 = .ok (.ireturn, 1) := by decide +kernel
set_option maxRecDepth 20000 in
theorem ggX7_factors_X7_in : GoodIn wsX7_factors wsX7_in := goodIn_r _ [7] (by decide +kernel) (by decide +kernel)
set_option maxRecDepth 20000 in
theorem gX7_factors_X7_in : GoodIn wsX7_factors (va_wsS RX7 97 yX7_in wsX7_in) := goodIn_app (goodIn_of _ (by decide +kernel)) ggX7_factors_X7_in
set_option maxRecDepth 20000 in
theorem ggX7_factors_X7_layPresent : GoodIn wsX7_factors wsX7_layPresent := goodIn_r _ [11, 12, 13, 14, 15, 6, 16, 17, 18, 19, 1, 20, 21, 22, 23, 24, 45, 46, 47, 48, 49, 50, 51, 52, 53, 54, 55, 56, 57, 58, 59, 60, 61, 62, 63, 64, 65, 66, 67] (by decide +kernel) (by decide +kernel)
set_option maxRecDepth 20000 in
theorem gX7_factors_X7_layPresent : GoodIn wsX7_factors (wsV RX7 124 RX7 yX7_layPresent wsX7_layPresent) := goodIn_app (goodIn_of _ (by decide +kernel)) ggX7_factors_X7_layPresent
set_option maxRecDepth 20000 in
theorem ggX7_factors_X7_sort : GoodIn wsX7_factors wsX7_sort := goodIn_r _ [28, 1, 3, 2, 29, 30, 31, 6, 32, 23, 33, 34, 35, 36, 37, 38, 39, 40, 22, 24, 45, 46, 47, 48, 49, 50, 51, 52, 53, 54, 55, 56, 57, 58, 59, 60, 61, 62, 63, 64, 65, 66, 67] (by decide +kernel) (by decide +kernel)
set_option maxRecDepth 20000 in
theorem gX7_factors_X7_sort : GoodIn wsX7_factors (wsV RX7 117 RX7 yX7_sort wsX7_sort) := goodIn_app (goodIn_of _ (by decide +kernel)) ggX7_factors_X7_sort
set_option maxRecDepth 20000 in
theorem ggX7_factors_X7_rest : GoodIn wsX7_factors wsX7_rest := goodIn_r _ [40, 22, 24, 45, 46, 47, 48, 49, 50, 51, 52, 53, 54, 55, 56, 57, 58, 59, 60, 61, 62, 63, 64, 65, 66, 67] (by decide +kernel) (by decide +kernel)
set_option maxRecDepth 20000 in
theorem gX7_factors_X7_rest : GoodIn wsX7_factors (wsV RX7 78 RX7 yX7_rest wsX7_rest) := goodIn_app (goodIn_of _ (by decide +kernel)) ggX7_factors_X7_rest
set_option maxRecDepth 20000 in
theorem ggX7_factors_X7_endsOf : GoodIn wsX7_factors wsX7_endsOf := goodIn_r _ [44, 1, 2, 45, 46, 47, 48, 49, 50, 51, 52, 53, 54, 55, 56, 57, 58, 59, 60, 61, 62, 63, 64, 65, 66, 67] (by decide +kernel) (by decide +kernel)
set_option maxRecDepth 20000 in
theorem gX7_factors_X7_endsOf : GoodIn wsX7_factors (wsV RX7 90 RX7 yX7_endsOf wsX7_endsOf) := goodIn_app (goodIn_of _ (by decide +kernel)) ggX7_factors_X7_endsOf
theorem dX7_factors_0 : decode cX7_factors 0 = .ok (.iload_n 1, 1) := by decide +kernel
theorem dX7_factors_1 : decode cX7_factors 1 = .ok (.iconst 1, 1) := by decide +kernel
theorem dX7_factors_2 : decode cX7_factors 2 = .ok (.bipush 60, 2) := by decide +kernel
theorem dX7_factors_4 : decode cX7_factors 4 = .ok (.invokestatic 97, 3) := by decide +kernel
theorem dX7_factors_7 : decode cX7_factors 7 = .ok (.ifCond .eq 13, 3) := by decide +kernel
theorem dX7_factors_10 : decode cX7_factors 10 = .ok (.iload_n 2, 1) := by decide +kernel
theorem dX7_factors_11 : decode cX7_factors 11 = .ok (.iconst 0, 1) := by decide +kernel
theorem dX7_factors_12 : decode cX7_factors 12 = .ok (.bipush 60, 2) := by decide +kernel
theorem dX7_factors_14 : decode cX7_factors 14 = .ok (.invokestatic 97, 3) := by decide +kernel
theorem dX7_factors_17 : decode cX7_factors 17 = .ok (.ifCond .ne 6, 3) := by decide +kernel
theorem dX7_factors_20 : decode cX7_factors 20 = .ok (.bipush (-2), 2) := by decide +kernel
theorem dX7_factors_22 : decode cX7_factors 22 = .ok (.ireturn, 1) := by decide +kernel
theorem dX7_factors_23 : decode cX7_factors 23 = .ok (.aload_n 0, 1) := by decide +kernel
theorem dX7_factors_24 : decode cX7_factors 24 = .ok (.invokevirtual 124, 3) := by decide +kernel
theorem dX7_factors_27 : decode cX7_factors 27 = .ok (.aload_n 0, 1) := by decide +kernel
theorem dX7_factors_28 : decode cX7_factors 28 = .ok (.invokevirtual 117, 3) := by decide +kernel
theorem dX7_factors_31 : decode cX7_factors 31 = .ok (.iconst 0, 1) := by decide +kernel
theorem dX7_factors_32 : decode cX7_factors 32 = .ok (.istore_n 3, 1) := by decide +kernel
theorem dX7_factors_33 : decode cX7_factors 33 = .ok (.iconst 0, 1) := by decide +kernel
theorem dX7_factors_34 : decode cX7_factors 34 = .ok (.istore 4, 2) := by decide +kernel
theorem dX7_factors_36 : decode cX7_factors 36 = .ok (.iload 4, 2) := by decide +kernel
theorem dX7_factors_38 : decode cX7_factors 38 = .ok (.aload_n 0, 1) := by decide +kernel
theorem dX7_factors_39 : decode cX7_factors 39 = .ok (.getfield 37, 3) := by decide +kernel
theorem dX7_factors_42 : decode cX7_factors 42 = .ok (.iconst 0, 1) := by decide +kernel
theorem dX7_factors_43 : decode cX7_factors 43 = .ok (.iaload, 1) := by decide +kernel
theorem dX7_factors_44 : decode cX7_factors 44 = .ok (.if_icmp .ge 73, 3) := by decide +kernel
theorem dX7_factors_47 : decode cX7_factors 47 = .ok (.aload_n 0, 1) := by decide +kernel
theorem dX7_factors_48 : decode cX7_factors 48 = .ok (.getfield 49, 3) := by decide +kernel
theorem dX7_factors_51 : decode cX7_factors 51 = .ok (.iload 4, 2) := by decide +kernel
theorem dX7_factors_53 : decode cX7_factors 53 = .ok (.iaload, 1) := by decide +kernel
theorem dX7_factors_54 : decode cX7_factors 54 = .ok (.iconst 1, 1) := by decide +kernel
theorem dX7_factors_55 : decode cX7_factors 55 = .ok (.iadd, 1) := by decide +kernel
theorem dX7_factors_56 : decode cX7_factors 56 = .ok (.istore 5, 2) := by decide +kernel
theorem dX7_factors_58 : decode cX7_factors 58 = .ok (.iload 5, 2) := by decide +kernel
theorem dX7_factors_60 : decode cX7_factors 60 = .ok (.aload_n 0, 1) := by decide +kernel
theorem dX7_factors_61 : decode cX7_factors 61 = .ok (.iconst 0, 1) := by decide +kernel
theorem dX7_factors_62 : decode cX7_factors 62 = .ok (.aload_n 0, 1) := by decide +kernel
theorem dX7_factors_63 : decode cX7_factors 63 = .ok (.getfield 46, 3) := by decide +kernel
theorem dX7_factors_66 : decode cX7_factors 66 = .ok (.iload 4, 2) := by decide +kernel
theorem dX7_factors_68 : decode cX7_factors 68 = .ok (.iaload, 1) := by decide +kernel
theorem dX7_factors_69 : decode cX7_factors 69 = .ok (.invokevirtual 78, 3) := by decide +kernel
theorem dX7_factors_72 : decode cX7_factors 72 = .ok (.if_icmp .gt 39, 3) := by decide +kernel
theorem dX7_factors_75 : decode cX7_factors 75 = .ok (.iload_n 3, 1) := by decide +kernel
theorem dX7_factors_76 : decode cX7_factors 76 = .ok (.iload_n 2, 1) := by decide +kernel
theorem dX7_factors_77 : decode cX7_factors 77 = .ok (.ifCond .eq 9, 3) := by decide +kernel
theorem dX7_factors_80 : decode cX7_factors 80 = .ok (.iload 5, 2) := by decide +kernel
theorem dX7_factors_82 : decode cX7_factors 82 = .ok (.iload_n 2, 1) := by decide +kernel
theorem dX7_factors_83 : decode cX7_factors 83 = .ok (.if_icmp .ne 19, 3) := by decide +kernel
theorem dX7_factors_86 : decode cX7_factors 86 = .ok (.aload_n 0, 1) := by decide +kernel
theorem dX7_factors_87 : decode cX7_factors 87 = .ok (.iload 4, 2) := by decide +kernel
theorem dX7_factors_89 : decode cX7_factors 89 = .ok (.iload 5, 2) := by decide +kernel
theorem dX7_factors_91 : decode cX7_factors 91 = .ok (.invokevirtual 90, 3) := by decide +kernel
theorem dX7_factors_94 : decode cX7_factors 94 = .ok (.iload_n 1, 1) := by decide +kernel
theorem dX7_factors_95 : decode cX7_factors 95 = .ok (.if_icmp .lt 7, 3) := by decide +kernel
theorem dX7_factors_98 : decode cX7_factors 98 = .ok (.iconst 1, 1) := by decide +kernel
theorem dX7_factors_99 : decode cX7_factors 99 = .ok (.goto 4, 3) := by decide +kernel
theorem dX7_factors_102 : decode cX7_factors 102 = .ok (.iconst 0, 1) := by decide +kernel
theorem dX7_factors_103 : decode cX7_factors 103 = .ok (.iadd, 1) := by decide +kernel
theorem dX7_factors_104 : decode cX7_factors 104 = .ok (.istore_n 3, 1) := by decide +kernel
theorem dX7_factors_105 : decode cX7_factors 105 = .ok (.iinc 5 1, 3) := by decide +kernel
theorem dX7_factors_108 : decode cX7_factors 108 = .ok (.goto (-50), 3) := by decide +kernel
theorem dX7_factors_111 : decode cX7_factors 111 = .ok (.iinc 4 1, 3) := by decide +kernel
theorem dX7_factors_114 : decode cX7_factors 114 = .ok (.goto (-78), 3) := by decide +kernel
theorem dX7_factors_117 : decode cX7_factors 117 = .ok (.iload_n 3, 1) := by decide +kernel
theorem dX7_factors_118 : decode cX7_factors 118 = .ok (.ireturn, 1) := by decide +kernel
set_option maxRecDepth 20000 in
theorem ggX7_kth_X7_in : GoodIn wsX7_kth wsX7_in := goodIn_r _ [7] (by decide +kernel) (by decide +kernel)
set_option maxRecDepth 20000 in
theorem gX7_kth_X7_in : GoodIn wsX7_kth (va_wsS RX7 97 yX7_in wsX7_in) := goodIn_app (goodIn_of _ (by decide +kernel)) ggX7_kth_X7_in
set_option maxRecDepth 20000 in
theorem ggX7_kth_X7_layPresent : GoodIn wsX7_kth wsX7_layPresent := goodIn_r _ [11, 12, 13, 14, 15, 6, 16, 17, 18, 19, 1, 20, 21, 22, 23, 24, 55, 56, 57, 58, 59, 60, 61, 62, 63, 64, 65, 66, 67, 68, 69, 70, 71, 72, 73, 74, 75, 76, 77] (by decide +kernel) (by decide +kernel)
set_option maxRecDepth 20000 in
theorem gX7_kth_X7_layPresent : GoodIn wsX7_kth (wsV RX7 124 RX7 yX7_layPresent wsX7_layPresent) := goodIn_app (goodIn_of _ (by decide +kernel)) ggX7_kth_X7_layPresent
set_option maxRecDepth 20000 in
theorem ggX7_kth_X7_sort : GoodIn wsX7_kth wsX7_sort := goodIn_r _ [28, 1, 3, 2, 29, 30, 31, 6, 32, 23, 33, 34, 35, 36, 37, 38, 39, 40, 22, 24, 55, 56, 57, 58, 59, 60, 61, 62, 63, 64, 65, 66, 67, 68, 69, 70, 71, 72, 73, 74, 75, 76, 77] (by decide +kernel) (by decide +kernel)
set_option maxRecDepth 20000 in
theorem gX7_kth_X7_sort : GoodIn wsX7_kth (wsV RX7 117 RX7 yX7_sort wsX7_sort) := goodIn_app (goodIn_of _ (by decide +kernel)) ggX7_kth_X7_sort
set_option maxRecDepth 20000 in
theorem ggX7_kth_X7_rest : GoodIn wsX7_kth wsX7_rest := goodIn_r _ [40, 22, 24, 55, 56, 57, 58, 59, 60, 61, 62, 63, 64, 65, 66, 67, 68, 69, 70, 71, 72, 73, 74, 75, 76, 77] (by decide +kernel) (by decide +kernel)
set_option maxRecDepth 20000 in
theorem gX7_kth_X7_rest : GoodIn wsX7_kth (wsV RX7 78 RX7 yX7_rest wsX7_rest) := goodIn_app (goodIn_of _ (by decide +kernel)) ggX7_kth_X7_rest
set_option maxRecDepth 20000 in
theorem ggX7_kth_X7_endsOf : GoodIn wsX7_kth wsX7_endsOf := goodIn_r _ [44, 1, 2, 55, 56, 57, 58, 59, 60, 61, 62, 63, 64, 65, 66, 67, 68, 69, 70, 71, 72, 73, 74, 75, 76, 77] (by decide +kernel) (by decide +kernel)
set_option maxRecDepth 20000 in
theorem gX7_kth_X7_endsOf : GoodIn wsX7_kth (wsV RX7 90 RX7 yX7_endsOf wsX7_endsOf) := goodIn_app (goodIn_of _ (by decide +kernel)) ggX7_kth_X7_endsOf
set_option maxRecDepth 20000 in
theorem ggX7_kth_X7_write : GoodIn wsX7_kth wsX7_write := goodIn_r _ [48, 49, 50, 51, 52, 53, 6, 54, 23, 55, 56, 57, 58, 59, 60, 61, 62, 63, 64, 65, 66, 67, 68, 69, 70, 71, 72, 73, 74, 75, 76, 77] (by decide +kernel) (by decide +kernel)
set_option maxRecDepth 20000 in
theorem gX7_kth_X7_write : GoodIn wsX7_kth (wsV RX7 155 RX7 yX7_write wsX7_write) := goodIn_app (goodIn_of _ (by decide +kernel)) ggX7_kth_X7_write
theorem dX7_kth_0 : decode cX7_kth 0 = .ok (.iload_n 1, 1) := by decide +kernel
theorem dX7_kth_1 : decode cX7_kth 1 = .ok (.iconst 1, 1) := by decide +kernel
theorem dX7_kth_2 : decode cX7_kth 2 = .ok (.bipush 60, 2) := by decide +kernel
theorem dX7_kth_4 : decode cX7_kth 4 = .ok (.invokestatic 97, 3) := by decide +kernel
theorem dX7_kth_7 : decode cX7_kth 7 = .ok (.ifCond .ne 6, 3) := by decide +kernel
theorem dX7_kth_10 : decode cX7_kth 10 = .ok (.bipush (-2), 2) := by decide +kernel
theorem dX7_kth_12 : decode cX7_kth 12 = .ok (.ireturn, 1) := by decide +kernel
theorem dX7_kth_13 : decode cX7_kth 13 = .ok (.aload_n 0, 1) := by decide +kernel
theorem dX7_kth_14 : decode cX7_kth 14 = .ok (.invokevirtual 124, 3) := by decide +kernel
theorem dX7_kth_17 : decode cX7_kth 17 = .ok (.aload_n 0, 1) := by decide +kernel
theorem dX7_kth_18 : decode cX7_kth 18 = .ok (.invokevirtual 117, 3) := by decide +kernel
theorem dX7_kth_21 : decode cX7_kth 21 = .ok (.iconst 0, 1) := by decide +kernel
theorem dX7_kth_22 : decode cX7_kth 22 = .ok (.istore_n 3, 1) := by decide +kernel
theorem dX7_kth_23 : decode cX7_kth 23 = .ok (.iconst 0, 1) := by decide +kernel
theorem dX7_kth_24 : decode cX7_kth 24 = .ok (.istore 4, 2) := by decide +kernel
theorem dX7_kth_26 : decode cX7_kth 26 = .ok (.iload 4, 2) := by decide +kernel
theorem dX7_kth_28 : decode cX7_kth 28 = .ok (.aload_n 0, 1) := by decide +kernel
theorem dX7_kth_29 : decode cX7_kth 29 = .ok (.getfield 37, 3) := by decide +kernel
theorem dX7_kth_32 : decode cX7_kth 32 = .ok (.iconst 0, 1) := by decide +kernel
theorem dX7_kth_33 : decode cX7_kth 33 = .ok (.iaload, 1) := by decide +kernel
theorem dX7_kth_34 : decode cX7_kth 34 = .ok (.if_icmp .ge 77, 3) := by decide +kernel
theorem dX7_kth_37 : decode cX7_kth 37 = .ok (.aload_n 0, 1) := by decide +kernel
theorem dX7_kth_38 : decode cX7_kth 38 = .ok (.getfield 49, 3) := by decide +kernel
theorem dX7_kth_41 : decode cX7_kth 41 = .ok (.iload 4, 2) := by decide +kernel
theorem dX7_kth_43 : decode cX7_kth 43 = .ok (.iaload, 1) := by decide +kernel
theorem dX7_kth_44 : decode cX7_kth 44 = .ok (.iconst 1, 1) := by decide +kernel
theorem dX7_kth_45 : decode cX7_kth 45 = .ok (.iadd, 1) := by decide +kernel
theorem dX7_kth_46 : decode cX7_kth 46 = .ok (.istore 5, 2) := by decide +kernel
theorem dX7_kth_48 : decode cX7_kth 48 = .ok (.iload 5, 2) := by decide +kernel
theorem dX7_kth_50 : decode cX7_kth 50 = .ok (.aload_n 0, 1) := by decide +kernel
theorem dX7_kth_51 : decode cX7_kth 51 = .ok (.iconst 0, 1) := by decide +kernel
theorem dX7_kth_52 : decode cX7_kth 52 = .ok (.aload_n 0, 1) := by decide +kernel
theorem dX7_kth_53 : decode cX7_kth 53 = .ok (.getfield 46, 3) := by decide +kernel
theorem dX7_kth_56 : decode cX7_kth 56 = .ok (.iload 4, 2) := by decide +kernel
theorem dX7_kth_58 : decode cX7_kth 58 = .ok (.iaload, 1) := by decide +kernel
theorem dX7_kth_59 : decode cX7_kth 59 = .ok (.invokevirtual 78, 3) := by decide +kernel
theorem dX7_kth_62 : decode cX7_kth 62 = .ok (.if_icmp .gt 43, 3) := by decide +kernel
theorem dX7_kth_65 : decode cX7_kth 65 = .ok (.aload_n 0, 1) := by decide +kernel
theorem dX7_kth_66 : decode cX7_kth 66 = .ok (.iload 4, 2) := by decide +kernel
theorem dX7_kth_68 : decode cX7_kth 68 = .ok (.iload 5, 2) := by decide +kernel
theorem dX7_kth_70 : decode cX7_kth 70 = .ok (.invokevirtual 90, 3) := by decide +kernel
theorem dX7_kth_73 : decode cX7_kth 73 = .ok (.iload_n 1, 1) := by decide +kernel
theorem dX7_kth_74 : decode cX7_kth 74 = .ok (.if_icmp .lt 25, 3) := by decide +kernel
theorem dX7_kth_77 : decode cX7_kth 77 = .ok (.iload_n 3, 1) := by decide +kernel
theorem dX7_kth_78 : decode cX7_kth 78 = .ok (.iload_n 2, 1) := by decide +kernel
theorem dX7_kth_79 : decode cX7_kth 79 = .ok (.if_icmp .ne 17, 3) := by decide +kernel
theorem dX7_kth_82 : decode cX7_kth 82 = .ok (.aload_n 0, 1) := by decide +kernel
theorem dX7_kth_83 : decode cX7_kth 83 = .ok (.aload_n 0, 1) := by decide +kernel
theorem dX7_kth_84 : decode cX7_kth 84 = .ok (.getfield 46, 3) := by decide +kernel
theorem dX7_kth_87 : decode cX7_kth 87 = .ok (.iload 4, 2) := by decide +kernel
theorem dX7_kth_89 : decode cX7_kth 89 = .ok (.iaload, 1) := by decide +kernel
theorem dX7_kth_90 : decode cX7_kth 90 = .ok (.iload 5, 2) := by decide +kernel
theorem dX7_kth_92 : decode cX7_kth 92 = .ok (.invokevirtual 155, 3) := by decide +kernel
theorem dX7_kth_95 : decode cX7_kth 95 = .ok (.ireturn, 1) := by decide +kernel
theorem dX7_kth_96 : decode cX7_kth 96 = .ok (.iinc 3 1, 3) := by decide +kernel
theorem dX7_kth_99 : decode cX7_kth 99 = .ok (.iinc 5 1, 3) := by decide +kernel
theorem dX7_kth_102 : decode cX7_kth 102 = .ok (.goto (-54), 3) := by decide +kernel
theorem dX7_kth_105 : decode cX7_kth 105 = .ok (.iinc 4 1, 3) := by decide +kernel
theorem dX7_kth_108 : decode cX7_kth 108 = .ok (.goto (-82), 3) := by decide +kernel
theorem dX7_kth_111 : decode cX7_kth 111 = .ok (.bipush (-6), 2) := by decide +kernel
theorem dX7_kth_113 : decode cX7_kth 113 = .ok (.ireturn, 1) := by decide +kernel
set_option maxRecDepth 20000 in
theorem ggX7_comesBefore_X7_letterAt : GoodIn wsX7_comesBefore wsX7_letterAt := goodIn_r _ [7, 8, 9, 10, 11, 12, 13, 14, 15, 16, 17, 18, 19, 20, 21, 22, 23, 24, 25, 26, 27, 28, 29, 30, 31] (by decide +kernel) (by decide +kernel)
set_option maxRecDepth 20000 in
theorem gX7_comesBefore_X7_letterAt : GoodIn wsX7_comesBefore (wsV RX7 127 RX7 yX7_letterAt wsX7_letterAt) := goodIn_app (goodIn_of _ (by decide +kernel)) ggX7_comesBefore_X7_letterAt
theorem dX7_comesBefore_0 : decode cX7_comesBefore 0 = .ok (.iconst 0, 1) := by decide +kernel
theorem dX7_comesBefore_1 : decode cX7_comesBefore 1 = .ok (.istore_n 3, 1) := by decide +kernel
theorem dX7_comesBefore_2 : decode cX7_comesBefore 2 = .ok (.iload_n 3, 1) := by decide +kernel
theorem dX7_comesBefore_3 : decode cX7_comesBefore 3 = .ok (.iload_n 2, 1) := by decide +kernel
theorem dX7_comesBefore_4 : decode cX7_comesBefore 4 = .ok (.if_icmp .ge 36, 3) := by decide +kernel
theorem dX7_comesBefore_7 : decode cX7_comesBefore 7 = .ok (.iload_n 3, 1) := by decide +kernel
theorem dX7_comesBefore_8 : decode cX7_comesBefore 8 = .ok (.aload_n 0, 1) := by decide +kernel
theorem dX7_comesBefore_9 : decode cX7_comesBefore 9 = .ok (.getfield 104, 3) := by decide +kernel
theorem dX7_comesBefore_12 : decode cX7_comesBefore 12 = .ok (.if_icmp .ge 28, 3) := by decide +kernel
theorem dX7_comesBefore_15 : decode cX7_comesBefore 15 = .ok (.aload_n 0, 1) := by decide +kernel
theorem dX7_comesBefore_16 : decode cX7_comesBefore 16 = .ok (.iload_n 1, 1) := by decide +kernel
theorem dX7_comesBefore_17 : decode cX7_comesBefore 17 = .ok (.iload_n 3, 1) := by decide +kernel
theorem dX7_comesBefore_18 : decode cX7_comesBefore 18 = .ok (.iadd, 1) := by decide +kernel
theorem dX7_comesBefore_19 : decode cX7_comesBefore 19 = .ok (.invokevirtual 127, 3) := by decide +kernel
theorem dX7_comesBefore_22 : decode cX7_comesBefore 22 = .ok (.aload_n 0, 1) := by decide +kernel
theorem dX7_comesBefore_23 : decode cX7_comesBefore 23 = .ok (.getfield 22, 3) := by decide +kernel
theorem dX7_comesBefore_26 : decode cX7_comesBefore 26 = .ok (.iload_n 3, 1) := by decide +kernel
theorem dX7_comesBefore_27 : decode cX7_comesBefore 27 = .ok (.iaload, 1) := by decide +kernel
theorem dX7_comesBefore_28 : decode cX7_comesBefore 28 = .ok (.bipush 97, 2) := by decide +kernel
theorem dX7_comesBefore_30 : decode cX7_comesBefore 30 = .ok (.isub, 1) := by decide +kernel
theorem dX7_comesBefore_31 : decode cX7_comesBefore 31 = .ok (.if_icmp .ne 9, 3) := by decide +kernel
theorem dX7_comesBefore_34 : decode cX7_comesBefore 34 = .ok (.iinc 3 1, 3) := by decide +kernel
theorem dX7_comesBefore_37 : decode cX7_comesBefore 37 = .ok (.goto (-35), 3) := by decide +kernel
theorem dX7_comesBefore_40 : decode cX7_comesBefore 40 = .ok (.iload_n 3, 1) := by decide +kernel
theorem dX7_comesBefore_41 : decode cX7_comesBefore 41 = .ok (.iload_n 2, 1) := by decide +kernel
theorem dX7_comesBefore_42 : decode cX7_comesBefore 42 = .ok (.if_icmp .eq 11, 3) := by decide +kernel
theorem dX7_comesBefore_45 : decode cX7_comesBefore 45 = .ok (.iload_n 3, 1) := by decide +kernel
theorem dX7_comesBefore_46 : decode cX7_comesBefore 46 = .ok (.aload_n 0, 1) := by decide +kernel
theorem dX7_comesBefore_47 : decode cX7_comesBefore 47 = .ok (.getfield 104, 3) := by decide +kernel
theorem dX7_comesBefore_50 : decode cX7_comesBefore 50 = .ok (.if_icmp .ne 22, 3) := by decide +kernel
theorem dX7_comesBefore_53 : decode cX7_comesBefore 53 = .ok (.iload_n 3, 1) := by decide +kernel
theorem dX7_comesBefore_54 : decode cX7_comesBefore 54 = .ok (.iload_n 2, 1) := by decide +kernel
theorem dX7_comesBefore_55 : decode cX7_comesBefore 55 = .ok (.if_icmp .ne 15, 3) := by decide +kernel
theorem dX7_comesBefore_58 : decode cX7_comesBefore 58 = .ok (.iload_n 2, 1) := by decide +kernel
theorem dX7_comesBefore_59 : decode cX7_comesBefore 59 = .ok (.aload_n 0, 1) := by decide +kernel
theorem dX7_comesBefore_60 : decode cX7_comesBefore 60 = .ok (.getfield 104, 3) := by decide +kernel
theorem dX7_comesBefore_63 : decode cX7_comesBefore 63 = .ok (.if_icmp .ge 7, 3) := by decide +kernel
theorem dX7_comesBefore_66 : decode cX7_comesBefore 66 = .ok (.iconst 1, 1) := by decide +kernel
theorem dX7_comesBefore_67 : decode cX7_comesBefore 67 = .ok (.goto 4, 3) := by decide +kernel
theorem dX7_comesBefore_70 : decode cX7_comesBefore 70 = .ok (.iconst 0, 1) := by decide +kernel
theorem dX7_comesBefore_71 : decode cX7_comesBefore 71 = .ok (.ireturn, 1) := by decide +kernel
theorem dX7_comesBefore_72 : decode cX7_comesBefore 72 = .ok (.aload_n 0, 1) := by decide +kernel
theorem dX7_comesBefore_73 : decode cX7_comesBefore 73 = .ok (.iload_n 1, 1) := by decide +kernel
theorem dX7_comesBefore_74 : decode cX7_comesBefore 74 = .ok (.iload_n 3, 1) := by decide +kernel
theorem dX7_comesBefore_75 : decode cX7_comesBefore 75 = .ok (.iadd, 1) := by decide +kernel
theorem dX7_comesBefore_76 : decode cX7_comesBefore 76 = .ok (.invokevirtual 127, 3) := by decide +kernel
theorem dX7_comesBefore_79 : decode cX7_comesBefore 79 = .ok (.aload_n 0, 1) := by decide +kernel
theorem dX7_comesBefore_80 : decode cX7_comesBefore 80 = .ok (.getfield 22, 3) := by decide +kernel
theorem dX7_comesBefore_83 : decode cX7_comesBefore 83 = .ok (.iload_n 3, 1) := by decide +kernel
theorem dX7_comesBefore_84 : decode cX7_comesBefore 84 = .ok (.iaload, 1) := by decide +kernel
theorem dX7_comesBefore_85 : decode cX7_comesBefore 85 = .ok (.bipush 97, 2) := by decide +kernel
theorem dX7_comesBefore_87 : decode cX7_comesBefore 87 = .ok (.isub, 1) := by decide +kernel
theorem dX7_comesBefore_88 : decode cX7_comesBefore 88 = .ok (.if_icmp .ge 7, 3) := by decide +kernel
theorem dX7_comesBefore_91 : decode cX7_comesBefore 91 = .ok (.iconst 1, 1) := by decide +kernel
theorem dX7_comesBefore_92 : decode cX7_comesBefore 92 = .ok (.goto 4, 3) := by decide +kernel
theorem dX7_comesBefore_95 : decode cX7_comesBefore 95 = .ok (.iconst 0, 1) := by decide +kernel
theorem dX7_comesBefore_96 : decode cX7_comesBefore 96 = .ok (.ireturn, 1) := by decide +kernel
set_option maxRecDepth 20000 in
theorem ggX7_before_X7_isPattern : GoodIn wsX7_before wsX7_isPattern := goodIn_r _ [8, 9, 10, 11, 7, 12, 13, 14, 15, 16, 17, 18, 19, 20, 21, 63, 64, 65, 66, 67, 68, 69, 70, 71, 72, 73, 74, 75, 76, 77, 78, 79, 80, 81, 82, 83, 84, 85] (by decide +kernel) (by decide +kernel)
set_option maxRecDepth 20000 in
theorem gX7_before_X7_isPattern : GoodIn wsX7_before (wsV RX7 136 RX7 yX7_isPattern wsX7_isPattern) := goodIn_app (goodIn_of _ (by decide +kernel)) ggX7_before_X7_isPattern
set_option maxRecDepth 20000 in
theorem ggX7_before_X7_layPresent : GoodIn wsX7_before wsX7_layPresent := goodIn_r _ [25, 26, 27, 28, 29, 7, 30, 31, 32, 33, 1, 34, 35, 36, 37, 38, 63, 64, 65, 66, 67, 68, 69, 70, 71, 72, 73, 74, 75, 76, 77, 78, 79, 80, 81, 82, 83, 84, 85] (by decide +kernel) (by decide +kernel)
set_option maxRecDepth 20000 in
theorem gX7_before_X7_layPresent : GoodIn wsX7_before (wsV RX7 124 RX7 yX7_layPresent wsX7_layPresent) := goodIn_app (goodIn_of _ (by decide +kernel)) ggX7_before_X7_layPresent
set_option maxRecDepth 20000 in
theorem ggX7_before_X7_sort : GoodIn wsX7_before wsX7_sort := goodIn_r _ [42, 1, 3, 2, 43, 44, 45, 7, 46, 37, 47, 48, 49, 50, 51, 52, 53, 54, 36, 38, 63, 64, 65, 66, 67, 68, 69, 70, 71, 72, 73, 74, 75, 76, 77, 78, 79, 80, 81, 82, 83, 84, 85] (by decide +kernel) (by decide +kernel)
set_option maxRecDepth 20000 in
theorem gX7_before_X7_sort : GoodIn wsX7_before (wsV RX7 117 RX7 yX7_sort wsX7_sort) := goodIn_app (goodIn_of _ (by decide +kernel)) ggX7_before_X7_sort
set_option maxRecDepth 20000 in
theorem ggX7_before_X7_rest : GoodIn wsX7_before wsX7_rest := goodIn_r _ [54, 36, 38, 63, 64, 65, 66, 67, 68, 69, 70, 71, 72, 73, 74, 75, 76, 77, 78, 79, 80, 81, 82, 83, 84, 85] (by decide +kernel) (by decide +kernel)
set_option maxRecDepth 20000 in
theorem gX7_before_X7_rest : GoodIn wsX7_before (wsV RX7 78 RX7 yX7_rest wsX7_rest) := goodIn_app (goodIn_of _ (by decide +kernel)) ggX7_before_X7_rest
set_option maxRecDepth 20000 in
theorem ggX7_before_X7_comesBefore : GoodIn wsX7_before wsX7_comesBefore := goodIn_r _ [58, 13, 14, 59, 60, 61, 7, 62, 37, 63, 64, 65, 66, 67, 68, 69, 70, 71, 72, 73, 74, 75, 76, 77, 78, 79, 80, 81, 82, 83, 84, 85] (by decide +kernel) (by decide +kernel)
set_option maxRecDepth 20000 in
theorem gX7_before_X7_comesBefore : GoodIn wsX7_before (wsV RX7 158 RX7 yX7_comesBefore wsX7_comesBefore) := goodIn_app (goodIn_of _ (by decide +kernel)) ggX7_before_X7_comesBefore
theorem dX7_before_0 : decode cX7_before 0 = .ok (.aload_n 0, 1) := by decide +kernel
theorem dX7_before_1 : decode cX7_before 1 = .ok (.invokevirtual 136, 3) := by decide +kernel
theorem dX7_before_4 : decode cX7_before 4 = .ok (.ifCond .ne 6, 3) := by decide +kernel
theorem dX7_before_7 : decode cX7_before 7 = .ok (.bipush (-3), 2) := by decide +kernel
theorem dX7_before_9 : decode cX7_before 9 = .ok (.ireturn, 1) := by decide +kernel
theorem dX7_before_10 : decode cX7_before 10 = .ok (.aload_n 0, 1) := by decide +kernel
theorem dX7_before_11 : decode cX7_before 11 = .ok (.invokevirtual 124, 3) := by decide +kernel
theorem dX7_before_14 : decode cX7_before 14 = .ok (.aload_n 0, 1) := by decide +kernel
theorem dX7_before_15 : decode cX7_before 15 = .ok (.invokevirtual 117, 3) := by decide +kernel
theorem dX7_before_18 : decode cX7_before 18 = .ok (.iconst 0, 1) := by decide +kernel
theorem dX7_before_19 : decode cX7_before 19 = .ok (.istore_n 1, 1) := by decide +kernel
theorem dX7_before_20 : decode cX7_before 20 = .ok (.iconst 0, 1) := by decide +kernel
theorem dX7_before_21 : decode cX7_before 21 = .ok (.istore_n 2, 1) := by decide +kernel
theorem dX7_before_22 : decode cX7_before 22 = .ok (.iload_n 2, 1) := by decide +kernel
theorem dX7_before_23 : decode cX7_before 23 = .ok (.aload_n 0, 1) := by decide +kernel
theorem dX7_before_24 : decode cX7_before 24 = .ok (.getfield 37, 3) := by decide +kernel
theorem dX7_before_27 : decode cX7_before 27 = .ok (.iconst 0, 1) := by decide +kernel
theorem dX7_before_28 : decode cX7_before 28 = .ok (.iaload, 1) := by decide +kernel
theorem dX7_before_29 : decode cX7_before 29 = .ok (.if_icmp .ge 61, 3) := by decide +kernel
theorem dX7_before_32 : decode cX7_before 32 = .ok (.aload_n 0, 1) := by decide +kernel
theorem dX7_before_33 : decode cX7_before 33 = .ok (.getfield 49, 3) := by decide +kernel
theorem dX7_before_36 : decode cX7_before 36 = .ok (.iload_n 2, 1) := by decide +kernel
theorem dX7_before_37 : decode cX7_before 37 = .ok (.iaload, 1) := by decide +kernel
theorem dX7_before_38 : decode cX7_before 38 = .ok (.iconst 1, 1) := by decide +kernel
theorem dX7_before_39 : decode cX7_before 39 = .ok (.iadd, 1) := by decide +kernel
theorem dX7_before_40 : decode cX7_before 40 = .ok (.istore_n 3, 1) := by decide +kernel
theorem dX7_before_41 : decode cX7_before 41 = .ok (.iload_n 3, 1) := by decide +kernel
theorem dX7_before_42 : decode cX7_before 42 = .ok (.aload_n 0, 1) := by decide +kernel
theorem dX7_before_43 : decode cX7_before 43 = .ok (.iconst 0, 1) := by decide +kernel
theorem dX7_before_44 : decode cX7_before 44 = .ok (.aload_n 0, 1) := by decide +kernel
theorem dX7_before_45 : decode cX7_before 45 = .ok (.getfield 46, 3) := by decide +kernel
theorem dX7_before_48 : decode cX7_before 48 = .ok (.iload_n 2, 1) := by decide +kernel
theorem dX7_before_49 : decode cX7_before 49 = .ok (.iaload, 1) := by decide +kernel
theorem dX7_before_50 : decode cX7_before 50 = .ok (.invokevirtual 78, 3) := by decide +kernel
theorem dX7_before_53 : decode cX7_before 53 = .ok (.if_icmp .gt 31, 3) := by decide +kernel
theorem dX7_before_56 : decode cX7_before 56 = .ok (.iload_n 1, 1) := by decide +kernel
theorem dX7_before_57 : decode cX7_before 57 = .ok (.aload_n 0, 1) := by decide +kernel
theorem dX7_before_58 : decode cX7_before 58 = .ok (.aload_n 0, 1) := by decide +kernel
theorem dX7_before_59 : decode cX7_before 59 = .ok (.getfield 46, 3) := by decide +kernel
theorem dX7_before_62 : decode cX7_before 62 = .ok (.iload_n 2, 1) := by decide +kernel
theorem dX7_before_63 : decode cX7_before 63 = .ok (.iaload, 1) := by decide +kernel
theorem dX7_before_64 : decode cX7_before 64 = .ok (.iload_n 3, 1) := by decide +kernel
theorem dX7_before_65 : decode cX7_before 65 = .ok (.invokevirtual 158, 3) := by decide +kernel
theorem dX7_before_68 : decode cX7_before 68 = .ok (.ifCond .eq 7, 3) := by decide +kernel
theorem dX7_before_71 : decode cX7_before 71 = .ok (.iconst 1, 1) := by decide +kernel
theorem dX7_before_72 : decode cX7_before 72 = .ok (.goto 4, 3) := by decide +kernel
theorem dX7_before_75 : decode cX7_before 75 = .ok (.iconst 0, 1) := by decide +kernel
theorem dX7_before_76 : decode cX7_before 76 = .ok (.iadd, 1) := by decide +kernel
theorem dX7_before_77 : decode cX7_before 77 = .ok (.istore_n 1, 1) := by decide +kernel
theorem dX7_before_78 : decode cX7_before 78 = .ok (.iinc 3 1, 3) := by decide +kernel
theorem dX7_before_81 : decode cX7_before 81 = .ok (.goto (-40), 3) := by decide +kernel
theorem dX7_before_84 : decode cX7_before 84 = .ok (.iinc 2 1, 3) := by decide +kernel
theorem dX7_before_87 : decode cX7_before 87 = .ok (.goto (-65), 3) := by decide +kernel
theorem dX7_before_90 : decode cX7_before 90 = .ok (.iload_n 1, 1) := by decide +kernel
theorem dX7_before_91 : decode cX7_before 91 = .ok (.ireturn, 1) := by decide +kernel
set_option maxRecDepth 20000 in
theorem ggX7_isSame_X7_alike : GoodIn wsX7_isSame wsX7_alike := goodIn_r _ [5, 6, 7, 8, 9, 4, 10, 11, 12, 13, 14, 15, 16, 17, 18, 19, 20, 21, 22, 23, 24, 25, 26, 27, 28, 29, 30, 31, 32, 33, 34, 35] (by decide +kernel) (by decide +kernel)
set_option maxRecDepth 20000 in
theorem gX7_isSame_X7_alike : GoodIn wsX7_isSame (wsV RX7 82 RX7 yX7_alike wsX7_alike) := goodIn_app (goodIn_of _ (by decide +kernel)) ggX7_isSame_X7_alike
theorem dX7_isSame_0 : decode cX7_isSame 0 = .ok (.aload_n 0, 1) := by decide +kernel
theorem dX7_isSame_1 : decode cX7_isSame 1 = .ok (.iconst 0, 1) := by decide +kernel
theorem dX7_isSame_2 : decode cX7_isSame 2 = .ok (.iload_n 1, 1) := by decide +kernel
theorem dX7_isSame_3 : decode cX7_isSame 3 = .ok (.iconst 0, 1) := by decide +kernel
theorem dX7_isSame_4 : decode cX7_isSame 4 = .ok (.iload_n 2, 1) := by decide +kernel
theorem dX7_isSame_5 : decode cX7_isSame 5 = .ok (.invokevirtual 82, 3) := by decide +kernel
theorem dX7_isSame_8 : decode cX7_isSame 8 = .ok (.iload_n 3, 1) := by decide +kernel
theorem dX7_isSame_9 : decode cX7_isSame 9 = .ok (.if_icmp .lt 7, 3) := by decide +kernel
theorem dX7_isSame_12 : decode cX7_isSame 12 = .ok (.iconst 1, 1) := by decide +kernel
theorem dX7_isSame_13 : decode cX7_isSame 13 = .ok (.goto 4, 3) := by decide +kernel
theorem dX7_isSame_16 : decode cX7_isSame 16 = .ok (.iconst 0, 1) := by decide +kernel
theorem dX7_isSame_17 : decode cX7_isSame 17 = .ok (.ireturn, 1) := by decide +kernel
set_option maxRecDepth 20000 in
theorem ggX7_endsAt_X7_isSame : GoodIn wsX7_endsAt wsX7_isSame := goodIn_r _ [6, 7, 8, 9, 5, 10, 11, 12, 13, 14, 15, 16, 17, 18, 19, 20, 21, 22, 23, 24, 25, 26, 27, 28, 29, 30, 31, 32, 33, 34, 35, 36, 37, 38, 39, 40] (by decide +kernel) (by decide +kernel)
set_option maxRecDepth 20000 in
theorem gX7_endsAt_X7_isSame : GoodIn wsX7_endsAt (wsV RX7 161 RX7 yX7_isSame wsX7_isSame) := goodIn_app (goodIn_of _ (by decide +kernel)) ggX7_endsAt_X7_isSame
theorem dX7_endsAt_0 : decode cX7_endsAt 0 = .ok (.iconst 0, 1) := by decide +kernel
theorem dX7_endsAt_1 : decode cX7_endsAt 1 = .ok (.istore_n 3, 1) := by decide +kernel
theorem dX7_endsAt_2 : decode cX7_endsAt 2 = .ok (.iconst 0, 1) := by decide +kernel
theorem dX7_endsAt_3 : decode cX7_endsAt 3 = .ok (.istore 4, 2) := by decide +kernel
theorem dX7_endsAt_5 : decode cX7_endsAt 5 = .ok (.iload 4, 2) := by decide +kernel
theorem dX7_endsAt_7 : decode cX7_endsAt 7 = .ok (.aload_n 0, 1) := by decide +kernel
theorem dX7_endsAt_8 : decode cX7_endsAt 8 = .ok (.getfield 37, 3) := by decide +kernel
theorem dX7_endsAt_11 : decode cX7_endsAt 11 = .ok (.iconst 0, 1) := by decide +kernel
theorem dX7_endsAt_12 : decode cX7_endsAt 12 = .ok (.iaload, 1) := by decide +kernel
theorem dX7_endsAt_13 : decode cX7_endsAt 13 = .ok (.if_icmp .ge 28, 3) := by decide +kernel
theorem dX7_endsAt_16 : decode cX7_endsAt 16 = .ok (.iload_n 3, 1) := by decide +kernel
theorem dX7_endsAt_17 : decode cX7_endsAt 17 = .ok (.aload_n 0, 1) := by decide +kernel
theorem dX7_endsAt_18 : decode cX7_endsAt 18 = .ok (.iload_n 1, 1) := by decide +kernel
theorem dX7_endsAt_19 : decode cX7_endsAt 19 = .ok (.iload 4, 2) := by decide +kernel
theorem dX7_endsAt_21 : decode cX7_endsAt 21 = .ok (.iload_n 2, 1) := by decide +kernel
theorem dX7_endsAt_22 : decode cX7_endsAt 22 = .ok (.invokevirtual 161, 3) := by decide +kernel
theorem dX7_endsAt_25 : decode cX7_endsAt 25 = .ok (.ifCond .eq 7, 3) := by decide +kernel
theorem dX7_endsAt_28 : decode cX7_endsAt 28 = .ok (.iconst 1, 1) := by decide +kernel
theorem dX7_endsAt_29 : decode cX7_endsAt 29 = .ok (.goto 4, 3) := by decide +kernel
theorem dX7_endsAt_32 : decode cX7_endsAt 32 = .ok (.iconst 0, 1) := by decide +kernel
theorem dX7_endsAt_33 : decode cX7_endsAt 33 = .ok (.iadd, 1) := by decide +kernel
theorem dX7_endsAt_34 : decode cX7_endsAt 34 = .ok (.istore_n 3, 1) := by decide +kernel
theorem dX7_endsAt_35 : decode cX7_endsAt 35 = .ok (.iinc 4 1, 3) := by decide +kernel
theorem dX7_endsAt_38 : decode cX7_endsAt 38 = .ok (.goto (-33), 3) := by decide +kernel
theorem dX7_endsAt_41 : decode cX7_endsAt 41 = .ok (.iload_n 3, 1) := by decide +kernel
theorem dX7_endsAt_42 : decode cX7_endsAt 42 = .ok (.ireturn, 1) := by decide +kernel
set_option maxRecDepth 20000 in
theorem ggX7_firstPlace_X7_isSame : GoodIn wsX7_firstPlace wsX7_isSame := goodIn_r _ [5, 6, 7, 8, 4, 9, 10, 11, 12, 13, 14, 15, 16, 17, 18, 19, 20, 21, 22, 23, 24, 25, 26, 27, 28, 29, 30, 31, 32, 33, 34, 35, 36, 37, 38, 39] (by decide +kernel) (by decide +kernel)
set_option maxRecDepth 20000 in
theorem gX7_firstPlace_X7_isSame : GoodIn wsX7_firstPlace (wsV RX7 161 RX7 yX7_isSame wsX7_isSame) := goodIn_app (goodIn_of _ (by decide +kernel)) ggX7_firstPlace_X7_isSame
theorem dX7_firstPlace_0 : decode cX7_firstPlace 0 = .ok (.iconst 0, 1) := by decide +kernel
theorem dX7_firstPlace_1 : decode cX7_firstPlace 1 = .ok (.istore_n 3, 1) := by decide +kernel
theorem dX7_firstPlace_2 : decode cX7_firstPlace 2 = .ok (.aload_n 0, 1) := by decide +kernel
theorem dX7_firstPlace_3 : decode cX7_firstPlace 3 = .ok (.iload_n 1, 1) := by decide +kernel
theorem dX7_firstPlace_4 : decode cX7_firstPlace 4 = .ok (.iload_n 3, 1) := by decide +kernel
theorem dX7_firstPlace_5 : decode cX7_firstPlace 5 = .ok (.iload_n 2, 1) := by decide +kernel
theorem dX7_firstPlace_6 : decode cX7_firstPlace 6 = .ok (.invokevirtual 161, 3) := by decide +kernel
theorem dX7_firstPlace_9 : decode cX7_firstPlace 9 = .ok (.ifCond .ne 9, 3) := by decide +kernel
theorem dX7_firstPlace_12 : decode cX7_firstPlace 12 = .ok (.iinc 3 1, 3) := by decide +kernel
theorem dX7_firstPlace_15 : decode cX7_firstPlace 15 = .ok (.goto (-13), 3) := by decide +kernel
theorem dX7_firstPlace_18 : decode cX7_firstPlace 18 = .ok (.iload_n 3, 1) := by decide +kernel
theorem dX7_firstPlace_19 : decode cX7_firstPlace 19 = .ok (.ireturn, 1) := by decide +kernel
set_option maxRecDepth 20000 in
theorem ggX7_layClasses_X7_firstPlace : GoodIn wsX7_layClasses wsX7_firstPlace := goodIn_r _ [13, 14, 15, 16, 12, 17, 18, 19, 20, 21, 22, 23, 24, 25, 26, 27, 4, 32, 33, 34, 35, 36, 37, 38, 39, 40, 41, 42, 43, 44, 45, 46, 47, 48, 49, 50, 51, 52, 53, 54] (by decide +kernel) (by decide +kernel)
set_option maxRecDepth 20000 in
theorem gX7_layClasses_X7_firstPlace : GoodIn wsX7_layClasses (wsV RX7 167 RX7 yX7_firstPlace wsX7_firstPlace) := goodIn_app (goodIn_of _ (by decide +kernel)) ggX7_layClasses_X7_firstPlace
set_option maxRecDepth 20000 in
theorem ggX7_layClasses_X7_endsAt : GoodIn wsX7_layClasses wsX7_endsAt := goodIn_r _ [31, 2, 14, 15, 16, 12, 17, 18, 19, 20, 21, 22, 23, 24, 25, 26, 27, 4, 32, 33, 34, 35, 36, 37, 38, 39, 40, 41, 42, 43, 44, 45, 46, 47, 48, 49, 50, 51, 52, 53, 54] (by decide +kernel) (by decide +kernel)
set_option maxRecDepth 20000 in
theorem gX7_layClasses_X7_endsAt : GoodIn wsX7_layClasses (wsV RX7 170 RX7 yX7_endsAt wsX7_endsAt) := goodIn_app (goodIn_of _ (by decide +kernel)) ggX7_layClasses_X7_endsAt
theorem dX7_layClasses_0 : decode cX7_layClasses 0 = .ok (.aload_n 0, 1) := by decide +kernel
theorem dX7_layClasses_1 : decode cX7_layClasses 1 = .ok (.iconst 0, 1) := by decide +kernel
theorem dX7_layClasses_2 : decode cX7_layClasses 2 = .ok (.putfield 164, 3) := by decide +kernel
theorem dX7_layClasses_5 : decode cX7_layClasses 5 = .ok (.iconst 0, 1) := by decide +kernel
theorem dX7_layClasses_6 : decode cX7_layClasses 6 = .ok (.istore_n 1, 1) := by decide +kernel
theorem dX7_layClasses_7 : decode cX7_layClasses 7 = .ok (.iload_n 1, 1) := by decide +kernel
theorem dX7_layClasses_8 : decode cX7_layClasses 8 = .ok (.aload_n 0, 1) := by decide +kernel
theorem dX7_layClasses_9 : decode cX7_layClasses 9 = .ok (.getfield 37, 3) := by decide +kernel
theorem dX7_layClasses_12 : decode cX7_layClasses 12 = .ok (.iconst 0, 1) := by decide +kernel
theorem dX7_layClasses_13 : decode cX7_layClasses 13 = .ok (.iaload, 1) := by decide +kernel
theorem dX7_layClasses_14 : decode cX7_layClasses 14 = .ok (.if_icmp .ge 128, 3) := by decide +kernel
theorem dX7_layClasses_17 : decode cX7_layClasses 17 = .ok (.iconst 0, 1) := by decide +kernel
theorem dX7_layClasses_18 : decode cX7_layClasses 18 = .ok (.istore_n 2, 1) := by decide +kernel
theorem dX7_layClasses_19 : decode cX7_layClasses 19 = .ok (.iconst 1, 1) := by decide +kernel
theorem dX7_layClasses_20 : decode cX7_layClasses 20 = .ok (.istore_n 3, 1) := by decide +kernel
theorem dX7_layClasses_21 : decode cX7_layClasses 21 = .ok (.iload_n 3, 1) := by decide +kernel
theorem dX7_layClasses_22 : decode cX7_layClasses 22 = .ok (.iload_n 1, 1) := by decide +kernel
theorem dX7_layClasses_23 : decode cX7_layClasses 23 = .ok (.aload_n 0, 1) := by decide +kernel
theorem dX7_layClasses_24 : decode cX7_layClasses 24 = .ok (.getfield 31, 3) := by decide +kernel
theorem dX7_layClasses_27 : decode cX7_layClasses 27 = .ok (.aload_n 0, 1) := by decide +kernel
theorem dX7_layClasses_28 : decode cX7_layClasses 28 = .ok (.getfield 28, 3) := by decide +kernel
theorem dX7_layClasses_31 : decode cX7_layClasses 31 = .ok (.iload_n 1, 1) := by decide +kernel
theorem dX7_layClasses_32 : decode cX7_layClasses 32 = .ok (.iaload, 1) := by decide +kernel
theorem dX7_layClasses_33 : decode cX7_layClasses 33 = .ok (.iaload, 1) := by decide +kernel
theorem dX7_layClasses_34 : decode cX7_layClasses 34 = .ok (.isub, 1) := by decide +kernel
theorem dX7_layClasses_35 : decode cX7_layClasses 35 = .ok (.iconst 1, 1) := by decide +kernel
theorem dX7_layClasses_36 : decode cX7_layClasses 36 = .ok (.iadd, 1) := by decide +kernel
theorem dX7_layClasses_37 : decode cX7_layClasses 37 = .ok (.if_icmp .gt 99, 3) := by decide +kernel
theorem dX7_layClasses_40 : decode cX7_layClasses 40 = .ok (.iload_n 1, 1) := by decide +kernel
theorem dX7_layClasses_41 : decode cX7_layClasses 41 = .ok (.iload_n 3, 1) := by decide +kernel
theorem dX7_layClasses_42 : decode cX7_layClasses 42 = .ok (.isub, 1) := by decide +kernel
theorem dX7_layClasses_43 : decode cX7_layClasses 43 = .ok (.iconst 1, 1) := by decide +kernel
theorem dX7_layClasses_44 : decode cX7_layClasses 44 = .ok (.iadd, 1) := by decide +kernel
theorem dX7_layClasses_45 : decode cX7_layClasses 45 = .ok (.istore 4, 2) := by decide +kernel
theorem dX7_layClasses_47 : decode cX7_layClasses 47 = .ok (.aload_n 0, 1) := by decide +kernel
theorem dX7_layClasses_48 : decode cX7_layClasses 48 = .ok (.iload 4, 2) := by decide +kernel
theorem dX7_layClasses_50 : decode cX7_layClasses 50 = .ok (.iload_n 3, 1) := by decide +kernel
theorem dX7_layClasses_51 : decode cX7_layClasses 51 = .ok (.invokevirtual 167, 3) := by decide +kernel
theorem dX7_layClasses_54 : decode cX7_layClasses 54 = .ok (.iload 4, 2) := by decide +kernel
theorem dX7_layClasses_56 : decode cX7_layClasses 56 = .ok (.if_icmp .ne 74, 3) := by decide +kernel
theorem dX7_layClasses_59 : decode cX7_layClasses 59 = .ok (.aload_n 0, 1) := by decide +kernel
theorem dX7_layClasses_60 : decode cX7_layClasses 60 = .ok (.iload 4, 2) := by decide +kernel
theorem dX7_layClasses_62 : decode cX7_layClasses 62 = .ok (.iload_n 3, 1) := by decide +kernel
theorem dX7_layClasses_63 : decode cX7_layClasses 63 = .ok (.invokevirtual 170, 3) := by decide +kernel
theorem dX7_layClasses_66 : decode cX7_layClasses 66 = .ok (.istore 5, 2) := by decide +kernel
theorem dX7_layClasses_68 : decode cX7_layClasses 68 = .ok (.iload 5, 2) := by decide +kernel
theorem dX7_layClasses_70 : decode cX7_layClasses 70 = .ok (.iload_n 2, 1) := by decide +kernel
theorem dX7_layClasses_71 : decode cX7_layClasses 71 = .ok (.if_icmp .eq 47, 3) := by decide +kernel
theorem dX7_layClasses_74 : decode cX7_layClasses 74 = .ok (.aload_n 0, 1) := by decide +kernel
theorem dX7_layClasses_75 : decode cX7_layClasses 75 = .ok (.getfield 52, 3) := by decide +kernel
theorem dX7_layClasses_78 : decode cX7_layClasses 78 = .ok (.aload_n 0, 1) := by decide +kernel
theorem dX7_layClasses_79 : decode cX7_layClasses 79 = .ok (.getfield 164, 3) := by decide +kernel
theorem dX7_layClasses_82 : decode cX7_layClasses 82 = .ok (.iload_n 1, 1) := by decide +kernel
theorem dX7_layClasses_83 : decode cX7_layClasses 83 = .ok (.iastore, 1) := by decide +kernel
theorem dX7_layClasses_84 : decode cX7_layClasses 84 = .ok (.aload_n 0, 1) := by decide +kernel
theorem dX7_layClasses_85 : decode cX7_layClasses 85 = .ok (.getfield 55, 3) := by decide +kernel
theorem dX7_layClasses_88 : decode cX7_layClasses 88 = .ok (.aload_n 0, 1) := by decide +kernel
theorem dX7_layClasses_89 : decode cX7_layClasses 89 = .ok (.getfield 164, 3) := by decide +kernel
theorem dX7_layClasses_92 : decode cX7_layClasses 92 = .ok (.iload_n 3, 1) := by decide +kernel
theorem dX7_layClasses_93 : decode cX7_layClasses 93 = .ok (.iastore, 1) := by decide +kernel
theorem dX7_layClasses_94 : decode cX7_layClasses 94 = .ok (.aload_n 0, 1) := by decide +kernel
theorem dX7_layClasses_95 : decode cX7_layClasses 95 = .ok (.getfield 61, 3) := by decide +kernel
theorem dX7_layClasses_98 : decode cX7_layClasses 98 = .ok (.aload_n 0, 1) := by decide +kernel
theorem dX7_layClasses_99 : decode cX7_layClasses 99 = .ok (.getfield 164, 3) := by decide +kernel
theorem dX7_layClasses_102 : decode cX7_layClasses 102 = .ok (.iload 5, 2) := by decide +kernel
theorem dX7_layClasses_104 : decode cX7_layClasses 104 = .ok (.iastore, 1) := by decide +kernel
theorem dX7_layClasses_105 : decode cX7_layClasses 105 = .ok (.aload_n 0, 1) := by decide +kernel
theorem dX7_layClasses_106 : decode cX7_layClasses 106 = .ok (.dup, 1) := by decide +kernel
theorem dX7_layClasses_107 : decode cX7_layClasses 107 = .ok (.getfield 164, 3) := by decide +kernel
theorem dX7_layClasses_110 : decode cX7_layClasses 110 = .ok (.iconst 1, 1) := by decide +kernel
theorem dX7_layClasses_111 : decode cX7_layClasses 111 = .ok (.iadd, 1) := by decide +kernel
theorem dX7_layClasses_112 : decode cX7_layClasses 112 = .ok (.putfield 164, 3) := by decide +kernel
theorem dX7_layClasses_115 : decode cX7_layClasses 115 = .ok (.iload 5, 2) := by decide +kernel
theorem dX7_layClasses_117 : decode cX7_layClasses 117 = .ok (.istore_n 2, 1) := by decide +kernel
theorem dX7_layClasses_118 : decode cX7_layClasses 118 = .ok (.aload_n 0, 1) := by decide +kernel
theorem dX7_layClasses_119 : decode cX7_layClasses 119 = .ok (.getfield 58, 3) := by decide +kernel
theorem dX7_layClasses_122 : decode cX7_layClasses 122 = .ok (.aload_n 0, 1) := by decide +kernel
theorem dX7_layClasses_123 : decode cX7_layClasses 123 = .ok (.getfield 164, 3) := by decide +kernel
theorem dX7_layClasses_126 : decode cX7_layClasses 126 = .ok (.iconst 1, 1) := by decide +kernel
theorem dX7_layClasses_127 : decode cX7_layClasses 127 = .ok (.isub, 1) := by decide +kernel
theorem dX7_layClasses_128 : decode cX7_layClasses 128 = .ok (.iload_n 3, 1) := by decide +kernel
theorem dX7_layClasses_129 : decode cX7_layClasses 129 = .ok (.iastore, 1) := by decide +kernel
theorem dX7_layClasses_130 : decode cX7_layClasses 130 = .ok (.iinc 3 1, 3) := by decide +kernel
theorem dX7_layClasses_133 : decode cX7_layClasses 133 = .ok (.goto (-112), 3) := by decide +kernel
theorem dX7_layClasses_136 : decode cX7_layClasses 136 = .ok (.iinc 1 1, 3) := by decide +kernel
theorem dX7_layClasses_139 : decode cX7_layClasses 139 = .ok (.goto (-132), 3) := by decide +kernel
theorem dX7_layClasses_142 : decode cX7_layClasses 142 = .ok (.return_, 1) := by decide +kernel
set_option maxRecDepth 20000 in
theorem ggX7_classAt_X7_firstPlace : GoodIn wsX7_classAt wsX7_firstPlace := goodIn_r _ [9, 10, 11, 12, 8, 13, 14, 15, 16, 17, 18, 19, 20, 21, 22, 23, 24, 28, 29, 30, 31, 32, 33, 34, 35, 36, 37, 38, 39, 40, 41, 42, 43, 44, 45, 46, 47, 48, 49, 50] (by decide +kernel) (by decide +kernel)
set_option maxRecDepth 20000 in
theorem gX7_classAt_X7_firstPlace : GoodIn wsX7_classAt (wsV RX7 167 RX7 yX7_firstPlace wsX7_firstPlace) := goodIn_app (goodIn_of _ (by decide +kernel)) ggX7_classAt_X7_firstPlace
set_option maxRecDepth 20000 in
theorem ggX7_classAt_X7_in : GoodIn wsX7_classAt wsX7_in := goodIn_r _ [27] (by decide +kernel) (by decide +kernel)
set_option maxRecDepth 20000 in
theorem gX7_classAt_X7_in : GoodIn wsX7_classAt (va_wsS RX7 97 yX7_in wsX7_in) := goodIn_app (goodIn_of _ (by decide +kernel)) ggX7_classAt_X7_in
theorem dX7_classAt_0 : decode cX7_classAt 0 = .ok (.aload_n 0, 1) := by decide +kernel
theorem dX7_classAt_1 : decode cX7_classAt 1 = .ok (.iload_n 1, 1) := by decide +kernel
theorem dX7_classAt_2 : decode cX7_classAt 2 = .ok (.iload_n 2, 1) := by decide +kernel
theorem dX7_classAt_3 : decode cX7_classAt 3 = .ok (.invokevirtual 167, 3) := by decide +kernel
theorem dX7_classAt_6 : decode cX7_classAt 6 = .ok (.iload_n 2, 1) := by decide +kernel
theorem dX7_classAt_7 : decode cX7_classAt 7 = .ok (.iadd, 1) := by decide +kernel
theorem dX7_classAt_8 : decode cX7_classAt 8 = .ok (.iconst 1, 1) := by decide +kernel
theorem dX7_classAt_9 : decode cX7_classAt 9 = .ok (.isub, 1) := by decide +kernel
theorem dX7_classAt_10 : decode cX7_classAt 10 = .ok (.istore_n 3, 1) := by decide +kernel
theorem dX7_classAt_11 : decode cX7_classAt 11 = .ok (.iconst 0, 1) := by decide +kernel
theorem dX7_classAt_12 : decode cX7_classAt 12 = .ok (.istore 4, 2) := by decide +kernel
theorem dX7_classAt_14 : decode cX7_classAt 14 = .ok (.iload 4, 2) := by decide +kernel
theorem dX7_classAt_16 : decode cX7_classAt 16 = .ok (.aload_n 0, 1) := by decide +kernel
theorem dX7_classAt_17 : decode cX7_classAt 17 = .ok (.getfield 164, 3) := by decide +kernel
theorem dX7_classAt_20 : decode cX7_classAt 20 = .ok (.if_icmp .ge 44, 3) := by decide +kernel
theorem dX7_classAt_23 : decode cX7_classAt 23 = .ok (.aload_n 0, 1) := by decide +kernel
theorem dX7_classAt_24 : decode cX7_classAt 24 = .ok (.getfield 52, 3) := by decide +kernel
theorem dX7_classAt_27 : decode cX7_classAt 27 = .ok (.iload 4, 2) := by decide +kernel
theorem dX7_classAt_29 : decode cX7_classAt 29 = .ok (.iaload, 1) := by decide +kernel
theorem dX7_classAt_30 : decode cX7_classAt 30 = .ok (.iload_n 3, 1) := by decide +kernel
theorem dX7_classAt_31 : decode cX7_classAt 31 = .ok (.if_icmp .ne 27, 3) := by decide +kernel
theorem dX7_classAt_34 : decode cX7_classAt 34 = .ok (.iload_n 2, 1) := by decide +kernel
theorem dX7_classAt_35 : decode cX7_classAt 35 = .ok (.aload_n 0, 1) := by decide +kernel
theorem dX7_classAt_36 : decode cX7_classAt 36 = .ok (.getfield 55, 3) := by decide +kernel
theorem dX7_classAt_39 : decode cX7_classAt 39 = .ok (.iload 4, 2) := by decide +kernel
theorem dX7_classAt_41 : decode cX7_classAt 41 = .ok (.iaload, 1) := by decide +kernel
theorem dX7_classAt_42 : decode cX7_classAt 42 = .ok (.aload_n 0, 1) := by decide +kernel
theorem dX7_classAt_43 : decode cX7_classAt 43 = .ok (.getfield 58, 3) := by decide +kernel
theorem dX7_classAt_46 : decode cX7_classAt 46 = .ok (.iload 4, 2) := by decide +kernel
theorem dX7_classAt_48 : decode cX7_classAt 48 = .ok (.iaload, 1) := by decide +kernel
theorem dX7_classAt_49 : decode cX7_classAt 49 = .ok (.invokestatic 97, 3) := by decide +kernel
theorem dX7_classAt_52 : decode cX7_classAt 52 = .ok (.ifCond .eq 6, 3) := by decide +kernel
theorem dX7_classAt_55 : decode cX7_classAt 55 = .ok (.iload 4, 2) := by decide +kernel
theorem dX7_classAt_57 : decode cX7_classAt 57 = .ok (.ireturn, 1) := by decide +kernel
theorem dX7_classAt_58 : decode cX7_classAt 58 = .ok (.iinc 4 1, 3) := by decide +kernel
theorem dX7_classAt_61 : decode cX7_classAt 61 = .ok (.goto (-47), 3) := by decide +kernel
theorem dX7_classAt_64 : decode cX7_classAt 64 = .ok (.bipush (-6), 2) := by decide +kernel
theorem dX7_classAt_66 : decode cX7_classAt 66 = .ok (.ireturn, 1) := by decide +kernel
set_option maxRecDepth 20000 in
theorem ggX7_nextOf_X7_isSame : GoodIn wsX7_nextOf wsX7_isSame := goodIn_r _ [6, 7, 8, 9, 5, 10, 11, 12, 13, 14, 15, 16, 17, 22, 23, 24, 25, 26, 27, 28, 29, 30, 31, 32, 33, 34, 35, 36, 37, 38, 39, 40, 41, 42, 43, 44] (by decide +kernel) (by decide +kernel)
set_option maxRecDepth 20000 in
theorem gX7_nextOf_X7_isSame : GoodIn wsX7_nextOf (wsV RX7 161 RX7 yX7_isSame wsX7_isSame) := goodIn_app (goodIn_of _ (by decide +kernel)) ggX7_nextOf_X7_isSame
set_option maxRecDepth 20000 in
theorem ggX7_nextOf_X7_rest : GoodIn wsX7_nextOf wsX7_rest := goodIn_r _ [15, 16, 17, 22, 23, 24, 25, 26, 27, 28, 29, 30, 31, 32, 33, 34, 35, 36, 37, 38, 39, 40, 41, 42, 43, 44] (by decide +kernel) (by decide +kernel)
set_option maxRecDepth 20000 in
theorem gX7_nextOf_X7_rest : GoodIn wsX7_nextOf (wsV RX7 78 RX7 yX7_rest wsX7_rest) := goodIn_app (goodIn_of _ (by decide +kernel)) ggX7_nextOf_X7_rest
set_option maxRecDepth 20000 in
theorem ggX7_nextOf_X7_letterAt : GoodIn wsX7_nextOf wsX7_letterAt := goodIn_r _ [21, 11, 22, 23, 24, 25, 26, 27, 28, 29, 30, 31, 32, 33, 34, 35, 36, 37, 38, 39, 40, 41, 42, 43, 44] (by decide +kernel) (by decide +kernel)
set_option maxRecDepth 20000 in
theorem gX7_nextOf_X7_letterAt : GoodIn wsX7_nextOf (wsV RX7 127 RX7 yX7_letterAt wsX7_letterAt) := goodIn_app (goodIn_of _ (by decide +kernel)) ggX7_nextOf_X7_letterAt
theorem dX7_nextOf_0 : decode cX7_nextOf 0 = .ok (.iconst 0, 1) := by decide +kernel
theorem dX7_nextOf_1 : decode cX7_nextOf 1 = .ok (.istore_n 3, 1) := by decide +kernel
theorem dX7_nextOf_2 : decode cX7_nextOf 2 = .ok (.iconst 0, 1) := by decide +kernel
theorem dX7_nextOf_3 : decode cX7_nextOf 3 = .ok (.istore 4, 2) := by decide +kernel
theorem dX7_nextOf_5 : decode cX7_nextOf 5 = .ok (.iload 4, 2) := by decide +kernel
theorem dX7_nextOf_7 : decode cX7_nextOf 7 = .ok (.aload_n 0, 1) := by decide +kernel
theorem dX7_nextOf_8 : decode cX7_nextOf 8 = .ok (.getfield 37, 3) := by decide +kernel
theorem dX7_nextOf_11 : decode cX7_nextOf 11 = .ok (.iconst 0, 1) := by decide +kernel
theorem dX7_nextOf_12 : decode cX7_nextOf 12 = .ok (.iaload, 1) := by decide +kernel
theorem dX7_nextOf_13 : decode cX7_nextOf 13 = .ok (.if_icmp .ge 48, 3) := by decide +kernel
theorem dX7_nextOf_16 : decode cX7_nextOf 16 = .ok (.iload_n 3, 1) := by decide +kernel
theorem dX7_nextOf_17 : decode cX7_nextOf 17 = .ok (.aload_n 0, 1) := by decide +kernel
theorem dX7_nextOf_18 : decode cX7_nextOf 18 = .ok (.iload_n 1, 1) := by decide +kernel
theorem dX7_nextOf_19 : decode cX7_nextOf 19 = .ok (.iload 4, 2) := by decide +kernel
theorem dX7_nextOf_21 : decode cX7_nextOf 21 = .ok (.iload_n 2, 1) := by decide +kernel
theorem dX7_nextOf_22 : decode cX7_nextOf 22 = .ok (.invokevirtual 161, 3) := by decide +kernel
theorem dX7_nextOf_25 : decode cX7_nextOf 25 = .ok (.ifCond .eq 27, 3) := by decide +kernel
theorem dX7_nextOf_28 : decode cX7_nextOf 28 = .ok (.aload_n 0, 1) := by decide +kernel
theorem dX7_nextOf_29 : decode cX7_nextOf 29 = .ok (.iconst 0, 1) := by decide +kernel
theorem dX7_nextOf_30 : decode cX7_nextOf 30 = .ok (.iload 4, 2) := by decide +kernel
theorem dX7_nextOf_32 : decode cX7_nextOf 32 = .ok (.invokevirtual 78, 3) := by decide +kernel
theorem dX7_nextOf_35 : decode cX7_nextOf 35 = .ok (.iload_n 2, 1) := by decide +kernel
theorem dX7_nextOf_36 : decode cX7_nextOf 36 = .ok (.if_icmp .le 16, 3) := by decide +kernel
theorem dX7_nextOf_39 : decode cX7_nextOf 39 = .ok (.iconst 1, 1) := by decide +kernel
theorem dX7_nextOf_40 : decode cX7_nextOf 40 = .ok (.aload_n 0, 1) := by decide +kernel
theorem dX7_nextOf_41 : decode cX7_nextOf 41 = .ok (.iload 4, 2) := by decide +kernel
theorem dX7_nextOf_43 : decode cX7_nextOf 43 = .ok (.iload_n 2, 1) := by decide +kernel
theorem dX7_nextOf_44 : decode cX7_nextOf 44 = .ok (.iadd, 1) := by decide +kernel
theorem dX7_nextOf_45 : decode cX7_nextOf 45 = .ok (.invokevirtual 127, 3) := by decide +kernel
theorem dX7_nextOf_48 : decode cX7_nextOf 48 = .ok (.ishl, 1) := by decide +kernel
theorem dX7_nextOf_49 : decode cX7_nextOf 49 = .ok (.goto 4, 3) := by decide +kernel
theorem dX7_nextOf_52 : decode cX7_nextOf 52 = .ok (.iconst 0, 1) := by decide +kernel
theorem dX7_nextOf_53 : decode cX7_nextOf 53 = .ok (.ior, 1) := by decide +kernel
theorem dX7_nextOf_54 : decode cX7_nextOf 54 = .ok (.istore_n 3, 1) := by decide +kernel
theorem dX7_nextOf_55 : decode cX7_nextOf 55 = .ok (.iinc 4 1, 3) := by decide +kernel
theorem dX7_nextOf_58 : decode cX7_nextOf 58 = .ok (.goto (-53), 3) := by decide +kernel
theorem dX7_nextOf_61 : decode cX7_nextOf 61 = .ok (.iload_n 3, 1) := by decide +kernel
theorem dX7_nextOf_62 : decode cX7_nextOf 62 = .ok (.ireturn, 1) := by decide +kernel
theorem dX7_firstOf_0 : decode cX7_firstOf 0 = .ok (.aload_n 0, 1) := by decide +kernel
theorem dX7_firstOf_1 : decode cX7_firstOf 1 = .ok (.getfield 52, 3) := by decide +kernel
theorem dX7_firstOf_4 : decode cX7_firstOf 4 = .ok (.iload_n 1, 1) := by decide +kernel
theorem dX7_firstOf_5 : decode cX7_firstOf 5 = .ok (.iaload, 1) := by decide +kernel
theorem dX7_firstOf_6 : decode cX7_firstOf 6 = .ok (.aload_n 0, 1) := by decide +kernel
theorem dX7_firstOf_7 : decode cX7_firstOf 7 = .ok (.getfield 58, 3) := by decide +kernel
theorem dX7_firstOf_10 : decode cX7_firstOf 10 = .ok (.iload_n 1, 1) := by decide +kernel
theorem dX7_firstOf_11 : decode cX7_firstOf 11 = .ok (.iaload, 1) := by decide +kernel
theorem dX7_firstOf_12 : decode cX7_firstOf 12 = .ok (.isub, 1) := by decide +kernel
theorem dX7_firstOf_13 : decode cX7_firstOf 13 = .ok (.iconst 1, 1) := by decide +kernel
theorem dX7_firstOf_14 : decode cX7_firstOf 14 = .ok (.iadd, 1) := by decide +kernel
theorem dX7_firstOf_15 : decode cX7_firstOf 15 = .ok (.ireturn, 1) := by decide +kernel
set_option maxRecDepth 20000 in
theorem ggX7_linkOf_X7_classAt : GoodIn wsX7_linkOf wsX7_classAt := goodIn_r _ [7, 8, 2, 1, 9, 10, 11, 12, 6, 13, 14, 15, 16, 17, 18, 19, 20, 21, 22, 23, 24, 25, 26, 27, 28, 29, 30, 31, 32, 33, 34, 35, 36, 37, 38, 39, 40, 41, 42, 43, 44, 45, 46, 47, 48, 49, 50, 51, 52, 53, 54] (by decide +kernel) (by decide +kernel)
set_option maxRecDepth 20000 in
theorem gX7_linkOf_X7_classAt : GoodIn wsX7_linkOf (wsV RX7 143 RX7 yX7_classAt wsX7_classAt) := goodIn_app (goodIn_of _ (by decide +kernel)) ggX7_linkOf_X7_classAt
theorem dX7_linkOf_0 : decode cX7_linkOf 0 = .ok (.aload_n 0, 1) := by decide +kernel
theorem dX7_linkOf_1 : decode cX7_linkOf 1 = .ok (.getfield 55, 3) := by decide +kernel
theorem dX7_linkOf_4 : decode cX7_linkOf 4 = .ok (.iload_n 1, 1) := by decide +kernel
theorem dX7_linkOf_5 : decode cX7_linkOf 5 = .ok (.iaload, 1) := by decide +kernel
theorem dX7_linkOf_6 : decode cX7_linkOf 6 = .ok (.iconst 1, 1) := by decide +kernel
theorem dX7_linkOf_7 : decode cX7_linkOf 7 = .ok (.isub, 1) := by decide +kernel
theorem dX7_linkOf_8 : decode cX7_linkOf 8 = .ok (.istore_n 2, 1) := by decide +kernel
theorem dX7_linkOf_9 : decode cX7_linkOf 9 = .ok (.iload_n 2, 1) := by decide +kernel
theorem dX7_linkOf_10 : decode cX7_linkOf 10 = .ok (.ifCond .ne 8, 3) := by decide +kernel
theorem dX7_linkOf_13 : decode cX7_linkOf 13 = .ok (.bipush (-6), 2) := by decide +kernel
theorem dX7_linkOf_15 : decode cX7_linkOf 15 = .ok (.goto 18, 3) := by decide +kernel
theorem dX7_linkOf_18 : decode cX7_linkOf 18 = .ok (.aload_n 0, 1) := by decide +kernel
theorem dX7_linkOf_19 : decode cX7_linkOf 19 = .ok (.aload_n 0, 1) := by decide +kernel
theorem dX7_linkOf_20 : decode cX7_linkOf 20 = .ok (.getfield 52, 3) := by decide +kernel
theorem dX7_linkOf_23 : decode cX7_linkOf 23 = .ok (.iload_n 1, 1) := by decide +kernel
theorem dX7_linkOf_24 : decode cX7_linkOf 24 = .ok (.iaload, 1) := by decide +kernel
theorem dX7_linkOf_25 : decode cX7_linkOf 25 = .ok (.iload_n 2, 1) := by decide +kernel
theorem dX7_linkOf_26 : decode cX7_linkOf 26 = .ok (.isub, 1) := by decide +kernel
theorem dX7_linkOf_27 : decode cX7_linkOf 27 = .ok (.iconst 1, 1) := by decide +kernel
theorem dX7_linkOf_28 : decode cX7_linkOf 28 = .ok (.iadd, 1) := by decide +kernel
theorem dX7_linkOf_29 : decode cX7_linkOf 29 = .ok (.iload_n 2, 1) := by decide +kernel
theorem dX7_linkOf_30 : decode cX7_linkOf 30 = .ok (.invokevirtual 143, 3) := by decide +kernel
theorem dX7_linkOf_33 : decode cX7_linkOf 33 = .ok (.ireturn, 1) := by decide +kernel
set_option maxRecDepth 20000 in
theorem ggX7_wordsOfClass_X7_firstOf : GoodIn wsX7_wordsOfClass wsX7_firstOf := goodIn_r _ [8, 9, 2, 24, 25, 26, 27, 28, 29, 30, 31, 32, 33, 34, 35, 36, 37, 38, 39, 40, 41, 42, 43, 44, 45, 46] (by decide +kernel) (by decide +kernel)
set_option maxRecDepth 20000 in
theorem gX7_wordsOfClass_X7_firstOf : GoodIn wsX7_wordsOfClass (wsV RX7 173 RX7 yX7_firstOf wsX7_firstOf) := goodIn_app (goodIn_of _ (by decide +kernel)) ggX7_wordsOfClass_X7_firstOf
set_option maxRecDepth 20000 in
theorem ggX7_wordsOfClass_X7_isSame : GoodIn wsX7_wordsOfClass wsX7_isSame := goodIn_r _ [13, 14, 15, 16, 7, 17, 18, 19, 20, 21, 22, 23, 3, 24, 25, 26, 27, 28, 29, 30, 31, 32, 33, 34, 35, 36, 37, 38, 39, 40, 41, 42, 43, 44, 45, 46] (by decide +kernel) (by decide +kernel)
set_option maxRecDepth 20000 in
theorem gX7_wordsOfClass_X7_isSame : GoodIn wsX7_wordsOfClass (wsV RX7 161 RX7 yX7_isSame wsX7_isSame) := goodIn_app (goodIn_of _ (by decide +kernel)) ggX7_wordsOfClass_X7_isSame
theorem dX7_wordsOfClass_0 : decode cX7_wordsOfClass 0 = .ok (.iconst 0, 1) := by decide +kernel
theorem dX7_wordsOfClass_1 : decode cX7_wordsOfClass 1 = .ok (.istore_n 2, 1) := by decide +kernel
theorem dX7_wordsOfClass_2 : decode cX7_wordsOfClass 2 = .ok (.iconst 0, 1) := by decide +kernel
theorem dX7_wordsOfClass_3 : decode cX7_wordsOfClass 3 = .ok (.istore_n 3, 1) := by decide +kernel
theorem dX7_wordsOfClass_4 : decode cX7_wordsOfClass 4 = .ok (.iload_n 3, 1) := by decide +kernel
theorem dX7_wordsOfClass_5 : decode cX7_wordsOfClass 5 = .ok (.aload_n 0, 1) := by decide +kernel
theorem dX7_wordsOfClass_6 : decode cX7_wordsOfClass 6 = .ok (.getfield 37, 3) := by decide +kernel
theorem dX7_wordsOfClass_9 : decode cX7_wordsOfClass 9 = .ok (.iconst 0, 1) := by decide +kernel
theorem dX7_wordsOfClass_10 : decode cX7_wordsOfClass 10 = .ok (.iaload, 1) := by decide +kernel
theorem dX7_wordsOfClass_11 : decode cX7_wordsOfClass 11 = .ok (.if_icmp .ge 43, 3) := by decide +kernel
theorem dX7_wordsOfClass_14 : decode cX7_wordsOfClass 14 = .ok (.iload_n 2, 1) := by decide +kernel
theorem dX7_wordsOfClass_15 : decode cX7_wordsOfClass 15 = .ok (.aload_n 0, 1) := by decide +kernel
theorem dX7_wordsOfClass_16 : decode cX7_wordsOfClass 16 = .ok (.aload_n 0, 1) := by decide +kernel
theorem dX7_wordsOfClass_17 : decode cX7_wordsOfClass 17 = .ok (.iload_n 1, 1) := by decide +kernel
theorem dX7_wordsOfClass_18 : decode cX7_wordsOfClass 18 = .ok (.invokevirtual 173, 3) := by decide +kernel
theorem dX7_wordsOfClass_21 : decode cX7_wordsOfClass 21 = .ok (.iload_n 3, 1) := by decide +kernel
theorem dX7_wordsOfClass_22 : decode cX7_wordsOfClass 22 = .ok (.aload_n 0, 1) := by decide +kernel
theorem dX7_wordsOfClass_23 : decode cX7_wordsOfClass 23 = .ok (.getfield 58, 3) := by decide +kernel
theorem dX7_wordsOfClass_26 : decode cX7_wordsOfClass 26 = .ok (.iload_n 1, 1) := by decide +kernel
theorem dX7_wordsOfClass_27 : decode cX7_wordsOfClass 27 = .ok (.iaload, 1) := by decide +kernel
theorem dX7_wordsOfClass_28 : decode cX7_wordsOfClass 28 = .ok (.invokevirtual 161, 3) := by decide +kernel
theorem dX7_wordsOfClass_31 : decode cX7_wordsOfClass 31 = .ok (.ifCond .eq 14, 3) := by decide +kernel
theorem dX7_wordsOfClass_34 : decode cX7_wordsOfClass 34 = .ok (.iconst 1, 1) := by decide +kernel
theorem dX7_wordsOfClass_35 : decode cX7_wordsOfClass 35 = .ok (.aload_n 0, 1) := by decide +kernel
theorem dX7_wordsOfClass_36 : decode cX7_wordsOfClass 36 = .ok (.getfield 28, 3) := by decide +kernel
theorem dX7_wordsOfClass_39 : decode cX7_wordsOfClass 39 = .ok (.iload_n 3, 1) := by decide +kernel
theorem dX7_wordsOfClass_40 : decode cX7_wordsOfClass 40 = .ok (.iaload, 1) := by decide +kernel
theorem dX7_wordsOfClass_41 : decode cX7_wordsOfClass 41 = .ok (.ishl, 1) := by decide +kernel
theorem dX7_wordsOfClass_42 : decode cX7_wordsOfClass 42 = .ok (.goto 4, 3) := by decide +kernel
theorem dX7_wordsOfClass_45 : decode cX7_wordsOfClass 45 = .ok (.iconst 0, 1) := by decide +kernel
theorem dX7_wordsOfClass_46 : decode cX7_wordsOfClass 46 = .ok (.ior, 1) := by decide +kernel
theorem dX7_wordsOfClass_47 : decode cX7_wordsOfClass 47 = .ok (.istore_n 2, 1) := by decide +kernel
theorem dX7_wordsOfClass_48 : decode cX7_wordsOfClass 48 = .ok (.iinc 3 1, 3) := by decide +kernel
theorem dX7_wordsOfClass_51 : decode cX7_wordsOfClass 51 = .ok (.goto (-47), 3) := by decide +kernel
theorem dX7_wordsOfClass_54 : decode cX7_wordsOfClass 54 = .ok (.iload_n 2, 1) := by decide +kernel
theorem dX7_wordsOfClass_55 : decode cX7_wordsOfClass 55 = .ok (.ireturn, 1) := by decide +kernel
set_option maxRecDepth 20000 in
theorem ggX7_isClass_X7_layPresent : GoodIn wsX7_isClass wsX7_layPresent := goodIn_r _ [6, 7, 8, 9, 10, 5, 11, 12, 13, 14, 15, 16, 17, 18, 19, 20, 52, 53, 54, 55, 56, 57, 58, 59, 60, 61, 62, 63, 64, 65, 66, 67, 68, 69, 70, 71, 72, 73, 74] (by decide +kernel) (by decide +kernel)
set_option maxRecDepth 20000 in
theorem gX7_isClass_X7_layPresent : GoodIn wsX7_isClass (wsV RX7 124 RX7 yX7_layPresent wsX7_layPresent) := goodIn_app (goodIn_of _ (by decide +kernel)) ggX7_isClass_X7_layPresent
set_option maxRecDepth 20000 in
theorem ggX7_isClass_X7_layClasses : GoodIn wsX7_isClass wsX7_layClasses := goodIn_r _ [24, 1, 15, 17, 20, 25, 26, 27, 28, 29, 30, 31, 5, 32, 33, 34, 35, 36, 37, 38, 39, 40, 19, 41, 42, 43, 44, 18, 45, 46, 47, 48, 52, 53, 54, 55, 56, 57, 58, 59, 60, 61, 62, 63, 64, 65, 66, 67, 68, 69, 70, 71, 72, 73, 74] (by decide +kernel) (by decide +kernel)
set_option maxRecDepth 20000 in
theorem gX7_isClass_X7_layClasses : GoodIn wsX7_isClass (wsV RX7 140 RX7 yX7_layClasses wsX7_layClasses) := goodIn_app (goodIn_of _ (by decide +kernel)) ggX7_isClass_X7_layClasses
set_option maxRecDepth 20000 in
theorem ggX7_isClass_X7_in : GoodIn wsX7_isClass wsX7_in := goodIn_r _ [51] (by decide +kernel) (by decide +kernel)
set_option maxRecDepth 20000 in
theorem gX7_isClass_X7_in : GoodIn wsX7_isClass (va_wsS RX7 97 yX7_in wsX7_in) := goodIn_app (goodIn_of _ (by decide +kernel)) ggX7_isClass_X7_in
theorem dX7_isClass_0 : decode cX7_isClass 0 = .ok (.aload_n 0, 1) := by decide +kernel
theorem dX7_isClass_1 : decode cX7_isClass 1 = .ok (.invokevirtual 124, 3) := by decide +kernel
theorem dX7_isClass_4 : decode cX7_isClass 4 = .ok (.aload_n 0, 1) := by decide +kernel
theorem dX7_isClass_5 : decode cX7_isClass 5 = .ok (.invokevirtual 140, 3) := by decide +kernel
theorem dX7_isClass_8 : decode cX7_isClass 8 = .ok (.iload_n 1, 1) := by decide +kernel
theorem dX7_isClass_9 : decode cX7_isClass 9 = .ok (.iconst 0, 1) := by decide +kernel
theorem dX7_isClass_10 : decode cX7_isClass 10 = .ok (.aload_n 0, 1) := by decide +kernel
theorem dX7_isClass_11 : decode cX7_isClass 11 = .ok (.getfield 164, 3) := by decide +kernel
theorem dX7_isClass_14 : decode cX7_isClass 14 = .ok (.iconst 1, 1) := by decide +kernel
theorem dX7_isClass_15 : decode cX7_isClass 15 = .ok (.isub, 1) := by decide +kernel
theorem dX7_isClass_16 : decode cX7_isClass 16 = .ok (.invokestatic 97, 3) := by decide +kernel
theorem dX7_isClass_19 : decode cX7_isClass 19 = .ok (.ireturn, 1) := by decide +kernel
set_option maxRecDepth 20000 in
theorem ggX7_group_X7_isClass : GoodIn wsX7_group wsX7_isClass := goodIn_r _ [9, 10, 11, 12, 13, 8, 14, 15, 16, 17, 18, 19, 20, 21, 22, 23, 24, 25, 26, 27, 28, 29, 30, 31, 32, 4, 2, 3, 1, 33, 34, 35, 36, 37, 38, 39, 40, 41, 42, 43, 44, 45, 46, 47, 48, 49, 50, 51, 52, 53, 54, 55, 84, 85, 86, 87, 88, 89, 90, 91, 92, 93, 94, 95, 96, 97, 98, 99, 100, 101, 102, 103, 104, 105, 106] (by decide +kernel) (by decide +kernel)
set_option maxRecDepth 20000 in
theorem gX7_group_X7_isClass : GoodIn wsX7_group (wsV RX7 176 RX7 yX7_isClass wsX7_isClass) := goodIn_app (goodIn_of _ (by decide +kernel)) ggX7_group_X7_isClass
set_option maxRecDepth 20000 in
theorem ggX7_group_X7_linkOf : GoodIn wsX7_group wsX7_linkOf := goodIn_r _ [59, 2, 4, 60, 61, 62, 8, 63, 10, 1, 33, 34, 35, 36, 37, 38, 39, 40, 41, 42, 43, 44, 27, 45, 46, 47, 48, 26, 28, 53, 54, 55, 84, 85, 86, 87, 88, 89, 90, 91, 92, 93, 94, 95, 96, 97, 98, 99, 100, 101, 102, 103, 104, 105, 106] (by decide +kernel) (by decide +kernel)
set_option maxRecDepth 20000 in
theorem gX7_group_X7_linkOf : GoodIn wsX7_group (wsV RX7 179 RX7 yX7_linkOf wsX7_linkOf) := goodIn_app (goodIn_of _ (by decide +kernel)) ggX7_group_X7_linkOf
set_option maxRecDepth 20000 in
theorem ggX7_group_X7_firstOf : GoodIn wsX7_group wsX7_firstOf := goodIn_r _ [67, 4, 1, 84, 85, 86, 87, 88, 89, 90, 91, 92, 93, 94, 95, 96, 97, 98, 99, 100, 101, 102, 103, 104, 105, 106] (by decide +kernel) (by decide +kernel)
set_option maxRecDepth 20000 in
theorem gX7_group_X7_firstOf : GoodIn wsX7_group (wsV RX7 173 RX7 yX7_firstOf wsX7_firstOf) := goodIn_app (goodIn_of _ (by decide +kernel)) ggX7_group_X7_firstOf
set_option maxRecDepth 20000 in
theorem ggX7_group_X7_nextOf : GoodIn wsX7_group wsX7_nextOf := goodIn_r _ [71, 23, 37, 38, 39, 8, 40, 41, 42, 43, 44, 27, 45, 46, 47, 48, 26, 28, 72, 73, 74, 75, 84, 85, 86, 87, 88, 89, 90, 91, 92, 93, 94, 95, 96, 97, 98, 99, 100, 101, 102, 103, 104, 105, 106] (by decide +kernel) (by decide +kernel)
set_option maxRecDepth 20000 in
theorem gX7_group_X7_nextOf : GoodIn wsX7_group (wsV RX7 182 RX7 yX7_nextOf wsX7_nextOf) := goodIn_app (goodIn_of _ (by decide +kernel)) ggX7_group_X7_nextOf
set_option maxRecDepth 20000 in
theorem ggX7_group_X7_wordsOfClass : GoodIn wsX7_group wsX7_wordsOfClass := goodIn_r _ [79, 23, 1, 28, 64, 65, 66, 8, 67, 4, 37, 38, 39, 40, 41, 42, 43, 44, 27, 45, 46, 47, 48, 26, 84, 85, 86, 87, 88, 89, 90, 91, 92, 93, 94, 95, 96, 97, 98, 99, 100, 101, 102, 103, 104, 105, 106] (by decide +kernel) (by decide +kernel)
set_option maxRecDepth 20000 in
theorem gX7_group_X7_wordsOfClass : GoodIn wsX7_group (wsV RX7 185 RX7 yX7_wordsOfClass wsX7_wordsOfClass) := goodIn_app (goodIn_of _ (by decide +kernel)) ggX7_group_X7_wordsOfClass
set_option maxRecDepth 20000 in
theorem ggX7_group_X7_asEnd : GoodIn wsX7_group wsX7_asEnd := goodIn_r _ [83, 28, 25, 84, 85, 86, 87, 88, 89, 90, 91, 92, 93, 94, 95, 96, 97, 98, 99, 100, 101, 102, 103, 104, 105, 106] (by decide +kernel) (by decide +kernel)
set_option maxRecDepth 20000 in
theorem gX7_group_X7_asEnd : GoodIn wsX7_group (wsV RX7 149 RX7 yX7_asEnd wsX7_asEnd) := goodIn_app (goodIn_of _ (by decide +kernel)) ggX7_group_X7_asEnd
theorem dX7_group_0 : decode cX7_group 0 = .ok (.aload_n 0, 1) := by decide +kernel
theorem dX7_group_1 : decode cX7_group 1 = .ok (.iload_n 1, 1) := by decide +kernel
theorem dX7_group_2 : decode cX7_group 2 = .ok (.invokevirtual 176, 3) := by decide +kernel
theorem dX7_group_5 : decode cX7_group 5 = .ok (.ifCond .ne 5, 3) := by decide +kernel
theorem dX7_group_8 : decode cX7_group 8 = .ok (.iconst (-1), 1) := by decide +kernel
theorem dX7_group_9 : decode cX7_group 9 = .ok (.ireturn, 1) := by decide +kernel
theorem dX7_group_10 : decode cX7_group 10 = .ok (.iload_n 2, 1) := by decide +kernel
theorem dX7_group_11 : decode cX7_group 11 = .ok (.tableswitch 101 0 6 #[41, 48, 55, 62, 68, 84, 90], 41) := by decide +kernel
theorem dX7_group_52 : decode cX7_group 52 = .ok (.aload_n 0, 1) := by decide +kernel
theorem dX7_group_53 : decode cX7_group 53 = .ok (.getfield 58, 3) := by decide +kernel
theorem dX7_group_56 : decode cX7_group 56 = .ok (.iload_n 1, 1) := by decide +kernel
theorem dX7_group_57 : decode cX7_group 57 = .ok (.iaload, 1) := by decide +kernel
theorem dX7_group_58 : decode cX7_group 58 = .ok (.ireturn, 1) := by decide +kernel
theorem dX7_group_59 : decode cX7_group 59 = .ok (.aload_n 0, 1) := by decide +kernel
theorem dX7_group_60 : decode cX7_group 60 = .ok (.getfield 55, 3) := by decide +kernel
theorem dX7_group_63 : decode cX7_group 63 = .ok (.iload_n 1, 1) := by decide +kernel
theorem dX7_group_64 : decode cX7_group 64 = .ok (.iaload, 1) := by decide +kernel
theorem dX7_group_65 : decode cX7_group 65 = .ok (.ireturn, 1) := by decide +kernel
theorem dX7_group_66 : decode cX7_group 66 = .ok (.aload_n 0, 1) := by decide +kernel
theorem dX7_group_67 : decode cX7_group 67 = .ok (.getfield 61, 3) := by decide +kernel
theorem dX7_group_70 : decode cX7_group 70 = .ok (.iload_n 1, 1) := by decide +kernel
theorem dX7_group_71 : decode cX7_group 71 = .ok (.iaload, 1) := by decide +kernel
theorem dX7_group_72 : decode cX7_group 72 = .ok (.ireturn, 1) := by decide +kernel
theorem dX7_group_73 : decode cX7_group 73 = .ok (.aload_n 0, 1) := by decide +kernel
theorem dX7_group_74 : decode cX7_group 74 = .ok (.iload_n 1, 1) := by decide +kernel
theorem dX7_group_75 : decode cX7_group 75 = .ok (.invokevirtual 179, 3) := by decide +kernel
theorem dX7_group_78 : decode cX7_group 78 = .ok (.ireturn, 1) := by decide +kernel
theorem dX7_group_79 : decode cX7_group 79 = .ok (.aload_n 0, 1) := by decide +kernel
theorem dX7_group_80 : decode cX7_group 80 = .ok (.aload_n 0, 1) := by decide +kernel
theorem dX7_group_81 : decode cX7_group 81 = .ok (.iload_n 1, 1) := by decide +kernel
theorem dX7_group_82 : decode cX7_group 82 = .ok (.invokevirtual 173, 3) := by decide +kernel
theorem dX7_group_85 : decode cX7_group 85 = .ok (.aload_n 0, 1) := by decide +kernel
theorem dX7_group_86 : decode cX7_group 86 = .ok (.getfield 58, 3) := by decide +kernel
theorem dX7_group_89 : decode cX7_group 89 = .ok (.iload_n 1, 1) := by decide +kernel
theorem dX7_group_90 : decode cX7_group 90 = .ok (.iaload, 1) := by decide +kernel
theorem dX7_group_91 : decode cX7_group 91 = .ok (.invokevirtual 182, 3) := by decide +kernel
theorem dX7_group_94 : decode cX7_group 94 = .ok (.ireturn, 1) := by decide +kernel
theorem dX7_group_95 : decode cX7_group 95 = .ok (.aload_n 0, 1) := by decide +kernel
theorem dX7_group_96 : decode cX7_group 96 = .ok (.iload_n 1, 1) := by decide +kernel
theorem dX7_group_97 : decode cX7_group 97 = .ok (.invokevirtual 185, 3) := by decide +kernel
theorem dX7_group_100 : decode cX7_group 100 = .ok (.ireturn, 1) := by decide +kernel
theorem dX7_group_101 : decode cX7_group 101 = .ok (.aload_n 0, 1) := by decide +kernel
theorem dX7_group_102 : decode cX7_group 102 = .ok (.aload_n 0, 1) := by decide +kernel
theorem dX7_group_103 : decode cX7_group 103 = .ok (.getfield 52, 3) := by decide +kernel
theorem dX7_group_106 : decode cX7_group 106 = .ok (.iload_n 1, 1) := by decide +kernel
theorem dX7_group_107 : decode cX7_group 107 = .ok (.iaload, 1) := by decide +kernel
theorem dX7_group_108 : decode cX7_group 108 = .ok (.invokevirtual 149, 3) := by decide +kernel
theorem dX7_group_111 : decode cX7_group 111 = .ok (.ireturn, 1) := by decide +kernel
theorem dX7_group_112 : decode cX7_group 112 = .ok (.bipush (-2), 2) := by decide +kernel
theorem dX7_group_114 : decode cX7_group 114 = .ok (.ireturn, 1) := by decide +kernel
set_option maxRecDepth 20000 in
theorem ggX7_spell_X7_isClass : GoodIn wsX7_spell wsX7_isClass := goodIn_r _ [6, 7, 8, 9, 10, 5, 11, 12, 13, 14, 15, 16, 17, 18, 19, 20, 21, 22, 23, 24, 25, 26, 27, 28, 29, 30, 31, 32, 1, 33, 34, 35, 36, 37, 38, 39, 40, 41, 42, 43, 44, 45, 46, 47, 48, 49, 50, 51, 52, 53, 54, 55, 70, 71, 72, 73, 74, 75, 76, 77, 78, 79, 80, 81, 82, 83, 84, 85, 86, 87, 88, 89, 90, 91, 92] (by decide +kernel) (by decide +kernel)
set_option maxRecDepth 20000 in
theorem gX7_spell_X7_isClass : GoodIn wsX7_spell (wsV RX7 176 RX7 yX7_isClass wsX7_isClass) := goodIn_app (goodIn_of _ (by decide +kernel)) ggX7_spell_X7_isClass
set_option maxRecDepth 20000 in
theorem ggX7_spell_X7_firstOf : GoodIn wsX7_spell wsX7_firstOf := goodIn_r _ [59, 30, 1, 70, 71, 72, 73, 74, 75, 76, 77, 78, 79, 80, 81, 82, 83, 84, 85, 86, 87, 88, 89, 90, 91, 92] (by decide +kernel) (by decide +kernel)
set_option maxRecDepth 20000 in
theorem gX7_spell_X7_firstOf : GoodIn wsX7_spell (wsV RX7 173 RX7 yX7_firstOf wsX7_firstOf) := goodIn_app (goodIn_of _ (by decide +kernel)) ggX7_spell_X7_firstOf
set_option maxRecDepth 20000 in
theorem ggX7_spell_X7_write : GoodIn wsX7_spell wsX7_write := goodIn_r _ [63, 64, 65, 66, 67, 68, 5, 69, 24, 70, 71, 72, 73, 74, 75, 76, 77, 78, 79, 80, 81, 82, 83, 84, 85, 86, 87, 88, 89, 90, 91, 92] (by decide +kernel) (by decide +kernel)
set_option maxRecDepth 20000 in
theorem gX7_spell_X7_write : GoodIn wsX7_spell (wsV RX7 155 RX7 yX7_write wsX7_write) := goodIn_app (goodIn_of _ (by decide +kernel)) ggX7_spell_X7_write
theorem dX7_spell_0 : decode cX7_spell 0 = .ok (.aload_n 0, 1) := by decide +kernel
theorem dX7_spell_1 : decode cX7_spell 1 = .ok (.iload_n 1, 1) := by decide +kernel
theorem dX7_spell_2 : decode cX7_spell 2 = .ok (.invokevirtual 176, 3) := by decide +kernel
theorem dX7_spell_5 : decode cX7_spell 5 = .ok (.ifCond .eq 21, 3) := by decide +kernel
theorem dX7_spell_8 : decode cX7_spell 8 = .ok (.aload_n 0, 1) := by decide +kernel
theorem dX7_spell_9 : decode cX7_spell 9 = .ok (.aload_n 0, 1) := by decide +kernel
theorem dX7_spell_10 : decode cX7_spell 10 = .ok (.iload_n 1, 1) := by decide +kernel
theorem dX7_spell_11 : decode cX7_spell 11 = .ok (.invokevirtual 173, 3) := by decide +kernel
theorem dX7_spell_14 : decode cX7_spell 14 = .ok (.aload_n 0, 1) := by decide +kernel
theorem dX7_spell_15 : decode cX7_spell 15 = .ok (.getfield 58, 3) := by decide +kernel
theorem dX7_spell_18 : decode cX7_spell 18 = .ok (.iload_n 1, 1) := by decide +kernel
theorem dX7_spell_19 : decode cX7_spell 19 = .ok (.iaload, 1) := by decide +kernel
theorem dX7_spell_20 : decode cX7_spell 20 = .ok (.invokevirtual 155, 3) := by decide +kernel
theorem dX7_spell_23 : decode cX7_spell 23 = .ok (.goto 4, 3) := by decide +kernel
theorem dX7_spell_26 : decode cX7_spell 26 = .ok (.iconst (-1), 1) := by decide +kernel
theorem dX7_spell_27 : decode cX7_spell 27 = .ok (.ireturn, 1) := by decide +kernel
set_option maxRecDepth 20000 in
theorem ggX7_step_X7_isClass : GoodIn wsX7_step wsX7_isClass := goodIn_r _ [7, 8, 9, 10, 11, 6, 12, 13, 14, 15, 16, 17, 18, 19, 20, 2, 21, 22, 23, 24, 25, 26, 27, 28, 29, 30, 31, 32, 1, 33, 34, 35, 36, 37, 38, 39, 40, 41, 42, 43, 44, 45, 46, 47, 48, 49, 50, 51, 52, 53, 54, 55, 68, 69, 70, 71, 72, 73, 74, 75, 76, 77, 78, 79, 80, 81, 82, 83, 84, 85, 86, 87, 88, 89, 90] (by decide +kernel) (by decide +kernel)
set_option maxRecDepth 20000 in
theorem gX7_step_X7_isClass : GoodIn wsX7_step (wsV RX7 176 RX7 yX7_isClass wsX7_isClass) := goodIn_app (goodIn_of _ (by decide +kernel)) ggX7_step_X7_isClass
set_option maxRecDepth 20000 in
theorem ggX7_step_X7_in : GoodIn wsX7_step wsX7_in := goodIn_r _ [55] (by decide +kernel) (by decide +kernel)
set_option maxRecDepth 20000 in
theorem gX7_step_X7_in : GoodIn wsX7_step (va_wsS RX7 97 yX7_in wsX7_in) := goodIn_app (goodIn_of _ (by decide +kernel)) ggX7_step_X7_in
set_option maxRecDepth 20000 in
theorem ggX7_step_X7_rest : GoodIn wsX7_step wsX7_rest := goodIn_r _ [48, 23, 25, 68, 69, 70, 71, 72, 73, 74, 75, 76, 77, 78, 79, 80, 81, 82, 83, 84, 85, 86, 87, 88, 89, 90] (by decide +kernel) (by decide +kernel)
set_option maxRecDepth 20000 in
theorem gX7_step_X7_rest : GoodIn wsX7_step (wsV RX7 78 RX7 yX7_rest wsX7_rest) := goodIn_app (goodIn_of _ (by decide +kernel)) ggX7_step_X7_rest
set_option maxRecDepth 20000 in
theorem ggX7_step_X7_letterAt : GoodIn wsX7_step wsX7_letterAt := goodIn_r _ [59, 24, 68, 69, 70, 71, 72, 73, 74, 75, 76, 77, 78, 79, 80, 81, 82, 83, 84, 85, 86, 87, 88, 89, 90] (by decide +kernel) (by decide +kernel)
set_option maxRecDepth 20000 in
theorem gX7_step_X7_letterAt : GoodIn wsX7_step (wsV RX7 127 RX7 yX7_letterAt wsX7_letterAt) := goodIn_app (goodIn_of _ (by decide +kernel)) ggX7_step_X7_letterAt
set_option maxRecDepth 20000 in
theorem ggX7_step_X7_firstOf : GoodIn wsX7_step wsX7_firstOf := goodIn_r _ [63, 30, 1, 68, 69, 70, 71, 72, 73, 74, 75, 76, 77, 78, 79, 80, 81, 82, 83, 84, 85, 86, 87, 88, 89, 90] (by decide +kernel) (by decide +kernel)
set_option maxRecDepth 20000 in
theorem gX7_step_X7_firstOf : GoodIn wsX7_step (wsV RX7 173 RX7 yX7_firstOf wsX7_firstOf) := goodIn_app (goodIn_of _ (by decide +kernel)) ggX7_step_X7_firstOf
set_option maxRecDepth 20000 in
theorem ggX7_step_X7_isSame : GoodIn wsX7_step wsX7_isSame := goodIn_r _ [40, 41, 42, 43, 6, 44, 24, 45, 46, 47, 48, 23, 25, 68, 69, 70, 71, 72, 73, 74, 75, 76, 77, 78, 79, 80, 81, 82, 83, 84, 85, 86, 87, 88, 89, 90] (by decide +kernel) (by decide +kernel)
set_option maxRecDepth 20000 in
theorem gX7_step_X7_isSame : GoodIn wsX7_step (wsV RX7 161 RX7 yX7_isSame wsX7_isSame) := goodIn_app (goodIn_of _ (by decide +kernel)) ggX7_step_X7_isSame
set_option maxRecDepth 20000 in
theorem ggX7_step_X7_classAt : GoodIn wsX7_step wsX7_classAt := goodIn_r _ [67, 8, 30, 31, 1, 33, 34, 35, 6, 36, 37, 38, 39, 40, 41, 42, 43, 44, 24, 45, 46, 47, 48, 23, 25, 53, 54, 55, 68, 69, 70, 71, 72, 73, 74, 75, 76, 77, 78, 79, 80, 81, 82, 83, 84, 85, 86, 87, 88, 89, 90] (by decide +kernel) (by decide +kernel)
set_option maxRecDepth 20000 in
theorem gX7_step_X7_classAt : GoodIn wsX7_step (wsV RX7 143 RX7 yX7_classAt wsX7_classAt) := goodIn_app (goodIn_of _ (by decide +kernel)) ggX7_step_X7_classAt
theorem dX7_step_0 : decode cX7_step 0 = .ok (.aload_n 0, 1) := by decide +kernel
theorem dX7_step_1 : decode cX7_step 1 = .ok (.iload_n 1, 1) := by decide +kernel
theorem dX7_step_2 : decode cX7_step 2 = .ok (.invokevirtual 176, 3) := by decide +kernel
theorem dX7_step_5 : decode cX7_step 5 = .ok (.ifCond .ne 10, 3) := by decide +kernel
theorem dX7_step_8 : decode cX7_step 8 = .ok (.iload_n 1, 1) := by decide +kernel
theorem dX7_step_9 : decode cX7_step 9 = .ok (.iconst (-1), 1) := by decide +kernel
theorem dX7_step_10 : decode cX7_step 10 = .ok (.if_icmp .eq 5, 3) := by decide +kernel
theorem dX7_step_13 : decode cX7_step 13 = .ok (.iconst (-1), 1) := by decide +kernel
theorem dX7_step_14 : decode cX7_step 14 = .ok (.ireturn, 1) := by decide +kernel
theorem dX7_step_15 : decode cX7_step 15 = .ok (.iload_n 2, 1) := by decide +kernel
theorem dX7_step_16 : decode cX7_step 16 = .ok (.iconst 0, 1) := by decide +kernel
theorem dX7_step_17 : decode cX7_step 17 = .ok (.bipush 7, 2) := by decide +kernel
theorem dX7_step_19 : decode cX7_step 19 = .ok (.invokestatic 97, 3) := by decide +kernel
theorem dX7_step_22 : decode cX7_step 22 = .ok (.ifCond .ne 6, 3) := by decide +kernel
theorem dX7_step_25 : decode cX7_step 25 = .ok (.bipush (-2), 2) := by decide +kernel
theorem dX7_step_27 : decode cX7_step 27 = .ok (.ireturn, 1) := by decide +kernel
theorem dX7_step_28 : decode cX7_step 28 = .ok (.iload_n 1, 1) := by decide +kernel
theorem dX7_step_29 : decode cX7_step 29 = .ok (.iconst (-1), 1) := by decide +kernel
theorem dX7_step_30 : decode cX7_step 30 = .ok (.if_icmp .ne 7, 3) := by decide +kernel
theorem dX7_step_33 : decode cX7_step 33 = .ok (.iconst 0, 1) := by decide +kernel
theorem dX7_step_34 : decode cX7_step 34 = .ok (.goto 9, 3) := by decide +kernel
theorem dX7_step_37 : decode cX7_step 37 = .ok (.aload_n 0, 1) := by decide +kernel
theorem dX7_step_38 : decode cX7_step 38 = .ok (.getfield 58, 3) := by decide +kernel
theorem dX7_step_41 : decode cX7_step 41 = .ok (.iload_n 1, 1) := by decide +kernel
theorem dX7_step_42 : decode cX7_step 42 = .ok (.iaload, 1) := by decide +kernel
theorem dX7_step_43 : decode cX7_step 43 = .ok (.istore_n 3, 1) := by decide +kernel
theorem dX7_step_44 : decode cX7_step 44 = .ok (.iconst 0, 1) := by decide +kernel
theorem dX7_step_45 : decode cX7_step 45 = .ok (.istore 4, 2) := by decide +kernel
theorem dX7_step_47 : decode cX7_step 47 = .ok (.iload 4, 2) := by decide +kernel
theorem dX7_step_49 : decode cX7_step 49 = .ok (.aload_n 0, 1) := by decide +kernel
theorem dX7_step_50 : decode cX7_step 50 = .ok (.getfield 37, 3) := by decide +kernel
theorem dX7_step_53 : decode cX7_step 53 = .ok (.iconst 0, 1) := by decide +kernel
theorem dX7_step_54 : decode cX7_step 54 = .ok (.iaload, 1) := by decide +kernel
theorem dX7_step_55 : decode cX7_step 55 = .ok (.if_icmp .ge 74, 3) := by decide +kernel
theorem dX7_step_58 : decode cX7_step 58 = .ok (.aload_n 0, 1) := by decide +kernel
theorem dX7_step_59 : decode cX7_step 59 = .ok (.iconst 0, 1) := by decide +kernel
theorem dX7_step_60 : decode cX7_step 60 = .ok (.iload 4, 2) := by decide +kernel
theorem dX7_step_62 : decode cX7_step 62 = .ok (.invokevirtual 78, 3) := by decide +kernel
theorem dX7_step_65 : decode cX7_step 65 = .ok (.iload_n 3, 1) := by decide +kernel
theorem dX7_step_66 : decode cX7_step 66 = .ok (.if_icmp .le 39, 3) := by decide +kernel
theorem dX7_step_69 : decode cX7_step 69 = .ok (.aload_n 0, 1) := by decide +kernel
theorem dX7_step_70 : decode cX7_step 70 = .ok (.iload 4, 2) := by decide +kernel
theorem dX7_step_72 : decode cX7_step 72 = .ok (.iload_n 3, 1) := by decide +kernel
theorem dX7_step_73 : decode cX7_step 73 = .ok (.iadd, 1) := by decide +kernel
theorem dX7_step_74 : decode cX7_step 74 = .ok (.invokevirtual 127, 3) := by decide +kernel
theorem dX7_step_77 : decode cX7_step 77 = .ok (.iload_n 2, 1) := by decide +kernel
theorem dX7_step_78 : decode cX7_step 78 = .ok (.if_icmp .ne 27, 3) := by decide +kernel
theorem dX7_step_81 : decode cX7_step 81 = .ok (.iload_n 1, 1) := by decide +kernel
theorem dX7_step_82 : decode cX7_step 82 = .ok (.iconst (-1), 1) := by decide +kernel
theorem dX7_step_83 : decode cX7_step 83 = .ok (.if_icmp .eq 18, 3) := by decide +kernel
theorem dX7_step_86 : decode cX7_step 86 = .ok (.aload_n 0, 1) := by decide +kernel
theorem dX7_step_87 : decode cX7_step 87 = .ok (.aload_n 0, 1) := by decide +kernel
theorem dX7_step_88 : decode cX7_step 88 = .ok (.iload_n 1, 1) := by decide +kernel
theorem dX7_step_89 : decode cX7_step 89 = .ok (.invokevirtual 173, 3) := by decide +kernel
theorem dX7_step_92 : decode cX7_step 92 = .ok (.iload 4, 2) := by decide +kernel
theorem dX7_step_94 : decode cX7_step 94 = .ok (.iload_n 3, 1) := by decide +kernel
theorem dX7_step_95 : decode cX7_step 95 = .ok (.invokevirtual 161, 3) := by decide +kernel
theorem dX7_step_98 : decode cX7_step 98 = .ok (.ifCond .eq 7, 3) := by decide +kernel
theorem dX7_step_101 : decode cX7_step 101 = .ok (.iconst 1, 1) := by decide +kernel
theorem dX7_step_102 : decode cX7_step 102 = .ok (.goto 4, 3) := by decide +kernel
theorem dX7_step_105 : decode cX7_step 105 = .ok (.iconst 0, 1) := by decide +kernel
theorem dX7_step_106 : decode cX7_step 106 = .ok (.istore 5, 2) := by decide +kernel
theorem dX7_step_108 : decode cX7_step 108 = .ok (.iload 5, 2) := by decide +kernel
theorem dX7_step_110 : decode cX7_step 110 = .ok (.ifCond .eq 13, 3) := by decide +kernel
theorem dX7_step_113 : decode cX7_step 113 = .ok (.aload_n 0, 1) := by decide +kernel
theorem dX7_step_114 : decode cX7_step 114 = .ok (.iload 4, 2) := by decide +kernel
theorem dX7_step_116 : decode cX7_step 116 = .ok (.iload_n 3, 1) := by decide +kernel
theorem dX7_step_117 : decode cX7_step 117 = .ok (.iconst 1, 1) := by decide +kernel
theorem dX7_step_118 : decode cX7_step 118 = .ok (.iadd, 1) := by decide +kernel
theorem dX7_step_119 : decode cX7_step 119 = .ok (.invokevirtual 143, 3) := by decide +kernel
theorem dX7_step_122 : decode cX7_step 122 = .ok (.ireturn, 1) := by decide +kernel
theorem dX7_step_123 : decode cX7_step 123 = .ok (.iinc 4 1, 3) := by decide +kernel
theorem dX7_step_126 : decode cX7_step 126 = .ok (.goto (-79), 3) := by decide +kernel
theorem dX7_step_129 : decode cX7_step 129 = .ok (.bipush (-6), 2) := by decide +kernel
theorem dX7_step_131 : decode cX7_step 131 = .ok (.ireturn, 1) := by decide +kernel
set_option maxRecDepth 20000 in
theorem ggX7_areWords_X7_in : GoodIn wsX7_areWords wsX7_in := goodIn_r _ [6] (by decide +kernel) (by decide +kernel)
set_option maxRecDepth 20000 in
theorem gX7_areWords_X7_in : GoodIn wsX7_areWords (va_wsS RX7 97 yX7_in wsX7_in) := goodIn_app (goodIn_of _ (by decide +kernel)) ggX7_areWords_X7_in
theorem dX7_areWords_0 : decode cX7_areWords 0 = .ok (.iload_n 1, 1) := by decide +kernel
theorem dX7_areWords_1 : decode cX7_areWords 1 = .ok (.iconst 0, 1) := by decide +kernel
theorem dX7_areWords_2 : decode cX7_areWords 2 = .ok (.iconst 1, 1) := by decide +kernel
theorem dX7_areWords_3 : decode cX7_areWords 3 = .ok (.aload_n 0, 1) := by decide +kernel
theorem dX7_areWords_4 : decode cX7_areWords 4 = .ok (.getfield 16, 3) := by decide +kernel
theorem dX7_areWords_7 : decode cX7_areWords 7 = .ok (.aload_n 0, 1) := by decide +kernel
theorem dX7_areWords_8 : decode cX7_areWords 8 = .ok (.getfield 71, 3) := by decide +kernel
theorem dX7_areWords_11 : decode cX7_areWords 11 = .ok (.iaload, 1) := by decide +kernel
theorem dX7_areWords_12 : decode cX7_areWords 12 = .ok (.ishl, 1) := by decide +kernel
theorem dX7_areWords_13 : decode cX7_areWords 13 = .ok (.iconst 1, 1) := by decide +kernel
theorem dX7_areWords_14 : decode cX7_areWords 14 = .ok (.isub, 1) := by decide +kernel
theorem dX7_areWords_15 : decode cX7_areWords 15 = .ok (.invokestatic 97, 3) := by decide +kernel
theorem dX7_areWords_18 : decode cX7_areWords 18 = .ok (.ireturn, 1) := by decide +kernel
set_option maxRecDepth 20000 in
theorem ggX7_common_X7_areWords : GoodIn wsX7_common wsX7_areWords := goodIn_r _ [8, 9, 10, 11, 12, 7, 13, 67, 68, 69, 70, 71, 72, 73, 74, 75, 76, 77, 78, 79, 80, 81, 82, 83, 84, 85, 86, 87, 88, 89] (by decide +kernel) (by decide +kernel)
set_option maxRecDepth 20000 in
theorem gX7_common_X7_areWords : GoodIn wsX7_common (wsV RX7 188 RX7 yX7_areWords wsX7_areWords) := goodIn_app (goodIn_of _ (by decide +kernel)) ggX7_common_X7_areWords
set_option maxRecDepth 20000 in
theorem ggX7_common_X7_in : GoodIn wsX7_common wsX7_in := goodIn_r _ [13] (by decide +kernel) (by decide +kernel)
set_option maxRecDepth 20000 in
theorem gX7_common_X7_in : GoodIn wsX7_common (va_wsS RX7 97 yX7_in wsX7_in) := goodIn_app (goodIn_of _ (by decide +kernel)) ggX7_common_X7_in
set_option maxRecDepth 20000 in
theorem ggX7_common_X7_layPresent : GoodIn wsX7_common wsX7_layPresent := goodIn_r _ [17, 10, 18, 19, 20, 7, 21, 22, 23, 24, 1, 25, 26, 27, 28, 29, 67, 68, 69, 70, 71, 72, 73, 74, 75, 76, 77, 78, 79, 80, 81, 82, 83, 84, 85, 86, 87, 88, 89] (by decide +kernel) (by decide +kernel)
set_option maxRecDepth 20000 in
theorem gX7_common_X7_layPresent : GoodIn wsX7_common (wsV RX7 124 RX7 yX7_layPresent wsX7_layPresent) := goodIn_app (goodIn_of _ (by decide +kernel)) ggX7_common_X7_layPresent
set_option maxRecDepth 20000 in
theorem ggX7_common_X7_sort : GoodIn wsX7_common wsX7_sort := goodIn_r _ [33, 1, 3, 2, 34, 35, 36, 7, 37, 28, 38, 39, 40, 41, 42, 43, 44, 45, 27, 29, 67, 68, 69, 70, 71, 72, 73, 74, 75, 76, 77, 78, 79, 80, 81, 82, 83, 84, 85, 86, 87, 88, 89] (by decide +kernel) (by decide +kernel)
set_option maxRecDepth 20000 in
theorem gX7_common_X7_sort : GoodIn wsX7_common (wsV RX7 117 RX7 yX7_sort wsX7_sort) := goodIn_app (goodIn_of _ (by decide +kernel)) ggX7_common_X7_sort
set_option maxRecDepth 20000 in
theorem ggX7_common_X7_rest : GoodIn wsX7_common wsX7_rest := goodIn_r _ [45, 27, 29, 67, 68, 69, 70, 71, 72, 73, 74, 75, 76, 77, 78, 79, 80, 81, 82, 83, 84, 85, 86, 87, 88, 89] (by decide +kernel) (by decide +kernel)
set_option maxRecDepth 20000 in
theorem gX7_common_X7_rest : GoodIn wsX7_common (wsV RX7 78 RX7 yX7_rest wsX7_rest) := goodIn_app (goodIn_of _ (by decide +kernel)) ggX7_common_X7_rest
set_option maxRecDepth 20000 in
theorem ggX7_common_X7_wordsOf : GoodIn wsX7_common wsX7_wordsOf := goodIn_r _ [49, 29, 3, 50, 51, 52, 7, 53, 1, 2, 67, 68, 69, 70, 71, 72, 73, 74, 75, 76, 77, 78, 79, 80, 81, 82, 83, 84, 85, 86, 87, 88, 89] (by decide +kernel) (by decide +kernel)
set_option maxRecDepth 20000 in
theorem gX7_common_X7_wordsOf : GoodIn wsX7_common (wsV RX7 191 RX7 yX7_wordsOf wsX7_wordsOf) := goodIn_app (goodIn_of _ (by decide +kernel)) ggX7_common_X7_wordsOf
set_option maxRecDepth 20000 in
theorem ggX7_common_X7_sizeOf : GoodIn wsX7_common wsX7_sizeOf := goodIn_r _ [56] (by decide +kernel) (by decide +kernel)
set_option maxRecDepth 20000 in
theorem gX7_common_X7_sizeOf : GoodIn wsX7_common (va_wsS RX7 194 yX7_sizeOf wsX7_sizeOf) := goodIn_app (goodIn_of _ (by decide +kernel)) ggX7_common_X7_sizeOf
set_option maxRecDepth 20000 in
theorem ggX7_common_X7_write : GoodIn wsX7_common wsX7_write := goodIn_r _ [60, 61, 62, 63, 64, 65, 7, 66, 28, 67, 68, 69, 70, 71, 72, 73, 74, 75, 76, 77, 78, 79, 80, 81, 82, 83, 84, 85, 86, 87, 88, 89] (by decide +kernel) (by decide +kernel)
set_option maxRecDepth 20000 in
theorem gX7_common_X7_write : GoodIn wsX7_common (wsV RX7 155 RX7 yX7_write wsX7_write) := goodIn_app (goodIn_of _ (by decide +kernel)) ggX7_common_X7_write
theorem dX7_common_0 : decode cX7_common 0 = .ok (.aload_n 0, 1) := by decide +kernel
theorem dX7_common_1 : decode cX7_common 1 = .ok (.iload_n 1, 1) := by decide +kernel
theorem dX7_common_2 : decode cX7_common 2 = .ok (.invokevirtual 188, 3) := by decide +kernel
theorem dX7_common_5 : decode cX7_common 5 = .ok (.ifCond .ne 5, 3) := by decide +kernel
theorem dX7_common_8 : decode cX7_common 8 = .ok (.iconst (-1), 1) := by decide +kernel
theorem dX7_common_9 : decode cX7_common 9 = .ok (.ireturn, 1) := by decide +kernel
theorem dX7_common_10 : decode cX7_common 10 = .ok (.iload_n 2, 1) := by decide +kernel
theorem dX7_common_11 : decode cX7_common 11 = .ok (.iconst 1, 1) := by decide +kernel
theorem dX7_common_12 : decode cX7_common 12 = .ok (.bipush 6, 2) := by decide +kernel
theorem dX7_common_14 : decode cX7_common 14 = .ok (.invokestatic 97, 3) := by decide +kernel
theorem dX7_common_17 : decode cX7_common 17 = .ok (.ifCond .ne 6, 3) := by decide +kernel
theorem dX7_common_20 : decode cX7_common 20 = .ok (.bipush (-2), 2) := by decide +kernel
theorem dX7_common_22 : decode cX7_common 22 = .ok (.ireturn, 1) := by decide +kernel
theorem dX7_common_23 : decode cX7_common 23 = .ok (.aload_n 0, 1) := by decide +kernel
theorem dX7_common_24 : decode cX7_common 24 = .ok (.invokevirtual 124, 3) := by decide +kernel
theorem dX7_common_27 : decode cX7_common 27 = .ok (.aload_n 0, 1) := by decide +kernel
theorem dX7_common_28 : decode cX7_common 28 = .ok (.invokevirtual 117, 3) := by decide +kernel
theorem dX7_common_31 : decode cX7_common 31 = .ok (.bipush (-6), 2) := by decide +kernel
theorem dX7_common_33 : decode cX7_common 33 = .ok (.istore_n 3, 1) := by decide +kernel
theorem dX7_common_34 : decode cX7_common 34 = .ok (.iconst 0, 1) := by decide +kernel
theorem dX7_common_35 : decode cX7_common 35 = .ok (.istore 4, 2) := by decide +kernel
theorem dX7_common_37 : decode cX7_common 37 = .ok (.iconst 0, 1) := by decide +kernel
theorem dX7_common_38 : decode cX7_common 38 = .ok (.istore 5, 2) := by decide +kernel
theorem dX7_common_40 : decode cX7_common 40 = .ok (.iload 5, 2) := by decide +kernel
theorem dX7_common_42 : decode cX7_common 42 = .ok (.aload_n 0, 1) := by decide +kernel
theorem dX7_common_43 : decode cX7_common 43 = .ok (.getfield 37, 3) := by decide +kernel
theorem dX7_common_46 : decode cX7_common 46 = .ok (.iconst 0, 1) := by decide +kernel
theorem dX7_common_47 : decode cX7_common 47 = .ok (.iaload, 1) := by decide +kernel
theorem dX7_common_48 : decode cX7_common 48 = .ok (.if_icmp .ge 79, 3) := by decide +kernel
theorem dX7_common_51 : decode cX7_common 51 = .ok (.aload_n 0, 1) := by decide +kernel
theorem dX7_common_52 : decode cX7_common 52 = .ok (.getfield 49, 3) := by decide +kernel
theorem dX7_common_55 : decode cX7_common 55 = .ok (.iload 5, 2) := by decide +kernel
theorem dX7_common_57 : decode cX7_common 57 = .ok (.iaload, 1) := by decide +kernel
theorem dX7_common_58 : decode cX7_common 58 = .ok (.iconst 1, 1) := by decide +kernel
theorem dX7_common_59 : decode cX7_common 59 = .ok (.iadd, 1) := by decide +kernel
theorem dX7_common_60 : decode cX7_common 60 = .ok (.istore 6, 2) := by decide +kernel
theorem dX7_common_62 : decode cX7_common 62 = .ok (.iload 6, 2) := by decide +kernel
theorem dX7_common_64 : decode cX7_common 64 = .ok (.aload_n 0, 1) := by decide +kernel
theorem dX7_common_65 : decode cX7_common 65 = .ok (.iconst 0, 1) := by decide +kernel
theorem dX7_common_66 : decode cX7_common 66 = .ok (.aload_n 0, 1) := by decide +kernel
theorem dX7_common_67 : decode cX7_common 67 = .ok (.getfield 46, 3) := by decide +kernel
theorem dX7_common_70 : decode cX7_common 70 = .ok (.iload 5, 2) := by decide +kernel
theorem dX7_common_72 : decode cX7_common 72 = .ok (.iaload, 1) := by decide +kernel
theorem dX7_common_73 : decode cX7_common 73 = .ok (.invokevirtual 78, 3) := by decide +kernel
theorem dX7_common_76 : decode cX7_common 76 = .ok (.if_icmp .gt 45, 3) := by decide +kernel
theorem dX7_common_79 : decode cX7_common 79 = .ok (.iload 6, 2) := by decide +kernel
theorem dX7_common_81 : decode cX7_common 81 = .ok (.iload 4, 2) := by decide +kernel
theorem dX7_common_83 : decode cX7_common 83 = .ok (.if_icmp .le 32, 3) := by decide +kernel
theorem dX7_common_86 : decode cX7_common 86 = .ok (.aload_n 0, 1) := by decide +kernel
theorem dX7_common_87 : decode cX7_common 87 = .ok (.iload 5, 2) := by decide +kernel
theorem dX7_common_89 : decode cX7_common 89 = .ok (.iload 6, 2) := by decide +kernel
theorem dX7_common_91 : decode cX7_common 91 = .ok (.invokevirtual 191, 3) := by decide +kernel
theorem dX7_common_94 : decode cX7_common 94 = .ok (.iload_n 1, 1) := by decide +kernel
theorem dX7_common_95 : decode cX7_common 95 = .ok (.iand, 1) := by decide +kernel
theorem dX7_common_96 : decode cX7_common 96 = .ok (.invokestatic 194, 3) := by decide +kernel
theorem dX7_common_99 : decode cX7_common 99 = .ok (.iload_n 2, 1) := by decide +kernel
theorem dX7_common_100 : decode cX7_common 100 = .ok (.if_icmp .lt 15, 3) := by decide +kernel
theorem dX7_common_103 : decode cX7_common 103 = .ok (.aload_n 0, 1) := by decide +kernel
theorem dX7_common_104 : decode cX7_common 104 = .ok (.getfield 46, 3) := by decide +kernel
theorem dX7_common_107 : decode cX7_common 107 = .ok (.iload 5, 2) := by decide +kernel
theorem dX7_common_109 : decode cX7_common 109 = .ok (.iaload, 1) := by decide +kernel
theorem dX7_common_110 : decode cX7_common 110 = .ok (.istore_n 3, 1) := by decide +kernel
theorem dX7_common_111 : decode cX7_common 111 = .ok (.iload 6, 2) := by decide +kernel
theorem dX7_common_113 : decode cX7_common 113 = .ok (.istore 4, 2) := by decide +kernel
theorem dX7_common_115 : decode cX7_common 115 = .ok (.iinc 6 1, 3) := by decide +kernel
theorem dX7_common_118 : decode cX7_common 118 = .ok (.goto (-56), 3) := by decide +kernel
theorem dX7_common_121 : decode cX7_common 121 = .ok (.iinc 5 1, 3) := by decide +kernel
theorem dX7_common_124 : decode cX7_common 124 = .ok (.goto (-84), 3) := by decide +kernel
theorem dX7_common_127 : decode cX7_common 127 = .ok (.iload_n 3, 1) := by decide +kernel
theorem dX7_common_128 : decode cX7_common 128 = .ok (.ifCond .ge 8, 3) := by decide +kernel
theorem dX7_common_131 : decode cX7_common 131 = .ok (.bipush (-6), 2) := by decide +kernel
theorem dX7_common_133 : decode cX7_common 133 = .ok (.goto 10, 3) := by decide +kernel
theorem dX7_common_136 : decode cX7_common 136 = .ok (.aload_n 0, 1) := by decide +kernel
theorem dX7_common_137 : decode cX7_common 137 = .ok (.iload_n 3, 1) := by decide +kernel
theorem dX7_common_138 : decode cX7_common 138 = .ok (.iload 4, 2) := by decide +kernel
theorem dX7_common_140 : decode cX7_common 140 = .ok (.invokevirtual 155, 3) := by decide +kernel
theorem dX7_common_143 : decode cX7_common 143 = .ok (.ireturn, 1) := by decide +kernel
set_option maxRecDepth 20000 in
theorem ggX7_unique_X7_areWords : GoodIn wsX7_unique wsX7_areWords := goodIn_r _ [8, 9, 10, 11, 12, 7, 13, 64, 65, 66, 67, 68, 69, 70, 71, 72, 73, 74, 75, 76, 77, 78, 79, 80, 81, 82, 83, 84, 85, 86] (by decide +kernel) (by decide +kernel)
set_option maxRecDepth 20000 in
theorem gX7_unique_X7_areWords : GoodIn wsX7_unique (wsV RX7 188 RX7 yX7_areWords wsX7_areWords) := goodIn_app (goodIn_of _ (by decide +kernel)) ggX7_unique_X7_areWords
set_option maxRecDepth 20000 in
theorem ggX7_unique_X7_layPresent : GoodIn wsX7_unique wsX7_layPresent := goodIn_r _ [17, 10, 18, 19, 20, 7, 21, 22, 23, 24, 1, 25, 26, 27, 28, 29, 64, 65, 66, 67, 68, 69, 70, 71, 72, 73, 74, 75, 76, 77, 78, 79, 80, 81, 82, 83, 84, 85, 86] (by decide +kernel) (by decide +kernel)
set_option maxRecDepth 20000 in
theorem gX7_unique_X7_layPresent : GoodIn wsX7_unique (wsV RX7 124 RX7 yX7_layPresent wsX7_layPresent) := goodIn_app (goodIn_of _ (by decide +kernel)) ggX7_unique_X7_layPresent
set_option maxRecDepth 20000 in
theorem ggX7_unique_X7_sort : GoodIn wsX7_unique wsX7_sort := goodIn_r _ [33, 1, 3, 2, 34, 35, 36, 7, 37, 28, 38, 39, 40, 41, 42, 43, 44, 45, 27, 29, 64, 65, 66, 67, 68, 69, 70, 71, 72, 73, 74, 75, 76, 77, 78, 79, 80, 81, 82, 83, 84, 85, 86] (by decide +kernel) (by decide +kernel)
set_option maxRecDepth 20000 in
theorem gX7_unique_X7_sort : GoodIn wsX7_unique (wsV RX7 117 RX7 yX7_sort wsX7_sort) := goodIn_app (goodIn_of _ (by decide +kernel)) ggX7_unique_X7_sort
set_option maxRecDepth 20000 in
theorem ggX7_unique_X7_rest : GoodIn wsX7_unique wsX7_rest := goodIn_r _ [45, 27, 29, 64, 65, 66, 67, 68, 69, 70, 71, 72, 73, 74, 75, 76, 77, 78, 79, 80, 81, 82, 83, 84, 85, 86] (by decide +kernel) (by decide +kernel)
set_option maxRecDepth 20000 in
theorem gX7_unique_X7_rest : GoodIn wsX7_unique (wsV RX7 78 RX7 yX7_rest wsX7_rest) := goodIn_app (goodIn_of _ (by decide +kernel)) ggX7_unique_X7_rest
set_option maxRecDepth 20000 in
theorem ggX7_unique_X7_wordsOf : GoodIn wsX7_unique wsX7_wordsOf := goodIn_r _ [49, 29, 3, 50, 51, 52, 7, 53, 1, 2, 64, 65, 66, 67, 68, 69, 70, 71, 72, 73, 74, 75, 76, 77, 78, 79, 80, 81, 82, 83, 84, 85, 86] (by decide +kernel) (by decide +kernel)
set_option maxRecDepth 20000 in
theorem gX7_unique_X7_wordsOf : GoodIn wsX7_unique (wsV RX7 191 RX7 yX7_wordsOf wsX7_wordsOf) := goodIn_app (goodIn_of _ (by decide +kernel)) ggX7_unique_X7_wordsOf
set_option maxRecDepth 20000 in
theorem ggX7_unique_X7_write : GoodIn wsX7_unique wsX7_write := goodIn_r _ [57, 58, 59, 60, 61, 62, 7, 63, 28, 64, 65, 66, 67, 68, 69, 70, 71, 72, 73, 74, 75, 76, 77, 78, 79, 80, 81, 82, 83, 84, 85, 86] (by decide +kernel) (by decide +kernel)
set_option maxRecDepth 20000 in
theorem gX7_unique_X7_write : GoodIn wsX7_unique (wsV RX7 155 RX7 yX7_write wsX7_write) := goodIn_app (goodIn_of _ (by decide +kernel)) ggX7_unique_X7_write
theorem dX7_unique_0 : decode cX7_unique 0 = .ok (.aload_n 0, 1) := by decide +kernel
theorem dX7_unique_1 : decode cX7_unique 1 = .ok (.iload_n 1, 1) := by decide +kernel
theorem dX7_unique_2 : decode cX7_unique 2 = .ok (.invokevirtual 188, 3) := by decide +kernel
theorem dX7_unique_5 : decode cX7_unique 5 = .ok (.ifCond .ne 5, 3) := by decide +kernel
theorem dX7_unique_8 : decode cX7_unique 8 = .ok (.iconst (-1), 1) := by decide +kernel
theorem dX7_unique_9 : decode cX7_unique 9 = .ok (.ireturn, 1) := by decide +kernel
theorem dX7_unique_10 : decode cX7_unique 10 = .ok (.iload_n 1, 1) := by decide +kernel
theorem dX7_unique_11 : decode cX7_unique 11 = .ok (.ifCond .ne 6, 3) := by decide +kernel
theorem dX7_unique_14 : decode cX7_unique 14 = .ok (.bipush (-2), 2) := by decide +kernel
theorem dX7_unique_16 : decode cX7_unique 16 = .ok (.ireturn, 1) := by decide +kernel
theorem dX7_unique_17 : decode cX7_unique 17 = .ok (.aload_n 0, 1) := by decide +kernel
theorem dX7_unique_18 : decode cX7_unique 18 = .ok (.invokevirtual 124, 3) := by decide +kernel
theorem dX7_unique_21 : decode cX7_unique 21 = .ok (.aload_n 0, 1) := by decide +kernel
theorem dX7_unique_22 : decode cX7_unique 22 = .ok (.invokevirtual 117, 3) := by decide +kernel
theorem dX7_unique_25 : decode cX7_unique 25 = .ok (.bipush (-6), 2) := by decide +kernel
theorem dX7_unique_27 : decode cX7_unique 27 = .ok (.istore_n 2, 1) := by decide +kernel
theorem dX7_unique_28 : decode cX7_unique 28 = .ok (.bipush 61, 2) := by decide +kernel
theorem dX7_unique_30 : decode cX7_unique 30 = .ok (.istore_n 3, 1) := by decide +kernel
theorem dX7_unique_31 : decode cX7_unique 31 = .ok (.iconst 0, 1) := by decide +kernel
theorem dX7_unique_32 : decode cX7_unique 32 = .ok (.istore 4, 2) := by decide +kernel
theorem dX7_unique_34 : decode cX7_unique 34 = .ok (.iload 4, 2) := by decide +kernel
theorem dX7_unique_36 : decode cX7_unique 36 = .ok (.aload_n 0, 1) := by decide +kernel
theorem dX7_unique_37 : decode cX7_unique 37 = .ok (.getfield 37, 3) := by decide +kernel
theorem dX7_unique_40 : decode cX7_unique 40 = .ok (.iconst 0, 1) := by decide +kernel
theorem dX7_unique_41 : decode cX7_unique 41 = .ok (.iaload, 1) := by decide +kernel
theorem dX7_unique_42 : decode cX7_unique 42 = .ok (.if_icmp .ge 72, 3) := by decide +kernel
theorem dX7_unique_45 : decode cX7_unique 45 = .ok (.aload_n 0, 1) := by decide +kernel
theorem dX7_unique_46 : decode cX7_unique 46 = .ok (.getfield 49, 3) := by decide +kernel
theorem dX7_unique_49 : decode cX7_unique 49 = .ok (.iload 4, 2) := by decide +kernel
theorem dX7_unique_51 : decode cX7_unique 51 = .ok (.iaload, 1) := by decide +kernel
theorem dX7_unique_52 : decode cX7_unique 52 = .ok (.iconst 1, 1) := by decide +kernel
theorem dX7_unique_53 : decode cX7_unique 53 = .ok (.iadd, 1) := by decide +kernel
theorem dX7_unique_54 : decode cX7_unique 54 = .ok (.istore 5, 2) := by decide +kernel
theorem dX7_unique_56 : decode cX7_unique 56 = .ok (.iload 5, 2) := by decide +kernel
theorem dX7_unique_58 : decode cX7_unique 58 = .ok (.aload_n 0, 1) := by decide +kernel
theorem dX7_unique_59 : decode cX7_unique 59 = .ok (.iconst 0, 1) := by decide +kernel
theorem dX7_unique_60 : decode cX7_unique 60 = .ok (.aload_n 0, 1) := by decide +kernel
theorem dX7_unique_61 : decode cX7_unique 61 = .ok (.getfield 46, 3) := by decide +kernel
theorem dX7_unique_64 : decode cX7_unique 64 = .ok (.iload 4, 2) := by decide +kernel
theorem dX7_unique_66 : decode cX7_unique 66 = .ok (.iaload, 1) := by decide +kernel
theorem dX7_unique_67 : decode cX7_unique 67 = .ok (.invokevirtual 78, 3) := by decide +kernel
theorem dX7_unique_70 : decode cX7_unique 70 = .ok (.if_icmp .gt 38, 3) := by decide +kernel
theorem dX7_unique_73 : decode cX7_unique 73 = .ok (.iload 5, 2) := by decide +kernel
theorem dX7_unique_75 : decode cX7_unique 75 = .ok (.iload_n 3, 1) := by decide +kernel
theorem dX7_unique_76 : decode cX7_unique 76 = .ok (.if_icmp .ge 26, 3) := by decide +kernel
theorem dX7_unique_79 : decode cX7_unique 79 = .ok (.aload_n 0, 1) := by decide +kernel
theorem dX7_unique_80 : decode cX7_unique 80 = .ok (.iload 4, 2) := by decide +kernel
theorem dX7_unique_82 : decode cX7_unique 82 = .ok (.iload 5, 2) := by decide +kernel
theorem dX7_unique_84 : decode cX7_unique 84 = .ok (.invokevirtual 191, 3) := by decide +kernel
theorem dX7_unique_87 : decode cX7_unique 87 = .ok (.iload_n 1, 1) := by decide +kernel
theorem dX7_unique_88 : decode cX7_unique 88 = .ok (.if_icmp .ne 14, 3) := by decide +kernel
theorem dX7_unique_91 : decode cX7_unique 91 = .ok (.aload_n 0, 1) := by decide +kernel
theorem dX7_unique_92 : decode cX7_unique 92 = .ok (.getfield 46, 3) := by decide +kernel
theorem dX7_unique_95 : decode cX7_unique 95 = .ok (.iload 4, 2) := by decide +kernel
theorem dX7_unique_97 : decode cX7_unique 97 = .ok (.iaload, 1) := by decide +kernel
theorem dX7_unique_98 : decode cX7_unique 98 = .ok (.istore_n 2, 1) := by decide +kernel
theorem dX7_unique_99 : decode cX7_unique 99 = .ok (.iload 5, 2) := by decide +kernel
theorem dX7_unique_101 : decode cX7_unique 101 = .ok (.istore_n 3, 1) := by decide +kernel
theorem dX7_unique_102 : decode cX7_unique 102 = .ok (.iinc 5 1, 3) := by decide +kernel
theorem dX7_unique_105 : decode cX7_unique 105 = .ok (.goto (-49), 3) := by decide +kernel
theorem dX7_unique_108 : decode cX7_unique 108 = .ok (.iinc 4 1, 3) := by decide +kernel
theorem dX7_unique_111 : decode cX7_unique 111 = .ok (.goto (-77), 3) := by decide +kernel
theorem dX7_unique_114 : decode cX7_unique 114 = .ok (.iload_n 2, 1) := by decide +kernel
theorem dX7_unique_115 : decode cX7_unique 115 = .ok (.ifCond .ge 8, 3) := by decide +kernel
theorem dX7_unique_118 : decode cX7_unique 118 = .ok (.bipush (-6), 2) := by decide +kernel
theorem dX7_unique_120 : decode cX7_unique 120 = .ok (.goto 9, 3) := by decide +kernel
theorem dX7_unique_123 : decode cX7_unique 123 = .ok (.aload_n 0, 1) := by decide +kernel
theorem dX7_unique_124 : decode cX7_unique 124 = .ok (.iload_n 2, 1) := by decide +kernel
theorem dX7_unique_125 : decode cX7_unique 125 = .ok (.iload_n 3, 1) := by decide +kernel
theorem dX7_unique_126 : decode cX7_unique 126 = .ok (.invokevirtual 155, 3) := by decide +kernel
theorem dX7_unique_129 : decode cX7_unique 129 = .ok (.ireturn, 1) := by decide +kernel
set_option maxRecDepth 20000 in
theorem ggX7_isTriedFactor_X7_rest : GoodIn wsX7_isTriedFactor wsX7_rest := goodIn_r _ [7, 8, 9, 15, 16, 17, 18, 19, 20, 21, 22, 23, 24, 25, 26, 27, 28, 29, 30, 31, 32, 33, 34, 35, 36, 37] (by decide +kernel) (by decide +kernel)
set_option maxRecDepth 20000 in
theorem gX7_isTriedFactor_X7_rest : GoodIn wsX7_isTriedFactor (wsV RX7 78 RX7 yX7_rest wsX7_rest) := goodIn_app (goodIn_of _ (by decide +kernel)) ggX7_isTriedFactor_X7_rest
set_option maxRecDepth 20000 in
theorem ggX7_isTriedFactor_X7_letterAt : GoodIn wsX7_isTriedFactor wsX7_letterAt := goodIn_r _ [13, 14, 15, 16, 17, 18, 19, 20, 21, 22, 23, 24, 25, 26, 27, 28, 29, 30, 31, 32, 33, 34, 35, 36, 37] (by decide +kernel) (by decide +kernel)
set_option maxRecDepth 20000 in
theorem gX7_isTriedFactor_X7_letterAt : GoodIn wsX7_isTriedFactor (wsV RX7 127 RX7 yX7_letterAt wsX7_letterAt) := goodIn_app (goodIn_of _ (by decide +kernel)) ggX7_isTriedFactor_X7_letterAt
theorem dX7_isTriedFactor_0 : decode cX7_isTriedFactor 0 = .ok (.iconst 0, 1) := by decide +kernel
theorem dX7_isTriedFactor_1 : decode cX7_isTriedFactor 1 = .ok (.istore_n 2, 1) := by decide +kernel
theorem dX7_isTriedFactor_2 : decode cX7_isTriedFactor 2 = .ok (.iload_n 2, 1) := by decide +kernel
theorem dX7_isTriedFactor_3 : decode cX7_isTriedFactor 3 = .ok (.aload_n 0, 1) := by decide +kernel
theorem dX7_isTriedFactor_4 : decode cX7_isTriedFactor 4 = .ok (.getfield 37, 3) := by decide +kernel
theorem dX7_isTriedFactor_7 : decode cX7_isTriedFactor 7 = .ok (.iconst 0, 1) := by decide +kernel
theorem dX7_isTriedFactor_8 : decode cX7_isTriedFactor 8 = .ok (.iaload, 1) := by decide +kernel
theorem dX7_isTriedFactor_9 : decode cX7_isTriedFactor 9 = .ok (.if_icmp .ge 74, 3) := by decide +kernel
theorem dX7_isTriedFactor_12 : decode cX7_isTriedFactor 12 = .ok (.aload_n 0, 1) := by decide +kernel
theorem dX7_isTriedFactor_13 : decode cX7_isTriedFactor 13 = .ok (.iconst 0, 1) := by decide +kernel
theorem dX7_isTriedFactor_14 : decode cX7_isTriedFactor 14 = .ok (.iload_n 2, 1) := by decide +kernel
theorem dX7_isTriedFactor_15 : decode cX7_isTriedFactor 15 = .ok (.invokevirtual 78, 3) := by decide +kernel
theorem dX7_isTriedFactor_18 : decode cX7_isTriedFactor 18 = .ok (.iload_n 1, 1) := by decide +kernel
theorem dX7_isTriedFactor_19 : decode cX7_isTriedFactor 19 = .ok (.if_icmp .lt 7, 3) := by decide +kernel
theorem dX7_isTriedFactor_22 : decode cX7_isTriedFactor 22 = .ok (.iconst 1, 1) := by decide +kernel
theorem dX7_isTriedFactor_23 : decode cX7_isTriedFactor 23 = .ok (.goto 4, 3) := by decide +kernel
theorem dX7_isTriedFactor_26 : decode cX7_isTriedFactor 26 = .ok (.iconst 0, 1) := by decide +kernel
theorem dX7_isTriedFactor_27 : decode cX7_isTriedFactor 27 = .ok (.istore_n 3, 1) := by decide +kernel
theorem dX7_isTriedFactor_28 : decode cX7_isTriedFactor 28 = .ok (.iconst 0, 1) := by decide +kernel
theorem dX7_isTriedFactor_29 : decode cX7_isTriedFactor 29 = .ok (.istore 4, 2) := by decide +kernel
theorem dX7_isTriedFactor_31 : decode cX7_isTriedFactor 31 = .ok (.iload 4, 2) := by decide +kernel
theorem dX7_isTriedFactor_33 : decode cX7_isTriedFactor 33 = .ok (.iload_n 1, 1) := by decide +kernel
theorem dX7_isTriedFactor_34 : decode cX7_isTriedFactor 34 = .ok (.if_icmp .ge 37, 3) := by decide +kernel
theorem dX7_isTriedFactor_37 : decode cX7_isTriedFactor 37 = .ok (.iload_n 3, 1) := by decide +kernel
theorem dX7_isTriedFactor_38 : decode cX7_isTriedFactor 38 = .ok (.ifCond .eq 33, 3) := by decide +kernel
theorem dX7_isTriedFactor_41 : decode cX7_isTriedFactor 41 = .ok (.aload_n 0, 1) := by decide +kernel
theorem dX7_isTriedFactor_42 : decode cX7_isTriedFactor 42 = .ok (.iload_n 2, 1) := by decide +kernel
theorem dX7_isTriedFactor_43 : decode cX7_isTriedFactor 43 = .ok (.iload 4, 2) := by decide +kernel
theorem dX7_isTriedFactor_45 : decode cX7_isTriedFactor 45 = .ok (.iadd, 1) := by decide +kernel
theorem dX7_isTriedFactor_46 : decode cX7_isTriedFactor 46 = .ok (.invokevirtual 127, 3) := by decide +kernel
theorem dX7_isTriedFactor_49 : decode cX7_isTriedFactor 49 = .ok (.aload_n 0, 1) := by decide +kernel
theorem dX7_isTriedFactor_50 : decode cX7_isTriedFactor 50 = .ok (.getfield 64, 3) := by decide +kernel
theorem dX7_isTriedFactor_53 : decode cX7_isTriedFactor 53 = .ok (.iload 4, 2) := by decide +kernel
theorem dX7_isTriedFactor_55 : decode cX7_isTriedFactor 55 = .ok (.iaload, 1) := by decide +kernel
theorem dX7_isTriedFactor_56 : decode cX7_isTriedFactor 56 = .ok (.if_icmp .ne 7, 3) := by decide +kernel
theorem dX7_isTriedFactor_59 : decode cX7_isTriedFactor 59 = .ok (.iconst 1, 1) := by decide +kernel
theorem dX7_isTriedFactor_60 : decode cX7_isTriedFactor 60 = .ok (.goto 4, 3) := by decide +kernel
theorem dX7_isTriedFactor_63 : decode cX7_isTriedFactor 63 = .ok (.iconst 0, 1) := by decide +kernel
theorem dX7_isTriedFactor_64 : decode cX7_isTriedFactor 64 = .ok (.istore_n 3, 1) := by decide +kernel
theorem dX7_isTriedFactor_65 : decode cX7_isTriedFactor 65 = .ok (.iinc 4 1, 3) := by decide +kernel
theorem dX7_isTriedFactor_68 : decode cX7_isTriedFactor 68 = .ok (.goto (-37), 3) := by decide +kernel
theorem dX7_isTriedFactor_71 : decode cX7_isTriedFactor 71 = .ok (.iload_n 3, 1) := by decide +kernel
theorem dX7_isTriedFactor_72 : decode cX7_isTriedFactor 72 = .ok (.ifCond .eq 5, 3) := by decide +kernel
theorem dX7_isTriedFactor_75 : decode cX7_isTriedFactor 75 = .ok (.iconst 1, 1) := by decide +kernel
theorem dX7_isTriedFactor_76 : decode cX7_isTriedFactor 76 = .ok (.ireturn, 1) := by decide +kernel
theorem dX7_isTriedFactor_77 : decode cX7_isTriedFactor 77 = .ok (.iinc 2 1, 3) := by decide +kernel
theorem dX7_isTriedFactor_80 : decode cX7_isTriedFactor 80 = .ok (.goto (-78), 3) := by decide +kernel
theorem dX7_isTriedFactor_83 : decode cX7_isTriedFactor 83 = .ok (.iconst 0, 1) := by decide +kernel
theorem dX7_isTriedFactor_84 : decode cX7_isTriedFactor 84 = .ok (.ireturn, 1) := by decide +kernel
theorem dX7_nextTried_0 : decode cX7_nextTried 0 = .ok (.iload_n 1, 1) := by decide +kernel
theorem dX7_nextTried_1 : decode cX7_nextTried 1 = .ok (.iconst 1, 1) := by decide +kernel
theorem dX7_nextTried_2 : decode cX7_nextTried 2 = .ok (.isub, 1) := by decide +kernel
theorem dX7_nextTried_3 : decode cX7_nextTried 3 = .ok (.istore_n 3, 1) := by decide +kernel
theorem dX7_nextTried_4 : decode cX7_nextTried 4 = .ok (.iload_n 3, 1) := by decide +kernel
theorem dX7_nextTried_5 : decode cX7_nextTried 5 = .ok (.ifCond .lt 28, 3) := by decide +kernel
theorem dX7_nextTried_8 : decode cX7_nextTried 8 = .ok (.aload_n 0, 1) := by decide +kernel
theorem dX7_nextTried_9 : decode cX7_nextTried 9 = .ok (.getfield 64, 3) := by decide +kernel
theorem dX7_nextTried_12 : decode cX7_nextTried 12 = .ok (.iload_n 3, 1) := by decide +kernel
theorem dX7_nextTried_13 : decode cX7_nextTried 13 = .ok (.iaload, 1) := by decide +kernel
theorem dX7_nextTried_14 : decode cX7_nextTried 14 = .ok (.iload_n 2, 1) := by decide +kernel
theorem dX7_nextTried_15 : decode cX7_nextTried 15 = .ok (.iconst 1, 1) := by decide +kernel
theorem dX7_nextTried_16 : decode cX7_nextTried 16 = .ok (.isub, 1) := by decide +kernel
theorem dX7_nextTried_17 : decode cX7_nextTried 17 = .ok (.if_icmp .ne 16, 3) := by decide +kernel
theorem dX7_nextTried_20 : decode cX7_nextTried 20 = .ok (.aload_n 0, 1) := by decide +kernel
theorem dX7_nextTried_21 : decode cX7_nextTried 21 = .ok (.getfield 64, 3) := by decide +kernel
theorem dX7_nextTried_24 : decode cX7_nextTried 24 = .ok (.iload_n 3, 1) := by decide +kernel
theorem dX7_nextTried_25 : decode cX7_nextTried 25 = .ok (.iconst 0, 1) := by decide +kernel
theorem dX7_nextTried_26 : decode cX7_nextTried 26 = .ok (.iastore, 1) := by decide +kernel
theorem dX7_nextTried_27 : decode cX7_nextTried 27 = .ok (.iinc 3 (-1), 3) := by decide +kernel
theorem dX7_nextTried_30 : decode cX7_nextTried 30 = .ok (.goto (-26), 3) := by decide +kernel
theorem dX7_nextTried_33 : decode cX7_nextTried 33 = .ok (.iload_n 3, 1) := by decide +kernel
theorem dX7_nextTried_34 : decode cX7_nextTried 34 = .ok (.ifCond .ge 5, 3) := by decide +kernel
theorem dX7_nextTried_37 : decode cX7_nextTried 37 = .ok (.iconst 0, 1) := by decide +kernel
theorem dX7_nextTried_38 : decode cX7_nextTried 38 = .ok (.ireturn, 1) := by decide +kernel
theorem dX7_nextTried_39 : decode cX7_nextTried 39 = .ok (.aload_n 0, 1) := by decide +kernel
theorem dX7_nextTried_40 : decode cX7_nextTried 40 = .ok (.getfield 64, 3) := by decide +kernel
theorem dX7_nextTried_43 : decode cX7_nextTried 43 = .ok (.iload_n 3, 1) := by decide +kernel
theorem dX7_nextTried_44 : decode cX7_nextTried 44 = .ok (.dup2, 1) := by decide +kernel
theorem dX7_nextTried_45 : decode cX7_nextTried 45 = .ok (.iaload, 1) := by decide +kernel
theorem dX7_nextTried_46 : decode cX7_nextTried 46 = .ok (.iconst 1, 1) := by decide +kernel
theorem dX7_nextTried_47 : decode cX7_nextTried 47 = .ok (.iadd, 1) := by decide +kernel
theorem dX7_nextTried_48 : decode cX7_nextTried 48 = .ok (.iastore, 1) := by decide +kernel
theorem dX7_nextTried_49 : decode cX7_nextTried 49 = .ok (.iconst 1, 1) := by decide +kernel
theorem dX7_nextTried_50 : decode cX7_nextTried 50 = .ok (.ireturn, 1) := by decide +kernel
set_option maxRecDepth 20000 in
theorem ggX7_absent_X7_in : GoodIn wsX7_absent wsX7_in := goodIn_r _ [7] (by decide +kernel) (by decide +kernel)
set_option maxRecDepth 20000 in
theorem gX7_absent_X7_in : GoodIn wsX7_absent (va_wsS RX7 97 yX7_in wsX7_in) := goodIn_app (goodIn_of _ (by decide +kernel)) ggX7_absent_X7_in
set_option maxRecDepth 20000 in
theorem ggX7_absent_X7_layPresent : GoodIn wsX7_absent wsX7_layPresent := goodIn_r _ [11, 12, 13, 14, 15, 6, 16, 17, 18, 19, 20, 21, 22, 23, 24, 25, 42, 43, 44, 45, 46, 47, 48, 49, 50, 51, 52, 53, 54, 55, 56, 57, 58, 59, 60, 61, 62, 63, 64] (by decide +kernel) (by decide +kernel)
set_option maxRecDepth 20000 in
theorem gX7_absent_X7_layPresent : GoodIn wsX7_absent (wsV RX7 124 RX7 yX7_layPresent wsX7_layPresent) := goodIn_app (goodIn_of _ (by decide +kernel)) ggX7_absent_X7_layPresent
set_option maxRecDepth 20000 in
theorem ggX7_absent_X7_isTriedFactor : GoodIn wsX7_absent wsX7_isTriedFactor := goodIn_r _ [29, 20, 1, 30, 31, 32, 6, 33, 23, 25, 34, 35, 36, 37, 24, 42, 43, 44, 45, 46, 47, 48, 49, 50, 51, 52, 53, 54, 55, 56, 57, 58, 59, 60, 61, 62, 63, 64] (by decide +kernel) (by decide +kernel)
set_option maxRecDepth 20000 in
theorem gX7_absent_X7_isTriedFactor : GoodIn wsX7_absent (wsV RX7 197 RX7 yX7_isTriedFactor wsX7_isTriedFactor) := goodIn_app (goodIn_of _ (by decide +kernel)) ggX7_absent_X7_isTriedFactor
set_option maxRecDepth 20000 in
theorem ggX7_absent_X7_nextTried : GoodIn wsX7_absent wsX7_nextTried := goodIn_r _ [41, 1, 42, 43, 44, 45, 46, 47, 48, 49, 50, 51, 52, 53, 54, 55, 56, 57, 58, 59, 60, 61, 62, 63, 64] (by decide +kernel) (by decide +kernel)
set_option maxRecDepth 20000 in
theorem gX7_absent_X7_nextTried : GoodIn wsX7_absent (wsV RX7 200 RX7 yX7_nextTried wsX7_nextTried) := goodIn_app (goodIn_of _ (by decide +kernel)) ggX7_absent_X7_nextTried
theorem dX7_absent_0 : decode cX7_absent 0 = .ok (.iload_n 1, 1) := by decide +kernel
theorem dX7_absent_1 : decode cX7_absent 1 = .ok (.iconst 1, 1) := by decide +kernel
theorem dX7_absent_2 : decode cX7_absent 2 = .ok (.bipush 8, 2) := by decide +kernel
theorem dX7_absent_4 : decode cX7_absent 4 = .ok (.invokestatic 97, 3) := by decide +kernel
theorem dX7_absent_7 : decode cX7_absent 7 = .ok (.ifCond .ne 6, 3) := by decide +kernel
theorem dX7_absent_10 : decode cX7_absent 10 = .ok (.bipush (-2), 2) := by decide +kernel
theorem dX7_absent_12 : decode cX7_absent 12 = .ok (.ireturn, 1) := by decide +kernel
theorem dX7_absent_13 : decode cX7_absent 13 = .ok (.aload_n 0, 1) := by decide +kernel
theorem dX7_absent_14 : decode cX7_absent 14 = .ok (.invokevirtual 124, 3) := by decide +kernel
theorem dX7_absent_17 : decode cX7_absent 17 = .ok (.iconst 1, 1) := by decide +kernel
theorem dX7_absent_18 : decode cX7_absent 18 = .ok (.istore_n 2, 1) := by decide +kernel
theorem dX7_absent_19 : decode cX7_absent 19 = .ok (.iload_n 2, 1) := by decide +kernel
theorem dX7_absent_20 : decode cX7_absent 20 = .ok (.bipush 60, 2) := by decide +kernel
theorem dX7_absent_22 : decode cX7_absent 22 = .ok (.if_icmp .gt 92, 3) := by decide +kernel
theorem dX7_absent_25 : decode cX7_absent 25 = .ok (.iconst 0, 1) := by decide +kernel
theorem dX7_absent_26 : decode cX7_absent 26 = .ok (.istore_n 3, 1) := by decide +kernel
theorem dX7_absent_27 : decode cX7_absent 27 = .ok (.iload_n 3, 1) := by decide +kernel
theorem dX7_absent_28 : decode cX7_absent 28 = .ok (.iload_n 2, 1) := by decide +kernel
theorem dX7_absent_29 : decode cX7_absent 29 = .ok (.if_icmp .ge 16, 3) := by decide +kernel
theorem dX7_absent_32 : decode cX7_absent 32 = .ok (.aload_n 0, 1) := by decide +kernel
theorem dX7_absent_33 : decode cX7_absent 33 = .ok (.getfield 64, 3) := by decide +kernel
theorem dX7_absent_36 : decode cX7_absent 36 = .ok (.iload_n 3, 1) := by decide +kernel
theorem dX7_absent_37 : decode cX7_absent 37 = .ok (.iconst 0, 1) := by decide +kernel
theorem dX7_absent_38 : decode cX7_absent 38 = .ok (.iastore, 1) := by decide +kernel
theorem dX7_absent_39 : decode cX7_absent 39 = .ok (.iinc 3 1, 3) := by decide +kernel
theorem dX7_absent_42 : decode cX7_absent 42 = .ok (.goto (-15), 3) := by decide +kernel
theorem dX7_absent_45 : decode cX7_absent 45 = .ok (.iconst 1, 1) := by decide +kernel
theorem dX7_absent_46 : decode cX7_absent 46 = .ok (.istore_n 3, 1) := by decide +kernel
theorem dX7_absent_47 : decode cX7_absent 47 = .ok (.iload_n 3, 1) := by decide +kernel
theorem dX7_absent_48 : decode cX7_absent 48 = .ok (.ifCond .eq 60, 3) := by decide +kernel
theorem dX7_absent_51 : decode cX7_absent 51 = .ok (.aload_n 0, 1) := by decide +kernel
theorem dX7_absent_52 : decode cX7_absent 52 = .ok (.iload_n 2, 1) := by decide +kernel
theorem dX7_absent_53 : decode cX7_absent 53 = .ok (.invokevirtual 197, 3) := by decide +kernel
theorem dX7_absent_56 : decode cX7_absent 56 = .ok (.ifCond .ne 42, 3) := by decide +kernel
theorem dX7_absent_59 : decode cX7_absent 59 = .ok (.iconst 0, 1) := by decide +kernel
theorem dX7_absent_60 : decode cX7_absent 60 = .ok (.istore 4, 2) := by decide +kernel
theorem dX7_absent_62 : decode cX7_absent 62 = .ok (.iload 4, 2) := by decide +kernel
theorem dX7_absent_64 : decode cX7_absent 64 = .ok (.iload_n 2, 1) := by decide +kernel
theorem dX7_absent_65 : decode cX7_absent 65 = .ok (.if_icmp .ge 26, 3) := by decide +kernel
theorem dX7_absent_68 : decode cX7_absent 68 = .ok (.aload_n 0, 1) := by decide +kernel
theorem dX7_absent_69 : decode cX7_absent 69 = .ok (.getfield 22, 3) := by decide +kernel
theorem dX7_absent_72 : decode cX7_absent 72 = .ok (.iload 4, 2) := by decide +kernel
theorem dX7_absent_74 : decode cX7_absent 74 = .ok (.bipush 97, 2) := by decide +kernel
theorem dX7_absent_76 : decode cX7_absent 76 = .ok (.aload_n 0, 1) := by decide +kernel
theorem dX7_absent_77 : decode cX7_absent 77 = .ok (.getfield 64, 3) := by decide +kernel
theorem dX7_absent_80 : decode cX7_absent 80 = .ok (.iload 4, 2) := by decide +kernel
theorem dX7_absent_82 : decode cX7_absent 82 = .ok (.iaload, 1) := by decide +kernel
theorem dX7_absent_83 : decode cX7_absent 83 = .ok (.iadd, 1) := by decide +kernel
theorem dX7_absent_84 : decode cX7_absent 84 = .ok (.iastore, 1) := by decide +kernel
theorem dX7_absent_85 : decode cX7_absent 85 = .ok (.iinc 4 1, 3) := by decide +kernel
theorem dX7_absent_88 : decode cX7_absent 88 = .ok (.goto (-26), 3) := by decide +kernel
theorem dX7_absent_91 : decode cX7_absent 91 = .ok (.aload_n 0, 1) := by decide +kernel
theorem dX7_absent_92 : decode cX7_absent 92 = .ok (.iload_n 2, 1) := by decide +kernel
theorem dX7_absent_93 : decode cX7_absent 93 = .ok (.putfield 104, 3) := by decide +kernel
theorem dX7_absent_96 : decode cX7_absent 96 = .ok (.iload_n 2, 1) := by decide +kernel
theorem dX7_absent_97 : decode cX7_absent 97 = .ok (.ireturn, 1) := by decide +kernel
theorem dX7_absent_98 : decode cX7_absent 98 = .ok (.aload_n 0, 1) := by decide +kernel
theorem dX7_absent_99 : decode cX7_absent 99 = .ok (.iload_n 2, 1) := by decide +kernel
theorem dX7_absent_100 : decode cX7_absent 100 = .ok (.iload_n 1, 1) := by decide +kernel
theorem dX7_absent_101 : decode cX7_absent 101 = .ok (.invokevirtual 200, 3) := by decide +kernel
theorem dX7_absent_104 : decode cX7_absent 104 = .ok (.istore_n 3, 1) := by decide +kernel
theorem dX7_absent_105 : decode cX7_absent 105 = .ok (.goto (-58), 3) := by decide +kernel
theorem dX7_absent_108 : decode cX7_absent 108 = .ok (.iinc 2 1, 3) := by decide +kernel
theorem dX7_absent_111 : decode cX7_absent 111 = .ok (.goto (-92), 3) := by decide +kernel
theorem dX7_absent_114 : decode cX7_absent 114 = .ok (.bipush (-4), 2) := by decide +kernel
theorem dX7_absent_116 : decode cX7_absent 116 = .ok (.ireturn, 1) := by decide +kernel
set_option maxRecDepth 20000 in
theorem ggX7_lettersOfAll_X7_letterAt : GoodIn wsX7_lettersOfAll wsX7_letterAt := goodIn_r _ [6, 7, 8, 9, 10, 11, 12, 13, 14, 15, 16, 17, 18, 19, 20, 21, 22, 23, 24, 25, 26, 27, 28, 29, 30] (by decide +kernel) (by decide +kernel)
set_option maxRecDepth 20000 in
theorem gX7_lettersOfAll_X7_letterAt : GoodIn wsX7_lettersOfAll (wsV RX7 127 RX7 yX7_letterAt wsX7_letterAt) := goodIn_app (goodIn_of _ (by decide +kernel)) ggX7_lettersOfAll_X7_letterAt
theorem dX7_lettersOfAll_0 : decode cX7_lettersOfAll 0 = .ok (.iconst 0, 1) := by decide +kernel
theorem dX7_lettersOfAll_1 : decode cX7_lettersOfAll 1 = .ok (.istore_n 1, 1) := by decide +kernel
theorem dX7_lettersOfAll_2 : decode cX7_lettersOfAll 2 = .ok (.iconst 0, 1) := by decide +kernel
theorem dX7_lettersOfAll_3 : decode cX7_lettersOfAll 3 = .ok (.istore_n 2, 1) := by decide +kernel
theorem dX7_lettersOfAll_4 : decode cX7_lettersOfAll 4 = .ok (.iload_n 2, 1) := by decide +kernel
theorem dX7_lettersOfAll_5 : decode cX7_lettersOfAll 5 = .ok (.aload_n 0, 1) := by decide +kernel
theorem dX7_lettersOfAll_6 : decode cX7_lettersOfAll 6 = .ok (.getfield 37, 3) := by decide +kernel
theorem dX7_lettersOfAll_9 : decode cX7_lettersOfAll 9 = .ok (.iconst 0, 1) := by decide +kernel
theorem dX7_lettersOfAll_10 : decode cX7_lettersOfAll 10 = .ok (.iaload, 1) := by decide +kernel
theorem dX7_lettersOfAll_11 : decode cX7_lettersOfAll 11 = .ok (.if_icmp .ge 19, 3) := by decide +kernel
theorem dX7_lettersOfAll_14 : decode cX7_lettersOfAll 14 = .ok (.iload_n 1, 1) := by decide +kernel
theorem dX7_lettersOfAll_15 : decode cX7_lettersOfAll 15 = .ok (.iconst 1, 1) := by decide +kernel
theorem dX7_lettersOfAll_16 : decode cX7_lettersOfAll 16 = .ok (.aload_n 0, 1) := by decide +kernel
theorem dX7_lettersOfAll_17 : decode cX7_lettersOfAll 17 = .ok (.iload_n 2, 1) := by decide +kernel
theorem dX7_lettersOfAll_18 : decode cX7_lettersOfAll 18 = .ok (.invokevirtual 127, 3) := by decide +kernel
theorem dX7_lettersOfAll_21 : decode cX7_lettersOfAll 21 = .ok (.ishl, 1) := by decide +kernel
theorem dX7_lettersOfAll_22 : decode cX7_lettersOfAll 22 = .ok (.ior, 1) := by decide +kernel
theorem dX7_lettersOfAll_23 : decode cX7_lettersOfAll 23 = .ok (.istore_n 1, 1) := by decide +kernel
theorem dX7_lettersOfAll_24 : decode cX7_lettersOfAll 24 = .ok (.iinc 2 1, 3) := by decide +kernel
theorem dX7_lettersOfAll_27 : decode cX7_lettersOfAll 27 = .ok (.goto (-23), 3) := by decide +kernel
theorem dX7_lettersOfAll_30 : decode cX7_lettersOfAll 30 = .ok (.iload_n 1, 1) := by decide +kernel
theorem dX7_lettersOfAll_31 : decode cX7_lettersOfAll 31 = .ok (.ireturn, 1) := by decide +kernel
set_option maxRecDepth 20000 in
theorem ggX7_minimal_X7_layPresent : GoodIn wsX7_minimal wsX7_layPresent := goodIn_r _ [8, 9, 10, 11, 12, 7, 13, 14, 15, 16, 1, 17, 18, 19, 20, 21, 57, 58, 59, 60, 61, 62, 63, 64, 65, 66, 67, 68, 69, 70, 71, 72, 73, 74, 75, 76, 77, 78, 79] (by decide +kernel) (by decide +kernel)
set_option maxRecDepth 20000 in
theorem gX7_minimal_X7_layPresent : GoodIn wsX7_minimal (wsV RX7 124 RX7 yX7_layPresent wsX7_layPresent) := goodIn_app (goodIn_of _ (by decide +kernel)) ggX7_minimal_X7_layPresent
set_option maxRecDepth 20000 in
theorem ggX7_minimal_X7_sort : GoodIn wsX7_minimal wsX7_sort := goodIn_r _ [25, 1, 3, 2, 26, 27, 28, 7, 29, 20, 30, 31, 32, 33, 34, 35, 36, 37, 19, 21, 57, 58, 59, 60, 61, 62, 63, 64, 65, 66, 67, 68, 69, 70, 71, 72, 73, 74, 75, 76, 77, 78, 79] (by decide +kernel) (by decide +kernel)
set_option maxRecDepth 20000 in
theorem gX7_minimal_X7_sort : GoodIn wsX7_minimal (wsV RX7 117 RX7 yX7_sort wsX7_sort) := goodIn_app (goodIn_of _ (by decide +kernel)) ggX7_minimal_X7_sort
set_option maxRecDepth 20000 in
theorem ggX7_minimal_X7_rest : GoodIn wsX7_minimal wsX7_rest := goodIn_r _ [37, 19, 21, 57, 58, 59, 60, 61, 62, 63, 64, 65, 66, 67, 68, 69, 70, 71, 72, 73, 74, 75, 76, 77, 78, 79] (by decide +kernel) (by decide +kernel)
set_option maxRecDepth 20000 in
theorem gX7_minimal_X7_rest : GoodIn wsX7_minimal (wsV RX7 78 RX7 yX7_rest wsX7_rest) := goodIn_app (goodIn_of _ (by decide +kernel)) ggX7_minimal_X7_rest
set_option maxRecDepth 20000 in
theorem ggX7_minimal_X7_lettersOfAll : GoodIn wsX7_minimal wsX7_lettersOfAll := goodIn_r _ [41, 1, 42, 43, 44, 7, 45, 20, 57, 58, 59, 60, 61, 62, 63, 64, 65, 66, 67, 68, 69, 70, 71, 72, 73, 74, 75, 76, 77, 78, 79] (by decide +kernel) (by decide +kernel)
set_option maxRecDepth 20000 in
theorem gX7_minimal_X7_lettersOfAll : GoodIn wsX7_minimal (wsV RX7 203 RX7 yX7_lettersOfAll wsX7_lettersOfAll) := goodIn_app (goodIn_of _ (by decide +kernel)) ggX7_minimal_X7_lettersOfAll
set_option maxRecDepth 20000 in
theorem ggX7_minimal_X7_nextOf : GoodIn wsX7_minimal wsX7_nextOf := goodIn_r _ [49, 1, 50, 51, 52, 7, 53, 30, 31, 32, 33, 20, 34, 35, 36, 37, 19, 21, 42, 43, 44, 45, 57, 58, 59, 60, 61, 62, 63, 64, 65, 66, 67, 68, 69, 70, 71, 72, 73, 74, 75, 76, 77, 78, 79] (by decide +kernel) (by decide +kernel)
set_option maxRecDepth 20000 in
theorem gX7_minimal_X7_nextOf : GoodIn wsX7_minimal (wsV RX7 182 RX7 yX7_nextOf wsX7_nextOf) := goodIn_app (goodIn_of _ (by decide +kernel)) ggX7_minimal_X7_nextOf
set_option maxRecDepth 20000 in
theorem ggX7_minimal_X7_sizeOf : GoodIn wsX7_minimal wsX7_sizeOf := goodIn_r _ [56] (by decide +kernel) (by decide +kernel)
set_option maxRecDepth 20000 in
theorem gX7_minimal_X7_sizeOf : GoodIn wsX7_minimal (va_wsS RX7 194 yX7_sizeOf wsX7_sizeOf) := goodIn_app (goodIn_of _ (by decide +kernel)) ggX7_minimal_X7_sizeOf
theorem dX7_minimal_0 : decode cX7_minimal 0 = .ok (.aload_n 0, 1) := by decide +kernel
theorem dX7_minimal_1 : decode cX7_minimal 1 = .ok (.invokevirtual 124, 3) := by decide +kernel
theorem dX7_minimal_4 : decode cX7_minimal 4 = .ok (.aload_n 0, 1) := by decide +kernel
theorem dX7_minimal_5 : decode cX7_minimal 5 = .ok (.invokevirtual 117, 3) := by decide +kernel
theorem dX7_minimal_8 : decode cX7_minimal 8 = .ok (.iconst 0, 1) := by decide +kernel
theorem dX7_minimal_9 : decode cX7_minimal 9 = .ok (.istore_n 1, 1) := by decide +kernel
theorem dX7_minimal_10 : decode cX7_minimal 10 = .ok (.iconst 0, 1) := by decide +kernel
theorem dX7_minimal_11 : decode cX7_minimal 11 = .ok (.istore_n 2, 1) := by decide +kernel
theorem dX7_minimal_12 : decode cX7_minimal 12 = .ok (.iload_n 2, 1) := by decide +kernel
theorem dX7_minimal_13 : decode cX7_minimal 13 = .ok (.aload_n 0, 1) := by decide +kernel
theorem dX7_minimal_14 : decode cX7_minimal 14 = .ok (.getfield 37, 3) := by decide +kernel
theorem dX7_minimal_17 : decode cX7_minimal 17 = .ok (.iconst 0, 1) := by decide +kernel
theorem dX7_minimal_18 : decode cX7_minimal 18 = .ok (.iaload, 1) := by decide +kernel
theorem dX7_minimal_19 : decode cX7_minimal 19 = .ok (.if_icmp .ge 90, 3) := by decide +kernel
theorem dX7_minimal_22 : decode cX7_minimal 22 = .ok (.aload_n 0, 1) := by decide +kernel
theorem dX7_minimal_23 : decode cX7_minimal 23 = .ok (.getfield 49, 3) := by decide +kernel
theorem dX7_minimal_26 : decode cX7_minimal 26 = .ok (.iload_n 2, 1) := by decide +kernel
theorem dX7_minimal_27 : decode cX7_minimal 27 = .ok (.iaload, 1) := by decide +kernel
theorem dX7_minimal_28 : decode cX7_minimal 28 = .ok (.iconst 1, 1) := by decide +kernel
theorem dX7_minimal_29 : decode cX7_minimal 29 = .ok (.iadd, 1) := by decide +kernel
theorem dX7_minimal_30 : decode cX7_minimal 30 = .ok (.istore_n 3, 1) := by decide +kernel
theorem dX7_minimal_31 : decode cX7_minimal 31 = .ok (.iload_n 3, 1) := by decide +kernel
theorem dX7_minimal_32 : decode cX7_minimal 32 = .ok (.aload_n 0, 1) := by decide +kernel
theorem dX7_minimal_33 : decode cX7_minimal 33 = .ok (.iconst 0, 1) := by decide +kernel
theorem dX7_minimal_34 : decode cX7_minimal 34 = .ok (.aload_n 0, 1) := by decide +kernel
theorem dX7_minimal_35 : decode cX7_minimal 35 = .ok (.getfield 46, 3) := by decide +kernel
theorem dX7_minimal_38 : decode cX7_minimal 38 = .ok (.iload_n 2, 1) := by decide +kernel
theorem dX7_minimal_39 : decode cX7_minimal 39 = .ok (.iaload, 1) := by decide +kernel
theorem dX7_minimal_40 : decode cX7_minimal 40 = .ok (.invokevirtual 78, 3) := by decide +kernel
theorem dX7_minimal_43 : decode cX7_minimal 43 = .ok (.if_icmp .gt 60, 3) := by decide +kernel
theorem dX7_minimal_46 : decode cX7_minimal 46 = .ok (.iload_n 3, 1) := by decide +kernel
theorem dX7_minimal_47 : decode cX7_minimal 47 = .ok (.iconst 1, 1) := by decide +kernel
theorem dX7_minimal_48 : decode cX7_minimal 48 = .ok (.if_icmp .ne 10, 3) := by decide +kernel
theorem dX7_minimal_51 : decode cX7_minimal 51 = .ok (.aload_n 0, 1) := by decide +kernel
theorem dX7_minimal_52 : decode cX7_minimal 52 = .ok (.invokevirtual 203, 3) := by decide +kernel
theorem dX7_minimal_55 : decode cX7_minimal 55 = .ok (.goto 18, 3) := by decide +kernel
theorem dX7_minimal_58 : decode cX7_minimal 58 = .ok (.aload_n 0, 1) := by decide +kernel
theorem dX7_minimal_59 : decode cX7_minimal 59 = .ok (.aload_n 0, 1) := by decide +kernel
theorem dX7_minimal_60 : decode cX7_minimal 60 = .ok (.getfield 46, 3) := by decide +kernel
theorem dX7_minimal_63 : decode cX7_minimal 63 = .ok (.iload_n 2, 1) := by decide +kernel
theorem dX7_minimal_64 : decode cX7_minimal 64 = .ok (.iaload, 1) := by decide +kernel
theorem dX7_minimal_65 : decode cX7_minimal 65 = .ok (.iconst 1, 1) := by decide +kernel
theorem dX7_minimal_66 : decode cX7_minimal 66 = .ok (.iadd, 1) := by decide +kernel
theorem dX7_minimal_67 : decode cX7_minimal 67 = .ok (.iload_n 3, 1) := by decide +kernel
theorem dX7_minimal_68 : decode cX7_minimal 68 = .ok (.iconst 1, 1) := by decide +kernel
theorem dX7_minimal_69 : decode cX7_minimal 69 = .ok (.isub, 1) := by decide +kernel
theorem dX7_minimal_70 : decode cX7_minimal 70 = .ok (.invokevirtual 182, 3) := by decide +kernel
theorem dX7_minimal_73 : decode cX7_minimal 73 = .ok (.istore 4, 2) := by decide +kernel
theorem dX7_minimal_75 : decode cX7_minimal 75 = .ok (.iload_n 1, 1) := by decide +kernel
theorem dX7_minimal_76 : decode cX7_minimal 76 = .ok (.iload 4, 2) := by decide +kernel
theorem dX7_minimal_78 : decode cX7_minimal 78 = .ok (.aload_n 0, 1) := by decide +kernel
theorem dX7_minimal_79 : decode cX7_minimal 79 = .ok (.aload_n 0, 1) := by decide +kernel
theorem dX7_minimal_80 : decode cX7_minimal 80 = .ok (.getfield 46, 3) := by decide +kernel
theorem dX7_minimal_83 : decode cX7_minimal 83 = .ok (.iload_n 2, 1) := by decide +kernel
theorem dX7_minimal_84 : decode cX7_minimal 84 = .ok (.iaload, 1) := by decide +kernel
theorem dX7_minimal_85 : decode cX7_minimal 85 = .ok (.iload_n 3, 1) := by decide +kernel
theorem dX7_minimal_86 : decode cX7_minimal 86 = .ok (.invokevirtual 182, 3) := by decide +kernel
theorem dX7_minimal_89 : decode cX7_minimal 89 = .ok (.iconst (-1), 1) := by decide +kernel
theorem dX7_minimal_90 : decode cX7_minimal 90 = .ok (.ixor, 1) := by decide +kernel
theorem dX7_minimal_91 : decode cX7_minimal 91 = .ok (.iand, 1) := by decide +kernel
theorem dX7_minimal_92 : decode cX7_minimal 92 = .ok (.invokestatic 194, 3) := by decide +kernel
theorem dX7_minimal_95 : decode cX7_minimal 95 = .ok (.iadd, 1) := by decide +kernel
theorem dX7_minimal_96 : decode cX7_minimal 96 = .ok (.istore_n 1, 1) := by decide +kernel
theorem dX7_minimal_97 : decode cX7_minimal 97 = .ok (.iinc 3 1, 3) := by decide +kernel
theorem dX7_minimal_100 : decode cX7_minimal 100 = .ok (.goto (-69), 3) := by decide +kernel
theorem dX7_minimal_103 : decode cX7_minimal 103 = .ok (.iinc 2 1, 3) := by decide +kernel
theorem dX7_minimal_106 : decode cX7_minimal 106 = .ok (.goto (-94), 3) := by decide +kernel
theorem dX7_minimal_109 : decode cX7_minimal 109 = .ok (.iload_n 1, 1) := by decide +kernel
theorem dX7_minimal_110 : decode cX7_minimal 110 = .ok (.ireturn, 1) := by decide +kernel
set_option maxRecDepth 20000 in
theorem ggX7_allSteps_X7_lettersOfAll : GoodIn wsX7_allSteps wsX7_lettersOfAll := goodIn_r _ [7, 8, 9, 10, 11, 6, 12, 13, 40, 41, 42, 43, 44, 45, 46, 47, 48, 49, 50, 51, 52, 53, 54, 55, 56, 57, 58, 59, 60, 61, 62] (by decide +kernel) (by decide +kernel)
set_option maxRecDepth 20000 in
theorem gX7_allSteps_X7_lettersOfAll : GoodIn wsX7_allSteps (wsV RX7 203 RX7 yX7_lettersOfAll wsX7_lettersOfAll) := goodIn_app (goodIn_of _ (by decide +kernel)) ggX7_allSteps_X7_lettersOfAll
set_option maxRecDepth 20000 in
theorem ggX7_allSteps_X7_sizeOf : GoodIn wsX7_allSteps wsX7_sizeOf := goodIn_r _ [16] (by decide +kernel) (by decide +kernel)
set_option maxRecDepth 20000 in
theorem gX7_allSteps_X7_sizeOf : GoodIn wsX7_allSteps (va_wsS RX7 194 yX7_sizeOf wsX7_sizeOf) := goodIn_app (goodIn_of _ (by decide +kernel)) ggX7_allSteps_X7_sizeOf
set_option maxRecDepth 20000 in
theorem ggX7_allSteps_X7_firstOf : GoodIn wsX7_allSteps wsX7_firstOf := goodIn_r _ [20, 21, 2, 40, 41, 42, 43, 44, 45, 46, 47, 48, 49, 50, 51, 52, 53, 54, 55, 56, 57, 58, 59, 60, 61, 62] (by decide +kernel) (by decide +kernel)
set_option maxRecDepth 20000 in
theorem gX7_allSteps_X7_firstOf : GoodIn wsX7_allSteps (wsV RX7 173 RX7 yX7_firstOf wsX7_firstOf) := goodIn_app (goodIn_of _ (by decide +kernel)) ggX7_allSteps_X7_firstOf
set_option maxRecDepth 20000 in
theorem ggX7_allSteps_X7_nextOf : GoodIn wsX7_allSteps wsX7_nextOf := goodIn_r _ [25, 8, 26, 27, 28, 6, 29, 30, 31, 32, 33, 13, 34, 35, 36, 37, 38, 39, 9, 10, 11, 12, 40, 41, 42, 43, 44, 45, 46, 47, 48, 49, 50, 51, 52, 53, 54, 55, 56, 57, 58, 59, 60, 61, 62] (by decide +kernel) (by decide +kernel)
set_option maxRecDepth 20000 in
theorem gX7_allSteps_X7_nextOf : GoodIn wsX7_allSteps (wsV RX7 182 RX7 yX7_nextOf wsX7_nextOf) := goodIn_app (goodIn_of _ (by decide +kernel)) ggX7_allSteps_X7_nextOf
theorem dX7_allSteps_0 : decode cX7_allSteps 0 = .ok (.aload_n 0, 1) := by decide +kernel
theorem dX7_allSteps_1 : decode cX7_allSteps 1 = .ok (.invokevirtual 203, 3) := by decide +kernel
theorem dX7_allSteps_4 : decode cX7_allSteps 4 = .ok (.invokestatic 194, 3) := by decide +kernel
theorem dX7_allSteps_7 : decode cX7_allSteps 7 = .ok (.istore_n 1, 1) := by decide +kernel
theorem dX7_allSteps_8 : decode cX7_allSteps 8 = .ok (.iconst 0, 1) := by decide +kernel
theorem dX7_allSteps_9 : decode cX7_allSteps 9 = .ok (.istore_n 2, 1) := by decide +kernel
theorem dX7_allSteps_10 : decode cX7_allSteps 10 = .ok (.iload_n 2, 1) := by decide +kernel
theorem dX7_allSteps_11 : decode cX7_allSteps 11 = .ok (.aload_n 0, 1) := by decide +kernel
theorem dX7_allSteps_12 : decode cX7_allSteps 12 = .ok (.getfield 164, 3) := by decide +kernel
theorem dX7_allSteps_15 : decode cX7_allSteps 15 = .ok (.if_icmp .ge 30, 3) := by decide +kernel
theorem dX7_allSteps_18 : decode cX7_allSteps 18 = .ok (.iload_n 1, 1) := by decide +kernel
theorem dX7_allSteps_19 : decode cX7_allSteps 19 = .ok (.aload_n 0, 1) := by decide +kernel
theorem dX7_allSteps_20 : decode cX7_allSteps 20 = .ok (.aload_n 0, 1) := by decide +kernel
theorem dX7_allSteps_21 : decode cX7_allSteps 21 = .ok (.iload_n 2, 1) := by decide +kernel
theorem dX7_allSteps_22 : decode cX7_allSteps 22 = .ok (.invokevirtual 173, 3) := by decide +kernel
theorem dX7_allSteps_25 : decode cX7_allSteps 25 = .ok (.aload_n 0, 1) := by decide +kernel
theorem dX7_allSteps_26 : decode cX7_allSteps 26 = .ok (.getfield 58, 3) := by decide +kernel
theorem dX7_allSteps_29 : decode cX7_allSteps 29 = .ok (.iload_n 2, 1) := by decide +kernel
theorem dX7_allSteps_30 : decode cX7_allSteps 30 = .ok (.iaload, 1) := by decide +kernel
theorem dX7_allSteps_31 : decode cX7_allSteps 31 = .ok (.invokevirtual 182, 3) := by decide +kernel
theorem dX7_allSteps_34 : decode cX7_allSteps 34 = .ok (.invokestatic 194, 3) := by decide +kernel
theorem dX7_allSteps_37 : decode cX7_allSteps 37 = .ok (.iadd, 1) := by decide +kernel
theorem dX7_allSteps_38 : decode cX7_allSteps 38 = .ok (.istore_n 1, 1) := by decide +kernel
theorem dX7_allSteps_39 : decode cX7_allSteps 39 = .ok (.iinc 2 1, 3) := by decide +kernel
theorem dX7_allSteps_42 : decode cX7_allSteps 42 = .ok (.goto (-32), 3) := by decide +kernel
theorem dX7_allSteps_45 : decode cX7_allSteps 45 = .ok (.iload_n 1, 1) := by decide +kernel
theorem dX7_allSteps_46 : decode cX7_allSteps 46 = .ok (.ireturn, 1) := by decide +kernel
theorem dX7_longestTwice_0 : decode cX7_longestTwice 0 = .ok (.iconst 0, 1) := by decide +kernel
theorem dX7_longestTwice_1 : decode cX7_longestTwice 1 = .ok (.istore_n 1, 1) := by decide +kernel
theorem dX7_longestTwice_2 : decode cX7_longestTwice 2 = .ok (.iconst 0, 1) := by decide +kernel
theorem dX7_longestTwice_3 : decode cX7_longestTwice 3 = .ok (.istore_n 2, 1) := by decide +kernel
theorem dX7_longestTwice_4 : decode cX7_longestTwice 4 = .ok (.iload_n 2, 1) := by decide +kernel
theorem dX7_longestTwice_5 : decode cX7_longestTwice 5 = .ok (.aload_n 0, 1) := by decide +kernel
theorem dX7_longestTwice_6 : decode cX7_longestTwice 6 = .ok (.getfield 37, 3) := by decide +kernel
theorem dX7_longestTwice_9 : decode cX7_longestTwice 9 = .ok (.iconst 0, 1) := by decide +kernel
theorem dX7_longestTwice_10 : decode cX7_longestTwice 10 = .ok (.iaload, 1) := by decide +kernel
theorem dX7_longestTwice_11 : decode cX7_longestTwice 11 = .ok (.if_icmp .ge 30, 3) := by decide +kernel
theorem dX7_longestTwice_14 : decode cX7_longestTwice 14 = .ok (.aload_n 0, 1) := by decide +kernel
theorem dX7_longestTwice_15 : decode cX7_longestTwice 15 = .ok (.getfield 49, 3) := by decide +kernel
theorem dX7_longestTwice_18 : decode cX7_longestTwice 18 = .ok (.iload_n 2, 1) := by decide +kernel
theorem dX7_longestTwice_19 : decode cX7_longestTwice 19 = .ok (.iaload, 1) := by decide +kernel
theorem dX7_longestTwice_20 : decode cX7_longestTwice 20 = .ok (.iload_n 1, 1) := by decide +kernel
theorem dX7_longestTwice_21 : decode cX7_longestTwice 21 = .ok (.if_icmp .le 12, 3) := by decide +kernel
theorem dX7_longestTwice_24 : decode cX7_longestTwice 24 = .ok (.aload_n 0, 1) := by decide +kernel
theorem dX7_longestTwice_25 : decode cX7_longestTwice 25 = .ok (.getfield 49, 3) := by decide +kernel
theorem dX7_longestTwice_28 : decode cX7_longestTwice 28 = .ok (.iload_n 2, 1) := by decide +kernel
theorem dX7_longestTwice_29 : decode cX7_longestTwice 29 = .ok (.iaload, 1) := by decide +kernel
theorem dX7_longestTwice_30 : decode cX7_longestTwice 30 = .ok (.goto 4, 3) := by decide +kernel
theorem dX7_longestTwice_33 : decode cX7_longestTwice 33 = .ok (.iload_n 1, 1) := by decide +kernel
theorem dX7_longestTwice_34 : decode cX7_longestTwice 34 = .ok (.istore_n 1, 1) := by decide +kernel
theorem dX7_longestTwice_35 : decode cX7_longestTwice 35 = .ok (.iinc 2 1, 3) := by decide +kernel
theorem dX7_longestTwice_38 : decode cX7_longestTwice 38 = .ok (.goto (-34), 3) := by decide +kernel
theorem dX7_longestTwice_41 : decode cX7_longestTwice 41 = .ok (.iload_n 1, 1) := by decide +kernel
theorem dX7_longestTwice_42 : decode cX7_longestTwice 42 = .ok (.ireturn, 1) := by decide +kernel
set_option maxRecDepth 20000 in
theorem ggX7_count_X7_in : GoodIn wsX7_count wsX7_in := goodIn_r _ [9] (by decide +kernel) (by decide +kernel)
set_option maxRecDepth 20000 in
theorem gX7_count_X7_in : GoodIn wsX7_count (va_wsS RX7 97 yX7_in wsX7_in) := goodIn_app (goodIn_of _ (by decide +kernel)) ggX7_count_X7_in
set_option maxRecDepth 20000 in
theorem ggX7_count_X7_layPresent : GoodIn wsX7_count wsX7_layPresent := goodIn_r _ [13, 1, 14, 15, 16, 8, 17, 18, 19, 20, 21, 22, 23, 24, 25, 26, 92, 93, 94, 95, 96, 97, 98, 99, 100, 101, 102, 103, 104, 105, 106, 107, 108, 109, 110, 111, 112, 113, 114] (by decide +kernel) (by decide +kernel)
set_option maxRecDepth 20000 in
theorem gX7_count_X7_layPresent : GoodIn wsX7_count (wsV RX7 124 RX7 yX7_layPresent wsX7_layPresent) := goodIn_app (goodIn_of _ (by decide +kernel)) ggX7_count_X7_layPresent
set_option maxRecDepth 20000 in
theorem ggX7_count_X7_sort : GoodIn wsX7_count wsX7_sort := goodIn_r _ [30, 21, 31, 32, 33, 34, 35, 8, 36, 25, 37, 38, 39, 40, 41, 42, 43, 44, 24, 26, 92, 93, 94, 95, 96, 97, 98, 99, 100, 101, 102, 103, 104, 105, 106, 107, 108, 109, 110, 111, 112, 113, 114] (by decide +kernel) (by decide +kernel)
set_option maxRecDepth 20000 in
theorem gX7_count_X7_sort : GoodIn wsX7_count (wsV RX7 117 RX7 yX7_sort wsX7_sort) := goodIn_app (goodIn_of _ (by decide +kernel)) ggX7_count_X7_sort
set_option maxRecDepth 20000 in
theorem ggX7_count_X7_layClasses : GoodIn wsX7_count wsX7_layClasses := goodIn_r _ [48, 5, 21, 23, 26, 49, 50, 51, 52, 53, 54, 55, 8, 56, 57, 58, 59, 60, 37, 38, 39, 40, 25, 41, 42, 43, 44, 24, 61, 62, 63, 64, 92, 93, 94, 95, 96, 97, 98, 99, 100, 101, 102, 103, 104, 105, 106, 107, 108, 109, 110, 111, 112, 113, 114] (by decide +kernel) (by decide +kernel)
set_option maxRecDepth 20000 in
theorem gX7_count_X7_layClasses : GoodIn wsX7_count (wsV RX7 140 RX7 yX7_layClasses wsX7_layClasses) := goodIn_app (goodIn_of _ (by decide +kernel)) ggX7_count_X7_layClasses
set_option maxRecDepth 20000 in
theorem ggX7_count_X7_allSteps : GoodIn wsX7_count wsX7_allSteps := goodIn_r _ [68, 5, 52, 69, 70, 71, 8, 72, 21, 73, 74, 75, 76, 25, 77, 78, 79, 80, 81, 82, 83, 49, 84, 85, 86, 87, 57, 58, 59, 60, 37, 38, 39, 40, 41, 42, 43, 44, 24, 26, 92, 93, 94, 95, 96, 97, 98, 99, 100, 101, 102, 103, 104, 105, 106, 107, 108, 109, 110, 111, 112, 113, 114] (by decide +kernel) (by decide +kernel)
set_option maxRecDepth 20000 in
theorem gX7_count_X7_allSteps : GoodIn wsX7_count (wsV RX7 206 RX7 yX7_allSteps wsX7_allSteps) := goodIn_app (goodIn_of _ (by decide +kernel)) ggX7_count_X7_allSteps
set_option maxRecDepth 20000 in
theorem ggX7_count_X7_longestTwice : GoodIn wsX7_count wsX7_longestTwice := goodIn_r _ [91, 21, 32, 92, 93, 94, 95, 96, 97, 98, 99, 100, 101, 102, 103, 104, 105, 106, 107, 108, 109, 110, 111, 112, 113, 114] (by decide +kernel) (by decide +kernel)
set_option maxRecDepth 20000 in
theorem gX7_count_X7_longestTwice : GoodIn wsX7_count (wsV RX7 209 RX7 yX7_longestTwice wsX7_longestTwice) := goodIn_app (goodIn_of _ (by decide +kernel)) ggX7_count_X7_longestTwice
theorem dX7_count_0 : decode cX7_count 0 = .ok (.iload_n 1, 1) := by decide +kernel
theorem dX7_count_1 : decode cX7_count 1 = .ok (.iconst 0, 1) := by decide +kernel
theorem dX7_count_2 : decode cX7_count 2 = .ok (.bipush 6, 2) := by decide +kernel
theorem dX7_count_4 : decode cX7_count 4 = .ok (.invokestatic 97, 3) := by decide +kernel
theorem dX7_count_7 : decode cX7_count 7 = .ok (.ifCond .ne 6, 3) := by decide +kernel
theorem dX7_count_10 : decode cX7_count 10 = .ok (.bipush (-2), 2) := by decide +kernel
theorem dX7_count_12 : decode cX7_count 12 = .ok (.ireturn, 1) := by decide +kernel
theorem dX7_count_13 : decode cX7_count 13 = .ok (.aload_n 0, 1) := by decide +kernel
theorem dX7_count_14 : decode cX7_count 14 = .ok (.invokevirtual 124, 3) := by decide +kernel
theorem dX7_count_17 : decode cX7_count 17 = .ok (.aload_n 0, 1) := by decide +kernel
theorem dX7_count_18 : decode cX7_count 18 = .ok (.invokevirtual 117, 3) := by decide +kernel
theorem dX7_count_21 : decode cX7_count 21 = .ok (.iload_n 1, 1) := by decide +kernel
theorem dX7_count_22 : decode cX7_count 22 = .ok (.tableswitch 86 0 5 #[38, 43, 48, 58, 68, 77], 38) := by decide +kernel
theorem dX7_count_60 : decode cX7_count 60 = .ok (.aload_n 0, 1) := by decide +kernel
theorem dX7_count_61 : decode cX7_count 61 = .ok (.getfield 71, 3) := by decide +kernel
theorem dX7_count_64 : decode cX7_count 64 = .ok (.ireturn, 1) := by decide +kernel
theorem dX7_count_65 : decode cX7_count 65 = .ok (.aload_n 0, 1) := by decide +kernel
theorem dX7_count_66 : decode cX7_count 66 = .ok (.getfield 67, 3) := by decide +kernel
theorem dX7_count_69 : decode cX7_count 69 = .ok (.ireturn, 1) := by decide +kernel
theorem dX7_count_70 : decode cX7_count 70 = .ok (.aload_n 0, 1) := by decide +kernel
theorem dX7_count_71 : decode cX7_count 71 = .ok (.getfield 16, 3) := by decide +kernel
theorem dX7_count_74 : decode cX7_count 74 = .ok (.aload_n 0, 1) := by decide +kernel
theorem dX7_count_75 : decode cX7_count 75 = .ok (.getfield 71, 3) := by decide +kernel
theorem dX7_count_78 : decode cX7_count 78 = .ok (.iaload, 1) := by decide +kernel
theorem dX7_count_79 : decode cX7_count 79 = .ok (.ireturn, 1) := by decide +kernel
theorem dX7_count_80 : decode cX7_count 80 = .ok (.aload_n 0, 1) := by decide +kernel
theorem dX7_count_81 : decode cX7_count 81 = .ok (.getfield 19, 3) := by decide +kernel
theorem dX7_count_84 : decode cX7_count 84 = .ok (.aload_n 0, 1) := by decide +kernel
theorem dX7_count_85 : decode cX7_count 85 = .ok (.getfield 71, 3) := by decide +kernel
theorem dX7_count_88 : decode cX7_count 88 = .ok (.iaload, 1) := by decide +kernel
theorem dX7_count_89 : decode cX7_count 89 = .ok (.ireturn, 1) := by decide +kernel
theorem dX7_count_90 : decode cX7_count 90 = .ok (.aload_n 0, 1) := by decide +kernel
theorem dX7_count_91 : decode cX7_count 91 = .ok (.invokevirtual 140, 3) := by decide +kernel
theorem dX7_count_94 : decode cX7_count 94 = .ok (.aload_n 0, 1) := by decide +kernel
theorem dX7_count_95 : decode cX7_count 95 = .ok (.getfield 164, 3) := by decide +kernel
theorem dX7_count_98 : decode cX7_count 98 = .ok (.ireturn, 1) := by decide +kernel
theorem dX7_count_99 : decode cX7_count 99 = .ok (.aload_n 0, 1) := by decide +kernel
theorem dX7_count_100 : decode cX7_count 100 = .ok (.invokevirtual 140, 3) := by decide +kernel
theorem dX7_count_103 : decode cX7_count 103 = .ok (.aload_n 0, 1) := by decide +kernel
theorem dX7_count_104 : decode cX7_count 104 = .ok (.invokevirtual 206, 3) := by decide +kernel
theorem dX7_count_107 : decode cX7_count 107 = .ok (.ireturn, 1) := by decide +kernel
theorem dX7_count_108 : decode cX7_count 108 = .ok (.aload_n 0, 1) := by decide +kernel
theorem dX7_count_109 : decode cX7_count 109 = .ok (.invokevirtual 209, 3) := by decide +kernel
theorem dX7_count_112 : decode cX7_count 112 = .ok (.ireturn, 1) := by decide +kernel
theorem dJ6_bitCount_0f7a4_0 : decode cJ6_bitCount_0f7a4 0 = .ok (.iload_n 0, 1) := by decide +kernel
theorem dJ6_bitCount_0f7a4_1 : decode cJ6_bitCount_0f7a4 1 = .ok (.iload_n 0, 1) := by decide +kernel
theorem dJ6_bitCount_0f7a4_2 : decode cJ6_bitCount_0f7a4 2 = .ok (.iconst 1, 1) := by decide +kernel
theorem dJ6_bitCount_0f7a4_3 : decode cJ6_bitCount_0f7a4 3 = .ok (.iushr, 1) := by decide +kernel
theorem dJ6_bitCount_0f7a4_4 : decode cJ6_bitCount_0f7a4 4 = .ok (.ldc_w 265, 3) := by decide +kernel
theorem dJ6_bitCount_0f7a4_7 : decode cJ6_bitCount_0f7a4 7 = .ok (.iand, 1) := by decide +kernel
theorem dJ6_bitCount_0f7a4_8 : decode cJ6_bitCount_0f7a4 8 = .ok (.isub, 1) := by decide +kernel
theorem dJ6_bitCount_0f7a4_9 : decode cJ6_bitCount_0f7a4 9 = .ok (.istore_n 0, 1) := by decide +kernel
theorem dJ6_bitCount_0f7a4_10 : decode cJ6_bitCount_0f7a4 10 = .ok (.iload_n 0, 1) := by decide +kernel
theorem dJ6_bitCount_0f7a4_11 : decode cJ6_bitCount_0f7a4 11 = .ok (.ldc_w 266, 3) := by decide +kernel
theorem dJ6_bitCount_0f7a4_14 : decode cJ6_bitCount_0f7a4 14 = .ok (.iand, 1) := by decide +kernel
theorem dJ6_bitCount_0f7a4_15 : decode cJ6_bitCount_0f7a4 15 = .ok (.iload_n 0, 1) := by decide +kernel
theorem dJ6_bitCount_0f7a4_16 : decode cJ6_bitCount_0f7a4 16 = .ok (.iconst 2, 1) := by decide +kernel
theorem dJ6_bitCount_0f7a4_17 : decode cJ6_bitCount_0f7a4 17 = .ok (.iushr, 1) := by decide +kernel
theorem dJ6_bitCount_0f7a4_18 : decode cJ6_bitCount_0f7a4 18 = .ok (.ldc_w 266, 3) := by decide +kernel
theorem dJ6_bitCount_0f7a4_21 : decode cJ6_bitCount_0f7a4 21 = .ok (.iand, 1) := by decide +kernel
theorem dJ6_bitCount_0f7a4_22 : decode cJ6_bitCount_0f7a4 22 = .ok (.iadd, 1) := by decide +kernel
theorem dJ6_bitCount_0f7a4_23 : decode cJ6_bitCount_0f7a4 23 = .ok (.istore_n 0, 1) := by decide +kernel
theorem dJ6_bitCount_0f7a4_24 : decode cJ6_bitCount_0f7a4 24 = .ok (.iload_n 0, 1) := by decide +kernel
theorem dJ6_bitCount_0f7a4_25 : decode cJ6_bitCount_0f7a4 25 = .ok (.iload_n 0, 1) := by decide +kernel
theorem dJ6_bitCount_0f7a4_26 : decode cJ6_bitCount_0f7a4 26 = .ok (.iconst 4, 1) := by decide +kernel
theorem dJ6_bitCount_0f7a4_27 : decode cJ6_bitCount_0f7a4 27 = .ok (.iushr, 1) := by decide +kernel
theorem dJ6_bitCount_0f7a4_28 : decode cJ6_bitCount_0f7a4 28 = .ok (.iadd, 1) := by decide +kernel
theorem dJ6_bitCount_0f7a4_29 : decode cJ6_bitCount_0f7a4 29 = .ok (.ldc_w 267, 3) := by decide +kernel
theorem dJ6_bitCount_0f7a4_32 : decode cJ6_bitCount_0f7a4 32 = .ok (.iand, 1) := by decide +kernel
theorem dJ6_bitCount_0f7a4_33 : decode cJ6_bitCount_0f7a4 33 = .ok (.istore_n 0, 1) := by decide +kernel
theorem dJ6_bitCount_0f7a4_34 : decode cJ6_bitCount_0f7a4 34 = .ok (.iload_n 0, 1) := by decide +kernel
theorem dJ6_bitCount_0f7a4_35 : decode cJ6_bitCount_0f7a4 35 = .ok (.iload_n 0, 1) := by decide +kernel
theorem dJ6_bitCount_0f7a4_36 : decode cJ6_bitCount_0f7a4 36 = .ok (.bipush 8, 2) := by decide +kernel
theorem dJ6_bitCount_0f7a4_38 : decode cJ6_bitCount_0f7a4 38 = .ok (.iushr, 1) := by decide +kernel
theorem dJ6_bitCount_0f7a4_39 : decode cJ6_bitCount_0f7a4 39 = .ok (.iadd, 1) := by decide +kernel
theorem dJ6_bitCount_0f7a4_40 : decode cJ6_bitCount_0f7a4 40 = .ok (.istore_n 0, 1) := by decide +kernel
theorem dJ6_bitCount_0f7a4_41 : decode cJ6_bitCount_0f7a4 41 = .ok (.iload_n 0, 1) := by decide +kernel
theorem dJ6_bitCount_0f7a4_42 : decode cJ6_bitCount_0f7a4 42 = .ok (.iload_n 0, 1) := by decide +kernel
theorem dJ6_bitCount_0f7a4_43 : decode cJ6_bitCount_0f7a4 43 = .ok (.bipush 16, 2) := by decide +kernel
theorem dJ6_bitCount_0f7a4_45 : decode cJ6_bitCount_0f7a4 45 = .ok (.iushr, 1) := by decide +kernel
theorem dJ6_bitCount_0f7a4_46 : decode cJ6_bitCount_0f7a4 46 = .ok (.iadd, 1) := by decide +kernel
theorem dJ6_bitCount_0f7a4_47 : decode cJ6_bitCount_0f7a4 47 = .ok (.istore_n 0, 1) := by decide +kernel
theorem dJ6_bitCount_0f7a4_48 : decode cJ6_bitCount_0f7a4 48 = .ok (.iload_n 0, 1) := by decide +kernel
theorem dJ6_bitCount_0f7a4_49 : decode cJ6_bitCount_0f7a4 49 = .ok (.bipush 63, 2) := by decide +kernel
theorem dJ6_bitCount_0f7a4_51 : decode cJ6_bitCount_0f7a4 51 = .ok (.iand, 1) := by decide +kernel
theorem dJ6_bitCount_0f7a4_52 : decode cJ6_bitCount_0f7a4 52 = .ok (.ireturn, 1) := by decide +kernel
theorem dJ9_max_7cf53_0 : decode cJ9_max_7cf53 0 = .ok (.iload_n 0, 1) := by decide +kernel
theorem dJ9_max_7cf53_1 : decode cJ9_max_7cf53 1 = .ok (.iload_n 1, 1) := by decide +kernel
theorem dJ9_max_7cf53_2 : decode cJ9_max_7cf53 2 = .ok (.if_icmp .lt 7, 3) := by decide +kernel
theorem dJ9_max_7cf53_5 : decode cJ9_max_7cf53 5 = .ok (.iload_n 0, 1) := by decide +kernel
theorem dJ9_max_7cf53_6 : decode cJ9_max_7cf53 6 = .ok (.goto 4, 3) := by decide +kernel
theorem dJ9_max_7cf53_9 : decode cJ9_max_7cf53 9 = .ok (.iload_n 1, 1) := by decide +kernel
theorem dJ9_max_7cf53_10 : decode cJ9_max_7cf53 10 = .ok (.ireturn, 1) := by decide +kernel
theorem dJ9_min_7cf53_0 : decode cJ9_min_7cf53 0 = .ok (.iload_n 0, 1) := by decide +kernel
theorem dJ9_min_7cf53_1 : decode cJ9_min_7cf53 1 = .ok (.iload_n 1, 1) := by decide +kernel
theorem dJ9_min_7cf53_2 : decode cJ9_min_7cf53 2 = .ok (.if_icmp .gt 7, 3) := by decide +kernel
theorem dJ9_min_7cf53_5 : decode cJ9_min_7cf53 5 = .ok (.iload_n 0, 1) := by decide +kernel
theorem dJ9_min_7cf53_6 : decode cJ9_min_7cf53 6 = .ok (.goto 4, 3) := by decide +kernel
theorem dJ9_min_7cf53_9 : decode cJ9_min_7cf53 9 = .ok (.iload_n 1, 1) := by decide +kernel
theorem dJ9_min_7cf53_10 : decode cJ9_min_7cf53 10 = .ok (.ireturn, 1) := by decide +kernel
