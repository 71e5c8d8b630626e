theorem dX6_common_42 : decode cX6_common 42 = .ok (.iload_n 3, 1) := by decide +kernel
theorem dX6_common_43 : decode cX6_common 43 = .ok (.bipush (-6), 2) := by decide +kernel
theorem dX6_common_45 : decode cX6_common 45 = .ok (.if_icmp .ne 8, 3) := by decide +kernel
theorem dX6_common_48 : decode cX6_common 48 = .ok (.bipush (-6), 2) := by decide +kernel
theorem dX6_common_50 : decode cX6_common 50 = .ok (.goto 23, 3) := by decide +kernel
theorem dX6_common_53 : decode cX6_common 53 = .ok (.aload_n 0, 1) := by decide +kernel
theorem dX6_common_54 : decode cX6_common 54 = .ok (.aload_n 0, 1) := by decide +kernel
theorem dX6_common_55 : decode cX6_common 55 = .ok (.getfield 33, 3) := by decide +kernel
theorem dX6_common_58 : decode cX6_common 58 = .ok (.iload_n 3, 1) := by decide +kernel
theorem dX6_common_59 : decode cX6_common 59 = .ok (.invokevirtual 227, 3) := by decide +kernel
theorem dX6_common_62 : decode cX6_common 62 = .ok (.aload_n 0, 1) := by decide +kernel
theorem dX6_common_63 : decode cX6_common 63 = .ok (.getfield 33, 3) := by decide +kernel
theorem dX6_common_66 : decode cX6_common 66 = .ok (.iload_n 3, 1) := by decide +kernel
theorem dX6_common_67 : decode cX6_common 67 = .ok (.invokevirtual 206, 3) := by decide +kernel
theorem dX6_common_70 : decode cX6_common 70 = .ok (.invokevirtual 198, 3) := by decide +kernel
theorem dX6_common_73 : decode cX6_common 73 = .ok (.ireturn, 1) := by decide +kernel
set_option maxRecDepth 20000 in
theorem ggX6_unique_X6_isWordSet : GoodIn wsX6_unique wsX6_isWordSet := goodIn_r _ [7, 8, 9, 10, 11, 12, 13, 14, 15, 16, 17, 18, 19, 20, 218, 219, 220, 221, 222, 223, 224, 225, 226, 227, 228, 229, 230, 231, 232, 233] (by decide +kernel) (by decide +kernel)
set_option maxRecDepth 20000 in
theorem gX6_unique_X6_isWordSet : GoodIn wsX6_unique (wsV RX6 234 RX6 yX6_isWordSet wsX6_isWordSet) := goodIn_app (goodIn_of _ (by decide +kernel)) ggX6_unique_X6_isWordSet
set_option maxRecDepth 20000 in
theorem ggX6_unique_X6_showClasses : GoodIn wsX6_unique wsX6_showClasses := goodIn_r _ [24, 1, 2, 25, 26, 27, 6, 28, 8, 9, 29, 30, 31, 32, 33, 34, 35, 36, 37, 38, 39, 40, 41, 42, 43, 44, 11, 12, 13, 14, 15, 16, 17, 18, 19, 20, 45, 46, 47, 48, 49, 50, 51, 52, 53, 54, 55, 56, 57, 58, 59, 60, 61, 62, 63, 64, 65, 66, 67, 68, 69, 70, 71, 72, 73, 74, 75, 76, 77, 78, 79, 80, 81, 82, 83, 84, 85, 86, 87, 88, 89, 90, 91, 92, 93, 94, 95, 96, 97, 98, 99, 100, 101, 102, 103, 104, 105, 106, 107, 108, 109, 110, 111, 112, 113, 114, 115, 116, 117, 118, 119, 120, 121, 122, 123, 124, 125, 126, 127, 128, 129, 130, 131, 132, 133, 134, 135, 136, 137, 138, 139, 140, 141, 142, 143, 144, 145, 146, 147, 148, 149, 150, 151, 152, 153, 154, 155, 156, 157, 158, 159, 160, 161, 162, 163, 164, 218, 219, 220, 221, 222, 223, 224, 225, 226, 227, 228, 234, 235, 236, 237, 238, 239, 240, 241, 229, 230, 231, 232, 233, 242, 243, 244, 245, 246, 247, 248, 249, 250, 251, 252, 253, 254, 255] (by decide +kernel) (by decide +kernel)
set_option maxRecDepth 20000 in
theorem gX6_unique_X6_showClasses : GoodIn wsX6_unique (wsV RX6 178 RX6 yX6_showClasses wsX6_showClasses) := goodIn_app (goodIn_of _ (by decide +kernel)) ggX6_unique_X6_showClasses
set_option maxRecDepth 20000 in
theorem ggX6_unique_X1_shortestOnlyIn : GoodIn wsX6_unique wsX1_shortestOnlyIn := goodIn_r _ [168, 88, 155, 152, 169, 170, 171, 85, 172, 173, 174, 175, 176, 150, 177, 178, 179, 180, 181, 182, 183, 184, 185, 186, 187, 32, 188, 189, 190, 191, 192, 35, 36, 37, 38, 193, 162, 163, 164, 43, 65, 66, 67, 68, 40, 194, 101, 102, 103, 64, 242, 243, 244, 245, 246, 247, 248, 249, 250, 251, 252, 253, 254, 234, 235, 236, 237, 238, 239, 240, 241] (by decide +kernel) (by decide +kernel)
set_option maxRecDepth 20000 in
theorem gX6_unique_X1_shortestOnlyIn : GoodIn wsX6_unique (wsV RX6 240 RX1 yX1_shortestOnlyIn wsX1_shortestOnlyIn) := goodIn_app (goodIn_of _ (by decide +kernel)) ggX6_unique_X1_shortestOnlyIn
set_option maxRecDepth 20000 in
theorem ggX6_unique_X1_shortestStart : GoodIn wsX6_unique wsX1_shortestStart := goodIn_r _ [172, 173, 174, 175, 85, 176, 150, 177, 178, 179, 180, 88, 181, 182, 183, 184, 152, 242, 243, 244, 245, 246, 247, 248, 249, 250, 251, 252, 253, 254] (by decide +kernel) (by decide +kernel)
set_option maxRecDepth 20000 in
theorem gX6_unique_X1_shortestStart : GoodIn wsX6_unique (wsV RX6 243 RX1 yX1_shortestStart wsX1_shortestStart) := goodIn_app (goodIn_of _ (by decide +kernel)) ggX6_unique_X1_shortestStart
set_option maxRecDepth 20000 in
theorem ggX6_unique_X1_shortestIn : GoodIn wsX6_unique wsX1_shortestIn := goodIn_r _ [184, 152, 177, 178, 179, 85, 180, 88, 242, 243, 244, 245, 246, 247, 248, 249, 250, 251, 252, 253, 254] (by decide +kernel) (by decide +kernel)
set_option maxRecDepth 20000 in
theorem gX6_unique_X1_shortestIn : GoodIn wsX6_unique (wsV RX6 209 RX1 yX1_shortestIn wsX1_shortestIn) := goodIn_app (goodIn_of _ (by decide +kernel)) ggX6_unique_X1_shortestIn
set_option maxRecDepth 20000 in
theorem ggX6_unique_X6_write : GoodIn wsX6_unique wsX6_write := goodIn_r _ [200, 201, 2, 202, 203, 204, 205, 206, 207, 208, 209, 210, 211, 212, 101, 102, 32, 103, 64, 65, 66, 67, 68, 40, 213, 214, 215, 216, 217, 218, 219, 220, 221, 222, 223, 224, 225, 226, 227, 228, 256, 257, 234, 235, 236, 237, 238, 239, 240, 241] (by decide +kernel) (by decide +kernel)
set_option maxRecDepth 20000 in
theorem gX6_unique_X6_write : GoodIn wsX6_unique (wsV RX6 198 RX6 yX6_write wsX6_write) := goodIn_app (goodIn_of _ (by decide +kernel)) ggX6_unique_X6_write
theorem dX6_unique_0 : decode cX6_unique 0 = .ok (.aload_n 0, 1) := by decide +kernel
theorem dX6_unique_1 : decode cX6_unique 1 = .ok (.iload_n 1, 1) := by decide +kernel
theorem dX6_unique_2 : decode cX6_unique 2 = .ok (.invokevirtual 234, 3) := by decide +kernel
theorem dX6_unique_5 : decode cX6_unique 5 = .ok (.ifCond .ne 5, 3) := by decide +kernel
theorem dX6_unique_8 : decode cX6_unique 8 = .ok (.iconst (-1), 1) := by decide +kernel
theorem dX6_unique_9 : decode cX6_unique 9 = .ok (.ireturn, 1) := by decide +kernel
theorem dX6_unique_10 : decode cX6_unique 10 = .ok (.iload_n 1, 1) := by decide +kernel
theorem dX6_unique_11 : decode cX6_unique 11 = .ok (.ifCond .ne 6, 3) := by decide +kernel
theorem dX6_unique_14 : decode cX6_unique 14 = .ok (.bipush (-2), 2) := by decide +kernel
theorem dX6_unique_16 : decode cX6_unique 16 = .ok (.ireturn, 1) := by decide +kernel
theorem dX6_unique_17 : decode cX6_unique 17 = .ok (.aload_n 0, 1) := by decide +kernel
theorem dX6_unique_18 : decode cX6_unique 18 = .ok (.invokevirtual 178, 3) := by decide +kernel
theorem dX6_unique_21 : decode cX6_unique 21 = .ok (.aload_n 0, 1) := by decide +kernel
theorem dX6_unique_22 : decode cX6_unique 22 = .ok (.getfield 33, 3) := by decide +kernel
theorem dX6_unique_25 : decode cX6_unique 25 = .ok (.aload_n 0, 1) := by decide +kernel
theorem dX6_unique_26 : decode cX6_unique 26 = .ok (.getfield 26, 3) := by decide +kernel
theorem dX6_unique_29 : decode cX6_unique 29 = .ok (.iload_n 1, 1) := by decide +kernel
theorem dX6_unique_30 : decode cX6_unique 30 = .ok (.invokevirtual 240, 3) := by decide +kernel
theorem dX6_unique_33 : decode cX6_unique 33 = .ok (.istore_n 2, 1) := by decide +kernel
theorem dX6_unique_34 : decode cX6_unique 34 = .ok (.iload_n 2, 1) := by decide +kernel
theorem dX6_unique_35 : decode cX6_unique 35 = .ok (.bipush (-6), 2) := by decide +kernel
theorem dX6_unique_37 : decode cX6_unique 37 = .ok (.if_icmp .ne 8, 3) := by decide +kernel
theorem dX6_unique_40 : decode cX6_unique 40 = .ok (.bipush (-6), 2) := by decide +kernel
theorem dX6_unique_42 : decode cX6_unique 42 = .ok (.goto 23, 3) := by decide +kernel
theorem dX6_unique_45 : decode cX6_unique 45 = .ok (.aload_n 0, 1) := by decide +kernel
theorem dX6_unique_46 : decode cX6_unique 46 = .ok (.aload_n 0, 1) := by decide +kernel
theorem dX6_unique_47 : decode cX6_unique 47 = .ok (.getfield 33, 3) := by decide +kernel
theorem dX6_unique_50 : decode cX6_unique 50 = .ok (.iload_n 2, 1) := by decide +kernel
theorem dX6_unique_51 : decode cX6_unique 51 = .ok (.invokevirtual 243, 3) := by decide +kernel
theorem dX6_unique_54 : decode cX6_unique 54 = .ok (.aload_n 0, 1) := by decide +kernel
theorem dX6_unique_55 : decode cX6_unique 55 = .ok (.getfield 33, 3) := by decide +kernel
theorem dX6_unique_58 : decode cX6_unique 58 = .ok (.iload_n 2, 1) := by decide +kernel
theorem dX6_unique_59 : decode cX6_unique 59 = .ok (.invokevirtual 209, 3) := by decide +kernel
theorem dX6_unique_62 : decode cX6_unique 62 = .ok (.invokevirtual 198, 3) := by decide +kernel
theorem dX6_unique_65 : decode cX6_unique 65 = .ok (.ireturn, 1) := by decide +kernel
set_option maxRecDepth 20000 in
theorem ggX6_absent_X6_showPresent : GoodIn wsX6_absent wsX6_showPresent := goodIn_r _ [8, 2, 9, 10, 11, 12, 13, 14, 15, 16, 17, 18, 19, 20, 21, 22, 23, 24, 25, 26, 27, 28, 29, 30, 31, 32, 33, 34, 35, 36, 37, 38, 39, 40, 41, 42, 43, 44, 45, 46, 47, 48, 49, 50, 51, 52, 53, 54, 55, 56, 57, 58, 59, 60, 61, 62, 63, 64, 65, 66, 67, 68, 69, 70, 71, 72, 73, 125, 126, 127, 128, 129, 130, 131, 132, 133, 134, 135, 136, 137, 138, 139, 140, 141, 142, 143, 144, 145, 146, 147, 148] (by decide +kernel) (by decide +kernel)
set_option maxRecDepth 20000 in
theorem gX6_absent_X6_showPresent : GoodIn wsX6_absent (wsV RX6 122 RX6 yX6_showPresent wsX6_showPresent) := goodIn_app (goodIn_of _ (by decide +kernel)) ggX6_absent_X6_showPresent
set_option maxRecDepth 20000 in
theorem ggX6_absent_X5_takeFirstSequence : GoodIn wsX6_absent wsX5_takeFirstSequence := goodIn_r _ [77, 22, 56, 78, 79, 80, 14, 81, 16, 21, 51, 17, 18, 19, 20, 82, 83, 84, 24, 23, 25, 136, 137, 138, 139, 140, 141, 142, 143] (by decide +kernel) (by decide +kernel)
set_option maxRecDepth 20000 in
theorem gX6_absent_X5_takeFirstSequence : GoodIn wsX6_absent (wsV RX6 246 RX5 yX5_takeFirstSequence wsX5_takeFirstSequence) := goodIn_app (goodIn_of _ (by decide +kernel)) ggX6_absent_X5_takeFirstSequence
set_option maxRecDepth 20000 in
theorem ggX6_absent_X5_endNumber : GoodIn wsX6_absent wsX5_endNumber := goodIn_r _ [88, 22, 89, 90, 91, 14, 92, 57, 58, 59, 60, 93, 94, 95, 96, 23, 97, 98, 99, 100, 101, 102, 103, 104, 56, 136, 137, 138, 139, 140, 141, 142, 143] (by decide +kernel) (by decide +kernel)
set_option maxRecDepth 20000 in
theorem gX6_absent_X5_endNumber : GoodIn wsX6_absent (wsV RX6 161 RX5 yX5_endNumber wsX5_endNumber) := goodIn_app (goodIn_of _ (by decide +kernel)) ggX6_absent_X5_endNumber
set_option maxRecDepth 20000 in
theorem ggX6_absent_X3_write : GoodIn wsX6_absent wsX3_write := goodIn_r _ [109, 110, 111, 112, 108, 113, 114, 115, 102, 103, 14, 104, 56, 57, 58, 59, 60, 22, 116, 117, 118, 119, 120, 149, 150, 136, 137, 138, 139, 140, 141, 142, 143] (by decide +kernel) (by decide +kernel)
set_option maxRecDepth 20000 in
theorem gX6_absent_X3_write : GoodIn wsX6_absent (wsV RX6 249 RX3 yX3_write wsX3_write) := goodIn_app (goodIn_of _ (by decide +kernel)) ggX6_absent_X3_write
set_option maxRecDepth 20000 in
theorem ggX6_absent_X5_turnToNext : GoodIn wsX6_absent wsX5_turnToNext := goodIn_r _ [124, 22, 56, 136, 137, 138, 139, 140, 141, 142, 143] (by decide +kernel) (by decide +kernel)
set_option maxRecDepth 20000 in
theorem gX6_absent_X5_turnToNext : GoodIn wsX6_absent (wsV RX6 252 RX5 yX5_turnToNext wsX5_turnToNext) := goodIn_app (goodIn_of _ (by decide +kernel)) ggX6_absent_X5_turnToNext
theorem dX6_absent_0 : decode cX6_absent 0 = .ok (.iload_n 1, 1) := by decide +kernel
theorem dX6_absent_1 : decode cX6_absent 1 = .ok (.iconst 1, 1) := by decide +kernel
theorem dX6_absent_2 : decode cX6_absent 2 = .ok (.if_icmp .lt 9, 3) := by decide +kernel
theorem dX6_absent_5 : decode cX6_absent 5 = .ok (.iload_n 1, 1) := by decide +kernel
theorem dX6_absent_6 : decode cX6_absent 6 = .ok (.bipush 8, 2) := by decide +kernel
theorem dX6_absent_8 : decode cX6_absent 8 = .ok (.if_icmp .le 6, 3) := by decide +kernel
theorem dX6_absent_11 : decode cX6_absent 11 = .ok (.bipush (-2), 2) := by decide +kernel
theorem dX6_absent_13 : decode cX6_absent 13 = .ok (.ireturn, 1) := by decide +kernel
theorem dX6_absent_14 : decode cX6_absent 14 = .ok (.aload_n 0, 1) := by decide +kernel
theorem dX6_absent_15 : decode cX6_absent 15 = .ok (.invokevirtual 122, 3) := by decide +kernel
theorem dX6_absent_18 : decode cX6_absent 18 = .ok (.iconst 1, 1) := by decide +kernel
theorem dX6_absent_19 : decode cX6_absent 19 = .ok (.istore_n 2, 1) := by decide +kernel
theorem dX6_absent_20 : decode cX6_absent 20 = .ok (.iload_n 2, 1) := by decide +kernel
theorem dX6_absent_21 : decode cX6_absent 21 = .ok (.bipush 60, 2) := by decide +kernel
theorem dX6_absent_23 : decode cX6_absent 23 = .ok (.if_icmp .gt 80, 3) := by decide +kernel
theorem dX6_absent_26 : decode cX6_absent 26 = .ok (.aload_n 0, 1) := by decide +kernel
theorem dX6_absent_27 : decode cX6_absent 27 = .ok (.getfield 44, 3) := by decide +kernel
theorem dX6_absent_30 : decode cX6_absent 30 = .ok (.iload_n 2, 1) := by decide +kernel
theorem dX6_absent_31 : decode cX6_absent 31 = .ok (.invokevirtual 246, 3) := by decide +kernel
theorem dX6_absent_34 : decode cX6_absent 34 = .ok (.iconst 1, 1) := by decide +kernel
theorem dX6_absent_35 : decode cX6_absent 35 = .ok (.istore_n 3, 1) := by decide +kernel
theorem dX6_absent_36 : decode cX6_absent 36 = .ok (.iconst 0, 1) := by decide +kernel
theorem dX6_absent_37 : decode cX6_absent 37 = .ok (.istore 4, 2) := by decide +kernel
theorem dX6_absent_39 : decode cX6_absent 39 = .ok (.iload 4, 2) := by decide +kernel
theorem dX6_absent_41 : decode cX6_absent 41 = .ok (.bipush 60, 2) := by decide +kernel
theorem dX6_absent_43 : decode cX6_absent 43 = .ok (.if_icmp .gt 54, 3) := by decide +kernel
theorem dX6_absent_46 : decode cX6_absent 46 = .ok (.iload_n 3, 1) := by decide +kernel
theorem dX6_absent_47 : decode cX6_absent 47 = .ok (.ifCond .eq 50, 3) := by decide +kernel
theorem dX6_absent_50 : decode cX6_absent 50 = .ok (.aload_n 0, 1) := by decide +kernel
theorem dX6_absent_51 : decode cX6_absent 51 = .ok (.getfield 26, 3) := by decide +kernel
theorem dX6_absent_54 : decode cX6_absent 54 = .ok (.aload_n 0, 1) := by decide +kernel
theorem dX6_absent_55 : decode cX6_absent 55 = .ok (.getfield 44, 3) := by decide +kernel
theorem dX6_absent_58 : decode cX6_absent 58 = .ok (.iconst 0, 1) := by decide +kernel
theorem dX6_absent_59 : decode cX6_absent 59 = .ok (.invokevirtual 161, 3) := by decide +kernel
theorem dX6_absent_62 : decode cX6_absent 62 = .ok (.bipush (-6), 2) := by decide +kernel
theorem dX6_absent_64 : decode cX6_absent 64 = .ok (.if_icmp .ne 18, 3) := by decide +kernel
theorem dX6_absent_67 : decode cX6_absent 67 = .ok (.aload_n 0, 1) := by decide +kernel
theorem dX6_absent_68 : decode cX6_absent 68 = .ok (.getfield 19, 3) := by decide +kernel
theorem dX6_absent_71 : decode cX6_absent 71 = .ok (.aload_n 0, 1) := by decide +kernel
theorem dX6_absent_72 : decode cX6_absent 72 = .ok (.getfield 44, 3) := by decide +kernel
theorem dX6_absent_75 : decode cX6_absent 75 = .ok (.iconst 0, 1) := by decide +kernel
theorem dX6_absent_76 : decode cX6_absent 76 = .ok (.iload_n 2, 1) := by decide +kernel
theorem dX6_absent_77 : decode cX6_absent 77 = .ok (.invokevirtual 249, 3) := by decide +kernel
theorem dX6_absent_80 : decode cX6_absent 80 = .ok (.iload_n 2, 1) := by decide +kernel
theorem dX6_absent_81 : decode cX6_absent 81 = .ok (.ireturn, 1) := by decide +kernel
theorem dX6_absent_82 : decode cX6_absent 82 = .ok (.aload_n 0, 1) := by decide +kernel
theorem dX6_absent_83 : decode cX6_absent 83 = .ok (.getfield 44, 3) := by decide +kernel
theorem dX6_absent_86 : decode cX6_absent 86 = .ok (.iload_n 1, 1) := by decide +kernel
theorem dX6_absent_87 : decode cX6_absent 87 = .ok (.invokevirtual 252, 3) := by decide +kernel
theorem dX6_absent_90 : decode cX6_absent 90 = .ok (.istore_n 3, 1) := by decide +kernel
theorem dX6_absent_91 : decode cX6_absent 91 = .ok (.iinc 4 1, 3) := by decide +kernel
theorem dX6_absent_94 : decode cX6_absent 94 = .ok (.goto (-55), 3) := by decide +kernel
theorem dX6_absent_97 : decode cX6_absent 97 = .ok (.iinc 2 1, 3) := by decide +kernel
theorem dX6_absent_100 : decode cX6_absent 100 = .ok (.goto (-80), 3) := by decide +kernel
theorem dX6_absent_103 : decode cX6_absent 103 = .ok (.bipush (-4), 2) := by decide +kernel
theorem dX6_absent_105 : decode cX6_absent 105 = .ok (.ireturn, 1) := by decide +kernel
set_option maxRecDepth 20000 in
theorem ggX6_minimal_X6_showClasses : GoodIn wsX6_minimal wsX6_showClasses := goodIn_r _ [6, 1, 7, 8, 9, 10, 5, 11, 12, 13, 14, 15, 16, 17, 18, 19, 20, 21, 22, 23, 24, 25, 26, 27, 28, 29, 30, 31, 32, 33, 34, 35, 36, 37, 38, 39, 40, 41, 42, 43, 44, 45, 46, 47, 48, 49, 50, 51, 52, 53, 54, 55, 56, 57, 58, 59, 60, 61, 62, 63, 64, 65, 66, 67, 68, 69, 70, 71, 72, 73, 74, 75, 76, 77, 78, 79, 80, 81, 82, 83, 84, 85, 86, 87, 88, 89, 90, 91, 92, 93, 94, 95, 96, 97, 98, 99, 100, 101, 102, 103, 104, 105, 106, 107, 108, 109, 110, 111, 112, 113, 114, 115, 116, 117, 118, 119, 120, 121, 122, 123, 124, 125, 126, 127, 128, 129, 130, 131, 132, 133, 134, 135, 136, 137, 138, 139, 140, 141, 142, 143, 144, 145, 146, 147, 148, 149, 150, 151, 152, 153, 154, 155, 156, 157, 158, 159, 179, 180, 181, 182, 183, 184, 185, 186, 187, 188, 189, 190, 191, 192, 193, 194, 195, 196, 197, 198, 199, 200, 201, 202, 203, 204, 205, 206, 207, 208, 209, 210, 211, 212, 213, 214, 215, 216] (by decide +kernel) (by decide +kernel)
set_option maxRecDepth 20000 in
theorem gX6_minimal_X6_showClasses : GoodIn wsX6_minimal (wsV RX6 178 RX6 yX6_showClasses wsX6_showClasses) := goodIn_app (goodIn_of _ (by decide +kernel)) ggX6_minimal_X6_showClasses
set_option maxRecDepth 20000 in
theorem ggX6_minimal_X1_minimalAbsent : GoodIn wsX6_minimal wsX1_minimalAbsent := goodIn_r _ [163, 83, 149, 151, 164, 165, 166, 80, 167, 84, 168, 169, 170, 171, 172, 173, 174, 175, 176, 177, 178, 203, 204, 205, 206, 207, 208, 209, 210, 211, 212, 213, 214, 215] (by decide +kernel) (by decide +kernel)
set_option maxRecDepth 20000 in
theorem gX6_minimal_X1_minimalAbsent : GoodIn wsX6_minimal (wsV RX6 255 RX1 yX1_minimalAbsent wsX1_minimalAbsent) := goodIn_app (goodIn_of _ (by decide +kernel)) ggX6_minimal_X1_minimalAbsent
theorem dX6_minimal_0 : decode cX6_minimal 0 = .ok (.aload_n 0, 1) := by decide +kernel
theorem dX6_minimal_1 : decode cX6_minimal 1 = .ok (.invokevirtual 178, 3) := by decide +kernel
theorem dX6_minimal_4 : decode cX6_minimal 4 = .ok (.aload_n 0, 1) := by decide +kernel
theorem dX6_minimal_5 : decode cX6_minimal 5 = .ok (.getfield 33, 3) := by decide +kernel
theorem dX6_minimal_8 : decode cX6_minimal 8 = .ok (.invokevirtual 255, 3) := by decide +kernel
theorem dX6_minimal_11 : decode cX6_minimal 11 = .ok (.ireturn, 1) := by decide +kernel
set_option maxRecDepth 20000 in
theorem ggX6_count_X6_showClasses : GoodIn wsX6_count wsX6_showClasses := goodIn_r _ [8, 3, 9, 10, 11, 12, 7, 13, 2, 1, 14, 15, 16, 17, 18, 19, 20, 21, 22, 23, 24, 25, 26, 27, 28, 29, 30, 31, 32, 33, 34, 35, 36, 37, 38, 39, 40, 41, 42, 43, 44, 45, 46, 47, 48, 49, 50, 51, 52, 53, 54, 55, 56, 57, 58, 59, 60, 61, 62, 63, 64, 65, 66, 67, 68, 69, 70, 71, 72, 73, 74, 75, 76, 77, 78, 79, 80, 81, 82, 83, 84, 85, 86, 87, 88, 89, 90, 91, 92, 93, 94, 95, 96, 97, 98, 99, 100, 101, 102, 103, 104, 105, 106, 107, 108, 109, 110, 111, 112, 113, 114, 115, 116, 117, 118, 119, 120, 121, 122, 123, 124, 125, 126, 127, 128, 129, 130, 131, 132, 133, 134, 135, 136, 137, 138, 139, 140, 141, 142, 143, 144, 145, 146, 147, 148, 149, 150, 151, 152, 153, 154, 155, 156, 157, 158, 159, 185, 186, 187, 188, 189, 190, 191, 192, 193, 194, 195, 196, 197, 198, 199, 200, 201, 202, 203, 204, 205, 206, 207, 208, 209, 210, 211, 212, 213, 214, 215, 216, 217, 218, 219, 220, 221, 222] (by decide +kernel) (by decide +kernel)
set_option maxRecDepth 20000 in
theorem gX6_count_X6_showClasses : GoodIn wsX6_count (wsV RX6 178 RX6 yX6_showClasses wsX6_showClasses) := goodIn_app (goodIn_of _ (by decide +kernel)) ggX6_count_X6_showClasses
set_option maxRecDepth 20000 in
theorem ggX6_count_X2_size : GoodIn wsX6_count wsX2_size := goodIn_r _ [163, 39, 204, 205, 206, 207, 208] (by decide +kernel) (by decide +kernel)
set_option maxRecDepth 20000 in
theorem gX6_count_X2_size : GoodIn wsX6_count (wsV RX6 258 RX2 yX2_size wsX2_size) := goodIn_app (goodIn_of _ (by decide +kernel)) ggX6_count_X2_size
set_option maxRecDepth 20000 in
theorem ggX6_count_X2_wordsIn : GoodIn wsX6_count wsX2_wordsIn := goodIn_r _ [33, 34, 35, 36, 37, 32, 38, 39, 204, 205, 206, 207, 208] (by decide +kernel) (by decide +kernel)
set_option maxRecDepth 20000 in
theorem gX6_count_X2_wordsIn : GoodIn wsX6_count (wsV RX6 67 RX2 yX2_wordsIn wsX2_wordsIn) := goodIn_app (goodIn_of _ (by decide +kernel)) ggX6_count_X2_wordsIn
set_option maxRecDepth 20000 in
theorem ggX6_count_X2_lettersIn : GoodIn wsX6_count wsX2_lettersIn := goodIn_r _ [43, 44, 35, 36, 37, 32, 38, 39, 204, 205, 206, 207, 208] (by decide +kernel) (by decide +kernel)
set_option maxRecDepth 20000 in
theorem gX6_count_X2_lettersIn : GoodIn wsX6_count (wsV RX6 82 RX2 yX2_lettersIn wsX2_lettersIn) := goodIn_app (goodIn_of _ (by decide +kernel)) ggX6_count_X2_lettersIn
set_option maxRecDepth 20000 in
theorem ggX6_count_X1_size : GoodIn wsX6_count wsX1_size := goodIn_r _ [169, 83, 209, 210, 211, 212, 213, 214, 215, 216, 217, 218, 219, 220, 221] (by decide +kernel) (by decide +kernel)
set_option maxRecDepth 20000 in
theorem gX6_count_X1_size : GoodIn wsX6_count (wsV RX6 259 RX1 yX1_size wsX1_size) := goodIn_app (goodIn_of _ (by decide +kernel)) ggX6_count_X1_size
set_option maxRecDepth 20000 in
theorem ggX6_count_X1_allSteps : GoodIn wsX6_count wsX1_allSteps := goodIn_r _ [173, 84, 83, 151, 174, 175, 176, 177, 178, 179, 180, 209, 210, 211, 212, 213, 214, 215, 216, 217, 218, 219, 220, 221] (by decide +kernel) (by decide +kernel)
set_option maxRecDepth 20000 in
theorem gX6_count_X1_allSteps : GoodIn wsX6_count (wsV RX6 260 RX1 yX1_allSteps wsX1_allSteps) := goodIn_app (goodIn_of _ (by decide +kernel)) ggX6_count_X1_allSteps
set_option maxRecDepth 20000 in
theorem ggX6_count_X1_longestRepeat : GoodIn wsX6_count wsX1_longestRepeat := goodIn_r _ [184, 83, 148, 146, 138, 139, 22, 140, 209, 210, 211, 212, 213, 214, 215, 216, 217, 218, 219, 220, 221] (by decide +kernel) (by decide +kernel)
set_option maxRecDepth 20000 in
theorem gX6_count_X1_longestRepeat : GoodIn wsX6_count (wsV RX6 263 RX1 yX1_longestRepeat wsX1_longestRepeat) := goodIn_app (goodIn_of _ (by decide +kernel)) ggX6_count_X1_longestRepeat
theorem dX6_count_0 : decode cX6_count 0 = .ok (.iload_n 1, 1) := by decide +kernel
theorem dX6_count_1 : decode cX6_count 1 = .ok (.ifCond .lt 9, 3) := by decide +kernel
theorem dX6_count_4 : decode cX6_count 4 = .ok (.iload_n 1, 1) := by decide +kernel
theorem dX6_count_5 : decode cX6_count 5 = .ok (.bipush 6, 2) := by decide +kernel
theorem dX6_count_7 : decode cX6_count 7 = .ok (.if_icmp .le 6, 3) := by decide +kernel
theorem dX6_count_10 : decode cX6_count 10 = .ok (.bipush (-2), 2) := by decide +kernel
theorem dX6_count_12 : decode cX6_count 12 = .ok (.ireturn, 1) := by decide +kernel
theorem dX6_count_13 : decode cX6_count 13 = .ok (.iload_n 1, 1) := by decide +kernel
theorem dX6_count_14 : decode cX6_count 14 = .ok (.iconst 3, 1) := by decide +kernel
theorem dX6_count_15 : decode cX6_count 15 = .ok (.if_icmp .le 7, 3) := by decide +kernel
theorem dX6_count_18 : decode cX6_count 18 = .ok (.aload_n 0, 1) := by decide +kernel
theorem dX6_count_19 : decode cX6_count 19 = .ok (.invokevirtual 178, 3) := by decide +kernel
theorem dX6_count_22 : decode cX6_count 22 = .ok (.iload_n 1, 1) := by decide +kernel
theorem dX6_count_23 : decode cX6_count 23 = .ok (.tableswitch 90 0 5 #[37, 42, 50, 62, 74, 82], 37) := by decide +kernel
theorem dX6_count_60 : decode cX6_count 60 = .ok (.aload_n 0, 1) := by decide +kernel
theorem dX6_count_61 : decode cX6_count 61 = .ok (.getfield 63, 3) := by decide +kernel
theorem dX6_count_64 : decode cX6_count 64 = .ok (.ireturn, 1) := by decide +kernel
theorem dX6_count_65 : decode cX6_count 65 = .ok (.aload_n 0, 1) := by decide +kernel
theorem dX6_count_66 : decode cX6_count 66 = .ok (.getfield 10, 3) := by decide +kernel
theorem dX6_count_69 : decode cX6_count 69 = .ok (.invokevirtual 258, 3) := by decide +kernel
theorem dX6_count_72 : decode cX6_count 72 = .ok (.ireturn, 1) := by decide +kernel
theorem dX6_count_73 : decode cX6_count 73 = .ok (.aload_n 0, 1) := by decide +kernel
theorem dX6_count_74 : decode cX6_count 74 = .ok (.getfield 10, 3) := by decide +kernel
theorem dX6_count_77 : decode cX6_count 77 = .ok (.aload_n 0, 1) := by decide +kernel
theorem dX6_count_78 : decode cX6_count 78 = .ok (.getfield 63, 3) := by decide +kernel
theorem dX6_count_81 : decode cX6_count 81 = .ok (.invokevirtual 67, 3) := by decide +kernel
theorem dX6_count_84 : decode cX6_count 84 = .ok (.ireturn, 1) := by decide +kernel
theorem dX6_count_85 : decode cX6_count 85 = .ok (.aload_n 0, 1) := by decide +kernel
theorem dX6_count_86 : decode cX6_count 86 = .ok (.getfield 10, 3) := by decide +kernel
theorem dX6_count_89 : decode cX6_count 89 = .ok (.aload_n 0, 1) := by decide +kernel
theorem dX6_count_90 : decode cX6_count 90 = .ok (.getfield 63, 3) := by decide +kernel
theorem dX6_count_93 : decode cX6_count 93 = .ok (.invokevirtual 82, 3) := by decide +kernel
theorem dX6_count_96 : decode cX6_count 96 = .ok (.ireturn, 1) := by decide +kernel
theorem dX6_count_97 : decode cX6_count 97 = .ok (.aload_n 0, 1) := by decide +kernel
theorem dX6_count_98 : decode cX6_count 98 = .ok (.getfield 33, 3) := by decide +kernel
theorem dX6_count_101 : decode cX6_count 101 = .ok (.invokevirtual 259, 3) := by decide +kernel
theorem dX6_count_104 : decode cX6_count 104 = .ok (.ireturn, 1) := by decide +kernel
theorem dX6_count_105 : decode cX6_count 105 = .ok (.aload_n 0, 1) := by decide +kernel
theorem dX6_count_106 : decode cX6_count 106 = .ok (.getfield 33, 3) := by decide +kernel
theorem dX6_count_109 : decode cX6_count 109 = .ok (.invokevirtual 260, 3) := by decide +kernel
theorem dX6_count_112 : decode cX6_count 112 = .ok (.ireturn, 1) := by decide +kernel
theorem dX6_count_113 : decode cX6_count 113 = .ok (.aload_n 0, 1) := by decide +kernel
theorem dX6_count_114 : decode cX6_count 114 = .ok (.getfield 33, 3) := by decide +kernel
theorem dX6_count_117 : decode cX6_count 117 = .ok (.invokevirtual 263, 3) := by decide +kernel
theorem dX6_count_120 : decode cX6_count 120 = .ok (.ireturn, 1) := by decide +kernel
theorem dX6_isLetter_0 : decode cX6_isLetter 0 = .ok (.iload_n 0, 1) := by decide +kernel
theorem dX6_isLetter_1 : decode cX6_isLetter 1 = .ok (.ifCond .lt 13, 3) := by decide +kernel
theorem dX6_isLetter_4 : decode cX6_isLetter 4 = .ok (.iload_n 0, 1) := by decide +kernel
theorem dX6_isLetter_5 : decode cX6_isLetter 5 = .ok (.bipush 8, 2) := by decide +kernel
theorem dX6_isLetter_7 : decode cX6_isLetter 7 = .ok (.if_icmp .ge 7, 3) := by decide +kernel
theorem dX6_isLetter_10 : decode cX6_isLetter 10 = .ok (.iconst 1, 1) := by decide +kernel
theorem dX6_isLetter_11 : decode cX6_isLetter 11 = .ok (.goto 4, 3) := by decide +kernel
theorem dX6_isLetter_14 : decode cX6_isLetter 14 = .ok (.iconst 0, 1) := by decide +kernel
theorem dX6_isLetter_15 : decode cX6_isLetter 15 = .ok (.ireturn, 1) := by decide +kernel
theorem dX6_isEndCount_0 : decode cX6_isEndCount 0 = .ok (.iload_n 0, 1) := by decide +kernel
theorem dX6_isEndCount_1 : decode cX6_isEndCount 1 = .ok (.iconst 1, 1) := by decide +kernel
theorem dX6_isEndCount_2 : decode cX6_isEndCount 2 = .ok (.if_icmp .lt 13, 3) := by decide +kernel
theorem dX6_isEndCount_5 : decode cX6_isEndCount 5 = .ok (.iload_n 0, 1) := by decide +kernel
theorem dX6_isEndCount_6 : decode cX6_isEndCount 6 = .ok (.bipush 60, 2) := by decide +kernel
theorem dX6_isEndCount_8 : decode cX6_isEndCount 8 = .ok (.if_icmp .gt 7, 3) := by decide +kernel
theorem dX6_isEndCount_11 : decode cX6_isEndCount 11 = .ok (.iconst 1, 1) := by decide +kernel
theorem dX6_isEndCount_12 : decode cX6_isEndCount 12 = .ok (.goto 4, 3) := by decide +kernel
theorem dX6_isEndCount_15 : decode cX6_isEndCount 15 = .ok (.iconst 0, 1) := by decide +kernel
theorem dX6_isEndCount_16 : decode cX6_isEndCount 16 = .ok (.ireturn, 1) := by decide +kernel
set_option maxRecDepth 20000 in
theorem ggX6_isWordSet_X2_wordsIn : GoodIn wsX6_isWordSet wsX2_wordsIn := goodIn_r _ [7, 8, 9, 10, 11, 6, 12, 13, 25, 26, 27, 28, 29] (by decide +kernel) (by decide +kernel)
set_option maxRecDepth 20000 in
theorem gX6_isWordSet_X2_wordsIn : GoodIn wsX6_isWordSet (wsV RX6 67 RX2 yX2_wordsIn wsX2_wordsIn) := goodIn_app (goodIn_of _ (by decide +kernel)) ggX6_isWordSet_X2_wordsIn
theorem dX6_isWordSet_0 : decode cX6_isWordSet 0 = .ok (.iload_n 1, 1) := by decide +kernel
theorem dX6_isWordSet_1 : decode cX6_isWordSet 1 = .ok (.ifCond .lt 23, 3) := by decide +kernel
theorem dX6_isWordSet_4 : decode cX6_isWordSet 4 = .ok (.iload_n 1, 1) := by decide +kernel
theorem dX6_isWordSet_5 : decode cX6_isWordSet 5 = .ok (.aload_n 0, 1) := by decide +kernel
theorem dX6_isWordSet_6 : decode cX6_isWordSet 6 = .ok (.getfield 10, 3) := by decide +kernel
theorem dX6_isWordSet_9 : decode cX6_isWordSet 9 = .ok (.aload_n 0, 1) := by decide +kernel
theorem dX6_isWordSet_10 : decode cX6_isWordSet 10 = .ok (.getfield 63, 3) := by decide +kernel
theorem dX6_isWordSet_13 : decode cX6_isWordSet 13 = .ok (.invokevirtual 67, 3) := by decide +kernel
theorem dX6_isWordSet_16 : decode cX6_isWordSet 16 = .ok (.ishr, 1) := by decide +kernel
theorem dX6_isWordSet_17 : decode cX6_isWordSet 17 = .ok (.ifCond .ne 7, 3) := by decide +kernel
theorem dX6_isWordSet_20 : decode cX6_isWordSet 20 = .ok (.iconst 1, 1) := by decide +kernel
theorem dX6_isWordSet_21 : decode cX6_isWordSet 21 = .ok (.goto 4, 3) := by decide +kernel
theorem dX6_isWordSet_24 : decode cX6_isWordSet 24 = .ok (.iconst 0, 1) := by decide +kernel
theorem dX6_isWordSet_25 : decode cX6_isWordSet 25 = .ok (.ireturn, 1) := by decide +kernel
set_option maxRecDepth 20000 in
theorem ggX6_showPresent_X5_takeVersion : GoodIn wsX6_showPresent wsX5_takeVersion := goodIn_r _ [8, 9, 10, 11, 12, 13, 14, 15, 16, 17, 18, 19, 20, 21, 22, 23, 24, 25, 26, 27, 28, 29, 30, 31, 32, 33, 34, 35, 36, 37, 38, 39, 40, 41, 42, 7, 43, 44, 45, 46, 47, 48, 49, 50, 51, 52, 53, 54, 55, 56, 57, 58, 59, 60, 61, 62, 63, 64, 65, 66, 78, 79, 80, 81, 82, 83, 84, 85, 86, 87, 88, 89, 90] (by decide +kernel) (by decide +kernel)
set_option maxRecDepth 20000 in
theorem gX6_showPresent_X5_takeVersion : GoodIn wsX6_showPresent (wsV RX6 266 RX5 yX5_takeVersion wsX5_takeVersion) := goodIn_app (goodIn_of _ (by decide +kernel)) ggX6_showPresent_X5_takeVersion
theorem dX6_showPresent_0 : decode cX6_showPresent 0 = .ok (.aload_n 0, 1) := by decide +kernel
theorem dX6_showPresent_1 : decode cX6_showPresent 1 = .ok (.getfield 26, 3) := by decide +kernel
theorem dX6_showPresent_4 : decode cX6_showPresent 4 = .ok (.aload_n 0, 1) := by decide +kernel
theorem dX6_showPresent_5 : decode cX6_showPresent 5 = .ok (.getfield 10, 3) := by decide +kernel
theorem dX6_showPresent_8 : decode cX6_showPresent 8 = .ok (.aload_n 0, 1) := by decide +kernel
theorem dX6_showPresent_9 : decode cX6_showPresent 9 = .ok (.getfield 63, 3) := by decide +kernel
theorem dX6_showPresent_12 : decode cX6_showPresent 12 = .ok (.invokevirtual 266, 3) := by decide +kernel
theorem dX6_showPresent_15 : decode cX6_showPresent 15 = .ok (.return_, 1) := by decide +kernel
set_option maxRecDepth 20000 in
theorem ggX6_showClasses_X6_showPresent : GoodIn wsX6_showClasses wsX6_showPresent := goodIn_r _ [7, 2, 8, 9, 10, 11, 12, 13, 14, 15, 16, 17, 18, 19, 20, 21, 22, 23, 24, 25, 26, 27, 28, 29, 30, 31, 32, 33, 34, 35, 36, 37, 38, 39, 40, 41, 42, 43, 44, 45, 46, 47, 48, 49, 50, 51, 52, 53, 54, 55, 56, 57, 58, 59, 60, 61, 62, 63, 64, 65, 66, 67, 68, 69, 70, 71, 72, 156, 157, 158, 159, 160, 161, 162, 163, 164, 165, 166, 167, 168, 169, 170, 171, 172, 173, 174, 175, 176, 177, 178, 179] (by decide +kernel) (by decide +kernel)
set_option maxRecDepth 20000 in
theorem gX6_showClasses_X6_showPresent : GoodIn wsX6_showClasses (wsV RX6 122 RX6 yX6_showPresent wsX6_showPresent) := goodIn_app (goodIn_of _ (by decide +kernel)) ggX6_showClasses_X6_showPresent
set_option maxRecDepth 20000 in
theorem ggX6_showClasses_X1_refresh : GoodIn wsX6_showClasses wsX1_refresh := goodIn_r _ [77, 78, 79, 80, 81, 82, 17, 18, 19, 83, 84, 85, 13, 86, 15, 87, 88, 89, 90, 21, 91, 92, 93, 94, 55, 56, 57, 58, 59, 95, 96, 97, 98, 99, 100, 101, 102, 103, 104, 105, 106, 22, 107, 108, 109, 110, 76, 111, 112, 113, 114, 115, 116, 117, 118, 119, 120, 121, 122, 123, 124, 125, 126, 127, 128, 129, 130, 131, 132, 133, 134, 135, 136, 137, 138, 139, 140, 141, 142, 143, 144, 145, 146, 147, 148, 149, 150, 151, 23, 152, 153, 154, 155, 24, 180, 181, 182, 183, 184, 185, 186, 187, 188, 189, 190, 191, 192, 167, 168, 169, 170, 171, 172, 173, 174, 193] (by decide +kernel) (by decide +kernel)
set_option maxRecDepth 20000 in
theorem gX6_showClasses_X1_refresh : GoodIn wsX6_showClasses (wsV RX6 270 RX1 yX1_refresh wsX1_refresh) := goodIn_app (goodIn_of _ (by decide +kernel)) ggX6_showClasses_X1_refresh
theorem dX6_showClasses_0 : decode cX6_showClasses 0 = .ok (.aload_n 0, 1) := by decide +kernel
theorem dX6_showClasses_1 : decode cX6_showClasses 1 = .ok (.invokevirtual 122, 3) := by decide +kernel
theorem dX6_showClasses_4 : decode cX6_showClasses 4 = .ok (.aload_n 0, 1) := by decide +kernel
theorem dX6_showClasses_5 : decode cX6_showClasses 5 = .ok (.getfield 33, 3) := by decide +kernel
theorem dX6_showClasses_8 : decode cX6_showClasses 8 = .ok (.aload_n 0, 1) := by decide +kernel
theorem dX6_showClasses_9 : decode cX6_showClasses 9 = .ok (.getfield 26, 3) := by decide +kernel
theorem dX6_showClasses_12 : decode cX6_showClasses 12 = .ok (.invokevirtual 270, 3) := by decide +kernel
theorem dX6_showClasses_15 : decode cX6_showClasses 15 = .ok (.return_, 1) := by decide +kernel
set_option maxRecDepth 20000 in
theorem ggX6_readPattern_X3_faultAsPattern : GoodIn wsX6_readPattern wsX3_faultAsPattern := goodIn_r _ [7, 8, 9, 10, 11, 6, 12, 13, 14, 15, 16, 60, 61] (by decide +kernel) (by decide +kernel)
set_option maxRecDepth 20000 in
theorem gX6_readPattern_X3_faultAsPattern : GoodIn wsX6_readPattern (wsV RX6 141 RX3 yX3_faultAsPattern wsX3_faultAsPattern) := goodIn_app (goodIn_of _ (by decide +kernel)) ggX6_readPattern_X3_faultAsPattern
set_option maxRecDepth 20000 in
theorem ggX6_readPattern_X5_takePattern : GoodIn wsX6_readPattern wsX5_takePattern := goodIn_r _ [21, 22, 23, 24, 25, 26, 6, 27, 8, 28, 29, 30, 20, 31, 32, 33, 34, 35, 36, 37, 38, 39, 40, 41, 42, 43, 44, 45, 46, 47, 48, 13, 62, 63, 64, 65, 66, 67, 68, 69, 60, 61] (by decide +kernel) (by decide +kernel)
set_option maxRecDepth 20000 in
theorem gX6_readPattern_X5_takePattern : GoodIn wsX6_readPattern (wsV RX6 271 RX5 yX5_takePattern wsX5_takePattern) := goodIn_app (goodIn_of _ (by decide +kernel)) ggX6_readPattern_X5_takePattern
theorem dX6_readPattern_0 : decode cX6_readPattern 0 = .ok (.aload_n 0, 1) := by decide +kernel
theorem dX6_readPattern_1 : decode cX6_readPattern 1 = .ok (.getfield 19, 3) := by decide +kernel
theorem dX6_readPattern_4 : decode cX6_readPattern 4 = .ok (.invokevirtual 141, 3) := by decide +kernel
theorem dX6_readPattern_7 : decode cX6_readPattern 7 = .ok (.bipush (-6), 2) := by decide +kernel
theorem dX6_readPattern_9 : decode cX6_readPattern 9 = .ok (.if_icmp .eq 5, 3) := by decide +kernel
theorem dX6_readPattern_12 : decode cX6_readPattern 12 = .ok (.iconst 0, 1) := by decide +kernel
theorem dX6_readPattern_13 : decode cX6_readPattern 13 = .ok (.ireturn, 1) := by decide +kernel
theorem dX6_readPattern_14 : decode cX6_readPattern 14 = .ok (.aload_n 0, 1) := by decide +kernel
theorem dX6_readPattern_15 : decode cX6_readPattern 15 = .ok (.getfield 44, 3) := by decide +kernel
theorem dX6_readPattern_18 : decode cX6_readPattern 18 = .ok (.aload_n 0, 1) := by decide +kernel
theorem dX6_readPattern_19 : decode cX6_readPattern 19 = .ok (.getfield 19, 3) := by decide +kernel
theorem dX6_readPattern_22 : decode cX6_readPattern 22 = .ok (.invokevirtual 271, 3) := by decide +kernel
theorem dX6_readPattern_25 : decode cX6_readPattern 25 = .ok (.iconst 1, 1) := by decide +kernel
theorem dX6_readPattern_26 : decode cX6_readPattern 26 = .ok (.ireturn, 1) := by decide +kernel
set_option maxRecDepth 20000 in
theorem ggX6_classOfPattern_X5_endNumber : GoodIn wsX6_classOfPattern wsX5_endNumber := goodIn_r _ [8, 9, 10, 11, 12, 7, 13, 14, 15, 16, 17, 18, 19, 20, 21, 22, 23, 24, 25, 26, 27, 28, 29, 30, 31, 125, 126, 127, 128, 129, 130, 131, 132] (by decide +kernel) (by decide +kernel)
set_option maxRecDepth 20000 in
theorem gX6_classOfPattern_X5_endNumber : GoodIn wsX6_classOfPattern (wsV RX6 161 RX5 yX5_endNumber wsX5_endNumber) := goodIn_app (goodIn_of _ (by decide +kernel)) ggX6_classOfPattern_X5_endNumber
set_option maxRecDepth 20000 in
theorem ggX6_classOfPattern_X1_refresh : GoodIn wsX6_classOfPattern wsX1_refresh := goodIn_r _ [36, 37, 38, 39, 40, 41, 42, 43, 44, 45, 46, 47, 7, 48, 49, 50, 24, 25, 26, 9, 51, 28, 29, 30, 31, 14, 15, 16, 17, 52, 53, 54, 55, 56, 57, 58, 59, 60, 19, 20, 21, 22, 61, 62, 63, 64, 35, 65, 66, 67, 68, 69, 70, 71, 72, 73, 74, 75, 76, 77, 78, 79, 80, 81, 82, 83, 84, 85, 86, 87, 88, 89, 90, 91, 92, 93, 94, 95, 96, 97, 98, 99, 100, 101, 102, 103, 104, 105, 106, 107, 108, 109, 110, 111, 133, 134, 135, 136, 137, 138, 139, 140, 141, 142, 143, 144, 145, 125, 126, 127, 128, 129, 130, 131, 132, 146] (by decide +kernel) (by decide +kernel)
set_option maxRecDepth 20000 in
theorem gX6_classOfPattern_X1_refresh : GoodIn wsX6_classOfPattern (wsV RX6 270 RX1 yX1_refresh wsX1_refresh) := goodIn_app (goodIn_of _ (by decide +kernel)) ggX6_classOfPattern_X1_refresh
set_option maxRecDepth 20000 in
theorem ggX6_classOfPattern_X5_length : GoodIn wsX6_classOfPattern wsX5_length := goodIn_r _ [26, 9, 125, 126, 127, 128, 129, 130, 131, 132] (by decide +kernel) (by decide +kernel)
set_option maxRecDepth 20000 in
theorem gX6_classOfPattern_X5_length : GoodIn wsX6_classOfPattern (wsV RX6 168 RX5 yX5_length wsX5_length) := goodIn_app (goodIn_of _ (by decide +kernel)) ggX6_classOfPattern_X5_length
set_option maxRecDepth 20000 in
theorem ggX6_classOfPattern_X1_classAt : GoodIn wsX6_classOfPattern wsX1_classAt := goodIn_r _ [78, 79, 133, 134, 135, 136, 137, 138, 139, 140, 141, 142, 143, 144, 145] (by decide +kernel) (by decide +kernel)
set_option maxRecDepth 20000 in
theorem gX6_classOfPattern_X1_classAt : GoodIn wsX6_classOfPattern (wsV RX6 275 RX1 yX1_classAt wsX1_classAt) := goodIn_app (goodIn_of _ (by decide +kernel)) ggX6_classOfPattern_X1_classAt
theorem dX6_classOfPattern_0 : decode cX6_classOfPattern 0 = .ok (.aload_n 0, 1) := by decide +kernel
theorem dX6_classOfPattern_1 : decode cX6_classOfPattern 1 = .ok (.getfield 26, 3) := by decide +kernel
theorem dX6_classOfPattern_4 : decode cX6_classOfPattern 4 = .ok (.aload_n 0, 1) := by decide +kernel
theorem dX6_classOfPattern_5 : decode cX6_classOfPattern 5 = .ok (.getfield 44, 3) := by decide +kernel
theorem dX6_classOfPattern_8 : decode cX6_classOfPattern 8 = .ok (.iconst 0, 1) := by decide +kernel
theorem dX6_classOfPattern_9 : decode cX6_classOfPattern 9 = .ok (.invokevirtual 161, 3) := by decide +kernel
theorem dX6_classOfPattern_12 : decode cX6_classOfPattern 12 = .ok (.istore_n 1, 1) := by decide +kernel
theorem dX6_classOfPattern_13 : decode cX6_classOfPattern 13 = .ok (.iload_n 1, 1) := by decide +kernel
theorem dX6_classOfPattern_14 : decode cX6_classOfPattern 14 = .ok (.bipush (-6), 2) := by decide +kernel
theorem dX6_classOfPattern_16 : decode cX6_classOfPattern 16 = .ok (.if_icmp .ne 6, 3) := by decide +kernel
theorem dX6_classOfPattern_19 : decode cX6_classOfPattern 19 = .ok (.bipush (-6), 2) := by decide +kernel
theorem dX6_classOfPattern_21 : decode cX6_classOfPattern 21 = .ok (.ireturn, 1) := by decide +kernel
theorem dX6_classOfPattern_22 : decode cX6_classOfPattern 22 = .ok (.aload_n 0, 1) := by decide +kernel
theorem dX6_classOfPattern_23 : decode cX6_classOfPattern 23 = .ok (.getfield 33, 3) := by decide +kernel
theorem dX6_classOfPattern_26 : decode cX6_classOfPattern 26 = .ok (.aload_n 0, 1) := by decide +kernel
theorem dX6_classOfPattern_27 : decode cX6_classOfPattern 27 = .ok (.getfield 26, 3) := by decide +kernel
theorem dX6_classOfPattern_30 : decode cX6_classOfPattern 30 = .ok (.invokevirtual 270, 3) := by decide +kernel
theorem dX6_classOfPattern_33 : decode cX6_classOfPattern 33 = .ok (.aload_n 0, 1) := by decide +kernel
theorem dX6_classOfPattern_34 : decode cX6_classOfPattern 34 = .ok (.getfield 33, 3) := by decide +kernel
theorem dX6_classOfPattern_37 : decode cX6_classOfPattern 37 = .ok (.iload_n 1, 1) := by decide +kernel
theorem dX6_classOfPattern_38 : decode cX6_classOfPattern 38 = .ok (.aload_n 0, 1) := by decide +kernel
theorem dX6_classOfPattern_39 : decode cX6_classOfPattern 39 = .ok (.getfield 44, 3) := by decide +kernel
theorem dX6_classOfPattern_42 : decode cX6_classOfPattern 42 = .ok (.invokevirtual 168, 3) := by decide +kernel
theorem dX6_classOfPattern_45 : decode cX6_classOfPattern 45 = .ok (.invokevirtual 275, 3) := by decide +kernel
theorem dX6_classOfPattern_48 : decode cX6_classOfPattern 48 = .ok (.ireturn, 1) := by decide +kernel
set_option maxRecDepth 20000 in
theorem ggX6_write_X3_write : GoodIn wsX6_write wsX3_write := goodIn_r _ [7, 8, 9, 10, 6, 11, 12, 13, 14, 15, 16, 17, 18, 19, 20, 21, 22, 23, 24, 25, 26, 27, 28, 40, 41, 42, 43, 44, 45, 46, 47, 48, 49] (by decide +kernel) (by decide +kernel)
set_option maxRecDepth 20000 in
theorem gX6_write_X3_write : GoodIn wsX6_write (wsV RX6 249 RX3 yX3_write wsX3_write) := goodIn_app (goodIn_of _ (by decide +kernel)) ggX6_write_X3_write
theorem dX6_write_0 : decode cX6_write 0 = .ok (.aload_n 0, 1) := by decide +kernel
theorem dX6_write_1 : decode cX6_write 1 = .ok (.getfield 19, 3) := by decide +kernel
theorem dX6_write_4 : decode cX6_write 4 = .ok (.aload_n 0, 1) := by decide +kernel
theorem dX6_write_5 : decode cX6_write 5 = .ok (.getfield 26, 3) := by decide +kernel
theorem dX6_write_8 : decode cX6_write 8 = .ok (.iload_n 1, 1) := by decide +kernel
theorem dX6_write_9 : decode cX6_write 9 = .ok (.iload_n 2, 1) := by decide +kernel
theorem dX6_write_10 : decode cX6_write 10 = .ok (.invokevirtual 249, 3) := by decide +kernel
theorem dX6_write_13 : decode cX6_write 13 = .ok (.iload_n 2, 1) := by decide +kernel
theorem dX6_write_14 : decode cX6_write 14 = .ok (.ireturn, 1) := by decide +kernel
set_option maxRecDepth 20000 in
theorem ggX6_factorsOfOnly_X5_takeVersion : GoodIn wsX6_factorsOfOnly wsX5_takeVersion := goodIn_r _ [14, 15, 16, 17, 8, 18, 19, 20, 21, 22, 23, 24, 25, 26, 27, 28, 29, 30, 31, 32, 33, 34, 35, 36, 37, 38, 39, 40, 41, 42, 43, 44, 45, 46, 47, 13, 48, 49, 50, 51, 52, 53, 54, 55, 56, 57, 58, 59, 60, 61, 62, 63, 64, 65, 66, 67, 68, 69, 70, 71, 103, 104, 105, 106, 107, 108, 109, 110, 111, 112, 113, 114, 115] (by decide +kernel) (by decide +kernel)
set_option maxRecDepth 20000 in
theorem gX6_factorsOfOnly_X5_takeVersion : GoodIn wsX6_factorsOfOnly (wsV RX6 266 RX5 yX5_takeVersion wsX5_takeVersion) := goodIn_app (goodIn_of _ (by decide +kernel)) ggX6_factorsOfOnly_X5_takeVersion
set_option maxRecDepth 20000 in
theorem ggX6_factorsOfOnly_X5_length : GoodIn wsX6_factorsOfOnly wsX5_length := goodIn_r _ [75, 20, 103, 104, 105, 106, 107, 108, 109, 110] (by decide +kernel) (by decide +kernel)
set_option maxRecDepth 20000 in
theorem gX6_factorsOfOnly_X5_length : GoodIn wsX6_factorsOfOnly (wsV RX6 168 RX5 yX5_length wsX5_length) := goodIn_app (goodIn_of _ (by decide +kernel)) ggX6_factorsOfOnly_X5_length
set_option maxRecDepth 20000 in
theorem ggX6_factorsOfOnly_X4_advance : GoodIn wsX6_factorsOfOnly wsX4_advance := goodIn_r _ [80, 81, 17, 8, 18, 82, 83, 84, 85, 13, 86, 54, 55, 56, 57, 58, 20, 87, 88, 89, 90, 21, 103, 104, 105, 106, 107, 108, 109, 110, 116] (by decide +kernel) (by decide +kernel)
set_option maxRecDepth 20000 in
theorem gX6_factorsOfOnly_X4_advance : GoodIn wsX6_factorsOfOnly (wsV RX6 171 RX4 yX4_advance wsX4_advance) := goodIn_app (goodIn_of _ (by decide +kernel)) ggX6_factorsOfOnly_X4_advance
set_option maxRecDepth 20000 in
theorem ggX6_factorsOfOnly_X5_placeAt : GoodIn wsX6_factorsOfOnly wsX5_placeAt := goodIn_r _ [90, 21, 55, 56, 57, 13, 58, 20, 103, 104, 105, 106, 107, 108, 109, 110] (by decide +kernel) (by decide +kernel)
set_option maxRecDepth 20000 in
theorem gX6_factorsOfOnly_X5_placeAt : GoodIn wsX6_factorsOfOnly (wsV RX6 278 RX5 yX5_placeAt wsX5_placeAt) := goodIn_app (goodIn_of _ (by decide +kernel)) ggX6_factorsOfOnly_X5_placeAt
theorem dX6_factorsOfOnly_0 : decode cX6_factorsOfOnly 0 = .ok (.aload_n 0, 1) := by decide +kernel
theorem dX6_factorsOfOnly_1 : decode cX6_factorsOfOnly 1 = .ok (.getfield 47, 3) := by decide +kernel
theorem dX6_factorsOfOnly_4 : decode cX6_factorsOfOnly 4 = .ok (.aload_n 0, 1) := by decide +kernel
theorem dX6_factorsOfOnly_5 : decode cX6_factorsOfOnly 5 = .ok (.getfield 10, 3) := by decide +kernel
theorem dX6_factorsOfOnly_8 : decode cX6_factorsOfOnly 8 = .ok (.iload_n 1, 1) := by decide +kernel
theorem dX6_factorsOfOnly_9 : decode cX6_factorsOfOnly 9 = .ok (.invokevirtual 266, 3) := by decide +kernel
theorem dX6_factorsOfOnly_12 : decode cX6_factorsOfOnly 12 = .ok (.aload_n 0, 1) := by decide +kernel
theorem dX6_factorsOfOnly_13 : decode cX6_factorsOfOnly 13 = .ok (.getfield 50, 3) := by decide +kernel
theorem dX6_factorsOfOnly_16 : decode cX6_factorsOfOnly 16 = .ok (.aload_n 0, 1) := by decide +kernel
theorem dX6_factorsOfOnly_17 : decode cX6_factorsOfOnly 17 = .ok (.getfield 10, 3) := by decide +kernel
theorem dX6_factorsOfOnly_20 : decode cX6_factorsOfOnly 20 = .ok (.iload_n 2, 1) := by decide +kernel
theorem dX6_factorsOfOnly_21 : decode cX6_factorsOfOnly 21 = .ok (.invokevirtual 266, 3) := by decide +kernel
theorem dX6_factorsOfOnly_24 : decode cX6_factorsOfOnly 24 = .ok (.iconst 0, 1) := by decide +kernel
theorem dX6_factorsOfOnly_25 : decode cX6_factorsOfOnly 25 = .ok (.istore_n 3, 1) := by decide +kernel
theorem dX6_factorsOfOnly_26 : decode cX6_factorsOfOnly 26 = .ok (.iconst 0, 1) := by decide +kernel
theorem dX6_factorsOfOnly_27 : decode cX6_factorsOfOnly 27 = .ok (.istore 4, 2) := by decide +kernel
theorem dX6_factorsOfOnly_29 : decode cX6_factorsOfOnly 29 = .ok (.iload 4, 2) := by decide +kernel
theorem dX6_factorsOfOnly_31 : decode cX6_factorsOfOnly 31 = .ok (.aload_n 0, 1) := by decide +kernel
theorem dX6_factorsOfOnly_32 : decode cX6_factorsOfOnly 32 = .ok (.getfield 47, 3) := by decide +kernel
theorem dX6_factorsOfOnly_35 : decode cX6_factorsOfOnly 35 = .ok (.invokevirtual 168, 3) := by decide +kernel
theorem dX6_factorsOfOnly_38 : decode cX6_factorsOfOnly 38 = .ok (.if_icmp .ge 78, 3) := by decide +kernel
theorem dX6_factorsOfOnly_41 : decode cX6_factorsOfOnly 41 = .ok (.aload_n 0, 1) := by decide +kernel
theorem dX6_factorsOfOnly_42 : decode cX6_factorsOfOnly 42 = .ok (.getfield 56, 3) := by decide +kernel
theorem dX6_factorsOfOnly_45 : decode cX6_factorsOfOnly 45 = .ok (.aload_n 0, 1) := by decide +kernel
theorem dX6_factorsOfOnly_46 : decode cX6_factorsOfOnly 46 = .ok (.getfield 47, 3) := by decide +kernel
theorem dX6_factorsOfOnly_49 : decode cX6_factorsOfOnly 49 = .ok (.iload 4, 2) := by decide +kernel
theorem dX6_factorsOfOnly_51 : decode cX6_factorsOfOnly 51 = .ok (.aload_n 0, 1) := by decide +kernel
theorem dX6_factorsOfOnly_52 : decode cX6_factorsOfOnly 52 = .ok (.getfield 47, 3) := by decide +kernel
theorem dX6_factorsOfOnly_55 : decode cX6_factorsOfOnly 55 = .ok (.iload 4, 2) := by decide +kernel
theorem dX6_factorsOfOnly_57 : decode cX6_factorsOfOnly 57 = .ok (.invokevirtual 171, 3) := by decide +kernel
theorem dX6_factorsOfOnly_60 : decode cX6_factorsOfOnly 60 = .ok (.istore 5, 2) := by decide +kernel
theorem dX6_factorsOfOnly_62 : decode cX6_factorsOfOnly 62 = .ok (.aload_n 0, 1) := by decide +kernel
theorem dX6_factorsOfOnly_63 : decode cX6_factorsOfOnly 63 = .ok (.getfield 60, 3) := by decide +kernel
theorem dX6_factorsOfOnly_66 : decode cX6_factorsOfOnly 66 = .ok (.aload_n 0, 1) := by decide +kernel
theorem dX6_factorsOfOnly_67 : decode cX6_factorsOfOnly 67 = .ok (.getfield 47, 3) := by decide +kernel
theorem dX6_factorsOfOnly_70 : decode cX6_factorsOfOnly 70 = .ok (.iload 4, 2) := by decide +kernel
theorem dX6_factorsOfOnly_72 : decode cX6_factorsOfOnly 72 = .ok (.aload_n 0, 1) := by decide +kernel
theorem dX6_factorsOfOnly_73 : decode cX6_factorsOfOnly 73 = .ok (.getfield 50, 3) := by decide +kernel
theorem dX6_factorsOfOnly_76 : decode cX6_factorsOfOnly 76 = .ok (.aload_n 0, 1) := by decide +kernel
theorem dX6_factorsOfOnly_77 : decode cX6_factorsOfOnly 77 = .ok (.getfield 50, 3) := by decide +kernel
theorem dX6_factorsOfOnly_80 : decode cX6_factorsOfOnly 80 = .ok (.invokevirtual 168, 3) := by decide +kernel
theorem dX6_factorsOfOnly_83 : decode cX6_factorsOfOnly 83 = .ok (.invokevirtual 171, 3) := by decide +kernel
theorem dX6_factorsOfOnly_86 : decode cX6_factorsOfOnly 86 = .ok (.istore 6, 2) := by decide +kernel
theorem dX6_factorsOfOnly_88 : decode cX6_factorsOfOnly 88 = .ok (.iload_n 3, 1) := by decide +kernel
theorem dX6_factorsOfOnly_89 : decode cX6_factorsOfOnly 89 = .ok (.aload_n 0, 1) := by decide +kernel
theorem dX6_factorsOfOnly_90 : decode cX6_factorsOfOnly 90 = .ok (.getfield 47, 3) := by decide +kernel
theorem dX6_factorsOfOnly_93 : decode cX6_factorsOfOnly 93 = .ok (.iload 4, 2) := by decide +kernel
theorem dX6_factorsOfOnly_95 : decode cX6_factorsOfOnly 95 = .ok (.invokevirtual 278, 3) := by decide +kernel
theorem dX6_factorsOfOnly_98 : decode cX6_factorsOfOnly 98 = .ok (.iconst 1, 1) := by decide +kernel
theorem dX6_factorsOfOnly_99 : decode cX6_factorsOfOnly 99 = .ok (.iadd, 1) := by decide +kernel
theorem dX6_factorsOfOnly_100 : decode cX6_factorsOfOnly 100 = .ok (.iload 5, 2) := by decide +kernel
theorem dX6_factorsOfOnly_102 : decode cX6_factorsOfOnly 102 = .ok (.iload 6, 2) := by decide +kernel
theorem dX6_factorsOfOnly_104 : decode cX6_factorsOfOnly 104 = .ok (.invokestatic 281, 3) := by decide +kernel
theorem dX6_factorsOfOnly_107 : decode cX6_factorsOfOnly 107 = .ok (.isub, 1) := by decide +kernel
theorem dX6_factorsOfOnly_108 : decode cX6_factorsOfOnly 108 = .ok (.iadd, 1) := by decide +kernel
theorem dX6_factorsOfOnly_109 : decode cX6_factorsOfOnly 109 = .ok (.istore_n 3, 1) := by decide +kernel
theorem dX6_factorsOfOnly_110 : decode cX6_factorsOfOnly 110 = .ok (.iinc 4 1, 3) := by decide +kernel
theorem dX6_factorsOfOnly_113 : decode cX6_factorsOfOnly 113 = .ok (.goto (-84), 3) := by decide +kernel
theorem dX6_factorsOfOnly_116 : decode cX6_factorsOfOnly 116 = .ok (.iload_n 3, 1) := by decide +kernel
theorem dX6_factorsOfOnly_117 : decode cX6_factorsOfOnly 117 = .ok (.ireturn, 1) := by decide +kernel
theorem dX7_init_0 : decode cX7_init 0 = .ok (.aload_n 0, 1) := by decide +kernel
theorem dX7_init_1 : decode cX7_init 1 = .ok (.invokespecial 1, 3) := by decide +kernel
theorem dX7_init_4 : decode cX7_init 4 = .ok (.aload_n 0, 1) := by decide +kernel
theorem dX7_init_5 : decode cX7_init 5 = .ok (.sipush 400, 3) := by decide +kernel
theorem dX7_init_8 : decode cX7_init 8 = .ok (.newarray .int, 2) := by decide +kernel
theorem dX7_init_10 : decode cX7_init 10 = .ok (.putfield 7, 3) := by decide +kernel
theorem dX7_init_13 : decode cX7_init 13 = .ok (.aload_n 0, 1) := by decide +kernel
theorem dX7_init_14 : decode cX7_init 14 = .ok (.sipush 400, 3) := by decide +kernel
theorem dX7_init_17 : decode cX7_init 17 = .ok (.newarray .int, 2) := by decide +kernel
theorem dX7_init_19 : decode cX7_init 19 = .ok (.putfield 13, 3) := by decide +kernel
theorem dX7_init_22 : decode cX7_init 22 = .ok (.aload_n 0, 1) := by decide +kernel
theorem dX7_init_23 : decode cX7_init 23 = .ok (.sipush 400, 3) := by decide +kernel
theorem dX7_init_26 : decode cX7_init 26 = .ok (.newarray .int, 2) := by decide +kernel
theorem dX7_init_28 : decode cX7_init 28 = .ok (.putfield 16, 3) := by decide +kernel
theorem dX7_init_31 : decode cX7_init 31 = .ok (.aload_n 0, 1) := by decide +kernel
theorem dX7_init_32 : decode cX7_init 32 = .ok (.sipush 400, 3) := by decide +kernel
theorem dX7_init_35 : decode cX7_init 35 = .ok (.newarray .int, 2) := by decide +kernel
theorem dX7_init_37 : decode cX7_init 37 = .ok (.putfield 19, 3) := by decide +kernel
theorem dX7_init_40 : decode cX7_init 40 = .ok (.aload_n 0, 1) := by decide +kernel
theorem dX7_init_41 : decode cX7_init 41 = .ok (.bipush 60, 2) := by decide +kernel
theorem dX7_init_43 : decode cX7_init 43 = .ok (.newarray .int, 2) := by decide +kernel
theorem dX7_init_45 : decode cX7_init 45 = .ok (.putfield 22, 3) := by decide +kernel
theorem dX7_init_48 : decode cX7_init 48 = .ok (.aload_n 0, 1) := by decide +kernel
theorem dX7_init_49 : decode cX7_init 49 = .ok (.bipush 120, 2) := by decide +kernel
theorem dX7_init_51 : decode cX7_init 51 = .ok (.newarray .int, 2) := by decide +kernel
theorem dX7_init_53 : decode cX7_init 53 = .ok (.putfield 25, 3) := by decide +kernel
theorem dX7_init_56 : decode cX7_init 56 = .ok (.aload_n 0, 1) := by decide +kernel
theorem dX7_init_57 : decode cX7_init 57 = .ok (.bipush 120, 2) := by decide +kernel
theorem dX7_init_59 : decode cX7_init 59 = .ok (.newarray .int, 2) := by decide +kernel
theorem dX7_init_61 : decode cX7_init 61 = .ok (.putfield 28, 3) := by decide +kernel
theorem dX7_init_64 : decode cX7_init 64 = .ok (.aload_n 0, 1) := by decide +kernel
theorem dX7_init_65 : decode cX7_init 65 = .ok (.bipush 12, 2) := by decide +kernel
theorem dX7_init_67 : decode cX7_init 67 = .ok (.newarray .int, 2) := by decide +kernel
theorem dX7_init_69 : decode cX7_init 69 = .ok (.putfield 31, 3) := by decide +kernel
theorem dX7_init_72 : decode cX7_init 72 = .ok (.aload_n 0, 1) := by decide +kernel
theorem dX7_init_73 : decode cX7_init 73 = .ok (.bipush 12, 2) := by decide +kernel
theorem dX7_init_75 : decode cX7_init 75 = .ok (.newarray .int, 2) := by decide +kernel
theorem dX7_init_77 : decode cX7_init 77 = .ok (.putfield 34, 3) := by decide +kernel
theorem dX7_init_80 : decode cX7_init 80 = .ok (.aload_n 0, 1) := by decide +kernel
theorem dX7_init_81 : decode cX7_init 81 = .ok (.iconst 2, 1) := by decide +kernel
theorem dX7_init_82 : decode cX7_init 82 = .ok (.newarray .int, 2) := by decide +kernel
theorem dX7_init_84 : decode cX7_init 84 = .ok (.putfield 37, 3) := by decide +kernel
theorem dX7_init_87 : decode cX7_init 87 = .ok (.aload_n 0, 1) := by decide +kernel
theorem dX7_init_88 : decode cX7_init 88 = .ok (.iconst 2, 1) := by decide +kernel
theorem dX7_init_89 : decode cX7_init 89 = .ok (.newarray .int, 2) := by decide +kernel
theorem dX7_init_91 : decode cX7_init 91 = .ok (.putfield 40, 3) := by decide +kernel
theorem dX7_init_94 : decode cX7_init 94 = .ok (.aload_n 0, 1) := by decide +kernel
theorem dX7_init_95 : decode cX7_init 95 = .ok (.bipush 70, 2) := by decide +kernel
theorem dX7_init_97 : decode cX7_init 97 = .ok (.newarray .int, 2) := by decide +kernel
theorem dX7_init_99 : decode cX7_init 99 = .ok (.putfield 43, 3) := by decide +kernel
theorem dX7_init_102 : decode cX7_init 102 = .ok (.aload_n 0, 1) := by decide +kernel
theorem dX7_init_103 : decode cX7_init 103 = .ok (.bipush 60, 2) := by decide +kernel
theorem dX7_init_105 : decode cX7_init 105 = .ok (.newarray .int, 2) := by decide +kernel
theorem dX7_init_107 : decode cX7_init 107 = .ok (.putfield 46, 3) := by decide +kernel
theorem dX7_init_110 : decode cX7_init 110 = .ok (.aload_n 0, 1) := by decide +kernel
theorem dX7_init_111 : decode cX7_init 111 = .ok (.bipush 60, 2) := by decide +kernel
theorem dX7_init_113 : decode cX7_init 113 = .ok (.newarray .int, 2) := by decide +kernel
theorem dX7_init_115 : decode cX7_init 115 = .ok (.putfield 49, 3) := by decide +kernel
theorem dX7_init_118 : decode cX7_init 118 = .ok (.aload_n 0, 1) := by decide +kernel
theorem dX7_init_119 : decode cX7_init 119 = .ok (.sipush 200, 3) := by decide +kernel
theorem dX7_init_122 : decode cX7_init 122 = .ok (.newarray .int, 2) := by decide +kernel
theorem dX7_init_124 : decode cX7_init 124 = .ok (.putfield 52, 3) := by decide +kernel
theorem dX7_init_127 : decode cX7_init 127 = .ok (.aload_n 0, 1) := by decide +kernel
theorem dX7_init_128 : decode cX7_init 128 = .ok (.sipush 200, 3) := by decide +kernel
theorem dX7_init_131 : decode cX7_init 131 = .ok (.newarray .int, 2) := by decide +kernel
theorem dX7_init_133 : decode cX7_init 133 = .ok (.putfield 55, 3) := by decide +kernel
theorem dX7_init_136 : decode cX7_init 136 = .ok (.aload_n 0, 1) := by decide +kernel
theorem dX7_init_137 : decode cX7_init 137 = .ok (.sipush 200, 3) := by decide +kernel
theorem dX7_init_140 : decode cX7_init 140 = .ok (.newarray .int, 2) := by decide +kernel
theorem dX7_init_142 : decode cX7_init 142 = .ok (.putfield 58, 3) := by decide +kernel
theorem dX7_init_145 : decode cX7_init 145 = .ok (.aload_n 0, 1) := by decide +kernel
theorem dX7_init_146 : decode cX7_init 146 = .ok (.sipush 200, 3) := by decide +kernel
theorem dX7_init_149 : decode cX7_init 149 = .ok (.newarray .int, 2) := by decide +kernel
theorem dX7_init_151 : decode cX7_init 151 = .ok (.putfield 61, 3) := by decide +kernel
theorem dX7_init_154 : decode cX7_init 154 = .ok (.aload_n 0, 1) := by decide +kernel
theorem dX7_init_155 : decode cX7_init 155 = .ok (.bipush 61, 2) := by decide +kernel
theorem dX7_init_157 : decode cX7_init 157 = .ok (.newarray .int, 2) := by decide +kernel
theorem dX7_init_159 : decode cX7_init 159 = .ok (.putfield 64, 3) := by decide +kernel
theorem dX7_init_162 : decode cX7_init 162 = .ok (.aload_n 0, 1) := by decide +kernel
theorem dX7_init_163 : decode cX7_init 163 = .ok (.getfield 7, 3) := by decide +kernel
theorem dX7_init_166 : decode cX7_init 166 = .ok (.iconst 0, 1) := by decide +kernel
theorem dX7_init_167 : decode cX7_init 167 = .ok (.bipush (-6), 2) := by decide +kernel
theorem dX7_init_169 : decode cX7_init 169 = .ok (.iastore, 1) := by decide +kernel
theorem dX7_init_170 : decode cX7_init 170 = .ok (.aload_n 0, 1) := by decide +kernel
theorem dX7_init_171 : decode cX7_init 171 = .ok (.iconst 1, 1) := by decide +kernel
theorem dX7_init_172 : decode cX7_init 172 = .ok (.putfield 67, 3) := by decide +kernel
theorem dX7_init_175 : decode cX7_init 175 = .ok (.return_, 1) := by decide +kernel
theorem dX7_in_0 : decode cX7_in 0 = .ok (.iload_n 0, 1) := by decide +kernel
theorem dX7_in_1 : decode cX7_in 1 = .ok (.iload_n 1, 1) := by decide +kernel
theorem dX7_in_2 : decode cX7_in 2 = .ok (.if_icmp .lt 12, 3) := by decide +kernel
theorem dX7_in_5 : decode cX7_in 5 = .ok (.iload_n 0, 1) := by decide +kernel
theorem dX7_in_6 : decode cX7_in 6 = .ok (.iload_n 2, 1) := by decide +kernel
theorem dX7_in_7 : decode cX7_in 7 = .ok (.if_icmp .gt 7, 3) := by decide +kernel
theorem dX7_in_10 : decode cX7_in 10 = .ok (.iconst 1, 1) := by decide +kernel
theorem dX7_in_11 : decode cX7_in 11 = .ok (.goto 4, 3) := by decide +kernel
theorem dX7_in_14 : decode cX7_in 14 = .ok (.iconst 0, 1) := by decide +kernel
theorem dX7_in_15 : decode cX7_in 15 = .ok (.ireturn, 1) := by decide +kernel
theorem dX7_sizeOf_0 : decode cX7_sizeOf 0 = .ok (.iconst 0, 1) := by decide +kernel
theorem dX7_sizeOf_1 : decode cX7_sizeOf 1 = .ok (.istore_n 1, 1) := by decide +kernel
theorem dX7_sizeOf_2 : decode cX7_sizeOf 2 = .ok (.iconst 0, 1) := by decide +kernel
theorem dX7_sizeOf_3 : decode cX7_sizeOf 3 = .ok (.istore_n 2, 1) := by decide +kernel
theorem dX7_sizeOf_4 : decode cX7_sizeOf 4 = .ok (.iload_n 2, 1) := by decide +kernel
theorem dX7_sizeOf_5 : decode cX7_sizeOf 5 = .ok (.bipush 8, 2) := by decide +kernel
theorem dX7_sizeOf_7 : decode cX7_sizeOf 7 = .ok (.if_icmp .ge 17, 3) := by decide +kernel
theorem dX7_sizeOf_10 : decode cX7_sizeOf 10 = .ok (.iload_n 1, 1) := by decide +kernel
theorem dX7_sizeOf_11 : decode cX7_sizeOf 11 = .ok (.iload_n 0, 1) := by decide +kernel
theorem dX7_sizeOf_12 : decode cX7_sizeOf 12 = .ok (.iload_n 2, 1) := by decide +kernel
theorem dX7_sizeOf_13 : decode cX7_sizeOf 13 = .ok (.ishr, 1) := by decide +kernel
theorem dX7_sizeOf_14 : decode cX7_sizeOf 14 = .ok (.iconst 1, 1) := by decide +kernel
theorem dX7_sizeOf_15 : decode cX7_sizeOf 15 = .ok (.iand, 1) := by decide +kernel
theorem dX7_sizeOf_16 : decode cX7_sizeOf 16 = .ok (.iadd, 1) := by decide +kernel
theorem dX7_sizeOf_17 : decode cX7_sizeOf 17 = .ok (.istore_n 1, 1) := by decide +kernel
theorem dX7_sizeOf_18 : decode cX7_sizeOf 18 = .ok (.iinc 2 1, 3) := by decide +kernel
theorem dX7_sizeOf_21 : decode cX7_sizeOf 21 = .ok (.goto (-17), 3) := by decide +kernel
theorem dX7_sizeOf_24 : decode cX7_sizeOf 24 = .ok (.iload_n 1, 1) := by decide +kernel
theorem dX7_sizeOf_25 : decode cX7_sizeOf 25 = .ok (.ireturn, 1) := by decide +kernel
theorem dX7_lay_0 : decode cX7_lay 0 = .ok (.iconst 0, 1) := by decide +kernel
theorem dX7_lay_1 : decode cX7_lay 1 = .ok (.istore_n 3, 1) := by decide +kernel
theorem dX7_lay_2 : decode cX7_lay 2 = .ok (.iload_n 2, 1) := by decide +kernel
theorem dX7_lay_3 : decode cX7_lay 3 = .ok (.istore 4, 2) := by decide +kernel
theorem dX7_lay_5 : decode cX7_lay 5 = .ok (.iload 4, 2) := by decide +kernel
theorem dX7_lay_7 : decode cX7_lay 7 = .ok (.ifCond .le 31, 3) := by decide +kernel
theorem dX7_lay_10 : decode cX7_lay 10 = .ok (.aload_n 0, 1) := by decide +kernel
theorem dX7_lay_11 : decode cX7_lay 11 = .ok (.getfield 43, 3) := by decide +kernel
theorem dX7_lay_14 : decode cX7_lay 14 = .ok (.iload_n 3, 1) := by decide +kernel
theorem dX7_lay_15 : decode cX7_lay 15 = .ok (.aload_n 0, 1) := by decide +kernel
theorem dX7_lay_16 : decode cX7_lay 16 = .ok (.getfield 13, 3) := by decide +kernel
theorem dX7_lay_19 : decode cX7_lay 19 = .ok (.iload 4, 2) := by decide +kernel
theorem dX7_lay_21 : decode cX7_lay 21 = .ok (.iaload, 1) := by decide +kernel
theorem dX7_lay_22 : decode cX7_lay 22 = .ok (.iastore, 1) := by decide +kernel
theorem dX7_lay_23 : decode cX7_lay 23 = .ok (.iinc 3 1, 3) := by decide +kernel
theorem dX7_lay_26 : decode cX7_lay 26 = .ok (.aload_n 0, 1) := by decide +kernel
theorem dX7_lay_27 : decode cX7_lay 27 = .ok (.getfield 7, 3) := by decide +kernel
theorem dX7_lay_30 : decode cX7_lay 30 = .ok (.iload 4, 2) := by decide +kernel
theorem dX7_lay_32 : decode cX7_lay 32 = .ok (.iaload, 1) := by decide +kernel
theorem dX7_lay_33 : decode cX7_lay 33 = .ok (.istore 4, 2) := by decide +kernel
theorem dX7_lay_35 : decode cX7_lay 35 = .ok (.goto (-30), 3) := by decide +kernel
theorem dX7_lay_38 : decode cX7_lay 38 = .ok (.aload_n 0, 1) := by decide +kernel
theorem dX7_lay_39 : decode cX7_lay 39 = .ok (.getfield 37, 3) := by decide +kernel
theorem dX7_lay_42 : decode cX7_lay 42 = .ok (.iload_n 1, 1) := by decide +kernel
theorem dX7_lay_43 : decode cX7_lay 43 = .ok (.iconst 0, 1) := by decide +kernel
theorem dX7_lay_44 : decode cX7_lay 44 = .ok (.iastore, 1) := by decide +kernel
theorem dX7_lay_45 : decode cX7_lay 45 = .ok (.aload_n 0, 1) := by decide +kernel
theorem dX7_lay_46 : decode cX7_lay 46 = .ok (.getfield 40, 3) := by decide +kernel
theorem dX7_lay_49 : decode cX7_lay 49 = .ok (.iload_n 1, 1) := by decide +kernel
theorem dX7_lay_50 : decode cX7_lay 50 = .ok (.iconst 0, 1) := by decide +kernel
theorem dX7_lay_51 : decode cX7_lay 51 = .ok (.iastore, 1) := by decide +kernel
theorem dX7_lay_52 : decode cX7_lay 52 = .ok (.iload_n 3, 1) := by decide +kernel
theorem dX7_lay_53 : decode cX7_lay 53 = .ok (.iconst 1, 1) := by decide +kernel
theorem dX7_lay_54 : decode cX7_lay 54 = .ok (.isub, 1) := by decide +kernel
theorem dX7_lay_55 : decode cX7_lay 55 = .ok (.istore 4, 2) := by decide +kernel
theorem dX7_lay_57 : decode cX7_lay 57 = .ok (.iload 4, 2) := by decide +kernel
theorem dX7_lay_59 : decode cX7_lay 59 = .ok (.ifCond .lt 144, 3) := by decide +kernel
theorem dX7_lay_62 : decode cX7_lay 62 = .ok (.bipush 6, 2) := by decide +kernel
theorem dX7_lay_64 : decode cX7_lay 64 = .ok (.iload_n 1, 1) := by decide +kernel
theorem dX7_lay_65 : decode cX7_lay 65 = .ok (.imul, 1) := by decide +kernel
theorem dX7_lay_66 : decode cX7_lay 66 = .ok (.aload_n 0, 1) := by decide +kernel
theorem dX7_lay_67 : decode cX7_lay 67 = .ok (.getfield 40, 3) := by decide +kernel
theorem dX7_lay_70 : decode cX7_lay 70 = .ok (.iload_n 1, 1) := by decide +kernel
theorem dX7_lay_71 : decode cX7_lay 71 = .ok (.iaload, 1) := by decide +kernel
theorem dX7_lay_72 : decode cX7_lay 72 = .ok (.iadd, 1) := by decide +kernel
theorem dX7_lay_73 : decode cX7_lay 73 = .ok (.istore 5, 2) := by decide +kernel
theorem dX7_lay_75 : decode cX7_lay 75 = .ok (.aload_n 0, 1) := by decide +kernel
theorem dX7_lay_76 : decode cX7_lay 76 = .ok (.getfield 43, 3) := by decide +kernel
theorem dX7_lay_79 : decode cX7_lay 79 = .ok (.iload 4, 2) := by decide +kernel
theorem dX7_lay_81 : decode cX7_lay 81 = .ok (.iaload, 1) := by decide +kernel
theorem dX7_lay_82 : decode cX7_lay 82 = .ok (.iconst (-1), 1) := by decide +kernel
theorem dX7_lay_83 : decode cX7_lay 83 = .ok (.if_icmp .ne 42, 3) := by decide +kernel
theorem dX7_lay_86 : decode cX7_lay 86 = .ok (.aload_n 0, 1) := by decide +kernel
theorem dX7_lay_87 : decode cX7_lay 87 = .ok (.getfield 31, 3) := by decide +kernel
theorem dX7_lay_90 : decode cX7_lay 90 = .ok (.iload 5, 2) := by decide +kernel
theorem dX7_lay_92 : decode cX7_lay 92 = .ok (.aload_n 0, 1) := by decide +kernel
theorem dX7_lay_93 : decode cX7_lay 93 = .ok (.getfield 37, 3) := by decide +kernel
theorem dX7_lay_96 : decode cX7_lay 96 = .ok (.iload_n 1, 1) := by decide +kernel
theorem dX7_lay_97 : decode cX7_lay 97 = .ok (.iaload, 1) := by decide +kernel
theorem dX7_lay_98 : decode cX7_lay 98 = .ok (.iastore, 1) := by decide +kernel
theorem dX7_lay_99 : decode cX7_lay 99 = .ok (.aload_n 0, 1) := by decide +kernel
theorem dX7_lay_100 : decode cX7_lay 100 = .ok (.getfield 34, 3) := by decide +kernel
theorem dX7_lay_103 : decode cX7_lay 103 = .ok (.iload 5, 2) := by decide +kernel
theorem dX7_lay_105 : decode cX7_lay 105 = .ok (.aload_n 0, 1) := by decide +kernel
theorem dX7_lay_106 : decode cX7_lay 106 = .ok (.getfield 37, 3) := by decide +kernel
theorem dX7_lay_109 : decode cX7_lay 109 = .ok (.iload_n 1, 1) := by decide +kernel
theorem dX7_lay_110 : decode cX7_lay 110 = .ok (.iaload, 1) := by decide +kernel
theorem dX7_lay_111 : decode cX7_lay 111 = .ok (.iastore, 1) := by decide +kernel
theorem dX7_lay_112 : decode cX7_lay 112 = .ok (.aload_n 0, 1) := by decide +kernel
theorem dX7_lay_113 : decode cX7_lay 113 = .ok (.getfield 40, 3) := by decide +kernel
theorem dX7_lay_116 : decode cX7_lay 116 = .ok (.iload_n 1, 1) := by decide +kernel
theorem dX7_lay_117 : decode cX7_lay 117 = .ok (.dup2, 1) := by decide +kernel
theorem dX7_lay_118 : decode cX7_lay 118 = .ok (.iaload, 1) := by decide +kernel
theorem dX7_lay_119 : decode cX7_lay 119 = .ok (.iconst 1, 1) := by decide +kernel
theorem dX7_lay_120 : decode cX7_lay 120 = .ok (.iadd, 1) := by decide +kernel
theorem dX7_lay_121 : decode cX7_lay 121 = .ok (.iastore, 1) := by decide +kernel
theorem dX7_lay_122 : decode cX7_lay 122 = .ok (.goto 75, 3) := by decide +kernel
theorem dX7_lay_125 : decode cX7_lay 125 = .ok (.aload_n 0, 1) := by decide +kernel
theorem dX7_lay_126 : decode cX7_lay 126 = .ok (.getfield 25, 3) := by decide +kernel
theorem dX7_lay_129 : decode cX7_lay 129 = .ok (.bipush 60, 2) := by decide +kernel
theorem dX7_lay_131 : decode cX7_lay 131 = .ok (.iload_n 1, 1) := by decide +kernel
theorem dX7_lay_132 : decode cX7_lay 132 = .ok (.imul, 1) := by decide +kernel
theorem dX7_lay_133 : decode cX7_lay 133 = .ok (.aload_n 0, 1) := by decide +kernel
theorem dX7_lay_134 : decode cX7_lay 134 = .ok (.getfield 37, 3) := by decide +kernel
theorem dX7_lay_137 : decode cX7_lay 137 = .ok (.iload_n 1, 1) := by decide +kernel
theorem dX7_lay_138 : decode cX7_lay 138 = .ok (.iaload, 1) := by decide +kernel
theorem dX7_lay_139 : decode cX7_lay 139 = .ok (.iadd, 1) := by decide +kernel
theorem dX7_lay_140 : decode cX7_lay 140 = .ok (.aload_n 0, 1) := by decide +kernel
theorem dX7_lay_141 : decode cX7_lay 141 = .ok (.getfield 43, 3) := by decide +kernel
theorem dX7_lay_144 : decode cX7_lay 144 = .ok (.iload 4, 2) := by decide +kernel
theorem dX7_lay_146 : decode cX7_lay 146 = .ok (.iaload, 1) := by decide +kernel
theorem dX7_lay_147 : decode cX7_lay 147 = .ok (.iastore, 1) := by decide +kernel
theorem dX7_lay_148 : decode cX7_lay 148 = .ok (.aload_n 0, 1) := by decide +kernel
theorem dX7_lay_149 : decode cX7_lay 149 = .ok (.getfield 28, 3) := by decide +kernel
theorem dX7_lay_152 : decode cX7_lay 152 = .ok (.bipush 60, 2) := by decide +kernel
theorem dX7_lay_154 : decode cX7_lay 154 = .ok (.iload_n 1, 1) := by decide +kernel
theorem dX7_lay_155 : decode cX7_lay 155 = .ok (.imul, 1) := by decide +kernel
theorem dX7_lay_156 : decode cX7_lay 156 = .ok (.aload_n 0, 1) := by decide +kernel
theorem dX7_lay_157 : decode cX7_lay 157 = .ok (.getfield 37, 3) := by decide +kernel
theorem dX7_lay_160 : decode cX7_lay 160 = .ok (.iload_n 1, 1) := by decide +kernel
theorem dX7_lay_161 : decode cX7_lay 161 = .ok (.iaload, 1) := by decide +kernel
theorem dX7_lay_162 : decode cX7_lay 162 = .ok (.iadd, 1) := by decide +kernel
theorem dX7_lay_163 : decode cX7_lay 163 = .ok (.aload_n 0, 1) := by decide +kernel
theorem dX7_lay_164 : decode cX7_lay 164 = .ok (.getfield 40, 3) := by decide +kernel
theorem dX7_lay_167 : decode cX7_lay 167 = .ok (.iload_n 1, 1) := by decide +kernel
theorem dX7_lay_168 : decode cX7_lay 168 = .ok (.iaload, 1) := by decide +kernel
theorem dX7_lay_169 : decode cX7_lay 169 = .ok (.iconst 1, 1) := by decide +kernel
theorem dX7_lay_170 : decode cX7_lay 170 = .ok (.isub, 1) := by decide +kernel
theorem dX7_lay_171 : decode cX7_lay 171 = .ok (.iastore, 1) := by decide +kernel
theorem dX7_lay_172 : decode cX7_lay 172 = .ok (.aload_n 0, 1) := by decide +kernel
theorem dX7_lay_173 : decode cX7_lay 173 = .ok (.getfield 37, 3) := by decide +kernel
theorem dX7_lay_176 : decode cX7_lay 176 = .ok (.iload_n 1, 1) := by decide +kernel
theorem dX7_lay_177 : decode cX7_lay 177 = .ok (.dup2, 1) := by decide +kernel
theorem dX7_lay_178 : decode cX7_lay 178 = .ok (.iaload, 1) := by decide +kernel
theorem dX7_lay_179 : decode cX7_lay 179 = .ok (.iconst 1, 1) := by decide +kernel
theorem dX7_lay_180 : decode cX7_lay 180 = .ok (.iadd, 1) := by decide +kernel
theorem dX7_lay_181 : decode cX7_lay 181 = .ok (.iastore, 1) := by decide +kernel
theorem dX7_lay_182 : decode cX7_lay 182 = .ok (.aload_n 0, 1) := by decide +kernel
theorem dX7_lay_183 : decode cX7_lay 183 = .ok (.getfield 34, 3) := by decide +kernel
theorem dX7_lay_186 : decode cX7_lay 186 = .ok (.iload 5, 2) := by decide +kernel
theorem dX7_lay_188 : decode cX7_lay 188 = .ok (.iconst 1, 1) := by decide +kernel
theorem dX7_lay_189 : decode cX7_lay 189 = .ok (.isub, 1) := by decide +kernel
theorem dX7_lay_190 : decode cX7_lay 190 = .ok (.aload_n 0, 1) := by decide +kernel
theorem dX7_lay_191 : decode cX7_lay 191 = .ok (.getfield 37, 3) := by decide +kernel
theorem dX7_lay_194 : decode cX7_lay 194 = .ok (.iload_n 1, 1) := by decide +kernel
theorem dX7_lay_195 : decode cX7_lay 195 = .ok (.iaload, 1) := by decide +kernel
theorem dX7_lay_196 : decode cX7_lay 196 = .ok (.iastore, 1) := by decide +kernel
theorem dX7_lay_197 : decode cX7_lay 197 = .ok (.iinc 4 (-1), 3) := by decide +kernel
theorem dX7_lay_200 : decode cX7_lay 200 = .ok (.goto (-143), 3) := by decide +kernel
theorem dX7_lay_203 : decode cX7_lay 203 = .ok (.return_, 1) := by decide +kernel
set_option maxRecDepth 20000 in
theorem ggX7_layPresent_X7_lay : GoodIn wsX7_layPresent wsX7_lay := goodIn_r _ [6, 7, 8, 9, 10, 11, 12, 13, 14, 15, 16, 17, 18, 19, 20, 21, 22, 23, 24, 25, 26, 27, 28, 29, 30, 31, 32, 33, 34, 35, 36, 37, 38] (by decide +kernel) (by decide +kernel)
set_option maxRecDepth 20000 in
theorem gX7_layPresent_X7_lay : GoodIn wsX7_layPresent (wsV RX7 74 RX7 yX7_lay wsX7_lay) := goodIn_app (goodIn_of _ (by decide +kernel)) ggX7_layPresent_X7_lay
theorem dX7_layPresent_0 : decode cX7_layPresent 0 = .ok (.aload_n 0, 1) := by decide +kernel
theorem dX7_layPresent_1 : decode cX7_layPresent 1 = .ok (.iconst 0, 1) := by decide +kernel
theorem dX7_layPresent_2 : decode cX7_layPresent 2 = .ok (.aload_n 0, 1) := by decide +kernel
theorem dX7_layPresent_3 : decode cX7_layPresent 3 = .ok (.getfield 71, 3) := by decide +kernel
theorem dX7_layPresent_6 : decode cX7_layPresent 6 = .ok (.invokevirtual 74, 3) := by decide +kernel
theorem dX7_layPresent_9 : decode cX7_layPresent 9 = .ok (.return_, 1) := by decide +kernel
theorem dX7_letterAt_0 : decode cX7_letterAt 0 = .ok (.aload_n 0, 1) := by decide +kernel
theorem dX7_letterAt_1 : decode cX7_letterAt 1 = .ok (.getfield 25, 3) := by decide +kernel
theorem dX7_letterAt_4 : decode cX7_letterAt 4 = .ok (.iload_n 1, 1) := by decide +kernel
theorem dX7_letterAt_5 : decode cX7_letterAt 5 = .ok (.iaload, 1) := by decide +kernel
theorem dX7_letterAt_6 : decode cX7_letterAt 6 = .ok (.ireturn, 1) := by decide +kernel
theorem dX7_rest_0 : decode cX7_rest 0 = .ok (.aload_n 0, 1) := by decide +kernel
theorem dX7_rest_1 : decode cX7_rest 1 = .ok (.getfield 34, 3) := by decide +kernel
theorem dX7_rest_4 : decode cX7_rest 4 = .ok (.bipush 6, 2) := by decide +kernel
theorem dX7_rest_6 : decode cX7_rest 6 = .ok (.iload_n 1, 1) := by decide +kernel
theorem dX7_rest_7 : decode cX7_rest 7 = .ok (.imul, 1) := by decide +kernel
theorem dX7_rest_8 : decode cX7_rest 8 = .ok (.aload_n 0, 1) := by decide +kernel
theorem dX7_rest_9 : decode cX7_rest 9 = .ok (.getfield 28, 3) := by decide +kernel
theorem dX7_rest_12 : decode cX7_rest 12 = .ok (.bipush 60, 2) := by decide +kernel
theorem dX7_rest_14 : decode cX7_rest 14 = .ok (.iload_n 1, 1) := by decide +kernel
theorem dX7_rest_15 : decode cX7_rest 15 = .ok (.imul, 1) := by decide +kernel
theorem dX7_rest_16 : decode cX7_rest 16 = .ok (.iload_n 2, 1) := by decide +kernel
theorem dX7_rest_17 : decode cX7_rest 17 = .ok (.iadd, 1) := by decide +kernel
theorem dX7_rest_18 : decode cX7_rest 18 = .ok (.iaload, 1) := by decide +kernel
theorem dX7_rest_19 : decode cX7_rest 19 = .ok (.iadd, 1) := by decide +kernel
theorem dX7_rest_20 : decode cX7_rest 20 = .ok (.iaload, 1) := by decide +kernel
theorem dX7_rest_21 : decode cX7_rest 21 = .ok (.iload_n 2, 1) := by decide +kernel
theorem dX7_rest_22 : decode cX7_rest 22 = .ok (.isub, 1) := by decide +kernel
theorem dX7_rest_23 : decode cX7_rest 23 = .ok (.ireturn, 1) := by decide +kernel
set_option maxRecDepth 20000 in
theorem ggX7_alike_X7_rest : GoodIn wsX7_alike wsX7_rest := goodIn_r _ [6, 7, 8, 9, 10, 11, 12, 13, 14, 15, 16, 17, 18, 19, 20, 21, 22, 23, 24, 25, 26, 27, 28, 29, 30, 31] (by decide +kernel) (by decide +kernel)
set_option maxRecDepth 20000 in
theorem gX7_alike_X7_rest : GoodIn wsX7_alike (wsV RX7 78 RX7 yX7_rest wsX7_rest) := goodIn_app (goodIn_of _ (by decide +kernel)) ggX7_alike_X7_rest
theorem dX7_alike_0 : decode cX7_alike 0 = .ok (.aload_n 0, 1) := by decide +kernel
theorem dX7_alike_1 : decode cX7_alike 1 = .ok (.iload_n 1, 1) := by decide +kernel
theorem dX7_alike_2 : decode cX7_alike 2 = .ok (.iload_n 2, 1) := by decide +kernel
theorem dX7_alike_3 : decode cX7_alike 3 = .ok (.invokevirtual 78, 3) := by decide +kernel
theorem dX7_alike_6 : decode cX7_alike 6 = .ok (.aload_n 0, 1) := by decide +kernel
theorem dX7_alike_7 : decode cX7_alike 7 = .ok (.iload_n 3, 1) := by decide +kernel
theorem dX7_alike_8 : decode cX7_alike 8 = .ok (.iload 4, 2) := by decide +kernel
theorem dX7_alike_10 : decode cX7_alike 10 = .ok (.invokevirtual 78, 3) := by decide +kernel
theorem dX7_alike_13 : decode cX7_alike 13 = .ok (.if_icmp .ge 12, 3) := by decide +kernel
theorem dX7_alike_16 : decode cX7_alike 16 = .ok (.aload_n 0, 1) := by decide +kernel
theorem dX7_alike_17 : decode cX7_alike 17 = .ok (.iload_n 1, 1) := by decide +kernel
theorem dX7_alike_18 : decode cX7_alike 18 = .ok (.iload_n 2, 1) := by decide +kernel
theorem dX7_alike_19 : decode cX7_alike 19 = .ok (.invokevirtual 78, 3) := by decide +kernel
theorem dX7_alike_22 : decode cX7_alike 22 = .ok (.goto 10, 3) := by decide +kernel
theorem dX7_alike_25 : decode cX7_alike 25 = .ok (.aload_n 0, 1) := by decide +kernel
theorem dX7_alike_26 : decode cX7_alike 26 = .ok (.iload_n 3, 1) := by decide +kernel
theorem dX7_alike_27 : decode cX7_alike 27 = .ok (.iload 4, 2) := by decide +kernel
theorem dX7_alike_29 : decode cX7_alike 29 = .ok (.invokevirtual 78, 3) := by decide +kernel
theorem dX7_alike_32 : decode cX7_alike 32 = .ok (.istore 5, 2) := by decide +kernel
theorem dX7_alike_34 : decode cX7_alike 34 = .ok (.iconst 0, 1) := by decide +kernel
theorem dX7_alike_35 : decode cX7_alike 35 = .ok (.istore 6, 2) := by decide +kernel
theorem dX7_alike_37 : decode cX7_alike 37 = .ok (.iload 6, 2) := by decide +kernel
theorem dX7_alike_39 : decode cX7_alike 39 = .ok (.iload 5, 2) := by decide +kernel
theorem dX7_alike_41 : decode cX7_alike 41 = .ok (.if_icmp .ge 41, 3) := by decide +kernel
theorem dX7_alike_44 : decode cX7_alike 44 = .ok (.aload_n 0, 1) := by decide +kernel
theorem dX7_alike_45 : decode cX7_alike 45 = .ok (.getfield 25, 3) := by decide +kernel
theorem dX7_alike_48 : decode cX7_alike 48 = .ok (.bipush 60, 2) := by decide +kernel
theorem dX7_alike_50 : decode cX7_alike 50 = .ok (.iload_n 1, 1) := by decide +kernel
theorem dX7_alike_51 : decode cX7_alike 51 = .ok (.imul, 1) := by decide +kernel
theorem dX7_alike_52 : decode cX7_alike 52 = .ok (.iload_n 2, 1) := by decide +kernel
theorem dX7_alike_53 : decode cX7_alike 53 = .ok (.iadd, 1) := by decide +kernel
theorem dX7_alike_54 : decode cX7_alike 54 = .ok (.iload 6, 2) := by decide +kernel
theorem dX7_alike_56 : decode cX7_alike 56 = .ok (.iadd, 1) := by decide +kernel
theorem dX7_alike_57 : decode cX7_alike 57 = .ok (.iaload, 1) := by decide +kernel
theorem dX7_alike_58 : decode cX7_alike 58 = .ok (.aload_n 0, 1) := by decide +kernel
theorem dX7_alike_59 : decode cX7_alike 59 = .ok (.getfield 25, 3) := by decide +kernel
theorem dX7_alike_62 : decode cX7_alike 62 = .ok (.bipush 60, 2) := by decide +kernel
theorem dX7_alike_64 : decode cX7_alike 64 = .ok (.iload_n 3, 1) := by decide +kernel
theorem dX7_alike_65 : decode cX7_alike 65 = .ok (.imul, 1) := by decide +kernel
theorem dX7_alike_66 : decode cX7_alike 66 = .ok (.iload 4, 2) := by decide +kernel
theorem dX7_alike_68 : decode cX7_alike 68 = .ok (.iadd, 1) := by decide +kernel
theorem dX7_alike_69 : decode cX7_alike 69 = .ok (.iload 6, 2) := by decide +kernel
theorem dX7_alike_71 : decode cX7_alike 71 = .ok (.iadd, 1) := by decide +kernel
theorem dX7_alike_72 : decode cX7_alike 72 = .ok (.iaload, 1) := by decide +kernel
theorem dX7_alike_73 : decode cX7_alike 73 = .ok (.if_icmp .ne 9, 3) := by decide +kernel
theorem dX7_alike_76 : decode cX7_alike 76 = .ok (.iinc 6 1, 3) := by decide +kernel
theorem dX7_alike_79 : decode cX7_alike 79 = .ok (.goto (-42), 3) := by decide +kernel
theorem dX7_alike_82 : decode cX7_alike 82 = .ok (.iload 6, 2) := by decide +kernel
theorem dX7_alike_84 : decode cX7_alike 84 = .ok (.ireturn, 1) := by decide +kernel
set_option maxRecDepth 20000 in
theorem ggX7_isBefore_X7_alike : GoodIn wsX7_isBefore wsX7_alike := goodIn_r _ [6, 1, 7, 8, 9, 5, 10, 11, 12, 13, 14, 15, 16, 17, 18, 19, 20, 21, 22, 23, 24, 25, 26, 27, 28, 29, 30, 31, 32, 33, 34, 35] (by decide +kernel) (by decide +kernel)
set_option maxRecDepth 20000 in
theorem gX7_isBefore_X7_alike : GoodIn wsX7_isBefore (wsV RX7 82 RX7 yX7_alike wsX7_alike) := goodIn_app (goodIn_of _ (by decide +kernel)) ggX7_isBefore_X7_alike
set_option maxRecDepth 20000 in
theorem ggX7_isBefore_X7_rest : GoodIn wsX7_isBefore wsX7_rest := goodIn_r _ [10, 11, 12, 13, 14, 15, 16, 17, 18, 19, 20, 21, 22, 23, 24, 25, 26, 27, 28, 29, 30, 31, 32, 33, 34, 35] (by decide +kernel) (by decide +kernel)
set_option maxRecDepth 20000 in
theorem gX7_isBefore_X7_rest : GoodIn wsX7_isBefore (wsV RX7 78 RX7 yX7_rest wsX7_rest) := goodIn_app (goodIn_of _ (by decide +kernel)) ggX7_isBefore_X7_rest
theorem dX7_isBefore_0 : decode cX7_isBefore 0 = .ok (.aload_n 0, 1) := by decide +kernel
theorem dX7_isBefore_1 : decode cX7_isBefore 1 = .ok (.iconst 0, 1) := by decide +kernel
theorem dX7_isBefore_2 : decode cX7_isBefore 2 = .ok (.iload_n 1, 1) := by decide +kernel
theorem dX7_isBefore_3 : decode cX7_isBefore 3 = .ok (.iconst 0, 1) := by decide +kernel
theorem dX7_isBefore_4 : decode cX7_isBefore 4 = .ok (.iload_n 2, 1) := by decide +kernel
theorem dX7_isBefore_5 : decode cX7_isBefore 5 = .ok (.invokevirtual 82, 3) := by decide +kernel
theorem dX7_isBefore_8 : decode cX7_isBefore 8 = .ok (.istore_n 3, 1) := by decide +kernel
theorem dX7_isBefore_9 : decode cX7_isBefore 9 = .ok (.iload_n 3, 1) := by decide +kernel
theorem dX7_isBefore_10 : decode cX7_isBefore 10 = .ok (.aload_n 0, 1) := by decide +kernel
theorem dX7_isBefore_11 : decode cX7_isBefore 11 = .ok (.iconst 0, 1) := by decide +kernel
theorem dX7_isBefore_12 : decode cX7_isBefore 12 = .ok (.iload_n 1, 1) := by decide +kernel
theorem dX7_isBefore_13 : decode cX7_isBefore 13 = .ok (.invokevirtual 78, 3) := by decide +kernel
theorem dX7_isBefore_16 : decode cX7_isBefore 16 = .ok (.if_icmp .ne 24, 3) := by decide +kernel
theorem dX7_isBefore_19 : decode cX7_isBefore 19 = .ok (.iload_n 3, 1) := by decide +kernel
theorem dX7_isBefore_20 : decode cX7_isBefore 20 = .ok (.aload_n 0, 1) := by decide +kernel
theorem dX7_isBefore_21 : decode cX7_isBefore 21 = .ok (.iconst 0, 1) := by decide +kernel
theorem dX7_isBefore_22 : decode cX7_isBefore 22 = .ok (.iload_n 2, 1) := by decide +kernel
theorem dX7_isBefore_23 : decode cX7_isBefore 23 = .ok (.invokevirtual 78, 3) := by decide +kernel
theorem dX7_isBefore_26 : decode cX7_isBefore 26 = .ok (.if_icmp .lt 8, 3) := by decide +kernel
theorem dX7_isBefore_29 : decode cX7_isBefore 29 = .ok (.iload_n 1, 1) := by decide +kernel
theorem dX7_isBefore_30 : decode cX7_isBefore 30 = .ok (.iload_n 2, 1) := by decide +kernel
theorem dX7_isBefore_31 : decode cX7_isBefore 31 = .ok (.if_icmp .ge 7, 3) := by decide +kernel
theorem dX7_isBefore_34 : decode cX7_isBefore 34 = .ok (.iconst 1, 1) := by decide +kernel
theorem dX7_isBefore_35 : decode cX7_isBefore 35 = .ok (.goto 4, 3) := by decide +kernel
theorem dX7_isBefore_38 : decode cX7_isBefore 38 = .ok (.iconst 0, 1) := by decide +kernel
theorem dX7_isBefore_39 : decode cX7_isBefore 39 = .ok (.ireturn, 1) := by decide +kernel
theorem dX7_isBefore_40 : decode cX7_isBefore 40 = .ok (.iload_n 3, 1) := by decide +kernel
theorem dX7_isBefore_41 : decode cX7_isBefore 41 = .ok (.aload_n 0, 1) := by decide +kernel
theorem dX7_isBefore_42 : decode cX7_isBefore 42 = .ok (.iconst 0, 1) := by decide +kernel
theorem dX7_isBefore_43 : decode cX7_isBefore 43 = .ok (.iload_n 2, 1) := by decide +kernel
theorem dX7_isBefore_44 : decode cX7_isBefore 44 = .ok (.invokevirtual 78, 3) := by decide +kernel
theorem dX7_isBefore_47 : decode cX7_isBefore 47 = .ok (.if_icmp .ge 26, 3) := by decide +kernel
theorem dX7_isBefore_50 : decode cX7_isBefore 50 = .ok (.aload_n 0, 1) := by decide +kernel
theorem dX7_isBefore_51 : decode cX7_isBefore 51 = .ok (.getfield 25, 3) := by decide +kernel
theorem dX7_isBefore_54 : decode cX7_isBefore 54 = .ok (.iload_n 1, 1) := by decide +kernel
theorem dX7_isBefore_55 : decode cX7_isBefore 55 = .ok (.iload_n 3, 1) := by decide +kernel
theorem dX7_isBefore_56 : decode cX7_isBefore 56 = .ok (.iadd, 1) := by decide +kernel
theorem dX7_isBefore_57 : decode cX7_isBefore 57 = .ok (.iaload, 1) := by decide +kernel
theorem dX7_isBefore_58 : decode cX7_isBefore 58 = .ok (.aload_n 0, 1) := by decide +kernel
theorem dX7_isBefore_59 : decode cX7_isBefore 59 = .ok (.getfield 25, 3) := by decide +kernel
theorem dX7_isBefore_62 : decode cX7_isBefore 62 = .ok (.iload_n 2, 1) := by decide +kernel
theorem dX7_isBefore_63 : decode cX7_isBefore 63 = .ok (.iload_n 3, 1) := by decide +kernel
theorem dX7_isBefore_64 : decode cX7_isBefore 64 = .ok (.iadd, 1) := by decide +kernel
theorem dX7_isBefore_65 : decode cX7_isBefore 65 = .ok (.iaload, 1) := by decide +kernel
theorem dX7_isBefore_66 : decode cX7_isBefore 66 = .ok (.if_icmp .ge 7, 3) := by decide +kernel
theorem dX7_isBefore_69 : decode cX7_isBefore 69 = .ok (.iconst 1, 1) := by decide +kernel
theorem dX7_isBefore_70 : decode cX7_isBefore 70 = .ok (.goto 4, 3) := by decide +kernel
theorem dX7_isBefore_73 : decode cX7_isBefore 73 = .ok (.iconst 0, 1) := by decide +kernel
theorem dX7_isBefore_74 : decode cX7_isBefore 74 = .ok (.ireturn, 1) := by decide +kernel
set_option maxRecDepth 20000 in
theorem ggX7_sort_X7_isBefore : GoodIn wsX7_sort wsX7_isBefore := goodIn_r _ [8, 9, 10, 11, 12, 7, 13, 14, 15, 16, 17, 18, 19, 20, 21, 22, 23, 24, 25, 26, 27, 28, 29, 30, 31, 32, 33, 34, 35, 36, 37, 38, 39, 40, 41, 42] (by decide +kernel) (by decide +kernel)
set_option maxRecDepth 20000 in
theorem gX7_sort_X7_isBefore : GoodIn wsX7_sort (wsV RX7 86 RX7 yX7_isBefore wsX7_isBefore) := goodIn_app (goodIn_of _ (by decide +kernel)) ggX7_sort_X7_isBefore
set_option maxRecDepth 20000 in
theorem ggX7_sort_X7_alike : GoodIn wsX7_sort wsX7_alike := goodIn_r _ [13, 9, 14, 15, 16, 7, 17, 18, 19, 20, 21, 22, 23, 24, 25, 26, 27, 28, 29, 30, 31, 32, 33, 34, 35, 36, 37, 38, 39, 40, 41, 42] (by decide +kernel) (by decide +kernel)
set_option maxRecDepth 20000 in
theorem gX7_sort_X7_alike : GoodIn wsX7_sort (wsV RX7 82 RX7 yX7_alike wsX7_alike) := goodIn_app (goodIn_of _ (by decide +kernel)) ggX7_sort_X7_alike
theorem dX7_sort_0 : decode cX7_sort 0 = .ok (.iconst 0, 1) := by decide +kernel
theorem dX7_sort_1 : decode cX7_sort 1 = .ok (.istore_n 1, 1) := by decide +kernel
theorem dX7_sort_2 : decode cX7_sort 2 = .ok (.iload_n 1, 1) := by decide +kernel
theorem dX7_sort_3 : decode cX7_sort 3 = .ok (.aload_n 0, 1) := by decide +kernel
theorem dX7_sort_4 : decode cX7_sort 4 = .ok (.getfield 37, 3) := by decide +kernel
theorem dX7_sort_7 : decode cX7_sort 7 = .ok (.iconst 0, 1) := by decide +kernel
theorem dX7_sort_8 : decode cX7_sort 8 = .ok (.iaload, 1) := by decide +kernel
theorem dX7_sort_9 : decode cX7_sort 9 = .ok (.if_icmp .ge 58, 3) := by decide +kernel
theorem dX7_sort_12 : decode cX7_sort 12 = .ok (.iload_n 1, 1) := by decide +kernel
theorem dX7_sort_13 : decode cX7_sort 13 = .ok (.istore_n 2, 1) := by decide +kernel
theorem dX7_sort_14 : decode cX7_sort 14 = .ok (.iload_n 2, 1) := by decide +kernel
theorem dX7_sort_15 : decode cX7_sort 15 = .ok (.ifCond .le 39, 3) := by decide +kernel
theorem dX7_sort_18 : decode cX7_sort 18 = .ok (.aload_n 0, 1) := by decide +kernel
theorem dX7_sort_19 : decode cX7_sort 19 = .ok (.iload_n 1, 1) := by decide +kernel
theorem dX7_sort_20 : decode cX7_sort 20 = .ok (.aload_n 0, 1) := by decide +kernel
theorem dX7_sort_21 : decode cX7_sort 21 = .ok (.getfield 46, 3) := by decide +kernel
theorem dX7_sort_24 : decode cX7_sort 24 = .ok (.iload_n 2, 1) := by decide +kernel
theorem dX7_sort_25 : decode cX7_sort 25 = .ok (.iconst 1, 1) := by decide +kernel
theorem dX7_sort_26 : decode cX7_sort 26 = .ok (.isub, 1) := by decide +kernel
theorem dX7_sort_27 : decode cX7_sort 27 = .ok (.iaload, 1) := by decide +kernel
theorem dX7_sort_28 : decode cX7_sort 28 = .ok (.invokevirtual 86, 3) := by decide +kernel
theorem dX7_sort_31 : decode cX7_sort 31 = .ok (.ifCond .eq 23, 3) := by decide +kernel
theorem dX7_sort_34 : decode cX7_sort 34 = .ok (.aload_n 0, 1) := by decide +kernel
theorem dX7_sort_35 : decode cX7_sort 35 = .ok (.getfield 46, 3) := by decide +kernel
theorem dX7_sort_38 : decode cX7_sort 38 = .ok (.iload_n 2, 1) := by decide +kernel
theorem dX7_sort_39 : decode cX7_sort 39 = .ok (.aload_n 0, 1) := by decide +kernel
theorem dX7_sort_40 : decode cX7_sort 40 = .ok (.getfield 46, 3) := by decide +kernel
theorem dX7_sort_43 : decode cX7_sort 43 = .ok (.iload_n 2, 1) := by decide +kernel
theorem dX7_sort_44 : decode cX7_sort 44 = .ok (.iconst 1, 1) := by decide +kernel
theorem dX7_sort_45 : decode cX7_sort 45 = .ok (.isub, 1) := by decide +kernel
theorem dX7_sort_46 : decode cX7_sort 46 = .ok (.iaload, 1) := by decide +kernel
theorem dX7_sort_47 : decode cX7_sort 47 = .ok (.iastore, 1) := by decide +kernel
theorem dX7_sort_48 : decode cX7_sort 48 = .ok (.iinc 2 (-1), 3) := by decide +kernel
theorem dX7_sort_51 : decode cX7_sort 51 = .ok (.goto (-37), 3) := by decide +kernel
theorem dX7_sort_54 : decode cX7_sort 54 = .ok (.aload_n 0, 1) := by decide +kernel
theorem dX7_sort_55 : decode cX7_sort 55 = .ok (.getfield 46, 3) := by decide +kernel
theorem dX7_sort_58 : decode cX7_sort 58 = .ok (.iload_n 2, 1) := by decide +kernel
theorem dX7_sort_59 : decode cX7_sort 59 = .ok (.iload_n 1, 1) := by decide +kernel
theorem dX7_sort_60 : decode cX7_sort 60 = .ok (.iastore, 1) := by decide +kernel
theorem dX7_sort_61 : decode cX7_sort 61 = .ok (.iinc 1 1, 3) := by decide +kernel
theorem dX7_sort_64 : decode cX7_sort 64 = .ok (.goto (-62), 3) := by decide +kernel
theorem dX7_sort_67 : decode cX7_sort 67 = .ok (.iconst 0, 1) := by decide +kernel
theorem dX7_sort_68 : decode cX7_sort 68 = .ok (.istore_n 1, 1) := by decide +kernel
theorem dX7_sort_69 : decode cX7_sort 69 = .ok (.iload_n 1, 1) := by decide +kernel
theorem dX7_sort_70 : decode cX7_sort 70 = .ok (.aload_n 0, 1) := by decide +kernel
theorem dX7_sort_71 : decode cX7_sort 71 = .ok (.getfield 37, 3) := by decide +kernel
theorem dX7_sort_74 : decode cX7_sort 74 = .ok (.iconst 0, 1) := by decide +kernel
theorem dX7_sort_75 : decode cX7_sort 75 = .ok (.iaload, 1) := by decide +kernel
theorem dX7_sort_76 : decode cX7_sort 76 = .ok (.if_icmp .ge 43, 3) := by decide +kernel
theorem dX7_sort_79 : decode cX7_sort 79 = .ok (.aload_n 0, 1) := by decide +kernel
theorem dX7_sort_80 : decode cX7_sort 80 = .ok (.getfield 49, 3) := by decide +kernel
theorem dX7_sort_83 : decode cX7_sort 83 = .ok (.iload_n 1, 1) := by decide +kernel
theorem dX7_sort_84 : decode cX7_sort 84 = .ok (.iload_n 1, 1) := by decide +kernel
theorem dX7_sort_85 : decode cX7_sort 85 = .ok (.ifCond .ne 7, 3) := by decide +kernel
theorem dX7_sort_88 : decode cX7_sort 88 = .ok (.iconst 0, 1) := by decide +kernel
theorem dX7_sort_89 : decode cX7_sort 89 = .ok (.goto 23, 3) := by decide +kernel
theorem dX7_sort_92 : decode cX7_sort 92 = .ok (.aload_n 0, 1) := by decide +kernel
theorem dX7_sort_93 : decode cX7_sort 93 = .ok (.iconst 0, 1) := by decide +kernel
theorem dX7_sort_94 : decode cX7_sort 94 = .ok (.aload_n 0, 1) := by decide +kernel
theorem dX7_sort_95 : decode cX7_sort 95 = .ok (.getfield 46, 3) := by decide +kernel
theorem dX7_sort_98 : decode cX7_sort 98 = .ok (.iload_n 1, 1) := by decide +kernel
theorem dX7_sort_99 : decode cX7_sort 99 = .ok (.iconst 1, 1) := by decide +kernel
theorem dX7_sort_100 : decode cX7_sort 100 = .ok (.isub, 1) := by decide +kernel
theorem dX7_sort_101 : decode cX7_sort 101 = .ok (.iaload, 1) := by decide +kernel
theorem dX7_sort_102 : decode cX7_sort 102 = .ok (.iconst 0, 1) := by decide +kernel
theorem dX7_sort_103 : decode cX7_sort 103 = .ok (.aload_n 0, 1) := by decide +kernel
theorem dX7_sort_104 : decode cX7_sort 104 = .ok (.getfield 46, 3) := by decide +kernel
theorem dX7_sort_107 : decode cX7_sort 107 = .ok (.iload_n 1, 1) := by decide +kernel
theorem dX7_sort_108 : decode cX7_sort 108 = .ok (.iaload, 1) := by decide +kernel
theorem dX7_sort_109 : decode cX7_sort 109 = .ok (.invokevirtual 82, 3) := by decide +kernel
theorem dX7_sort_112 : decode cX7_sort 112 = .ok (.iastore, 1) := by decide +kernel
theorem dX7_sort_113 : decode cX7_sort 113 = .ok (.iinc 1 1, 3) := by decide +kernel
theorem dX7_sort_116 : decode cX7_sort 116 = .ok (.goto (-47), 3) := by decide +kernel
theorem dX7_sort_119 : decode cX7_sort 119 = .ok (.return_, 1) := by decide +kernel
theorem dX7_endsOf_0 : decode cX7_endsOf 0 = .ok (.iload_n 1, 1) := by decide +kernel
theorem dX7_endsOf_1 : decode cX7_endsOf 1 = .ok (.iconst 1, 1) := by decide +kernel
theorem dX7_endsOf_2 : decode cX7_endsOf 2 = .ok (.iadd, 1) := by decide +kernel
theorem dX7_endsOf_3 : decode cX7_endsOf 3 = .ok (.istore_n 3, 1) := by decide +kernel
theorem dX7_endsOf_4 : decode cX7_endsOf 4 = .ok (.iload_n 3, 1) := by decide +kernel
theorem dX7_endsOf_5 : decode cX7_endsOf 5 = .ok (.aload_n 0, 1) := by decide +kernel
theorem dX7_endsOf_6 : decode cX7_endsOf 6 = .ok (.getfield 37, 3) := by decide +kernel
theorem dX7_endsOf_9 : decode cX7_endsOf 9 = .ok (.iconst 0, 1) := by decide +kernel
theorem dX7_endsOf_10 : decode cX7_endsOf 10 = .ok (.iaload, 1) := by decide +kernel
theorem dX7_endsOf_11 : decode cX7_endsOf 11 = .ok (.if_icmp .ge 19, 3) := by decide +kernel
theorem dX7_endsOf_14 : decode cX7_endsOf 14 = .ok (.aload_n 0, 1) := by decide +kernel
theorem dX7_endsOf_15 : decode cX7_endsOf 15 = .ok (.getfield 49, 3) := by decide +kernel
theorem dX7_endsOf_18 : decode cX7_endsOf 18 = .ok (.iload_n 3, 1) := by decide +kernel
theorem dX7_endsOf_19 : decode cX7_endsOf 19 = .ok (.iaload, 1) := by decide +kernel
theorem dX7_endsOf_20 : decode cX7_endsOf 20 = .ok (.iload_n 2, 1) := by decide +kernel
theorem dX7_endsOf_21 : decode cX7_endsOf 21 = .ok (.if_icmp .lt 9, 3) := by decide +kernel
theorem dX7_endsOf_24 : decode cX7_endsOf 24 = .ok (.iinc 3 1, 3) := by decide +kernel
theorem dX7_endsOf_27 : decode cX7_endsOf 27 = .ok (.goto (-23), 3) := by decide +kernel
theorem dX7_endsOf_30 : decode cX7_endsOf 30 = .ok (.iload_n 3, 1) := by decide +kernel
theorem dX7_endsOf_31 : decode cX7_endsOf 31 = .ok (.iload_n 1, 1) := by decide +kernel
theorem dX7_endsOf_32 : decode cX7_endsOf 32 = .ok (.isub, 1) := by decide +kernel
theorem dX7_endsOf_33 : decode cX7_endsOf 33 = .ok (.ireturn, 1) := by decide +kernel
set_option maxRecDepth 20000 in
theorem ggX7_wordsOf_X7_endsOf : GoodIn wsX7_wordsOf wsX7_endsOf := goodIn_r _ [7, 8, 9, 10, 11, 12, 13, 14, 15, 16, 17, 18, 19, 20, 21, 22, 23, 24, 25, 26, 27, 28, 29, 30, 31, 32] (by decide +kernel) (by decide +kernel)
set_option maxRecDepth 20000 in
theorem gX7_wordsOf_X7_endsOf : GoodIn wsX7_wordsOf (wsV RX7 90 RX7 yX7_endsOf wsX7_endsOf) := goodIn_app (goodIn_of _ (by decide +kernel)) ggX7_wordsOf_X7_endsOf
theorem dX7_wordsOf_0 : decode cX7_wordsOf 0 = .ok (.iconst 0, 1) := by decide +kernel
theorem dX7_wordsOf_1 : decode cX7_wordsOf 1 = .ok (.istore_n 3, 1) := by decide +kernel
theorem dX7_wordsOf_2 : decode cX7_wordsOf 2 = .ok (.iload_n 1, 1) := by decide +kernel
theorem dX7_wordsOf_3 : decode cX7_wordsOf 3 = .ok (.istore 4, 2) := by decide +kernel
theorem dX7_wordsOf_5 : decode cX7_wordsOf 5 = .ok (.iload 4, 2) := by decide +kernel
theorem dX7_wordsOf_7 : decode cX7_wordsOf 7 = .ok (.iload_n 1, 1) := by decide +kernel
theorem dX7_wordsOf_8 : decode cX7_wordsOf 8 = .ok (.aload_n 0, 1) := by decide +kernel
theorem dX7_wordsOf_9 : decode cX7_wordsOf 9 = .ok (.iload_n 1, 1) := by decide +kernel
theorem dX7_wordsOf_10 : decode cX7_wordsOf 10 = .ok (.iload_n 2, 1) := by decide +kernel
theorem dX7_wordsOf_11 : decode cX7_wordsOf 11 = .ok (.invokevirtual 90, 3) := by decide +kernel
theorem dX7_wordsOf_14 : decode cX7_wordsOf 14 = .ok (.iadd, 1) := by decide +kernel
theorem dX7_wordsOf_15 : decode cX7_wordsOf 15 = .ok (.if_icmp .ge 26, 3) := by decide +kernel
theorem dX7_wordsOf_18 : decode cX7_wordsOf 18 = .ok (.iload_n 3, 1) := by decide +kernel
theorem dX7_wordsOf_19 : decode cX7_wordsOf 19 = .ok (.iconst 1, 1) := by decide +kernel
theorem dX7_wordsOf_20 : decode cX7_wordsOf 20 = .ok (.aload_n 0, 1) := by decide +kernel
theorem dX7_wordsOf_21 : decode cX7_wordsOf 21 = .ok (.getfield 28, 3) := by decide +kernel
theorem dX7_wordsOf_24 : decode cX7_wordsOf 24 = .ok (.aload_n 0, 1) := by decide +kernel
theorem dX7_wordsOf_25 : decode cX7_wordsOf 25 = .ok (.getfield 46, 3) := by decide +kernel
theorem dX7_wordsOf_28 : decode cX7_wordsOf 28 = .ok (.iload 4, 2) := by decide +kernel
theorem dX7_wordsOf_30 : decode cX7_wordsOf 30 = .ok (.iaload, 1) := by decide +kernel
theorem dX7_wordsOf_31 : decode cX7_wordsOf 31 = .ok (.iaload, 1) := by decide +kernel
theorem dX7_wordsOf_32 : decode cX7_wordsOf 32 = .ok (.ishl, 1) := by decide +kernel
theorem dX7_wordsOf_33 : decode cX7_wordsOf 33 = .ok (.ior, 1) := by decide +kernel
theorem dX7_wordsOf_34 : decode cX7_wordsOf 34 = .ok (.istore_n 3, 1) := by decide +kernel
theorem dX7_wordsOf_35 : decode cX7_wordsOf 35 = .ok (.iinc 4 1, 3) := by decide +kernel
theorem dX7_wordsOf_38 : decode cX7_wordsOf 38 = .ok (.goto (-33), 3) := by decide +kernel
theorem dX7_wordsOf_41 : decode cX7_wordsOf 41 = .ok (.iload_n 3, 1) := by decide +kernel
theorem dX7_wordsOf_42 : decode cX7_wordsOf 42 = .ok (.ireturn, 1) := by decide +kernel
set_option maxRecDepth 20000 in
theorem ggX7_distinct_X7_rest : GoodIn wsX7_distinct wsX7_rest := goodIn_r _ [8, 9, 10, 11, 12, 13, 14, 15, 16, 17, 18, 19, 20, 21, 22, 23, 24, 25, 26, 27, 28, 29, 30, 31, 32, 33] (by decide +kernel) (by decide +kernel)
set_option maxRecDepth 20000 in
theorem gX7_distinct_X7_rest : GoodIn wsX7_distinct (wsV RX7 78 RX7 yX7_rest wsX7_rest) := goodIn_app (goodIn_of _ (by decide +kernel)) ggX7_distinct_X7_rest
theorem dX7_distinct_0 : decode cX7_distinct 0 = .ok (.iconst 0, 1) := by decide +kernel
theorem dX7_distinct_1 : decode cX7_distinct 1 = .ok (.istore_n 1, 1) := by decide +kernel
theorem dX7_distinct_2 : decode cX7_distinct 2 = .ok (.iconst 0, 1) := by decide +kernel
theorem dX7_distinct_3 : decode cX7_distinct 3 = .ok (.istore_n 2, 1) := by decide +kernel
theorem dX7_distinct_4 : decode cX7_distinct 4 = .ok (.iload_n 2, 1) := by decide +kernel
theorem dX7_distinct_5 : decode cX7_distinct 5 = .ok (.aload_n 0, 1) := by decide +kernel
theorem dX7_distinct_6 : decode cX7_distinct 6 = .ok (.getfield 37, 3) := by decide +kernel
theorem dX7_distinct_9 : decode cX7_distinct 9 = .ok (.iconst 0, 1) := by decide +kernel
theorem dX7_distinct_10 : decode cX7_distinct 10 = .ok (.iaload, 1) := by decide +kernel
theorem dX7_distinct_11 : decode cX7_distinct 11 = .ok (.if_icmp .ge 30, 3) := by decide +kernel
theorem dX7_distinct_14 : decode cX7_distinct 14 = .ok (.iload_n 1, 1) := by decide +kernel
theorem dX7_distinct_15 : decode cX7_distinct 15 = .ok (.aload_n 0, 1) := by decide +kernel
theorem dX7_distinct_16 : decode cX7_distinct 16 = .ok (.iconst 0, 1) := by decide +kernel
theorem dX7_distinct_17 : decode cX7_distinct 17 = .ok (.aload_n 0, 1) := by decide +kernel
theorem dX7_distinct_18 : decode cX7_distinct 18 = .ok (.getfield 46, 3) := by decide +kernel
theorem dX7_distinct_21 : decode cX7_distinct 21 = .ok (.iload_n 2, 1) := by decide +kernel
theorem dX7_distinct_22 : decode cX7_distinct 22 = .ok (.iaload, 1) := by decide +kernel
theorem dX7_distinct_23 : decode cX7_distinct 23 = .ok (.invokevirtual 78, 3) := by decide +kernel
theorem dX7_distinct_26 : decode cX7_distinct 26 = .ok (.aload_n 0, 1) := by decide +kernel
theorem dX7_distinct_27 : decode cX7_distinct 27 = .ok (.getfield 49, 3) := by decide +kernel
theorem dX7_distinct_30 : decode cX7_distinct 30 = .ok (.iload_n 2, 1) := by decide +kernel
theorem dX7_distinct_31 : decode cX7_distinct 31 = .ok (.iaload, 1) := by decide +kernel
theorem dX7_distinct_32 : decode cX7_distinct 32 = .ok (.isub, 1) := by decide +kernel
theorem dX7_distinct_33 : decode cX7_distinct 33 = .ok (.iadd, 1) := by decide +kernel
theorem dX7_distinct_34 : decode cX7_distinct 34 = .ok (.istore_n 1, 1) := by decide +kernel
theorem dX7_distinct_35 : decode cX7_distinct 35 = .ok (.iinc 2 1, 3) := by decide +kernel
theorem dX7_distinct_38 : decode cX7_distinct 38 = .ok (.goto (-34), 3) := by decide +kernel
theorem dX7_distinct_41 : decode cX7_distinct 41 = .ok (.iload_n 1, 1) := by decide +kernel
theorem dX7_distinct_42 : decode cX7_distinct 42 = .ok (.ireturn, 1) := by decide +kernel
theorem dX7_make_0 : decode cX7_make 0 = .ok (.aload_n 0, 1) := by decide +kernel
theorem dX7_make_1 : decode cX7_make 1 = .ok (.getfield 67, 3) := by decide +kernel
theorem dX7_make_4 : decode cX7_make 4 = .ok (.istore_n 2, 1) := by decide +kernel
theorem dX7_make_5 : decode cX7_make 5 = .ok (.aload_n 0, 1) := by decide +kernel
theorem dX7_make_6 : decode cX7_make 6 = .ok (.getfield 7, 3) := by decide +kernel
theorem dX7_make_9 : decode cX7_make 9 = .ok (.iload_n 2, 1) := by decide +kernel
theorem dX7_make_10 : decode cX7_make 10 = .ok (.aload_n 0, 1) := by decide +kernel
theorem dX7_make_11 : decode cX7_make 11 = .ok (.getfield 71, 3) := by decide +kernel
theorem dX7_make_14 : decode cX7_make 14 = .ok (.iastore, 1) := by decide +kernel
theorem dX7_make_15 : decode cX7_make 15 = .ok (.aload_n 0, 1) := by decide +kernel
theorem dX7_make_16 : decode cX7_make 16 = .ok (.getfield 13, 3) := by decide +kernel
theorem dX7_make_19 : decode cX7_make 19 = .ok (.iload_n 2, 1) := by decide +kernel
theorem dX7_make_20 : decode cX7_make 20 = .ok (.iload_n 1, 1) := by decide +kernel
theorem dX7_make_21 : decode cX7_make 21 = .ok (.iastore, 1) := by decide +kernel
theorem dX7_make_22 : decode cX7_make 22 = .ok (.aload_n 0, 1) := by decide +kernel
theorem dX7_make_23 : decode cX7_make 23 = .ok (.getfield 16, 3) := by decide +kernel
theorem dX7_make_26 : decode cX7_make 26 = .ok (.iload_n 2, 1) := by decide +kernel
theorem dX7_make_27 : decode cX7_make 27 = .ok (.aload_n 0, 1) := by decide +kernel
theorem dX7_make_28 : decode cX7_make 28 = .ok (.getfield 16, 3) := by decide +kernel
theorem dX7_make_31 : decode cX7_make 31 = .ok (.aload_n 0, 1) := by decide +kernel
theorem dX7_make_32 : decode cX7_make 32 = .ok (.getfield 71, 3) := by decide +kernel
theorem dX7_make_35 : decode cX7_make 35 = .ok (.iaload, 1) := by decide +kernel
theorem dX7_make_36 : decode cX7_make 36 = .ok (.iload_n 1, 1) := by decide +kernel
theorem dX7_make_37 : decode cX7_make 37 = .ok (.iconst (-1), 1) := by decide +kernel
theorem dX7_make_38 : decode cX7_make 38 = .ok (.if_icmp .ne 7, 3) := by decide +kernel
theorem dX7_make_41 : decode cX7_make 41 = .ok (.iconst 1, 1) := by decide +kernel
theorem dX7_make_42 : decode cX7_make 42 = .ok (.goto 4, 3) := by decide +kernel
theorem dX7_make_45 : decode cX7_make 45 = .ok (.iconst 0, 1) := by decide +kernel
theorem dX7_make_46 : decode cX7_make 46 = .ok (.iadd, 1) := by decide +kernel
theorem dX7_make_47 : decode cX7_make 47 = .ok (.iastore, 1) := by decide +kernel
theorem dX7_make_48 : decode cX7_make 48 = .ok (.aload_n 0, 1) := by decide +kernel
theorem dX7_make_49 : decode cX7_make 49 = .ok (.getfield 19, 3) := by decide +kernel
theorem dX7_make_52 : decode cX7_make 52 = .ok (.iload_n 2, 1) := by decide +kernel
theorem dX7_make_53 : decode cX7_make 53 = .ok (.aload_n 0, 1) := by decide +kernel
theorem dX7_make_54 : decode cX7_make 54 = .ok (.getfield 19, 3) := by decide +kernel
theorem dX7_make_57 : decode cX7_make 57 = .ok (.aload_n 0, 1) := by decide +kernel
theorem dX7_make_58 : decode cX7_make 58 = .ok (.getfield 71, 3) := by decide +kernel
theorem dX7_make_61 : decode cX7_make 61 = .ok (.iaload, 1) := by decide +kernel
theorem dX7_make_62 : decode cX7_make 62 = .ok (.iload_n 1, 1) := by decide +kernel
theorem dX7_make_63 : decode cX7_make 63 = .ok (.iconst (-1), 1) := by decide +kernel
theorem dX7_make_64 : decode cX7_make 64 = .ok (.if_icmp .ne 7, 3) := by decide +kernel
theorem dX7_make_67 : decode cX7_make 67 = .ok (.iconst 0, 1) := by decide +kernel
theorem dX7_make_68 : decode cX7_make 68 = .ok (.goto 4, 3) := by decide +kernel
theorem dX7_make_71 : decode cX7_make 71 = .ok (.iconst 1, 1) := by decide +kernel
theorem dX7_make_72 : decode cX7_make 72 = .ok (.iadd, 1) := by decide +kernel
theorem dX7_make_73 : decode cX7_make 73 = .ok (.iastore, 1) := by decide +kernel
theorem dX7_make_74 : decode cX7_make 74 = .ok (.aload_n 0, 1) := by decide +kernel
theorem dX7_make_75 : decode cX7_make 75 = .ok (.dup, 1) := by decide +kernel
theorem dX7_make_76 : decode cX7_make 76 = .ok (.getfield 67, 3) := by decide +kernel
theorem dX7_make_79 : decode cX7_make 79 = .ok (.iconst 1, 1) := by decide +kernel
theorem dX7_make_80 : decode cX7_make 80 = .ok (.iadd, 1) := by decide +kernel
theorem dX7_make_81 : decode cX7_make 81 = .ok (.putfield 67, 3) := by decide +kernel
theorem dX7_make_84 : decode cX7_make 84 = .ok (.aload_n 0, 1) := by decide +kernel
theorem dX7_make_85 : decode cX7_make 85 = .ok (.iload_n 2, 1) := by decide +kernel
theorem dX7_make_86 : decode cX7_make 86 = .ok (.putfield 71, 3) := by decide +kernel
theorem dX7_make_89 : decode cX7_make 89 = .ok (.iload_n 2, 1) := by decide +kernel
theorem dX7_make_90 : decode cX7_make 90 = .ok (.ireturn, 1) := by decide +kernel
set_option maxRecDepth 20000 in
theorem ggX7_begin_X7_make : GoodIn wsX7_begin wsX7_make := goodIn_r _ [8, 3, 9, 2, 10, 1, 11, 12, 13, 14, 15, 16, 17, 18, 19, 20, 21, 22, 23, 24, 25, 26, 27, 28, 29, 30, 31, 32, 33, 34] (by decide +kernel) (by decide +kernel)
set_option maxRecDepth 20000 in
theorem gX7_begin_X7_make : GoodIn wsX7_begin (wsV RX7 93 RX7 yX7_make wsX7_make) := goodIn_app (goodIn_of _ (by decide +kernel)) ggX7_begin_X7_make
theorem dX7_begin_0 : decode cX7_begin 0 = .ok (.aload_n 0, 1) := by decide +kernel
theorem dX7_begin_1 : decode cX7_begin 1 = .ok (.getfield 16, 3) := by decide +kernel
theorem dX7_begin_4 : decode cX7_begin 4 = .ok (.aload_n 0, 1) := by decide +kernel
theorem dX7_begin_5 : decode cX7_begin 5 = .ok (.getfield 71, 3) := by decide +kernel
theorem dX7_begin_8 : decode cX7_begin 8 = .ok (.iaload, 1) := by decide +kernel
theorem dX7_begin_9 : decode cX7_begin 9 = .ok (.bipush 6, 2) := by decide +kernel
theorem dX7_begin_11 : decode cX7_begin 11 = .ok (.if_icmp .eq 13, 3) := by decide +kernel
theorem dX7_begin_14 : decode cX7_begin 14 = .ok (.aload_n 0, 1) := by decide +kernel
theorem dX7_begin_15 : decode cX7_begin 15 = .ok (.getfield 67, 3) := by decide +kernel
theorem dX7_begin_18 : decode cX7_begin 18 = .ok (.sipush 400, 3) := by decide +kernel
theorem dX7_begin_21 : decode cX7_begin 21 = .ok (.if_icmp .ne 8, 3) := by decide +kernel
theorem dX7_begin_24 : decode cX7_begin 24 = .ok (.bipush (-4), 2) := by decide +kernel
theorem dX7_begin_26 : decode cX7_begin 26 = .ok (.goto 8, 3) := by decide +kernel
theorem dX7_begin_29 : decode cX7_begin 29 = .ok (.aload_n 0, 1) := by decide +kernel
theorem dX7_begin_30 : decode cX7_begin 30 = .ok (.iconst (-1), 1) := by decide +kernel
theorem dX7_begin_31 : decode cX7_begin 31 = .ok (.invokevirtual 93, 3) := by decide +kernel
theorem dX7_begin_34 : decode cX7_begin 34 = .ok (.ireturn, 1) := by decide +kernel
set_option maxRecDepth 20000 in
theorem ggX7_append_X7_in : GoodIn wsX7_append wsX7_in := goodIn_r _ [8] (by decide +kernel) (by decide +kernel)
set_option maxRecDepth 20000 in
theorem gX7_append_X7_in : GoodIn wsX7_append (va_wsS RX7 97 yX7_in wsX7_in) := goodIn_app (goodIn_of _ (by decide +kernel)) ggX7_append_X7_in
set_option maxRecDepth 20000 in
theorem ggX7_append_X7_make : GoodIn wsX7_append wsX7_make := goodIn_r _ [12, 4, 13, 2, 14, 1, 3, 15, 16, 17, 18, 19, 20, 21, 22, 23, 24, 25, 26, 27, 28, 29, 30, 31, 32, 33, 34, 35, 36, 37] (by decide +kernel) (by decide +kernel)
set_option maxRecDepth 20000 in
theorem gX7_append_X7_make : GoodIn wsX7_append (wsV RX7 93 RX7 yX7_make wsX7_make) := goodIn_app (goodIn_of _ (by decide +kernel)) ggX7_append_X7_make
theorem dX7_append_0 : decode cX7_append 0 = .ok (.iload_n 1, 1) := by decide +kernel
theorem dX7_append_1 : decode cX7_append 1 = .ok (.iconst 0, 1) := by decide +kernel
theorem dX7_append_2 : decode cX7_append 2 = .ok (.bipush 7, 2) := by decide +kernel
theorem dX7_append_4 : decode cX7_append 4 = .ok (.invokestatic 97, 3) := by decide +kernel
theorem dX7_append_7 : decode cX7_append 7 = .ok (.ifCond .ne 6, 3) := by decide +kernel
theorem dX7_append_10 : decode cX7_append 10 = .ok (.bipush (-2), 2) := by decide +kernel
theorem dX7_append_12 : decode cX7_append 12 = .ok (.ireturn, 1) := by decide +kernel
theorem dX7_append_13 : decode cX7_append 13 = .ok (.aload_n 0, 1) := by decide +kernel
theorem dX7_append_14 : decode cX7_append 14 = .ok (.getfield 16, 3) := by decide +kernel
theorem dX7_append_17 : decode cX7_append 17 = .ok (.aload_n 0, 1) := by decide +kernel
theorem dX7_append_18 : decode cX7_append 18 = .ok (.getfield 71, 3) := by decide +kernel
theorem dX7_append_21 : decode cX7_append 21 = .ok (.iaload, 1) := by decide +kernel
theorem dX7_append_22 : decode cX7_append 22 = .ok (.ifCond .ne 6, 3) := by decide +kernel
theorem dX7_append_25 : decode cX7_append 25 = .ok (.bipush (-5), 2) := by decide +kernel
theorem dX7_append_27 : decode cX7_append 27 = .ok (.ireturn, 1) := by decide +kernel
theorem dX7_append_28 : decode cX7_append 28 = .ok (.aload_n 0, 1) := by decide +kernel
theorem dX7_append_29 : decode cX7_append 29 = .ok (.getfield 19, 3) := by decide +kernel
theorem dX7_append_32 : decode cX7_append 32 = .ok (.aload_n 0, 1) := by decide +kernel
theorem dX7_append_33 : decode cX7_append 33 = .ok (.getfield 71, 3) := by decide +kernel
theorem dX7_append_36 : decode cX7_append 36 = .ok (.iaload, 1) := by decide +kernel
theorem dX7_append_37 : decode cX7_append 37 = .ok (.bipush 60, 2) := by decide +kernel
theorem dX7_append_39 : decode cX7_append 39 = .ok (.if_icmp .eq 13, 3) := by decide +kernel
theorem dX7_append_42 : decode cX7_append 42 = .ok (.aload_n 0, 1) := by decide +kernel
theorem dX7_append_43 : decode cX7_append 43 = .ok (.getfield 67, 3) := by decide +kernel
theorem dX7_append_46 : decode cX7_append 46 = .ok (.sipush 400, 3) := by decide +kernel
theorem dX7_append_49 : decode cX7_append 49 = .ok (.if_icmp .ne 8, 3) := by decide +kernel
theorem dX7_append_52 : decode cX7_append 52 = .ok (.bipush (-4), 2) := by decide +kernel
theorem dX7_append_54 : decode cX7_append 54 = .ok (.goto 8, 3) := by decide +kernel
theorem dX7_append_57 : decode cX7_append 57 = .ok (.aload_n 0, 1) := by decide +kernel
theorem dX7_append_58 : decode cX7_append 58 = .ok (.iload_n 1, 1) := by decide +kernel
theorem dX7_append_59 : decode cX7_append 59 = .ok (.invokevirtual 93, 3) := by decide +kernel
theorem dX7_append_62 : decode cX7_append 62 = .ok (.ireturn, 1) := by decide +kernel
set_option maxRecDepth 20000 in
theorem ggX7_isLetter_X7_in : GoodIn wsX7_isLetter wsX7_in := goodIn_r _ [4] (by decide +kernel) (by decide +kernel)
set_option maxRecDepth 20000 in
theorem gX7_isLetter_X7_in : GoodIn wsX7_isLetter (va_wsS RX7 97 yX7_in wsX7_in) := goodIn_app (goodIn_of _ (by decide +kernel)) ggX7_isLetter_X7_in
theorem dX7_isLetter_0 : decode cX7_isLetter 0 = .ok (.iload_n 1, 1) := by decide +kernel
theorem dX7_isLetter_1 : decode cX7_isLetter 1 = .ok (.bipush 97, 2) := by decide +kernel
theorem dX7_isLetter_3 : decode cX7_isLetter 3 = .ok (.bipush 104, 2) := by decide +kernel
theorem dX7_isLetter_5 : decode cX7_isLetter 5 = .ok (.invokestatic 97, 3) := by decide +kernel
theorem dX7_isLetter_8 : decode cX7_isLetter 8 = .ok (.ireturn, 1) := by decide +kernel
set_option maxRecDepth 20000 in
theorem ggX7_load_X7_faultOf : GoodIn wsX7_load wsX7_faultOf := goodIn_r _ [11, 1, 2, 12, 13, 14, 10, 15, 16, 17, 18, 25, 26, 27, 28, 29, 30, 31, 32, 33, 34, 35, 36, 37, 38, 39, 40, 41, 42, 43, 44, 45, 46, 47] (by decide +kernel) (by decide +kernel)
set_option maxRecDepth 20000 in
theorem gX7_load_X7_faultOf : GoodIn wsX7_load (wsV RX7 101 RX7 yX7_faultOf wsX7_faultOf) := goodIn_app (goodIn_of _ (by decide +kernel)) ggX7_load_X7_faultOf
set_option maxRecDepth 20000 in
theorem ggX7_load_X7_make : GoodIn wsX7_load wsX7_make := goodIn_r _ [22, 6, 23, 4, 24, 3, 5, 25, 26, 27, 28, 29, 30, 31, 32, 33, 34, 35, 36, 37, 38, 39, 40, 41, 42, 43, 44, 45, 46, 47] (by decide +kernel) (by decide +kernel)
set_option maxRecDepth 20000 in
theorem gX7_load_X7_make : GoodIn wsX7_load (wsV RX7 93 RX7 yX7_make wsX7_make) := goodIn_app (goodIn_of _ (by decide +kernel)) ggX7_load_X7_make
theorem dX7_load_0 : decode cX7_load 0 = .ok (.aload_n 0, 1) := by decide +kernel
theorem dX7_load_1 : decode cX7_load 1 = .ok (.iconst 1, 1) := by decide +kernel
theorem dX7_load_2 : decode cX7_load 2 = .ok (.invokevirtual 101, 3) := by decide +kernel
theorem dX7_load_5 : decode cX7_load 5 = .ok (.bipush (-6), 2) := by decide +kernel
theorem dX7_load_7 : decode cX7_load 7 = .ok (.if_icmp .eq 6, 3) := by decide +kernel
theorem dX7_load_10 : decode cX7_load 10 = .ok (.bipush (-3), 2) := by decide +kernel
theorem dX7_load_12 : decode cX7_load 12 = .ok (.ireturn, 1) := by decide +kernel
theorem dX7_load_13 : decode cX7_load 13 = .ok (.aload_n 0, 1) := by decide +kernel
theorem dX7_load_14 : decode cX7_load 14 = .ok (.getfield 104, 3) := by decide +kernel
theorem dX7_load_17 : decode cX7_load 17 = .ok (.ifCond .le 29, 3) := by decide +kernel
theorem dX7_load_20 : decode cX7_load 20 = .ok (.aload_n 0, 1) := by decide +kernel
theorem dX7_load_21 : decode cX7_load 21 = .ok (.getfield 22, 3) := by decide +kernel
theorem dX7_load_24 : decode cX7_load 24 = .ok (.iconst 0, 1) := by decide +kernel
theorem dX7_load_25 : decode cX7_load 25 = .ok (.iaload, 1) := by decide +kernel
theorem dX7_load_26 : decode cX7_load 26 = .ok (.bipush 47, 2) := by decide +kernel
theorem dX7_load_28 : decode cX7_load 28 = .ok (.if_icmp .eq 18, 3) := by decide +kernel
theorem dX7_load_31 : decode cX7_load 31 = .ok (.aload_n 0, 1) := by decide +kernel
theorem dX7_load_32 : decode cX7_load 32 = .ok (.getfield 16, 3) := by decide +kernel
theorem dX7_load_35 : decode cX7_load 35 = .ok (.aload_n 0, 1) := by decide +kernel
theorem dX7_load_36 : decode cX7_load 36 = .ok (.getfield 71, 3) := by decide +kernel
theorem dX7_load_39 : decode cX7_load 39 = .ok (.iaload, 1) := by decide +kernel
theorem dX7_load_40 : decode cX7_load 40 = .ok (.ifCond .ne 6, 3) := by decide +kernel
theorem dX7_load_43 : decode cX7_load 43 = .ok (.bipush (-5), 2) := by decide +kernel
theorem dX7_load_45 : decode cX7_load 45 = .ok (.ireturn, 1) := by decide +kernel
theorem dX7_load_46 : decode cX7_load 46 = .ok (.iconst 0, 1) := by decide +kernel
theorem dX7_load_47 : decode cX7_load 47 = .ok (.istore_n 1, 1) := by decide +kernel
theorem dX7_load_48 : decode cX7_load 48 = .ok (.iconst 0, 1) := by decide +kernel
theorem dX7_load_49 : decode cX7_load 49 = .ok (.istore_n 2, 1) := by decide +kernel
theorem dX7_load_50 : decode cX7_load 50 = .ok (.iload_n 2, 1) := by decide +kernel
theorem dX7_load_51 : decode cX7_load 51 = .ok (.aload_n 0, 1) := by decide +kernel
theorem dX7_load_52 : decode cX7_load 52 = .ok (.getfield 104, 3) := by decide +kernel
theorem dX7_load_55 : decode cX7_load 55 = .ok (.if_icmp .ge 28, 3) := by decide +kernel
theorem dX7_load_58 : decode cX7_load 58 = .ok (.iload_n 1, 1) := by decide +kernel
theorem dX7_load_59 : decode cX7_load 59 = .ok (.aload_n 0, 1) := by decide +kernel
theorem dX7_load_60 : decode cX7_load 60 = .ok (.getfield 22, 3) := by decide +kernel
theorem dX7_load_63 : decode cX7_load 63 = .ok (.iload_n 2, 1) := by decide +kernel
theorem dX7_load_64 : decode cX7_load 64 = .ok (.iaload, 1) := by decide +kernel
theorem dX7_load_65 : decode cX7_load 65 = .ok (.bipush 47, 2) := by decide +kernel
theorem dX7_load_67 : decode cX7_load 67 = .ok (.if_icmp .ne 7, 3) := by decide +kernel
theorem dX7_load_70 : decode cX7_load 70 = .ok (.iconst 1, 1) := by decide +kernel
theorem dX7_load_71 : decode cX7_load 71 = .ok (.goto 4, 3) := by decide +kernel
theorem dX7_load_74 : decode cX7_load 74 = .ok (.iconst 0, 1) := by decide +kernel
theorem dX7_load_75 : decode cX7_load 75 = .ok (.iadd, 1) := by decide +kernel
theorem dX7_load_76 : decode cX7_load 76 = .ok (.istore_n 1, 1) := by decide +kernel
theorem dX7_load_77 : decode cX7_load 77 = .ok (.iinc 2 1, 3) := by decide +kernel
theorem dX7_load_80 : decode cX7_load 80 = .ok (.goto (-30), 3) := by decide +kernel
theorem dX7_load_83 : decode cX7_load 83 = .ok (.aload_n 0, 1) := by decide +kernel
theorem dX7_load_84 : decode cX7_load 84 = .ok (.getfield 16, 3) := by decide +kernel
theorem dX7_load_87 : decode cX7_load 87 = .ok (.aload_n 0, 1) := by decide +kernel
theorem dX7_load_88 : decode cX7_load 88 = .ok (.getfield 71, 3) := by decide +kernel
theorem dX7_load_91 : decode cX7_load 91 = .ok (.iaload, 1) := by decide +kernel
theorem dX7_load_92 : decode cX7_load 92 = .ok (.iload_n 1, 1) := by decide +kernel
theorem dX7_load_93 : decode cX7_load 93 = .ok (.iadd, 1) := by decide +kernel
theorem dX7_load_94 : decode cX7_load 94 = .ok (.bipush 6, 2) := by decide +kernel
theorem dX7_load_96 : decode cX7_load 96 = .ok (.if_icmp .gt 39, 3) := by decide +kernel
theorem dX7_load_99 : decode cX7_load 99 = .ok (.aload_n 0, 1) := by decide +kernel
theorem dX7_load_100 : decode cX7_load 100 = .ok (.getfield 19, 3) := by decide +kernel
theorem dX7_load_103 : decode cX7_load 103 = .ok (.aload_n 0, 1) := by decide +kernel
theorem dX7_load_104 : decode cX7_load 104 = .ok (.getfield 71, 3) := by decide +kernel
theorem dX7_load_107 : decode cX7_load 107 = .ok (.iaload, 1) := by decide +kernel
theorem dX7_load_108 : decode cX7_load 108 = .ok (.aload_n 0, 1) := by decide +kernel
theorem dX7_load_109 : decode cX7_load 109 = .ok (.getfield 104, 3) := by decide +kernel
theorem dX7_load_112 : decode cX7_load 112 = .ok (.iadd, 1) := by decide +kernel
theorem dX7_load_113 : decode cX7_load 113 = .ok (.iload_n 1, 1) := by decide +kernel
theorem dX7_load_114 : decode cX7_load 114 = .ok (.isub, 1) := by decide +kernel
theorem dX7_load_115 : decode cX7_load 115 = .ok (.bipush 60, 2) := by decide +kernel
theorem dX7_load_117 : decode cX7_load 117 = .ok (.if_icmp .gt 18, 3) := by decide +kernel
theorem dX7_load_120 : decode cX7_load 120 = .ok (.aload_n 0, 1) := by decide +kernel
theorem dX7_load_121 : decode cX7_load 121 = .ok (.getfield 67, 3) := by decide +kernel
theorem dX7_load_124 : decode cX7_load 124 = .ok (.aload_n 0, 1) := by decide +kernel
theorem dX7_load_125 : decode cX7_load 125 = .ok (.getfield 104, 3) := by decide +kernel
theorem dX7_load_128 : decode cX7_load 128 = .ok (.iadd, 1) := by decide +kernel
theorem dX7_load_129 : decode cX7_load 129 = .ok (.sipush 400, 3) := by decide +kernel
theorem dX7_load_132 : decode cX7_load 132 = .ok (.if_icmp .le 6, 3) := by decide +kernel
theorem dX7_load_135 : decode cX7_load 135 = .ok (.bipush (-4), 2) := by decide +kernel
theorem dX7_load_137 : decode cX7_load 137 = .ok (.ireturn, 1) := by decide +kernel
theorem dX7_load_138 : decode cX7_load 138 = .ok (.iconst 0, 1) := by decide +kernel
theorem dX7_load_139 : decode cX7_load 139 = .ok (.istore_n 2, 1) := by decide +kernel
theorem dX7_load_140 : decode cX7_load 140 = .ok (.iload_n 2, 1) := by decide +kernel
theorem dX7_load_141 : decode cX7_load 141 = .ok (.aload_n 0, 1) := by decide +kernel
theorem dX7_load_142 : decode cX7_load 142 = .ok (.getfield 104, 3) := by decide +kernel
theorem dX7_load_145 : decode cX7_load 145 = .ok (.if_icmp .ge 38, 3) := by decide +kernel
theorem dX7_load_148 : decode cX7_load 148 = .ok (.aload_n 0, 1) := by decide +kernel
theorem dX7_load_149 : decode cX7_load 149 = .ok (.aload_n 0, 1) := by decide +kernel
theorem dX7_load_150 : decode cX7_load 150 = .ok (.getfield 22, 3) := by decide +kernel
theorem dX7_load_153 : decode cX7_load 153 = .ok (.iload_n 2, 1) := by decide +kernel
theorem dX7_load_154 : decode cX7_load 154 = .ok (.iaload, 1) := by decide +kernel
theorem dX7_load_155 : decode cX7_load 155 = .ok (.bipush 47, 2) := by decide +kernel
theorem dX7_load_157 : decode cX7_load 157 = .ok (.if_icmp .ne 7, 3) := by decide +kernel
theorem dX7_load_160 : decode cX7_load 160 = .ok (.iconst (-1), 1) := by decide +kernel
theorem dX7_load_161 : decode cX7_load 161 = .ok (.goto 12, 3) := by decide +kernel
theorem dX7_load_164 : decode cX7_load 164 = .ok (.aload_n 0, 1) := by decide +kernel
theorem dX7_load_165 : decode cX7_load 165 = .ok (.getfield 22, 3) := by decide +kernel
theorem dX7_load_168 : decode cX7_load 168 = .ok (.iload_n 2, 1) := by decide +kernel
theorem dX7_load_169 : decode cX7_load 169 = .ok (.iaload, 1) := by decide +kernel
theorem dX7_load_170 : decode cX7_load 170 = .ok (.bipush 97, 2) := by decide +kernel
theorem dX7_load_172 : decode cX7_load 172 = .ok (.isub, 1) := by decide +kernel
theorem dX7_load_173 : decode cX7_load 173 = .ok (.invokevirtual 93, 3) := by decide +kernel
theorem dX7_load_176 : decode cX7_load 176 = .ok (.istore_n 3, 1) := by decide +kernel
theorem dX7_load_177 : decode cX7_load 177 = .ok (.iinc 2 1, 3) := by decide +kernel
theorem dX7_load_180 : decode cX7_load 180 = .ok (.goto (-40), 3) := by decide +kernel
theorem dX7_load_183 : decode cX7_load 183 = .ok (.aload_n 0, 1) := by decide +kernel
theorem dX7_load_184 : decode cX7_load 184 = .ok (.iconst 0, 1) := by decide +kernel
theorem dX7_load_185 : decode cX7_load 185 = .ok (.putfield 104, 3) := by decide +kernel
theorem dX7_load_188 : decode cX7_load 188 = .ok (.aload_n 0, 1) := by decide +kernel
theorem dX7_load_189 : decode cX7_load 189 = .ok (.getfield 71, 3) := by decide +kernel
theorem dX7_load_192 : decode cX7_load 192 = .ok (.ireturn, 1) := by decide +kernel
set_option maxRecDepth 20000 in
theorem ggX7_isVersion_X7_in : GoodIn wsX7_isVersion wsX7_in := goodIn_r _ [5] (by decide +kernel) (by decide +kernel)
set_option maxRecDepth 20000 in
theorem gX7_isVersion_X7_in : GoodIn wsX7_isVersion (va_wsS RX7 97 yX7_in wsX7_in) := goodIn_app (goodIn_of _ (by decide +kernel)) ggX7_isVersion_X7_in
theorem dX7_isVersion_0 : decode cX7_isVersion 0 = .ok (.iload_n 1, 1) := by decide +kernel
theorem dX7_isVersion_1 : decode cX7_isVersion 1 = .ok (.iconst 0, 1) := by decide +kernel
theorem dX7_isVersion_2 : decode cX7_isVersion 2 = .ok (.aload_n 0, 1) := by decide +kernel
theorem dX7_isVersion_3 : decode cX7_isVersion 3 = .ok (.getfield 67, 3) := by decide +kernel
theorem dX7_isVersion_6 : decode cX7_isVersion 6 = .ok (.iconst 1, 1) := by decide +kernel
theorem dX7_isVersion_7 : decode cX7_isVersion 7 = .ok (.isub, 1) := by decide +kernel
theorem dX7_isVersion_8 : decode cX7_isVersion 8 = .ok (.invokestatic 97, 3) := by decide +kernel
theorem dX7_isVersion_11 : decode cX7_isVersion 11 = .ok (.ireturn, 1) := by decide +kernel
set_option maxRecDepth 20000 in
theorem ggX7_go_X7_isVersion : GoodIn wsX7_go wsX7_isVersion := goodIn_r _ [6, 7, 8, 9, 5, 10, 11, 12, 13, 14, 15, 16, 17, 18, 19, 20, 21, 22, 23, 24, 25, 26, 27, 28, 29, 30, 31, 32, 33] (by decide +kernel) (by decide +kernel)
set_option maxRecDepth 20000 in
theorem gX7_go_X7_isVersion : GoodIn wsX7_go (wsV RX7 107 RX7 yX7_isVersion wsX7_isVersion) := goodIn_app (goodIn_of _ (by decide +kernel)) ggX7_go_X7_isVersion
theorem dX7_go_0 : decode cX7_go 0 = .ok (.aload_n 0, 1) := by decide +kernel
theorem dX7_go_1 : decode cX7_go 1 = .ok (.iload_n 1, 1) := by decide +kernel
theorem dX7_go_2 : decode cX7_go 2 = .ok (.invokevirtual 107, 3) := by decide +kernel
theorem dX7_go_5 : decode cX7_go 5 = .ok (.ifCond .ne 5, 3) := by decide +kernel
theorem dX7_go_8 : decode cX7_go 8 = .ok (.iconst (-1), 1) := by decide +kernel
theorem dX7_go_9 : decode cX7_go 9 = .ok (.ireturn, 1) := by decide +kernel
theorem dX7_go_10 : decode cX7_go 10 = .ok (.aload_n 0, 1) := by decide +kernel
theorem dX7_go_11 : decode cX7_go 11 = .ok (.getfield 71, 3) := by decide +kernel
theorem dX7_go_14 : decode cX7_go 14 = .ok (.istore_n 2, 1) := by decide +kernel
theorem dX7_go_15 : decode cX7_go 15 = .ok (.aload_n 0, 1) := by decide +kernel
theorem dX7_go_16 : decode cX7_go 16 = .ok (.iload_n 1, 1) := by decide +kernel
theorem dX7_go_17 : decode cX7_go 17 = .ok (.putfield 71, 3) := by decide +kernel
theorem dX7_go_20 : decode cX7_go 20 = .ok (.iload_n 2, 1) := by decide +kernel
theorem dX7_go_21 : decode cX7_go 21 = .ok (.ireturn, 1) := by decide +kernel
set_option maxRecDepth 20000 in
theorem ggX7_back_X7_in : GoodIn wsX7_back wsX7_in := goodIn_r _ [6] (by decide +kernel) (by decide +kernel)
set_option maxRecDepth 20000 in
theorem gX7_back_X7_in : GoodIn wsX7_back (va_wsS RX7 97 yX7_in wsX7_in) := goodIn_app (goodIn_of _ (by decide +kernel)) ggX7_back_X7_in
theorem dX7_back_0 : decode cX7_back 0 = .ok (.iload_n 1, 1) := by decide +kernel
theorem dX7_back_1 : decode cX7_back 1 = .ok (.iconst 0, 1) := by decide +kernel
theorem dX7_back_2 : decode cX7_back 2 = .ok (.sipush 400, 3) := by decide +kernel
theorem dX7_back_5 : decode cX7_back 5 = .ok (.invokestatic 97, 3) := by decide +kernel
theorem dX7_back_8 : decode cX7_back 8 = .ok (.ifCond .ne 6, 3) := by decide +kernel
theorem dX7_back_11 : decode cX7_back 11 = .ok (.bipush (-2), 2) := by decide +kernel
theorem dX7_back_13 : decode cX7_back 13 = .ok (.ireturn, 1) := by decide +kernel
theorem dX7_back_14 : decode cX7_back 14 = .ok (.aload_n 0, 1) := by decide +kernel
theorem dX7_back_15 : decode cX7_back 15 = .ok (.getfield 71, 3) := by decide +kernel
theorem dX7_back_18 : decode cX7_back 18 = .ok (.istore_n 2, 1) := by decide +kernel
theorem dX7_back_19 : decode cX7_back 19 = .ok (.iconst 0, 1) := by decide +kernel
theorem dX7_back_20 : decode cX7_back 20 = .ok (.istore_n 3, 1) := by decide +kernel
theorem dX7_back_21 : decode cX7_back 21 = .ok (.iload_n 3, 1) := by decide +kernel
theorem dX7_back_22 : decode cX7_back 22 = .ok (.iload_n 1, 1) := by decide +kernel
theorem dX7_back_23 : decode cX7_back 23 = .ok (.if_icmp .ge 20, 3) := by decide +kernel
theorem dX7_back_26 : decode cX7_back 26 = .ok (.iload_n 2, 1) := by decide +kernel
theorem dX7_back_27 : decode cX7_back 27 = .ok (.ifCond .lt 16, 3) := by decide +kernel
theorem dX7_back_30 : decode cX7_back 30 = .ok (.aload_n 0, 1) := by decide +kernel
theorem dX7_back_31 : decode cX7_back 31 = .ok (.getfield 7, 3) := by decide +kernel
theorem dX7_back_34 : decode cX7_back 34 = .ok (.iload_n 2, 1) := by decide +kernel
theorem dX7_back_35 : decode cX7_back 35 = .ok (.iaload, 1) := by decide +kernel
theorem dX7_back_36 : decode cX7_back 36 = .ok (.istore_n 2, 1) := by decide +kernel
theorem dX7_back_37 : decode cX7_back 37 = .ok (.iinc 3 1, 3) := by decide +kernel
theorem dX7_back_40 : decode cX7_back 40 = .ok (.goto (-19), 3) := by decide +kernel
theorem dX7_back_43 : decode cX7_back 43 = .ok (.iload_n 2, 1) := by decide +kernel
theorem dX7_back_44 : decode cX7_back 44 = .ok (.ifCond .ge 6, 3) := by decide +kernel
theorem dX7_back_47 : decode cX7_back 47 = .ok (.bipush (-6), 2) := by decide +kernel
theorem dX7_back_49 : decode cX7_back 49 = .ok (.ireturn, 1) := by decide +kernel
theorem dX7_back_50 : decode cX7_back 50 = .ok (.aload_n 0, 1) := by decide +kernel
theorem dX7_back_51 : decode cX7_back 51 = .ok (.iload_n 2, 1) := by decide +kernel
theorem dX7_back_52 : decode cX7_back 52 = .ok (.putfield 71, 3) := by decide +kernel
theorem dX7_back_55 : decode cX7_back 55 = .ok (.iload_n 2, 1) := by decide +kernel
theorem dX7_back_56 : decode cX7_back 56 = .ok (.ireturn, 1) := by decide +kernel
theorem dX7_depth_0 : decode cX7_depth 0 = .ok (.iconst 0, 1) := by decide +kernel
theorem dX7_depth_1 : decode cX7_depth 1 = .ok (.istore_n 2, 1) := by decide +kernel
theorem dX7_depth_2 : decode cX7_depth 2 = .ok (.iload_n 1, 1) := by decide +kernel
theorem dX7_depth_3 : decode cX7_depth 3 = .ok (.istore_n 3, 1) := by decide +kernel
theorem dX7_depth_4 : decode cX7_depth 4 = .ok (.iload_n 3, 1) := by decide +kernel
theorem dX7_depth_5 : decode cX7_depth 5 = .ok (.ifCond .le 16, 3) := by decide +kernel
theorem dX7_depth_8 : decode cX7_depth 8 = .ok (.iinc 2 1, 3) := by decide +kernel
theorem dX7_depth_11 : decode cX7_depth 11 = .ok (.aload_n 0, 1) := by decide +kernel
theorem dX7_depth_12 : decode cX7_depth 12 = .ok (.getfield 7, 3) := by decide +kernel
theorem dX7_depth_15 : decode cX7_depth 15 = .ok (.iload_n 3, 1) := by decide +kernel
theorem dX7_depth_16 : decode cX7_depth 16 = .ok (.iaload, 1) := by decide +kernel
theorem dX7_depth_17 : decode cX7_depth 17 = .ok (.istore_n 3, 1) := by decide +kernel
theorem dX7_depth_18 : decode cX7_depth 18 = .ok (.goto (-14), 3) := by decide +kernel
theorem dX7_depth_21 : decode cX7_depth 21 = .ok (.iload_n 2, 1) := by decide +kernel
theorem dX7_depth_22 : decode cX7_depth 22 = .ok (.ireturn, 1) := by decide +kernel
theorem dX7_children_0 : decode cX7_children 0 = .ok (.iconst 0, 1) := by decide +kernel
theorem dX7_children_1 : decode cX7_children 1 = .ok (.istore_n 2, 1) := by decide +kernel
theorem dX7_children_2 : decode cX7_children 2 = .ok (.iconst 1, 1) := by decide +kernel
theorem dX7_children_3 : decode cX7_children 3 = .ok (.istore_n 3, 1) := by decide +kernel
theorem dX7_children_4 : decode cX7_children 4 = .ok (.iload_n 3, 1) := by decide +kernel
theorem dX7_children_5 : decode cX7_children 5 = .ok (.aload_n 0, 1) := by decide +kernel
theorem dX7_children_6 : decode cX7_children 6 = .ok (.getfield 67, 3) := by decide +kernel
theorem dX7_children_9 : decode cX7_children 9 = .ok (.if_icmp .ge 27, 3) := by decide +kernel
theorem dX7_children_12 : decode cX7_children 12 = .ok (.iload_n 2, 1) := by decide +kernel
theorem dX7_children_13 : decode cX7_children 13 = .ok (.aload_n 0, 1) := by decide +kernel
theorem dX7_children_14 : decode cX7_children 14 = .ok (.getfield 7, 3) := by decide +kernel
theorem dX7_children_17 : decode cX7_children 17 = .ok (.iload_n 3, 1) := by decide +kernel
theorem dX7_children_18 : decode cX7_children 18 = .ok (.iaload, 1) := by decide +kernel
theorem dX7_children_19 : decode cX7_children 19 = .ok (.iload_n 1, 1) := by decide +kernel
theorem dX7_children_20 : decode cX7_children 20 = .ok (.if_icmp .ne 7, 3) := by decide +kernel
theorem dX7_children_23 : decode cX7_children 23 = .ok (.iconst 1, 1) := by decide +kernel
theorem dX7_children_24 : decode cX7_children 24 = .ok (.goto 4, 3) := by decide +kernel
theorem dX7_children_27 : decode cX7_children 27 = .ok (.iconst 0, 1) := by decide +kernel
theorem dX7_children_28 : decode cX7_children 28 = .ok (.iadd, 1) := by decide +kernel
theorem dX7_children_29 : decode cX7_children 29 = .ok (.istore_n 2, 1) := by decide +kernel
theorem dX7_children_30 : decode cX7_children 30 = .ok (.iinc 3 1, 3) := by decide +kernel
theorem dX7_children_33 : decode cX7_children 33 = .ok (.goto (-29), 3) := by decide +kernel
theorem dX7_children_36 : decode cX7_children 36 = .ok (.iload_n 2, 1) := by decide +kernel
theorem dX7_children_37 : decode cX7_children 37 = .ok (.ireturn, 1) := by decide +kernel
set_option maxRecDepth 20000 in
theorem ggX7_version_X7_isVersion : GoodIn wsX7_version wsX7_isVersion := goodIn_r _ [8, 9, 10, 11, 7, 12, 55, 56, 57, 58, 59, 60, 61, 62, 63, 64, 65, 66, 67, 68, 69, 70, 71, 72, 73, 74, 75, 76, 77] (by decide +kernel) (by decide +kernel)
set_option maxRecDepth 20000 in
theorem gX7_version_X7_isVersion : GoodIn wsX7_version (wsV RX7 107 RX7 yX7_isVersion wsX7_isVersion) := goodIn_app (goodIn_of _ (by decide +kernel)) ggX7_version_X7_isVersion
set_option maxRecDepth 20000 in
theorem ggX7_version_X7_children : GoodIn wsX7_version wsX7_children := goodIn_r _ [16, 9, 1, 55, 56, 57, 58, 59, 60, 61, 62, 63, 64, 65, 66, 67, 68, 69, 70, 71, 72, 73, 74, 75, 76, 77] (by decide +kernel) (by decide +kernel)
set_option maxRecDepth 20000 in
theorem gX7_version_X7_children : GoodIn wsX7_version (wsV RX7 111 RX7 yX7_children wsX7_children) := goodIn_app (goodIn_of _ (by decide +kernel)) ggX7_version_X7_children
set_option maxRecDepth 20000 in
theorem ggX7_version_X7_depth : GoodIn wsX7_version wsX7_depth := goodIn_r _ [20, 1, 55, 56, 57, 58, 59, 60, 61, 62, 63, 64, 65, 66, 67, 68, 69, 70, 71, 72, 73, 74, 75, 76, 77] (by decide +kernel) (by decide +kernel)
set_option maxRecDepth 20000 in
theorem gX7_version_X7_depth : GoodIn wsX7_version (wsV RX7 114 RX7 yX7_depth wsX7_depth) := goodIn_app (goodIn_of _ (by decide +kernel)) ggX7_version_X7_depth
set_option maxRecDepth 20000 in
theorem ggX7_version_X7_lay : GoodIn wsX7_version wsX7_lay := goodIn_r _ [24, 25, 26, 1, 27, 28, 29, 30, 31, 32, 55, 56, 57, 58, 59, 60, 61, 62, 63, 64, 65, 66, 67, 68, 69, 70, 71, 72, 73, 74, 75, 76, 77] (by decide +kernel) (by decide +kernel)
set_option maxRecDepth 20000 in
theorem gX7_version_X7_lay : GoodIn wsX7_version (wsV RX7 74 RX7 yX7_lay wsX7_lay) := goodIn_app (goodIn_of _ (by decide +kernel)) ggX7_version_X7_lay
set_option maxRecDepth 20000 in
theorem ggX7_version_X7_sort : GoodIn wsX7_version wsX7_sort := goodIn_r _ [36, 27, 37, 38, 39, 40, 41, 7, 42, 31, 43, 44, 45, 46, 47, 48, 49, 50, 30, 32, 55, 56, 57, 58, 59, 60, 61, 62, 63, 64, 65, 66, 67, 68, 69, 70, 71, 72, 73, 74, 75, 76, 77] (by decide +kernel) (by decide +kernel)
set_option maxRecDepth 20000 in
theorem gX7_version_X7_sort : GoodIn wsX7_version (wsV RX7 117 RX7 yX7_sort wsX7_sort) := goodIn_app (goodIn_of _ (by decide +kernel)) ggX7_version_X7_sort
set_option maxRecDepth 20000 in
theorem ggX7_version_X7_distinct : GoodIn wsX7_version wsX7_distinct := goodIn_r _ [54, 27, 37, 38, 47, 48, 49, 7, 50, 30, 32, 55, 56, 57, 58, 59, 60, 61, 62, 63, 64, 65, 66, 67, 68, 69, 70, 71, 72, 73, 74, 75, 76, 77] (by decide +kernel) (by decide +kernel)
set_option maxRecDepth 20000 in
theorem gX7_version_X7_distinct : GoodIn wsX7_version (wsV RX7 120 RX7 yX7_distinct wsX7_distinct) := goodIn_app (goodIn_of _ (by decide +kernel)) ggX7_version_X7_distinct
theorem dX7_version_0 : decode cX7_version 0 = .ok (.aload_n 0, 1) := by decide +kernel
theorem dX7_version_1 : decode cX7_version 1 = .ok (.iload_n 1, 1) := by decide +kernel
theorem dX7_version_2 : decode cX7_version 2 = .ok (.invokevirtual 107, 3) := by decide +kernel
theorem dX7_version_5 : decode cX7_version 5 = .ok (.ifCond .ne 5, 3) := by decide +kernel
theorem dX7_version_8 : decode cX7_version 8 = .ok (.iconst (-1), 1) := by decide +kernel
theorem dX7_version_9 : decode cX7_version 9 = .ok (.ireturn, 1) := by decide +kernel
theorem dX7_version_10 : decode cX7_version 10 = .ok (.iload_n 2, 1) := by decide +kernel
theorem dX7_version_11 : decode cX7_version 11 = .ok (.tableswitch 85 0 5 #[37, 44, 50, 57, 64, 70], 37) := by decide +kernel
theorem dX7_version_48 : decode cX7_version 48 = .ok (.aload_n 0, 1) := by decide +kernel
theorem dX7_version_49 : decode cX7_version 49 = .ok (.getfield 7, 3) := by decide +kernel
theorem dX7_version_52 : decode cX7_version 52 = .ok (.iload_n 1, 1) := by decide +kernel
theorem dX7_version_53 : decode cX7_version 53 = .ok (.iaload, 1) := by decide +kernel
theorem dX7_version_54 : decode cX7_version 54 = .ok (.ireturn, 1) := by decide +kernel
theorem dX7_version_55 : decode cX7_version 55 = .ok (.aload_n 0, 1) := by decide +kernel
theorem dX7_version_56 : decode cX7_version 56 = .ok (.iload_n 1, 1) := by decide +kernel
theorem dX7_version_57 : decode cX7_version 57 = .ok (.invokevirtual 111, 3) := by decide +kernel
theorem dX7_version_60 : decode cX7_version 60 = .ok (.ireturn, 1) := by decide +kernel
theorem dX7_version_61 : decode cX7_version 61 = .ok (.aload_n 0, 1) := by decide +kernel
theorem dX7_version_62 : decode cX7_version 62 = .ok (.getfield 16, 3) := by decide +kernel
theorem dX7_version_65 : decode cX7_version 65 = .ok (.iload_n 1, 1) := by decide +kernel
theorem dX7_version_66 : decode cX7_version 66 = .ok (.iaload, 1) := by decide +kernel
theorem dX7_version_67 : decode cX7_version 67 = .ok (.ireturn, 1) := by decide +kernel
theorem dX7_version_68 : decode cX7_version 68 = .ok (.aload_n 0, 1) := by decide +kernel
theorem dX7_version_69 : decode cX7_version 69 = .ok (.getfield 19, 3) := by decide +kernel
theorem dX7_version_72 : decode cX7_version 72 = .ok (.iload_n 1, 1) := by decide +kernel
theorem dX7_version_73 : decode cX7_version 73 = .ok (.iaload, 1) := by decide +kernel
theorem dX7_version_74 : decode cX7_version 74 = .ok (.ireturn, 1) := by decide +kernel
theorem dX7_version_75 : decode cX7_version 75 = .ok (.aload_n 0, 1) := by decide +kernel
theorem dX7_version_76 : decode cX7_version 76 = .ok (.iload_n 1, 1) := by decide +kernel
theorem dX7_version_77 : decode cX7_version 77 = .ok (.invokevirtual 114, 3) := by decide +kernel
theorem dX7_version_80 : decode cX7_version 80 = .ok (.ireturn, 1) := by decide +kernel
theorem dX7_version_81 : decode cX7_version 81 = .ok (.aload_n 0, 1) := by decide +kernel
theorem dX7_version_82 : decode cX7_version 82 = .ok (.iconst 0, 1) := by decide +kernel
theorem dX7_version_83 : decode cX7_version 83 = .ok (.iload_n 1, 1) := by decide +kernel
theorem dX7_version_84 : decode cX7_version 84 = .ok (.invokevirtual 74, 3) := by decide +kernel
theorem dX7_version_87 : decode cX7_version 87 = .ok (.aload_n 0, 1) := by decide +kernel
theorem dX7_version_88 : decode cX7_version 88 = .ok (.invokevirtual 117, 3) := by decide +kernel
theorem dX7_version_91 : decode cX7_version 91 = .ok (.aload_n 0, 1) := by decide +kernel
theorem dX7_version_92 : decode cX7_version 92 = .ok (.invokevirtual 120, 3) := by decide +kernel
theorem dX7_version_95 : decode cX7_version 95 = .ok (.ireturn, 1) := by decide +kernel
theorem dX7_version_96 : decode cX7_version 96 = .ok (.bipush (-2), 2) := by decide +kernel
theorem dX7_version_98 : decode cX7_version 98 = .ok (.ireturn, 1) := by decide +kernel
set_option maxRecDepth 20000 in
theorem ggX7_meet_X7_isVersion : GoodIn wsX7_meet wsX7_isVersion := goodIn_r _ [6, 7, 8, 9, 5, 10, 11, 12, 13, 14, 15, 16, 17, 18, 19, 20, 21, 22, 23, 24, 25, 26, 27, 28, 29, 30, 31, 32, 33] (by decide +kernel) (by decide +kernel)
set_option maxRecDepth 20000 in
theorem gX7_meet_X7_isVersion : GoodIn wsX7_meet (wsV RX7 107 RX7 yX7_isVersion wsX7_isVersion) := goodIn_app (goodIn_of _ (by decide +kernel)) ggX7_meet_X7_isVersion
theorem dX7_meet_0 : decode cX7_meet 0 = .ok (.aload_n 0, 1) := by decide +kernel
theorem dX7_meet_1 : decode cX7_meet 1 = .ok (.iload_n 1, 1) := by decide +kernel
theorem dX7_meet_2 : decode cX7_meet 2 = .ok (.invokevirtual 107, 3) := by decide +kernel
theorem dX7_meet_5 : decode cX7_meet 5 = .ok (.ifCond .eq 11, 3) := by decide +kernel
theorem dX7_meet_8 : decode cX7_meet 8 = .ok (.aload_n 0, 1) := by decide +kernel
theorem dX7_meet_9 : decode cX7_meet 9 = .ok (.iload_n 2, 1) := by decide +kernel
theorem dX7_meet_10 : decode cX7_meet 10 = .ok (.invokevirtual 107, 3) := by decide +kernel
theorem dX7_meet_13 : decode cX7_meet 13 = .ok (.ifCond .ne 5, 3) := by decide +kernel
theorem dX7_meet_16 : decode cX7_meet 16 = .ok (.iconst (-1), 1) := by decide +kernel
theorem dX7_meet_17 : decode cX7_meet 17 = .ok (.ireturn, 1) := by decide +kernel
theorem dX7_meet_18 : decode cX7_meet 18 = .ok (.iload_n 1, 1) := by decide +kernel
theorem dX7_meet_19 : decode cX7_meet 19 = .ok (.istore_n 3, 1) := by decide +kernel
theorem dX7_meet_20 : decode cX7_meet 20 = .ok (.iload_n 2, 1) := by decide +kernel
theorem dX7_meet_21 : decode cX7_meet 21 = .ok (.istore 4, 2) := by decide +kernel
theorem dX7_meet_23 : decode cX7_meet 23 = .ok (.iload_n 3, 1) := by decide +kernel
theorem dX7_meet_24 : decode cX7_meet 24 = .ok (.iload 4, 2) := by decide +kernel
theorem dX7_meet_26 : decode cX7_meet 26 = .ok (.if_icmp .eq 31, 3) := by decide +kernel
theorem dX7_meet_29 : decode cX7_meet 29 = .ok (.iload_n 3, 1) := by decide +kernel
theorem dX7_meet_30 : decode cX7_meet 30 = .ok (.iload 4, 2) := by decide +kernel
theorem dX7_meet_32 : decode cX7_meet 32 = .ok (.if_icmp .le 13, 3) := by decide +kernel
theorem dX7_meet_35 : decode cX7_meet 35 = .ok (.aload_n 0, 1) := by decide +kernel
theorem dX7_meet_36 : decode cX7_meet 36 = .ok (.getfield 7, 3) := by decide +kernel
theorem dX7_meet_39 : decode cX7_meet 39 = .ok (.iload_n 3, 1) := by decide +kernel
theorem dX7_meet_40 : decode cX7_meet 40 = .ok (.iaload, 1) := by decide +kernel
theorem dX7_meet_41 : decode cX7_meet 41 = .ok (.istore_n 3, 1) := by decide +kernel
theorem dX7_meet_42 : decode cX7_meet 42 = .ok (.goto (-19), 3) := by decide +kernel
theorem dX7_meet_45 : decode cX7_meet 45 = .ok (.aload_n 0, 1) := by decide +kernel
theorem dX7_meet_46 : decode cX7_meet 46 = .ok (.getfield 7, 3) := by decide +kernel
theorem dX7_meet_49 : decode cX7_meet 49 = .ok (.iload 4, 2) := by decide +kernel
theorem dX7_meet_51 : decode cX7_meet 51 = .ok (.iaload, 1) := by decide +kernel
theorem dX7_meet_52 : decode cX7_meet 52 = .ok (.istore 4, 2) := by decide +kernel
theorem dX7_meet_54 : decode cX7_meet 54 = .ok (.goto (-31), 3) := by decide +kernel
theorem dX7_meet_57 : decode cX7_meet 57 = .ok (.iload_n 3, 1) := by decide +kernel
theorem dX7_meet_58 : decode cX7_meet 58 = .ok (.ireturn, 1) := by decide +kernel
set_option maxRecDepth 20000 in
theorem ggX7_more_X7_isVersion : GoodIn wsX7_more wsX7_isVersion := goodIn_r _ [8, 9, 10, 11, 7, 12, 41, 42, 43, 44, 45, 46, 47, 48, 49, 50, 51, 52, 53, 54, 55, 56, 57, 58, 59, 60, 61, 62, 63] (by decide +kernel) (by decide +kernel)
set_option maxRecDepth 20000 in
theorem gX7_more_X7_isVersion : GoodIn wsX7_more (wsV RX7 107 RX7 yX7_isVersion wsX7_isVersion) := goodIn_app (goodIn_of _ (by decide +kernel)) ggX7_more_X7_isVersion
set_option maxRecDepth 20000 in
theorem ggX7_more_X7_lay : GoodIn wsX7_more wsX7_lay := goodIn_r _ [16, 17, 18, 19, 1, 20, 21, 22, 23, 24, 41, 42, 43, 44, 45, 46, 47, 48, 49, 50, 51, 52, 53, 54, 55, 56, 57, 58, 59, 60, 61, 62, 63] (by decide +kernel) (by decide +kernel)
set_option maxRecDepth 20000 in
theorem gX7_more_X7_lay : GoodIn wsX7_more (wsV RX7 74 RX7 yX7_lay wsX7_lay) := goodIn_app (goodIn_of _ (by decide +kernel)) ggX7_more_X7_lay
set_option maxRecDepth 20000 in
theorem ggX7_more_X7_sort : GoodIn wsX7_more wsX7_sort := goodIn_r _ [28, 1, 3, 2, 29, 30, 31, 7, 32, 23, 33, 34, 35, 36, 37, 38, 39, 40, 22, 24, 41, 42, 43, 44, 45, 46, 47, 48, 49, 50, 51, 52, 53, 54, 55, 56, 57, 58, 59, 60, 61, 62, 63] (by decide +kernel) (by decide +kernel)
set_option maxRecDepth 20000 in
theorem gX7_more_X7_sort : GoodIn wsX7_more (wsV RX7 117 RX7 yX7_sort wsX7_sort) := goodIn_app (goodIn_of _ (by decide +kernel)) ggX7_more_X7_sort
set_option maxRecDepth 20000 in
theorem ggX7_more_X7_alike : GoodIn wsX7_more wsX7_alike := goodIn_r _ [36, 23, 37, 38, 39, 7, 40, 22, 24, 41, 42, 43, 44, 45, 46, 47, 48, 49, 50, 51, 52, 53, 54, 55, 56, 57, 58, 59, 60, 61, 62, 63] (by decide +kernel) (by decide +kernel)
set_option maxRecDepth 20000 in
theorem gX7_more_X7_alike : GoodIn wsX7_more (wsV RX7 82 RX7 yX7_alike wsX7_alike) := goodIn_app (goodIn_of _ (by decide +kernel)) ggX7_more_X7_alike
set_option maxRecDepth 20000 in
theorem ggX7_more_X7_rest : GoodIn wsX7_more wsX7_rest := goodIn_r _ [40, 22, 24, 41, 42, 43, 44, 45, 46, 47, 48, 49, 50, 51, 52, 53, 54, 55, 56, 57, 58, 59, 60, 61, 62, 63] (by decide +kernel) (by decide +kernel)
set_option maxRecDepth 20000 in
theorem gX7_more_X7_rest : GoodIn wsX7_more (wsV RX7 78 RX7 yX7_rest wsX7_rest) := goodIn_app (goodIn_of _ (by decide +kernel)) ggX7_more_X7_rest
theorem dX7_more_0 : decode cX7_more 0 = .ok (.aload_n 0, 1) := by decide +kernel
theorem dX7_more_1 : decode cX7_more 1 = .ok (.iload_n 1, 1) := by decide +kernel
theorem dX7_more_2 : decode cX7_more 2 = .ok (.invokevirtual 107, 3) := by decide +kernel
theorem dX7_more_5 : decode cX7_more 5 = .ok (.ifCond .eq 11, 3) := by decide +kernel
theorem dX7_more_8 : decode cX7_more 8 = .ok (.aload_n 0, 1) := by decide +kernel
theorem dX7_more_9 : decode cX7_more 9 = .ok (.iload_n 2, 1) := by decide +kernel
theorem dX7_more_10 : decode cX7_more 10 = .ok (.invokevirtual 107, 3) := by decide +kernel
theorem dX7_more_13 : decode cX7_more 13 = .ok (.ifCond .ne 5, 3) := by decide +kernel
theorem dX7_more_16 : decode cX7_more 16 = .ok (.iconst (-1), 1) := by decide +kernel
theorem dX7_more_17 : decode cX7_more 17 = .ok (.ireturn, 1) := by decide +kernel
theorem dX7_more_18 : decode cX7_more 18 = .ok (.aload_n 0, 1) := by decide +kernel
theorem dX7_more_19 : decode cX7_more 19 = .ok (.iconst 0, 1) := by decide +kernel
theorem dX7_more_20 : decode cX7_more 20 = .ok (.iload_n 1, 1) := by decide +kernel
theorem dX7_more_21 : decode cX7_more 21 = .ok (.invokevirtual 74, 3) := by decide +kernel
theorem dX7_more_24 : decode cX7_more 24 = .ok (.aload_n 0, 1) := by decide +kernel
theorem dX7_more_25 : decode cX7_more 25 = .ok (.invokevirtual 117, 3) := by decide +kernel
theorem dX7_more_28 : decode cX7_more 28 = .ok (.aload_n 0, 1) := by decide +kernel
theorem dX7_more_29 : decode cX7_more 29 = .ok (.iconst 1, 1) := by decide +kernel
theorem dX7_more_30 : decode cX7_more 30 = .ok (.iload_n 2, 1) := by decide +kernel
theorem dX7_more_31 : decode cX7_more 31 = .ok (.invokevirtual 74, 3) := by decide +kernel
theorem dX7_more_34 : decode cX7_more 34 = .ok (.iconst 0, 1) := by decide +kernel
theorem dX7_more_35 : decode cX7_more 35 = .ok (.istore_n 3, 1) := by decide +kernel
theorem dX7_more_36 : decode cX7_more 36 = .ok (.iconst 0, 1) := by decide +kernel
theorem dX7_more_37 : decode cX7_more 37 = .ok (.istore 4, 2) := by decide +kernel
theorem dX7_more_39 : decode cX7_more 39 = .ok (.iload 4, 2) := by decide +kernel
theorem dX7_more_41 : decode cX7_more 41 = .ok (.aload_n 0, 1) := by decide +kernel
theorem dX7_more_42 : decode cX7_more 42 = .ok (.getfield 37, 3) := by decide +kernel
theorem dX7_more_45 : decode cX7_more 45 = .ok (.iconst 0, 1) := by decide +kernel
theorem dX7_more_46 : decode cX7_more 46 = .ok (.iaload, 1) := by decide +kernel
theorem dX7_more_47 : decode cX7_more 47 = .ok (.if_icmp .ge 89, 3) := by decide +kernel
theorem dX7_more_50 : decode cX7_more 50 = .ok (.aload_n 0, 1) := by decide +kernel
theorem dX7_more_51 : decode cX7_more 51 = .ok (.getfield 49, 3) := by decide +kernel
theorem dX7_more_54 : decode cX7_more 54 = .ok (.iload 4, 2) := by decide +kernel
theorem dX7_more_56 : decode cX7_more 56 = .ok (.iaload, 1) := by decide +kernel
theorem dX7_more_57 : decode cX7_more 57 = .ok (.istore 5, 2) := by decide +kernel
theorem dX7_more_59 : decode cX7_more 59 = .ok (.iconst 0, 1) := by decide +kernel
theorem dX7_more_60 : decode cX7_more 60 = .ok (.istore 6, 2) := by decide +kernel
theorem dX7_more_62 : decode cX7_more 62 = .ok (.iload 6, 2) := by decide +kernel
theorem dX7_more_64 : decode cX7_more 64 = .ok (.aload_n 0, 1) := by decide +kernel
theorem dX7_more_65 : decode cX7_more 65 = .ok (.getfield 37, 3) := by decide +kernel
theorem dX7_more_68 : decode cX7_more 68 = .ok (.iconst 1, 1) := by decide +kernel
theorem dX7_more_69 : decode cX7_more 69 = .ok (.iaload, 1) := by decide +kernel
theorem dX7_more_70 : decode cX7_more 70 = .ok (.if_icmp .ge 42, 3) := by decide +kernel
theorem dX7_more_73 : decode cX7_more 73 = .ok (.aload_n 0, 1) := by decide +kernel
theorem dX7_more_74 : decode cX7_more 74 = .ok (.iconst 0, 1) := by decide +kernel
theorem dX7_more_75 : decode cX7_more 75 = .ok (.aload_n 0, 1) := by decide +kernel
theorem dX7_more_76 : decode cX7_more 76 = .ok (.getfield 46, 3) := by decide +kernel
theorem dX7_more_79 : decode cX7_more 79 = .ok (.iload 4, 2) := by decide +kernel
theorem dX7_more_81 : decode cX7_more 81 = .ok (.iaload, 1) := by decide +kernel
theorem dX7_more_82 : decode cX7_more 82 = .ok (.iconst 1, 1) := by decide +kernel
theorem dX7_more_83 : decode cX7_more 83 = .ok (.iload 6, 2) := by decide +kernel
theorem dX7_more_85 : decode cX7_more 85 = .ok (.invokevirtual 82, 3) := by decide +kernel
theorem dX7_more_88 : decode cX7_more 88 = .ok (.istore 7, 2) := by decide +kernel
theorem dX7_more_90 : decode cX7_more 90 = .ok (.iload 7, 2) := by decide +kernel
theorem dX7_more_92 : decode cX7_more 92 = .ok (.iload 5, 2) := by decide +kernel
theorem dX7_more_94 : decode cX7_more 94 = .ok (.if_icmp .le 8, 3) := by decide +kernel
theorem dX7_more_97 : decode cX7_more 97 = .ok (.iload 7, 2) := by decide +kernel
theorem dX7_more_99 : decode cX7_more 99 = .ok (.goto 5, 3) := by decide +kernel
theorem dX7_more_102 : decode cX7_more 102 = .ok (.iload 5, 2) := by decide +kernel
theorem dX7_more_104 : decode cX7_more 104 = .ok (.istore 5, 2) := by decide +kernel
theorem dX7_more_106 : decode cX7_more 106 = .ok (.iinc 6 1, 3) := by decide +kernel
theorem dX7_more_109 : decode cX7_more 109 = .ok (.goto (-47), 3) := by decide +kernel
theorem dX7_more_112 : decode cX7_more 112 = .ok (.iload_n 3, 1) := by decide +kernel
theorem dX7_more_113 : decode cX7_more 113 = .ok (.aload_n 0, 1) := by decide +kernel
theorem dX7_more_114 : decode cX7_more 114 = .ok (.iconst 0, 1) := by decide +kernel
theorem dX7_more_115 : decode cX7_more 115 = .ok (.aload_n 0, 1) := by decide +kernel
theorem dX7_more_116 : decode cX7_more 116 = .ok (.getfield 46, 3) := by decide +kernel
theorem dX7_more_119 : decode cX7_more 119 = .ok (.iload 4, 2) := by decide +kernel
theorem dX7_more_121 : decode cX7_more 121 = .ok (.iaload, 1) := by decide +kernel
theorem dX7_more_122 : decode cX7_more 122 = .ok (.invokevirtual 78, 3) := by decide +kernel
theorem dX7_more_125 : decode cX7_more 125 = .ok (.iload 5, 2) := by decide +kernel
theorem dX7_more_127 : decode cX7_more 127 = .ok (.isub, 1) := by decide +kernel
theorem dX7_more_128 : decode cX7_more 128 = .ok (.iadd, 1) := by decide +kernel
theorem dX7_more_129 : decode cX7_more 129 = .ok (.istore_n 3, 1) := by decide +kernel
theorem dX7_more_130 : decode cX7_more 130 = .ok (.iinc 4 1, 3) := by decide +kernel
theorem dX7_more_133 : decode cX7_more 133 = .ok (.goto (-94), 3) := by decide +kernel
theorem dX7_more_136 : decode cX7_more 136 = .ok (.iload_n 3, 1) := by decide +kernel
theorem dX7_more_137 : decode cX7_more 137 = .ok (.ireturn, 1) := by decide +kernel
set_option maxRecDepth 20000 in
theorem ggX7_letter_X7_in : GoodIn wsX7_letter wsX7_in := goodIn_r _ [8] (by decide +kernel) (by decide +kernel)
set_option maxRecDepth 20000 in
theorem gX7_letter_X7_in : GoodIn wsX7_letter (va_wsS RX7 97 yX7_in wsX7_in) := goodIn_app (goodIn_of _ (by decide +kernel)) ggX7_letter_X7_in
set_option maxRecDepth 20000 in
theorem ggX7_letter_X7_layPresent : GoodIn wsX7_letter wsX7_layPresent := goodIn_r _ [12, 2, 13, 14, 15, 7, 16, 17, 18, 19, 20, 21, 4, 3, 22, 23, 28, 29, 30, 31, 32, 33, 34, 35, 36, 37, 38, 39, 40, 41, 42, 43, 44, 45, 46, 47, 48, 49, 50] (by decide +kernel) (by decide +kernel)
set_option maxRecDepth 20000 in
theorem gX7_letter_X7_layPresent : GoodIn wsX7_letter (wsV RX7 124 RX7 yX7_layPresent wsX7_layPresent) := goodIn_app (goodIn_of _ (by decide +kernel)) ggX7_letter_X7_layPresent
set_option maxRecDepth 20000 in
theorem ggX7_letter_X7_letterAt : GoodIn wsX7_letter wsX7_letterAt := goodIn_r _ [27, 22, 28, 29, 30, 31, 32, 33, 34, 35, 36, 37, 38, 39, 40, 41, 42, 43, 44, 45, 46, 47, 48, 49, 50] (by decide +kernel) (by decide +kernel)
set_option maxRecDepth 20000 in
theorem gX7_letter_X7_letterAt : GoodIn wsX7_letter (wsV RX7 127 RX7 yX7_letterAt wsX7_letterAt) := goodIn_app (goodIn_of _ (by decide +kernel)) ggX7_letter_X7_letterAt
theorem dX7_letter_0 : decode cX7_letter 0 = .ok (.iload_n 1, 1) := by decide +kernel
theorem dX7_letter_1 : decode cX7_letter 1 = .ok (.iconst 0, 1) := by decide +kernel
theorem dX7_letter_2 : decode cX7_letter 2 = .ok (.aload_n 0, 1) := by decide +kernel
theorem dX7_letter_3 : decode cX7_letter 3 = .ok (.getfield 16, 3) := by decide +kernel
theorem dX7_letter_6 : decode cX7_letter 6 = .ok (.aload_n 0, 1) := by decide +kernel
theorem dX7_letter_7 : decode cX7_letter 7 = .ok (.getfield 71, 3) := by decide +kernel
theorem dX7_letter_10 : decode cX7_letter 10 = .ok (.iaload, 1) := by decide +kernel
theorem dX7_letter_11 : decode cX7_letter 11 = .ok (.iconst 1, 1) := by decide +kernel
theorem dX7_letter_12 : decode cX7_letter 12 = .ok (.isub, 1) := by decide +kernel
theorem dX7_letter_13 : decode cX7_letter 13 = .ok (.invokestatic 97, 3) := by decide +kernel
theorem dX7_letter_16 : decode cX7_letter 16 = .ok (.ifCond .ne 5, 3) := by decide +kernel
theorem dX7_letter_19 : decode cX7_letter 19 = .ok (.iconst (-1), 1) := by decide +kernel
theorem dX7_letter_20 : decode cX7_letter 20 = .ok (.ireturn, 1) := by decide +kernel
theorem dX7_letter_21 : decode cX7_letter 21 = .ok (.aload_n 0, 1) := by decide +kernel
theorem dX7_letter_22 : decode cX7_letter 22 = .ok (.invokevirtual 124, 3) := by decide +kernel
theorem dX7_letter_25 : decode cX7_letter 25 = .ok (.aload_n 0, 1) := by decide +kernel
theorem dX7_letter_26 : decode cX7_letter 26 = .ok (.getfield 34, 3) := by decide +kernel
theorem dX7_letter_29 : decode cX7_letter 29 = .ok (.iload_n 1, 1) := by decide +kernel
theorem dX7_letter_30 : decode cX7_letter 30 = .ok (.iaload, 1) := by decide +kernel
theorem dX7_letter_31 : decode cX7_letter 31 = .ok (.aload_n 0, 1) := by decide +kernel
theorem dX7_letter_32 : decode cX7_letter 32 = .ok (.getfield 31, 3) := by decide +kernel
theorem dX7_letter_35 : decode cX7_letter 35 = .ok (.iload_n 1, 1) := by decide +kernel
theorem dX7_letter_36 : decode cX7_letter 36 = .ok (.iaload, 1) := by decide +kernel
theorem dX7_letter_37 : decode cX7_letter 37 = .ok (.isub, 1) := by decide +kernel
theorem dX7_letter_38 : decode cX7_letter 38 = .ok (.istore_n 3, 1) := by decide +kernel
theorem dX7_letter_39 : decode cX7_letter 39 = .ok (.iload_n 2, 1) := by decide +kernel
theorem dX7_letter_40 : decode cX7_letter 40 = .ok (.iconst (-1), 1) := by decide +kernel
theorem dX7_letter_41 : decode cX7_letter 41 = .ok (.if_icmp .ne 7, 3) := by decide +kernel
theorem dX7_letter_44 : decode cX7_letter 44 = .ok (.iload_n 3, 1) := by decide +kernel
theorem dX7_letter_45 : decode cX7_letter 45 = .ok (.goto 31, 3) := by decide +kernel
theorem dX7_letter_48 : decode cX7_letter 48 = .ok (.iload_n 2, 1) := by decide +kernel
theorem dX7_letter_49 : decode cX7_letter 49 = .ok (.iconst 0, 1) := by decide +kernel
theorem dX7_letter_50 : decode cX7_letter 50 = .ok (.iload_n 3, 1) := by decide +kernel
theorem dX7_letter_51 : decode cX7_letter 51 = .ok (.iconst 1, 1) := by decide +kernel
theorem dX7_letter_52 : decode cX7_letter 52 = .ok (.isub, 1) := by decide +kernel
theorem dX7_letter_53 : decode cX7_letter 53 = .ok (.invokestatic 97, 3) := by decide +kernel
theorem dX7_letter_56 : decode cX7_letter 56 = .ok (.ifCond .eq 18, 3) := by decide +kernel
theorem dX7_letter_59 : decode cX7_letter 59 = .ok (.aload_n 0, 1) := by decide +kernel
theorem dX7_letter_60 : decode cX7_letter 60 = .ok (.aload_n 0, 1) := by decide +kernel
theorem dX7_letter_61 : decode cX7_letter 61 = .ok (.getfield 31, 3) := by decide +kernel
theorem dX7_letter_64 : decode cX7_letter 64 = .ok (.iload_n 1, 1) := by decide +kernel
theorem dX7_letter_65 : decode cX7_letter 65 = .ok (.iaload, 1) := by decide +kernel
theorem dX7_letter_66 : decode cX7_letter 66 = .ok (.iload_n 2, 1) := by decide +kernel
theorem dX7_letter_67 : decode cX7_letter 67 = .ok (.iadd, 1) := by decide +kernel
theorem dX7_letter_68 : decode cX7_letter 68 = .ok (.invokevirtual 127, 3) := by decide +kernel
theorem dX7_letter_71 : decode cX7_letter 71 = .ok (.goto 5, 3) := by decide +kernel
theorem dX7_letter_74 : decode cX7_letter 74 = .ok (.bipush (-6), 2) := by decide +kernel
theorem dX7_letter_76 : decode cX7_letter 76 = .ok (.ireturn, 1) := by decide +kernel
set_option maxRecDepth 20000 in
theorem ggX7_say_X7_in : GoodIn wsX7_say wsX7_in := goodIn_r _ [6] (by decide +kernel) (by decide +kernel)
set_option maxRecDepth 20000 in
theorem gX7_say_X7_in : GoodIn wsX7_say (va_wsS RX7 97 yX7_in wsX7_in) := goodIn_app (goodIn_of _ (by decide +kernel)) ggX7_say_X7_in
theorem dX7_say_0 : decode cX7_say 0 = .ok (.iload_n 1, 1) := by decide +kernel
theorem dX7_say_1 : decode cX7_say 1 = .ok (.bipush 33, 2) := by decide +kernel
theorem dX7_say_3 : decode cX7_say 3 = .ok (.bipush 126, 2) := by decide +kernel
theorem dX7_say_5 : decode cX7_say 5 = .ok (.invokestatic 97, 3) := by decide +kernel
theorem dX7_say_8 : decode cX7_say 8 = .ok (.ifCond .ne 6, 3) := by decide +kernel
theorem dX7_say_11 : decode cX7_say 11 = .ok (.bipush (-2), 2) := by decide +kernel
theorem dX7_say_13 : decode cX7_say 13 = .ok (.ireturn, 1) := by decide +kernel
theorem dX7_say_14 : decode cX7_say 14 = .ok (.aload_n 0, 1) := by decide +kernel
theorem dX7_say_15 : decode cX7_say 15 = .ok (.getfield 104, 3) := by decide +kernel
theorem dX7_say_18 : decode cX7_say 18 = .ok (.bipush 60, 2) := by decide +kernel
theorem dX7_say_20 : decode cX7_say 20 = .ok (.if_icmp .ne 6, 3) := by decide +kernel
theorem dX7_say_23 : decode cX7_say 23 = .ok (.bipush (-4), 2) := by decide +kernel
theorem dX7_say_25 : decode cX7_say 25 = .ok (.ireturn, 1) := by decide +kernel
theorem dX7_say_26 : decode cX7_say 26 = .ok (.aload_n 0, 1) := by decide +kernel
theorem dX7_say_27 : decode cX7_say 27 = .ok (.getfield 22, 3) := by decide +kernel
theorem dX7_say_30 : decode cX7_say 30 = .ok (.aload_n 0, 1) := by decide +kernel
theorem dX7_say_31 : decode cX7_say 31 = .ok (.getfield 104, 3) := by decide +kernel
theorem dX7_say_34 : decode cX7_say 34 = .ok (.iload_n 1, 1) := by decide +kernel
theorem dX7_say_35 : decode cX7_say 35 = .ok (.iastore, 1) := by decide +kernel
theorem dX7_say_36 : decode cX7_say 36 = .ok (.aload_n 0, 1) := by decide +kernel
theorem dX7_say_37 : decode cX7_say 37 = .ok (.dup, 1) := by decide +kernel
theorem dX7_say_38 : decode cX7_say 38 = .ok (.getfield 104, 3) := by decide +kernel
theorem dX7_say_41 : decode cX7_say 41 = .ok (.iconst 1, 1) := by decide +kernel
theorem dX7_say_42 : decode cX7_say 42 = .ok (.iadd, 1) := by decide +kernel
theorem dX7_say_43 : decode cX7_say 43 = .ok (.putfield 104, 3) := by decide +kernel
theorem dX7_say_46 : decode cX7_say 46 = .ok (.aload_n 0, 1) := by decide +kernel
theorem dX7_say_47 : decode cX7_say 47 = .ok (.getfield 104, 3) := by decide +kernel
theorem dX7_say_50 : decode cX7_say 50 = .ok (.ireturn, 1) := by decide +kernel
theorem dX7_wipe_0 : decode cX7_wipe 0 = .ok (.aload_n 0, 1) := by decide +kernel
theorem dX7_wipe_1 : decode cX7_wipe 1 = .ok (.getfield 104, 3) := by decide +kernel
theorem dX7_wipe_4 : decode cX7_wipe 4 = .ok (.istore_n 1, 1) := by decide +kernel
theorem dX7_wipe_5 : decode cX7_wipe 5 = .ok (.aload_n 0, 1) := by decide +kernel
theorem dX7_wipe_6 : decode cX7_wipe 6 = .ok (.iconst 0, 1) := by decide +kernel
theorem dX7_wipe_7 : decode cX7_wipe 7 = .ok (.putfield 104, 3) := by decide +kernel
theorem dX7_wipe_10 : decode cX7_wipe 10 = .ok (.iload_n 1, 1) := by decide +kernel
theorem dX7_wipe_11 : decode cX7_wipe 11 = .ok (.ireturn, 1) := by decide +kernel
set_option maxRecDepth 20000 in
theorem ggX7_pad_X7_in : GoodIn wsX7_pad wsX7_in := goodIn_r _ [6] (by decide +kernel) (by decide +kernel)
set_option maxRecDepth 20000 in
theorem gX7_pad_X7_in : GoodIn wsX7_pad (va_wsS RX7 97 yX7_in wsX7_in) := goodIn_app (goodIn_of _ (by decide +kernel)) ggX7_pad_X7_in
theorem dX7_pad_0 : decode cX7_pad 0 = .ok (.iload_n 1, 1) := by decide +kernel
theorem dX7_pad_1 : decode cX7_pad 1 = .ok (.iconst (-1), 1) := by decide +kernel
theorem dX7_pad_2 : decode cX7_pad 2 = .ok (.if_icmp .ne 10, 3) := by decide +kernel
theorem dX7_pad_5 : decode cX7_pad 5 = .ok (.aload_n 0, 1) := by decide +kernel
theorem dX7_pad_6 : decode cX7_pad 6 = .ok (.getfield 104, 3) := by decide +kernel
theorem dX7_pad_9 : decode cX7_pad 9 = .ok (.goto 28, 3) := by decide +kernel
theorem dX7_pad_12 : decode cX7_pad 12 = .ok (.iload_n 1, 1) := by decide +kernel
theorem dX7_pad_13 : decode cX7_pad 13 = .ok (.iconst 0, 1) := by decide +kernel
theorem dX7_pad_14 : decode cX7_pad 14 = .ok (.aload_n 0, 1) := by decide +kernel
theorem dX7_pad_15 : decode cX7_pad 15 = .ok (.getfield 104, 3) := by decide +kernel
theorem dX7_pad_18 : decode cX7_pad 18 = .ok (.iconst 1, 1) := by decide +kernel
theorem dX7_pad_19 : decode cX7_pad 19 = .ok (.isub, 1) := by decide +kernel
theorem dX7_pad_20 : decode cX7_pad 20 = .ok (.invokestatic 97, 3) := by decide +kernel
theorem dX7_pad_23 : decode cX7_pad 23 = .ok (.ifCond .eq 12, 3) := by decide +kernel
theorem dX7_pad_26 : decode cX7_pad 26 = .ok (.aload_n 0, 1) := by decide +kernel
theorem dX7_pad_27 : decode cX7_pad 27 = .ok (.getfield 22, 3) := by decide +kernel
theorem dX7_pad_30 : decode cX7_pad 30 = .ok (.iload_n 1, 1) := by decide +kernel
theorem dX7_pad_31 : decode cX7_pad 31 = .ok (.iaload, 1) := by decide +kernel
theorem dX7_pad_32 : decode cX7_pad 32 = .ok (.goto 5, 3) := by decide +kernel
theorem dX7_pad_35 : decode cX7_pad 35 = .ok (.bipush (-6), 2) := by decide +kernel
theorem dX7_pad_37 : decode cX7_pad 37 = .ok (.ireturn, 1) := by decide +kernel
set_option maxRecDepth 20000 in
theorem ggX7_faultOf_X7_isLetter : GoodIn wsX7_faultOf wsX7_isLetter := goodIn_r _ [7, 8, 9, 6, 10] (by decide +kernel) (by decide +kernel)
set_option maxRecDepth 20000 in
theorem gX7_faultOf_X7_isLetter : GoodIn wsX7_faultOf (wsV RX7 130 RX7 yX7_isLetter wsX7_isLetter) := goodIn_app (goodIn_of _ (by decide +kernel)) ggX7_faultOf_X7_isLetter
theorem dX7_faultOf_0 : decode cX7_faultOf 0 = .ok (.iconst 0, 1) := by decide +kernel
theorem dX7_faultOf_1 : decode cX7_faultOf 1 = .ok (.istore_n 2, 1) := by decide +kernel
theorem dX7_faultOf_2 : decode cX7_faultOf 2 = .ok (.iload_n 2, 1) := by decide +kernel
theorem dX7_faultOf_3 : decode cX7_faultOf 3 = .ok (.aload_n 0, 1) := by decide +kernel
theorem dX7_faultOf_4 : decode cX7_faultOf 4 = .ok (.getfield 104, 3) := by decide +kernel
theorem dX7_faultOf_7 : decode cX7_faultOf 7 = .ok (.if_icmp .ge 40, 3) := by decide +kernel
theorem dX7_faultOf_10 : decode cX7_faultOf 10 = .ok (.aload_n 0, 1) := by decide +kernel
theorem dX7_faultOf_11 : decode cX7_faultOf 11 = .ok (.aload_n 0, 1) := by decide +kernel
theorem dX7_faultOf_12 : decode cX7_faultOf 12 = .ok (.getfield 22, 3) := by decide +kernel
theorem dX7_faultOf_15 : decode cX7_faultOf 15 = .ok (.iload_n 2, 1) := by decide +kernel
theorem dX7_faultOf_16 : decode cX7_faultOf 16 = .ok (.iaload, 1) := by decide +kernel
theorem dX7_faultOf_17 : decode cX7_faultOf 17 = .ok (.invokevirtual 130, 3) := by decide +kernel
theorem dX7_faultOf_20 : decode cX7_faultOf 20 = .ok (.ifCond .ne 21, 3) := by decide +kernel
theorem dX7_faultOf_23 : decode cX7_faultOf 23 = .ok (.iload_n 1, 1) := by decide +kernel
theorem dX7_faultOf_24 : decode cX7_faultOf 24 = .ok (.iconst 1, 1) := by decide +kernel
theorem dX7_faultOf_25 : decode cX7_faultOf 25 = .ok (.if_icmp .ne 14, 3) := by decide +kernel
theorem dX7_faultOf_28 : decode cX7_faultOf 28 = .ok (.aload_n 0, 1) := by decide +kernel
theorem dX7_faultOf_29 : decode cX7_faultOf 29 = .ok (.getfield 22, 3) := by decide +kernel
theorem dX7_faultOf_32 : decode cX7_faultOf 32 = .ok (.iload_n 2, 1) := by decide +kernel
theorem dX7_faultOf_33 : decode cX7_faultOf 33 = .ok (.iaload, 1) := by decide +kernel
theorem dX7_faultOf_34 : decode cX7_faultOf 34 = .ok (.bipush 47, 2) := by decide +kernel
theorem dX7_faultOf_36 : decode cX7_faultOf 36 = .ok (.if_icmp .eq 5, 3) := by decide +kernel
theorem dX7_faultOf_39 : decode cX7_faultOf 39 = .ok (.iload_n 2, 1) := by decide +kernel
theorem dX7_faultOf_40 : decode cX7_faultOf 40 = .ok (.ireturn, 1) := by decide +kernel
theorem dX7_faultOf_41 : decode cX7_faultOf 41 = .ok (.iinc 2 1, 3) := by decide +kernel
theorem dX7_faultOf_44 : decode cX7_faultOf 44 = .ok (.goto (-42), 3) := by decide +kernel
theorem dX7_faultOf_47 : decode cX7_faultOf 47 = .ok (.iload_n 1, 1) := by decide +kernel
theorem dX7_faultOf_48 : decode cX7_faultOf 48 = .ok (.ifCond .ne 14, 3) := by decide +kernel
theorem dX7_faultOf_51 : decode cX7_faultOf 51 = .ok (.aload_n 0, 1) := by decide +kernel
theorem dX7_faultOf_52 : decode cX7_faultOf 52 = .ok (.getfield 104, 3) := by decide +kernel
theorem dX7_faultOf_55 : decode cX7_faultOf 55 = .ok (.ifCond .ne 7, 3) := by decide +kernel
theorem dX7_faultOf_58 : decode cX7_faultOf 58 = .ok (.iconst 0, 1) := by decide +kernel
theorem dX7_faultOf_59 : decode cX7_faultOf 59 = .ok (.goto 5, 3) := by decide +kernel
theorem dX7_faultOf_62 : decode cX7_faultOf 62 = .ok (.bipush (-6), 2) := by decide +kernel
theorem dX7_faultOf_64 : decode cX7_faultOf 64 = .ok (.ireturn, 1) := by decide +kernel
set_option maxRecDepth 20000 in
theorem ggX7_fault_X7_in : GoodIn wsX7_fault wsX7_in := goodIn_r _ [4] (by decide +kernel) (by decide +kernel)
set_option maxRecDepth 20000 in
theorem gX7_fault_X7_in : GoodIn wsX7_fault (va_wsS RX7 97 yX7_in wsX7_in) := goodIn_app (goodIn_of _ (by decide +kernel)) ggX7_fault_X7_in
set_option maxRecDepth 20000 in
theorem ggX7_fault_X7_faultOf : GoodIn wsX7_fault wsX7_faultOf := goodIn_r _ [8, 9, 10, 11, 12, 13, 3, 14, 1, 2, 4, 15, 16, 17, 18, 19, 20, 21, 22, 23, 24, 25, 26, 27, 28, 29, 30, 31, 32, 33, 34, 35, 36, 37] (by decide +kernel) (by decide +kernel)
set_option maxRecDepth 20000 in
theorem gX7_fault_X7_faultOf : GoodIn wsX7_fault (wsV RX7 101 RX7 yX7_faultOf wsX7_faultOf) := goodIn_app (goodIn_of _ (by decide +kernel)) ggX7_fault_X7_faultOf
theorem dX7_fault_0 : decode cX7_fault 0 = .ok (.iload_n 1, 1) := by decide +kernel
theorem dX7_fault_1 : decode cX7_fault 1 = .ok (.iconst 0, 1) := by decide +kernel
theorem dX7_fault_2 : decode cX7_fault 2 = .ok (.iconst 1, 1) := by decide +kernel
theorem dX7_fault_3 : decode cX7_fault 3 = .ok (.invokestatic 97, 3) := by decide +kernel
theorem dX7_fault_6 : decode cX7_fault 6 = .ok (.ifCond .eq 11, 3) := by decide +kernel
theorem dX7_fault_9 : decode cX7_fault 9 = .ok (.aload_n 0, 1) := by decide +kernel
theorem dX7_fault_10 : decode cX7_fault 10 = .ok (.iload_n 1, 1) := by decide +kernel
theorem dX7_fault_11 : decode cX7_fault 11 = .ok (.invokevirtual 101, 3) := by decide +kernel
theorem dX7_fault_14 : decode cX7_fault 14 = .ok (.goto 5, 3) := by decide +kernel
theorem dX7_fault_17 : decode cX7_fault 17 = .ok (.bipush (-2), 2) := by decide +kernel
theorem dX7_fault_19 : decode cX7_fault 19 = .ok (.ireturn, 1) := by decide +kernel
set_option maxRecDepth 20000 in
theorem ggX7_isPattern_X7_faultOf : GoodIn wsX7_isPattern wsX7_faultOf := goodIn_r _ [5, 6, 7, 8, 9, 10, 4, 11, 12, 13, 14, 15, 16, 17, 18, 19, 20, 21, 22, 23, 24, 25, 26, 27, 28, 29, 30, 31, 32, 33, 34, 35, 36, 37] (by decide +kernel) (by decide +kernel)
set_option maxRecDepth 20000 in
theorem gX7_isPattern_X7_faultOf : GoodIn wsX7_isPattern (wsV RX7 101 RX7 yX7_faultOf wsX7_faultOf) := goodIn_app (goodIn_of _ (by decide +kernel)) ggX7_isPattern_X7_faultOf
theorem dX7_isPattern_0 : decode cX7_isPattern 0 = .ok (.aload_n 0, 1) := by decide +kernel
theorem dX7_isPattern_1 : decode cX7_isPattern 1 = .ok (.iconst 0, 1) := by decide +kernel
theorem dX7_isPattern_2 : decode cX7_isPattern 2 = .ok (.invokevirtual 101, 3) := by decide +kernel
theorem dX7_isPattern_5 : decode cX7_isPattern 5 = .ok (.bipush (-6), 2) := by decide +kernel
theorem dX7_isPattern_7 : decode cX7_isPattern 7 = .ok (.if_icmp .ne 7, 3) := by decide +kernel
theorem dX7_isPattern_10 : decode cX7_isPattern 10 = .ok (.iconst 1, 1) := by decide +kernel
theorem dX7_isPattern_11 : decode cX7_isPattern 11 = .ok (.goto 4, 3) := by decide +kernel
theorem dX7_isPattern_14 : decode cX7_isPattern 14 = .ok (.iconst 0, 1) := by decide +kernel
theorem dX7_isPattern_15 : decode cX7_isPattern 15 = .ok (.ireturn, 1) := by decide +kernel
set_option maxRecDepth 20000 in
theorem ggX7_write_X7_letterAt : GoodIn wsX7_write wsX7_letterAt := goodIn_r _ [7, 8, 9, 10, 11, 12, 13, 14, 15, 16, 17, 18, 19, 20, 21, 22, 23, 24, 25, 26, 27, 28, 29, 30, 31] (by decide +kernel) (by decide +kernel)
set_option maxRecDepth 20000 in
theorem gX7_write_X7_letterAt : GoodIn wsX7_write (wsV RX7 127 RX7 yX7_letterAt wsX7_letterAt) := goodIn_app (goodIn_of _ (by decide +kernel)) ggX7_write_X7_letterAt
theorem dX7_write_0 : decode cX7_write 0 = .ok (.iconst 0, 1) := by decide +kernel
theorem dX7_write_1 : decode cX7_write 1 = .ok (.istore_n 3, 1) := by decide +kernel
theorem dX7_write_2 : decode cX7_write 2 = .ok (.iload_n 3, 1) := by decide +kernel
theorem dX7_write_3 : decode cX7_write 3 = .ok (.iload_n 2, 1) := by decide +kernel
theorem dX7_write_4 : decode cX7_write 4 = .ok (.if_icmp .ge 25, 3) := by decide +kernel
theorem dX7_write_7 : decode cX7_write 7 = .ok (.aload_n 0, 1) := by decide +kernel
theorem dX7_write_8 : decode cX7_write 8 = .ok (.getfield 22, 3) := by decide +kernel
theorem dX7_write_11 : decode cX7_write 11 = .ok (.iload_n 3, 1) := by decide +kernel
theorem dX7_write_12 : decode cX7_write 12 = .ok (.bipush 97, 2) := by decide +kernel
theorem dX7_write_14 : decode cX7_write 14 = .ok (.aload_n 0, 1) := by decide +kernel
theorem dX7_write_15 : decode cX7_write 15 = .ok (.iload_n 1, 1) := by decide +kernel
theorem dX7_write_16 : decode cX7_write 16 = .ok (.iload_n 3, 1) := by decide +kernel
theorem dX7_write_17 : decode cX7_write 17 = .ok (.iadd, 1) := by decide +kernel
theorem dX7_write_18 : decode cX7_write 18 = .ok (.invokevirtual 127, 3) := by decide +kernel
theorem dX7_write_21 : decode cX7_write 21 = .ok (.iadd, 1) := by decide +kernel
theorem dX7_write_22 : decode cX7_write 22 = .ok (.iastore, 1) := by decide +kernel
theorem dX7_write_23 : decode cX7_write 23 = .ok (.iinc 3 1, 3) := by decide +kernel
theorem dX7_write_26 : decode cX7_write 26 = .ok (.goto (-24), 3) := by decide +kernel
theorem dX7_write_29 : decode cX7_write 29 = .ok (.aload_n 0, 1) := by decide +kernel
theorem dX7_write_30 : decode cX7_write 30 = .ok (.iload_n 2, 1) := by decide +kernel
theorem dX7_write_31 : decode cX7_write 31 = .ok (.putfield 104, 3) := by decide +kernel
theorem dX7_write_34 : decode cX7_write 34 = .ok (.iload_n 2, 1) := by decide +kernel
theorem dX7_write_35 : decode cX7_write 35 = .ok (.ireturn, 1) := by decide +kernel
set_option maxRecDepth 20000 in
theorem ggX7_stands_X7_rest : GoodIn wsX7_stands wsX7_rest := goodIn_r _ [6, 7, 8, 14, 15, 16, 17, 18, 19, 20, 21, 22, 23, 24, 25, 26, 27, 28, 29, 30, 31, 32, 33, 34, 35, 36] (by decide +kernel) (by decide +kernel)
set_option maxRecDepth 20000 in
theorem gX7_stands_X7_rest : GoodIn wsX7_stands (wsV RX7 78 RX7 yX7_rest wsX7_rest) := goodIn_app (goodIn_of _ (by decide +kernel)) ggX7_stands_X7_rest
set_option maxRecDepth 20000 in
theorem ggX7_stands_X7_letterAt : GoodIn wsX7_stands wsX7_letterAt := goodIn_r _ [12, 13, 14, 15, 16, 17, 18, 19, 20, 21, 22, 23, 24, 25, 26, 27, 28, 29, 30, 31, 32, 33, 34, 35, 36] (by decide +kernel) (by decide +kernel)
set_option maxRecDepth 20000 in
theorem gX7_stands_X7_letterAt : GoodIn wsX7_stands (wsV RX7 127 RX7 yX7_letterAt wsX7_letterAt) := goodIn_app (goodIn_of _ (by decide +kernel)) ggX7_stands_X7_letterAt
theorem dX7_stands_0 : decode cX7_stands 0 = .ok (.aload_n 0, 1) := by decide +kernel
theorem dX7_stands_1 : decode cX7_stands 1 = .ok (.iconst 0, 1) := by decide +kernel
theorem dX7_stands_2 : decode cX7_stands 2 = .ok (.iload_n 1, 1) := by decide +kernel
theorem dX7_stands_3 : decode cX7_stands 3 = .ok (.invokevirtual 78, 3) := by decide +kernel
theorem dX7_stands_6 : decode cX7_stands 6 = .ok (.iload_n 3, 1) := by decide +kernel
theorem dX7_stands_7 : decode cX7_stands 7 = .ok (.if_icmp .lt 7, 3) := by decide +kernel
theorem dX7_stands_10 : decode cX7_stands 10 = .ok (.iconst 1, 1) := by decide +kernel
theorem dX7_stands_11 : decode cX7_stands 11 = .ok (.goto 4, 3) := by decide +kernel
theorem dX7_stands_14 : decode cX7_stands 14 = .ok (.iconst 0, 1) := by decide +kernel
theorem dX7_stands_15 : decode cX7_stands 15 = .ok (.istore 4, 2) := by decide +kernel
theorem dX7_stands_17 : decode cX7_stands 17 = .ok (.iconst 0, 1) := by decide +kernel
theorem dX7_stands_18 : decode cX7_stands 18 = .ok (.istore 5, 2) := by decide +kernel
theorem dX7_stands_20 : decode cX7_stands 20 = .ok (.iload 5, 2) := by decide +kernel
theorem dX7_stands_22 : decode cX7_stands 22 = .ok (.iload_n 3, 1) := by decide +kernel
theorem dX7_stands_23 : decode cX7_stands 23 = .ok (.if_icmp .ge 44, 3) := by decide +kernel
theorem dX7_stands_26 : decode cX7_stands 26 = .ok (.iload 4, 2) := by decide +kernel
theorem dX7_stands_28 : decode cX7_stands 28 = .ok (.ifCond .eq 39, 3) := by decide +kernel
theorem dX7_stands_31 : decode cX7_stands 31 = .ok (.aload_n 0, 1) := by decide +kernel
theorem dX7_stands_32 : decode cX7_stands 32 = .ok (.iload_n 1, 1) := by decide +kernel
theorem dX7_stands_33 : decode cX7_stands 33 = .ok (.iload 5, 2) := by decide +kernel
theorem dX7_stands_35 : decode cX7_stands 35 = .ok (.iadd, 1) := by decide +kernel
theorem dX7_stands_36 : decode cX7_stands 36 = .ok (.invokevirtual 127, 3) := by decide +kernel
theorem dX7_stands_39 : decode cX7_stands 39 = .ok (.aload_n 0, 1) := by decide +kernel
theorem dX7_stands_40 : decode cX7_stands 40 = .ok (.getfield 22, 3) := by decide +kernel
theorem dX7_stands_43 : decode cX7_stands 43 = .ok (.iload_n 2, 1) := by decide +kernel
theorem dX7_stands_44 : decode cX7_stands 44 = .ok (.iload 5, 2) := by decide +kernel
theorem dX7_stands_46 : decode cX7_stands 46 = .ok (.iadd, 1) := by decide +kernel
theorem dX7_stands_47 : decode cX7_stands 47 = .ok (.iaload, 1) := by decide +kernel
theorem dX7_stands_48 : decode cX7_stands 48 = .ok (.bipush 97, 2) := by decide +kernel
theorem dX7_stands_50 : decode cX7_stands 50 = .ok (.isub, 1) := by decide +kernel
theorem dX7_stands_51 : decode cX7_stands 51 = .ok (.if_icmp .ne 7, 3) := by decide +kernel
theorem dX7_stands_54 : decode cX7_stands 54 = .ok (.iconst 1, 1) := by decide +kernel
theorem dX7_stands_55 : decode cX7_stands 55 = .ok (.goto 4, 3) := by decide +kernel
theorem dX7_stands_58 : decode cX7_stands 58 = .ok (.iconst 0, 1) := by decide +kernel
theorem dX7_stands_59 : decode cX7_stands 59 = .ok (.istore 4, 2) := by decide +kernel
theorem dX7_stands_61 : decode cX7_stands 61 = .ok (.iinc 5 1, 3) := by decide +kernel
theorem dX7_stands_64 : decode cX7_stands 64 = .ok (.goto (-44), 3) := by decide +kernel
theorem dX7_stands_67 : decode cX7_stands 67 = .ok (.iload 4, 2) := by decide +kernel
theorem dX7_stands_69 : decode cX7_stands 69 = .ok (.ireturn, 1) := by decide +kernel
set_option maxRecDepth 20000 in
theorem ggX7_isFactor_X7_stands : GoodIn wsX7_isFactor wsX7_stands := goodIn_r _ [6, 7, 8, 9, 10, 5, 11, 12, 13, 14, 15, 16, 17, 18, 19, 20, 21, 22, 23, 24, 25, 26, 27, 28, 29, 30, 31, 32, 33, 34, 35, 36, 37, 38, 39, 40, 41] (by decide +kernel) (by decide +kernel)
set_option maxRecDepth 20000 in
theorem gX7_isFactor_X7_stands : GoodIn wsX7_isFactor (wsV RX7 133 RX7 yX7_stands wsX7_stands) := goodIn_app (goodIn_of _ (by decide +kernel)) ggX7_isFactor_X7_stands
theorem dX7_isFactor_0 : decode cX7_isFactor 0 = .ok (.iconst 0, 1) := by decide +kernel
theorem dX7_isFactor_1 : decode cX7_isFactor 1 = .ok (.istore_n 3, 1) := by decide +kernel
theorem dX7_isFactor_2 : decode cX7_isFactor 2 = .ok (.iload_n 3, 1) := by decide +kernel
theorem dX7_isFactor_3 : decode cX7_isFactor 3 = .ok (.aload_n 0, 1) := by decide +kernel
theorem dX7_isFactor_4 : decode cX7_isFactor 4 = .ok (.getfield 37, 3) := by decide +kernel
theorem dX7_isFactor_7 : decode cX7_isFactor 7 = .ok (.iconst 0, 1) := by decide +kernel
theorem dX7_isFactor_8 : decode cX7_isFactor 8 = .ok (.iaload, 1) := by decide +kernel
