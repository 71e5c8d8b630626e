theorem dX5_init_1 : decode cX5_init 1 = .ok (.invokespecial 3, 3) := by decide +kernel
theorem dX5_init_4 : decode cX5_init 4 = .ok (.aload_n 0, 1) := by decide +kernel
theorem dX5_init_5 : decode cX5_init 5 = .ok (.bipush 60, 2) := by decide +kernel
theorem dX5_init_7 : decode cX5_init 7 = .ok (.newarray .int, 2) := by decide +kernel
theorem dX5_init_9 : decode cX5_init 9 = .ok (.putfield 9, 3) := by decide +kernel
theorem dX5_init_12 : decode cX5_init 12 = .ok (.aload_n 0, 1) := by decide +kernel
theorem dX5_init_13 : decode cX5_init 13 = .ok (.bipush 60, 2) := by decide +kernel
theorem dX5_init_15 : decode cX5_init 15 = .ok (.newarray .int, 2) := by decide +kernel
theorem dX5_init_17 : decode cX5_init 17 = .ok (.putfield 15, 3) := by decide +kernel
theorem dX5_init_20 : decode cX5_init 20 = .ok (.aload_n 0, 1) := by decide +kernel
theorem dX5_init_21 : decode cX5_init 21 = .ok (.bipush 60, 2) := by decide +kernel
theorem dX5_init_23 : decode cX5_init 23 = .ok (.newarray .int, 2) := by decide +kernel
theorem dX5_init_25 : decode cX5_init 25 = .ok (.putfield 18, 3) := by decide +kernel
theorem dX5_init_28 : decode cX5_init 28 = .ok (.aload_n 0, 1) := by decide +kernel
theorem dX5_init_29 : decode cX5_init 29 = .ok (.bipush 60, 2) := by decide +kernel
theorem dX5_init_31 : decode cX5_init 31 = .ok (.newarray .int, 2) := by decide +kernel
theorem dX5_init_33 : decode cX5_init 33 = .ok (.putfield 21, 3) := by decide +kernel
theorem dX5_init_36 : decode cX5_init 36 = .ok (.aload_n 0, 1) := by decide +kernel
theorem dX5_init_37 : decode cX5_init 37 = .ok (.bipush 6, 2) := by decide +kernel
theorem dX5_init_39 : decode cX5_init 39 = .ok (.newarray .int, 2) := by decide +kernel
theorem dX5_init_41 : decode cX5_init 41 = .ok (.putfield 24, 3) := by decide +kernel
theorem dX5_init_44 : decode cX5_init 44 = .ok (.aload_n 0, 1) := by decide +kernel
theorem dX5_init_45 : decode cX5_init 45 = .ok (.iconst 0, 1) := by decide +kernel
theorem dX5_init_46 : decode cX5_init 46 = .ok (.putfield 27, 3) := by decide +kernel
theorem dX5_init_49 : decode cX5_init 49 = .ok (.aload_n 0, 1) := by decide +kernel
theorem dX5_init_50 : decode cX5_init 50 = .ok (.iconst 0, 1) := by decide +kernel
theorem dX5_init_51 : decode cX5_init 51 = .ok (.putfield 31, 3) := by decide +kernel
theorem dX5_init_54 : decode cX5_init 54 = .ok (.aload_n 0, 1) := by decide +kernel
theorem dX5_init_55 : decode cX5_init 55 = .ok (.iconst (-1), 1) := by decide +kernel
theorem dX5_init_56 : decode cX5_init 56 = .ok (.putfield 34, 3) := by decide +kernel
theorem dX5_init_59 : decode cX5_init 59 = .ok (.return_, 1) := by decide +kernel
theorem dX5_wordCount_0 : decode cX5_wordCount 0 = .ok (.aload_n 0, 1) := by decide +kernel
theorem dX5_wordCount_1 : decode cX5_wordCount 1 = .ok (.getfield 27, 3) := by decide +kernel
theorem dX5_wordCount_4 : decode cX5_wordCount 4 = .ok (.ireturn, 1) := by decide +kernel
theorem dX5_length_0 : decode cX5_length 0 = .ok (.aload_n 0, 1) := by decide +kernel
theorem dX5_length_1 : decode cX5_length 1 = .ok (.getfield 31, 3) := by decide +kernel
theorem dX5_length_4 : decode cX5_length 4 = .ok (.ireturn, 1) := by decide +kernel
theorem dX5_versionTaken_0 : decode cX5_versionTaken 0 = .ok (.aload_n 0, 1) := by decide +kernel
theorem dX5_versionTaken_1 : decode cX5_versionTaken 1 = .ok (.getfield 34, 3) := by decide +kernel
theorem dX5_versionTaken_4 : decode cX5_versionTaken 4 = .ok (.ireturn, 1) := by decide +kernel
theorem dX5_has_0 : decode cX5_has 0 = .ok (.iload_n 1, 1) := by decide +kernel
theorem dX5_has_1 : decode cX5_has 1 = .ok (.ifCond .lt 15, 3) := by decide +kernel
theorem dX5_has_4 : decode cX5_has 4 = .ok (.iload_n 1, 1) := by decide +kernel
theorem dX5_has_5 : decode cX5_has 5 = .ok (.aload_n 0, 1) := by decide +kernel
theorem dX5_has_6 : decode cX5_has 6 = .ok (.getfield 31, 3) := by decide +kernel
theorem dX5_has_9 : decode cX5_has 9 = .ok (.if_icmp .ge 7, 3) := by decide +kernel
theorem dX5_has_12 : decode cX5_has 12 = .ok (.iconst 1, 1) := by decide +kernel
theorem dX5_has_13 : decode cX5_has 13 = .ok (.goto 4, 3) := by decide +kernel
theorem dX5_has_16 : decode cX5_has 16 = .ok (.iconst 0, 1) := by decide +kernel
theorem dX5_has_17 : decode cX5_has 17 = .ok (.ireturn, 1) := by decide +kernel
set_option maxRecDepth 20000 in
theorem ggX5_letterAt_X5_has : GoodIn wsX5_letterAt wsX5_has := goodIn_r _ [6, 7, 8, 9, 10, 11, 12, 13, 14, 15] (by decide +kernel) (by decide +kernel)
set_option maxRecDepth 20000 in
theorem gX5_letterAt_X5_has : GoodIn wsX5_letterAt (wsV RX5 37 RX5 yX5_has wsX5_has) := goodIn_app (goodIn_of _ (by decide +kernel)) ggX5_letterAt_X5_has
theorem dX5_letterAt_0 : decode cX5_letterAt 0 = .ok (.aload_n 0, 1) := by decide +kernel
theorem dX5_letterAt_1 : decode cX5_letterAt 1 = .ok (.iload_n 1, 1) := by decide +kernel
theorem dX5_letterAt_2 : decode cX5_letterAt 2 = .ok (.invokevirtual 37, 3) := by decide +kernel
theorem dX5_letterAt_5 : decode cX5_letterAt 5 = .ok (.ifCond .eq 12, 3) := by decide +kernel
theorem dX5_letterAt_8 : decode cX5_letterAt 8 = .ok (.aload_n 0, 1) := by decide +kernel
theorem dX5_letterAt_9 : decode cX5_letterAt 9 = .ok (.getfield 9, 3) := by decide +kernel
theorem dX5_letterAt_12 : decode cX5_letterAt 12 = .ok (.iload_n 1, 1) := by decide +kernel
theorem dX5_letterAt_13 : decode cX5_letterAt 13 = .ok (.iaload, 1) := by decide +kernel
theorem dX5_letterAt_14 : decode cX5_letterAt 14 = .ok (.goto 4, 3) := by decide +kernel
theorem dX5_letterAt_17 : decode cX5_letterAt 17 = .ok (.iconst 0, 1) := by decide +kernel
theorem dX5_letterAt_18 : decode cX5_letterAt 18 = .ok (.ireturn, 1) := by decide +kernel
set_option maxRecDepth 20000 in
theorem ggX5_wordAt_X5_has : GoodIn wsX5_wordAt wsX5_has := goodIn_r _ [6, 7, 8, 9, 10, 11, 12, 13, 14, 15] (by decide +kernel) (by decide +kernel)
set_option maxRecDepth 20000 in
theorem gX5_wordAt_X5_has : GoodIn wsX5_wordAt (wsV RX5 37 RX5 yX5_has wsX5_has) := goodIn_app (goodIn_of _ (by decide +kernel)) ggX5_wordAt_X5_has
theorem dX5_wordAt_0 : decode cX5_wordAt 0 = .ok (.aload_n 0, 1) := by decide +kernel
theorem dX5_wordAt_1 : decode cX5_wordAt 1 = .ok (.iload_n 1, 1) := by decide +kernel
theorem dX5_wordAt_2 : decode cX5_wordAt 2 = .ok (.invokevirtual 37, 3) := by decide +kernel
theorem dX5_wordAt_5 : decode cX5_wordAt 5 = .ok (.ifCond .eq 12, 3) := by decide +kernel
theorem dX5_wordAt_8 : decode cX5_wordAt 8 = .ok (.aload_n 0, 1) := by decide +kernel
theorem dX5_wordAt_9 : decode cX5_wordAt 9 = .ok (.getfield 15, 3) := by decide +kernel
theorem dX5_wordAt_12 : decode cX5_wordAt 12 = .ok (.iload_n 1, 1) := by decide +kernel
theorem dX5_wordAt_13 : decode cX5_wordAt 13 = .ok (.iaload, 1) := by decide +kernel
theorem dX5_wordAt_14 : decode cX5_wordAt 14 = .ok (.goto 4, 3) := by decide +kernel
theorem dX5_wordAt_17 : decode cX5_wordAt 17 = .ok (.iconst 0, 1) := by decide +kernel
theorem dX5_wordAt_18 : decode cX5_wordAt 18 = .ok (.ireturn, 1) := by decide +kernel
set_option maxRecDepth 20000 in
theorem ggX5_placeAt_X5_has : GoodIn wsX5_placeAt wsX5_has := goodIn_r _ [6, 7, 8, 9, 10, 11, 12, 13, 14, 15] (by decide +kernel) (by decide +kernel)
set_option maxRecDepth 20000 in
theorem gX5_placeAt_X5_has : GoodIn wsX5_placeAt (wsV RX5 37 RX5 yX5_has wsX5_has) := goodIn_app (goodIn_of _ (by decide +kernel)) ggX5_placeAt_X5_has
theorem dX5_placeAt_0 : decode cX5_placeAt 0 = .ok (.aload_n 0, 1) := by decide +kernel
theorem dX5_placeAt_1 : decode cX5_placeAt 1 = .ok (.iload_n 1, 1) := by decide +kernel
theorem dX5_placeAt_2 : decode cX5_placeAt 2 = .ok (.invokevirtual 37, 3) := by decide +kernel
theorem dX5_placeAt_5 : decode cX5_placeAt 5 = .ok (.ifCond .eq 12, 3) := by decide +kernel
theorem dX5_placeAt_8 : decode cX5_placeAt 8 = .ok (.aload_n 0, 1) := by decide +kernel
theorem dX5_placeAt_9 : decode cX5_placeAt 9 = .ok (.getfield 18, 3) := by decide +kernel
theorem dX5_placeAt_12 : decode cX5_placeAt 12 = .ok (.iload_n 1, 1) := by decide +kernel
theorem dX5_placeAt_13 : decode cX5_placeAt 13 = .ok (.iaload, 1) := by decide +kernel
theorem dX5_placeAt_14 : decode cX5_placeAt 14 = .ok (.goto 4, 3) := by decide +kernel
theorem dX5_placeAt_17 : decode cX5_placeAt 17 = .ok (.iconst 0, 1) := by decide +kernel
theorem dX5_placeAt_18 : decode cX5_placeAt 18 = .ok (.ireturn, 1) := by decide +kernel
theorem dX5_wordStart_0 : decode cX5_wordStart 0 = .ok (.iload_n 1, 1) := by decide +kernel
theorem dX5_wordStart_1 : decode cX5_wordStart 1 = .ok (.ifCond .lt 20, 3) := by decide +kernel
theorem dX5_wordStart_4 : decode cX5_wordStart 4 = .ok (.iload_n 1, 1) := by decide +kernel
theorem dX5_wordStart_5 : decode cX5_wordStart 5 = .ok (.aload_n 0, 1) := by decide +kernel
theorem dX5_wordStart_6 : decode cX5_wordStart 6 = .ok (.getfield 27, 3) := by decide +kernel
theorem dX5_wordStart_9 : decode cX5_wordStart 9 = .ok (.if_icmp .ge 12, 3) := by decide +kernel
theorem dX5_wordStart_12 : decode cX5_wordStart 12 = .ok (.aload_n 0, 1) := by decide +kernel
theorem dX5_wordStart_13 : decode cX5_wordStart 13 = .ok (.getfield 24, 3) := by decide +kernel
theorem dX5_wordStart_16 : decode cX5_wordStart 16 = .ok (.iload_n 1, 1) := by decide +kernel
theorem dX5_wordStart_17 : decode cX5_wordStart 17 = .ok (.iaload, 1) := by decide +kernel
theorem dX5_wordStart_18 : decode cX5_wordStart 18 = .ok (.goto 7, 3) := by decide +kernel
theorem dX5_wordStart_21 : decode cX5_wordStart 21 = .ok (.aload_n 0, 1) := by decide +kernel
theorem dX5_wordStart_22 : decode cX5_wordStart 22 = .ok (.getfield 31, 3) := by decide +kernel
theorem dX5_wordStart_25 : decode cX5_wordStart 25 = .ok (.ireturn, 1) := by decide +kernel
set_option maxRecDepth 20000 in
theorem ggX5_wordEnd_X5_wordStart : GoodIn wsX5_wordEnd wsX5_wordStart := goodIn_r _ [5, 6, 7, 8, 9, 10, 11, 12, 13, 14, 15, 16] (by decide +kernel) (by decide +kernel)
set_option maxRecDepth 20000 in
theorem gX5_wordEnd_X5_wordStart : GoodIn wsX5_wordEnd (wsV RX5 41 RX5 yX5_wordStart wsX5_wordStart) := goodIn_app (goodIn_of _ (by decide +kernel)) ggX5_wordEnd_X5_wordStart
theorem dX5_wordEnd_0 : decode cX5_wordEnd 0 = .ok (.aload_n 0, 1) := by decide +kernel
theorem dX5_wordEnd_1 : decode cX5_wordEnd 1 = .ok (.iload_n 1, 1) := by decide +kernel
theorem dX5_wordEnd_2 : decode cX5_wordEnd 2 = .ok (.iconst 1, 1) := by decide +kernel
theorem dX5_wordEnd_3 : decode cX5_wordEnd 3 = .ok (.iadd, 1) := by decide +kernel
theorem dX5_wordEnd_4 : decode cX5_wordEnd 4 = .ok (.invokevirtual 41, 3) := by decide +kernel
theorem dX5_wordEnd_7 : decode cX5_wordEnd 7 = .ok (.ireturn, 1) := by decide +kernel
set_option maxRecDepth 20000 in
theorem ggX5_placeCode_X5_wordAt : GoodIn wsX5_placeCode wsX5_wordAt := goodIn_r _ [5, 6, 7, 8, 9, 4, 10, 11, 17, 18, 19, 20, 21, 22, 23, 24] (by decide +kernel) (by decide +kernel)
set_option maxRecDepth 20000 in
theorem gX5_placeCode_X5_wordAt : GoodIn wsX5_placeCode (wsV RX5 45 RX5 yX5_wordAt wsX5_wordAt) := goodIn_app (goodIn_of _ (by decide +kernel)) ggX5_placeCode_X5_wordAt
set_option maxRecDepth 20000 in
theorem ggX5_placeCode_X5_placeAt : GoodIn wsX5_placeCode wsX5_placeAt := goodIn_r _ [15, 16, 7, 8, 9, 4, 10, 11, 17, 18, 19, 20, 21, 22, 23, 24] (by decide +kernel) (by decide +kernel)
set_option maxRecDepth 20000 in
theorem gX5_placeCode_X5_placeAt : GoodIn wsX5_placeCode (wsV RX5 48 RX5 yX5_placeAt wsX5_placeAt) := goodIn_app (goodIn_of _ (by decide +kernel)) ggX5_placeCode_X5_placeAt
theorem dX5_placeCode_0 : decode cX5_placeCode 0 = .ok (.bipush 100, 2) := by decide +kernel
theorem dX5_placeCode_2 : decode cX5_placeCode 2 = .ok (.aload_n 0, 1) := by decide +kernel
theorem dX5_placeCode_3 : decode cX5_placeCode 3 = .ok (.iload_n 1, 1) := by decide +kernel
theorem dX5_placeCode_4 : decode cX5_placeCode 4 = .ok (.invokevirtual 45, 3) := by decide +kernel
theorem dX5_placeCode_7 : decode cX5_placeCode 7 = .ok (.imul, 1) := by decide +kernel
theorem dX5_placeCode_8 : decode cX5_placeCode 8 = .ok (.aload_n 0, 1) := by decide +kernel
theorem dX5_placeCode_9 : decode cX5_placeCode 9 = .ok (.iload_n 1, 1) := by decide +kernel
theorem dX5_placeCode_10 : decode cX5_placeCode 10 = .ok (.invokevirtual 48, 3) := by decide +kernel
theorem dX5_placeCode_13 : decode cX5_placeCode 13 = .ok (.iadd, 1) := by decide +kernel
theorem dX5_placeCode_14 : decode cX5_placeCode 14 = .ok (.ireturn, 1) := by decide +kernel
set_option maxRecDepth 20000 in
theorem ggX5_lettersFrom_X5_has : GoodIn wsX5_lettersFrom wsX5_has := goodIn_r _ [6, 7, 8, 9, 10, 11, 12, 13, 14, 15] (by decide +kernel) (by decide +kernel)
set_option maxRecDepth 20000 in
theorem gX5_lettersFrom_X5_has : GoodIn wsX5_lettersFrom (wsV RX5 37 RX5 yX5_has wsX5_has) := goodIn_app (goodIn_of _ (by decide +kernel)) ggX5_lettersFrom_X5_has
theorem dX5_lettersFrom_0 : decode cX5_lettersFrom 0 = .ok (.aload_n 0, 1) := by decide +kernel
theorem dX5_lettersFrom_1 : decode cX5_lettersFrom 1 = .ok (.iload_n 1, 1) := by decide +kernel
theorem dX5_lettersFrom_2 : decode cX5_lettersFrom 2 = .ok (.invokevirtual 37, 3) := by decide +kernel
theorem dX5_lettersFrom_5 : decode cX5_lettersFrom 5 = .ok (.ifCond .eq 12, 3) := by decide +kernel
theorem dX5_lettersFrom_8 : decode cX5_lettersFrom 8 = .ok (.aload_n 0, 1) := by decide +kernel
theorem dX5_lettersFrom_9 : decode cX5_lettersFrom 9 = .ok (.getfield 21, 3) := by decide +kernel
theorem dX5_lettersFrom_12 : decode cX5_lettersFrom 12 = .ok (.iload_n 1, 1) := by decide +kernel
theorem dX5_lettersFrom_13 : decode cX5_lettersFrom 13 = .ok (.iaload, 1) := by decide +kernel
theorem dX5_lettersFrom_14 : decode cX5_lettersFrom 14 = .ok (.goto 4, 3) := by decide +kernel
theorem dX5_lettersFrom_17 : decode cX5_lettersFrom 17 = .ok (.iconst 0, 1) := by decide +kernel
theorem dX5_lettersFrom_18 : decode cX5_lettersFrom 18 = .ok (.ireturn, 1) := by decide +kernel
set_option maxRecDepth 20000 in
theorem ggX5_takeVersion_X2_wordsIn : GoodIn wsX5_takeVersion wsX2_wordsIn := goodIn_r _ [15, 16, 17, 18, 19, 14, 20, 21, 68, 69, 70, 71, 72] (by decide +kernel) (by decide +kernel)
set_option maxRecDepth 20000 in
theorem gX5_takeVersion_X2_wordsIn : GoodIn wsX5_takeVersion (wsV RX5 51 RX2 yX2_wordsIn wsX2_wordsIn) := goodIn_app (goodIn_of _ (by decide +kernel)) ggX5_takeVersion_X2_wordsIn
set_option maxRecDepth 20000 in
theorem ggX5_takeVersion_X2_lettersIn : GoodIn wsX5_takeVersion wsX2_lettersIn := goodIn_r _ [25, 26, 17, 18, 19, 14, 20, 21, 68, 69, 70, 71, 72] (by decide +kernel) (by decide +kernel)
set_option maxRecDepth 20000 in
theorem gX5_takeVersion_X2_lettersIn : GoodIn wsX5_takeVersion (wsV RX5 62 RX2 yX2_lettersIn wsX2_lettersIn) := goodIn_app (goodIn_of _ (by decide +kernel)) ggX5_takeVersion_X2_lettersIn
set_option maxRecDepth 20000 in
theorem ggX5_takeVersion_X2_stepOf : GoodIn wsX5_takeVersion wsX2_stepOf := goodIn_r _ [30, 31, 17, 18, 19, 14, 20, 21, 68, 69, 70, 71, 72] (by decide +kernel) (by decide +kernel)
set_option maxRecDepth 20000 in
theorem gX5_takeVersion_X2_stepOf : GoodIn wsX5_takeVersion (wsV RX5 65 RX2 yX2_stepOf wsX2_stepOf) := goodIn_app (goodIn_of _ (by decide +kernel)) ggX5_takeVersion_X2_stepOf
set_option maxRecDepth 20000 in
theorem ggX5_takeVersion_X5_putStart : GoodIn wsX5_takeVersion wsX5_putStart := goodIn_r _ [36, 37, 60, 61, 62, 63, 64, 65, 66, 67] (by decide +kernel) (by decide +kernel)
set_option maxRecDepth 20000 in
theorem gX5_takeVersion_X5_putStart : GoodIn wsX5_takeVersion (wsV RX5 68 RX5 yX5_putStart wsX5_putStart) := goodIn_app (goodIn_of _ (by decide +kernel)) ggX5_takeVersion_X5_putStart
set_option maxRecDepth 20000 in
theorem ggX5_takeVersion_X5_putLetter : GoodIn wsX5_takeVersion wsX5_putLetter := goodIn_r _ [41, 42, 9, 43, 44, 45, 35, 46, 7, 60, 61, 62, 63, 64, 65, 66, 67] (by decide +kernel) (by decide +kernel)
set_option maxRecDepth 20000 in
theorem gX5_takeVersion_X5_putLetter : GoodIn wsX5_takeVersion (wsV RX5 72 RX5 yX5_putLetter wsX5_putLetter) := goodIn_app (goodIn_of _ (by decide +kernel)) ggX5_takeVersion_X5_putLetter
set_option maxRecDepth 20000 in
theorem ggX5_takeVersion_X2_parentOf : GoodIn wsX5_takeVersion wsX2_parentOf := goodIn_r _ [50, 51, 17, 18, 19, 14, 20, 21, 68, 69, 70, 71, 72] (by decide +kernel) (by decide +kernel)
set_option maxRecDepth 20000 in
theorem gX5_takeVersion_X2_parentOf : GoodIn wsX5_takeVersion (wsV RX5 76 RX2 yX2_parentOf wsX2_parentOf) := goodIn_app (goodIn_of _ (by decide +kernel)) ggX5_takeVersion_X2_parentOf
set_option maxRecDepth 20000 in
theorem ggX5_takeVersion_X5_wordStart : GoodIn wsX5_takeVersion wsX5_wordStart := goodIn_r _ [55, 6, 37, 7, 60, 61, 62, 63, 64, 65, 66, 67] (by decide +kernel) (by decide +kernel)
set_option maxRecDepth 20000 in
theorem gX5_takeVersion_X5_wordStart : GoodIn wsX5_takeVersion (wsV RX5 41 RX5 yX5_wordStart wsX5_wordStart) := goodIn_app (goodIn_of _ (by decide +kernel)) ggX5_takeVersion_X5_wordStart
set_option maxRecDepth 20000 in
theorem ggX5_takeVersion_X5_wordEnd : GoodIn wsX5_takeVersion wsX5_wordEnd := goodIn_r _ [59, 52, 53, 54, 35, 55, 6, 37, 7, 60, 61, 62, 63, 64, 65, 66, 67] (by decide +kernel) (by decide +kernel)
set_option maxRecDepth 20000 in
theorem gX5_takeVersion_X5_wordEnd : GoodIn wsX5_takeVersion (wsV RX5 79 RX5 yX5_wordEnd wsX5_wordEnd) := goodIn_app (goodIn_of _ (by decide +kernel)) ggX5_takeVersion_X5_wordEnd
theorem dX5_takeVersion_0 : decode cX5_takeVersion 0 = .ok (.aload_n 0, 1) := by decide +kernel
theorem dX5_takeVersion_1 : decode cX5_takeVersion 1 = .ok (.getfield 34, 3) := by decide +kernel
theorem dX5_takeVersion_4 : decode cX5_takeVersion 4 = .ok (.iload_n 2, 1) := by decide +kernel
theorem dX5_takeVersion_5 : decode cX5_takeVersion 5 = .ok (.if_icmp .ne 4, 3) := by decide +kernel
theorem dX5_takeVersion_8 : decode cX5_takeVersion 8 = .ok (.return_, 1) := by decide +kernel
theorem dX5_takeVersion_9 : decode cX5_takeVersion 9 = .ok (.aload_n 0, 1) := by decide +kernel
theorem dX5_takeVersion_10 : decode cX5_takeVersion 10 = .ok (.iload_n 2, 1) := by decide +kernel
theorem dX5_takeVersion_11 : decode cX5_takeVersion 11 = .ok (.putfield 34, 3) := by decide +kernel
theorem dX5_takeVersion_14 : decode cX5_takeVersion 14 = .ok (.aload_n 0, 1) := by decide +kernel
theorem dX5_takeVersion_15 : decode cX5_takeVersion 15 = .ok (.aload_n 1, 1) := by decide +kernel
theorem dX5_takeVersion_16 : decode cX5_takeVersion 16 = .ok (.iload_n 2, 1) := by decide +kernel
theorem dX5_takeVersion_17 : decode cX5_takeVersion 17 = .ok (.invokevirtual 51, 3) := by decide +kernel
theorem dX5_takeVersion_20 : decode cX5_takeVersion 20 = .ok (.bipush 6, 2) := by decide +kernel
theorem dX5_takeVersion_22 : decode cX5_takeVersion 22 = .ok (.invokestatic 56, 3) := by decide +kernel
theorem dX5_takeVersion_25 : decode cX5_takeVersion 25 = .ok (.putfield 27, 3) := by decide +kernel
theorem dX5_takeVersion_28 : decode cX5_takeVersion 28 = .ok (.aload_n 0, 1) := by decide +kernel
theorem dX5_takeVersion_29 : decode cX5_takeVersion 29 = .ok (.aload_n 1, 1) := by decide +kernel
theorem dX5_takeVersion_30 : decode cX5_takeVersion 30 = .ok (.iload_n 2, 1) := by decide +kernel
theorem dX5_takeVersion_31 : decode cX5_takeVersion 31 = .ok (.invokevirtual 62, 3) := by decide +kernel
theorem dX5_takeVersion_34 : decode cX5_takeVersion 34 = .ok (.bipush 60, 2) := by decide +kernel
theorem dX5_takeVersion_36 : decode cX5_takeVersion 36 = .ok (.invokestatic 56, 3) := by decide +kernel
theorem dX5_takeVersion_39 : decode cX5_takeVersion 39 = .ok (.putfield 31, 3) := by decide +kernel
theorem dX5_takeVersion_42 : decode cX5_takeVersion 42 = .ok (.iload_n 2, 1) := by decide +kernel
theorem dX5_takeVersion_43 : decode cX5_takeVersion 43 = .ok (.istore_n 3, 1) := by decide +kernel
theorem dX5_takeVersion_44 : decode cX5_takeVersion 44 = .ok (.iconst 0, 1) := by decide +kernel
theorem dX5_takeVersion_45 : decode cX5_takeVersion 45 = .ok (.istore 4, 2) := by decide +kernel
theorem dX5_takeVersion_47 : decode cX5_takeVersion 47 = .ok (.iload 4, 2) := by decide +kernel
theorem dX5_takeVersion_49 : decode cX5_takeVersion 49 = .ok (.sipush 400, 3) := by decide +kernel
theorem dX5_takeVersion_52 : decode cX5_takeVersion 52 = .ok (.if_icmp .ge 69, 3) := by decide +kernel
theorem dX5_takeVersion_55 : decode cX5_takeVersion 55 = .ok (.iload_n 3, 1) := by decide +kernel
theorem dX5_takeVersion_56 : decode cX5_takeVersion 56 = .ok (.ifCond .le 65, 3) := by decide +kernel
theorem dX5_takeVersion_59 : decode cX5_takeVersion 59 = .ok (.aload_n 1, 1) := by decide +kernel
theorem dX5_takeVersion_60 : decode cX5_takeVersion 60 = .ok (.iload_n 3, 1) := by decide +kernel
theorem dX5_takeVersion_61 : decode cX5_takeVersion 61 = .ok (.invokevirtual 51, 3) := by decide +kernel
theorem dX5_takeVersion_64 : decode cX5_takeVersion 64 = .ok (.iconst 1, 1) := by decide +kernel
theorem dX5_takeVersion_65 : decode cX5_takeVersion 65 = .ok (.isub, 1) := by decide +kernel
theorem dX5_takeVersion_66 : decode cX5_takeVersion 66 = .ok (.istore 5, 2) := by decide +kernel
theorem dX5_takeVersion_68 : decode cX5_takeVersion 68 = .ok (.aload_n 1, 1) := by decide +kernel
theorem dX5_takeVersion_69 : decode cX5_takeVersion 69 = .ok (.iload_n 3, 1) := by decide +kernel
theorem dX5_takeVersion_70 : decode cX5_takeVersion 70 = .ok (.invokevirtual 65, 3) := by decide +kernel
theorem dX5_takeVersion_73 : decode cX5_takeVersion 73 = .ok (.iconst (-1), 1) := by decide +kernel
theorem dX5_takeVersion_74 : decode cX5_takeVersion 74 = .ok (.if_icmp .ne 17, 3) := by decide +kernel
theorem dX5_takeVersion_77 : decode cX5_takeVersion 77 = .ok (.aload_n 0, 1) := by decide +kernel
theorem dX5_takeVersion_78 : decode cX5_takeVersion 78 = .ok (.iload 5, 2) := by decide +kernel
theorem dX5_takeVersion_80 : decode cX5_takeVersion 80 = .ok (.aload_n 1, 1) := by decide +kernel
theorem dX5_takeVersion_81 : decode cX5_takeVersion 81 = .ok (.iload_n 3, 1) := by decide +kernel
theorem dX5_takeVersion_82 : decode cX5_takeVersion 82 = .ok (.invokevirtual 62, 3) := by decide +kernel
theorem dX5_takeVersion_85 : decode cX5_takeVersion 85 = .ok (.invokevirtual 68, 3) := by decide +kernel
theorem dX5_takeVersion_88 : decode cX5_takeVersion 88 = .ok (.goto 21, 3) := by decide +kernel
theorem dX5_takeVersion_91 : decode cX5_takeVersion 91 = .ok (.aload_n 0, 1) := by decide +kernel
theorem dX5_takeVersion_92 : decode cX5_takeVersion 92 = .ok (.aload_n 1, 1) := by decide +kernel
theorem dX5_takeVersion_93 : decode cX5_takeVersion 93 = .ok (.iload_n 3, 1) := by decide +kernel
theorem dX5_takeVersion_94 : decode cX5_takeVersion 94 = .ok (.invokevirtual 62, 3) := by decide +kernel
theorem dX5_takeVersion_97 : decode cX5_takeVersion 97 = .ok (.iconst 1, 1) := by decide +kernel
theorem dX5_takeVersion_98 : decode cX5_takeVersion 98 = .ok (.isub, 1) := by decide +kernel
theorem dX5_takeVersion_99 : decode cX5_takeVersion 99 = .ok (.aload_n 1, 1) := by decide +kernel
theorem dX5_takeVersion_100 : decode cX5_takeVersion 100 = .ok (.iload_n 3, 1) := by decide +kernel
theorem dX5_takeVersion_101 : decode cX5_takeVersion 101 = .ok (.invokevirtual 65, 3) := by decide +kernel
theorem dX5_takeVersion_104 : decode cX5_takeVersion 104 = .ok (.iload 5, 2) := by decide +kernel
theorem dX5_takeVersion_106 : decode cX5_takeVersion 106 = .ok (.invokevirtual 72, 3) := by decide +kernel
theorem dX5_takeVersion_109 : decode cX5_takeVersion 109 = .ok (.aload_n 1, 1) := by decide +kernel
theorem dX5_takeVersion_110 : decode cX5_takeVersion 110 = .ok (.iload_n 3, 1) := by decide +kernel
theorem dX5_takeVersion_111 : decode cX5_takeVersion 111 = .ok (.invokevirtual 76, 3) := by decide +kernel
theorem dX5_takeVersion_114 : decode cX5_takeVersion 114 = .ok (.istore_n 3, 1) := by decide +kernel
theorem dX5_takeVersion_115 : decode cX5_takeVersion 115 = .ok (.iinc 4 1, 3) := by decide +kernel
theorem dX5_takeVersion_118 : decode cX5_takeVersion 118 = .ok (.goto (-71), 3) := by decide +kernel
theorem dX5_takeVersion_121 : decode cX5_takeVersion 121 = .ok (.iconst 0, 1) := by decide +kernel
theorem dX5_takeVersion_122 : decode cX5_takeVersion 122 = .ok (.istore 4, 2) := by decide +kernel
theorem dX5_takeVersion_124 : decode cX5_takeVersion 124 = .ok (.iload 4, 2) := by decide +kernel
theorem dX5_takeVersion_126 : decode cX5_takeVersion 126 = .ok (.aload_n 0, 1) := by decide +kernel
theorem dX5_takeVersion_127 : decode cX5_takeVersion 127 = .ok (.getfield 31, 3) := by decide +kernel
theorem dX5_takeVersion_130 : decode cX5_takeVersion 130 = .ok (.if_icmp .ge 51, 3) := by decide +kernel
theorem dX5_takeVersion_133 : decode cX5_takeVersion 133 = .ok (.aload_n 0, 1) := by decide +kernel
theorem dX5_takeVersion_134 : decode cX5_takeVersion 134 = .ok (.getfield 18, 3) := by decide +kernel
theorem dX5_takeVersion_137 : decode cX5_takeVersion 137 = .ok (.iload 4, 2) := by decide +kernel
theorem dX5_takeVersion_139 : decode cX5_takeVersion 139 = .ok (.iload 4, 2) := by decide +kernel
theorem dX5_takeVersion_141 : decode cX5_takeVersion 141 = .ok (.aload_n 0, 1) := by decide +kernel
theorem dX5_takeVersion_142 : decode cX5_takeVersion 142 = .ok (.aload_n 0, 1) := by decide +kernel
theorem dX5_takeVersion_143 : decode cX5_takeVersion 143 = .ok (.getfield 15, 3) := by decide +kernel
theorem dX5_takeVersion_146 : decode cX5_takeVersion 146 = .ok (.iload 4, 2) := by decide +kernel
theorem dX5_takeVersion_148 : decode cX5_takeVersion 148 = .ok (.iaload, 1) := by decide +kernel
theorem dX5_takeVersion_149 : decode cX5_takeVersion 149 = .ok (.invokevirtual 41, 3) := by decide +kernel
theorem dX5_takeVersion_152 : decode cX5_takeVersion 152 = .ok (.isub, 1) := by decide +kernel
theorem dX5_takeVersion_153 : decode cX5_takeVersion 153 = .ok (.iastore, 1) := by decide +kernel
theorem dX5_takeVersion_154 : decode cX5_takeVersion 154 = .ok (.aload_n 0, 1) := by decide +kernel
theorem dX5_takeVersion_155 : decode cX5_takeVersion 155 = .ok (.getfield 21, 3) := by decide +kernel
theorem dX5_takeVersion_158 : decode cX5_takeVersion 158 = .ok (.iload 4, 2) := by decide +kernel
theorem dX5_takeVersion_160 : decode cX5_takeVersion 160 = .ok (.aload_n 0, 1) := by decide +kernel
theorem dX5_takeVersion_161 : decode cX5_takeVersion 161 = .ok (.aload_n 0, 1) := by decide +kernel
theorem dX5_takeVersion_162 : decode cX5_takeVersion 162 = .ok (.getfield 15, 3) := by decide +kernel
theorem dX5_takeVersion_165 : decode cX5_takeVersion 165 = .ok (.iload 4, 2) := by decide +kernel
theorem dX5_takeVersion_167 : decode cX5_takeVersion 167 = .ok (.iaload, 1) := by decide +kernel
theorem dX5_takeVersion_168 : decode cX5_takeVersion 168 = .ok (.invokevirtual 79, 3) := by decide +kernel
theorem dX5_takeVersion_171 : decode cX5_takeVersion 171 = .ok (.iload 4, 2) := by decide +kernel
theorem dX5_takeVersion_173 : decode cX5_takeVersion 173 = .ok (.isub, 1) := by decide +kernel
theorem dX5_takeVersion_174 : decode cX5_takeVersion 174 = .ok (.iastore, 1) := by decide +kernel
theorem dX5_takeVersion_175 : decode cX5_takeVersion 175 = .ok (.iinc 4 1, 3) := by decide +kernel
theorem dX5_takeVersion_178 : decode cX5_takeVersion 178 = .ok (.goto (-54), 3) := by decide +kernel
theorem dX5_takeVersion_181 : decode cX5_takeVersion 181 = .ok (.return_, 1) := by decide +kernel
set_option maxRecDepth 20000 in
theorem ggX5_takePattern_X3_size : GoodIn wsX5_takePattern wsX3_size := goodIn_r _ [7, 8, 40, 41] (by decide +kernel) (by decide +kernel)
set_option maxRecDepth 20000 in
theorem gX5_takePattern_X3_size : GoodIn wsX5_takePattern (wsV RX5 82 RX3 yX3_size wsX3_size) := goodIn_app (goodIn_of _ (by decide +kernel)) ggX5_takePattern_X3_size
set_option maxRecDepth 20000 in
theorem ggX5_takePattern_X5_becomeOneWord : GoodIn wsX5_takePattern wsX5_becomeOneWord := goodIn_r _ [13, 14, 15, 16, 17, 18, 19, 20, 21, 22, 23, 1, 24, 25, 26, 32, 33, 34, 35, 36, 37, 38, 39] (by decide +kernel) (by decide +kernel)
set_option maxRecDepth 20000 in
theorem gX5_takePattern_X5_becomeOneWord : GoodIn wsX5_takePattern (wsV RX5 88 RX5 yX5_becomeOneWord wsX5_becomeOneWord) := goodIn_app (goodIn_of _ (by decide +kernel)) ggX5_takePattern_X5_becomeOneWord
set_option maxRecDepth 20000 in
theorem ggX5_takePattern_X3_characterAt : GoodIn wsX5_takePattern wsX3_characterAt := goodIn_r _ [30, 8, 31, 40, 41] (by decide +kernel) (by decide +kernel)
set_option maxRecDepth 20000 in
theorem gX5_takePattern_X3_characterAt : GoodIn wsX5_takePattern (wsV RX5 92 RX3 yX3_characterAt wsX3_characterAt) := goodIn_app (goodIn_of _ (by decide +kernel)) ggX5_takePattern_X3_characterAt
theorem dX5_takePattern_0 : decode cX5_takePattern 0 = .ok (.aload_n 0, 1) := by decide +kernel
theorem dX5_takePattern_1 : decode cX5_takePattern 1 = .ok (.aload_n 1, 1) := by decide +kernel
theorem dX5_takePattern_2 : decode cX5_takePattern 2 = .ok (.invokevirtual 82, 3) := by decide +kernel
theorem dX5_takePattern_5 : decode cX5_takePattern 5 = .ok (.invokevirtual 88, 3) := by decide +kernel
theorem dX5_takePattern_8 : decode cX5_takePattern 8 = .ok (.iconst 0, 1) := by decide +kernel
theorem dX5_takePattern_9 : decode cX5_takePattern 9 = .ok (.istore_n 2, 1) := by decide +kernel
theorem dX5_takePattern_10 : decode cX5_takePattern 10 = .ok (.iload_n 2, 1) := by decide +kernel
theorem dX5_takePattern_11 : decode cX5_takePattern 11 = .ok (.aload_n 0, 1) := by decide +kernel
theorem dX5_takePattern_12 : decode cX5_takePattern 12 = .ok (.getfield 31, 3) := by decide +kernel
theorem dX5_takePattern_15 : decode cX5_takePattern 15 = .ok (.if_icmp .ge 23, 3) := by decide +kernel
theorem dX5_takePattern_18 : decode cX5_takePattern 18 = .ok (.aload_n 0, 1) := by decide +kernel
theorem dX5_takePattern_19 : decode cX5_takePattern 19 = .ok (.getfield 9, 3) := by decide +kernel
theorem dX5_takePattern_22 : decode cX5_takePattern 22 = .ok (.iload_n 2, 1) := by decide +kernel
theorem dX5_takePattern_23 : decode cX5_takePattern 23 = .ok (.aload_n 1, 1) := by decide +kernel
theorem dX5_takePattern_24 : decode cX5_takePattern 24 = .ok (.iload_n 2, 1) := by decide +kernel
theorem dX5_takePattern_25 : decode cX5_takePattern 25 = .ok (.invokevirtual 92, 3) := by decide +kernel
theorem dX5_takePattern_28 : decode cX5_takePattern 28 = .ok (.bipush 97, 2) := by decide +kernel
theorem dX5_takePattern_30 : decode cX5_takePattern 30 = .ok (.isub, 1) := by decide +kernel
theorem dX5_takePattern_31 : decode cX5_takePattern 31 = .ok (.iastore, 1) := by decide +kernel
theorem dX5_takePattern_32 : decode cX5_takePattern 32 = .ok (.iinc 2 1, 3) := by decide +kernel
theorem dX5_takePattern_35 : decode cX5_takePattern 35 = .ok (.goto (-25), 3) := by decide +kernel
theorem dX5_takePattern_38 : decode cX5_takePattern 38 = .ok (.return_, 1) := by decide +kernel
set_option maxRecDepth 20000 in
theorem ggX5_takeFirstSequence_X5_becomeOneWord : GoodIn wsX5_takeFirstSequence wsX5_becomeOneWord := goodIn_r _ [7, 8, 9, 10, 11, 12, 13, 14, 15, 16, 17, 1, 18, 19, 20, 21, 22, 23, 24, 25, 26, 27, 28] (by decide +kernel) (by decide +kernel)
set_option maxRecDepth 20000 in
theorem gX5_takeFirstSequence_X5_becomeOneWord : GoodIn wsX5_takeFirstSequence (wsV RX5 88 RX5 yX5_becomeOneWord wsX5_becomeOneWord) := goodIn_app (goodIn_of _ (by decide +kernel)) ggX5_takeFirstSequence_X5_becomeOneWord
theorem dX5_takeFirstSequence_0 : decode cX5_takeFirstSequence 0 = .ok (.aload_n 0, 1) := by decide +kernel
theorem dX5_takeFirstSequence_1 : decode cX5_takeFirstSequence 1 = .ok (.iload_n 1, 1) := by decide +kernel
theorem dX5_takeFirstSequence_2 : decode cX5_takeFirstSequence 2 = .ok (.invokevirtual 88, 3) := by decide +kernel
theorem dX5_takeFirstSequence_5 : decode cX5_takeFirstSequence 5 = .ok (.iconst 0, 1) := by decide +kernel
theorem dX5_takeFirstSequence_6 : decode cX5_takeFirstSequence 6 = .ok (.istore_n 2, 1) := by decide +kernel
theorem dX5_takeFirstSequence_7 : decode cX5_takeFirstSequence 7 = .ok (.iload_n 2, 1) := by decide +kernel
theorem dX5_takeFirstSequence_8 : decode cX5_takeFirstSequence 8 = .ok (.aload_n 0, 1) := by decide +kernel
theorem dX5_takeFirstSequence_9 : decode cX5_takeFirstSequence 9 = .ok (.getfield 31, 3) := by decide +kernel
theorem dX5_takeFirstSequence_12 : decode cX5_takeFirstSequence 12 = .ok (.if_icmp .ge 16, 3) := by decide +kernel
theorem dX5_takeFirstSequence_15 : decode cX5_takeFirstSequence 15 = .ok (.aload_n 0, 1) := by decide +kernel
theorem dX5_takeFirstSequence_16 : decode cX5_takeFirstSequence 16 = .ok (.getfield 9, 3) := by decide +kernel
theorem dX5_takeFirstSequence_19 : decode cX5_takeFirstSequence 19 = .ok (.iload_n 2, 1) := by decide +kernel
theorem dX5_takeFirstSequence_20 : decode cX5_takeFirstSequence 20 = .ok (.iconst 0, 1) := by decide +kernel
theorem dX5_takeFirstSequence_21 : decode cX5_takeFirstSequence 21 = .ok (.iastore, 1) := by decide +kernel
theorem dX5_takeFirstSequence_22 : decode cX5_takeFirstSequence 22 = .ok (.iinc 2 1, 3) := by decide +kernel
theorem dX5_takeFirstSequence_25 : decode cX5_takeFirstSequence 25 = .ok (.goto (-18), 3) := by decide +kernel
theorem dX5_takeFirstSequence_28 : decode cX5_takeFirstSequence 28 = .ok (.return_, 1) := by decide +kernel
theorem dX5_becomeOneWord_0 : decode cX5_becomeOneWord 0 = .ok (.aload_n 0, 1) := by decide +kernel
theorem dX5_becomeOneWord_1 : decode cX5_becomeOneWord 1 = .ok (.iconst (-1), 1) := by decide +kernel
theorem dX5_becomeOneWord_2 : decode cX5_becomeOneWord 2 = .ok (.putfield 34, 3) := by decide +kernel
theorem dX5_becomeOneWord_5 : decode cX5_becomeOneWord 5 = .ok (.aload_n 0, 1) := by decide +kernel
theorem dX5_becomeOneWord_6 : decode cX5_becomeOneWord 6 = .ok (.iconst 1, 1) := by decide +kernel
theorem dX5_becomeOneWord_7 : decode cX5_becomeOneWord 7 = .ok (.putfield 27, 3) := by decide +kernel
theorem dX5_becomeOneWord_10 : decode cX5_becomeOneWord 10 = .ok (.aload_n 0, 1) := by decide +kernel
theorem dX5_becomeOneWord_11 : decode cX5_becomeOneWord 11 = .ok (.getfield 24, 3) := by decide +kernel
theorem dX5_becomeOneWord_14 : decode cX5_becomeOneWord 14 = .ok (.iconst 0, 1) := by decide +kernel
theorem dX5_becomeOneWord_15 : decode cX5_becomeOneWord 15 = .ok (.iconst 0, 1) := by decide +kernel
theorem dX5_becomeOneWord_16 : decode cX5_becomeOneWord 16 = .ok (.iastore, 1) := by decide +kernel
theorem dX5_becomeOneWord_17 : decode cX5_becomeOneWord 17 = .ok (.aload_n 0, 1) := by decide +kernel
theorem dX5_becomeOneWord_18 : decode cX5_becomeOneWord 18 = .ok (.iconst 0, 1) := by decide +kernel
theorem dX5_becomeOneWord_19 : decode cX5_becomeOneWord 19 = .ok (.iload_n 1, 1) := by decide +kernel
theorem dX5_becomeOneWord_20 : decode cX5_becomeOneWord 20 = .ok (.bipush 60, 2) := by decide +kernel
theorem dX5_becomeOneWord_22 : decode cX5_becomeOneWord 22 = .ok (.invokestatic 56, 3) := by decide +kernel
theorem dX5_becomeOneWord_25 : decode cX5_becomeOneWord 25 = .ok (.invokestatic 95, 3) := by decide +kernel
theorem dX5_becomeOneWord_28 : decode cX5_becomeOneWord 28 = .ok (.putfield 31, 3) := by decide +kernel
theorem dX5_becomeOneWord_31 : decode cX5_becomeOneWord 31 = .ok (.iconst 0, 1) := by decide +kernel
theorem dX5_becomeOneWord_32 : decode cX5_becomeOneWord 32 = .ok (.istore_n 2, 1) := by decide +kernel
theorem dX5_becomeOneWord_33 : decode cX5_becomeOneWord 33 = .ok (.iload_n 2, 1) := by decide +kernel
theorem dX5_becomeOneWord_34 : decode cX5_becomeOneWord 34 = .ok (.aload_n 0, 1) := by decide +kernel
theorem dX5_becomeOneWord_35 : decode cX5_becomeOneWord 35 = .ok (.getfield 31, 3) := by decide +kernel
theorem dX5_becomeOneWord_38 : decode cX5_becomeOneWord 38 = .ok (.if_icmp .ge 35, 3) := by decide +kernel
theorem dX5_becomeOneWord_41 : decode cX5_becomeOneWord 41 = .ok (.aload_n 0, 1) := by decide +kernel
theorem dX5_becomeOneWord_42 : decode cX5_becomeOneWord 42 = .ok (.getfield 15, 3) := by decide +kernel
theorem dX5_becomeOneWord_45 : decode cX5_becomeOneWord 45 = .ok (.iload_n 2, 1) := by decide +kernel
theorem dX5_becomeOneWord_46 : decode cX5_becomeOneWord 46 = .ok (.iconst 0, 1) := by decide +kernel
theorem dX5_becomeOneWord_47 : decode cX5_becomeOneWord 47 = .ok (.iastore, 1) := by decide +kernel
theorem dX5_becomeOneWord_48 : decode cX5_becomeOneWord 48 = .ok (.aload_n 0, 1) := by decide +kernel
theorem dX5_becomeOneWord_49 : decode cX5_becomeOneWord 49 = .ok (.getfield 18, 3) := by decide +kernel
theorem dX5_becomeOneWord_52 : decode cX5_becomeOneWord 52 = .ok (.iload_n 2, 1) := by decide +kernel
theorem dX5_becomeOneWord_53 : decode cX5_becomeOneWord 53 = .ok (.iload_n 2, 1) := by decide +kernel
theorem dX5_becomeOneWord_54 : decode cX5_becomeOneWord 54 = .ok (.iastore, 1) := by decide +kernel
theorem dX5_becomeOneWord_55 : decode cX5_becomeOneWord 55 = .ok (.aload_n 0, 1) := by decide +kernel
theorem dX5_becomeOneWord_56 : decode cX5_becomeOneWord 56 = .ok (.getfield 21, 3) := by decide +kernel
theorem dX5_becomeOneWord_59 : decode cX5_becomeOneWord 59 = .ok (.iload_n 2, 1) := by decide +kernel
theorem dX5_becomeOneWord_60 : decode cX5_becomeOneWord 60 = .ok (.aload_n 0, 1) := by decide +kernel
theorem dX5_becomeOneWord_61 : decode cX5_becomeOneWord 61 = .ok (.getfield 31, 3) := by decide +kernel
theorem dX5_becomeOneWord_64 : decode cX5_becomeOneWord 64 = .ok (.iload_n 2, 1) := by decide +kernel
theorem dX5_becomeOneWord_65 : decode cX5_becomeOneWord 65 = .ok (.isub, 1) := by decide +kernel
theorem dX5_becomeOneWord_66 : decode cX5_becomeOneWord 66 = .ok (.iastore, 1) := by decide +kernel
theorem dX5_becomeOneWord_67 : decode cX5_becomeOneWord 67 = .ok (.iinc 2 1, 3) := by decide +kernel
theorem dX5_becomeOneWord_70 : decode cX5_becomeOneWord 70 = .ok (.goto (-37), 3) := by decide +kernel
theorem dX5_becomeOneWord_73 : decode cX5_becomeOneWord 73 = .ok (.return_, 1) := by decide +kernel
theorem dX5_putStart_0 : decode cX5_putStart 0 = .ok (.iload_n 1, 1) := by decide +kernel
theorem dX5_putStart_1 : decode cX5_putStart 1 = .ok (.ifCond .lt 16, 3) := by decide +kernel
theorem dX5_putStart_4 : decode cX5_putStart 4 = .ok (.iload_n 1, 1) := by decide +kernel
theorem dX5_putStart_5 : decode cX5_putStart 5 = .ok (.bipush 6, 2) := by decide +kernel
theorem dX5_putStart_7 : decode cX5_putStart 7 = .ok (.if_icmp .ge 10, 3) := by decide +kernel
theorem dX5_putStart_10 : decode cX5_putStart 10 = .ok (.aload_n 0, 1) := by decide +kernel
theorem dX5_putStart_11 : decode cX5_putStart 11 = .ok (.getfield 24, 3) := by decide +kernel
theorem dX5_putStart_14 : decode cX5_putStart 14 = .ok (.iload_n 1, 1) := by decide +kernel
theorem dX5_putStart_15 : decode cX5_putStart 15 = .ok (.iload_n 2, 1) := by decide +kernel
theorem dX5_putStart_16 : decode cX5_putStart 16 = .ok (.iastore, 1) := by decide +kernel
theorem dX5_putStart_17 : decode cX5_putStart 17 = .ok (.return_, 1) := by decide +kernel
set_option maxRecDepth 20000 in
theorem ggX5_putLetter_X5_has : GoodIn wsX5_putLetter wsX5_has := goodIn_r _ [7, 8, 9, 10, 11, 12, 13, 14, 15, 16] (by decide +kernel) (by decide +kernel)
set_option maxRecDepth 20000 in
theorem gX5_putLetter_X5_has : GoodIn wsX5_putLetter (wsV RX5 37 RX5 yX5_has wsX5_has) := goodIn_app (goodIn_of _ (by decide +kernel)) ggX5_putLetter_X5_has
theorem dX5_putLetter_0 : decode cX5_putLetter 0 = .ok (.aload_n 0, 1) := by decide +kernel
theorem dX5_putLetter_1 : decode cX5_putLetter 1 = .ok (.iload_n 1, 1) := by decide +kernel
theorem dX5_putLetter_2 : decode cX5_putLetter 2 = .ok (.invokevirtual 37, 3) := by decide +kernel
theorem dX5_putLetter_5 : decode cX5_putLetter 5 = .ok (.ifCond .eq 17, 3) := by decide +kernel
theorem dX5_putLetter_8 : decode cX5_putLetter 8 = .ok (.aload_n 0, 1) := by decide +kernel
theorem dX5_putLetter_9 : decode cX5_putLetter 9 = .ok (.getfield 9, 3) := by decide +kernel
theorem dX5_putLetter_12 : decode cX5_putLetter 12 = .ok (.iload_n 1, 1) := by decide +kernel
theorem dX5_putLetter_13 : decode cX5_putLetter 13 = .ok (.iload_n 2, 1) := by decide +kernel
theorem dX5_putLetter_14 : decode cX5_putLetter 14 = .ok (.iastore, 1) := by decide +kernel
theorem dX5_putLetter_15 : decode cX5_putLetter 15 = .ok (.aload_n 0, 1) := by decide +kernel
theorem dX5_putLetter_16 : decode cX5_putLetter 16 = .ok (.getfield 15, 3) := by decide +kernel
theorem dX5_putLetter_19 : decode cX5_putLetter 19 = .ok (.iload_n 1, 1) := by decide +kernel
theorem dX5_putLetter_20 : decode cX5_putLetter 20 = .ok (.iload_n 3, 1) := by decide +kernel
theorem dX5_putLetter_21 : decode cX5_putLetter 21 = .ok (.iastore, 1) := by decide +kernel
theorem dX5_putLetter_22 : decode cX5_putLetter 22 = .ok (.return_, 1) := by decide +kernel
theorem dX5_turnToNext_0 : decode cX5_turnToNext 0 = .ok (.aload_n 0, 1) := by decide +kernel
theorem dX5_turnToNext_1 : decode cX5_turnToNext 1 = .ok (.getfield 31, 3) := by decide +kernel
theorem dX5_turnToNext_4 : decode cX5_turnToNext 4 = .ok (.iconst 1, 1) := by decide +kernel
theorem dX5_turnToNext_5 : decode cX5_turnToNext 5 = .ok (.isub, 1) := by decide +kernel
theorem dX5_turnToNext_6 : decode cX5_turnToNext 6 = .ok (.istore_n 2, 1) := by decide +kernel
theorem dX5_turnToNext_7 : decode cX5_turnToNext 7 = .ok (.iload_n 2, 1) := by decide +kernel
theorem dX5_turnToNext_8 : decode cX5_turnToNext 8 = .ok (.ifCond .lt 40, 3) := by decide +kernel
theorem dX5_turnToNext_11 : decode cX5_turnToNext 11 = .ok (.aload_n 0, 1) := by decide +kernel
theorem dX5_turnToNext_12 : decode cX5_turnToNext 12 = .ok (.getfield 9, 3) := by decide +kernel
theorem dX5_turnToNext_15 : decode cX5_turnToNext 15 = .ok (.iload_n 2, 1) := by decide +kernel
theorem dX5_turnToNext_16 : decode cX5_turnToNext 16 = .ok (.iaload, 1) := by decide +kernel
theorem dX5_turnToNext_17 : decode cX5_turnToNext 17 = .ok (.iconst 1, 1) := by decide +kernel
theorem dX5_turnToNext_18 : decode cX5_turnToNext 18 = .ok (.iadd, 1) := by decide +kernel
theorem dX5_turnToNext_19 : decode cX5_turnToNext 19 = .ok (.iload_n 1, 1) := by decide +kernel
theorem dX5_turnToNext_20 : decode cX5_turnToNext 20 = .ok (.if_icmp .ge 15, 3) := by decide +kernel
theorem dX5_turnToNext_23 : decode cX5_turnToNext 23 = .ok (.aload_n 0, 1) := by decide +kernel
theorem dX5_turnToNext_24 : decode cX5_turnToNext 24 = .ok (.getfield 9, 3) := by decide +kernel
theorem dX5_turnToNext_27 : decode cX5_turnToNext 27 = .ok (.iload_n 2, 1) := by decide +kernel
theorem dX5_turnToNext_28 : decode cX5_turnToNext 28 = .ok (.dup2, 1) := by decide +kernel
theorem dX5_turnToNext_29 : decode cX5_turnToNext 29 = .ok (.iaload, 1) := by decide +kernel
theorem dX5_turnToNext_30 : decode cX5_turnToNext 30 = .ok (.iconst 1, 1) := by decide +kernel
theorem dX5_turnToNext_31 : decode cX5_turnToNext 31 = .ok (.iadd, 1) := by decide +kernel
theorem dX5_turnToNext_32 : decode cX5_turnToNext 32 = .ok (.iastore, 1) := by decide +kernel
theorem dX5_turnToNext_33 : decode cX5_turnToNext 33 = .ok (.iconst 1, 1) := by decide +kernel
theorem dX5_turnToNext_34 : decode cX5_turnToNext 34 = .ok (.ireturn, 1) := by decide +kernel
theorem dX5_turnToNext_35 : decode cX5_turnToNext 35 = .ok (.aload_n 0, 1) := by decide +kernel
theorem dX5_turnToNext_36 : decode cX5_turnToNext 36 = .ok (.getfield 9, 3) := by decide +kernel
theorem dX5_turnToNext_39 : decode cX5_turnToNext 39 = .ok (.iload_n 2, 1) := by decide +kernel
theorem dX5_turnToNext_40 : decode cX5_turnToNext 40 = .ok (.iconst 0, 1) := by decide +kernel
theorem dX5_turnToNext_41 : decode cX5_turnToNext 41 = .ok (.iastore, 1) := by decide +kernel
theorem dX5_turnToNext_42 : decode cX5_turnToNext 42 = .ok (.iinc 2 (-1), 3) := by decide +kernel
theorem dX5_turnToNext_45 : decode cX5_turnToNext 45 = .ok (.goto (-38), 3) := by decide +kernel
theorem dX5_turnToNext_48 : decode cX5_turnToNext 48 = .ok (.iconst 0, 1) := by decide +kernel
theorem dX5_turnToNext_49 : decode cX5_turnToNext 49 = .ok (.ireturn, 1) := by decide +kernel
set_option maxRecDepth 20000 in
theorem ggX5_hasEnd_X5_has : GoodIn wsX5_hasEnd wsX5_has := goodIn_r _ [5, 6, 21, 22, 23, 24, 25, 26, 27, 28] (by decide +kernel) (by decide +kernel)
set_option maxRecDepth 20000 in
theorem gX5_hasEnd_X5_has : GoodIn wsX5_hasEnd (wsV RX5 37 RX5 yX5_has wsX5_has) := goodIn_app (goodIn_of _ (by decide +kernel)) ggX5_hasEnd_X5_has
set_option maxRecDepth 20000 in
theorem ggX5_hasEnd_X5_placeAt : GoodIn wsX5_hasEnd wsX5_placeAt := goodIn_r _ [10, 11, 1, 2, 3, 4, 5, 6, 21, 22, 23, 24, 25, 26, 27, 28] (by decide +kernel) (by decide +kernel)
set_option maxRecDepth 20000 in
theorem gX5_hasEnd_X5_placeAt : GoodIn wsX5_hasEnd (wsV RX5 48 RX5 yX5_placeAt wsX5_placeAt) := goodIn_app (goodIn_of _ (by decide +kernel)) ggX5_hasEnd_X5_placeAt
set_option maxRecDepth 20000 in
theorem ggX5_hasEnd_X5_length : GoodIn wsX5_hasEnd wsX5_length := goodIn_r _ [15, 6, 21, 22, 23, 24, 25, 26, 27, 28] (by decide +kernel) (by decide +kernel)
set_option maxRecDepth 20000 in
theorem gX5_hasEnd_X5_length : GoodIn wsX5_hasEnd (wsV RX5 98 RX5 yX5_length wsX5_length) := goodIn_app (goodIn_of _ (by decide +kernel)) ggX5_hasEnd_X5_length
set_option maxRecDepth 20000 in
theorem ggX5_hasEnd_X5_letterAt : GoodIn wsX5_hasEnd wsX5_letterAt := goodIn_r _ [19, 20, 1, 2, 3, 4, 5, 6, 21, 22, 23, 24, 25, 26, 27, 28] (by decide +kernel) (by decide +kernel)
set_option maxRecDepth 20000 in
theorem gX5_hasEnd_X5_letterAt : GoodIn wsX5_hasEnd (wsV RX5 100 RX5 yX5_letterAt wsX5_letterAt) := goodIn_app (goodIn_of _ (by decide +kernel)) ggX5_hasEnd_X5_letterAt
theorem dX5_hasEnd_0 : decode cX5_hasEnd 0 = .ok (.aload_n 0, 1) := by decide +kernel
theorem dX5_hasEnd_1 : decode cX5_hasEnd 1 = .ok (.iload_n 2, 1) := by decide +kernel
theorem dX5_hasEnd_2 : decode cX5_hasEnd 2 = .ok (.invokevirtual 37, 3) := by decide +kernel
theorem dX5_hasEnd_5 : decode cX5_hasEnd 5 = .ok (.ifCond .eq 17, 3) := by decide +kernel
theorem dX5_hasEnd_8 : decode cX5_hasEnd 8 = .ok (.aload_n 0, 1) := by decide +kernel
theorem dX5_hasEnd_9 : decode cX5_hasEnd 9 = .ok (.iload_n 2, 1) := by decide +kernel
theorem dX5_hasEnd_10 : decode cX5_hasEnd 10 = .ok (.invokevirtual 48, 3) := by decide +kernel
theorem dX5_hasEnd_13 : decode cX5_hasEnd 13 = .ok (.iconst 1, 1) := by decide +kernel
theorem dX5_hasEnd_14 : decode cX5_hasEnd 14 = .ok (.iadd, 1) := by decide +kernel
theorem dX5_hasEnd_15 : decode cX5_hasEnd 15 = .ok (.aload_n 1, 1) := by decide +kernel
theorem dX5_hasEnd_16 : decode cX5_hasEnd 16 = .ok (.invokevirtual 98, 3) := by decide +kernel
theorem dX5_hasEnd_19 : decode cX5_hasEnd 19 = .ok (.if_icmp .ge 5, 3) := by decide +kernel
theorem dX5_hasEnd_22 : decode cX5_hasEnd 22 = .ok (.iconst 0, 1) := by decide +kernel
theorem dX5_hasEnd_23 : decode cX5_hasEnd 23 = .ok (.ireturn, 1) := by decide +kernel
theorem dX5_hasEnd_24 : decode cX5_hasEnd 24 = .ok (.aload_n 1, 1) := by decide +kernel
theorem dX5_hasEnd_25 : decode cX5_hasEnd 25 = .ok (.invokevirtual 98, 3) := by decide +kernel
theorem dX5_hasEnd_28 : decode cX5_hasEnd 28 = .ok (.iconst 1, 1) := by decide +kernel
theorem dX5_hasEnd_29 : decode cX5_hasEnd 29 = .ok (.isub, 1) := by decide +kernel
theorem dX5_hasEnd_30 : decode cX5_hasEnd 30 = .ok (.istore_n 3, 1) := by decide +kernel
theorem dX5_hasEnd_31 : decode cX5_hasEnd 31 = .ok (.iconst 0, 1) := by decide +kernel
theorem dX5_hasEnd_32 : decode cX5_hasEnd 32 = .ok (.istore 4, 2) := by decide +kernel
theorem dX5_hasEnd_34 : decode cX5_hasEnd 34 = .ok (.iload 4, 2) := by decide +kernel
theorem dX5_hasEnd_36 : decode cX5_hasEnd 36 = .ok (.iload_n 3, 1) := by decide +kernel
theorem dX5_hasEnd_37 : decode cX5_hasEnd 37 = .ok (.if_icmp .gt 30, 3) := by decide +kernel
theorem dX5_hasEnd_40 : decode cX5_hasEnd 40 = .ok (.aload_n 0, 1) := by decide +kernel
theorem dX5_hasEnd_41 : decode cX5_hasEnd 41 = .ok (.iload_n 2, 1) := by decide +kernel
theorem dX5_hasEnd_42 : decode cX5_hasEnd 42 = .ok (.iload 4, 2) := by decide +kernel
theorem dX5_hasEnd_44 : decode cX5_hasEnd 44 = .ok (.isub, 1) := by decide +kernel
theorem dX5_hasEnd_45 : decode cX5_hasEnd 45 = .ok (.invokevirtual 100, 3) := by decide +kernel
theorem dX5_hasEnd_48 : decode cX5_hasEnd 48 = .ok (.aload_n 1, 1) := by decide +kernel
theorem dX5_hasEnd_49 : decode cX5_hasEnd 49 = .ok (.iload_n 3, 1) := by decide +kernel
theorem dX5_hasEnd_50 : decode cX5_hasEnd 50 = .ok (.iload 4, 2) := by decide +kernel
theorem dX5_hasEnd_52 : decode cX5_hasEnd 52 = .ok (.isub, 1) := by decide +kernel
theorem dX5_hasEnd_53 : decode cX5_hasEnd 53 = .ok (.invokevirtual 100, 3) := by decide +kernel
theorem dX5_hasEnd_56 : decode cX5_hasEnd 56 = .ok (.if_icmp .eq 5, 3) := by decide +kernel
theorem dX5_hasEnd_59 : decode cX5_hasEnd 59 = .ok (.iconst 0, 1) := by decide +kernel
theorem dX5_hasEnd_60 : decode cX5_hasEnd 60 = .ok (.ireturn, 1) := by decide +kernel
theorem dX5_hasEnd_61 : decode cX5_hasEnd 61 = .ok (.iinc 4 1, 3) := by decide +kernel
theorem dX5_hasEnd_64 : decode cX5_hasEnd 64 = .ok (.goto (-30), 3) := by decide +kernel
theorem dX5_hasEnd_67 : decode cX5_hasEnd 67 = .ok (.iconst 1, 1) := by decide +kernel
theorem dX5_hasEnd_68 : decode cX5_hasEnd 68 = .ok (.ireturn, 1) := by decide +kernel
set_option maxRecDepth 20000 in
theorem ggX5_endsOf_X5_hasEnd : GoodIn wsX5_endsOf wsX5_hasEnd := goodIn_r _ [6, 7, 8, 9, 5, 10, 1, 11, 12, 13, 14, 15, 16, 17, 18, 19, 20, 21, 22, 23, 24, 25, 26, 27, 28, 29, 30, 31, 32] (by decide +kernel) (by decide +kernel)
set_option maxRecDepth 20000 in
theorem gX5_endsOf_X5_hasEnd : GoodIn wsX5_endsOf (wsV RX5 103 RX5 yX5_hasEnd wsX5_hasEnd) := goodIn_app (goodIn_of _ (by decide +kernel)) ggX5_endsOf_X5_hasEnd
theorem dX5_endsOf_0 : decode cX5_endsOf 0 = .ok (.iconst 0, 1) := by decide +kernel
theorem dX5_endsOf_1 : decode cX5_endsOf 1 = .ok (.istore_n 2, 1) := by decide +kernel
theorem dX5_endsOf_2 : decode cX5_endsOf 2 = .ok (.iconst 0, 1) := by decide +kernel
theorem dX5_endsOf_3 : decode cX5_endsOf 3 = .ok (.istore_n 3, 1) := by decide +kernel
theorem dX5_endsOf_4 : decode cX5_endsOf 4 = .ok (.iload_n 3, 1) := by decide +kernel
theorem dX5_endsOf_5 : decode cX5_endsOf 5 = .ok (.aload_n 0, 1) := by decide +kernel
theorem dX5_endsOf_6 : decode cX5_endsOf 6 = .ok (.getfield 31, 3) := by decide +kernel
theorem dX5_endsOf_9 : decode cX5_endsOf 9 = .ok (.if_icmp .ge 21, 3) := by decide +kernel
theorem dX5_endsOf_12 : decode cX5_endsOf 12 = .ok (.aload_n 0, 1) := by decide +kernel
theorem dX5_endsOf_13 : decode cX5_endsOf 13 = .ok (.aload_n 1, 1) := by decide +kernel
theorem dX5_endsOf_14 : decode cX5_endsOf 14 = .ok (.iload_n 3, 1) := by decide +kernel
theorem dX5_endsOf_15 : decode cX5_endsOf 15 = .ok (.invokevirtual 103, 3) := by decide +kernel
theorem dX5_endsOf_18 : decode cX5_endsOf 18 = .ok (.ifCond .eq 6, 3) := by decide +kernel
theorem dX5_endsOf_21 : decode cX5_endsOf 21 = .ok (.iinc 2 1, 3) := by decide +kernel
theorem dX5_endsOf_24 : decode cX5_endsOf 24 = .ok (.iinc 3 1, 3) := by decide +kernel
theorem dX5_endsOf_27 : decode cX5_endsOf 27 = .ok (.goto (-23), 3) := by decide +kernel
theorem dX5_endsOf_30 : decode cX5_endsOf 30 = .ok (.iload_n 2, 1) := by decide +kernel
theorem dX5_endsOf_31 : decode cX5_endsOf 31 = .ok (.ireturn, 1) := by decide +kernel
set_option maxRecDepth 20000 in
theorem ggX5_wordsWith_X5_hasEnd : GoodIn wsX5_wordsWith wsX5_hasEnd := goodIn_r _ [7, 8, 9, 10, 6, 11, 1, 12, 13, 14, 15, 16, 17, 18, 19, 20, 21, 22, 23, 24, 25, 26, 27, 28, 29, 30, 31, 32, 33] (by decide +kernel) (by decide +kernel)
set_option maxRecDepth 20000 in
theorem gX5_wordsWith_X5_hasEnd : GoodIn wsX5_wordsWith (wsV RX5 103 RX5 yX5_hasEnd wsX5_hasEnd) := goodIn_app (goodIn_of _ (by decide +kernel)) ggX5_wordsWith_X5_hasEnd
theorem dX5_wordsWith_0 : decode cX5_wordsWith 0 = .ok (.iconst 0, 1) := by decide +kernel
theorem dX5_wordsWith_1 : decode cX5_wordsWith 1 = .ok (.istore_n 2, 1) := by decide +kernel
theorem dX5_wordsWith_2 : decode cX5_wordsWith 2 = .ok (.iconst 0, 1) := by decide +kernel
theorem dX5_wordsWith_3 : decode cX5_wordsWith 3 = .ok (.istore_n 3, 1) := by decide +kernel
theorem dX5_wordsWith_4 : decode cX5_wordsWith 4 = .ok (.iload_n 3, 1) := by decide +kernel
theorem dX5_wordsWith_5 : decode cX5_wordsWith 5 = .ok (.aload_n 0, 1) := by decide +kernel
theorem dX5_wordsWith_6 : decode cX5_wordsWith 6 = .ok (.getfield 31, 3) := by decide +kernel
theorem dX5_wordsWith_9 : decode cX5_wordsWith 9 = .ok (.if_icmp .ge 29, 3) := by decide +kernel
theorem dX5_wordsWith_12 : decode cX5_wordsWith 12 = .ok (.aload_n 0, 1) := by decide +kernel
theorem dX5_wordsWith_13 : decode cX5_wordsWith 13 = .ok (.aload_n 1, 1) := by decide +kernel
theorem dX5_wordsWith_14 : decode cX5_wordsWith 14 = .ok (.iload_n 3, 1) := by decide +kernel
theorem dX5_wordsWith_15 : decode cX5_wordsWith 15 = .ok (.invokevirtual 103, 3) := by decide +kernel
theorem dX5_wordsWith_18 : decode cX5_wordsWith 18 = .ok (.ifCond .eq 14, 3) := by decide +kernel
theorem dX5_wordsWith_21 : decode cX5_wordsWith 21 = .ok (.iload_n 2, 1) := by decide +kernel
theorem dX5_wordsWith_22 : decode cX5_wordsWith 22 = .ok (.iconst 1, 1) := by decide +kernel
theorem dX5_wordsWith_23 : decode cX5_wordsWith 23 = .ok (.aload_n 0, 1) := by decide +kernel
theorem dX5_wordsWith_24 : decode cX5_wordsWith 24 = .ok (.getfield 15, 3) := by decide +kernel
theorem dX5_wordsWith_27 : decode cX5_wordsWith 27 = .ok (.iload_n 3, 1) := by decide +kernel
theorem dX5_wordsWith_28 : decode cX5_wordsWith 28 = .ok (.iaload, 1) := by decide +kernel
theorem dX5_wordsWith_29 : decode cX5_wordsWith 29 = .ok (.ishl, 1) := by decide +kernel
theorem dX5_wordsWith_30 : decode cX5_wordsWith 30 = .ok (.ior, 1) := by decide +kernel
theorem dX5_wordsWith_31 : decode cX5_wordsWith 31 = .ok (.istore_n 2, 1) := by decide +kernel
theorem dX5_wordsWith_32 : decode cX5_wordsWith 32 = .ok (.iinc 3 1, 3) := by decide +kernel
theorem dX5_wordsWith_35 : decode cX5_wordsWith 35 = .ok (.goto (-31), 3) := by decide +kernel
theorem dX5_wordsWith_38 : decode cX5_wordsWith 38 = .ok (.iload_n 2, 1) := by decide +kernel
theorem dX5_wordsWith_39 : decode cX5_wordsWith 39 = .ok (.ireturn, 1) := by decide +kernel
set_option maxRecDepth 20000 in
theorem ggX5_endNumber_X5_hasEnd : GoodIn wsX5_endNumber wsX5_hasEnd := goodIn_r _ [6, 7, 8, 9, 5, 10, 1, 11, 12, 13, 14, 15, 16, 17, 18, 19, 20, 21, 22, 23, 24, 25, 26, 27, 28, 29, 30, 31, 32] (by decide +kernel) (by decide +kernel)
set_option maxRecDepth 20000 in
theorem gX5_endNumber_X5_hasEnd : GoodIn wsX5_endNumber (wsV RX5 103 RX5 yX5_hasEnd wsX5_hasEnd) := goodIn_app (goodIn_of _ (by decide +kernel)) ggX5_endNumber_X5_hasEnd
theorem dX5_endNumber_0 : decode cX5_endNumber 0 = .ok (.iload_n 2, 1) := by decide +kernel
theorem dX5_endNumber_1 : decode cX5_endNumber 1 = .ok (.istore_n 3, 1) := by decide +kernel
theorem dX5_endNumber_2 : decode cX5_endNumber 2 = .ok (.iconst 0, 1) := by decide +kernel
theorem dX5_endNumber_3 : decode cX5_endNumber 3 = .ok (.istore 4, 2) := by decide +kernel
theorem dX5_endNumber_5 : decode cX5_endNumber 5 = .ok (.iload 4, 2) := by decide +kernel
theorem dX5_endNumber_7 : decode cX5_endNumber 7 = .ok (.aload_n 0, 1) := by decide +kernel
theorem dX5_endNumber_8 : decode cX5_endNumber 8 = .ok (.getfield 31, 3) := by decide +kernel
theorem dX5_endNumber_11 : decode cX5_endNumber 11 = .ok (.if_icmp .ge 33, 3) := by decide +kernel
theorem dX5_endNumber_14 : decode cX5_endNumber 14 = .ok (.iload_n 3, 1) := by decide +kernel
theorem dX5_endNumber_15 : decode cX5_endNumber 15 = .ok (.ifCond .lt 29, 3) := by decide +kernel
theorem dX5_endNumber_18 : decode cX5_endNumber 18 = .ok (.aload_n 0, 1) := by decide +kernel
theorem dX5_endNumber_19 : decode cX5_endNumber 19 = .ok (.aload_n 1, 1) := by decide +kernel
theorem dX5_endNumber_20 : decode cX5_endNumber 20 = .ok (.iload 4, 2) := by decide +kernel
theorem dX5_endNumber_22 : decode cX5_endNumber 22 = .ok (.invokevirtual 103, 3) := by decide +kernel
theorem dX5_endNumber_25 : decode cX5_endNumber 25 = .ok (.ifCond .eq 13, 3) := by decide +kernel
theorem dX5_endNumber_28 : decode cX5_endNumber 28 = .ok (.iload_n 3, 1) := by decide +kernel
theorem dX5_endNumber_29 : decode cX5_endNumber 29 = .ok (.ifCond .ne 6, 3) := by decide +kernel
theorem dX5_endNumber_32 : decode cX5_endNumber 32 = .ok (.iload 4, 2) := by decide +kernel
theorem dX5_endNumber_34 : decode cX5_endNumber 34 = .ok (.ireturn, 1) := by decide +kernel
theorem dX5_endNumber_35 : decode cX5_endNumber 35 = .ok (.iinc 3 (-1), 3) := by decide +kernel
theorem dX5_endNumber_38 : decode cX5_endNumber 38 = .ok (.iinc 4 1, 3) := by decide +kernel
theorem dX5_endNumber_41 : decode cX5_endNumber 41 = .ok (.goto (-36), 3) := by decide +kernel
theorem dX5_endNumber_44 : decode cX5_endNumber 44 = .ok (.bipush (-6), 2) := by decide +kernel
theorem dX5_endNumber_46 : decode cX5_endNumber 46 = .ok (.ireturn, 1) := by decide +kernel
set_option maxRecDepth 20000 in
theorem ggX5_mostApart_X5_length : GoodIn wsX5_mostApart wsX5_length := goodIn_r _ [6, 1, 25, 26, 27, 28, 29, 30, 31, 32] (by decide +kernel) (by decide +kernel)
set_option maxRecDepth 20000 in
theorem gX5_mostApart_X5_length : GoodIn wsX5_mostApart (wsV RX5 98 RX5 yX5_length wsX5_length) := goodIn_app (goodIn_of _ (by decide +kernel)) ggX5_mostApart_X5_length
set_option maxRecDepth 20000 in
theorem ggX5_mostApart_X5_hasEnd : GoodIn wsX5_mostApart wsX5_hasEnd := goodIn_r _ [10, 11, 12, 13, 5, 14, 1, 15, 16, 17, 18, 19, 2, 3, 4, 6, 20, 21, 22, 23, 24, 25, 26, 27, 28, 29, 30, 31, 32] (by decide +kernel) (by decide +kernel)
set_option maxRecDepth 20000 in
theorem gX5_mostApart_X5_hasEnd : GoodIn wsX5_mostApart (wsV RX5 103 RX5 yX5_hasEnd wsX5_hasEnd) := goodIn_app (goodIn_of _ (by decide +kernel)) ggX5_mostApart_X5_hasEnd
theorem dX5_mostApart_0 : decode cX5_mostApart 0 = .ok (.iconst 0, 1) := by decide +kernel
theorem dX5_mostApart_1 : decode cX5_mostApart 1 = .ok (.istore_n 2, 1) := by decide +kernel
theorem dX5_mostApart_2 : decode cX5_mostApart 2 = .ok (.iconst 0, 1) := by decide +kernel
theorem dX5_mostApart_3 : decode cX5_mostApart 3 = .ok (.istore_n 3, 1) := by decide +kernel
theorem dX5_mostApart_4 : decode cX5_mostApart 4 = .ok (.iconst 0, 1) := by decide +kernel
theorem dX5_mostApart_5 : decode cX5_mostApart 5 = .ok (.istore 4, 2) := by decide +kernel
theorem dX5_mostApart_7 : decode cX5_mostApart 7 = .ok (.iload 4, 2) := by decide +kernel
theorem dX5_mostApart_9 : decode cX5_mostApart 9 = .ok (.aload_n 0, 1) := by decide +kernel
theorem dX5_mostApart_10 : decode cX5_mostApart 10 = .ok (.getfield 31, 3) := by decide +kernel
theorem dX5_mostApart_13 : decode cX5_mostApart 13 = .ok (.if_icmp .ge 40, 3) := by decide +kernel
theorem dX5_mostApart_16 : decode cX5_mostApart 16 = .ok (.iload 4, 2) := by decide +kernel
theorem dX5_mostApart_18 : decode cX5_mostApart 18 = .ok (.aload_n 1, 1) := by decide +kernel
theorem dX5_mostApart_19 : decode cX5_mostApart 19 = .ok (.invokevirtual 98, 3) := by decide +kernel
theorem dX5_mostApart_22 : decode cX5_mostApart 22 = .ok (.isub, 1) := by decide +kernel
theorem dX5_mostApart_23 : decode cX5_mostApart 23 = .ok (.iconst 1, 1) := by decide +kernel
theorem dX5_mostApart_24 : decode cX5_mostApart 24 = .ok (.iadd, 1) := by decide +kernel
theorem dX5_mostApart_25 : decode cX5_mostApart 25 = .ok (.iload_n 3, 1) := by decide +kernel
theorem dX5_mostApart_26 : decode cX5_mostApart 26 = .ok (.if_icmp .lt 21, 3) := by decide +kernel
theorem dX5_mostApart_29 : decode cX5_mostApart 29 = .ok (.aload_n 0, 1) := by decide +kernel
theorem dX5_mostApart_30 : decode cX5_mostApart 30 = .ok (.aload_n 1, 1) := by decide +kernel
theorem dX5_mostApart_31 : decode cX5_mostApart 31 = .ok (.iload 4, 2) := by decide +kernel
theorem dX5_mostApart_33 : decode cX5_mostApart 33 = .ok (.invokevirtual 103, 3) := by decide +kernel
theorem dX5_mostApart_36 : decode cX5_mostApart 36 = .ok (.ifCond .eq 11, 3) := by decide +kernel
theorem dX5_mostApart_39 : decode cX5_mostApart 39 = .ok (.iinc 2 1, 3) := by decide +kernel
theorem dX5_mostApart_42 : decode cX5_mostApart 42 = .ok (.iload 4, 2) := by decide +kernel
theorem dX5_mostApart_44 : decode cX5_mostApart 44 = .ok (.iconst 1, 1) := by decide +kernel
theorem dX5_mostApart_45 : decode cX5_mostApart 45 = .ok (.iadd, 1) := by decide +kernel
theorem dX5_mostApart_46 : decode cX5_mostApart 46 = .ok (.istore_n 3, 1) := by decide +kernel
theorem dX5_mostApart_47 : decode cX5_mostApart 47 = .ok (.iinc 4 1, 3) := by decide +kernel
theorem dX5_mostApart_50 : decode cX5_mostApart 50 = .ok (.goto (-43), 3) := by decide +kernel
theorem dX5_mostApart_53 : decode cX5_mostApart 53 = .ok (.iload_n 2, 1) := by decide +kernel
theorem dX5_mostApart_54 : decode cX5_mostApart 54 = .ok (.ireturn, 1) := by decide +kernel
set_option maxRecDepth 20000 in
theorem ggX5_sameBefore_X5_letterAt : GoodIn wsX5_sameBefore wsX5_letterAt := goodIn_r _ [5, 6, 7, 8, 9, 4, 10, 11, 12, 13, 14, 15, 16, 17, 18, 19] (by decide +kernel) (by decide +kernel)
set_option maxRecDepth 20000 in
theorem gX5_sameBefore_X5_letterAt : GoodIn wsX5_sameBefore (wsV RX5 100 RX5 yX5_letterAt wsX5_letterAt) := goodIn_app (goodIn_of _ (by decide +kernel)) ggX5_sameBefore_X5_letterAt
theorem dX5_sameBefore_0 : decode cX5_sameBefore 0 = .ok (.iconst 1, 1) := by decide +kernel
theorem dX5_sameBefore_1 : decode cX5_sameBefore 1 = .ok (.istore 4, 2) := by decide +kernel
theorem dX5_sameBefore_3 : decode cX5_sameBefore 3 = .ok (.iload 4, 2) := by decide +kernel
theorem dX5_sameBefore_5 : decode cX5_sameBefore 5 = .ok (.iload_n 3, 1) := by decide +kernel
theorem dX5_sameBefore_6 : decode cX5_sameBefore 6 = .ok (.if_icmp .gt 30, 3) := by decide +kernel
theorem dX5_sameBefore_9 : decode cX5_sameBefore 9 = .ok (.aload_n 0, 1) := by decide +kernel
theorem dX5_sameBefore_10 : decode cX5_sameBefore 10 = .ok (.iload_n 1, 1) := by decide +kernel
theorem dX5_sameBefore_11 : decode cX5_sameBefore 11 = .ok (.iload 4, 2) := by decide +kernel
theorem dX5_sameBefore_13 : decode cX5_sameBefore 13 = .ok (.isub, 1) := by decide +kernel
theorem dX5_sameBefore_14 : decode cX5_sameBefore 14 = .ok (.invokevirtual 100, 3) := by decide +kernel
theorem dX5_sameBefore_17 : decode cX5_sameBefore 17 = .ok (.aload_n 0, 1) := by decide +kernel
theorem dX5_sameBefore_18 : decode cX5_sameBefore 18 = .ok (.iload_n 2, 1) := by decide +kernel
theorem dX5_sameBefore_19 : decode cX5_sameBefore 19 = .ok (.iload 4, 2) := by decide +kernel
theorem dX5_sameBefore_21 : decode cX5_sameBefore 21 = .ok (.isub, 1) := by decide +kernel
theorem dX5_sameBefore_22 : decode cX5_sameBefore 22 = .ok (.invokevirtual 100, 3) := by decide +kernel
theorem dX5_sameBefore_25 : decode cX5_sameBefore 25 = .ok (.if_icmp .eq 5, 3) := by decide +kernel
theorem dX5_sameBefore_28 : decode cX5_sameBefore 28 = .ok (.iconst 0, 1) := by decide +kernel
theorem dX5_sameBefore_29 : decode cX5_sameBefore 29 = .ok (.ireturn, 1) := by decide +kernel
theorem dX5_sameBefore_30 : decode cX5_sameBefore 30 = .ok (.iinc 4 1, 3) := by decide +kernel
theorem dX5_sameBefore_33 : decode cX5_sameBefore 33 = .ok (.goto (-30), 3) := by decide +kernel
theorem dX5_sameBefore_36 : decode cX5_sameBefore 36 = .ok (.iconst 1, 1) := by decide +kernel
theorem dX5_sameBefore_37 : decode cX5_sameBefore 37 = .ok (.ireturn, 1) := by decide +kernel
set_option maxRecDepth 20000 in
theorem ggX5_sharedFrom_X5_lettersFrom : GoodIn wsX5_sharedFrom wsX5_lettersFrom := goodIn_r _ [9, 10, 11, 12, 13, 8, 14, 15, 21, 22, 23, 24, 25, 26, 27, 28] (by decide +kernel) (by decide +kernel)
set_option maxRecDepth 20000 in
theorem gX5_sharedFrom_X5_lettersFrom : GoodIn wsX5_sharedFrom (wsV RX5 107 RX5 yX5_lettersFrom wsX5_lettersFrom) := goodIn_app (goodIn_of _ (by decide +kernel)) ggX5_sharedFrom_X5_lettersFrom
set_option maxRecDepth 20000 in
theorem ggX5_sharedFrom_X5_letterAt : GoodIn wsX5_sharedFrom wsX5_letterAt := goodIn_r _ [19, 20, 11, 12, 13, 8, 14, 15, 21, 22, 23, 24, 25, 26, 27, 28] (by decide +kernel) (by decide +kernel)
set_option maxRecDepth 20000 in
theorem gX5_sharedFrom_X5_letterAt : GoodIn wsX5_sharedFrom (wsV RX5 100 RX5 yX5_letterAt wsX5_letterAt) := goodIn_app (goodIn_of _ (by decide +kernel)) ggX5_sharedFrom_X5_letterAt
theorem dX5_sharedFrom_0 : decode cX5_sharedFrom 0 = .ok (.aload_n 0, 1) := by decide +kernel
theorem dX5_sharedFrom_1 : decode cX5_sharedFrom 1 = .ok (.iload_n 1, 1) := by decide +kernel
theorem dX5_sharedFrom_2 : decode cX5_sharedFrom 2 = .ok (.invokevirtual 107, 3) := by decide +kernel
theorem dX5_sharedFrom_5 : decode cX5_sharedFrom 5 = .ok (.aload_n 2, 1) := by decide +kernel
theorem dX5_sharedFrom_6 : decode cX5_sharedFrom 6 = .ok (.iload_n 3, 1) := by decide +kernel
theorem dX5_sharedFrom_7 : decode cX5_sharedFrom 7 = .ok (.invokevirtual 107, 3) := by decide +kernel
theorem dX5_sharedFrom_10 : decode cX5_sharedFrom 10 = .ok (.invokestatic 56, 3) := by decide +kernel
theorem dX5_sharedFrom_13 : decode cX5_sharedFrom 13 = .ok (.istore 4, 2) := by decide +kernel
theorem dX5_sharedFrom_15 : decode cX5_sharedFrom 15 = .ok (.iconst 0, 1) := by decide +kernel
theorem dX5_sharedFrom_16 : decode cX5_sharedFrom 16 = .ok (.istore 5, 2) := by decide +kernel
theorem dX5_sharedFrom_18 : decode cX5_sharedFrom 18 = .ok (.iload 5, 2) := by decide +kernel
theorem dX5_sharedFrom_20 : decode cX5_sharedFrom 20 = .ok (.iload 4, 2) := by decide +kernel
theorem dX5_sharedFrom_22 : decode cX5_sharedFrom 22 = .ok (.if_icmp .ge 31, 3) := by decide +kernel
theorem dX5_sharedFrom_25 : decode cX5_sharedFrom 25 = .ok (.aload_n 0, 1) := by decide +kernel
theorem dX5_sharedFrom_26 : decode cX5_sharedFrom 26 = .ok (.iload_n 1, 1) := by decide +kernel
theorem dX5_sharedFrom_27 : decode cX5_sharedFrom 27 = .ok (.iload 5, 2) := by decide +kernel
theorem dX5_sharedFrom_29 : decode cX5_sharedFrom 29 = .ok (.iadd, 1) := by decide +kernel
theorem dX5_sharedFrom_30 : decode cX5_sharedFrom 30 = .ok (.invokevirtual 100, 3) := by decide +kernel
theorem dX5_sharedFrom_33 : decode cX5_sharedFrom 33 = .ok (.aload_n 2, 1) := by decide +kernel
theorem dX5_sharedFrom_34 : decode cX5_sharedFrom 34 = .ok (.iload_n 3, 1) := by decide +kernel
theorem dX5_sharedFrom_35 : decode cX5_sharedFrom 35 = .ok (.iload 5, 2) := by decide +kernel
theorem dX5_sharedFrom_37 : decode cX5_sharedFrom 37 = .ok (.iadd, 1) := by decide +kernel
theorem dX5_sharedFrom_38 : decode cX5_sharedFrom 38 = .ok (.invokevirtual 100, 3) := by decide +kernel
theorem dX5_sharedFrom_41 : decode cX5_sharedFrom 41 = .ok (.if_icmp .eq 6, 3) := by decide +kernel
theorem dX5_sharedFrom_44 : decode cX5_sharedFrom 44 = .ok (.iload 5, 2) := by decide +kernel
theorem dX5_sharedFrom_46 : decode cX5_sharedFrom 46 = .ok (.ireturn, 1) := by decide +kernel
theorem dX5_sharedFrom_47 : decode cX5_sharedFrom 47 = .ok (.iinc 5 1, 3) := by decide +kernel
theorem dX5_sharedFrom_50 : decode cX5_sharedFrom 50 = .ok (.goto (-32), 3) := by decide +kernel
theorem dX5_sharedFrom_53 : decode cX5_sharedFrom 53 = .ok (.iload 4, 2) := by decide +kernel
theorem dX5_sharedFrom_55 : decode cX5_sharedFrom 55 = .ok (.ireturn, 1) := by decide +kernel
set_option maxRecDepth 20000 in
theorem ggX5_comesBefore_X5_sharedFrom : GoodIn wsX5_comesBefore wsX5_sharedFrom := goodIn_r _ [5, 6, 7, 8, 9, 10, 11, 12, 4, 13, 14, 15, 16, 17, 18, 19, 20, 21, 22, 23, 24, 25, 26, 27, 28, 29, 30, 31, 32] (by decide +kernel) (by decide +kernel)
set_option maxRecDepth 20000 in
theorem gX5_comesBefore_X5_sharedFrom : GoodIn wsX5_comesBefore (wsV RX5 110 RX5 yX5_sharedFrom wsX5_sharedFrom) := goodIn_app (goodIn_of _ (by decide +kernel)) ggX5_comesBefore_X5_sharedFrom
set_option maxRecDepth 20000 in
theorem ggX5_comesBefore_X5_lettersFrom : GoodIn wsX5_comesBefore wsX5_lettersFrom := goodIn_r _ [13, 14, 15, 16, 17, 4, 18, 19, 25, 26, 27, 28, 29, 30, 31, 32] (by decide +kernel) (by decide +kernel)
set_option maxRecDepth 20000 in
theorem gX5_comesBefore_X5_lettersFrom : GoodIn wsX5_comesBefore (wsV RX5 107 RX5 yX5_lettersFrom wsX5_lettersFrom) := goodIn_app (goodIn_of _ (by decide +kernel)) ggX5_comesBefore_X5_lettersFrom
set_option maxRecDepth 20000 in
theorem ggX5_comesBefore_X5_letterAt : GoodIn wsX5_comesBefore wsX5_letterAt := goodIn_r _ [23, 24, 15, 16, 17, 4, 18, 19, 25, 26, 27, 28, 29, 30, 31, 32] (by decide +kernel) (by decide +kernel)
set_option maxRecDepth 20000 in
theorem gX5_comesBefore_X5_letterAt : GoodIn wsX5_comesBefore (wsV RX5 100 RX5 yX5_letterAt wsX5_letterAt) := goodIn_app (goodIn_of _ (by decide +kernel)) ggX5_comesBefore_X5_letterAt
theorem dX5_comesBefore_0 : decode cX5_comesBefore 0 = .ok (.aload_n 0, 1) := by decide +kernel
theorem dX5_comesBefore_1 : decode cX5_comesBefore 1 = .ok (.iload_n 1, 1) := by decide +kernel
theorem dX5_comesBefore_2 : decode cX5_comesBefore 2 = .ok (.aload_n 0, 1) := by decide +kernel
theorem dX5_comesBefore_3 : decode cX5_comesBefore 3 = .ok (.iload_n 2, 1) := by decide +kernel
theorem dX5_comesBefore_4 : decode cX5_comesBefore 4 = .ok (.invokevirtual 110, 3) := by decide +kernel
theorem dX5_comesBefore_7 : decode cX5_comesBefore 7 = .ok (.istore_n 3, 1) := by decide +kernel
theorem dX5_comesBefore_8 : decode cX5_comesBefore 8 = .ok (.iload_n 3, 1) := by decide +kernel
theorem dX5_comesBefore_9 : decode cX5_comesBefore 9 = .ok (.aload_n 0, 1) := by decide +kernel
theorem dX5_comesBefore_10 : decode cX5_comesBefore 10 = .ok (.iload_n 1, 1) := by decide +kernel
theorem dX5_comesBefore_11 : decode cX5_comesBefore 11 = .ok (.invokevirtual 107, 3) := by decide +kernel
theorem dX5_comesBefore_14 : decode cX5_comesBefore 14 = .ok (.if_icmp .eq 12, 3) := by decide +kernel
theorem dX5_comesBefore_17 : decode cX5_comesBefore 17 = .ok (.iload_n 3, 1) := by decide +kernel
theorem dX5_comesBefore_18 : decode cX5_comesBefore 18 = .ok (.aload_n 0, 1) := by decide +kernel
theorem dX5_comesBefore_19 : decode cX5_comesBefore 19 = .ok (.iload_n 2, 1) := by decide +kernel
theorem dX5_comesBefore_20 : decode cX5_comesBefore 20 = .ok (.invokevirtual 107, 3) := by decide +kernel
theorem dX5_comesBefore_23 : decode cX5_comesBefore 23 = .ok (.if_icmp .ne 22, 3) := by decide +kernel
theorem dX5_comesBefore_26 : decode cX5_comesBefore 26 = .ok (.aload_n 0, 1) := by decide +kernel
theorem dX5_comesBefore_27 : decode cX5_comesBefore 27 = .ok (.iload_n 1, 1) := by decide +kernel
theorem dX5_comesBefore_28 : decode cX5_comesBefore 28 = .ok (.invokevirtual 107, 3) := by decide +kernel
theorem dX5_comesBefore_31 : decode cX5_comesBefore 31 = .ok (.aload_n 0, 1) := by decide +kernel
theorem dX5_comesBefore_32 : decode cX5_comesBefore 32 = .ok (.iload_n 2, 1) := by decide +kernel
theorem dX5_comesBefore_33 : decode cX5_comesBefore 33 = .ok (.invokevirtual 107, 3) := by decide +kernel
theorem dX5_comesBefore_36 : decode cX5_comesBefore 36 = .ok (.if_icmp .ge 7, 3) := by decide +kernel
theorem dX5_comesBefore_39 : decode cX5_comesBefore 39 = .ok (.iconst 1, 1) := by decide +kernel
theorem dX5_comesBefore_40 : decode cX5_comesBefore 40 = .ok (.goto 4, 3) := by decide +kernel
theorem dX5_comesBefore_43 : decode cX5_comesBefore 43 = .ok (.iconst 0, 1) := by decide +kernel
theorem dX5_comesBefore_44 : decode cX5_comesBefore 44 = .ok (.ireturn, 1) := by decide +kernel
theorem dX5_comesBefore_45 : decode cX5_comesBefore 45 = .ok (.aload_n 0, 1) := by decide +kernel
theorem dX5_comesBefore_46 : decode cX5_comesBefore 46 = .ok (.iload_n 1, 1) := by decide +kernel
theorem dX5_comesBefore_47 : decode cX5_comesBefore 47 = .ok (.iload_n 3, 1) := by decide +kernel
theorem dX5_comesBefore_48 : decode cX5_comesBefore 48 = .ok (.iadd, 1) := by decide +kernel
theorem dX5_comesBefore_49 : decode cX5_comesBefore 49 = .ok (.invokevirtual 100, 3) := by decide +kernel
theorem dX5_comesBefore_52 : decode cX5_comesBefore 52 = .ok (.aload_n 0, 1) := by decide +kernel
theorem dX5_comesBefore_53 : decode cX5_comesBefore 53 = .ok (.iload_n 2, 1) := by decide +kernel
theorem dX5_comesBefore_54 : decode cX5_comesBefore 54 = .ok (.iload_n 3, 1) := by decide +kernel
theorem dX5_comesBefore_55 : decode cX5_comesBefore 55 = .ok (.iadd, 1) := by decide +kernel
theorem dX5_comesBefore_56 : decode cX5_comesBefore 56 = .ok (.invokevirtual 100, 3) := by decide +kernel
theorem dX5_comesBefore_59 : decode cX5_comesBefore 59 = .ok (.if_icmp .ge 7, 3) := by decide +kernel
theorem dX5_comesBefore_62 : decode cX5_comesBefore 62 = .ok (.iconst 1, 1) := by decide +kernel
theorem dX5_comesBefore_63 : decode cX5_comesBefore 63 = .ok (.goto 4, 3) := by decide +kernel
theorem dX5_comesBefore_66 : decode cX5_comesBefore 66 = .ok (.iconst 0, 1) := by decide +kernel
theorem dX5_comesBefore_67 : decode cX5_comesBefore 67 = .ok (.ireturn, 1) := by decide +kernel
set_option maxRecDepth 20000 in
theorem ggX6_init_X2_init : GoodIn wsX6_init wsX2_init := goodIn_r _ [34, 35, 2, 3, 36, 37, 38, 39, 40, 41, 87, 88, 89, 90, 91] (by decide +kernel) (by decide +kernel)
set_option maxRecDepth 20000 in
theorem gX6_init_X2_init_n9 : GoodIn wsX6_init (wsX2_init) := ggX6_init_X2_init
set_option maxRecDepth 20000 in
theorem ggX6_init_X3_init : GoodIn wsX6_init wsX3_init := goodIn_r _ [43, 44, 2, 3, 36, 45, 46, 103, 104] (by decide +kernel) (by decide +kernel)
set_option maxRecDepth 20000 in
theorem gX6_init_X3_init_n18 : GoodIn wsX6_init (wsX3_init) := ggX6_init_X3_init
set_option maxRecDepth 20000 in
theorem ggX6_init_X5_init : GoodIn wsX6_init wsX5_init := goodIn_r _ [48, 49, 2, 3, 36, 50, 51, 52, 53, 54, 55, 56, 57, 105, 106, 107, 108, 109, 110, 111, 112] (by decide +kernel) (by decide +kernel)
set_option maxRecDepth 20000 in
theorem gX6_init_X5_init_n25 : GoodIn wsX6_init (wsX5_init) := ggX6_init_X5_init
set_option maxRecDepth 20000 in
theorem ggX6_init_X1_init : GoodIn wsX6_init wsX1_init := goodIn_r _ [59, 60, 2, 3, 61, 28, 29, 62, 36, 63, 64, 65, 66, 67, 68, 69, 70, 71, 72, 73, 74, 75, 76, 77, 78, 79, 130, 113, 114, 115, 116, 117, 118, 119, 120, 121, 122, 123, 124, 125] (by decide +kernel) (by decide +kernel)
set_option maxRecDepth 20000 in
theorem gX6_init_X1_init_n32 : GoodIn wsX6_init (wsX1_init) := ggX6_init_X1_init
set_option maxRecDepth 20000 in
theorem ggX6_init_X0_init : GoodIn wsX6_init wsX0_init := goodIn_r _ [81, 82, 2, 3, 36, 83, 84, 85, 86, 126, 127, 128, 129] (by decide +kernel) (by decide +kernel)
set_option maxRecDepth 20000 in
theorem gX6_init_X0_init_n39 : GoodIn wsX6_init (wsX0_init) := ggX6_init_X0_init
set_option maxRecDepth 20000 in
theorem ggX6_init_X4_init : GoodIn wsX6_init wsX4_init := goodIn_r _ [77, 78, 2, 3, 36, 79, 130] (by decide +kernel) (by decide +kernel)
set_option maxRecDepth 20000 in
theorem gX6_init_X4_init_n55 : GoodIn wsX6_init (wsX4_init) := ggX6_init_X4_init
theorem dX6_init_0 : decode cX6_init 0 = .ok (.aload_n 0, 1) := by decide +kernel
theorem dX6_init_1 : decode cX6_init 1 = .ok (.invokespecial 1, 3) := by decide +kernel
theorem dX6_init_4 : decode cX6_init 4 = .ok (.aload_n 0, 1) := by decide +kernel
theorem dX6_init_5 : decode cX6_init 5 = .ok (.new 7, 3) := by decide +kernel
theorem dX6_init_8 : decode cX6_init 8 = .ok (.dup, 1) := by decide +kernel
theorem dX6_init_9 : decode cX6_init 9 = .ok (.invokespecial 9, 3) := by decide +kernel
theorem dX6_init_12 : decode cX6_init 12 = .ok (.putfield 10, 3) := by decide +kernel
theorem dX6_init_15 : decode cX6_init 15 = .ok (.aload_n 0, 1) := by decide +kernel
theorem dX6_init_16 : decode cX6_init 16 = .ok (.new 16, 3) := by decide +kernel
theorem dX6_init_19 : decode cX6_init 19 = .ok (.dup, 1) := by decide +kernel
theorem dX6_init_20 : decode cX6_init 20 = .ok (.invokespecial 18, 3) := by decide +kernel
theorem dX6_init_23 : decode cX6_init 23 = .ok (.putfield 19, 3) := by decide +kernel
theorem dX6_init_26 : decode cX6_init 26 = .ok (.aload_n 0, 1) := by decide +kernel
theorem dX6_init_27 : decode cX6_init 27 = .ok (.new 23, 3) := by decide +kernel
theorem dX6_init_30 : decode cX6_init 30 = .ok (.dup, 1) := by decide +kernel
theorem dX6_init_31 : decode cX6_init 31 = .ok (.invokespecial 25, 3) := by decide +kernel
theorem dX6_init_34 : decode cX6_init 34 = .ok (.putfield 26, 3) := by decide +kernel
theorem dX6_init_37 : decode cX6_init 37 = .ok (.aload_n 0, 1) := by decide +kernel
theorem dX6_init_38 : decode cX6_init 38 = .ok (.new 30, 3) := by decide +kernel
theorem dX6_init_41 : decode cX6_init 41 = .ok (.dup, 1) := by decide +kernel
theorem dX6_init_42 : decode cX6_init 42 = .ok (.invokespecial 32, 3) := by decide +kernel
theorem dX6_init_45 : decode cX6_init 45 = .ok (.putfield 33, 3) := by decide +kernel
theorem dX6_init_48 : decode cX6_init 48 = .ok (.aload_n 0, 1) := by decide +kernel
theorem dX6_init_49 : decode cX6_init 49 = .ok (.new 37, 3) := by decide +kernel
theorem dX6_init_52 : decode cX6_init 52 = .ok (.dup, 1) := by decide +kernel
theorem dX6_init_53 : decode cX6_init 53 = .ok (.invokespecial 39, 3) := by decide +kernel
theorem dX6_init_56 : decode cX6_init 56 = .ok (.putfield 40, 3) := by decide +kernel
theorem dX6_init_59 : decode cX6_init 59 = .ok (.aload_n 0, 1) := by decide +kernel
theorem dX6_init_60 : decode cX6_init 60 = .ok (.new 23, 3) := by decide +kernel
theorem dX6_init_63 : decode cX6_init 63 = .ok (.dup, 1) := by decide +kernel
theorem dX6_init_64 : decode cX6_init 64 = .ok (.invokespecial 25, 3) := by decide +kernel
theorem dX6_init_67 : decode cX6_init 67 = .ok (.putfield 44, 3) := by decide +kernel
theorem dX6_init_70 : decode cX6_init 70 = .ok (.aload_n 0, 1) := by decide +kernel
theorem dX6_init_71 : decode cX6_init 71 = .ok (.new 23, 3) := by decide +kernel
theorem dX6_init_74 : decode cX6_init 74 = .ok (.dup, 1) := by decide +kernel
theorem dX6_init_75 : decode cX6_init 75 = .ok (.invokespecial 25, 3) := by decide +kernel
theorem dX6_init_78 : decode cX6_init 78 = .ok (.putfield 47, 3) := by decide +kernel
theorem dX6_init_81 : decode cX6_init 81 = .ok (.aload_n 0, 1) := by decide +kernel
theorem dX6_init_82 : decode cX6_init 82 = .ok (.new 23, 3) := by decide +kernel
theorem dX6_init_85 : decode cX6_init 85 = .ok (.dup, 1) := by decide +kernel
theorem dX6_init_86 : decode cX6_init 86 = .ok (.invokespecial 25, 3) := by decide +kernel
theorem dX6_init_89 : decode cX6_init 89 = .ok (.putfield 50, 3) := by decide +kernel
theorem dX6_init_92 : decode cX6_init 92 = .ok (.aload_n 0, 1) := by decide +kernel
theorem dX6_init_93 : decode cX6_init 93 = .ok (.new 53, 3) := by decide +kernel
theorem dX6_init_96 : decode cX6_init 96 = .ok (.dup, 1) := by decide +kernel
theorem dX6_init_97 : decode cX6_init 97 = .ok (.invokespecial 55, 3) := by decide +kernel
theorem dX6_init_100 : decode cX6_init 100 = .ok (.putfield 56, 3) := by decide +kernel
theorem dX6_init_103 : decode cX6_init 103 = .ok (.aload_n 0, 1) := by decide +kernel
theorem dX6_init_104 : decode cX6_init 104 = .ok (.new 53, 3) := by decide +kernel
theorem dX6_init_107 : decode cX6_init 107 = .ok (.dup, 1) := by decide +kernel
theorem dX6_init_108 : decode cX6_init 108 = .ok (.invokespecial 55, 3) := by decide +kernel
theorem dX6_init_111 : decode cX6_init 111 = .ok (.putfield 60, 3) := by decide +kernel
theorem dX6_init_114 : decode cX6_init 114 = .ok (.aload_n 0, 1) := by decide +kernel
theorem dX6_init_115 : decode cX6_init 115 = .ok (.iconst 0, 1) := by decide +kernel
theorem dX6_init_116 : decode cX6_init 116 = .ok (.putfield 63, 3) := by decide +kernel
theorem dX6_init_119 : decode cX6_init 119 = .ok (.return_, 1) := by decide +kernel
set_option maxRecDepth 20000 in
theorem ggX6_begin_X2_wordsIn : GoodIn wsX6_begin wsX2_wordsIn := goodIn_r _ [7, 8, 9, 10, 11, 6, 12, 13, 37, 38, 39, 40, 41] (by decide +kernel) (by decide +kernel)
set_option maxRecDepth 20000 in
theorem gX6_begin_X2_wordsIn : GoodIn wsX6_begin (wsV RX6 67 RX2 yX2_wordsIn wsX2_wordsIn) := goodIn_app (goodIn_of _ (by decide +kernel)) ggX6_begin_X2_wordsIn
set_option maxRecDepth 20000 in
theorem ggX6_begin_X2_hasRoomFor : GoodIn wsX6_begin wsX2_hasRoomFor := goodIn_r _ [17, 13, 37, 38, 39, 40, 41] (by decide +kernel) (by decide +kernel)
set_option maxRecDepth 20000 in
theorem gX6_begin_X2_hasRoomFor : GoodIn wsX6_begin (wsV RX6 71 RX2 yX2_hasRoomFor wsX2_hasRoomFor) := goodIn_app (goodIn_of _ (by decide +kernel)) ggX6_begin_X2_hasRoomFor
set_option maxRecDepth 20000 in
theorem ggX6_begin_X2_grow : GoodIn wsX6_begin wsX2_grow := goodIn_r _ [21, 22, 13, 23, 8, 24, 9, 10, 11, 6, 12, 25, 15, 16, 17, 37, 38, 39, 40, 41] (by decide +kernel) (by decide +kernel)
set_option maxRecDepth 20000 in
theorem gX6_begin_X2_grow : GoodIn wsX6_begin (wsV RX6 75 RX2 yX2_grow wsX2_grow) := goodIn_app (goodIn_of _ (by decide +kernel)) ggX6_begin_X2_grow
theorem dX6_begin_0 : decode cX6_begin 0 = .ok (.aload_n 0, 1) := by decide +kernel
theorem dX6_begin_1 : decode cX6_begin 1 = .ok (.getfield 10, 3) := by decide +kernel
theorem dX6_begin_4 : decode cX6_begin 4 = .ok (.aload_n 0, 1) := by decide +kernel
theorem dX6_begin_5 : decode cX6_begin 5 = .ok (.getfield 63, 3) := by decide +kernel
theorem dX6_begin_8 : decode cX6_begin 8 = .ok (.invokevirtual 67, 3) := by decide +kernel
theorem dX6_begin_11 : decode cX6_begin 11 = .ok (.bipush 6, 2) := by decide +kernel
theorem dX6_begin_13 : decode cX6_begin 13 = .ok (.if_icmp .ge 14, 3) := by decide +kernel
theorem dX6_begin_16 : decode cX6_begin 16 = .ok (.aload_n 0, 1) := by decide +kernel
theorem dX6_begin_17 : decode cX6_begin 17 = .ok (.getfield 10, 3) := by decide +kernel
theorem dX6_begin_20 : decode cX6_begin 20 = .ok (.iconst 1, 1) := by decide +kernel
theorem dX6_begin_21 : decode cX6_begin 21 = .ok (.invokevirtual 71, 3) := by decide +kernel
theorem dX6_begin_24 : decode cX6_begin 24 = .ok (.ifCond .ne 6, 3) := by decide +kernel
theorem dX6_begin_27 : decode cX6_begin 27 = .ok (.bipush (-4), 2) := by decide +kernel
theorem dX6_begin_29 : decode cX6_begin 29 = .ok (.ireturn, 1) := by decide +kernel
theorem dX6_begin_30 : decode cX6_begin 30 = .ok (.aload_n 0, 1) := by decide +kernel
theorem dX6_begin_31 : decode cX6_begin 31 = .ok (.aload_n 0, 1) := by decide +kernel
theorem dX6_begin_32 : decode cX6_begin 32 = .ok (.getfield 10, 3) := by decide +kernel
theorem dX6_begin_35 : decode cX6_begin 35 = .ok (.aload_n 0, 1) := by decide +kernel
theorem dX6_begin_36 : decode cX6_begin 36 = .ok (.getfield 63, 3) := by decide +kernel
theorem dX6_begin_39 : decode cX6_begin 39 = .ok (.iconst (-1), 1) := by decide +kernel
theorem dX6_begin_40 : decode cX6_begin 40 = .ok (.invokevirtual 75, 3) := by decide +kernel
theorem dX6_begin_43 : decode cX6_begin 43 = .ok (.putfield 63, 3) := by decide +kernel
theorem dX6_begin_46 : decode cX6_begin 46 = .ok (.aload_n 0, 1) := by decide +kernel
theorem dX6_begin_47 : decode cX6_begin 47 = .ok (.getfield 63, 3) := by decide +kernel
theorem dX6_begin_50 : decode cX6_begin 50 = .ok (.ireturn, 1) := by decide +kernel
set_option maxRecDepth 20000 in
theorem ggX6_append_X6_isLetter : GoodIn wsX6_append wsX6_isLetter := goodIn_r _ [6] (by decide +kernel) (by decide +kernel)
set_option maxRecDepth 20000 in
theorem gX6_append_X6_isLetter : GoodIn wsX6_append (va_wsS RX6 79 yX6_isLetter wsX6_isLetter) := goodIn_app (goodIn_of _ (by decide +kernel)) ggX6_append_X6_isLetter
set_option maxRecDepth 20000 in
theorem ggX6_append_X2_wordsIn : GoodIn wsX6_append wsX2_wordsIn := goodIn_r _ [11, 12, 13, 14, 15, 10, 16, 17, 45, 46, 47, 48, 49] (by decide +kernel) (by decide +kernel)
set_option maxRecDepth 20000 in
theorem gX6_append_X2_wordsIn : GoodIn wsX6_append (wsV RX6 67 RX2 yX2_wordsIn wsX2_wordsIn) := goodIn_app (goodIn_of _ (by decide +kernel)) ggX6_append_X2_wordsIn
set_option maxRecDepth 20000 in
theorem ggX6_append_X2_lettersIn : GoodIn wsX6_append wsX2_lettersIn := goodIn_r _ [21, 22, 13, 14, 15, 10, 16, 17, 45, 46, 47, 48, 49] (by decide +kernel) (by decide +kernel)
set_option maxRecDepth 20000 in
theorem gX6_append_X2_lettersIn : GoodIn wsX6_append (wsV RX6 82 RX2 yX2_lettersIn wsX2_lettersIn) := goodIn_app (goodIn_of _ (by decide +kernel)) ggX6_append_X2_lettersIn
set_option maxRecDepth 20000 in
theorem ggX6_append_X2_hasRoomFor : GoodIn wsX6_append wsX2_hasRoomFor := goodIn_r _ [26, 17, 45, 46, 47, 48, 49] (by decide +kernel) (by decide +kernel)
set_option maxRecDepth 20000 in
theorem gX6_append_X2_hasRoomFor : GoodIn wsX6_append (wsV RX6 71 RX2 yX2_hasRoomFor wsX2_hasRoomFor) := goodIn_app (goodIn_of _ (by decide +kernel)) ggX6_append_X2_hasRoomFor
set_option maxRecDepth 20000 in
theorem ggX6_append_X2_grow : GoodIn wsX6_append wsX2_grow := goodIn_r _ [30, 31, 17, 32, 12, 22, 13, 14, 15, 10, 16, 33, 24, 25, 26, 45, 46, 47, 48, 49] (by decide +kernel) (by decide +kernel)
set_option maxRecDepth 20000 in
theorem gX6_append_X2_grow : GoodIn wsX6_append (wsV RX6 75 RX2 yX2_grow wsX2_grow) := goodIn_app (goodIn_of _ (by decide +kernel)) ggX6_append_X2_grow
theorem dX6_append_0 : decode cX6_append 0 = .ok (.iload_n 1, 1) := by decide +kernel
theorem dX6_append_1 : decode cX6_append 1 = .ok (.invokestatic 79, 3) := by decide +kernel
theorem dX6_append_4 : decode cX6_append 4 = .ok (.ifCond .ne 6, 3) := by decide +kernel
theorem dX6_append_7 : decode cX6_append 7 = .ok (.bipush (-2), 2) := by decide +kernel
theorem dX6_append_9 : decode cX6_append 9 = .ok (.ireturn, 1) := by decide +kernel
theorem dX6_append_10 : decode cX6_append 10 = .ok (.aload_n 0, 1) := by decide +kernel
theorem dX6_append_11 : decode cX6_append 11 = .ok (.getfield 10, 3) := by decide +kernel
theorem dX6_append_14 : decode cX6_append 14 = .ok (.aload_n 0, 1) := by decide +kernel
theorem dX6_append_15 : decode cX6_append 15 = .ok (.getfield 63, 3) := by decide +kernel
theorem dX6_append_18 : decode cX6_append 18 = .ok (.invokevirtual 67, 3) := by decide +kernel
theorem dX6_append_21 : decode cX6_append 21 = .ok (.ifCond .ne 6, 3) := by decide +kernel
theorem dX6_append_24 : decode cX6_append 24 = .ok (.bipush (-5), 2) := by decide +kernel
theorem dX6_append_26 : decode cX6_append 26 = .ok (.ireturn, 1) := by decide +kernel
theorem dX6_append_27 : decode cX6_append 27 = .ok (.aload_n 0, 1) := by decide +kernel
theorem dX6_append_28 : decode cX6_append 28 = .ok (.getfield 10, 3) := by decide +kernel
theorem dX6_append_31 : decode cX6_append 31 = .ok (.aload_n 0, 1) := by decide +kernel
theorem dX6_append_32 : decode cX6_append 32 = .ok (.getfield 63, 3) := by decide +kernel
theorem dX6_append_35 : decode cX6_append 35 = .ok (.invokevirtual 82, 3) := by decide +kernel
theorem dX6_append_38 : decode cX6_append 38 = .ok (.bipush 60, 2) := by decide +kernel
theorem dX6_append_40 : decode cX6_append 40 = .ok (.if_icmp .ge 14, 3) := by decide +kernel
theorem dX6_append_43 : decode cX6_append 43 = .ok (.aload_n 0, 1) := by decide +kernel
theorem dX6_append_44 : decode cX6_append 44 = .ok (.getfield 10, 3) := by decide +kernel
theorem dX6_append_47 : decode cX6_append 47 = .ok (.iconst 1, 1) := by decide +kernel
theorem dX6_append_48 : decode cX6_append 48 = .ok (.invokevirtual 71, 3) := by decide +kernel
theorem dX6_append_51 : decode cX6_append 51 = .ok (.ifCond .ne 6, 3) := by decide +kernel
theorem dX6_append_54 : decode cX6_append 54 = .ok (.bipush (-4), 2) := by decide +kernel
theorem dX6_append_56 : decode cX6_append 56 = .ok (.ireturn, 1) := by decide +kernel
theorem dX6_append_57 : decode cX6_append 57 = .ok (.aload_n 0, 1) := by decide +kernel
theorem dX6_append_58 : decode cX6_append 58 = .ok (.aload_n 0, 1) := by decide +kernel
theorem dX6_append_59 : decode cX6_append 59 = .ok (.getfield 10, 3) := by decide +kernel
theorem dX6_append_62 : decode cX6_append 62 = .ok (.aload_n 0, 1) := by decide +kernel
theorem dX6_append_63 : decode cX6_append 63 = .ok (.getfield 63, 3) := by decide +kernel
theorem dX6_append_66 : decode cX6_append 66 = .ok (.iload_n 1, 1) := by decide +kernel
theorem dX6_append_67 : decode cX6_append 67 = .ok (.invokevirtual 75, 3) := by decide +kernel
theorem dX6_append_70 : decode cX6_append 70 = .ok (.putfield 63, 3) := by decide +kernel
theorem dX6_append_73 : decode cX6_append 73 = .ok (.aload_n 0, 1) := by decide +kernel
theorem dX6_append_74 : decode cX6_append 74 = .ok (.getfield 63, 3) := by decide +kernel
theorem dX6_append_77 : decode cX6_append 77 = .ok (.ireturn, 1) := by decide +kernel
set_option maxRecDepth 20000 in
theorem ggX6_load_X3_faultAsWords : GoodIn wsX6_load wsX3_faultAsWords := goodIn_r _ [8, 9, 10, 11, 7, 12, 13, 14, 15, 16, 17, 72, 73] (by decide +kernel) (by decide +kernel)
set_option maxRecDepth 20000 in
theorem gX6_load_X3_faultAsWords : GoodIn wsX6_load (wsV RX6 85 RX3 yX3_faultAsWords wsX3_faultAsWords) := goodIn_app (goodIn_of _ (by decide +kernel)) ggX6_load_X3_faultAsWords
set_option maxRecDepth 20000 in
theorem ggX6_load_X3_size : GoodIn wsX6_load wsX3_size := goodIn_r _ [21, 13, 72, 73] (by decide +kernel) (by decide +kernel)
set_option maxRecDepth 20000 in
theorem gX6_load_X3_size : GoodIn wsX6_load (wsV RX6 89 RX3 yX3_size wsX3_size) := goodIn_app (goodIn_of _ (by decide +kernel)) ggX6_load_X3_size
set_option maxRecDepth 20000 in
theorem ggX6_load_X3_slashes : GoodIn wsX6_load wsX3_slashes := goodIn_r _ [25, 13, 14, 72, 73] (by decide +kernel) (by decide +kernel)
set_option maxRecDepth 20000 in
theorem gX6_load_X3_slashes : GoodIn wsX6_load (wsV RX6 92 RX3 yX3_slashes wsX3_slashes) := goodIn_app (goodIn_of _ (by decide +kernel)) ggX6_load_X3_slashes
set_option maxRecDepth 20000 in
theorem ggX6_load_X2_wordsIn : GoodIn wsX6_load wsX2_wordsIn := goodIn_r _ [30, 31, 32, 33, 34, 29, 35, 36, 74, 75, 76, 77, 78] (by decide +kernel) (by decide +kernel)
set_option maxRecDepth 20000 in
theorem gX6_load_X2_wordsIn : GoodIn wsX6_load (wsV RX6 67 RX2 yX2_wordsIn wsX2_wordsIn) := goodIn_app (goodIn_of _ (by decide +kernel)) ggX6_load_X2_wordsIn
set_option maxRecDepth 20000 in
theorem ggX6_load_X3_characterAt : GoodIn wsX6_load wsX3_characterAt := goodIn_r _ [40, 13, 14, 72, 73] (by decide +kernel) (by decide +kernel)
set_option maxRecDepth 20000 in
theorem gX6_load_X3_characterAt : GoodIn wsX6_load (wsV RX6 95 RX3 yX3_characterAt wsX3_characterAt) := goodIn_app (goodIn_of _ (by decide +kernel)) ggX6_load_X3_characterAt
set_option maxRecDepth 20000 in
theorem ggX6_load_X2_lettersIn : GoodIn wsX6_load wsX2_lettersIn := goodIn_r _ [44, 45, 32, 33, 34, 29, 35, 36, 74, 75, 76, 77, 78] (by decide +kernel) (by decide +kernel)
set_option maxRecDepth 20000 in
theorem gX6_load_X2_lettersIn : GoodIn wsX6_load (wsV RX6 82 RX2 yX2_lettersIn wsX2_lettersIn) := goodIn_app (goodIn_of _ (by decide +kernel)) ggX6_load_X2_lettersIn
set_option maxRecDepth 20000 in
theorem ggX6_load_X2_hasRoomFor : GoodIn wsX6_load wsX2_hasRoomFor := goodIn_r _ [49, 36, 74, 75, 76, 77, 78] (by decide +kernel) (by decide +kernel)
set_option maxRecDepth 20000 in
theorem gX6_load_X2_hasRoomFor : GoodIn wsX6_load (wsV RX6 71 RX2 yX2_hasRoomFor wsX2_hasRoomFor) := goodIn_app (goodIn_of _ (by decide +kernel)) ggX6_load_X2_hasRoomFor
set_option maxRecDepth 20000 in
theorem ggX6_load_X2_grow : GoodIn wsX6_load wsX2_grow := goodIn_r _ [53, 54, 36, 55, 31, 45, 32, 33, 34, 29, 35, 56, 47, 48, 49, 74, 75, 76, 77, 78] (by decide +kernel) (by decide +kernel)
set_option maxRecDepth 20000 in
theorem gX6_load_X2_grow : GoodIn wsX6_load (wsV RX6 75 RX2 yX2_grow wsX2_grow) := goodIn_app (goodIn_of _ (by decide +kernel)) ggX6_load_X2_grow
set_option maxRecDepth 20000 in
theorem ggX6_load_X3_clear : GoodIn wsX6_load wsX3_clear := goodIn_r _ [60, 13, 72, 73] (by decide +kernel) (by decide +kernel)
set_option maxRecDepth 20000 in
theorem gX6_load_X3_clear : GoodIn wsX6_load (wsV RX6 98 RX3 yX3_clear wsX3_clear) := goodIn_app (goodIn_of _ (by decide +kernel)) ggX6_load_X3_clear
theorem dX6_load_0 : decode cX6_load 0 = .ok (.aload_n 0, 1) := by decide +kernel
theorem dX6_load_1 : decode cX6_load 1 = .ok (.getfield 19, 3) := by decide +kernel
theorem dX6_load_4 : decode cX6_load 4 = .ok (.invokevirtual 85, 3) := by decide +kernel
theorem dX6_load_7 : decode cX6_load 7 = .ok (.bipush (-6), 2) := by decide +kernel
theorem dX6_load_9 : decode cX6_load 9 = .ok (.if_icmp .eq 6, 3) := by decide +kernel
theorem dX6_load_12 : decode cX6_load 12 = .ok (.bipush (-3), 2) := by decide +kernel
theorem dX6_load_14 : decode cX6_load 14 = .ok (.ireturn, 1) := by decide +kernel
theorem dX6_load_15 : decode cX6_load 15 = .ok (.aload_n 0, 1) := by decide +kernel
theorem dX6_load_16 : decode cX6_load 16 = .ok (.getfield 19, 3) := by decide +kernel
theorem dX6_load_19 : decode cX6_load 19 = .ok (.invokevirtual 89, 3) := by decide +kernel
theorem dX6_load_22 : decode cX6_load 22 = .ok (.istore_n 1, 1) := by decide +kernel
theorem dX6_load_23 : decode cX6_load 23 = .ok (.aload_n 0, 1) := by decide +kernel
theorem dX6_load_24 : decode cX6_load 24 = .ok (.getfield 19, 3) := by decide +kernel
theorem dX6_load_27 : decode cX6_load 27 = .ok (.invokevirtual 92, 3) := by decide +kernel
theorem dX6_load_30 : decode cX6_load 30 = .ok (.istore_n 2, 1) := by decide +kernel
theorem dX6_load_31 : decode cX6_load 31 = .ok (.aload_n 0, 1) := by decide +kernel
theorem dX6_load_32 : decode cX6_load 32 = .ok (.getfield 10, 3) := by decide +kernel
theorem dX6_load_35 : decode cX6_load 35 = .ok (.aload_n 0, 1) := by decide +kernel
theorem dX6_load_36 : decode cX6_load 36 = .ok (.getfield 63, 3) := by decide +kernel
theorem dX6_load_39 : decode cX6_load 39 = .ok (.invokevirtual 67, 3) := by decide +kernel
theorem dX6_load_42 : decode cX6_load 42 = .ok (.istore_n 3, 1) := by decide +kernel
theorem dX6_load_43 : decode cX6_load 43 = .ok (.iload_n 1, 1) := by decide +kernel
theorem dX6_load_44 : decode cX6_load 44 = .ok (.ifCond .le 23, 3) := by decide +kernel
theorem dX6_load_47 : decode cX6_load 47 = .ok (.iload_n 3, 1) := by decide +kernel
theorem dX6_load_48 : decode cX6_load 48 = .ok (.ifCond .ne 19, 3) := by decide +kernel
theorem dX6_load_51 : decode cX6_load 51 = .ok (.aload_n 0, 1) := by decide +kernel
theorem dX6_load_52 : decode cX6_load 52 = .ok (.getfield 19, 3) := by decide +kernel
theorem dX6_load_55 : decode cX6_load 55 = .ok (.iconst 0, 1) := by decide +kernel
theorem dX6_load_56 : decode cX6_load 56 = .ok (.invokevirtual 95, 3) := by decide +kernel
theorem dX6_load_59 : decode cX6_load 59 = .ok (.bipush 47, 2) := by decide +kernel
theorem dX6_load_61 : decode cX6_load 61 = .ok (.if_icmp .eq 6, 3) := by decide +kernel
theorem dX6_load_64 : decode cX6_load 64 = .ok (.bipush (-5), 2) := by decide +kernel
theorem dX6_load_66 : decode cX6_load 66 = .ok (.ireturn, 1) := by decide +kernel
theorem dX6_load_67 : decode cX6_load 67 = .ok (.aload_n 0, 1) := by decide +kernel
theorem dX6_load_68 : decode cX6_load 68 = .ok (.getfield 10, 3) := by decide +kernel
theorem dX6_load_71 : decode cX6_load 71 = .ok (.aload_n 0, 1) := by decide +kernel
theorem dX6_load_72 : decode cX6_load 72 = .ok (.getfield 63, 3) := by decide +kernel
theorem dX6_load_75 : decode cX6_load 75 = .ok (.invokevirtual 82, 3) := by decide +kernel
theorem dX6_load_78 : decode cX6_load 78 = .ok (.iload_n 1, 1) := by decide +kernel
theorem dX6_load_79 : decode cX6_load 79 = .ok (.iadd, 1) := by decide +kernel
theorem dX6_load_80 : decode cX6_load 80 = .ok (.iload_n 2, 1) := by decide +kernel
theorem dX6_load_81 : decode cX6_load 81 = .ok (.isub, 1) := by decide +kernel
theorem dX6_load_82 : decode cX6_load 82 = .ok (.istore 4, 2) := by decide +kernel
theorem dX6_load_84 : decode cX6_load 84 = .ok (.iload_n 3, 1) := by decide +kernel
theorem dX6_load_85 : decode cX6_load 85 = .ok (.iload_n 2, 1) := by decide +kernel
theorem dX6_load_86 : decode cX6_load 86 = .ok (.iadd, 1) := by decide +kernel
theorem dX6_load_87 : decode cX6_load 87 = .ok (.bipush 6, 2) := by decide +kernel
theorem dX6_load_89 : decode cX6_load 89 = .ok (.if_icmp .gt 21, 3) := by decide +kernel
theorem dX6_load_92 : decode cX6_load 92 = .ok (.iload 4, 2) := by decide +kernel
theorem dX6_load_94 : decode cX6_load 94 = .ok (.bipush 60, 2) := by decide +kernel
theorem dX6_load_96 : decode cX6_load 96 = .ok (.if_icmp .gt 14, 3) := by decide +kernel
theorem dX6_load_99 : decode cX6_load 99 = .ok (.aload_n 0, 1) := by decide +kernel
theorem dX6_load_100 : decode cX6_load 100 = .ok (.getfield 10, 3) := by decide +kernel
theorem dX6_load_103 : decode cX6_load 103 = .ok (.iload_n 1, 1) := by decide +kernel
theorem dX6_load_104 : decode cX6_load 104 = .ok (.invokevirtual 71, 3) := by decide +kernel
theorem dX6_load_107 : decode cX6_load 107 = .ok (.ifCond .ne 6, 3) := by decide +kernel
theorem dX6_load_110 : decode cX6_load 110 = .ok (.bipush (-4), 2) := by decide +kernel
theorem dX6_load_112 : decode cX6_load 112 = .ok (.ireturn, 1) := by decide +kernel
theorem dX6_load_113 : decode cX6_load 113 = .ok (.iconst 0, 1) := by decide +kernel
theorem dX6_load_114 : decode cX6_load 114 = .ok (.istore 5, 2) := by decide +kernel
theorem dX6_load_116 : decode cX6_load 116 = .ok (.iload 5, 2) := by decide +kernel
theorem dX6_load_118 : decode cX6_load 118 = .ok (.iload_n 1, 1) := by decide +kernel
theorem dX6_load_119 : decode cX6_load 119 = .ok (.if_icmp .ge 51, 3) := by decide +kernel
theorem dX6_load_122 : decode cX6_load 122 = .ok (.aload_n 0, 1) := by decide +kernel
theorem dX6_load_123 : decode cX6_load 123 = .ok (.getfield 19, 3) := by decide +kernel
theorem dX6_load_126 : decode cX6_load 126 = .ok (.iload 5, 2) := by decide +kernel
theorem dX6_load_128 : decode cX6_load 128 = .ok (.invokevirtual 95, 3) := by decide +kernel
theorem dX6_load_131 : decode cX6_load 131 = .ok (.istore 6, 2) := by decide +kernel
theorem dX6_load_133 : decode cX6_load 133 = .ok (.aload_n 0, 1) := by decide +kernel
theorem dX6_load_134 : decode cX6_load 134 = .ok (.aload_n 0, 1) := by decide +kernel
theorem dX6_load_135 : decode cX6_load 135 = .ok (.getfield 10, 3) := by decide +kernel
theorem dX6_load_138 : decode cX6_load 138 = .ok (.aload_n 0, 1) := by decide +kernel
theorem dX6_load_139 : decode cX6_load 139 = .ok (.getfield 63, 3) := by decide +kernel
theorem dX6_load_142 : decode cX6_load 142 = .ok (.iload 6, 2) := by decide +kernel
theorem dX6_load_144 : decode cX6_load 144 = .ok (.bipush 47, 2) := by decide +kernel
theorem dX6_load_146 : decode cX6_load 146 = .ok (.if_icmp .ne 7, 3) := by decide +kernel
theorem dX6_load_149 : decode cX6_load 149 = .ok (.iconst (-1), 1) := by decide +kernel
theorem dX6_load_150 : decode cX6_load 150 = .ok (.goto 8, 3) := by decide +kernel
theorem dX6_load_153 : decode cX6_load 153 = .ok (.iload 6, 2) := by decide +kernel
theorem dX6_load_155 : decode cX6_load 155 = .ok (.bipush 97, 2) := by decide +kernel
theorem dX6_load_157 : decode cX6_load 157 = .ok (.isub, 1) := by decide +kernel
theorem dX6_load_158 : decode cX6_load 158 = .ok (.invokevirtual 75, 3) := by decide +kernel
theorem dX6_load_161 : decode cX6_load 161 = .ok (.putfield 63, 3) := by decide +kernel
theorem dX6_load_164 : decode cX6_load 164 = .ok (.iinc 5 1, 3) := by decide +kernel
theorem dX6_load_167 : decode cX6_load 167 = .ok (.goto (-51), 3) := by decide +kernel
theorem dX6_load_170 : decode cX6_load 170 = .ok (.aload_n 0, 1) := by decide +kernel
theorem dX6_load_171 : decode cX6_load 171 = .ok (.getfield 19, 3) := by decide +kernel
theorem dX6_load_174 : decode cX6_load 174 = .ok (.invokevirtual 98, 3) := by decide +kernel
theorem dX6_load_177 : decode cX6_load 177 = .ok (.aload_n 0, 1) := by decide +kernel
theorem dX6_load_178 : decode cX6_load 178 = .ok (.getfield 63, 3) := by decide +kernel
theorem dX6_load_181 : decode cX6_load 181 = .ok (.ireturn, 1) := by decide +kernel
set_option maxRecDepth 20000 in
theorem ggX6_go_X2_has : GoodIn wsX6_go wsX2_has := goodIn_r _ [7, 8, 20, 21, 22, 23, 24] (by decide +kernel) (by decide +kernel)
set_option maxRecDepth 20000 in
theorem gX6_go_X2_has : GoodIn wsX6_go (wsV RX6 101 RX2 yX2_has wsX2_has) := goodIn_app (goodIn_of _ (by decide +kernel)) ggX6_go_X2_has
theorem dX6_go_0 : decode cX6_go 0 = .ok (.aload_n 0, 1) := by decide +kernel
theorem dX6_go_1 : decode cX6_go 1 = .ok (.getfield 10, 3) := by decide +kernel
theorem dX6_go_4 : decode cX6_go 4 = .ok (.iload_n 1, 1) := by decide +kernel
theorem dX6_go_5 : decode cX6_go 5 = .ok (.invokevirtual 101, 3) := by decide +kernel
theorem dX6_go_8 : decode cX6_go 8 = .ok (.ifCond .ne 5, 3) := by decide +kernel
theorem dX6_go_11 : decode cX6_go 11 = .ok (.iconst (-1), 1) := by decide +kernel
theorem dX6_go_12 : decode cX6_go 12 = .ok (.ireturn, 1) := by decide +kernel
theorem dX6_go_13 : decode cX6_go 13 = .ok (.aload_n 0, 1) := by decide +kernel
theorem dX6_go_14 : decode cX6_go 14 = .ok (.getfield 63, 3) := by decide +kernel
theorem dX6_go_17 : decode cX6_go 17 = .ok (.istore_n 2, 1) := by decide +kernel
theorem dX6_go_18 : decode cX6_go 18 = .ok (.aload_n 0, 1) := by decide +kernel
theorem dX6_go_19 : decode cX6_go 19 = .ok (.iload_n 1, 1) := by decide +kernel
theorem dX6_go_20 : decode cX6_go 20 = .ok (.putfield 63, 3) := by decide +kernel
theorem dX6_go_23 : decode cX6_go 23 = .ok (.iload_n 2, 1) := by decide +kernel
theorem dX6_go_24 : decode cX6_go 24 = .ok (.ireturn, 1) := by decide +kernel
set_option maxRecDepth 20000 in
theorem ggX6_back_X2_ancestorOf : GoodIn wsX6_back wsX2_ancestorOf := goodIn_r _ [7, 8, 9, 10, 6, 11, 12, 13, 14, 15, 16, 17, 29, 30, 31, 32, 33] (by decide +kernel) (by decide +kernel)
set_option maxRecDepth 20000 in
theorem gX6_back_X2_ancestorOf : GoodIn wsX6_back (wsV RX6 104 RX2 yX2_ancestorOf wsX2_ancestorOf) := goodIn_app (goodIn_of _ (by decide +kernel)) ggX6_back_X2_ancestorOf
theorem dX6_back_0 : decode cX6_back 0 = .ok (.iload_n 1, 1) := by decide +kernel
theorem dX6_back_1 : decode cX6_back 1 = .ok (.ifCond .lt 10, 3) := by decide +kernel
theorem dX6_back_4 : decode cX6_back 4 = .ok (.iload_n 1, 1) := by decide +kernel
theorem dX6_back_5 : decode cX6_back 5 = .ok (.sipush 400, 3) := by decide +kernel
theorem dX6_back_8 : decode cX6_back 8 = .ok (.if_icmp .le 6, 3) := by decide +kernel
theorem dX6_back_11 : decode cX6_back 11 = .ok (.bipush (-2), 2) := by decide +kernel
theorem dX6_back_13 : decode cX6_back 13 = .ok (.ireturn, 1) := by decide +kernel
theorem dX6_back_14 : decode cX6_back 14 = .ok (.aload_n 0, 1) := by decide +kernel
theorem dX6_back_15 : decode cX6_back 15 = .ok (.getfield 10, 3) := by decide +kernel
theorem dX6_back_18 : decode cX6_back 18 = .ok (.aload_n 0, 1) := by decide +kernel
theorem dX6_back_19 : decode cX6_back 19 = .ok (.getfield 63, 3) := by decide +kernel
theorem dX6_back_22 : decode cX6_back 22 = .ok (.iload_n 1, 1) := by decide +kernel
theorem dX6_back_23 : decode cX6_back 23 = .ok (.invokevirtual 104, 3) := by decide +kernel
theorem dX6_back_26 : decode cX6_back 26 = .ok (.istore_n 2, 1) := by decide +kernel
theorem dX6_back_27 : decode cX6_back 27 = .ok (.iload_n 2, 1) := by decide +kernel
theorem dX6_back_28 : decode cX6_back 28 = .ok (.bipush (-6), 2) := by decide +kernel
theorem dX6_back_30 : decode cX6_back 30 = .ok (.if_icmp .eq 8, 3) := by decide +kernel
theorem dX6_back_33 : decode cX6_back 33 = .ok (.aload_n 0, 1) := by decide +kernel
theorem dX6_back_34 : decode cX6_back 34 = .ok (.iload_n 2, 1) := by decide +kernel
theorem dX6_back_35 : decode cX6_back 35 = .ok (.putfield 63, 3) := by decide +kernel
theorem dX6_back_38 : decode cX6_back 38 = .ok (.iload_n 2, 1) := by decide +kernel
theorem dX6_back_39 : decode cX6_back 39 = .ok (.ireturn, 1) := by decide +kernel
set_option maxRecDepth 20000 in
theorem ggX6_version_X2_has : GoodIn wsX6_version wsX2_has := goodIn_r _ [6, 7, 122, 123, 124, 125, 126] (by decide +kernel) (by decide +kernel)
set_option maxRecDepth 20000 in
theorem gX6_version_X2_has : GoodIn wsX6_version (wsV RX6 101 RX2 yX2_has wsX2_has) := goodIn_app (goodIn_of _ (by decide +kernel)) ggX6_version_X2_has
set_option maxRecDepth 20000 in
theorem ggX6_version_X2_parentOf : GoodIn wsX6_version wsX2_parentOf := goodIn_r _ [11, 12, 13, 3, 4, 5, 6, 7, 122, 123, 124, 125, 126] (by decide +kernel) (by decide +kernel)
set_option maxRecDepth 20000 in
theorem gX6_version_X2_parentOf : GoodIn wsX6_version (wsV RX6 107 RX2 yX2_parentOf wsX2_parentOf) := goodIn_app (goodIn_of _ (by decide +kernel)) ggX6_version_X2_parentOf
set_option maxRecDepth 20000 in
theorem ggX6_version_X2_childrenOf : GoodIn wsX6_version wsX2_childrenOf := goodIn_r _ [17, 7, 12, 122, 123, 124, 125, 126] (by decide +kernel) (by decide +kernel)
set_option maxRecDepth 20000 in
theorem gX6_version_X2_childrenOf : GoodIn wsX6_version (wsV RX6 110 RX2 yX2_childrenOf wsX2_childrenOf) := goodIn_app (goodIn_of _ (by decide +kernel)) ggX6_version_X2_childrenOf
set_option maxRecDepth 20000 in
theorem ggX6_version_X2_wordsIn : GoodIn wsX6_version wsX2_wordsIn := goodIn_r _ [21, 22, 13, 3, 4, 5, 6, 7, 122, 123, 124, 125, 126] (by decide +kernel) (by decide +kernel)
set_option maxRecDepth 20000 in
theorem gX6_version_X2_wordsIn : GoodIn wsX6_version (wsV RX6 67 RX2 yX2_wordsIn wsX2_wordsIn) := goodIn_app (goodIn_of _ (by decide +kernel)) ggX6_version_X2_wordsIn
set_option maxRecDepth 20000 in
theorem ggX6_version_X2_lettersIn : GoodIn wsX6_version wsX2_lettersIn := goodIn_r _ [26, 27, 13, 3, 4, 5, 6, 7, 122, 123, 124, 125, 126] (by decide +kernel) (by decide +kernel)
set_option maxRecDepth 20000 in
theorem gX6_version_X2_lettersIn : GoodIn wsX6_version (wsV RX6 82 RX2 yX2_lettersIn wsX2_lettersIn) := goodIn_app (goodIn_of _ (by decide +kernel)) ggX6_version_X2_lettersIn
set_option maxRecDepth 20000 in
theorem ggX6_version_X2_depthOf : GoodIn wsX6_version wsX2_depthOf := goodIn_r _ [31, 32, 19, 20, 5, 21, 22, 13, 3, 4, 6, 7, 33, 24, 25, 26, 27, 122, 123, 124, 125, 126] (by decide +kernel) (by decide +kernel)
set_option maxRecDepth 20000 in
theorem gX6_version_X2_depthOf : GoodIn wsX6_version (wsV RX6 113 RX2 yX2_depthOf wsX2_depthOf) := goodIn_app (goodIn_of _ (by decide +kernel)) ggX6_version_X2_depthOf
set_option maxRecDepth 20000 in
theorem ggX6_version_X6_factorsOfOnly : GoodIn wsX6_version wsX6_factorsOfOnly := goodIn_r _ [38, 39, 1, 40, 41, 42, 43, 44, 45, 46, 47, 48, 49, 50, 51, 52, 53, 54, 55, 56, 57, 58, 59, 60, 61, 19, 20, 5, 21, 22, 13, 3, 4, 6, 7, 62, 24, 25, 26, 27, 63, 64, 65, 66, 67, 68, 69, 70, 71, 72, 73, 74, 75, 76, 77, 78, 79, 80, 81, 82, 9, 10, 11, 12, 83, 84, 85, 86, 87, 88, 89, 90, 91, 92, 93, 94, 95, 96, 97, 98, 99, 100, 101, 102, 103, 104, 105, 106, 107, 108, 109, 110, 111, 112, 113, 114, 115, 116, 117, 118, 119, 120, 121, 127, 128, 129, 130, 131, 132, 133, 134, 122, 123, 124, 125, 126, 135] (by decide +kernel) (by decide +kernel)
set_option maxRecDepth 20000 in
theorem gX6_version_X6_factorsOfOnly : GoodIn wsX6_version (wsV RX6 116 RX6 yX6_factorsOfOnly wsX6_factorsOfOnly) := goodIn_app (goodIn_of _ (by decide +kernel)) ggX6_version_X6_factorsOfOnly
theorem dX6_version_0 : decode cX6_version 0 = .ok (.aload_n 0, 1) := by decide +kernel
theorem dX6_version_1 : decode cX6_version 1 = .ok (.getfield 10, 3) := by decide +kernel
theorem dX6_version_4 : decode cX6_version 4 = .ok (.iload_n 1, 1) := by decide +kernel
theorem dX6_version_5 : decode cX6_version 5 = .ok (.invokevirtual 101, 3) := by decide +kernel
theorem dX6_version_8 : decode cX6_version 8 = .ok (.ifCond .ne 5, 3) := by decide +kernel
theorem dX6_version_11 : decode cX6_version 11 = .ok (.iconst (-1), 1) := by decide +kernel
theorem dX6_version_12 : decode cX6_version 12 = .ok (.ireturn, 1) := by decide +kernel
theorem dX6_version_13 : decode cX6_version 13 = .ok (.iload_n 2, 1) := by decide +kernel
theorem dX6_version_14 : decode cX6_version 14 = .ok (.tableswitch 90 0 5 #[38, 47, 56, 65, 74, 83], 38) := by decide +kernel
theorem dX6_version_52 : decode cX6_version 52 = .ok (.aload_n 0, 1) := by decide +kernel
theorem dX6_version_53 : decode cX6_version 53 = .ok (.getfield 10, 3) := by decide +kernel
theorem dX6_version_56 : decode cX6_version 56 = .ok (.iload_n 1, 1) := by decide +kernel
theorem dX6_version_57 : decode cX6_version 57 = .ok (.invokevirtual 107, 3) := by decide +kernel
theorem dX6_version_60 : decode cX6_version 60 = .ok (.ireturn, 1) := by decide +kernel
theorem dX6_version_61 : decode cX6_version 61 = .ok (.aload_n 0, 1) := by decide +kernel
theorem dX6_version_62 : decode cX6_version 62 = .ok (.getfield 10, 3) := by decide +kernel
theorem dX6_version_65 : decode cX6_version 65 = .ok (.iload_n 1, 1) := by decide +kernel
theorem dX6_version_66 : decode cX6_version 66 = .ok (.invokevirtual 110, 3) := by decide +kernel
theorem dX6_version_69 : decode cX6_version 69 = .ok (.ireturn, 1) := by decide +kernel
theorem dX6_version_70 : decode cX6_version 70 = .ok (.aload_n 0, 1) := by decide +kernel
theorem dX6_version_71 : decode cX6_version 71 = .ok (.getfield 10, 3) := by decide +kernel
theorem dX6_version_74 : decode cX6_version 74 = .ok (.iload_n 1, 1) := by decide +kernel
theorem dX6_version_75 : decode cX6_version 75 = .ok (.invokevirtual 67, 3) := by decide +kernel
theorem dX6_version_78 : decode cX6_version 78 = .ok (.ireturn, 1) := by decide +kernel
theorem dX6_version_79 : decode cX6_version 79 = .ok (.aload_n 0, 1) := by decide +kernel
theorem dX6_version_80 : decode cX6_version 80 = .ok (.getfield 10, 3) := by decide +kernel
theorem dX6_version_83 : decode cX6_version 83 = .ok (.iload_n 1, 1) := by decide +kernel
theorem dX6_version_84 : decode cX6_version 84 = .ok (.invokevirtual 82, 3) := by decide +kernel
theorem dX6_version_87 : decode cX6_version 87 = .ok (.ireturn, 1) := by decide +kernel
theorem dX6_version_88 : decode cX6_version 88 = .ok (.aload_n 0, 1) := by decide +kernel
theorem dX6_version_89 : decode cX6_version 89 = .ok (.getfield 10, 3) := by decide +kernel
theorem dX6_version_92 : decode cX6_version 92 = .ok (.iload_n 1, 1) := by decide +kernel
theorem dX6_version_93 : decode cX6_version 93 = .ok (.invokevirtual 113, 3) := by decide +kernel
theorem dX6_version_96 : decode cX6_version 96 = .ok (.ireturn, 1) := by decide +kernel
theorem dX6_version_97 : decode cX6_version 97 = .ok (.aload_n 0, 1) := by decide +kernel
theorem dX6_version_98 : decode cX6_version 98 = .ok (.iload_n 1, 1) := by decide +kernel
theorem dX6_version_99 : decode cX6_version 99 = .ok (.iconst 0, 1) := by decide +kernel
theorem dX6_version_100 : decode cX6_version 100 = .ok (.invokevirtual 116, 3) := by decide +kernel
theorem dX6_version_103 : decode cX6_version 103 = .ok (.ireturn, 1) := by decide +kernel
theorem dX6_version_104 : decode cX6_version 104 = .ok (.bipush (-2), 2) := by decide +kernel
theorem dX6_version_106 : decode cX6_version 106 = .ok (.ireturn, 1) := by decide +kernel
set_option maxRecDepth 20000 in
theorem ggX6_meet_X2_has : GoodIn wsX6_meet wsX2_has := goodIn_r _ [6, 7, 29, 30, 31, 32, 33] (by decide +kernel) (by decide +kernel)
set_option maxRecDepth 20000 in
theorem gX6_meet_X2_has : GoodIn wsX6_meet (wsV RX6 101 RX2 yX2_has wsX2_has) := goodIn_app (goodIn_of _ (by decide +kernel)) ggX6_meet_X2_has
set_option maxRecDepth 20000 in
theorem ggX6_meet_X2_latestCommon : GoodIn wsX6_meet wsX2_latestCommon := goodIn_r _ [11, 12, 13, 14, 5, 15, 16, 17, 3, 4, 6, 7, 29, 30, 31, 32, 33] (by decide +kernel) (by decide +kernel)
set_option maxRecDepth 20000 in
theorem gX6_meet_X2_latestCommon : GoodIn wsX6_meet (wsV RX6 119 RX2 yX2_latestCommon wsX2_latestCommon) := goodIn_app (goodIn_of _ (by decide +kernel)) ggX6_meet_X2_latestCommon
theorem dX6_meet_0 : decode cX6_meet 0 = .ok (.aload_n 0, 1) := by decide +kernel
theorem dX6_meet_1 : decode cX6_meet 1 = .ok (.getfield 10, 3) := by decide +kernel
theorem dX6_meet_4 : decode cX6_meet 4 = .ok (.iload_n 1, 1) := by decide +kernel
theorem dX6_meet_5 : decode cX6_meet 5 = .ok (.invokevirtual 101, 3) := by decide +kernel
theorem dX6_meet_8 : decode cX6_meet 8 = .ok (.ifCond .eq 14, 3) := by decide +kernel
theorem dX6_meet_11 : decode cX6_meet 11 = .ok (.aload_n 0, 1) := by decide +kernel
theorem dX6_meet_12 : decode cX6_meet 12 = .ok (.getfield 10, 3) := by decide +kernel
theorem dX6_meet_15 : decode cX6_meet 15 = .ok (.iload_n 2, 1) := by decide +kernel
theorem dX6_meet_16 : decode cX6_meet 16 = .ok (.invokevirtual 101, 3) := by decide +kernel
theorem dX6_meet_19 : decode cX6_meet 19 = .ok (.ifCond .ne 5, 3) := by decide +kernel
theorem dX6_meet_22 : decode cX6_meet 22 = .ok (.iconst (-1), 1) := by decide +kernel
theorem dX6_meet_23 : decode cX6_meet 23 = .ok (.ireturn, 1) := by decide +kernel
theorem dX6_meet_24 : decode cX6_meet 24 = .ok (.aload_n 0, 1) := by decide +kernel
theorem dX6_meet_25 : decode cX6_meet 25 = .ok (.getfield 10, 3) := by decide +kernel
theorem dX6_meet_28 : decode cX6_meet 28 = .ok (.iload_n 1, 1) := by decide +kernel
theorem dX6_meet_29 : decode cX6_meet 29 = .ok (.iload_n 2, 1) := by decide +kernel
theorem dX6_meet_30 : decode cX6_meet 30 = .ok (.invokevirtual 119, 3) := by decide +kernel
theorem dX6_meet_33 : decode cX6_meet 33 = .ok (.ireturn, 1) := by decide +kernel
set_option maxRecDepth 20000 in
theorem ggX6_more_X2_has : GoodIn wsX6_more wsX2_has := goodIn_r _ [6, 7, 109, 110, 111, 112, 113] (by decide +kernel) (by decide +kernel)
set_option maxRecDepth 20000 in
theorem gX6_more_X2_has : GoodIn wsX6_more (wsV RX6 101 RX2 yX2_has wsX2_has) := goodIn_app (goodIn_of _ (by decide +kernel)) ggX6_more_X2_has
set_option maxRecDepth 20000 in
theorem ggX6_more_X6_factorsOfOnly : GoodIn wsX6_more wsX6_factorsOfOnly := goodIn_r _ [12, 13, 1, 14, 15, 16, 17, 18, 19, 20, 21, 22, 23, 24, 25, 26, 27, 28, 29, 30, 31, 32, 33, 34, 35, 36, 37, 5, 38, 39, 40, 3, 4, 6, 7, 41, 42, 43, 44, 45, 46, 47, 48, 49, 50, 51, 52, 53, 54, 55, 56, 57, 58, 59, 60, 61, 62, 63, 64, 65, 66, 67, 68, 69, 70, 71, 72, 73, 74, 75, 76, 77, 78, 79, 80, 81, 82, 83, 84, 85, 86, 87, 88, 89, 90, 91, 92, 93, 94, 95, 96, 97, 98, 99, 100, 101, 102, 103, 104, 105, 106, 107, 108, 114, 115, 116, 117, 118, 119, 120, 121, 109, 110, 111, 112, 113, 122] (by decide +kernel) (by decide +kernel)
set_option maxRecDepth 20000 in
theorem gX6_more_X6_factorsOfOnly : GoodIn wsX6_more (wsV RX6 116 RX6 yX6_factorsOfOnly wsX6_factorsOfOnly) := goodIn_app (goodIn_of _ (by decide +kernel)) ggX6_more_X6_factorsOfOnly
theorem dX6_more_0 : decode cX6_more 0 = .ok (.aload_n 0, 1) := by decide +kernel
theorem dX6_more_1 : decode cX6_more 1 = .ok (.getfield 10, 3) := by decide +kernel
theorem dX6_more_4 : decode cX6_more 4 = .ok (.iload_n 1, 1) := by decide +kernel
theorem dX6_more_5 : decode cX6_more 5 = .ok (.invokevirtual 101, 3) := by decide +kernel
theorem dX6_more_8 : decode cX6_more 8 = .ok (.ifCond .eq 14, 3) := by decide +kernel
theorem dX6_more_11 : decode cX6_more 11 = .ok (.aload_n 0, 1) := by decide +kernel
theorem dX6_more_12 : decode cX6_more 12 = .ok (.getfield 10, 3) := by decide +kernel
theorem dX6_more_15 : decode cX6_more 15 = .ok (.iload_n 2, 1) := by decide +kernel
theorem dX6_more_16 : decode cX6_more 16 = .ok (.invokevirtual 101, 3) := by decide +kernel
theorem dX6_more_19 : decode cX6_more 19 = .ok (.ifCond .ne 5, 3) := by decide +kernel
theorem dX6_more_22 : decode cX6_more 22 = .ok (.iconst (-1), 1) := by decide +kernel
theorem dX6_more_23 : decode cX6_more 23 = .ok (.ireturn, 1) := by decide +kernel
theorem dX6_more_24 : decode cX6_more 24 = .ok (.aload_n 0, 1) := by decide +kernel
theorem dX6_more_25 : decode cX6_more 25 = .ok (.iload_n 1, 1) := by decide +kernel
theorem dX6_more_26 : decode cX6_more 26 = .ok (.iload_n 2, 1) := by decide +kernel
theorem dX6_more_27 : decode cX6_more 27 = .ok (.invokevirtual 116, 3) := by decide +kernel
theorem dX6_more_30 : decode cX6_more 30 = .ok (.ireturn, 1) := by decide +kernel
set_option maxRecDepth 20000 in
theorem ggX6_letter_X6_showPresent : GoodIn wsX6_letter wsX6_showPresent := goodIn_r _ [6, 1, 7, 8, 9, 10, 11, 12, 13, 14, 15, 16, 17, 18, 19, 20, 21, 22, 23, 24, 25, 26, 27, 28, 29, 30, 31, 32, 33, 34, 35, 36, 37, 38, 39, 40, 41, 42, 43, 44, 45, 46, 47, 48, 49, 50, 51, 52, 53, 54, 55, 56, 57, 58, 59, 60, 61, 62, 63, 64, 65, 66, 67, 68, 69, 70, 71, 82, 83, 84, 85, 86, 87, 88, 89, 90, 91, 92, 93, 94, 95, 96, 97, 98, 99, 100, 101, 102, 103, 104, 105] (by decide +kernel) (by decide +kernel)
set_option maxRecDepth 20000 in
theorem gX6_letter_X6_showPresent : GoodIn wsX6_letter (wsV RX6 122 RX6 yX6_showPresent wsX6_showPresent) := goodIn_app (goodIn_of _ (by decide +kernel)) ggX6_letter_X6_showPresent
set_option maxRecDepth 20000 in
theorem ggX6_letter_X5_wordCount : GoodIn wsX6_letter wsX5_wordCount := goodIn_r _ [75, 19, 93, 94, 95, 96, 97, 98, 99, 100] (by decide +kernel) (by decide +kernel)
set_option maxRecDepth 20000 in
theorem gX6_letter_X5_wordCount : GoodIn wsX6_letter (wsV RX6 125 RX5 yX5_wordCount wsX5_wordCount) := goodIn_app (goodIn_of _ (by decide +kernel)) ggX6_letter_X5_wordCount
set_option maxRecDepth 20000 in
theorem ggX6_letter_X5_wordEnd : GoodIn wsX6_letter wsX5_wordEnd := goodIn_r _ [71, 64, 65, 66, 12, 67, 19, 49, 20, 93, 94, 95, 96, 97, 98, 99, 100] (by decide +kernel) (by decide +kernel)
set_option maxRecDepth 20000 in
theorem gX6_letter_X5_wordEnd : GoodIn wsX6_letter (wsV RX6 128 RX5 yX5_wordEnd wsX5_wordEnd) := goodIn_app (goodIn_of _ (by decide +kernel)) ggX6_letter_X5_wordEnd
set_option maxRecDepth 20000 in
theorem ggX6_letter_X5_wordStart : GoodIn wsX6_letter wsX5_wordStart := goodIn_r _ [67, 19, 49, 20, 93, 94, 95, 96, 97, 98, 99, 100] (by decide +kernel) (by decide +kernel)
set_option maxRecDepth 20000 in
theorem gX6_letter_X5_wordStart : GoodIn wsX6_letter (wsV RX6 131 RX5 yX5_wordStart wsX5_wordStart) := goodIn_app (goodIn_of _ (by decide +kernel)) ggX6_letter_X5_wordStart
set_option maxRecDepth 20000 in
theorem ggX6_letter_X5_letterAt : GoodIn wsX6_letter wsX5_letterAt := goodIn_r _ [81, 54, 55, 56, 57, 12, 58, 20, 93, 94, 95, 96, 97, 98, 99, 100] (by decide +kernel) (by decide +kernel)
set_option maxRecDepth 20000 in
theorem gX6_letter_X5_letterAt : GoodIn wsX6_letter (wsV RX6 134 RX5 yX5_letterAt wsX5_letterAt) := goodIn_app (goodIn_of _ (by decide +kernel)) ggX6_letter_X5_letterAt
theorem dX6_letter_0 : decode cX6_letter 0 = .ok (.aload_n 0, 1) := by decide +kernel
theorem dX6_letter_1 : decode cX6_letter 1 = .ok (.invokevirtual 122, 3) := by decide +kernel
theorem dX6_letter_4 : decode cX6_letter 4 = .ok (.iload_n 1, 1) := by decide +kernel
theorem dX6_letter_5 : decode cX6_letter 5 = .ok (.ifCond .lt 14, 3) := by decide +kernel
theorem dX6_letter_8 : decode cX6_letter 8 = .ok (.iload_n 1, 1) := by decide +kernel
theorem dX6_letter_9 : decode cX6_letter 9 = .ok (.aload_n 0, 1) := by decide +kernel
theorem dX6_letter_10 : decode cX6_letter 10 = .ok (.getfield 26, 3) := by decide +kernel
theorem dX6_letter_13 : decode cX6_letter 13 = .ok (.invokevirtual 125, 3) := by decide +kernel
theorem dX6_letter_16 : decode cX6_letter 16 = .ok (.if_icmp .lt 5, 3) := by decide +kernel
theorem dX6_letter_19 : decode cX6_letter 19 = .ok (.iconst (-1), 1) := by decide +kernel
theorem dX6_letter_20 : decode cX6_letter 20 = .ok (.ireturn, 1) := by decide +kernel
theorem dX6_letter_21 : decode cX6_letter 21 = .ok (.aload_n 0, 1) := by decide +kernel
theorem dX6_letter_22 : decode cX6_letter 22 = .ok (.getfield 26, 3) := by decide +kernel
theorem dX6_letter_25 : decode cX6_letter 25 = .ok (.iload_n 1, 1) := by decide +kernel
theorem dX6_letter_26 : decode cX6_letter 26 = .ok (.invokevirtual 128, 3) := by decide +kernel
theorem dX6_letter_29 : decode cX6_letter 29 = .ok (.aload_n 0, 1) := by decide +kernel
theorem dX6_letter_30 : decode cX6_letter 30 = .ok (.getfield 26, 3) := by decide +kernel
theorem dX6_letter_33 : decode cX6_letter 33 = .ok (.iload_n 1, 1) := by decide +kernel
theorem dX6_letter_34 : decode cX6_letter 34 = .ok (.invokevirtual 131, 3) := by decide +kernel
theorem dX6_letter_37 : decode cX6_letter 37 = .ok (.isub, 1) := by decide +kernel
theorem dX6_letter_38 : decode cX6_letter 38 = .ok (.istore_n 3, 1) := by decide +kernel
theorem dX6_letter_39 : decode cX6_letter 39 = .ok (.iload_n 2, 1) := by decide +kernel
theorem dX6_letter_40 : decode cX6_letter 40 = .ok (.iconst (-1), 1) := by decide +kernel
theorem dX6_letter_41 : decode cX6_letter 41 = .ok (.if_icmp .ne 5, 3) := by decide +kernel
theorem dX6_letter_44 : decode cX6_letter 44 = .ok (.iload_n 3, 1) := by decide +kernel
theorem dX6_letter_45 : decode cX6_letter 45 = .ok (.ireturn, 1) := by decide +kernel
theorem dX6_letter_46 : decode cX6_letter 46 = .ok (.iload_n 2, 1) := by decide +kernel
theorem dX6_letter_47 : decode cX6_letter 47 = .ok (.ifCond .lt 8, 3) := by decide +kernel
theorem dX6_letter_50 : decode cX6_letter 50 = .ok (.iload_n 2, 1) := by decide +kernel
theorem dX6_letter_51 : decode cX6_letter 51 = .ok (.iload_n 3, 1) := by decide +kernel
theorem dX6_letter_52 : decode cX6_letter 52 = .ok (.if_icmp .lt 6, 3) := by decide +kernel
theorem dX6_letter_55 : decode cX6_letter 55 = .ok (.bipush (-6), 2) := by decide +kernel
theorem dX6_letter_57 : decode cX6_letter 57 = .ok (.ireturn, 1) := by decide +kernel
theorem dX6_letter_58 : decode cX6_letter 58 = .ok (.aload_n 0, 1) := by decide +kernel
theorem dX6_letter_59 : decode cX6_letter 59 = .ok (.getfield 26, 3) := by decide +kernel
theorem dX6_letter_62 : decode cX6_letter 62 = .ok (.aload_n 0, 1) := by decide +kernel
theorem dX6_letter_63 : decode cX6_letter 63 = .ok (.getfield 26, 3) := by decide +kernel
theorem dX6_letter_66 : decode cX6_letter 66 = .ok (.iload_n 1, 1) := by decide +kernel
theorem dX6_letter_67 : decode cX6_letter 67 = .ok (.invokevirtual 131, 3) := by decide +kernel
theorem dX6_letter_70 : decode cX6_letter 70 = .ok (.iload_n 2, 1) := by decide +kernel
theorem dX6_letter_71 : decode cX6_letter 71 = .ok (.iadd, 1) := by decide +kernel
theorem dX6_letter_72 : decode cX6_letter 72 = .ok (.invokevirtual 134, 3) := by decide +kernel
theorem dX6_letter_75 : decode cX6_letter 75 = .ok (.ireturn, 1) := by decide +kernel
set_option maxRecDepth 20000 in
theorem ggX6_say_X3_size : GoodIn wsX6_say wsX3_size := goodIn_r _ [6, 7, 24, 25] (by decide +kernel) (by decide +kernel)
set_option maxRecDepth 20000 in
theorem gX6_say_X3_size : GoodIn wsX6_say (wsV RX6 89 RX3 yX3_size wsX3_size) := goodIn_app (goodIn_of _ (by decide +kernel)) ggX6_say_X3_size
set_option maxRecDepth 20000 in
theorem ggX6_say_X3_add : GoodIn wsX6_say wsX3_add := goodIn_r _ [11, 7, 12, 24, 25] (by decide +kernel) (by decide +kernel)
set_option maxRecDepth 20000 in
theorem gX6_say_X3_add : GoodIn wsX6_say (wsV RX6 137 RX3 yX3_add wsX3_add) := goodIn_app (goodIn_of _ (by decide +kernel)) ggX6_say_X3_add
theorem dX6_say_0 : decode cX6_say 0 = .ok (.iload_n 1, 1) := by decide +kernel
theorem dX6_say_1 : decode cX6_say 1 = .ok (.bipush 33, 2) := by decide +kernel
theorem dX6_say_3 : decode cX6_say 3 = .ok (.if_icmp .lt 9, 3) := by decide +kernel
theorem dX6_say_6 : decode cX6_say 6 = .ok (.iload_n 1, 1) := by decide +kernel
theorem dX6_say_7 : decode cX6_say 7 = .ok (.bipush 126, 2) := by decide +kernel
theorem dX6_say_9 : decode cX6_say 9 = .ok (.if_icmp .le 6, 3) := by decide +kernel
theorem dX6_say_12 : decode cX6_say 12 = .ok (.bipush (-2), 2) := by decide +kernel
theorem dX6_say_14 : decode cX6_say 14 = .ok (.ireturn, 1) := by decide +kernel
theorem dX6_say_15 : decode cX6_say 15 = .ok (.aload_n 0, 1) := by decide +kernel
theorem dX6_say_16 : decode cX6_say 16 = .ok (.getfield 19, 3) := by decide +kernel
theorem dX6_say_19 : decode cX6_say 19 = .ok (.invokevirtual 89, 3) := by decide +kernel
theorem dX6_say_22 : decode cX6_say 22 = .ok (.bipush 60, 2) := by decide +kernel
theorem dX6_say_24 : decode cX6_say 24 = .ok (.if_icmp .lt 6, 3) := by decide +kernel
theorem dX6_say_27 : decode cX6_say 27 = .ok (.bipush (-4), 2) := by decide +kernel
theorem dX6_say_29 : decode cX6_say 29 = .ok (.ireturn, 1) := by decide +kernel
theorem dX6_say_30 : decode cX6_say 30 = .ok (.aload_n 0, 1) := by decide +kernel
theorem dX6_say_31 : decode cX6_say 31 = .ok (.getfield 19, 3) := by decide +kernel
theorem dX6_say_34 : decode cX6_say 34 = .ok (.iload_n 1, 1) := by decide +kernel
theorem dX6_say_35 : decode cX6_say 35 = .ok (.invokevirtual 137, 3) := by decide +kernel
theorem dX6_say_38 : decode cX6_say 38 = .ok (.aload_n 0, 1) := by decide +kernel
theorem dX6_say_39 : decode cX6_say 39 = .ok (.getfield 19, 3) := by decide +kernel
theorem dX6_say_42 : decode cX6_say 42 = .ok (.invokevirtual 89, 3) := by decide +kernel
theorem dX6_say_45 : decode cX6_say 45 = .ok (.ireturn, 1) := by decide +kernel
set_option maxRecDepth 20000 in
theorem ggX6_wipe_X3_size : GoodIn wsX6_wipe wsX3_size := goodIn_r _ [6, 7, 23, 24] (by decide +kernel) (by decide +kernel)
set_option maxRecDepth 20000 in
theorem gX6_wipe_X3_size : GoodIn wsX6_wipe (wsV RX6 89 RX3 yX3_size wsX3_size) := goodIn_app (goodIn_of _ (by decide +kernel)) ggX6_wipe_X3_size
set_option maxRecDepth 20000 in
theorem ggX6_wipe_X3_clear : GoodIn wsX6_wipe wsX3_clear := goodIn_r _ [11, 7, 23, 24] (by decide +kernel) (by decide +kernel)
set_option maxRecDepth 20000 in
theorem gX6_wipe_X3_clear : GoodIn wsX6_wipe (wsV RX6 98 RX3 yX3_clear wsX3_clear) := goodIn_app (goodIn_of _ (by decide +kernel)) ggX6_wipe_X3_clear
theorem dX6_wipe_0 : decode cX6_wipe 0 = .ok (.aload_n 0, 1) := by decide +kernel
theorem dX6_wipe_1 : decode cX6_wipe 1 = .ok (.getfield 19, 3) := by decide +kernel
theorem dX6_wipe_4 : decode cX6_wipe 4 = .ok (.invokevirtual 89, 3) := by decide +kernel
theorem dX6_wipe_7 : decode cX6_wipe 7 = .ok (.istore_n 1, 1) := by decide +kernel
theorem dX6_wipe_8 : decode cX6_wipe 8 = .ok (.aload_n 0, 1) := by decide +kernel
theorem dX6_wipe_9 : decode cX6_wipe 9 = .ok (.getfield 19, 3) := by decide +kernel
theorem dX6_wipe_12 : decode cX6_wipe 12 = .ok (.invokevirtual 98, 3) := by decide +kernel
theorem dX6_wipe_15 : decode cX6_wipe 15 = .ok (.iload_n 1, 1) := by decide +kernel
theorem dX6_wipe_16 : decode cX6_wipe 16 = .ok (.ireturn, 1) := by decide +kernel
set_option maxRecDepth 20000 in
theorem ggX6_pad_X3_size : GoodIn wsX6_pad wsX3_size := goodIn_r _ [6, 7, 24, 25] (by decide +kernel) (by decide +kernel)
set_option maxRecDepth 20000 in
theorem gX6_pad_X3_size : GoodIn wsX6_pad (wsV RX6 89 RX3 yX3_size wsX3_size) := goodIn_app (goodIn_of _ (by decide +kernel)) ggX6_pad_X3_size
set_option maxRecDepth 20000 in
theorem ggX6_pad_X3_characterAt : GoodIn wsX6_pad wsX3_characterAt := goodIn_r _ [11, 7, 12, 24, 25] (by decide +kernel) (by decide +kernel)
set_option maxRecDepth 20000 in
theorem gX6_pad_X3_characterAt : GoodIn wsX6_pad (wsV RX6 95 RX3 yX3_characterAt wsX3_characterAt) := goodIn_app (goodIn_of _ (by decide +kernel)) ggX6_pad_X3_characterAt
theorem dX6_pad_0 : decode cX6_pad 0 = .ok (.iload_n 1, 1) := by decide +kernel
theorem dX6_pad_1 : decode cX6_pad 1 = .ok (.iconst (-1), 1) := by decide +kernel
theorem dX6_pad_2 : decode cX6_pad 2 = .ok (.if_icmp .ne 13, 3) := by decide +kernel
theorem dX6_pad_5 : decode cX6_pad 5 = .ok (.aload_n 0, 1) := by decide +kernel
theorem dX6_pad_6 : decode cX6_pad 6 = .ok (.getfield 19, 3) := by decide +kernel
theorem dX6_pad_9 : decode cX6_pad 9 = .ok (.invokevirtual 89, 3) := by decide +kernel
theorem dX6_pad_12 : decode cX6_pad 12 = .ok (.goto 11, 3) := by decide +kernel
theorem dX6_pad_15 : decode cX6_pad 15 = .ok (.aload_n 0, 1) := by decide +kernel
theorem dX6_pad_16 : decode cX6_pad 16 = .ok (.getfield 19, 3) := by decide +kernel
theorem dX6_pad_19 : decode cX6_pad 19 = .ok (.iload_n 1, 1) := by decide +kernel
theorem dX6_pad_20 : decode cX6_pad 20 = .ok (.invokevirtual 95, 3) := by decide +kernel
theorem dX6_pad_23 : decode cX6_pad 23 = .ok (.ireturn, 1) := by decide +kernel
set_option maxRecDepth 20000 in
theorem ggX6_fault_X3_faultAsPattern : GoodIn wsX6_fault wsX3_faultAsPattern := goodIn_r _ [6, 7, 8, 9, 10, 5, 11, 12, 13, 14, 15, 31, 32] (by decide +kernel) (by decide +kernel)
set_option maxRecDepth 20000 in
theorem gX6_fault_X3_faultAsPattern : GoodIn wsX6_fault (wsV RX6 141 RX3 yX3_faultAsPattern wsX3_faultAsPattern) := goodIn_app (goodIn_of _ (by decide +kernel)) ggX6_fault_X3_faultAsPattern
set_option maxRecDepth 20000 in
theorem ggX6_fault_X3_faultAsWords : GoodIn wsX6_fault wsX3_faultAsWords := goodIn_r _ [19, 8, 9, 10, 5, 11, 7, 12, 13, 14, 15, 31, 32] (by decide +kernel) (by decide +kernel)
set_option maxRecDepth 20000 in
theorem gX6_fault_X3_faultAsWords : GoodIn wsX6_fault (wsV RX6 85 RX3 yX3_faultAsWords wsX3_faultAsWords) := goodIn_app (goodIn_of _ (by decide +kernel)) ggX6_fault_X3_faultAsWords
theorem dX6_fault_0 : decode cX6_fault 0 = .ok (.iload_n 1, 1) := by decide +kernel
theorem dX6_fault_1 : decode cX6_fault 1 = .ok (.ifCond .eq 11, 3) := by decide +kernel
theorem dX6_fault_4 : decode cX6_fault 4 = .ok (.iload_n 1, 1) := by decide +kernel
theorem dX6_fault_5 : decode cX6_fault 5 = .ok (.iconst 1, 1) := by decide +kernel
theorem dX6_fault_6 : decode cX6_fault 6 = .ok (.if_icmp .eq 6, 3) := by decide +kernel
theorem dX6_fault_9 : decode cX6_fault 9 = .ok (.bipush (-2), 2) := by decide +kernel
theorem dX6_fault_11 : decode cX6_fault 11 = .ok (.ireturn, 1) := by decide +kernel
theorem dX6_fault_12 : decode cX6_fault 12 = .ok (.iload_n 1, 1) := by decide +kernel
theorem dX6_fault_13 : decode cX6_fault 13 = .ok (.ifCond .ne 13, 3) := by decide +kernel
theorem dX6_fault_16 : decode cX6_fault 16 = .ok (.aload_n 0, 1) := by decide +kernel
theorem dX6_fault_17 : decode cX6_fault 17 = .ok (.getfield 19, 3) := by decide +kernel
theorem dX6_fault_20 : decode cX6_fault 20 = .ok (.invokevirtual 141, 3) := by decide +kernel
theorem dX6_fault_23 : decode cX6_fault 23 = .ok (.goto 10, 3) := by decide +kernel
theorem dX6_fault_26 : decode cX6_fault 26 = .ok (.aload_n 0, 1) := by decide +kernel
theorem dX6_fault_27 : decode cX6_fault 27 = .ok (.getfield 19, 3) := by decide +kernel
theorem dX6_fault_30 : decode cX6_fault 30 = .ok (.invokevirtual 85, 3) := by decide +kernel
theorem dX6_fault_33 : decode cX6_fault 33 = .ok (.ireturn, 1) := by decide +kernel
set_option maxRecDepth 20000 in
theorem ggX6_occurs_X6_readPattern : GoodIn wsX6_occurs wsX6_readPattern := goodIn_r _ [7, 8, 2, 9, 10, 11, 12, 13, 14, 15, 16, 17, 18, 19, 20, 6, 21, 22, 23, 24, 25, 26, 27, 28, 29, 30, 31, 32, 33, 34, 35, 36, 37, 38, 39, 40, 41, 42, 43, 44, 45, 46, 47, 48, 49, 50, 51, 52, 53, 221, 222, 223, 224, 225, 226, 227, 228, 229, 230, 231, 232, 233, 234, 235, 236, 237, 238, 239, 240, 241] (by decide +kernel) (by decide +kernel)
set_option maxRecDepth 20000 in
theorem gX6_occurs_X6_readPattern : GoodIn wsX6_occurs (wsV RX6 144 RX6 yX6_readPattern wsX6_readPattern) := goodIn_app (goodIn_of _ (by decide +kernel)) ggX6_occurs_X6_readPattern
set_option maxRecDepth 20000 in
theorem ggX6_occurs_X6_showPresent : GoodIn wsX6_occurs wsX6_showPresent := goodIn_r _ [57, 1, 58, 59, 60, 61, 62, 25, 63, 37, 40, 41, 42, 43, 38, 27, 48, 47, 49, 64, 65, 66, 67, 68, 69, 70, 71, 72, 73, 74, 75, 76, 77, 78, 79, 80, 81, 82, 83, 84, 85, 86, 87, 88, 39, 89, 90, 91, 92, 28, 93, 94, 95, 96, 97, 98, 99, 100, 101, 102, 103, 104, 105, 106, 107, 108, 109, 221, 222, 223, 224, 225, 226, 227, 228, 229, 230, 231, 234, 235, 236, 237, 238, 239, 240, 241, 242, 243, 244, 245, 246] (by decide +kernel) (by decide +kernel)
set_option maxRecDepth 20000 in
theorem gX6_occurs_X6_showPresent : GoodIn wsX6_occurs (wsV RX6 122 RX6 yX6_showPresent wsX6_showPresent) := goodIn_app (goodIn_of _ (by decide +kernel)) ggX6_occurs_X6_showPresent
set_option maxRecDepth 20000 in
theorem ggX6_occurs_X5_endsOf : GoodIn wsX6_occurs wsX5_endsOf := goodIn_r _ [113, 27, 114, 115, 116, 25, 117, 93, 94, 95, 96, 118, 119, 120, 121, 48, 122, 123, 124, 125, 126, 127, 128, 129, 28, 234, 235, 236, 237, 238, 239, 240, 241] (by decide +kernel) (by decide +kernel)
set_option maxRecDepth 20000 in
theorem gX6_occurs_X5_endsOf : GoodIn wsX6_occurs (wsV RX6 148 RX5 yX5_endsOf wsX5_endsOf) := goodIn_app (goodIn_of _ (by decide +kernel)) ggX6_occurs_X5_endsOf
set_option maxRecDepth 20000 in
theorem ggX6_occurs_X5_wordsWith : GoodIn wsX6_occurs wsX5_wordsWith := goodIn_r _ [133, 27, 47, 114, 115, 116, 25, 117, 93, 94, 95, 96, 118, 119, 120, 121, 48, 122, 123, 124, 125, 126, 127, 128, 129, 28, 234, 235, 236, 237, 238, 239, 240, 241] (by decide +kernel) (by decide +kernel)
set_option maxRecDepth 20000 in
theorem gX6_occurs_X5_wordsWith : GoodIn wsX6_occurs (wsV RX6 152 RX5 yX5_wordsWith wsX5_wordsWith) := goodIn_app (goodIn_of _ (by decide +kernel)) ggX6_occurs_X5_wordsWith
set_option maxRecDepth 20000 in
theorem ggX6_occurs_X6_classOfPattern : GoodIn wsX6_occurs wsX6_classOfPattern := goodIn_r _ [137, 1, 2, 138, 139, 140, 141, 25, 142, 27, 114, 115, 116, 117, 93, 94, 95, 96, 118, 119, 120, 121, 48, 122, 123, 124, 125, 126, 127, 128, 129, 28, 143, 144, 145, 146, 147, 148, 149, 150, 151, 152, 41, 42, 43, 153, 154, 155, 156, 37, 157, 158, 159, 160, 161, 162, 163, 164, 165, 166, 167, 168, 169, 170, 171, 172, 173, 174, 175, 176, 177, 178, 179, 180, 181, 182, 183, 184, 185, 186, 187, 188, 189, 190, 191, 192, 193, 194, 195, 45, 46, 196, 197, 198, 199, 200, 201, 202, 203, 204, 205, 206, 207, 208, 209, 210, 47, 211, 212, 213, 214, 49, 215, 216, 221, 222, 223, 224, 225, 226, 227, 228, 229, 230, 231, 234, 235, 236, 237, 238, 239, 240, 241, 247, 248, 249, 250, 251, 252, 253, 254, 255, 256, 257, 258, 259, 260] (by decide +kernel) (by decide +kernel)
set_option maxRecDepth 20000 in
theorem gX6_occurs_X6_classOfPattern : GoodIn wsX6_occurs (wsV RX6 155 RX6 yX6_classOfPattern wsX6_classOfPattern) := goodIn_app (goodIn_of _ (by decide +kernel)) ggX6_occurs_X6_classOfPattern
set_option maxRecDepth 20000 in
theorem ggX6_occurs_X5_mostApart : GoodIn wsX6_occurs wsX5_mostApart := goodIn_r _ [220, 27, 122, 123, 124, 25, 125, 114, 115, 116, 117, 93, 94, 95, 96, 118, 119, 120, 121, 48, 126, 127, 128, 129, 28, 234, 235, 236, 237, 238, 239, 240, 241] (by decide +kernel) (by decide +kernel)
set_option maxRecDepth 20000 in
theorem gX6_occurs_X5_mostApart : GoodIn wsX6_occurs (wsV RX6 158 RX5 yX5_mostApart wsX5_mostApart) := goodIn_app (goodIn_of _ (by decide +kernel)) ggX6_occurs_X5_mostApart
theorem dX6_occurs_0 : decode cX6_occurs 0 = .ok (.iload_n 1, 1) := by decide +kernel
theorem dX6_occurs_1 : decode cX6_occurs 1 = .ok (.ifCond .lt 8, 3) := by decide +kernel
theorem dX6_occurs_4 : decode cX6_occurs 4 = .ok (.iload_n 1, 1) := by decide +kernel
theorem dX6_occurs_5 : decode cX6_occurs 5 = .ok (.iconst 3, 1) := by decide +kernel
theorem dX6_occurs_6 : decode cX6_occurs 6 = .ok (.if_icmp .le 6, 3) := by decide +kernel
theorem dX6_occurs_9 : decode cX6_occurs 9 = .ok (.bipush (-2), 2) := by decide +kernel
theorem dX6_occurs_11 : decode cX6_occurs 11 = .ok (.ireturn, 1) := by decide +kernel
theorem dX6_occurs_12 : decode cX6_occurs 12 = .ok (.aload_n 0, 1) := by decide +kernel
theorem dX6_occurs_13 : decode cX6_occurs 13 = .ok (.invokevirtual 144, 3) := by decide +kernel
theorem dX6_occurs_16 : decode cX6_occurs 16 = .ok (.ifCond .ne 6, 3) := by decide +kernel
theorem dX6_occurs_19 : decode cX6_occurs 19 = .ok (.bipush (-3), 2) := by decide +kernel
theorem dX6_occurs_21 : decode cX6_occurs 21 = .ok (.ireturn, 1) := by decide +kernel
theorem dX6_occurs_22 : decode cX6_occurs 22 = .ok (.aload_n 0, 1) := by decide +kernel
theorem dX6_occurs_23 : decode cX6_occurs 23 = .ok (.invokevirtual 122, 3) := by decide +kernel
theorem dX6_occurs_26 : decode cX6_occurs 26 = .ok (.iload_n 1, 1) := by decide +kernel
theorem dX6_occurs_27 : decode cX6_occurs 27 = .ok (.tableswitch 54 0 2 #[25, 37, 49], 25) := by decide +kernel
theorem dX6_occurs_52 : decode cX6_occurs 52 = .ok (.aload_n 0, 1) := by decide +kernel
theorem dX6_occurs_53 : decode cX6_occurs 53 = .ok (.getfield 26, 3) := by decide +kernel
theorem dX6_occurs_56 : decode cX6_occurs 56 = .ok (.aload_n 0, 1) := by decide +kernel
theorem dX6_occurs_57 : decode cX6_occurs 57 = .ok (.getfield 44, 3) := by decide +kernel
theorem dX6_occurs_60 : decode cX6_occurs 60 = .ok (.invokevirtual 148, 3) := by decide +kernel
theorem dX6_occurs_63 : decode cX6_occurs 63 = .ok (.ireturn, 1) := by decide +kernel
theorem dX6_occurs_64 : decode cX6_occurs 64 = .ok (.aload_n 0, 1) := by decide +kernel
theorem dX6_occurs_65 : decode cX6_occurs 65 = .ok (.getfield 26, 3) := by decide +kernel
theorem dX6_occurs_68 : decode cX6_occurs 68 = .ok (.aload_n 0, 1) := by decide +kernel
theorem dX6_occurs_69 : decode cX6_occurs 69 = .ok (.getfield 44, 3) := by decide +kernel
theorem dX6_occurs_72 : decode cX6_occurs 72 = .ok (.invokevirtual 152, 3) := by decide +kernel
theorem dX6_occurs_75 : decode cX6_occurs 75 = .ok (.ireturn, 1) := by decide +kernel
theorem dX6_occurs_76 : decode cX6_occurs 76 = .ok (.aload_n 0, 1) := by decide +kernel
theorem dX6_occurs_77 : decode cX6_occurs 77 = .ok (.invokevirtual 155, 3) := by decide +kernel
theorem dX6_occurs_80 : decode cX6_occurs 80 = .ok (.ireturn, 1) := by decide +kernel
theorem dX6_occurs_81 : decode cX6_occurs 81 = .ok (.aload_n 0, 1) := by decide +kernel
theorem dX6_occurs_82 : decode cX6_occurs 82 = .ok (.getfield 26, 3) := by decide +kernel
theorem dX6_occurs_85 : decode cX6_occurs 85 = .ok (.aload_n 0, 1) := by decide +kernel
theorem dX6_occurs_86 : decode cX6_occurs 86 = .ok (.getfield 44, 3) := by decide +kernel
theorem dX6_occurs_89 : decode cX6_occurs 89 = .ok (.invokevirtual 158, 3) := by decide +kernel
theorem dX6_occurs_92 : decode cX6_occurs 92 = .ok (.ireturn, 1) := by decide +kernel
set_option maxRecDepth 20000 in
theorem ggX6_end_X6_readPattern : GoodIn wsX6_end wsX6_readPattern := goodIn_r _ [7, 8, 2, 9, 10, 11, 12, 13, 14, 15, 16, 17, 18, 19, 20, 6, 21, 22, 23, 24, 25, 26, 27, 28, 29, 30, 31, 32, 33, 34, 35, 36, 37, 38, 39, 40, 41, 42, 43, 44, 45, 46, 47, 48, 49, 50, 51, 52, 53, 138, 139, 140, 141, 142, 143, 144, 145, 146, 147, 148, 149, 150, 151, 152, 153, 154, 155, 156, 157, 158] (by decide +kernel) (by decide +kernel)
set_option maxRecDepth 20000 in
theorem gX6_end_X6_readPattern : GoodIn wsX6_end (wsV RX6 144 RX6 yX6_readPattern wsX6_readPattern) := goodIn_app (goodIn_of _ (by decide +kernel)) ggX6_end_X6_readPattern
set_option maxRecDepth 20000 in
theorem ggX6_end_X6_showPresent : GoodIn wsX6_end wsX6_showPresent := goodIn_r _ [57, 1, 58, 59, 60, 61, 62, 25, 63, 37, 40, 41, 42, 43, 38, 27, 48, 47, 49, 64, 65, 66, 67, 68, 69, 70, 71, 72, 73, 74, 75, 76, 77, 78, 79, 80, 81, 82, 83, 84, 85, 86, 87, 88, 39, 89, 90, 91, 92, 28, 93, 94, 95, 96, 97, 98, 99, 100, 101, 102, 103, 104, 105, 106, 107, 108, 109, 138, 139, 140, 141, 142, 143, 144, 145, 146, 147, 148, 151, 152, 153, 154, 155, 156, 157, 158, 159, 160, 161, 162, 163] (by decide +kernel) (by decide +kernel)
set_option maxRecDepth 20000 in
theorem gX6_end_X6_showPresent : GoodIn wsX6_end (wsV RX6 122 RX6 yX6_showPresent wsX6_showPresent) := goodIn_app (goodIn_of _ (by decide +kernel)) ggX6_end_X6_showPresent
set_option maxRecDepth 20000 in
theorem ggX6_end_X5_endNumber : GoodIn wsX6_end wsX5_endNumber := goodIn_r _ [113, 27, 114, 115, 116, 25, 117, 93, 94, 95, 96, 118, 119, 120, 121, 48, 122, 123, 124, 125, 126, 127, 128, 129, 28, 151, 152, 153, 154, 155, 156, 157, 158] (by decide +kernel) (by decide +kernel)
set_option maxRecDepth 20000 in
theorem gX6_end_X5_endNumber : GoodIn wsX6_end (wsV RX6 161 RX5 yX5_endNumber wsX5_endNumber) := goodIn_app (goodIn_of _ (by decide +kernel)) ggX6_end_X5_endNumber
set_option maxRecDepth 20000 in
theorem ggX6_end_X5_placeCode : GoodIn wsX6_end wsX5_placeCode := goodIn_r _ [133, 134, 135, 136, 25, 137, 47, 93, 94, 95, 96, 27, 118, 119, 120, 121, 48, 151, 152, 153, 154, 155, 156, 157, 158] (by decide +kernel) (by decide +kernel)
set_option maxRecDepth 20000 in
theorem gX6_end_X5_placeCode : GoodIn wsX6_end (wsV RX6 165 RX5 yX5_placeCode wsX5_placeCode) := goodIn_app (goodIn_of _ (by decide +kernel)) ggX6_end_X5_placeCode
theorem dX6_end_0 : decode cX6_end 0 = .ok (.aload_n 0, 1) := by decide +kernel
theorem dX6_end_1 : decode cX6_end 1 = .ok (.invokevirtual 144, 3) := by decide +kernel
theorem dX6_end_4 : decode cX6_end 4 = .ok (.ifCond .ne 6, 3) := by decide +kernel
theorem dX6_end_7 : decode cX6_end 7 = .ok (.bipush (-3), 2) := by decide +kernel
theorem dX6_end_9 : decode cX6_end 9 = .ok (.ireturn, 1) := by decide +kernel
theorem dX6_end_10 : decode cX6_end 10 = .ok (.aload_n 0, 1) := by decide +kernel
theorem dX6_end_11 : decode cX6_end 11 = .ok (.invokevirtual 122, 3) := by decide +kernel
theorem dX6_end_14 : decode cX6_end 14 = .ok (.aload_n 0, 1) := by decide +kernel
theorem dX6_end_15 : decode cX6_end 15 = .ok (.getfield 26, 3) := by decide +kernel
theorem dX6_end_18 : decode cX6_end 18 = .ok (.aload_n 0, 1) := by decide +kernel
theorem dX6_end_19 : decode cX6_end 19 = .ok (.getfield 44, 3) := by decide +kernel
theorem dX6_end_22 : decode cX6_end 22 = .ok (.iload_n 1, 1) := by decide +kernel
theorem dX6_end_23 : decode cX6_end 23 = .ok (.invokevirtual 161, 3) := by decide +kernel
theorem dX6_end_26 : decode cX6_end 26 = .ok (.istore_n 2, 1) := by decide +kernel
theorem dX6_end_27 : decode cX6_end 27 = .ok (.iload_n 2, 1) := by decide +kernel
theorem dX6_end_28 : decode cX6_end 28 = .ok (.bipush (-6), 2) := by decide +kernel
theorem dX6_end_30 : decode cX6_end 30 = .ok (.if_icmp .ne 8, 3) := by decide +kernel
theorem dX6_end_33 : decode cX6_end 33 = .ok (.bipush (-6), 2) := by decide +kernel
theorem dX6_end_35 : decode cX6_end 35 = .ok (.goto 11, 3) := by decide +kernel
theorem dX6_end_38 : decode cX6_end 38 = .ok (.aload_n 0, 1) := by decide +kernel
theorem dX6_end_39 : decode cX6_end 39 = .ok (.getfield 26, 3) := by decide +kernel
theorem dX6_end_42 : decode cX6_end 42 = .ok (.iload_n 2, 1) := by decide +kernel
theorem dX6_end_43 : decode cX6_end 43 = .ok (.invokevirtual 165, 3) := by decide +kernel
theorem dX6_end_46 : decode cX6_end 46 = .ok (.ireturn, 1) := by decide +kernel
set_option maxRecDepth 20000 in
theorem ggX6_matches_X6_readPattern : GoodIn wsX6_matches wsX6_readPattern := goodIn_r _ [8, 9, 1, 10, 11, 12, 13, 14, 15, 16, 17, 18, 19, 20, 21, 7, 22, 23, 24, 25, 26, 27, 28, 29, 30, 31, 32, 33, 34, 35, 36, 37, 38, 39, 40, 41, 42, 43, 44, 45, 46, 47, 48, 49, 50, 51, 52, 53, 54, 130, 131, 132, 133, 134, 135, 136, 137, 138, 139, 140, 141, 142, 143, 144, 145, 146, 147, 148, 149, 150] (by decide +kernel) (by decide +kernel)
set_option maxRecDepth 20000 in
theorem gX6_matches_X6_readPattern : GoodIn wsX6_matches (wsV RX6 144 RX6 yX6_readPattern wsX6_readPattern) := goodIn_app (goodIn_of _ (by decide +kernel)) ggX6_matches_X6_readPattern
set_option maxRecDepth 20000 in
theorem ggX6_matches_X5_length : GoodIn wsX6_matches wsX5_length := goodIn_r _ [58, 28, 143, 144, 145, 146, 147, 148, 149, 150] (by decide +kernel) (by decide +kernel)
set_option maxRecDepth 20000 in
theorem gX6_matches_X5_length : GoodIn wsX6_matches (wsV RX6 168 RX5 yX5_length wsX5_length) := goodIn_app (goodIn_of _ (by decide +kernel)) ggX6_matches_X5_length
set_option maxRecDepth 20000 in
theorem ggX6_matches_X6_showPresent : GoodIn wsX6_matches wsX6_showPresent := goodIn_r _ [62, 3, 63, 64, 65, 66, 67, 26, 68, 38, 41, 42, 43, 44, 39, 28, 49, 48, 50, 69, 70, 71, 72, 73, 74, 75, 76, 77, 78, 79, 80, 81, 82, 83, 84, 85, 86, 87, 88, 89, 90, 91, 92, 93, 40, 94, 95, 96, 97, 29, 98, 99, 100, 101, 102, 103, 104, 105, 106, 107, 108, 109, 110, 111, 112, 113, 114, 130, 131, 132, 133, 134, 135, 136, 137, 138, 139, 140, 143, 144, 145, 146, 147, 148, 149, 150, 151, 152, 153, 154, 155] (by decide +kernel) (by decide +kernel)
set_option maxRecDepth 20000 in
theorem gX6_matches_X6_showPresent : GoodIn wsX6_matches (wsV RX6 122 RX6 yX6_showPresent wsX6_showPresent) := goodIn_app (goodIn_of _ (by decide +kernel)) ggX6_matches_X6_showPresent
set_option maxRecDepth 20000 in
theorem ggX6_matches_X4_advance : GoodIn wsX6_matches wsX4_advance := goodIn_r _ [119, 120, 42, 43, 44, 121, 122, 123, 124, 26, 125, 29, 98, 99, 100, 101, 28, 126, 127, 128, 129, 49, 143, 144, 145, 146, 147, 148, 149, 150, 156] (by decide +kernel) (by decide +kernel)
set_option maxRecDepth 20000 in
theorem gX6_matches_X4_advance : GoodIn wsX6_matches (wsV RX6 171 RX4 yX4_advance wsX4_advance) := goodIn_app (goodIn_of _ (by decide +kernel)) ggX6_matches_X4_advance
theorem dX6_matches_0 : decode cX6_matches 0 = .ok (.aload_n 0, 1) := by decide +kernel
theorem dX6_matches_1 : decode cX6_matches 1 = .ok (.invokevirtual 144, 3) := by decide +kernel
theorem dX6_matches_4 : decode cX6_matches 4 = .ok (.ifCond .ne 6, 3) := by decide +kernel
theorem dX6_matches_7 : decode cX6_matches 7 = .ok (.bipush (-3), 2) := by decide +kernel
theorem dX6_matches_9 : decode cX6_matches 9 = .ok (.ireturn, 1) := by decide +kernel
theorem dX6_matches_10 : decode cX6_matches 10 = .ok (.iload_n 1, 1) := by decide +kernel
theorem dX6_matches_11 : decode cX6_matches 11 = .ok (.iconst 1, 1) := by decide +kernel
theorem dX6_matches_12 : decode cX6_matches 12 = .ok (.if_icmp .lt 14, 3) := by decide +kernel
theorem dX6_matches_15 : decode cX6_matches 15 = .ok (.iload_n 1, 1) := by decide +kernel
theorem dX6_matches_16 : decode cX6_matches 16 = .ok (.aload_n 0, 1) := by decide +kernel
theorem dX6_matches_17 : decode cX6_matches 17 = .ok (.getfield 44, 3) := by decide +kernel
theorem dX6_matches_20 : decode cX6_matches 20 = .ok (.invokevirtual 168, 3) := by decide +kernel
theorem dX6_matches_23 : decode cX6_matches 23 = .ok (.if_icmp .le 6, 3) := by decide +kernel
theorem dX6_matches_26 : decode cX6_matches 26 = .ok (.bipush (-2), 2) := by decide +kernel
theorem dX6_matches_28 : decode cX6_matches 28 = .ok (.ireturn, 1) := by decide +kernel
theorem dX6_matches_29 : decode cX6_matches 29 = .ok (.aload_n 0, 1) := by decide +kernel
theorem dX6_matches_30 : decode cX6_matches 30 = .ok (.invokevirtual 122, 3) := by decide +kernel
theorem dX6_matches_33 : decode cX6_matches 33 = .ok (.iconst 0, 1) := by decide +kernel
theorem dX6_matches_34 : decode cX6_matches 34 = .ok (.istore_n 2, 1) := by decide +kernel
theorem dX6_matches_35 : decode cX6_matches 35 = .ok (.iconst 0, 1) := by decide +kernel
theorem dX6_matches_36 : decode cX6_matches 36 = .ok (.istore_n 3, 1) := by decide +kernel
theorem dX6_matches_37 : decode cX6_matches 37 = .ok (.iload_n 3, 1) := by decide +kernel
theorem dX6_matches_38 : decode cX6_matches 38 = .ok (.iload_n 1, 1) := by decide +kernel
theorem dX6_matches_39 : decode cX6_matches 39 = .ok (.if_icmp .ge 33, 3) := by decide +kernel
theorem dX6_matches_42 : decode cX6_matches 42 = .ok (.aload_n 0, 1) := by decide +kernel
theorem dX6_matches_43 : decode cX6_matches 43 = .ok (.getfield 56, 3) := by decide +kernel
theorem dX6_matches_46 : decode cX6_matches 46 = .ok (.aload_n 0, 1) := by decide +kernel
theorem dX6_matches_47 : decode cX6_matches 47 = .ok (.getfield 44, 3) := by decide +kernel
theorem dX6_matches_50 : decode cX6_matches 50 = .ok (.iload_n 3, 1) := by decide +kernel
theorem dX6_matches_51 : decode cX6_matches 51 = .ok (.aload_n 0, 1) := by decide +kernel
theorem dX6_matches_52 : decode cX6_matches 52 = .ok (.getfield 26, 3) := by decide +kernel
theorem dX6_matches_55 : decode cX6_matches 55 = .ok (.aload_n 0, 1) := by decide +kernel
theorem dX6_matches_56 : decode cX6_matches 56 = .ok (.getfield 26, 3) := by decide +kernel
theorem dX6_matches_59 : decode cX6_matches 59 = .ok (.invokevirtual 168, 3) := by decide +kernel
theorem dX6_matches_62 : decode cX6_matches 62 = .ok (.invokevirtual 171, 3) := by decide +kernel
theorem dX6_matches_65 : decode cX6_matches 65 = .ok (.istore_n 2, 1) := by decide +kernel
theorem dX6_matches_66 : decode cX6_matches 66 = .ok (.iinc 3 1, 3) := by decide +kernel
theorem dX6_matches_69 : decode cX6_matches 69 = .ok (.goto (-32), 3) := by decide +kernel
theorem dX6_matches_72 : decode cX6_matches 72 = .ok (.iload_n 2, 1) := by decide +kernel
theorem dX6_matches_73 : decode cX6_matches 73 = .ok (.ireturn, 1) := by decide +kernel
set_option maxRecDepth 20000 in
theorem ggX6_parts_X6_readPattern : GoodIn wsX6_parts wsX6_readPattern := goodIn_r _ [8, 9, 1, 10, 11, 12, 13, 14, 15, 16, 17, 18, 19, 20, 21, 7, 22, 23, 24, 25, 26, 27, 28, 29, 30, 31, 32, 33, 34, 35, 36, 37, 38, 39, 40, 41, 42, 43, 44, 45, 46, 47, 48, 49, 50, 51, 52, 53, 54, 130, 131, 132, 133, 134, 135, 136, 137, 138, 139, 140, 141, 142, 143, 144, 145, 146, 147, 148, 149, 150] (by decide +kernel) (by decide +kernel)
set_option maxRecDepth 20000 in
theorem gX6_parts_X6_readPattern : GoodIn wsX6_parts (wsV RX6 144 RX6 yX6_readPattern wsX6_readPattern) := goodIn_app (goodIn_of _ (by decide +kernel)) ggX6_parts_X6_readPattern
set_option maxRecDepth 20000 in
theorem ggX6_parts_X6_showPresent : GoodIn wsX6_parts wsX6_showPresent := goodIn_r _ [58, 3, 59, 60, 61, 62, 63, 26, 64, 38, 41, 42, 43, 44, 39, 28, 49, 48, 50, 65, 66, 67, 68, 69, 70, 71, 72, 73, 74, 75, 76, 77, 78, 79, 80, 81, 82, 83, 84, 85, 86, 87, 88, 89, 40, 90, 91, 92, 93, 29, 94, 95, 96, 97, 98, 99, 100, 101, 102, 103, 104, 105, 106, 107, 108, 109, 110, 130, 131, 132, 133, 134, 135, 136, 137, 138, 139, 140, 143, 144, 145, 146, 147, 148, 149, 150, 151, 152, 153, 154, 155] (by decide +kernel) (by decide +kernel)
set_option maxRecDepth 20000 in
theorem gX6_parts_X6_showPresent : GoodIn wsX6_parts (wsV RX6 122 RX6 yX6_showPresent wsX6_showPresent) := goodIn_app (goodIn_of _ (by decide +kernel)) ggX6_parts_X6_showPresent
set_option maxRecDepth 20000 in
theorem ggX6_parts_X5_length : GoodIn wsX6_parts wsX5_length := goodIn_r _ [114, 28, 143, 144, 145, 146, 147, 148, 149, 150] (by decide +kernel) (by decide +kernel)
set_option maxRecDepth 20000 in
theorem gX6_parts_X5_length : GoodIn wsX6_parts (wsV RX6 168 RX5 yX5_length wsX5_length) := goodIn_app (goodIn_of _ (by decide +kernel)) ggX6_parts_X5_length
set_option maxRecDepth 20000 in
theorem ggX6_parts_X4_advance : GoodIn wsX6_parts wsX4_advance := goodIn_r _ [119, 120, 42, 43, 44, 121, 122, 123, 124, 26, 125, 29, 94, 95, 96, 97, 28, 126, 127, 128, 129, 49, 143, 144, 145, 146, 147, 148, 149, 150, 156] (by decide +kernel) (by decide +kernel)
set_option maxRecDepth 20000 in
theorem gX6_parts_X4_advance : GoodIn wsX6_parts (wsV RX6 171 RX4 yX4_advance wsX4_advance) := goodIn_app (goodIn_of _ (by decide +kernel)) ggX6_parts_X4_advance
theorem dX6_parts_0 : decode cX6_parts 0 = .ok (.aload_n 0, 1) := by decide +kernel
theorem dX6_parts_1 : decode cX6_parts 1 = .ok (.invokevirtual 144, 3) := by decide +kernel
theorem dX6_parts_4 : decode cX6_parts 4 = .ok (.ifCond .ne 6, 3) := by decide +kernel
theorem dX6_parts_7 : decode cX6_parts 7 = .ok (.bipush (-3), 2) := by decide +kernel
theorem dX6_parts_9 : decode cX6_parts 9 = .ok (.ireturn, 1) := by decide +kernel
theorem dX6_parts_10 : decode cX6_parts 10 = .ok (.aload_n 0, 1) := by decide +kernel
theorem dX6_parts_11 : decode cX6_parts 11 = .ok (.invokevirtual 122, 3) := by decide +kernel
theorem dX6_parts_14 : decode cX6_parts 14 = .ok (.iconst 1, 1) := by decide +kernel
theorem dX6_parts_15 : decode cX6_parts 15 = .ok (.istore_n 1, 1) := by decide +kernel
theorem dX6_parts_16 : decode cX6_parts 16 = .ok (.iconst 0, 1) := by decide +kernel
theorem dX6_parts_17 : decode cX6_parts 17 = .ok (.istore_n 2, 1) := by decide +kernel
theorem dX6_parts_18 : decode cX6_parts 18 = .ok (.iconst 0, 1) := by decide +kernel
theorem dX6_parts_19 : decode cX6_parts 19 = .ok (.istore_n 3, 1) := by decide +kernel
theorem dX6_parts_20 : decode cX6_parts 20 = .ok (.iload_n 3, 1) := by decide +kernel
theorem dX6_parts_21 : decode cX6_parts 21 = .ok (.aload_n 0, 1) := by decide +kernel
theorem dX6_parts_22 : decode cX6_parts 22 = .ok (.getfield 44, 3) := by decide +kernel
theorem dX6_parts_25 : decode cX6_parts 25 = .ok (.invokevirtual 168, 3) := by decide +kernel
theorem dX6_parts_28 : decode cX6_parts 28 = .ok (.if_icmp .ge 57, 3) := by decide +kernel
theorem dX6_parts_31 : decode cX6_parts 31 = .ok (.aload_n 0, 1) := by decide +kernel
theorem dX6_parts_32 : decode cX6_parts 32 = .ok (.getfield 56, 3) := by decide +kernel
theorem dX6_parts_35 : decode cX6_parts 35 = .ok (.aload_n 0, 1) := by decide +kernel
theorem dX6_parts_36 : decode cX6_parts 36 = .ok (.getfield 44, 3) := by decide +kernel
theorem dX6_parts_39 : decode cX6_parts 39 = .ok (.iload_n 3, 1) := by decide +kernel
theorem dX6_parts_40 : decode cX6_parts 40 = .ok (.aload_n 0, 1) := by decide +kernel
theorem dX6_parts_41 : decode cX6_parts 41 = .ok (.getfield 26, 3) := by decide +kernel
theorem dX6_parts_44 : decode cX6_parts 44 = .ok (.aload_n 0, 1) := by decide +kernel
theorem dX6_parts_45 : decode cX6_parts 45 = .ok (.getfield 26, 3) := by decide +kernel
theorem dX6_parts_48 : decode cX6_parts 48 = .ok (.invokevirtual 168, 3) := by decide +kernel
theorem dX6_parts_51 : decode cX6_parts 51 = .ok (.invokevirtual 171, 3) := by decide +kernel
theorem dX6_parts_54 : decode cX6_parts 54 = .ok (.istore 4, 2) := by decide +kernel
theorem dX6_parts_56 : decode cX6_parts 56 = .ok (.iload 4, 2) := by decide +kernel
theorem dX6_parts_58 : decode cX6_parts 58 = .ok (.ifCond .ne 6, 3) := by decide +kernel
theorem dX6_parts_61 : decode cX6_parts 61 = .ok (.bipush (-6), 2) := by decide +kernel
theorem dX6_parts_63 : decode cX6_parts 63 = .ok (.ireturn, 1) := by decide +kernel
theorem dX6_parts_64 : decode cX6_parts 64 = .ok (.iload 4, 2) := by decide +kernel
theorem dX6_parts_66 : decode cX6_parts 66 = .ok (.iload_n 3, 1) := by decide +kernel
theorem dX6_parts_67 : decode cX6_parts 67 = .ok (.iload_n 2, 1) := by decide +kernel
theorem dX6_parts_68 : decode cX6_parts 68 = .ok (.isub, 1) := by decide +kernel
theorem dX6_parts_69 : decode cX6_parts 69 = .ok (.iconst 1, 1) := by decide +kernel
theorem dX6_parts_70 : decode cX6_parts 70 = .ok (.iadd, 1) := by decide +kernel
theorem dX6_parts_71 : decode cX6_parts 71 = .ok (.if_icmp .ge 8, 3) := by decide +kernel
theorem dX6_parts_74 : decode cX6_parts 74 = .ok (.iinc 1 1, 3) := by decide +kernel
theorem dX6_parts_77 : decode cX6_parts 77 = .ok (.iload_n 3, 1) := by decide +kernel
theorem dX6_parts_78 : decode cX6_parts 78 = .ok (.istore_n 2, 1) := by decide +kernel
theorem dX6_parts_79 : decode cX6_parts 79 = .ok (.iinc 3 1, 3) := by decide +kernel
theorem dX6_parts_82 : decode cX6_parts 82 = .ok (.goto (-62), 3) := by decide +kernel
theorem dX6_parts_85 : decode cX6_parts 85 = .ok (.iload_n 1, 1) := by decide +kernel
theorem dX6_parts_86 : decode cX6_parts 86 = .ok (.ireturn, 1) := by decide +kernel
set_option maxRecDepth 20000 in
theorem ggX6_factors_X6_isEndCount : GoodIn wsX6_factors wsX6_isEndCount := goodIn_r _ [5] (by decide +kernel) (by decide +kernel)
set_option maxRecDepth 20000 in
theorem gX6_factors_X6_isEndCount : GoodIn wsX6_factors (va_wsS RX6 175 yX6_isEndCount wsX6_isEndCount) := goodIn_app (goodIn_of _ (by decide +kernel)) ggX6_factors_X6_isEndCount
set_option maxRecDepth 20000 in
theorem ggX6_factors_X6_showClasses : GoodIn wsX6_factors wsX6_showClasses := goodIn_r _ [9, 1, 10, 11, 12, 13, 4, 14, 15, 16, 17, 18, 19, 20, 21, 22, 23, 24, 25, 26, 27, 28, 29, 30, 31, 32, 33, 34, 35, 36, 37, 38, 39, 40, 41, 42, 43, 44, 45, 46, 47, 48, 49, 50, 51, 52, 53, 54, 55, 56, 57, 58, 59, 60, 61, 62, 63, 64, 65, 66, 67, 68, 69, 70, 71, 72, 73, 74, 75, 76, 77, 78, 79, 80, 81, 82, 83, 84, 85, 86, 87, 88, 89, 90, 91, 92, 93, 94, 95, 96, 97, 98, 99, 100, 101, 102, 103, 104, 105, 106, 107, 108, 109, 110, 111, 112, 113, 114, 115, 116, 117, 118, 119, 120, 121, 122, 123, 124, 125, 126, 127, 128, 129, 130, 131, 132, 133, 134, 135, 136, 137, 138, 139, 140, 141, 142, 143, 144, 145, 146, 147, 148, 149, 150, 151, 152, 153, 154, 155, 156, 157, 158, 159, 160, 161, 162, 167, 168, 169, 170, 171, 172, 173, 174, 175, 176, 177, 178, 179, 180, 181, 182, 183, 184, 185, 186, 187, 188, 189, 190, 191, 192, 193, 194, 195, 196, 197, 198, 199, 200, 201, 202, 203, 204] (by decide +kernel) (by decide +kernel)
set_option maxRecDepth 20000 in
theorem gX6_factors_X6_showClasses : GoodIn wsX6_factors (wsV RX6 178 RX6 yX6_showClasses wsX6_showClasses) := goodIn_app (goodIn_of _ (by decide +kernel)) ggX6_factors_X6_showClasses
set_option maxRecDepth 20000 in
theorem ggX6_factors_X1_factorsWith : GoodIn wsX6_factors wsX1_factorsWith := goodIn_r _ [166, 86, 151, 149, 150, 191, 192, 193, 194, 195, 196, 197, 198, 199, 200, 201, 202, 203] (by decide +kernel) (by decide +kernel)
set_option maxRecDepth 20000 in
theorem gX6_factors_X1_factorsWith : GoodIn wsX6_factors (wsV RX6 181 RX1 yX1_factorsWith wsX1_factorsWith) := goodIn_app (goodIn_of _ (by decide +kernel)) ggX6_factors_X1_factorsWith
theorem dX6_factors_0 : decode cX6_factors 0 = .ok (.iload_n 1, 1) := by decide +kernel
theorem dX6_factors_1 : decode cX6_factors 1 = .ok (.invokestatic 175, 3) := by decide +kernel
theorem dX6_factors_4 : decode cX6_factors 4 = .ok (.ifCond .eq 13, 3) := by decide +kernel
theorem dX6_factors_7 : decode cX6_factors 7 = .ok (.iload_n 2, 1) := by decide +kernel
theorem dX6_factors_8 : decode cX6_factors 8 = .ok (.ifCond .lt 9, 3) := by decide +kernel
theorem dX6_factors_11 : decode cX6_factors 11 = .ok (.iload_n 2, 1) := by decide +kernel
theorem dX6_factors_12 : decode cX6_factors 12 = .ok (.bipush 60, 2) := by decide +kernel
theorem dX6_factors_14 : decode cX6_factors 14 = .ok (.if_icmp .le 6, 3) := by decide +kernel
theorem dX6_factors_17 : decode cX6_factors 17 = .ok (.bipush (-2), 2) := by decide +kernel
theorem dX6_factors_19 : decode cX6_factors 19 = .ok (.ireturn, 1) := by decide +kernel
theorem dX6_factors_20 : decode cX6_factors 20 = .ok (.aload_n 0, 1) := by decide +kernel
theorem dX6_factors_21 : decode cX6_factors 21 = .ok (.invokevirtual 178, 3) := by decide +kernel
theorem dX6_factors_24 : decode cX6_factors 24 = .ok (.aload_n 0, 1) := by decide +kernel
theorem dX6_factors_25 : decode cX6_factors 25 = .ok (.getfield 33, 3) := by decide +kernel
theorem dX6_factors_28 : decode cX6_factors 28 = .ok (.iload_n 1, 1) := by decide +kernel
theorem dX6_factors_29 : decode cX6_factors 29 = .ok (.iload_n 2, 1) := by decide +kernel
theorem dX6_factors_30 : decode cX6_factors 30 = .ok (.invokevirtual 181, 3) := by decide +kernel
theorem dX6_factors_33 : decode cX6_factors 33 = .ok (.ireturn, 1) := by decide +kernel
set_option maxRecDepth 20000 in
theorem ggX6_kth_X6_isEndCount : GoodIn wsX6_kth wsX6_isEndCount := goodIn_r _ [7] (by decide +kernel) (by decide +kernel)
set_option maxRecDepth 20000 in
theorem gX6_kth_X6_isEndCount : GoodIn wsX6_kth (va_wsS RX6 175 yX6_isEndCount wsX6_isEndCount) := goodIn_app (goodIn_of _ (by decide +kernel)) ggX6_kth_X6_isEndCount
set_option maxRecDepth 20000 in
theorem ggX6_kth_X6_showClasses : GoodIn wsX6_kth wsX6_showClasses := goodIn_r _ [11, 3, 2, 12, 13, 14, 6, 15, 16, 17, 18, 19, 20, 21, 22, 23, 24, 25, 26, 27, 28, 29, 30, 31, 32, 33, 34, 35, 36, 37, 38, 39, 40, 41, 42, 43, 44, 45, 46, 47, 48, 49, 50, 51, 52, 53, 54, 55, 56, 57, 58, 59, 60, 61, 62, 63, 64, 65, 66, 67, 68, 69, 70, 71, 72, 73, 74, 75, 76, 77, 78, 79, 80, 81, 82, 83, 84, 85, 86, 87, 88, 89, 90, 91, 92, 93, 94, 95, 96, 97, 98, 99, 100, 101, 102, 103, 104, 105, 106, 107, 108, 109, 110, 111, 112, 113, 114, 115, 116, 117, 118, 119, 120, 121, 122, 123, 124, 125, 126, 127, 128, 129, 130, 131, 132, 133, 134, 135, 136, 137, 138, 139, 140, 141, 142, 143, 144, 145, 146, 147, 148, 149, 150, 151, 152, 153, 154, 155, 156, 157, 158, 159, 160, 161, 162, 163, 232, 233, 234, 235, 236, 237, 238, 239, 240, 241, 242, 243, 244, 245, 246, 247, 248, 249, 250, 251, 252, 253, 254, 255, 256, 257, 258, 259, 260, 261, 262, 263, 264, 265, 266, 267, 268, 269] (by decide +kernel) (by decide +kernel)
set_option maxRecDepth 20000 in
theorem gX6_kth_X6_showClasses : GoodIn wsX6_kth (wsV RX6 178 RX6 yX6_showClasses wsX6_showClasses) := goodIn_app (goodIn_of _ (by decide +kernel)) ggX6_kth_X6_showClasses
set_option maxRecDepth 20000 in
theorem ggX6_kth_X0_refresh : GoodIn wsX6_kth wsX0_refresh := goodIn_r _ [168, 169, 170, 171, 172, 173, 92, 93, 21, 94, 23, 174, 96, 97, 98, 29, 175, 176, 177, 167, 178, 179, 180, 181, 182, 183, 184, 185, 186, 24, 25, 26, 27, 187, 161, 162, 163, 32, 64, 65, 66, 67, 188, 100, 101, 102, 63, 189, 270, 271, 272, 273, 243, 244, 245, 246, 247, 248, 249, 250] (by decide +kernel) (by decide +kernel)
set_option maxRecDepth 20000 in
theorem gX6_kth_X0_refresh : GoodIn wsX6_kth (wsV RX6 184 RX0 yX0_refresh wsX0_refresh) := goodIn_app (goodIn_of _ (by decide +kernel)) ggX6_kth_X0_refresh
set_option maxRecDepth 20000 in
theorem ggX6_kth_X5_length : GoodIn wsX6_kth wsX5_length := goodIn_r _ [98, 29, 243, 244, 245, 246, 247, 248, 249, 250] (by decide +kernel) (by decide +kernel)
set_option maxRecDepth 20000 in
theorem gX6_kth_X5_length : GoodIn wsX6_kth (wsV RX6 168 RX5 yX5_length wsX5_length) := goodIn_app (goodIn_of _ (by decide +kernel)) ggX6_kth_X5_length
set_option maxRecDepth 20000 in
theorem ggX6_kth_X0_startAt : GoodIn wsX6_kth wsX0_startAt := goodIn_r _ [194, 170, 172, 270, 271, 272, 273] (by decide +kernel) (by decide +kernel)
set_option maxRecDepth 20000 in
theorem gX6_kth_X0_startAt : GoodIn wsX6_kth (wsV RX6 188 RX0 yX0_startAt wsX0_startAt) := goodIn_app (goodIn_of _ (by decide +kernel)) ggX6_kth_X0_startAt
set_option maxRecDepth 20000 in
theorem ggX6_kth_X0_sharedAt : GoodIn wsX6_kth wsX0_sharedAt := goodIn_r _ [198, 170, 171, 270, 271, 272, 273] (by decide +kernel) (by decide +kernel)
set_option maxRecDepth 20000 in
theorem gX6_kth_X0_sharedAt : GoodIn wsX6_kth (wsV RX6 191 RX0 yX0_sharedAt wsX0_sharedAt) := goodIn_app (goodIn_of _ (by decide +kernel)) ggX6_kth_X0_sharedAt
set_option maxRecDepth 20000 in
theorem ggX6_kth_X1_lengthWith : GoodIn wsX6_kth wsX1_lengthWith := goodIn_r _ [202, 160, 161, 162, 21, 163, 32, 64, 65, 66, 67, 29, 129, 130, 131, 84, 132, 133, 203, 204, 205, 206, 152, 207, 208, 209, 210, 87, 243, 244, 245, 246, 247, 248, 249, 250, 256, 257, 258, 259, 260, 261, 262, 263, 264, 265, 266, 267, 268] (by decide +kernel) (by decide +kernel)
set_option maxRecDepth 20000 in
theorem gX6_kth_X1_lengthWith : GoodIn wsX6_kth (wsV RX6 194 RX1 yX1_lengthWith wsX1_lengthWith) := goodIn_app (goodIn_of _ (by decide +kernel)) ggX6_kth_X1_lengthWith
set_option maxRecDepth 20000 in
theorem ggX6_kth_X6_write : GoodIn wsX6_kth wsX6_write := goodIn_r _ [214, 215, 2, 216, 217, 218, 219, 220, 221, 222, 223, 224, 225, 226, 100, 101, 21, 102, 63, 64, 65, 66, 67, 29, 227, 228, 229, 230, 231, 232, 233, 234, 235, 236, 237, 238, 239, 240, 241, 242, 274, 275, 243, 244, 245, 246, 247, 248, 249, 250] (by decide +kernel) (by decide +kernel)
set_option maxRecDepth 20000 in
theorem gX6_kth_X6_write : GoodIn wsX6_kth (wsV RX6 198 RX6 yX6_write wsX6_write) := goodIn_app (goodIn_of _ (by decide +kernel)) ggX6_kth_X6_write
theorem dX6_kth_0 : decode cX6_kth 0 = .ok (.iload_n 1, 1) := by decide +kernel
theorem dX6_kth_1 : decode cX6_kth 1 = .ok (.invokestatic 175, 3) := by decide +kernel
theorem dX6_kth_4 : decode cX6_kth 4 = .ok (.ifCond .ne 6, 3) := by decide +kernel
theorem dX6_kth_7 : decode cX6_kth 7 = .ok (.bipush (-2), 2) := by decide +kernel
theorem dX6_kth_9 : decode cX6_kth 9 = .ok (.ireturn, 1) := by decide +kernel
theorem dX6_kth_10 : decode cX6_kth 10 = .ok (.aload_n 0, 1) := by decide +kernel
theorem dX6_kth_11 : decode cX6_kth 11 = .ok (.invokevirtual 178, 3) := by decide +kernel
theorem dX6_kth_14 : decode cX6_kth 14 = .ok (.aload_n 0, 1) := by decide +kernel
theorem dX6_kth_15 : decode cX6_kth 15 = .ok (.getfield 40, 3) := by decide +kernel
theorem dX6_kth_18 : decode cX6_kth 18 = .ok (.aload_n 0, 1) := by decide +kernel
theorem dX6_kth_19 : decode cX6_kth 19 = .ok (.getfield 26, 3) := by decide +kernel
theorem dX6_kth_22 : decode cX6_kth 22 = .ok (.invokevirtual 184, 3) := by decide +kernel
theorem dX6_kth_25 : decode cX6_kth 25 = .ok (.iload_n 2, 1) := by decide +kernel
theorem dX6_kth_26 : decode cX6_kth 26 = .ok (.istore_n 3, 1) := by decide +kernel
theorem dX6_kth_27 : decode cX6_kth 27 = .ok (.iconst 0, 1) := by decide +kernel
theorem dX6_kth_28 : decode cX6_kth 28 = .ok (.istore 4, 2) := by decide +kernel
theorem dX6_kth_30 : decode cX6_kth 30 = .ok (.iload 4, 2) := by decide +kernel
theorem dX6_kth_32 : decode cX6_kth 32 = .ok (.aload_n 0, 1) := by decide +kernel
theorem dX6_kth_33 : decode cX6_kth 33 = .ok (.getfield 26, 3) := by decide +kernel
theorem dX6_kth_36 : decode cX6_kth 36 = .ok (.invokevirtual 168, 3) := by decide +kernel
theorem dX6_kth_39 : decode cX6_kth 39 = .ok (.if_icmp .ge 87, 3) := by decide +kernel
theorem dX6_kth_42 : decode cX6_kth 42 = .ok (.iload_n 3, 1) := by decide +kernel
theorem dX6_kth_43 : decode cX6_kth 43 = .ok (.ifCond .lt 83, 3) := by decide +kernel
theorem dX6_kth_46 : decode cX6_kth 46 = .ok (.aload_n 0, 1) := by decide +kernel
theorem dX6_kth_47 : decode cX6_kth 47 = .ok (.getfield 40, 3) := by decide +kernel
theorem dX6_kth_50 : decode cX6_kth 50 = .ok (.iload 4, 2) := by decide +kernel
theorem dX6_kth_52 : decode cX6_kth 52 = .ok (.invokevirtual 188, 3) := by decide +kernel
theorem dX6_kth_55 : decode cX6_kth 55 = .ok (.istore 5, 2) := by decide +kernel
theorem dX6_kth_57 : decode cX6_kth 57 = .ok (.aload_n 0, 1) := by decide +kernel
theorem dX6_kth_58 : decode cX6_kth 58 = .ok (.getfield 40, 3) := by decide +kernel
theorem dX6_kth_61 : decode cX6_kth 61 = .ok (.iload 4, 2) := by decide +kernel
theorem dX6_kth_63 : decode cX6_kth 63 = .ok (.invokevirtual 191, 3) := by decide +kernel
theorem dX6_kth_66 : decode cX6_kth 66 = .ok (.iconst 1, 1) := by decide +kernel
theorem dX6_kth_67 : decode cX6_kth 67 = .ok (.iadd, 1) := by decide +kernel
theorem dX6_kth_68 : decode cX6_kth 68 = .ok (.istore 6, 2) := by decide +kernel
theorem dX6_kth_70 : decode cX6_kth 70 = .ok (.aload_n 0, 1) := by decide +kernel
theorem dX6_kth_71 : decode cX6_kth 71 = .ok (.getfield 33, 3) := by decide +kernel
theorem dX6_kth_74 : decode cX6_kth 74 = .ok (.aload_n 0, 1) := by decide +kernel
theorem dX6_kth_75 : decode cX6_kth 75 = .ok (.getfield 26, 3) := by decide +kernel
theorem dX6_kth_78 : decode cX6_kth 78 = .ok (.iload_n 1, 1) := by decide +kernel
theorem dX6_kth_79 : decode cX6_kth 79 = .ok (.iload 5, 2) := by decide +kernel
theorem dX6_kth_81 : decode cX6_kth 81 = .ok (.iload 6, 2) := by decide +kernel
theorem dX6_kth_83 : decode cX6_kth 83 = .ok (.invokevirtual 194, 3) := by decide +kernel
theorem dX6_kth_86 : decode cX6_kth 86 = .ok (.istore 7, 2) := by decide +kernel
theorem dX6_kth_88 : decode cX6_kth 88 = .ok (.iload_n 3, 1) := by decide +kernel
theorem dX6_kth_89 : decode cX6_kth 89 = .ok (.iload 7, 2) := by decide +kernel
theorem dX6_kth_91 : decode cX6_kth 91 = .ok (.iload 6, 2) := by decide +kernel
theorem dX6_kth_93 : decode cX6_kth 93 = .ok (.isub, 1) := by decide +kernel
theorem dX6_kth_94 : decode cX6_kth 94 = .ok (.iconst 1, 1) := by decide +kernel
theorem dX6_kth_95 : decode cX6_kth 95 = .ok (.iadd, 1) := by decide +kernel
theorem dX6_kth_96 : decode cX6_kth 96 = .ok (.if_icmp .ge 14, 3) := by decide +kernel
theorem dX6_kth_99 : decode cX6_kth 99 = .ok (.aload_n 0, 1) := by decide +kernel
theorem dX6_kth_100 : decode cX6_kth 100 = .ok (.iload 5, 2) := by decide +kernel
theorem dX6_kth_102 : decode cX6_kth 102 = .ok (.iload 6, 2) := by decide +kernel
theorem dX6_kth_104 : decode cX6_kth 104 = .ok (.iload_n 3, 1) := by decide +kernel
theorem dX6_kth_105 : decode cX6_kth 105 = .ok (.iadd, 1) := by decide +kernel
theorem dX6_kth_106 : decode cX6_kth 106 = .ok (.invokevirtual 198, 3) := by decide +kernel
theorem dX6_kth_109 : decode cX6_kth 109 = .ok (.ireturn, 1) := by decide +kernel
theorem dX6_kth_110 : decode cX6_kth 110 = .ok (.iload_n 3, 1) := by decide +kernel
theorem dX6_kth_111 : decode cX6_kth 111 = .ok (.iload 7, 2) := by decide +kernel
theorem dX6_kth_113 : decode cX6_kth 113 = .ok (.iload 6, 2) := by decide +kernel
theorem dX6_kth_115 : decode cX6_kth 115 = .ok (.isub, 1) := by decide +kernel
theorem dX6_kth_116 : decode cX6_kth 116 = .ok (.iconst 1, 1) := by decide +kernel
theorem dX6_kth_117 : decode cX6_kth 117 = .ok (.iadd, 1) := by decide +kernel
theorem dX6_kth_118 : decode cX6_kth 118 = .ok (.isub, 1) := by decide +kernel
theorem dX6_kth_119 : decode cX6_kth 119 = .ok (.istore_n 3, 1) := by decide +kernel
theorem dX6_kth_120 : decode cX6_kth 120 = .ok (.iinc 4 1, 3) := by decide +kernel
theorem dX6_kth_123 : decode cX6_kth 123 = .ok (.goto (-93), 3) := by decide +kernel
theorem dX6_kth_126 : decode cX6_kth 126 = .ok (.bipush (-6), 2) := by decide +kernel
theorem dX6_kth_128 : decode cX6_kth 128 = .ok (.ireturn, 1) := by decide +kernel
set_option maxRecDepth 20000 in
theorem ggX6_before_X6_readPattern : GoodIn wsX6_before wsX6_readPattern := goodIn_r _ [8, 9, 3, 10, 11, 12, 13, 14, 15, 16, 17, 18, 19, 20, 21, 7, 22, 23, 24, 25, 26, 27, 28, 29, 30, 31, 32, 33, 34, 35, 36, 37, 38, 39, 40, 41, 42, 43, 44, 45, 46, 47, 48, 49, 50, 51, 52, 53, 54, 160, 161, 162, 163, 164, 165, 166, 167, 168, 169, 170, 171, 172, 173, 174, 175, 176, 177, 178, 179, 180] (by decide +kernel) (by decide +kernel)
set_option maxRecDepth 20000 in
theorem gX6_before_X6_readPattern : GoodIn wsX6_before (wsV RX6 144 RX6 yX6_readPattern wsX6_readPattern) := goodIn_app (goodIn_of _ (by decide +kernel)) ggX6_before_X6_readPattern
set_option maxRecDepth 20000 in
theorem ggX6_before_X6_showPresent : GoodIn wsX6_before wsX6_showPresent := goodIn_r _ [58, 2, 59, 60, 61, 62, 63, 26, 64, 38, 41, 42, 43, 44, 39, 28, 49, 48, 50, 65, 66, 67, 68, 69, 70, 71, 72, 73, 74, 75, 76, 77, 78, 79, 80, 81, 82, 83, 84, 85, 86, 87, 88, 89, 40, 90, 91, 92, 93, 29, 94, 95, 96, 97, 98, 99, 100, 101, 102, 103, 104, 105, 106, 107, 108, 109, 110, 160, 161, 162, 163, 164, 165, 166, 167, 168, 169, 170, 173, 174, 175, 176, 177, 178, 179, 180, 181, 182, 183, 184, 185] (by decide +kernel) (by decide +kernel)
set_option maxRecDepth 20000 in
theorem gX6_before_X6_showPresent : GoodIn wsX6_before (wsV RX6 122 RX6 yX6_showPresent wsX6_showPresent) := goodIn_app (goodIn_of _ (by decide +kernel)) ggX6_before_X6_showPresent
set_option maxRecDepth 20000 in
theorem ggX6_before_X0_refresh : GoodIn wsX6_before wsX0_refresh := goodIn_r _ [115, 116, 117, 118, 119, 120, 121, 122, 26, 123, 38, 124, 125, 126, 127, 28, 128, 129, 130, 114, 131, 132, 133, 134, 135, 136, 137, 138, 139, 41, 42, 43, 44, 140, 141, 142, 143, 50, 94, 95, 96, 97, 144, 145, 146, 147, 29, 148, 186, 187, 188, 189, 173, 174, 175, 176, 177, 178, 179, 180] (by decide +kernel) (by decide +kernel)
set_option maxRecDepth 20000 in
theorem gX6_before_X0_refresh : GoodIn wsX6_before (wsV RX6 184 RX0 yX0_refresh wsX0_refresh) := goodIn_app (goodIn_of _ (by decide +kernel)) ggX6_before_X0_refresh
set_option maxRecDepth 20000 in
theorem ggX6_before_X0_factorsBefore : GoodIn wsX6_before wsX0_factorsBefore := goodIn_r _ [152, 117, 119, 118, 153, 46, 43, 47, 154, 155, 156, 114, 157, 148, 137, 138, 26, 139, 41, 42, 44, 140, 141, 142, 143, 50, 94, 95, 96, 97, 28, 144, 145, 146, 147, 29, 124, 125, 126, 127, 158, 159, 186, 187, 188, 189, 173, 174, 175, 176, 177, 178, 179, 180] (by decide +kernel) (by decide +kernel)
set_option maxRecDepth 20000 in
theorem gX6_before_X0_factorsBefore : GoodIn wsX6_before (wsV RX6 201 RX0 yX0_factorsBefore wsX0_factorsBefore) := goodIn_app (goodIn_of _ (by decide +kernel)) ggX6_before_X0_factorsBefore
theorem dX6_before_0 : decode cX6_before 0 = .ok (.aload_n 0, 1) := by decide +kernel
theorem dX6_before_1 : decode cX6_before 1 = .ok (.invokevirtual 144, 3) := by decide +kernel
theorem dX6_before_4 : decode cX6_before 4 = .ok (.ifCond .ne 6, 3) := by decide +kernel
theorem dX6_before_7 : decode cX6_before 7 = .ok (.bipush (-3), 2) := by decide +kernel
theorem dX6_before_9 : decode cX6_before 9 = .ok (.ireturn, 1) := by decide +kernel
theorem dX6_before_10 : decode cX6_before 10 = .ok (.aload_n 0, 1) := by decide +kernel
theorem dX6_before_11 : decode cX6_before 11 = .ok (.invokevirtual 122, 3) := by decide +kernel
theorem dX6_before_14 : decode cX6_before 14 = .ok (.aload_n 0, 1) := by decide +kernel
theorem dX6_before_15 : decode cX6_before 15 = .ok (.getfield 40, 3) := by decide +kernel
theorem dX6_before_18 : decode cX6_before 18 = .ok (.aload_n 0, 1) := by decide +kernel
theorem dX6_before_19 : decode cX6_before 19 = .ok (.getfield 26, 3) := by decide +kernel
theorem dX6_before_22 : decode cX6_before 22 = .ok (.invokevirtual 184, 3) := by decide +kernel
theorem dX6_before_25 : decode cX6_before 25 = .ok (.aload_n 0, 1) := by decide +kernel
theorem dX6_before_26 : decode cX6_before 26 = .ok (.getfield 40, 3) := by decide +kernel
theorem dX6_before_29 : decode cX6_before 29 = .ok (.aload_n 0, 1) := by decide +kernel
theorem dX6_before_30 : decode cX6_before 30 = .ok (.getfield 26, 3) := by decide +kernel
theorem dX6_before_33 : decode cX6_before 33 = .ok (.aload_n 0, 1) := by decide +kernel
theorem dX6_before_34 : decode cX6_before 34 = .ok (.getfield 44, 3) := by decide +kernel
theorem dX6_before_37 : decode cX6_before 37 = .ok (.invokevirtual 201, 3) := by decide +kernel
theorem dX6_before_40 : decode cX6_before 40 = .ok (.ireturn, 1) := by decide +kernel
set_option maxRecDepth 20000 in
theorem ggX6_group_X6_showClasses : GoodIn wsX6_group wsX6_showClasses := goodIn_r _ [7, 1, 2, 8, 9, 10, 6, 11, 12, 13, 14, 15, 16, 17, 18, 19, 20, 21, 22, 23, 24, 25, 26, 27, 28, 29, 30, 31, 32, 33, 34, 35, 36, 37, 38, 39, 40, 41, 42, 43, 44, 45, 46, 47, 48, 49, 50, 51, 52, 53, 54, 55, 56, 57, 58, 59, 60, 61, 62, 63, 64, 65, 66, 67, 68, 69, 70, 71, 72, 73, 74, 75, 76, 77, 78, 79, 80, 81, 82, 83, 84, 85, 86, 87, 88, 89, 90, 91, 92, 93, 94, 95, 96, 97, 98, 99, 100, 101, 102, 103, 104, 105, 106, 107, 108, 109, 110, 111, 112, 113, 114, 115, 116, 117, 118, 119, 120, 121, 122, 123, 124, 125, 126, 127, 128, 129, 130, 131, 132, 133, 134, 135, 136, 137, 138, 139, 140, 141, 142, 143, 144, 145, 146, 147, 148, 149, 150, 151, 152, 153, 154, 155, 156, 157, 158, 159, 199, 200, 201, 202, 203, 204, 205, 206, 207, 208, 209, 210, 211, 212, 213, 214, 215, 216, 217, 218, 219, 220, 221, 222, 223, 224, 225, 226, 227, 228, 229, 230, 231, 232, 233, 234, 235, 236] (by decide +kernel) (by decide +kernel)
set_option maxRecDepth 20000 in
theorem gX6_group_X6_showClasses : GoodIn wsX6_group (wsV RX6 178 RX6 yX6_showClasses wsX6_showClasses) := goodIn_app (goodIn_of _ (by decide +kernel)) ggX6_group_X6_showClasses
set_option maxRecDepth 20000 in
theorem ggX6_group_X1_has : GoodIn wsX6_group wsX1_has := goodIn_r _ [163, 83, 223, 224, 225, 226, 227, 228, 229, 230, 231, 232, 233, 234, 235] (by decide +kernel) (by decide +kernel)
set_option maxRecDepth 20000 in
theorem gX6_group_X1_has : GoodIn wsX6_group (wsV RX6 205 RX1 yX1_has wsX1_has) := goodIn_app (goodIn_of _ (by decide +kernel)) ggX6_group_X1_has
set_option maxRecDepth 20000 in
theorem ggX6_group_X1_longestIn : GoodIn wsX6_group wsX1_longestIn := goodIn_r _ [167, 146, 168, 161, 162, 80, 163, 83, 223, 224, 225, 226, 227, 228, 229, 230, 231, 232, 233, 234, 235] (by decide +kernel) (by decide +kernel)
set_option maxRecDepth 20000 in
theorem gX6_group_X1_longestIn : GoodIn wsX6_group (wsV RX6 206 RX1 yX1_longestIn wsX1_longestIn) := goodIn_app (goodIn_of _ (by decide +kernel)) ggX6_group_X1_longestIn
set_option maxRecDepth 20000 in
theorem ggX6_group_X1_shortestIn : GoodIn wsX6_group wsX1_shortestIn := goodIn_r _ [172, 147, 168, 161, 162, 80, 163, 83, 223, 224, 225, 226, 227, 228, 229, 230, 231, 232, 233, 234, 235] (by decide +kernel) (by decide +kernel)
set_option maxRecDepth 20000 in
theorem gX6_group_X1_shortestIn : GoodIn wsX6_group (wsV RX6 209 RX1 yX1_shortestIn wsX1_shortestIn) := goodIn_app (goodIn_of _ (by decide +kernel)) ggX6_group_X1_shortestIn
set_option maxRecDepth 20000 in
theorem ggX6_group_X1_endsIn : GoodIn wsX6_group wsX1_endsIn := goodIn_r _ [176, 148, 168, 161, 162, 80, 163, 83, 223, 224, 225, 226, 227, 228, 229, 230, 231, 232, 233, 234, 235] (by decide +kernel) (by decide +kernel)
set_option maxRecDepth 20000 in
theorem gX6_group_X1_endsIn : GoodIn wsX6_group (wsV RX6 212 RX1 yX1_endsIn wsX1_endsIn) := goodIn_app (goodIn_of _ (by decide +kernel)) ggX6_group_X1_endsIn
set_option maxRecDepth 20000 in
theorem ggX6_group_X1_linkOf : GoodIn wsX6_group wsX1_linkOf := goodIn_r _ [180, 149, 168, 161, 162, 80, 163, 83, 223, 224, 225, 226, 227, 228, 229, 230, 231, 232, 233, 234, 235] (by decide +kernel) (by decide +kernel)
set_option maxRecDepth 20000 in
theorem gX6_group_X1_linkOf : GoodIn wsX6_group (wsV RX6 215 RX1 yX1_linkOf wsX1_linkOf) := goodIn_app (goodIn_of _ (by decide +kernel)) ggX6_group_X1_linkOf
set_option maxRecDepth 20000 in
theorem ggX6_group_X1_stepsOf : GoodIn wsX6_group wsX1_stepsOf := goodIn_r _ [184, 151, 84, 168, 161, 162, 80, 163, 83, 223, 224, 225, 226, 227, 228, 229, 230, 231, 232, 233, 234, 235] (by decide +kernel) (by decide +kernel)
set_option maxRecDepth 20000 in
theorem gX6_group_X1_stepsOf : GoodIn wsX6_group (wsV RX6 218 RX1 yX1_stepsOf wsX1_stepsOf) := goodIn_app (goodIn_of _ (by decide +kernel)) ggX6_group_X1_stepsOf
set_option maxRecDepth 20000 in
theorem ggX6_group_X1_wordsOf : GoodIn wsX6_group wsX1_wordsOf := goodIn_r _ [188, 150, 168, 161, 162, 80, 163, 83, 223, 224, 225, 226, 227, 228, 229, 230, 231, 232, 233, 234, 235] (by decide +kernel) (by decide +kernel)
set_option maxRecDepth 20000 in
theorem gX6_group_X1_wordsOf : GoodIn wsX6_group (wsV RX6 221 RX1 yX1_wordsOf wsX1_wordsOf) := goodIn_app (goodIn_of _ (by decide +kernel)) ggX6_group_X1_wordsOf
set_option maxRecDepth 20000 in
theorem ggX6_group_X1_firstEndOf : GoodIn wsX6_group wsX1_firstEndOf := goodIn_r _ [192, 145, 168, 161, 162, 80, 163, 83, 223, 224, 225, 226, 227, 228, 229, 230, 231, 232, 233, 234, 235] (by decide +kernel) (by decide +kernel)
set_option maxRecDepth 20000 in
theorem gX6_group_X1_firstEndOf : GoodIn wsX6_group (wsV RX6 224 RX1 yX1_firstEndOf wsX1_firstEndOf) := goodIn_app (goodIn_of _ (by decide +kernel)) ggX6_group_X1_firstEndOf
set_option maxRecDepth 20000 in
theorem ggX6_group_X5_placeCode : GoodIn wsX6_group wsX5_placeCode := goodIn_r _ [196, 197, 153, 154, 17, 155, 27, 60, 61, 62, 63, 25, 198, 108, 109, 110, 26, 210, 211, 212, 213, 214, 215, 216, 217] (by decide +kernel) (by decide +kernel)
set_option maxRecDepth 20000 in
theorem gX6_group_X5_placeCode : GoodIn wsX6_group (wsV RX6 165 RX5 yX5_placeCode wsX5_placeCode) := goodIn_app (goodIn_of _ (by decide +kernel)) ggX6_group_X5_placeCode
theorem dX6_group_0 : decode cX6_group 0 = .ok (.aload_n 0, 1) := by decide +kernel
theorem dX6_group_1 : decode cX6_group 1 = .ok (.invokevirtual 178, 3) := by decide +kernel
theorem dX6_group_4 : decode cX6_group 4 = .ok (.aload_n 0, 1) := by decide +kernel
theorem dX6_group_5 : decode cX6_group 5 = .ok (.getfield 33, 3) := by decide +kernel
theorem dX6_group_8 : decode cX6_group 8 = .ok (.iload_n 1, 1) := by decide +kernel
theorem dX6_group_9 : decode cX6_group 9 = .ok (.invokevirtual 205, 3) := by decide +kernel
theorem dX6_group_12 : decode cX6_group 12 = .ok (.ifCond .ne 5, 3) := by decide +kernel
theorem dX6_group_15 : decode cX6_group 15 = .ok (.iconst (-1), 1) := by decide +kernel
theorem dX6_group_16 : decode cX6_group 16 = .ok (.ireturn, 1) := by decide +kernel
theorem dX6_group_17 : decode cX6_group 17 = .ok (.iload_n 2, 1) := by decide +kernel
theorem dX6_group_18 : decode cX6_group 18 = .ok (.tableswitch 112 0 6 #[42, 51, 60, 69, 78, 87, 96], 42) := by decide +kernel
theorem dX6_group_60 : decode cX6_group 60 = .ok (.aload_n 0, 1) := by decide +kernel
theorem dX6_group_61 : decode cX6_group 61 = .ok (.getfield 33, 3) := by decide +kernel
theorem dX6_group_64 : decode cX6_group 64 = .ok (.iload_n 1, 1) := by decide +kernel
theorem dX6_group_65 : decode cX6_group 65 = .ok (.invokevirtual 206, 3) := by decide +kernel
theorem dX6_group_68 : decode cX6_group 68 = .ok (.ireturn, 1) := by decide +kernel
theorem dX6_group_69 : decode cX6_group 69 = .ok (.aload_n 0, 1) := by decide +kernel
theorem dX6_group_70 : decode cX6_group 70 = .ok (.getfield 33, 3) := by decide +kernel
theorem dX6_group_73 : decode cX6_group 73 = .ok (.iload_n 1, 1) := by decide +kernel
theorem dX6_group_74 : decode cX6_group 74 = .ok (.invokevirtual 209, 3) := by decide +kernel
theorem dX6_group_77 : decode cX6_group 77 = .ok (.ireturn, 1) := by decide +kernel
theorem dX6_group_78 : decode cX6_group 78 = .ok (.aload_n 0, 1) := by decide +kernel
theorem dX6_group_79 : decode cX6_group 79 = .ok (.getfield 33, 3) := by decide +kernel
theorem dX6_group_82 : decode cX6_group 82 = .ok (.iload_n 1, 1) := by decide +kernel
theorem dX6_group_83 : decode cX6_group 83 = .ok (.invokevirtual 212, 3) := by decide +kernel
theorem dX6_group_86 : decode cX6_group 86 = .ok (.ireturn, 1) := by decide +kernel
theorem dX6_group_87 : decode cX6_group 87 = .ok (.aload_n 0, 1) := by decide +kernel
theorem dX6_group_88 : decode cX6_group 88 = .ok (.getfield 33, 3) := by decide +kernel
theorem dX6_group_91 : decode cX6_group 91 = .ok (.iload_n 1, 1) := by decide +kernel
theorem dX6_group_92 : decode cX6_group 92 = .ok (.invokevirtual 215, 3) := by decide +kernel
theorem dX6_group_95 : decode cX6_group 95 = .ok (.ireturn, 1) := by decide +kernel
theorem dX6_group_96 : decode cX6_group 96 = .ok (.aload_n 0, 1) := by decide +kernel
theorem dX6_group_97 : decode cX6_group 97 = .ok (.getfield 33, 3) := by decide +kernel
theorem dX6_group_100 : decode cX6_group 100 = .ok (.iload_n 1, 1) := by decide +kernel
theorem dX6_group_101 : decode cX6_group 101 = .ok (.invokevirtual 218, 3) := by decide +kernel
theorem dX6_group_104 : decode cX6_group 104 = .ok (.ireturn, 1) := by decide +kernel
theorem dX6_group_105 : decode cX6_group 105 = .ok (.aload_n 0, 1) := by decide +kernel
theorem dX6_group_106 : decode cX6_group 106 = .ok (.getfield 33, 3) := by decide +kernel
theorem dX6_group_109 : decode cX6_group 109 = .ok (.iload_n 1, 1) := by decide +kernel
theorem dX6_group_110 : decode cX6_group 110 = .ok (.invokevirtual 221, 3) := by decide +kernel
theorem dX6_group_113 : decode cX6_group 113 = .ok (.ireturn, 1) := by decide +kernel
theorem dX6_group_114 : decode cX6_group 114 = .ok (.aload_n 0, 1) := by decide +kernel
theorem dX6_group_115 : decode cX6_group 115 = .ok (.getfield 26, 3) := by decide +kernel
theorem dX6_group_118 : decode cX6_group 118 = .ok (.aload_n 0, 1) := by decide +kernel
theorem dX6_group_119 : decode cX6_group 119 = .ok (.getfield 33, 3) := by decide +kernel
theorem dX6_group_122 : decode cX6_group 122 = .ok (.iload_n 1, 1) := by decide +kernel
theorem dX6_group_123 : decode cX6_group 123 = .ok (.invokevirtual 224, 3) := by decide +kernel
theorem dX6_group_126 : decode cX6_group 126 = .ok (.invokevirtual 165, 3) := by decide +kernel
theorem dX6_group_129 : decode cX6_group 129 = .ok (.ireturn, 1) := by decide +kernel
theorem dX6_group_130 : decode cX6_group 130 = .ok (.bipush (-2), 2) := by decide +kernel
theorem dX6_group_132 : decode cX6_group 132 = .ok (.ireturn, 1) := by decide +kernel
set_option maxRecDepth 20000 in
theorem ggX6_spell_X6_showClasses : GoodIn wsX6_spell wsX6_showClasses := goodIn_r _ [6, 1, 7, 8, 9, 10, 5, 11, 12, 13, 14, 15, 16, 17, 18, 19, 20, 21, 22, 23, 24, 25, 26, 27, 28, 29, 30, 31, 32, 33, 34, 35, 36, 37, 38, 39, 40, 41, 42, 43, 44, 45, 46, 47, 48, 49, 50, 51, 52, 53, 54, 55, 56, 57, 58, 59, 60, 61, 62, 63, 64, 65, 66, 67, 68, 69, 70, 71, 72, 73, 74, 75, 76, 77, 78, 79, 80, 81, 82, 83, 84, 85, 86, 87, 88, 89, 90, 91, 92, 93, 94, 95, 96, 97, 98, 99, 100, 101, 102, 103, 104, 105, 106, 107, 108, 109, 110, 111, 112, 113, 114, 115, 116, 117, 118, 119, 120, 121, 122, 123, 124, 125, 126, 127, 128, 129, 130, 131, 132, 133, 134, 135, 136, 137, 138, 139, 140, 141, 142, 143, 144, 145, 146, 147, 148, 149, 150, 151, 152, 153, 154, 155, 156, 157, 158, 159, 199, 200, 201, 202, 203, 204, 205, 206, 207, 208, 209, 210, 211, 212, 213, 214, 215, 216, 217, 218, 219, 220, 221, 222, 223, 224, 225, 226, 227, 228, 229, 230, 231, 232, 233, 234, 235, 236] (by decide +kernel) (by decide +kernel)
set_option maxRecDepth 20000 in
theorem gX6_spell_X6_showClasses : GoodIn wsX6_spell (wsV RX6 178 RX6 yX6_showClasses wsX6_showClasses) := goodIn_app (goodIn_of _ (by decide +kernel)) ggX6_spell_X6_showClasses
set_option maxRecDepth 20000 in
theorem ggX6_spell_X1_has : GoodIn wsX6_spell wsX1_has := goodIn_r _ [163, 83, 223, 224, 225, 226, 227, 228, 229, 230, 231, 232, 233, 234, 235] (by decide +kernel) (by decide +kernel)
set_option maxRecDepth 20000 in
theorem gX6_spell_X1_has : GoodIn wsX6_spell (wsV RX6 205 RX1 yX1_has wsX1_has) := goodIn_app (goodIn_of _ (by decide +kernel)) ggX6_spell_X1_has
set_option maxRecDepth 20000 in
theorem ggX6_spell_X1_longestStart : GoodIn wsX6_spell wsX1_longestStart := goodIn_r _ [167, 168, 169, 170, 80, 171, 145, 172, 161, 162, 163, 83, 173, 174, 175, 176, 146, 223, 224, 225, 226, 227, 228, 229, 230, 231, 232, 233, 234, 235] (by decide +kernel) (by decide +kernel)
set_option maxRecDepth 20000 in
theorem gX6_spell_X1_longestStart : GoodIn wsX6_spell (wsV RX6 227 RX1 yX1_longestStart wsX1_longestStart) := goodIn_app (goodIn_of _ (by decide +kernel)) ggX6_spell_X1_longestStart
set_option maxRecDepth 20000 in
theorem ggX6_spell_X1_longestIn : GoodIn wsX6_spell wsX1_longestIn := goodIn_r _ [176, 146, 172, 161, 162, 80, 163, 83, 223, 224, 225, 226, 227, 228, 229, 230, 231, 232, 233, 234, 235] (by decide +kernel) (by decide +kernel)
set_option maxRecDepth 20000 in
theorem gX6_spell_X1_longestIn : GoodIn wsX6_spell (wsV RX6 206 RX1 yX1_longestIn wsX1_longestIn) := goodIn_app (goodIn_of _ (by decide +kernel)) ggX6_spell_X1_longestIn
set_option maxRecDepth 20000 in
theorem ggX6_spell_X6_write : GoodIn wsX6_spell wsX6_write := goodIn_r _ [181, 182, 7, 183, 184, 185, 186, 187, 188, 189, 190, 191, 192, 193, 96, 97, 17, 98, 59, 60, 61, 62, 63, 25, 194, 195, 196, 197, 198, 199, 200, 201, 202, 203, 204, 205, 206, 207, 208, 209, 237, 238, 210, 211, 212, 213, 214, 215, 216, 217] (by decide +kernel) (by decide +kernel)
set_option maxRecDepth 20000 in
theorem gX6_spell_X6_write : GoodIn wsX6_spell (wsV RX6 198 RX6 yX6_write wsX6_write) := goodIn_app (goodIn_of _ (by decide +kernel)) ggX6_spell_X6_write
theorem dX6_spell_0 : decode cX6_spell 0 = .ok (.aload_n 0, 1) := by decide +kernel
theorem dX6_spell_1 : decode cX6_spell 1 = .ok (.invokevirtual 178, 3) := by decide +kernel
theorem dX6_spell_4 : decode cX6_spell 4 = .ok (.aload_n 0, 1) := by decide +kernel
theorem dX6_spell_5 : decode cX6_spell 5 = .ok (.getfield 33, 3) := by decide +kernel
theorem dX6_spell_8 : decode cX6_spell 8 = .ok (.iload_n 1, 1) := by decide +kernel
theorem dX6_spell_9 : decode cX6_spell 9 = .ok (.invokevirtual 205, 3) := by decide +kernel
theorem dX6_spell_12 : decode cX6_spell 12 = .ok (.ifCond .ne 5, 3) := by decide +kernel
theorem dX6_spell_15 : decode cX6_spell 15 = .ok (.iconst (-1), 1) := by decide +kernel
theorem dX6_spell_16 : decode cX6_spell 16 = .ok (.ireturn, 1) := by decide +kernel
theorem dX6_spell_17 : decode cX6_spell 17 = .ok (.aload_n 0, 1) := by decide +kernel
theorem dX6_spell_18 : decode cX6_spell 18 = .ok (.aload_n 0, 1) := by decide +kernel
theorem dX6_spell_19 : decode cX6_spell 19 = .ok (.getfield 33, 3) := by decide +kernel
theorem dX6_spell_22 : decode cX6_spell 22 = .ok (.iload_n 1, 1) := by decide +kernel
theorem dX6_spell_23 : decode cX6_spell 23 = .ok (.invokevirtual 227, 3) := by decide +kernel
theorem dX6_spell_26 : decode cX6_spell 26 = .ok (.aload_n 0, 1) := by decide +kernel
theorem dX6_spell_27 : decode cX6_spell 27 = .ok (.getfield 33, 3) := by decide +kernel
theorem dX6_spell_30 : decode cX6_spell 30 = .ok (.iload_n 1, 1) := by decide +kernel
theorem dX6_spell_31 : decode cX6_spell 31 = .ok (.invokevirtual 206, 3) := by decide +kernel
theorem dX6_spell_34 : decode cX6_spell 34 = .ok (.invokevirtual 198, 3) := by decide +kernel
theorem dX6_spell_37 : decode cX6_spell 37 = .ok (.ireturn, 1) := by decide +kernel
set_option maxRecDepth 20000 in
theorem ggX6_step_X6_showClasses : GoodIn wsX6_step wsX6_showClasses := goodIn_r _ [7, 1, 2, 8, 9, 10, 6, 11, 12, 13, 14, 15, 16, 17, 18, 19, 20, 21, 22, 23, 24, 25, 26, 27, 28, 29, 30, 31, 32, 33, 34, 35, 36, 37, 38, 39, 40, 41, 42, 43, 44, 45, 46, 47, 48, 49, 50, 51, 52, 53, 54, 55, 56, 57, 58, 59, 60, 61, 62, 63, 64, 65, 66, 67, 68, 69, 70, 71, 72, 73, 74, 75, 76, 77, 78, 79, 80, 81, 82, 83, 84, 85, 86, 87, 88, 89, 90, 91, 92, 93, 94, 95, 96, 97, 98, 99, 100, 101, 102, 103, 104, 105, 106, 107, 108, 109, 110, 111, 112, 113, 114, 115, 116, 117, 118, 119, 120, 121, 122, 123, 124, 125, 126, 127, 128, 129, 130, 131, 132, 133, 134, 135, 136, 137, 138, 139, 140, 141, 142, 143, 144, 145, 146, 147, 148, 149, 150, 151, 152, 153, 154, 155, 156, 157, 158, 159, 185, 186, 187, 188, 189, 190, 191, 192, 193, 194, 195, 196, 197, 198, 199, 200, 201, 202, 203, 204, 205, 206, 207, 208, 209, 210, 211, 212, 213, 214, 215, 216, 217, 218, 219, 220, 221, 222] (by decide +kernel) (by decide +kernel)
set_option maxRecDepth 20000 in
theorem gX6_step_X6_showClasses : GoodIn wsX6_step (wsV RX6 178 RX6 yX6_showClasses wsX6_showClasses) := goodIn_app (goodIn_of _ (by decide +kernel)) ggX6_step_X6_showClasses
set_option maxRecDepth 20000 in
theorem ggX6_step_X1_has : GoodIn wsX6_step wsX1_has := goodIn_r _ [163, 83, 209, 210, 211, 212, 213, 214, 215, 216, 217, 218, 219, 220, 221] (by decide +kernel) (by decide +kernel)
set_option maxRecDepth 20000 in
theorem gX6_step_X1_has : GoodIn wsX6_step (wsV RX6 205 RX1 yX1_has wsX1_has) := goodIn_app (goodIn_of _ (by decide +kernel)) ggX6_step_X1_has
set_option maxRecDepth 20000 in
theorem ggX6_step_X6_isLetter : GoodIn wsX6_step wsX6_isLetter := goodIn_r _ [166] (by decide +kernel) (by decide +kernel)
set_option maxRecDepth 20000 in
theorem gX6_step_X6_isLetter : GoodIn wsX6_step (va_wsS RX6 79 yX6_isLetter wsX6_isLetter) := goodIn_app (goodIn_of _ (by decide +kernel)) ggX6_step_X6_isLetter
set_option maxRecDepth 20000 in
theorem ggX6_step_X1_classAfter : GoodIn wsX6_step wsX1_classAfter := goodIn_r _ [170, 171, 172, 173, 80, 174, 146, 175, 161, 162, 163, 83, 176, 177, 178, 179, 145, 91, 92, 93, 17, 94, 25, 95, 96, 97, 98, 59, 60, 61, 62, 63, 111, 108, 109, 110, 26, 180, 181, 182, 183, 184, 125, 126, 127, 128, 129, 209, 210, 211, 212, 213, 214, 215, 216, 217, 218, 219, 220, 221, 196, 197, 198, 199, 200, 201, 202, 203] (by decide +kernel) (by decide +kernel)
set_option maxRecDepth 20000 in
theorem gX6_step_X1_classAfter : GoodIn wsX6_step (wsV RX6 230 RX1 yX1_classAfter wsX1_classAfter) := goodIn_app (goodIn_of _ (by decide +kernel)) ggX6_step_X1_classAfter
theorem dX6_step_0 : decode cX6_step 0 = .ok (.aload_n 0, 1) := by decide +kernel
theorem dX6_step_1 : decode cX6_step 1 = .ok (.invokevirtual 178, 3) := by decide +kernel
theorem dX6_step_4 : decode cX6_step 4 = .ok (.iload_n 1, 1) := by decide +kernel
theorem dX6_step_5 : decode cX6_step 5 = .ok (.iconst (-1), 1) := by decide +kernel
theorem dX6_step_6 : decode cX6_step 6 = .ok (.if_icmp .eq 16, 3) := by decide +kernel
theorem dX6_step_9 : decode cX6_step 9 = .ok (.aload_n 0, 1) := by decide +kernel
theorem dX6_step_10 : decode cX6_step 10 = .ok (.getfield 33, 3) := by decide +kernel
theorem dX6_step_13 : decode cX6_step 13 = .ok (.iload_n 1, 1) := by decide +kernel
theorem dX6_step_14 : decode cX6_step 14 = .ok (.invokevirtual 205, 3) := by decide +kernel
theorem dX6_step_17 : decode cX6_step 17 = .ok (.ifCond .ne 5, 3) := by decide +kernel
theorem dX6_step_20 : decode cX6_step 20 = .ok (.iconst (-1), 1) := by decide +kernel
theorem dX6_step_21 : decode cX6_step 21 = .ok (.ireturn, 1) := by decide +kernel
theorem dX6_step_22 : decode cX6_step 22 = .ok (.iload_n 2, 1) := by decide +kernel
theorem dX6_step_23 : decode cX6_step 23 = .ok (.invokestatic 79, 3) := by decide +kernel
theorem dX6_step_26 : decode cX6_step 26 = .ok (.ifCond .ne 6, 3) := by decide +kernel
theorem dX6_step_29 : decode cX6_step 29 = .ok (.bipush (-2), 2) := by decide +kernel
theorem dX6_step_31 : decode cX6_step 31 = .ok (.ireturn, 1) := by decide +kernel
theorem dX6_step_32 : decode cX6_step 32 = .ok (.aload_n 0, 1) := by decide +kernel
theorem dX6_step_33 : decode cX6_step 33 = .ok (.getfield 33, 3) := by decide +kernel
theorem dX6_step_36 : decode cX6_step 36 = .ok (.aload_n 0, 1) := by decide +kernel
theorem dX6_step_37 : decode cX6_step 37 = .ok (.getfield 26, 3) := by decide +kernel
theorem dX6_step_40 : decode cX6_step 40 = .ok (.iload_n 1, 1) := by decide +kernel
theorem dX6_step_41 : decode cX6_step 41 = .ok (.iload_n 2, 1) := by decide +kernel
theorem dX6_step_42 : decode cX6_step 42 = .ok (.invokevirtual 230, 3) := by decide +kernel
theorem dX6_step_45 : decode cX6_step 45 = .ok (.ireturn, 1) := by decide +kernel
set_option maxRecDepth 20000 in
theorem ggX6_common_X6_isWordSet : GoodIn wsX6_common wsX6_isWordSet := goodIn_r _ [7, 8, 9, 10, 11, 12, 13, 14, 15, 16, 17, 18, 19, 20, 225, 226, 227, 228, 229, 230, 231, 232, 233, 234, 235, 236, 237, 238, 239, 240] (by decide +kernel) (by decide +kernel)
set_option maxRecDepth 20000 in
theorem gX6_common_X6_isWordSet : GoodIn wsX6_common (wsV RX6 234 RX6 yX6_isWordSet wsX6_isWordSet) := goodIn_app (goodIn_of _ (by decide +kernel)) ggX6_common_X6_isWordSet
set_option maxRecDepth 20000 in
theorem ggX6_common_X6_showClasses : GoodIn wsX6_common wsX6_showClasses := goodIn_r _ [24, 1, 2, 25, 26, 27, 6, 28, 8, 9, 29, 30, 31, 32, 33, 34, 35, 36, 37, 38, 39, 40, 41, 42, 43, 44, 11, 12, 13, 14, 15, 16, 17, 18, 19, 20, 45, 46, 47, 48, 49, 50, 51, 52, 53, 54, 55, 56, 57, 58, 59, 60, 61, 62, 63, 64, 65, 66, 67, 68, 69, 70, 71, 72, 73, 74, 75, 76, 77, 78, 79, 80, 81, 82, 83, 84, 85, 86, 87, 88, 89, 90, 91, 92, 93, 94, 95, 96, 97, 98, 99, 100, 101, 102, 103, 104, 105, 106, 107, 108, 109, 110, 111, 112, 113, 114, 115, 116, 117, 118, 119, 120, 121, 122, 123, 124, 125, 126, 127, 128, 129, 130, 131, 132, 133, 134, 135, 136, 137, 138, 139, 140, 141, 142, 143, 144, 145, 146, 147, 148, 149, 150, 151, 152, 153, 154, 155, 156, 157, 158, 159, 160, 161, 162, 163, 164, 225, 226, 227, 228, 229, 230, 231, 232, 233, 234, 235, 241, 242, 243, 244, 245, 246, 247, 248, 236, 237, 238, 239, 240, 249, 250, 251, 252, 253, 254, 255, 256, 257, 258, 259, 260, 261, 262] (by decide +kernel) (by decide +kernel)
set_option maxRecDepth 20000 in
theorem gX6_common_X6_showClasses : GoodIn wsX6_common (wsV RX6 178 RX6 yX6_showClasses wsX6_showClasses) := goodIn_app (goodIn_of _ (by decide +kernel)) ggX6_common_X6_showClasses
set_option maxRecDepth 20000 in
theorem ggX6_common_X1_longestShared : GoodIn wsX6_common wsX1_longestShared := goodIn_r _ [168, 88, 155, 151, 169, 170, 171, 172, 173, 174, 175, 176, 177, 178, 85, 179, 180, 181, 182, 183, 150, 184, 185, 186, 187, 188, 189, 190, 191, 192, 193, 194, 32, 195, 196, 197, 198, 199, 35, 36, 37, 38, 200, 162, 163, 164, 43, 65, 66, 67, 68, 40, 201, 101, 102, 103, 64, 249, 250, 251, 252, 253, 254, 255, 256, 257, 258, 259, 260, 261, 241, 242, 243, 244, 245, 246, 247, 248] (by decide +kernel) (by decide +kernel)
set_option maxRecDepth 20000 in
theorem gX6_common_X1_longestShared : GoodIn wsX6_common (wsV RX6 237 RX1 yX1_longestShared wsX1_longestShared) := goodIn_app (goodIn_of _ (by decide +kernel)) ggX6_common_X1_longestShared
set_option maxRecDepth 20000 in
theorem ggX6_common_X1_longestStart : GoodIn wsX6_common wsX1_longestStart := goodIn_r _ [179, 180, 181, 182, 85, 183, 150, 184, 185, 186, 187, 88, 188, 189, 190, 191, 151, 249, 250, 251, 252, 253, 254, 255, 256, 257, 258, 259, 260, 261] (by decide +kernel) (by decide +kernel)
set_option maxRecDepth 20000 in
theorem gX6_common_X1_longestStart : GoodIn wsX6_common (wsV RX6 227 RX1 yX1_longestStart wsX1_longestStart) := goodIn_app (goodIn_of _ (by decide +kernel)) ggX6_common_X1_longestStart
set_option maxRecDepth 20000 in
theorem ggX6_common_X1_longestIn : GoodIn wsX6_common wsX1_longestIn := goodIn_r _ [191, 151, 184, 185, 186, 85, 187, 88, 249, 250, 251, 252, 253, 254, 255, 256, 257, 258, 259, 260, 261] (by decide +kernel) (by decide +kernel)
set_option maxRecDepth 20000 in
theorem gX6_common_X1_longestIn : GoodIn wsX6_common (wsV RX6 206 RX1 yX1_longestIn wsX1_longestIn) := goodIn_app (goodIn_of _ (by decide +kernel)) ggX6_common_X1_longestIn
set_option maxRecDepth 20000 in
theorem ggX6_common_X6_write : GoodIn wsX6_common wsX6_write := goodIn_r _ [207, 208, 2, 209, 210, 211, 212, 213, 214, 215, 216, 217, 218, 219, 101, 102, 32, 103, 64, 65, 66, 67, 68, 40, 220, 221, 222, 223, 224, 225, 226, 227, 228, 229, 230, 231, 232, 233, 234, 235, 263, 264, 241, 242, 243, 244, 245, 246, 247, 248] (by decide +kernel) (by decide +kernel)
set_option maxRecDepth 20000 in
theorem gX6_common_X6_write : GoodIn wsX6_common (wsV RX6 198 RX6 yX6_write wsX6_write) := goodIn_app (goodIn_of _ (by decide +kernel)) ggX6_common_X6_write
theorem dX6_common_0 : decode cX6_common 0 = .ok (.aload_n 0, 1) := by decide +kernel
theorem dX6_common_1 : decode cX6_common 1 = .ok (.iload_n 1, 1) := by decide +kernel
theorem dX6_common_2 : decode cX6_common 2 = .ok (.invokevirtual 234, 3) := by decide +kernel
theorem dX6_common_5 : decode cX6_common 5 = .ok (.ifCond .ne 5, 3) := by decide +kernel
theorem dX6_common_8 : decode cX6_common 8 = .ok (.iconst (-1), 1) := by decide +kernel
theorem dX6_common_9 : decode cX6_common 9 = .ok (.ireturn, 1) := by decide +kernel
theorem dX6_common_10 : decode cX6_common 10 = .ok (.iload_n 2, 1) := by decide +kernel
theorem dX6_common_11 : decode cX6_common 11 = .ok (.iconst 1, 1) := by decide +kernel
theorem dX6_common_12 : decode cX6_common 12 = .ok (.if_icmp .lt 9, 3) := by decide +kernel
theorem dX6_common_15 : decode cX6_common 15 = .ok (.iload_n 2, 1) := by decide +kernel
theorem dX6_common_16 : decode cX6_common 16 = .ok (.bipush 6, 2) := by decide +kernel
theorem dX6_common_18 : decode cX6_common 18 = .ok (.if_icmp .le 6, 3) := by decide +kernel
theorem dX6_common_21 : decode cX6_common 21 = .ok (.bipush (-2), 2) := by decide +kernel
theorem dX6_common_23 : decode cX6_common 23 = .ok (.ireturn, 1) := by decide +kernel
theorem dX6_common_24 : decode cX6_common 24 = .ok (.aload_n 0, 1) := by decide +kernel
theorem dX6_common_25 : decode cX6_common 25 = .ok (.invokevirtual 178, 3) := by decide +kernel
theorem dX6_common_28 : decode cX6_common 28 = .ok (.aload_n 0, 1) := by decide +kernel
theorem dX6_common_29 : decode cX6_common 29 = .ok (.getfield 33, 3) := by decide +kernel
theorem dX6_common_32 : decode cX6_common 32 = .ok (.aload_n 0, 1) := by decide +kernel
theorem dX6_common_33 : decode cX6_common 33 = .ok (.getfield 26, 3) := by decide +kernel
theorem dX6_common_36 : decode cX6_common 36 = .ok (.iload_n 1, 1) := by decide +kernel
theorem dX6_common_37 : decode cX6_common 37 = .ok (.iload_n 2, 1) := by decide +kernel
theorem dX6_common_38 : decode cX6_common 38 = .ok (.invokevirtual 237, 3) := by decide +kernel
theorem dX6_common_41 : decode cX6_common 41 = .ok (.istore_n 3, 1) := by decide +kernel
