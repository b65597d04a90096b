theorem dX9_averageTrees_1 : decode cX9_averageTrees 1 = .ok (.iconst 1, 1) := by decide +kernel
theorem dX9_averageTrees_2 : decode cX9_averageTrees 2 = .ok (.iload_n 1, 1) := by decide +kernel
theorem dX9_averageTrees_3 : decode cX9_averageTrees 3 = .ok (.invokestatic 156, 3) := by decide +kernel
theorem dX9_averageTrees_6 : decode cX9_averageTrees 6 = .ok (.ifCond .ne 7, 3) := by decide +kernel
theorem dX9_averageTrees_9 : decode cX9_averageTrees 9 = .ok (.iconst 1, 1) := by decide +kernel
theorem dX9_averageTrees_10 : decode cX9_averageTrees 10 = .ok (.goto 4, 3) := by decide +kernel
theorem dX9_averageTrees_13 : decode cX9_averageTrees 13 = .ok (.iconst 0, 1) := by decide +kernel
theorem dX9_averageTrees_14 : decode cX9_averageTrees 14 = .ok (.invokevirtual 79, 3) := by decide +kernel
theorem dX9_averageTrees_17 : decode cX9_averageTrees 17 = .ok (.ifCond .eq 5, 3) := by decide +kernel
theorem dX9_averageTrees_20 : decode cX9_averageTrees 20 = .ok (.dconst 0, 1) := by decide +kernel
theorem dX9_averageTrees_21 : decode cX9_averageTrees 21 = .ok (.dreturn, 1) := by decide +kernel
theorem dX9_averageTrees_22 : decode cX9_averageTrees 22 = .ok (.aload_n 0, 1) := by decide +kernel
theorem dX9_averageTrees_23 : decode cX9_averageTrees 23 = .ok (.iload_n 1, 1) := by decide +kernel
theorem dX9_averageTrees_24 : decode cX9_averageTrees 24 = .ok (.iconst 3, 1) := by decide +kernel
theorem dX9_averageTrees_25 : decode cX9_averageTrees 25 = .ok (.invokevirtual 159, 3) := by decide +kernel
theorem dX9_averageTrees_28 : decode cX9_averageTrees 28 = .ok (.istore_n 2, 1) := by decide +kernel
theorem dX9_averageTrees_29 : decode cX9_averageTrees 29 = .ok (.aload_n 0, 1) := by decide +kernel
theorem dX9_averageTrees_30 : decode cX9_averageTrees 30 = .ok (.iconst 2, 1) := by decide +kernel
theorem dX9_averageTrees_31 : decode cX9_averageTrees 31 = .ok (.iload_n 2, 1) := by decide +kernel
theorem dX9_averageTrees_32 : decode cX9_averageTrees 32 = .ok (.ifCond .ne 7, 3) := by decide +kernel
theorem dX9_averageTrees_35 : decode cX9_averageTrees 35 = .ok (.iconst 1, 1) := by decide +kernel
theorem dX9_averageTrees_36 : decode cX9_averageTrees 36 = .ok (.goto 4, 3) := by decide +kernel
theorem dX9_averageTrees_39 : decode cX9_averageTrees 39 = .ok (.iconst 0, 1) := by decide +kernel
theorem dX9_averageTrees_40 : decode cX9_averageTrees 40 = .ok (.invokevirtual 79, 3) := by decide +kernel
theorem dX9_averageTrees_43 : decode cX9_averageTrees 43 = .ok (.ifCond .eq 5, 3) := by decide +kernel
theorem dX9_averageTrees_46 : decode cX9_averageTrees 46 = .ok (.dconst 0, 1) := by decide +kernel
theorem dX9_averageTrees_47 : decode cX9_averageTrees 47 = .ok (.dreturn, 1) := by decide +kernel
theorem dX9_averageTrees_48 : decode cX9_averageTrees 48 = .ok (.aload_n 0, 1) := by decide +kernel
theorem dX9_averageTrees_49 : decode cX9_averageTrees 49 = .ok (.invokevirtual 128, 3) := by decide +kernel
theorem dX9_averageTrees_52 : decode cX9_averageTrees 52 = .ok (.aload_n 0, 1) := by decide +kernel
theorem dX9_averageTrees_53 : decode cX9_averageTrees 53 = .ok (.getfield 34, 3) := by decide +kernel
theorem dX9_averageTrees_56 : decode cX9_averageTrees 56 = .ok (.aload_n 0, 1) := by decide +kernel
theorem dX9_averageTrees_57 : decode cX9_averageTrees 57 = .ok (.getfield 83, 3) := by decide +kernel
theorem dX9_averageTrees_60 : decode cX9_averageTrees 60 = .ok (.aaload, 1) := by decide +kernel
theorem dX9_averageTrees_61 : decode cX9_averageTrees 61 = .ok (.iload_n 1, 1) := by decide +kernel
theorem dX9_averageTrees_62 : decode cX9_averageTrees 62 = .ok (.laload, 1) := by decide +kernel
theorem dX9_averageTrees_63 : decode cX9_averageTrees 63 = .ok (.l2d, 1) := by decide +kernel
theorem dX9_averageTrees_64 : decode cX9_averageTrees 64 = .ok (.iload_n 2, 1) := by decide +kernel
theorem dX9_averageTrees_65 : decode cX9_averageTrees 65 = .ok (.i2d, 1) := by decide +kernel
theorem dX9_averageTrees_66 : decode cX9_averageTrees 66 = .ok (.ddiv, 1) := by decide +kernel
theorem dX9_averageTrees_67 : decode cX9_averageTrees 67 = .ok (.dreturn, 1) := by decide +kernel
theorem dX9_take_0 : decode cX9_take 0 = .ok (.iconst 0, 1) := by decide +kernel
theorem dX9_take_1 : decode cX9_take 1 = .ok (.istore_n 2, 1) := by decide +kernel
theorem dX9_take_2 : decode cX9_take 2 = .ok (.iload_n 2, 1) := by decide +kernel
theorem dX9_take_3 : decode cX9_take 3 = .ok (.iload_n 1, 1) := by decide +kernel
theorem dX9_take_4 : decode cX9_take 4 = .ok (.if_icmp .ge 21, 3) := by decide +kernel
theorem dX9_take_7 : decode cX9_take 7 = .ok (.aload_n 0, 1) := by decide +kernel
theorem dX9_take_8 : decode cX9_take 8 = .ok (.getfield 21, 3) := by decide +kernel
theorem dX9_take_11 : decode cX9_take 11 = .ok (.iload_n 2, 1) := by decide +kernel
theorem dX9_take_12 : decode cX9_take 12 = .ok (.aload_n 0, 1) := by decide +kernel
theorem dX9_take_13 : decode cX9_take 13 = .ok (.getfield 37, 3) := by decide +kernel
theorem dX9_take_16 : decode cX9_take 16 = .ok (.iload_n 2, 1) := by decide +kernel
theorem dX9_take_17 : decode cX9_take 17 = .ok (.iaload, 1) := by decide +kernel
theorem dX9_take_18 : decode cX9_take 18 = .ok (.iastore, 1) := by decide +kernel
theorem dX9_take_19 : decode cX9_take 19 = .ok (.iinc 2 1, 3) := by decide +kernel
theorem dX9_take_22 : decode cX9_take 22 = .ok (.goto (-20), 3) := by decide +kernel
theorem dX9_take_25 : decode cX9_take 25 = .ok (.aload_n 0, 1) := by decide +kernel
theorem dX9_take_26 : decode cX9_take 26 = .ok (.iload_n 1, 1) := by decide +kernel
theorem dX9_take_27 : decode cX9_take 27 = .ok (.putfield 86, 3) := by decide +kernel
theorem dX9_take_30 : decode cX9_take 30 = .ok (.aload_n 0, 1) := by decide +kernel
theorem dX9_take_31 : decode cX9_take 31 = .ok (.iconst 0, 1) := by decide +kernel
theorem dX9_take_32 : decode cX9_take 32 = .ok (.putfield 89, 3) := by decide +kernel
theorem dX9_take_35 : decode cX9_take 35 = .ok (.return_, 1) := by decide +kernel
set_option maxRecDepth 20000 in
theorem ggX9_firstAmbiguous_X9_isListed : GoodIn wsX9_firstAmbiguous wsX9_isListed := goodIn_r _ [5, 6, 7, 4, 8] (by decide +kernel) (by decide +kernel)
set_option maxRecDepth 20000 in
theorem gX9_firstAmbiguous_X9_isListed : GoodIn wsX9_firstAmbiguous (va_wsS RX9 156 yX9_isListed wsX9_isListed) := goodIn_app (goodIn_of _ (by decide +kernel)) ggX9_firstAmbiguous_X9_isListed
set_option maxRecDepth 20000 in
theorem ggX9_firstAmbiguous_X9_fails : GoodIn wsX9_firstAmbiguous wsX9_fails := goodIn_r _ [12, 1, 50, 51, 52, 53, 54, 55, 56, 57, 58, 59, 60, 61, 62, 63, 64, 65, 66, 67, 68, 69, 70, 71, 72, 73, 74, 75, 76, 77, 78, 79] (by decide +kernel) (by decide +kernel)
set_option maxRecDepth 20000 in
theorem gX9_firstAmbiguous_X9_fails : GoodIn wsX9_firstAmbiguous (wsV RX9 79 RX9 yX9_fails wsX9_fails) := goodIn_app (goodIn_of _ (by decide +kernel)) ggX9_firstAmbiguous_X9_fails
set_option maxRecDepth 20000 in
theorem ggX9_firstAmbiguous_X9_wordsOf : GoodIn wsX9_firstAmbiguous wsX9_wordsOf := goodIn_r _ [16, 17, 50, 51, 52, 53, 54, 55, 56, 57, 58, 59, 60, 61, 62, 63, 64, 65, 66, 67, 68, 69, 70, 71, 72, 73, 74, 75, 76, 77, 78, 79] (by decide +kernel) (by decide +kernel)
set_option maxRecDepth 20000 in
theorem gX9_firstAmbiguous_X9_wordsOf : GoodIn wsX9_firstAmbiguous (wsV RX9 150 RX9 yX9_wordsOf wsX9_wordsOf) := goodIn_app (goodIn_of _ (by decide +kernel)) ggX9_firstAmbiguous_X9_wordsOf
set_option maxRecDepth 20000 in
theorem ggX9_firstAmbiguous_X9_countNumbered : GoodIn wsX9_firstAmbiguous wsX9_countNumbered := goodIn_r _ [21, 22, 17, 23, 24, 25, 4, 26, 27, 28, 29, 30, 31, 32, 33, 34, 35, 36, 37, 38, 39, 40, 41, 42, 50, 51, 52, 53, 54, 55, 56, 57, 58, 59, 60, 61, 62, 63, 64, 65, 66, 67, 68, 69, 70, 71, 72, 73, 74, 75, 76, 77, 78, 79] (by decide +kernel) (by decide +kernel)
set_option maxRecDepth 20000 in
theorem gX9_firstAmbiguous_X9_countNumbered : GoodIn wsX9_firstAmbiguous (wsV RX9 153 RX9 yX9_countNumbered wsX9_countNumbered) := goodIn_app (goodIn_of _ (by decide +kernel)) ggX9_firstAmbiguous_X9_countNumbered
set_option maxRecDepth 20000 in
theorem ggX9_firstAmbiguous_X9_take : GoodIn wsX9_firstAmbiguous wsX9_take := goodIn_r _ [46, 47, 22, 48, 49, 50, 51, 52, 53, 54, 55, 56, 57, 58, 59, 60, 61, 62, 63, 64, 65, 66, 67, 68, 69, 70, 71, 72, 73, 74, 75, 76, 77, 78, 79] (by decide +kernel) (by decide +kernel)
set_option maxRecDepth 20000 in
theorem gX9_firstAmbiguous_X9_take : GoodIn wsX9_firstAmbiguous (wsV RX9 163 RX9 yX9_take wsX9_take) := goodIn_app (goodIn_of _ (by decide +kernel)) ggX9_firstAmbiguous_X9_take
theorem dX9_firstAmbiguous_0 : decode cX9_firstAmbiguous 0 = .ok (.aload_n 0, 1) := by decide +kernel
theorem dX9_firstAmbiguous_1 : decode cX9_firstAmbiguous 1 = .ok (.iconst 1, 1) := by decide +kernel
theorem dX9_firstAmbiguous_2 : decode cX9_firstAmbiguous 2 = .ok (.iload_n 1, 1) := by decide +kernel
theorem dX9_firstAmbiguous_3 : decode cX9_firstAmbiguous 3 = .ok (.invokestatic 156, 3) := by decide +kernel
theorem dX9_firstAmbiguous_6 : decode cX9_firstAmbiguous 6 = .ok (.ifCond .ne 7, 3) := by decide +kernel
theorem dX9_firstAmbiguous_9 : decode cX9_firstAmbiguous 9 = .ok (.iconst 1, 1) := by decide +kernel
theorem dX9_firstAmbiguous_10 : decode cX9_firstAmbiguous 10 = .ok (.goto 4, 3) := by decide +kernel
theorem dX9_firstAmbiguous_13 : decode cX9_firstAmbiguous 13 = .ok (.iconst 0, 1) := by decide +kernel
theorem dX9_firstAmbiguous_14 : decode cX9_firstAmbiguous 14 = .ok (.invokevirtual 79, 3) := by decide +kernel
theorem dX9_firstAmbiguous_17 : decode cX9_firstAmbiguous 17 = .ok (.ifCond .eq 5, 3) := by decide +kernel
theorem dX9_firstAmbiguous_20 : decode cX9_firstAmbiguous 20 = .ok (.iconst 0, 1) := by decide +kernel
theorem dX9_firstAmbiguous_21 : decode cX9_firstAmbiguous 21 = .ok (.ireturn, 1) := by decide +kernel
theorem dX9_firstAmbiguous_22 : decode cX9_firstAmbiguous 22 = .ok (.iconst 1, 1) := by decide +kernel
theorem dX9_firstAmbiguous_23 : decode cX9_firstAmbiguous 23 = .ok (.istore_n 2, 1) := by decide +kernel
theorem dX9_firstAmbiguous_24 : decode cX9_firstAmbiguous 24 = .ok (.iload_n 2, 1) := by decide +kernel
theorem dX9_firstAmbiguous_25 : decode cX9_firstAmbiguous 25 = .ok (.iload_n 1, 1) := by decide +kernel
theorem dX9_firstAmbiguous_26 : decode cX9_firstAmbiguous 26 = .ok (.if_icmp .gt 44, 3) := by decide +kernel
theorem dX9_firstAmbiguous_29 : decode cX9_firstAmbiguous 29 = .ok (.iconst 0, 1) := by decide +kernel
theorem dX9_firstAmbiguous_30 : decode cX9_firstAmbiguous 30 = .ok (.istore_n 3, 1) := by decide +kernel
theorem dX9_firstAmbiguous_31 : decode cX9_firstAmbiguous 31 = .ok (.iload_n 3, 1) := by decide +kernel
theorem dX9_firstAmbiguous_32 : decode cX9_firstAmbiguous 32 = .ok (.aload_n 0, 1) := by decide +kernel
theorem dX9_firstAmbiguous_33 : decode cX9_firstAmbiguous 33 = .ok (.iload_n 2, 1) := by decide +kernel
theorem dX9_firstAmbiguous_34 : decode cX9_firstAmbiguous 34 = .ok (.invokevirtual 150, 3) := by decide +kernel
theorem dX9_firstAmbiguous_37 : decode cX9_firstAmbiguous 37 = .ok (.if_icmp .ge 27, 3) := by decide +kernel
theorem dX9_firstAmbiguous_40 : decode cX9_firstAmbiguous 40 = .ok (.aload_n 0, 1) := by decide +kernel
theorem dX9_firstAmbiguous_41 : decode cX9_firstAmbiguous 41 = .ok (.iload_n 3, 1) := by decide +kernel
theorem dX9_firstAmbiguous_42 : decode cX9_firstAmbiguous 42 = .ok (.iload_n 2, 1) := by decide +kernel
theorem dX9_firstAmbiguous_43 : decode cX9_firstAmbiguous 43 = .ok (.invokevirtual 153, 3) := by decide +kernel
theorem dX9_firstAmbiguous_46 : decode cX9_firstAmbiguous 46 = .ok (.lconst 1, 1) := by decide +kernel
theorem dX9_firstAmbiguous_47 : decode cX9_firstAmbiguous 47 = .ok (.lcmp, 1) := by decide +kernel
theorem dX9_firstAmbiguous_48 : decode cX9_firstAmbiguous 48 = .ok (.ifCond .le 10, 3) := by decide +kernel
theorem dX9_firstAmbiguous_51 : decode cX9_firstAmbiguous 51 = .ok (.aload_n 0, 1) := by decide +kernel
theorem dX9_firstAmbiguous_52 : decode cX9_firstAmbiguous 52 = .ok (.iload_n 2, 1) := by decide +kernel
theorem dX9_firstAmbiguous_53 : decode cX9_firstAmbiguous 53 = .ok (.invokevirtual 163, 3) := by decide +kernel
theorem dX9_firstAmbiguous_56 : decode cX9_firstAmbiguous 56 = .ok (.iload_n 2, 1) := by decide +kernel
theorem dX9_firstAmbiguous_57 : decode cX9_firstAmbiguous 57 = .ok (.ireturn, 1) := by decide +kernel
theorem dX9_firstAmbiguous_58 : decode cX9_firstAmbiguous 58 = .ok (.iinc 3 1, 3) := by decide +kernel
theorem dX9_firstAmbiguous_61 : decode cX9_firstAmbiguous 61 = .ok (.goto (-30), 3) := by decide +kernel
theorem dX9_firstAmbiguous_64 : decode cX9_firstAmbiguous 64 = .ok (.iinc 2 1, 3) := by decide +kernel
theorem dX9_firstAmbiguous_67 : decode cX9_firstAmbiguous 67 = .ok (.goto (-43), 3) := by decide +kernel
theorem dX9_firstAmbiguous_70 : decode cX9_firstAmbiguous 70 = .ok (.aload_n 0, 1) := by decide +kernel
theorem dX9_firstAmbiguous_71 : decode cX9_firstAmbiguous 71 = .ok (.iconst 2, 1) := by decide +kernel
theorem dX9_firstAmbiguous_72 : decode cX9_firstAmbiguous 72 = .ok (.putfield 69, 3) := by decide +kernel
theorem dX9_firstAmbiguous_75 : decode cX9_firstAmbiguous 75 = .ok (.iconst 0, 1) := by decide +kernel
theorem dX9_firstAmbiguous_76 : decode cX9_firstAmbiguous 76 = .ok (.ireturn, 1) := by decide +kernel
set_option maxRecDepth 20000 in
theorem ggX9_wordRank_X9_isListed : GoodIn wsX9_wordRank wsX9_isListed := goodIn_r _ [7, 8, 9, 6, 10] (by decide +kernel) (by decide +kernel)
set_option maxRecDepth 20000 in
theorem gX9_wordRank_X9_isListed : GoodIn wsX9_wordRank (va_wsS RX9 156 yX9_isListed wsX9_isListed) := goodIn_app (goodIn_of _ (by decide +kernel)) ggX9_wordRank_X9_isListed
set_option maxRecDepth 20000 in
theorem ggX9_wordRank_X9_fails : GoodIn wsX9_wordRank wsX9_fails := goodIn_r _ [14, 15, 45, 46, 47, 48, 49, 50, 51, 52, 53, 54, 55, 56, 57, 58, 59, 60, 61, 62, 63, 64, 65, 66, 67, 68, 69, 70, 71, 72, 73, 74] (by decide +kernel) (by decide +kernel)
set_option maxRecDepth 20000 in
theorem gX9_wordRank_X9_fails : GoodIn wsX9_wordRank (wsV RX9 79 RX9 yX9_fails wsX9_fails) := goodIn_app (goodIn_of _ (by decide +kernel)) ggX9_wordRank_X9_fails
set_option maxRecDepth 20000 in
theorem ggX9_wordRank_X9_countCurrent : GoodIn wsX9_wordRank wsX9_countCurrent := goodIn_r _ [19, 1, 20, 3, 21, 22, 23, 6, 24, 25, 26, 27, 28, 29, 30, 31, 32, 33, 34, 35, 36, 37, 38, 39, 40, 45, 46, 47, 48, 49, 50, 51, 52, 53, 54, 55, 56, 57, 58, 59, 60, 61, 62, 63, 64, 65, 66, 67, 68, 69, 70, 71, 72, 73, 74] (by decide +kernel) (by decide +kernel)
set_option maxRecDepth 20000 in
theorem gX9_wordRank_X9_countCurrent : GoodIn wsX9_wordRank (wsV RX9 146 RX9 yX9_countCurrent wsX9_countCurrent) := goodIn_app (goodIn_of _ (by decide +kernel)) ggX9_wordRank_X9_countCurrent
set_option maxRecDepth 20000 in
theorem ggX9_wordRank_X9_countNumbered : GoodIn wsX9_wordRank wsX9_countNumbered := goodIn_r _ [44, 20, 2, 21, 22, 23, 6, 24, 25, 26, 27, 28, 29, 30, 31, 32, 33, 34, 35, 36, 37, 38, 39, 40, 45, 46, 47, 48, 49, 50, 51, 52, 53, 54, 55, 56, 57, 58, 59, 60, 61, 62, 63, 64, 65, 66, 67, 68, 69, 70, 71, 72, 73, 74] (by decide +kernel) (by decide +kernel)
set_option maxRecDepth 20000 in
theorem gX9_wordRank_X9_countNumbered : GoodIn wsX9_wordRank (wsV RX9 153 RX9 yX9_countNumbered wsX9_countNumbered) := goodIn_app (goodIn_of _ (by decide +kernel)) ggX9_wordRank_X9_countNumbered
theorem dX9_wordRank_0 : decode cX9_wordRank 0 = .ok (.aload_n 0, 1) := by decide +kernel
theorem dX9_wordRank_1 : decode cX9_wordRank 1 = .ok (.iconst 1, 1) := by decide +kernel
theorem dX9_wordRank_2 : decode cX9_wordRank 2 = .ok (.aload_n 0, 1) := by decide +kernel
theorem dX9_wordRank_3 : decode cX9_wordRank 3 = .ok (.getfield 86, 3) := by decide +kernel
theorem dX9_wordRank_6 : decode cX9_wordRank 6 = .ok (.invokestatic 156, 3) := by decide +kernel
theorem dX9_wordRank_9 : decode cX9_wordRank 9 = .ok (.ifCond .ne 7, 3) := by decide +kernel
theorem dX9_wordRank_12 : decode cX9_wordRank 12 = .ok (.iconst 1, 1) := by decide +kernel
theorem dX9_wordRank_13 : decode cX9_wordRank 13 = .ok (.goto 4, 3) := by decide +kernel
theorem dX9_wordRank_16 : decode cX9_wordRank 16 = .ok (.iconst 0, 1) := by decide +kernel
theorem dX9_wordRank_17 : decode cX9_wordRank 17 = .ok (.invokevirtual 79, 3) := by decide +kernel
theorem dX9_wordRank_20 : decode cX9_wordRank 20 = .ok (.ifCond .ne 25, 3) := by decide +kernel
theorem dX9_wordRank_23 : decode cX9_wordRank 23 = .ok (.aload_n 0, 1) := by decide +kernel
theorem dX9_wordRank_24 : decode cX9_wordRank 24 = .ok (.iconst 2, 1) := by decide +kernel
theorem dX9_wordRank_25 : decode cX9_wordRank 25 = .ok (.aload_n 0, 1) := by decide +kernel
theorem dX9_wordRank_26 : decode cX9_wordRank 26 = .ok (.invokevirtual 146, 3) := by decide +kernel
theorem dX9_wordRank_29 : decode cX9_wordRank 29 = .ok (.lconst 0, 1) := by decide +kernel
theorem dX9_wordRank_30 : decode cX9_wordRank 30 = .ok (.lcmp, 1) := by decide +kernel
theorem dX9_wordRank_31 : decode cX9_wordRank 31 = .ok (.ifCond .ne 7, 3) := by decide +kernel
theorem dX9_wordRank_34 : decode cX9_wordRank 34 = .ok (.iconst 1, 1) := by decide +kernel
theorem dX9_wordRank_35 : decode cX9_wordRank 35 = .ok (.goto 4, 3) := by decide +kernel
theorem dX9_wordRank_38 : decode cX9_wordRank 38 = .ok (.iconst 0, 1) := by decide +kernel
theorem dX9_wordRank_39 : decode cX9_wordRank 39 = .ok (.invokevirtual 79, 3) := by decide +kernel
theorem dX9_wordRank_42 : decode cX9_wordRank 42 = .ok (.ifCond .eq 5, 3) := by decide +kernel
theorem dX9_wordRank_45 : decode cX9_wordRank 45 = .ok (.iconst 0, 1) := by decide +kernel
theorem dX9_wordRank_46 : decode cX9_wordRank 46 = .ok (.ireturn, 1) := by decide +kernel
theorem dX9_wordRank_47 : decode cX9_wordRank 47 = .ok (.iconst 0, 1) := by decide +kernel
theorem dX9_wordRank_48 : decode cX9_wordRank 48 = .ok (.istore_n 1, 1) := by decide +kernel
theorem dX9_wordRank_49 : decode cX9_wordRank 49 = .ok (.iconst 0, 1) := by decide +kernel
theorem dX9_wordRank_50 : decode cX9_wordRank 50 = .ok (.istore_n 2, 1) := by decide +kernel
theorem dX9_wordRank_51 : decode cX9_wordRank 51 = .ok (.iload_n 2, 1) := by decide +kernel
theorem dX9_wordRank_52 : decode cX9_wordRank 52 = .ok (.aload_n 0, 1) := by decide +kernel
theorem dX9_wordRank_53 : decode cX9_wordRank 53 = .ok (.getfield 86, 3) := by decide +kernel
theorem dX9_wordRank_56 : decode cX9_wordRank 56 = .ok (.if_icmp .ge 23, 3) := by decide +kernel
theorem dX9_wordRank_59 : decode cX9_wordRank 59 = .ok (.aload_n 0, 1) := by decide +kernel
theorem dX9_wordRank_60 : decode cX9_wordRank 60 = .ok (.getfield 13, 3) := by decide +kernel
theorem dX9_wordRank_63 : decode cX9_wordRank 63 = .ok (.iload_n 1, 1) := by decide +kernel
theorem dX9_wordRank_64 : decode cX9_wordRank 64 = .ok (.imul, 1) := by decide +kernel
theorem dX9_wordRank_65 : decode cX9_wordRank 65 = .ok (.aload_n 0, 1) := by decide +kernel
theorem dX9_wordRank_66 : decode cX9_wordRank 66 = .ok (.getfield 21, 3) := by decide +kernel
theorem dX9_wordRank_69 : decode cX9_wordRank 69 = .ok (.iload_n 2, 1) := by decide +kernel
theorem dX9_wordRank_70 : decode cX9_wordRank 70 = .ok (.iaload, 1) := by decide +kernel
theorem dX9_wordRank_71 : decode cX9_wordRank 71 = .ok (.iadd, 1) := by decide +kernel
theorem dX9_wordRank_72 : decode cX9_wordRank 72 = .ok (.istore_n 1, 1) := by decide +kernel
theorem dX9_wordRank_73 : decode cX9_wordRank 73 = .ok (.iinc 2 1, 3) := by decide +kernel
theorem dX9_wordRank_76 : decode cX9_wordRank 76 = .ok (.goto (-25), 3) := by decide +kernel
theorem dX9_wordRank_79 : decode cX9_wordRank 79 = .ok (.iconst 0, 1) := by decide +kernel
theorem dX9_wordRank_80 : decode cX9_wordRank 80 = .ok (.istore_n 2, 1) := by decide +kernel
theorem dX9_wordRank_81 : decode cX9_wordRank 81 = .ok (.iconst 0, 1) := by decide +kernel
theorem dX9_wordRank_82 : decode cX9_wordRank 82 = .ok (.istore_n 3, 1) := by decide +kernel
theorem dX9_wordRank_83 : decode cX9_wordRank 83 = .ok (.iload_n 3, 1) := by decide +kernel
theorem dX9_wordRank_84 : decode cX9_wordRank 84 = .ok (.iload_n 1, 1) := by decide +kernel
theorem dX9_wordRank_85 : decode cX9_wordRank 85 = .ok (.if_icmp .ge 31, 3) := by decide +kernel
theorem dX9_wordRank_88 : decode cX9_wordRank 88 = .ok (.iload_n 2, 1) := by decide +kernel
theorem dX9_wordRank_89 : decode cX9_wordRank 89 = .ok (.aload_n 0, 1) := by decide +kernel
theorem dX9_wordRank_90 : decode cX9_wordRank 90 = .ok (.iload_n 3, 1) := by decide +kernel
theorem dX9_wordRank_91 : decode cX9_wordRank 91 = .ok (.aload_n 0, 1) := by decide +kernel
theorem dX9_wordRank_92 : decode cX9_wordRank 92 = .ok (.getfield 86, 3) := by decide +kernel
theorem dX9_wordRank_95 : decode cX9_wordRank 95 = .ok (.invokevirtual 153, 3) := by decide +kernel
theorem dX9_wordRank_98 : decode cX9_wordRank 98 = .ok (.lconst 0, 1) := by decide +kernel
theorem dX9_wordRank_99 : decode cX9_wordRank 99 = .ok (.lcmp, 1) := by decide +kernel
theorem dX9_wordRank_100 : decode cX9_wordRank 100 = .ok (.ifCond .le 7, 3) := by decide +kernel
theorem dX9_wordRank_103 : decode cX9_wordRank 103 = .ok (.iconst 1, 1) := by decide +kernel
theorem dX9_wordRank_104 : decode cX9_wordRank 104 = .ok (.goto 4, 3) := by decide +kernel
theorem dX9_wordRank_107 : decode cX9_wordRank 107 = .ok (.iconst 0, 1) := by decide +kernel
theorem dX9_wordRank_108 : decode cX9_wordRank 108 = .ok (.iadd, 1) := by decide +kernel
theorem dX9_wordRank_109 : decode cX9_wordRank 109 = .ok (.istore_n 2, 1) := by decide +kernel
theorem dX9_wordRank_110 : decode cX9_wordRank 110 = .ok (.iinc 3 1, 3) := by decide +kernel
theorem dX9_wordRank_113 : decode cX9_wordRank 113 = .ok (.goto (-30), 3) := by decide +kernel
theorem dX9_wordRank_116 : decode cX9_wordRank 116 = .ok (.iload_n 2, 1) := by decide +kernel
theorem dX9_wordRank_117 : decode cX9_wordRank 117 = .ok (.ireturn, 1) := by decide +kernel
set_option maxRecDepth 20000 in
theorem ggX9_takeRanked_X9_wordsOf : GoodIn wsX9_takeRanked wsX9_wordsOf := goodIn_r _ [5, 6, 39, 40, 41, 42, 43, 44, 45, 46, 47, 48, 49, 50, 51, 52, 53, 54, 55, 56, 57, 58, 59, 60, 61, 62, 63, 64, 65, 66, 67, 68] (by decide +kernel) (by decide +kernel)
set_option maxRecDepth 20000 in
theorem gX9_takeRanked_X9_wordsOf : GoodIn wsX9_takeRanked (wsV RX9 150 RX9 yX9_wordsOf wsX9_wordsOf) := goodIn_app (goodIn_of _ (by decide +kernel)) ggX9_takeRanked_X9_wordsOf
set_option maxRecDepth 20000 in
theorem ggX9_takeRanked_X9_countNumbered : GoodIn wsX9_takeRanked wsX9_countNumbered := goodIn_r _ [10, 11, 6, 12, 13, 14, 4, 15, 16, 17, 18, 19, 20, 21, 22, 23, 24, 25, 26, 27, 28, 29, 30, 31, 39, 40, 41, 42, 43, 44, 45, 46, 47, 48, 49, 50, 51, 52, 53, 54, 55, 56, 57, 58, 59, 60, 61, 62, 63, 64, 65, 66, 67, 68] (by decide +kernel) (by decide +kernel)
set_option maxRecDepth 20000 in
theorem gX9_takeRanked_X9_countNumbered : GoodIn wsX9_takeRanked (wsV RX9 153 RX9 yX9_countNumbered wsX9_countNumbered) := goodIn_app (goodIn_of _ (by decide +kernel)) ggX9_takeRanked_X9_countNumbered
set_option maxRecDepth 20000 in
theorem ggX9_takeRanked_X9_take : GoodIn wsX9_takeRanked wsX9_take := goodIn_r _ [35, 36, 11, 37, 38, 39, 40, 41, 42, 43, 44, 45, 46, 47, 48, 49, 50, 51, 52, 53, 54, 55, 56, 57, 58, 59, 60, 61, 62, 63, 64, 65, 66, 67, 68] (by decide +kernel) (by decide +kernel)
set_option maxRecDepth 20000 in
theorem gX9_takeRanked_X9_take : GoodIn wsX9_takeRanked (wsV RX9 163 RX9 yX9_take wsX9_take) := goodIn_app (goodIn_of _ (by decide +kernel)) ggX9_takeRanked_X9_take
theorem dX9_takeRanked_0 : decode cX9_takeRanked 0 = .ok (.iload_n 2, 1) := by decide +kernel
theorem dX9_takeRanked_1 : decode cX9_takeRanked 1 = .ok (.istore_n 3, 1) := by decide +kernel
theorem dX9_takeRanked_2 : decode cX9_takeRanked 2 = .ok (.iconst 0, 1) := by decide +kernel
theorem dX9_takeRanked_3 : decode cX9_takeRanked 3 = .ok (.istore 4, 2) := by decide +kernel
theorem dX9_takeRanked_5 : decode cX9_takeRanked 5 = .ok (.iload 4, 2) := by decide +kernel
theorem dX9_takeRanked_7 : decode cX9_takeRanked 7 = .ok (.aload_n 0, 1) := by decide +kernel
theorem dX9_takeRanked_8 : decode cX9_takeRanked 8 = .ok (.iload_n 1, 1) := by decide +kernel
theorem dX9_takeRanked_9 : decode cX9_takeRanked 9 = .ok (.invokevirtual 150, 3) := by decide +kernel
theorem dX9_takeRanked_12 : decode cX9_takeRanked 12 = .ok (.if_icmp .ge 35, 3) := by decide +kernel
theorem dX9_takeRanked_15 : decode cX9_takeRanked 15 = .ok (.aload_n 0, 1) := by decide +kernel
theorem dX9_takeRanked_16 : decode cX9_takeRanked 16 = .ok (.iload 4, 2) := by decide +kernel
theorem dX9_takeRanked_18 : decode cX9_takeRanked 18 = .ok (.iload_n 1, 1) := by decide +kernel
theorem dX9_takeRanked_19 : decode cX9_takeRanked 19 = .ok (.invokevirtual 153, 3) := by decide +kernel
theorem dX9_takeRanked_22 : decode cX9_takeRanked 22 = .ok (.lconst 0, 1) := by decide +kernel
theorem dX9_takeRanked_23 : decode cX9_takeRanked 23 = .ok (.lcmp, 1) := by decide +kernel
theorem dX9_takeRanked_24 : decode cX9_takeRanked 24 = .ok (.ifCond .le 17, 3) := by decide +kernel
theorem dX9_takeRanked_27 : decode cX9_takeRanked 27 = .ok (.iload_n 3, 1) := by decide +kernel
theorem dX9_takeRanked_28 : decode cX9_takeRanked 28 = .ok (.ifCond .ne 10, 3) := by decide +kernel
theorem dX9_takeRanked_31 : decode cX9_takeRanked 31 = .ok (.aload_n 0, 1) := by decide +kernel
theorem dX9_takeRanked_32 : decode cX9_takeRanked 32 = .ok (.iload_n 1, 1) := by decide +kernel
theorem dX9_takeRanked_33 : decode cX9_takeRanked 33 = .ok (.invokevirtual 163, 3) := by decide +kernel
theorem dX9_takeRanked_36 : decode cX9_takeRanked 36 = .ok (.iconst 1, 1) := by decide +kernel
theorem dX9_takeRanked_37 : decode cX9_takeRanked 37 = .ok (.ireturn, 1) := by decide +kernel
theorem dX9_takeRanked_38 : decode cX9_takeRanked 38 = .ok (.iinc 3 (-1), 3) := by decide +kernel
theorem dX9_takeRanked_41 : decode cX9_takeRanked 41 = .ok (.iinc 4 1, 3) := by decide +kernel
theorem dX9_takeRanked_44 : decode cX9_takeRanked 44 = .ok (.goto (-39), 3) := by decide +kernel
theorem dX9_takeRanked_47 : decode cX9_takeRanked 47 = .ok (.iconst 0, 1) := by decide +kernel
theorem dX9_takeRanked_48 : decode cX9_takeRanked 48 = .ok (.ireturn, 1) := by decide +kernel
set_option maxRecDepth 20000 in
theorem ggX9_takeWord_X9_isListed : GoodIn wsX9_takeWord wsX9_isListed := goodIn_r _ [4, 5, 6, 3, 7] (by decide +kernel) (by decide +kernel)
set_option maxRecDepth 20000 in
theorem gX9_takeWord_X9_isListed : GoodIn wsX9_takeWord (va_wsS RX9 156 yX9_isListed wsX9_isListed) := goodIn_app (goodIn_of _ (by decide +kernel)) ggX9_takeWord_X9_isListed
set_option maxRecDepth 20000 in
theorem ggX9_takeWord_X9_fails : GoodIn wsX9_takeWord wsX9_fails := goodIn_r _ [11, 12, 54, 55, 56, 57, 58, 59, 60, 61, 62, 63, 64, 65, 66, 67, 68, 69, 70, 71, 72, 73, 74, 75, 76, 77, 78, 79, 80, 81, 82, 83] (by decide +kernel) (by decide +kernel)
set_option maxRecDepth 20000 in
theorem gX9_takeWord_X9_fails : GoodIn wsX9_takeWord (wsV RX9 79 RX9 yX9_fails wsX9_fails) := goodIn_app (goodIn_of _ (by decide +kernel)) ggX9_takeWord_X9_fails
set_option maxRecDepth 20000 in
theorem ggX9_takeWord_X9_takeRanked : GoodIn wsX9_takeWord wsX9_takeRanked := goodIn_r _ [16, 17, 18, 19, 3, 20, 21, 22, 23, 24, 25, 26, 27, 28, 29, 30, 31, 32, 33, 34, 35, 36, 37, 38, 39, 40, 41, 42, 43, 44, 45, 46, 47, 48, 49, 50, 51, 52, 53, 54, 55, 56, 57, 58, 59, 60, 61, 62, 63, 64, 65, 66, 67, 68, 69, 70, 71, 72, 73, 74, 75, 76, 77, 78, 79, 80, 81, 82, 83] (by decide +kernel) (by decide +kernel)
set_option maxRecDepth 20000 in
theorem gX9_takeWord_X9_takeRanked : GoodIn wsX9_takeWord (wsV RX9 166 RX9 yX9_takeRanked wsX9_takeRanked) := goodIn_app (goodIn_of _ (by decide +kernel)) ggX9_takeWord_X9_takeRanked
theorem dX9_takeWord_0 : decode cX9_takeWord 0 = .ok (.aload_n 0, 1) := by decide +kernel
theorem dX9_takeWord_1 : decode cX9_takeWord 1 = .ok (.iconst 1, 1) := by decide +kernel
theorem dX9_takeWord_2 : decode cX9_takeWord 2 = .ok (.iload_n 1, 1) := by decide +kernel
theorem dX9_takeWord_3 : decode cX9_takeWord 3 = .ok (.invokestatic 156, 3) := by decide +kernel
theorem dX9_takeWord_6 : decode cX9_takeWord 6 = .ok (.ifCond .eq 7, 3) := by decide +kernel
theorem dX9_takeWord_9 : decode cX9_takeWord 9 = .ok (.iload_n 2, 1) := by decide +kernel
theorem dX9_takeWord_10 : decode cX9_takeWord 10 = .ok (.ifCond .ge 7, 3) := by decide +kernel
theorem dX9_takeWord_13 : decode cX9_takeWord 13 = .ok (.iconst 1, 1) := by decide +kernel
theorem dX9_takeWord_14 : decode cX9_takeWord 14 = .ok (.goto 4, 3) := by decide +kernel
theorem dX9_takeWord_17 : decode cX9_takeWord 17 = .ok (.iconst 0, 1) := by decide +kernel
theorem dX9_takeWord_18 : decode cX9_takeWord 18 = .ok (.invokevirtual 79, 3) := by decide +kernel
theorem dX9_takeWord_21 : decode cX9_takeWord 21 = .ok (.ifCond .eq 4, 3) := by decide +kernel
theorem dX9_takeWord_24 : decode cX9_takeWord 24 = .ok (.return_, 1) := by decide +kernel
theorem dX9_takeWord_25 : decode cX9_takeWord 25 = .ok (.aload_n 0, 1) := by decide +kernel
theorem dX9_takeWord_26 : decode cX9_takeWord 26 = .ok (.iconst 2, 1) := by decide +kernel
theorem dX9_takeWord_27 : decode cX9_takeWord 27 = .ok (.aload_n 0, 1) := by decide +kernel
theorem dX9_takeWord_28 : decode cX9_takeWord 28 = .ok (.iload_n 1, 1) := by decide +kernel
theorem dX9_takeWord_29 : decode cX9_takeWord 29 = .ok (.iload_n 2, 1) := by decide +kernel
theorem dX9_takeWord_30 : decode cX9_takeWord 30 = .ok (.invokevirtual 166, 3) := by decide +kernel
theorem dX9_takeWord_33 : decode cX9_takeWord 33 = .ok (.ifCond .ne 7, 3) := by decide +kernel
theorem dX9_takeWord_36 : decode cX9_takeWord 36 = .ok (.iconst 1, 1) := by decide +kernel
theorem dX9_takeWord_37 : decode cX9_takeWord 37 = .ok (.goto 4, 3) := by decide +kernel
theorem dX9_takeWord_40 : decode cX9_takeWord 40 = .ok (.iconst 0, 1) := by decide +kernel
theorem dX9_takeWord_41 : decode cX9_takeWord 41 = .ok (.invokevirtual 79, 3) := by decide +kernel
theorem dX9_takeWord_44 : decode cX9_takeWord 44 = .ok (.pop, 1) := by decide +kernel
theorem dX9_takeWord_45 : decode cX9_takeWord 45 = .ok (.return_, 1) := by decide +kernel
theorem dX9_drawn_0 : decode cX9_drawn 0 = .ok (.lload_n 0, 1) := by decide +kernel
theorem dX9_drawn_1 : decode cX9_drawn 1 = .ok (.ldc2_w 170, 3) := by decide +kernel
theorem dX9_drawn_4 : decode cX9_drawn 4 = .ok (.lmul, 1) := by decide +kernel
theorem dX9_drawn_5 : decode cX9_drawn 5 = .ok (.ldc2_w 172, 3) := by decide +kernel
theorem dX9_drawn_8 : decode cX9_drawn 8 = .ok (.ladd, 1) := by decide +kernel
theorem dX9_drawn_9 : decode cX9_drawn 9 = .ok (.lstore 4, 2) := by decide +kernel
theorem dX9_drawn_11 : decode cX9_drawn 11 = .ok (.lload 4, 2) := by decide +kernel
theorem dX9_drawn_13 : decode cX9_drawn 13 = .ok (.iconst 1, 1) := by decide +kernel
theorem dX9_drawn_14 : decode cX9_drawn 14 = .ok (.lushr, 1) := by decide +kernel
theorem dX9_drawn_15 : decode cX9_drawn 15 = .ok (.lload_n 2, 1) := by decide +kernel
theorem dX9_drawn_16 : decode cX9_drawn 16 = .ok (.lrem, 1) := by decide +kernel
theorem dX9_drawn_17 : decode cX9_drawn 17 = .ok (.lreturn, 1) := by decide +kernel
set_option maxRecDepth 20000 in
theorem ggX9_drawWord_X9_isListed : GoodIn wsX9_drawWord wsX9_isListed := goodIn_r _ [4, 5, 6, 3, 7] (by decide +kernel) (by decide +kernel)
set_option maxRecDepth 20000 in
theorem gX9_drawWord_X9_isListed : GoodIn wsX9_drawWord (va_wsS RX9 156 yX9_isListed wsX9_isListed) := goodIn_app (goodIn_of _ (by decide +kernel)) ggX9_drawWord_X9_isListed
set_option maxRecDepth 20000 in
theorem ggX9_drawWord_X9_fails : GoodIn wsX9_drawWord wsX9_fails := goodIn_r _ [11, 12, 63, 64, 65, 66, 67, 68, 69, 70, 71, 72, 73, 74, 75, 76, 77, 78, 79, 80, 81, 82, 83, 84, 85, 86, 87, 88, 89, 90, 91, 92] (by decide +kernel) (by decide +kernel)
set_option maxRecDepth 20000 in
theorem gX9_drawWord_X9_fails : GoodIn wsX9_drawWord (wsV RX9 79 RX9 yX9_fails wsX9_fails) := goodIn_app (goodIn_of _ (by decide +kernel)) ggX9_drawWord_X9_fails
set_option maxRecDepth 20000 in
theorem ggX9_drawWord_X9_countWords : GoodIn wsX9_drawWord wsX9_countWords := goodIn_r _ [16, 17, 18, 19, 3, 20, 21, 22, 23, 24, 25, 26, 27, 28, 29, 30, 31, 32, 33, 34, 35, 36, 37, 38, 39, 40, 41, 42, 43, 44, 45, 46, 63, 64, 65, 66, 67, 68, 69, 70, 71, 72, 73, 74, 75, 76, 77, 78, 79, 80, 81, 82, 83, 84, 85, 86, 87, 88, 89, 90, 91, 92] (by decide +kernel) (by decide +kernel)
set_option maxRecDepth 20000 in
theorem gX9_drawWord_X9_countWords : GoodIn wsX9_drawWord (wsV RX9 159 RX9 yX9_countWords wsX9_countWords) := goodIn_app (goodIn_of _ (by decide +kernel)) ggX9_drawWord_X9_countWords
set_option maxRecDepth 20000 in
theorem ggX9_drawWord_X9_drawn : GoodIn wsX9_drawWord wsX9_drawn := goodIn_r _ [49, 50, 51] (by decide +kernel) (by decide +kernel)
set_option maxRecDepth 20000 in
theorem gX9_drawWord_X9_drawn : GoodIn wsX9_drawWord (va_wsS RX9 174 yX9_drawn wsX9_drawn) := goodIn_app (goodIn_of _ (by decide +kernel)) ggX9_drawWord_X9_drawn
set_option maxRecDepth 20000 in
theorem ggX9_drawWord_X9_takeRanked : GoodIn wsX9_drawWord wsX9_takeRanked := goodIn_r _ [55, 17, 18, 19, 3, 20, 21, 22, 23, 24, 25, 26, 27, 28, 29, 30, 31, 32, 33, 34, 35, 36, 37, 38, 39, 40, 41, 42, 43, 44, 45, 46, 56, 57, 58, 59, 60, 61, 62, 63, 64, 65, 66, 67, 68, 69, 70, 71, 72, 73, 74, 75, 76, 77, 78, 79, 80, 81, 82, 83, 84, 85, 86, 87, 88, 89, 90, 91, 92] (by decide +kernel) (by decide +kernel)
set_option maxRecDepth 20000 in
theorem gX9_drawWord_X9_takeRanked : GoodIn wsX9_drawWord (wsV RX9 166 RX9 yX9_takeRanked wsX9_takeRanked) := goodIn_app (goodIn_of _ (by decide +kernel)) ggX9_drawWord_X9_takeRanked
theorem dX9_drawWord_0 : decode cX9_drawWord 0 = .ok (.aload_n 0, 1) := by decide +kernel
theorem dX9_drawWord_1 : decode cX9_drawWord 1 = .ok (.iconst 1, 1) := by decide +kernel
theorem dX9_drawWord_2 : decode cX9_drawWord 2 = .ok (.iload_n 3, 1) := by decide +kernel
theorem dX9_drawWord_3 : decode cX9_drawWord 3 = .ok (.invokestatic 156, 3) := by decide +kernel
theorem dX9_drawWord_6 : decode cX9_drawWord 6 = .ok (.ifCond .ne 7, 3) := by decide +kernel
theorem dX9_drawWord_9 : decode cX9_drawWord 9 = .ok (.iconst 1, 1) := by decide +kernel
theorem dX9_drawWord_10 : decode cX9_drawWord 10 = .ok (.goto 4, 3) := by decide +kernel
theorem dX9_drawWord_13 : decode cX9_drawWord 13 = .ok (.iconst 0, 1) := by decide +kernel
theorem dX9_drawWord_14 : decode cX9_drawWord 14 = .ok (.invokevirtual 79, 3) := by decide +kernel
theorem dX9_drawWord_17 : decode cX9_drawWord 17 = .ok (.ifCond .eq 5, 3) := by decide +kernel
theorem dX9_drawWord_20 : decode cX9_drawWord 20 = .ok (.iconst 0, 1) := by decide +kernel
theorem dX9_drawWord_21 : decode cX9_drawWord 21 = .ok (.ireturn, 1) := by decide +kernel
theorem dX9_drawWord_22 : decode cX9_drawWord 22 = .ok (.aload_n 0, 1) := by decide +kernel
theorem dX9_drawWord_23 : decode cX9_drawWord 23 = .ok (.iload_n 3, 1) := by decide +kernel
theorem dX9_drawWord_24 : decode cX9_drawWord 24 = .ok (.iconst 3, 1) := by decide +kernel
theorem dX9_drawWord_25 : decode cX9_drawWord 25 = .ok (.invokevirtual 159, 3) := by decide +kernel
theorem dX9_drawWord_28 : decode cX9_drawWord 28 = .ok (.istore 4, 2) := by decide +kernel
theorem dX9_drawWord_30 : decode cX9_drawWord 30 = .ok (.aload_n 0, 1) := by decide +kernel
theorem dX9_drawWord_31 : decode cX9_drawWord 31 = .ok (.iconst 2, 1) := by decide +kernel
theorem dX9_drawWord_32 : decode cX9_drawWord 32 = .ok (.iload 4, 2) := by decide +kernel
theorem dX9_drawWord_34 : decode cX9_drawWord 34 = .ok (.ifCond .ne 7, 3) := by decide +kernel
theorem dX9_drawWord_37 : decode cX9_drawWord 37 = .ok (.iconst 1, 1) := by decide +kernel
theorem dX9_drawWord_38 : decode cX9_drawWord 38 = .ok (.goto 4, 3) := by decide +kernel
theorem dX9_drawWord_41 : decode cX9_drawWord 41 = .ok (.iconst 0, 1) := by decide +kernel
theorem dX9_drawWord_42 : decode cX9_drawWord 42 = .ok (.invokevirtual 79, 3) := by decide +kernel
theorem dX9_drawWord_45 : decode cX9_drawWord 45 = .ok (.ifCond .eq 5, 3) := by decide +kernel
theorem dX9_drawWord_48 : decode cX9_drawWord 48 = .ok (.iconst 0, 1) := by decide +kernel
theorem dX9_drawWord_49 : decode cX9_drawWord 49 = .ok (.ireturn, 1) := by decide +kernel
theorem dX9_drawWord_50 : decode cX9_drawWord 50 = .ok (.lload_n 1, 1) := by decide +kernel
theorem dX9_drawWord_51 : decode cX9_drawWord 51 = .ok (.iload 4, 2) := by decide +kernel
theorem dX9_drawWord_53 : decode cX9_drawWord 53 = .ok (.i2l, 1) := by decide +kernel
theorem dX9_drawWord_54 : decode cX9_drawWord 54 = .ok (.invokestatic 174, 3) := by decide +kernel
theorem dX9_drawWord_57 : decode cX9_drawWord 57 = .ok (.l2i, 1) := by decide +kernel
theorem dX9_drawWord_58 : decode cX9_drawWord 58 = .ok (.istore 5, 2) := by decide +kernel
theorem dX9_drawWord_60 : decode cX9_drawWord 60 = .ok (.aload_n 0, 1) := by decide +kernel
theorem dX9_drawWord_61 : decode cX9_drawWord 61 = .ok (.iload_n 3, 1) := by decide +kernel
theorem dX9_drawWord_62 : decode cX9_drawWord 62 = .ok (.iload 5, 2) := by decide +kernel
theorem dX9_drawWord_64 : decode cX9_drawWord 64 = .ok (.invokevirtual 166, 3) := by decide +kernel
theorem dX9_drawWord_67 : decode cX9_drawWord 67 = .ok (.pop, 1) := by decide +kernel
theorem dX9_drawWord_68 : decode cX9_drawWord 68 = .ok (.iload 5, 2) := by decide +kernel
theorem dX9_drawWord_70 : decode cX9_drawWord 70 = .ok (.ireturn, 1) := by decide +kernel
set_option maxRecDepth 20000 in
theorem ggX9_treesOf_X9_treesOfPart : GoodIn wsX9_treesOf wsX9_treesOfPart := goodIn_r _ [6, 7, 8, 14, 15, 16, 17, 18, 19, 20, 21, 22, 23, 24, 25, 26, 27, 28, 29, 30, 31, 32, 33, 34, 35, 36, 37, 38, 39, 40, 41, 42, 43] (by decide +kernel) (by decide +kernel)
set_option maxRecDepth 20000 in
theorem gX9_treesOf_X9_treesOfPart : GoodIn wsX9_treesOf (wsV RX9 131 RX9 yX9_treesOfPart wsX9_treesOfPart) := goodIn_app (goodIn_of _ (by decide +kernel)) ggX9_treesOf_X9_treesOfPart
set_option maxRecDepth 20000 in
theorem ggX9_treesOf_X9_partsOfLength : GoodIn wsX9_treesOf wsX9_partsOfLength := goodIn_r _ [12, 13, 14, 15, 16, 17, 18, 19, 20, 21, 22, 23, 24, 25, 26, 27, 28, 29, 30, 31, 32, 33, 34, 35, 36, 37, 38, 39, 40, 41, 42, 43] (by decide +kernel) (by decide +kernel)
set_option maxRecDepth 20000 in
theorem gX9_treesOf_X9_partsOfLength : GoodIn wsX9_treesOf (wsV RX9 124 RX9 yX9_partsOfLength wsX9_partsOfLength) := goodIn_app (goodIn_of _ (by decide +kernel)) ggX9_treesOf_X9_partsOfLength
theorem dX9_treesOf_0 : decode cX9_treesOf 0 = .ok (.aload_n 0, 1) := by decide +kernel
theorem dX9_treesOf_1 : decode cX9_treesOf 1 = .ok (.getfield 178, 3) := by decide +kernel
theorem dX9_treesOf_4 : decode cX9_treesOf 4 = .ok (.ifCond .eq 13, 3) := by decide +kernel
theorem dX9_treesOf_7 : decode cX9_treesOf 7 = .ok (.aload_n 0, 1) := by decide +kernel
theorem dX9_treesOf_8 : decode cX9_treesOf 8 = .ok (.iload_n 1, 1) := by decide +kernel
theorem dX9_treesOf_9 : decode cX9_treesOf 9 = .ok (.iload_n 2, 1) := by decide +kernel
theorem dX9_treesOf_10 : decode cX9_treesOf 10 = .ok (.iload_n 3, 1) := by decide +kernel
theorem dX9_treesOf_11 : decode cX9_treesOf 11 = .ok (.invokevirtual 131, 3) := by decide +kernel
theorem dX9_treesOf_14 : decode cX9_treesOf 14 = .ok (.goto 9, 3) := by decide +kernel
theorem dX9_treesOf_17 : decode cX9_treesOf 17 = .ok (.aload_n 0, 1) := by decide +kernel
theorem dX9_treesOf_18 : decode cX9_treesOf 18 = .ok (.iload_n 1, 1) := by decide +kernel
theorem dX9_treesOf_19 : decode cX9_treesOf 19 = .ok (.iload_n 3, 1) := by decide +kernel
theorem dX9_treesOf_20 : decode cX9_treesOf 20 = .ok (.invokevirtual 124, 3) := by decide +kernel
theorem dX9_treesOf_23 : decode cX9_treesOf 23 = .ok (.lreturn, 1) := by decide +kernel
set_option maxRecDepth 20000 in
theorem ggX9_productOf_X9_treesOf : GoodIn wsX9_productOf wsX9_treesOf := goodIn_r _ [6, 7, 8, 9, 10, 5, 11, 12, 13, 14, 15, 16, 17, 18, 19, 20, 21, 22, 23, 24, 25, 26, 27, 28, 29, 30, 31, 32, 33, 34, 35, 36, 37, 38, 39, 40, 41, 42, 43, 44, 45, 46, 47, 48] (by decide +kernel) (by decide +kernel)
set_option maxRecDepth 20000 in
theorem gX9_productOf_X9_treesOf : GoodIn wsX9_productOf (wsV RX9 182 RX9 yX9_treesOf wsX9_treesOf) := goodIn_app (goodIn_of _ (by decide +kernel)) ggX9_productOf_X9_treesOf
theorem dX9_productOf_0 : decode cX9_productOf 0 = .ok (.aload_n 0, 1) := by decide +kernel
theorem dX9_productOf_1 : decode cX9_productOf 1 = .ok (.aload_n 0, 1) := by decide +kernel
theorem dX9_productOf_2 : decode cX9_productOf 2 = .ok (.getfield 18, 3) := by decide +kernel
theorem dX9_productOf_5 : decode cX9_productOf 5 = .ok (.iload_n 1, 1) := by decide +kernel
theorem dX9_productOf_6 : decode cX9_productOf 6 = .ok (.aaload, 1) := by decide +kernel
theorem dX9_productOf_7 : decode cX9_productOf 7 = .ok (.iconst 1, 1) := by decide +kernel
theorem dX9_productOf_8 : decode cX9_productOf 8 = .ok (.iaload, 1) := by decide +kernel
theorem dX9_productOf_9 : decode cX9_productOf 9 = .ok (.iload_n 2, 1) := by decide +kernel
theorem dX9_productOf_10 : decode cX9_productOf 10 = .ok (.iload_n 3, 1) := by decide +kernel
theorem dX9_productOf_11 : decode cX9_productOf 11 = .ok (.invokevirtual 182, 3) := by decide +kernel
theorem dX9_productOf_14 : decode cX9_productOf 14 = .ok (.lstore 6, 2) := by decide +kernel
theorem dX9_productOf_16 : decode cX9_productOf 16 = .ok (.lload 6, 2) := by decide +kernel
theorem dX9_productOf_18 : decode cX9_productOf 18 = .ok (.lconst 0, 1) := by decide +kernel
theorem dX9_productOf_19 : decode cX9_productOf 19 = .ok (.lcmp, 1) := by decide +kernel
theorem dX9_productOf_20 : decode cX9_productOf 20 = .ok (.ifCond .ne 7, 3) := by decide +kernel
theorem dX9_productOf_23 : decode cX9_productOf 23 = .ok (.lconst 0, 1) := by decide +kernel
theorem dX9_productOf_24 : decode cX9_productOf 24 = .ok (.goto 23, 3) := by decide +kernel
theorem dX9_productOf_27 : decode cX9_productOf 27 = .ok (.lload 6, 2) := by decide +kernel
theorem dX9_productOf_29 : decode cX9_productOf 29 = .ok (.aload_n 0, 1) := by decide +kernel
theorem dX9_productOf_30 : decode cX9_productOf 30 = .ok (.aload_n 0, 1) := by decide +kernel
theorem dX9_productOf_31 : decode cX9_productOf 31 = .ok (.getfield 18, 3) := by decide +kernel
theorem dX9_productOf_34 : decode cX9_productOf 34 = .ok (.iload_n 1, 1) := by decide +kernel
theorem dX9_productOf_35 : decode cX9_productOf 35 = .ok (.aaload, 1) := by decide +kernel
theorem dX9_productOf_36 : decode cX9_productOf 36 = .ok (.iconst 2, 1) := by decide +kernel
theorem dX9_productOf_37 : decode cX9_productOf 37 = .ok (.iaload, 1) := by decide +kernel
theorem dX9_productOf_38 : decode cX9_productOf 38 = .ok (.iload_n 2, 1) := by decide +kernel
theorem dX9_productOf_39 : decode cX9_productOf 39 = .ok (.iload_n 3, 1) := by decide +kernel
theorem dX9_productOf_40 : decode cX9_productOf 40 = .ok (.iadd, 1) := by decide +kernel
theorem dX9_productOf_41 : decode cX9_productOf 41 = .ok (.iload 4, 2) := by decide +kernel
theorem dX9_productOf_43 : decode cX9_productOf 43 = .ok (.invokevirtual 182, 3) := by decide +kernel
theorem dX9_productOf_46 : decode cX9_productOf 46 = .ok (.lmul, 1) := by decide +kernel
theorem dX9_productOf_47 : decode cX9_productOf 47 = .ok (.lstore 6, 2) := by decide +kernel
theorem dX9_productOf_49 : decode cX9_productOf 49 = .ok (.lload 6, 2) := by decide +kernel
theorem dX9_productOf_51 : decode cX9_productOf 51 = .ok (.lconst 0, 1) := by decide +kernel
theorem dX9_productOf_52 : decode cX9_productOf 52 = .ok (.lcmp, 1) := by decide +kernel
theorem dX9_productOf_53 : decode cX9_productOf 53 = .ok (.ifCond .ne 7, 3) := by decide +kernel
theorem dX9_productOf_56 : decode cX9_productOf 56 = .ok (.lconst 0, 1) := by decide +kernel
theorem dX9_productOf_57 : decode cX9_productOf 57 = .ok (.goto 26, 3) := by decide +kernel
theorem dX9_productOf_60 : decode cX9_productOf 60 = .ok (.lload 6, 2) := by decide +kernel
theorem dX9_productOf_62 : decode cX9_productOf 62 = .ok (.aload_n 0, 1) := by decide +kernel
theorem dX9_productOf_63 : decode cX9_productOf 63 = .ok (.aload_n 0, 1) := by decide +kernel
theorem dX9_productOf_64 : decode cX9_productOf 64 = .ok (.getfield 18, 3) := by decide +kernel
theorem dX9_productOf_67 : decode cX9_productOf 67 = .ok (.iload_n 1, 1) := by decide +kernel
theorem dX9_productOf_68 : decode cX9_productOf 68 = .ok (.aaload, 1) := by decide +kernel
theorem dX9_productOf_69 : decode cX9_productOf 69 = .ok (.iconst 3, 1) := by decide +kernel
theorem dX9_productOf_70 : decode cX9_productOf 70 = .ok (.iaload, 1) := by decide +kernel
theorem dX9_productOf_71 : decode cX9_productOf 71 = .ok (.iload_n 2, 1) := by decide +kernel
theorem dX9_productOf_72 : decode cX9_productOf 72 = .ok (.iload_n 3, 1) := by decide +kernel
theorem dX9_productOf_73 : decode cX9_productOf 73 = .ok (.iadd, 1) := by decide +kernel
theorem dX9_productOf_74 : decode cX9_productOf 74 = .ok (.iload 4, 2) := by decide +kernel
theorem dX9_productOf_76 : decode cX9_productOf 76 = .ok (.iadd, 1) := by decide +kernel
theorem dX9_productOf_77 : decode cX9_productOf 77 = .ok (.iload 5, 2) := by decide +kernel
theorem dX9_productOf_79 : decode cX9_productOf 79 = .ok (.invokevirtual 182, 3) := by decide +kernel
theorem dX9_productOf_82 : decode cX9_productOf 82 = .ok (.lmul, 1) := by decide +kernel
theorem dX9_productOf_83 : decode cX9_productOf 83 = .ok (.lreturn, 1) := by decide +kernel
set_option maxRecDepth 20000 in
theorem ggX9_build_X9_productOf : GoodIn wsX9_build wsX9_productOf := goodIn_r _ [8, 3, 9, 10, 11, 7, 12, 13, 14, 15, 16, 17, 1, 18, 19, 20, 21, 22, 23, 35, 36, 37, 38, 39, 40, 41, 42, 43, 44, 45, 46, 47, 48, 49, 50, 51, 52, 53, 54, 55, 56, 57, 58, 59, 60, 61, 62, 63, 64] (by decide +kernel) (by decide +kernel)
set_option maxRecDepth 20000 in
theorem gX9_build_X9_productOf : GoodIn wsX9_build (wsV RX9 185 RX9 yX9_productOf wsX9_productOf) := goodIn_app (goodIn_of _ (by decide +kernel)) ggX9_build_X9_productOf
set_option maxRecDepth 20000 in
theorem ggX9_build_X9_buildNode : GoodIn wsX9_build wsX9_buildNode := goodIn_r _ [27, 28, 29, 30, 31, 3, 9, 10, 11, 7, 12, 13, 14, 15, 16, 17, 1, 18, 19, 20, 21, 22, 23, 32, 33, 34, 0, 2, 4, 5, 6, 8, 24, 25, 26, 35, 36, 37, 38, 39, 40, 41, 42, 43, 44, 45, 46, 47, 48, 49, 50, 51, 52, 53, 54, 55, 56, 57, 58, 59, 60, 61, 62, 63, 64] (by decide +kernel) (by decide +kernel)
set_option maxRecDepth 20000 in
theorem gX9_build_X9_buildNode : GoodIn wsX9_build (wsV RX9 188 RX9 yX9_buildNode wsX9_buildNode) := goodIn_app (goodIn_of _ (by decide +kernel)) ggX9_build_X9_buildNode
theorem dX9_build_0 : decode cX9_build 0 = .ok (.iload_n 1, 1) := by decide +kernel
theorem dX9_build_1 : decode cX9_build 1 = .ok (.bipush 10, 2) := by decide +kernel
theorem dX9_build_3 : decode cX9_build 3 = .ok (.if_icmp .lt 14, 3) := by decide +kernel
theorem dX9_build_6 : decode cX9_build 6 = .ok (.aload_n 0, 1) := by decide +kernel
theorem dX9_build_7 : decode cX9_build 7 = .ok (.getfield 37, 3) := by decide +kernel
theorem dX9_build_10 : decode cX9_build 10 = .ok (.iload_n 2, 1) := by decide +kernel
theorem dX9_build_11 : decode cX9_build 11 = .ok (.iload_n 1, 1) := by decide +kernel
theorem dX9_build_12 : decode cX9_build 12 = .ok (.bipush 10, 2) := by decide +kernel
theorem dX9_build_14 : decode cX9_build 14 = .ok (.isub, 1) := by decide +kernel
theorem dX9_build_15 : decode cX9_build 15 = .ok (.iastore, 1) := by decide +kernel
theorem dX9_build_16 : decode cX9_build 16 = .ok (.return_, 1) := by decide +kernel
theorem dX9_build_17 : decode cX9_build 17 = .ok (.iload_n 1, 1) := by decide +kernel
theorem dX9_build_18 : decode cX9_build 18 = .ok (.ifCond .ge 4, 3) := by decide +kernel
theorem dX9_build_21 : decode cX9_build 21 = .ok (.return_, 1) := by decide +kernel
theorem dX9_build_22 : decode cX9_build 22 = .ok (.lload 4, 2) := by decide +kernel
theorem dX9_build_24 : decode cX9_build 24 = .ok (.lstore 6, 2) := by decide +kernel
theorem dX9_build_26 : decode cX9_build 26 = .ok (.iconst 0, 1) := by decide +kernel
theorem dX9_build_27 : decode cX9_build 27 = .ok (.istore 8, 2) := by decide +kernel
theorem dX9_build_29 : decode cX9_build 29 = .ok (.iload 8, 2) := by decide +kernel
theorem dX9_build_31 : decode cX9_build 31 = .ok (.aload_n 0, 1) := by decide +kernel
theorem dX9_build_32 : decode cX9_build 32 = .ok (.getfield 76, 3) := by decide +kernel
theorem dX9_build_35 : decode cX9_build 35 = .ok (.if_icmp .ge 123, 3) := by decide +kernel
theorem dX9_build_38 : decode cX9_build 38 = .ok (.iconst 0, 1) := by decide +kernel
theorem dX9_build_39 : decode cX9_build 39 = .ok (.istore 9, 2) := by decide +kernel
theorem dX9_build_41 : decode cX9_build 41 = .ok (.iload 9, 2) := by decide +kernel
theorem dX9_build_43 : decode cX9_build 43 = .ok (.iload_n 3, 1) := by decide +kernel
theorem dX9_build_44 : decode cX9_build 44 = .ok (.iconst 1, 1) := by decide +kernel
theorem dX9_build_45 : decode cX9_build 45 = .ok (.iadd, 1) := by decide +kernel
theorem dX9_build_46 : decode cX9_build 46 = .ok (.iload_n 3, 1) := by decide +kernel
theorem dX9_build_47 : decode cX9_build 47 = .ok (.iconst 1, 1) := by decide +kernel
theorem dX9_build_48 : decode cX9_build 48 = .ok (.iadd, 1) := by decide +kernel
theorem dX9_build_49 : decode cX9_build 49 = .ok (.imul, 1) := by decide +kernel
theorem dX9_build_50 : decode cX9_build 50 = .ok (.if_icmp .ge 102, 3) := by decide +kernel
theorem dX9_build_53 : decode cX9_build 53 = .ok (.aload_n 0, 1) := by decide +kernel
theorem dX9_build_54 : decode cX9_build 54 = .ok (.getfield 18, 3) := by decide +kernel
theorem dX9_build_57 : decode cX9_build 57 = .ok (.iload 8, 2) := by decide +kernel
theorem dX9_build_59 : decode cX9_build 59 = .ok (.aaload, 1) := by decide +kernel
theorem dX9_build_60 : decode cX9_build 60 = .ok (.iconst 0, 1) := by decide +kernel
theorem dX9_build_61 : decode cX9_build 61 = .ok (.iaload, 1) := by decide +kernel
theorem dX9_build_62 : decode cX9_build 62 = .ok (.iload_n 1, 1) := by decide +kernel
theorem dX9_build_63 : decode cX9_build 63 = .ok (.if_icmp .ne 89, 3) := by decide +kernel
theorem dX9_build_66 : decode cX9_build 66 = .ok (.iload 9, 2) := by decide +kernel
theorem dX9_build_68 : decode cX9_build 68 = .ok (.iload_n 3, 1) := by decide +kernel
theorem dX9_build_69 : decode cX9_build 69 = .ok (.iconst 1, 1) := by decide +kernel
theorem dX9_build_70 : decode cX9_build 70 = .ok (.iadd, 1) := by decide +kernel
theorem dX9_build_71 : decode cX9_build 71 = .ok (.idiv, 1) := by decide +kernel
theorem dX9_build_72 : decode cX9_build 72 = .ok (.istore 10, 2) := by decide +kernel
theorem dX9_build_74 : decode cX9_build 74 = .ok (.iload 9, 2) := by decide +kernel
theorem dX9_build_76 : decode cX9_build 76 = .ok (.iload_n 3, 1) := by decide +kernel
theorem dX9_build_77 : decode cX9_build 77 = .ok (.iconst 1, 1) := by decide +kernel
theorem dX9_build_78 : decode cX9_build 78 = .ok (.iadd, 1) := by decide +kernel
theorem dX9_build_79 : decode cX9_build 79 = .ok (.irem, 1) := by decide +kernel
theorem dX9_build_80 : decode cX9_build 80 = .ok (.istore 11, 2) := by decide +kernel
theorem dX9_build_82 : decode cX9_build 82 = .ok (.iload_n 3, 1) := by decide +kernel
theorem dX9_build_83 : decode cX9_build 83 = .ok (.iload 10, 2) := by decide +kernel
theorem dX9_build_85 : decode cX9_build 85 = .ok (.isub, 1) := by decide +kernel
theorem dX9_build_86 : decode cX9_build 86 = .ok (.iload 11, 2) := by decide +kernel
theorem dX9_build_88 : decode cX9_build 88 = .ok (.isub, 1) := by decide +kernel
theorem dX9_build_89 : decode cX9_build 89 = .ok (.istore 12, 2) := by decide +kernel
theorem dX9_build_91 : decode cX9_build 91 = .ok (.iload 12, 2) := by decide +kernel
theorem dX9_build_93 : decode cX9_build 93 = .ok (.ifCond .lt 19, 3) := by decide +kernel
theorem dX9_build_96 : decode cX9_build 96 = .ok (.aload_n 0, 1) := by decide +kernel
theorem dX9_build_97 : decode cX9_build 97 = .ok (.iload 8, 2) := by decide +kernel
theorem dX9_build_99 : decode cX9_build 99 = .ok (.iload_n 2, 1) := by decide +kernel
theorem dX9_build_100 : decode cX9_build 100 = .ok (.iload 10, 2) := by decide +kernel
theorem dX9_build_102 : decode cX9_build 102 = .ok (.iload 11, 2) := by decide +kernel
theorem dX9_build_104 : decode cX9_build 104 = .ok (.iload 12, 2) := by decide +kernel
theorem dX9_build_106 : decode cX9_build 106 = .ok (.invokevirtual 185, 3) := by decide +kernel
theorem dX9_build_109 : decode cX9_build 109 = .ok (.goto 4, 3) := by decide +kernel
theorem dX9_build_112 : decode cX9_build 112 = .ok (.lconst 0, 1) := by decide +kernel
theorem dX9_build_113 : decode cX9_build 113 = .ok (.lstore 13, 2) := by decide +kernel
theorem dX9_build_115 : decode cX9_build 115 = .ok (.lload 6, 2) := by decide +kernel
theorem dX9_build_117 : decode cX9_build 117 = .ok (.lload 13, 2) := by decide +kernel
theorem dX9_build_119 : decode cX9_build 119 = .ok (.lcmp, 1) := by decide +kernel
theorem dX9_build_120 : decode cX9_build 120 = .ok (.ifCond .ge 19, 3) := by decide +kernel
theorem dX9_build_123 : decode cX9_build 123 = .ok (.aload_n 0, 1) := by decide +kernel
theorem dX9_build_124 : decode cX9_build 124 = .ok (.iload 8, 2) := by decide +kernel
theorem dX9_build_126 : decode cX9_build 126 = .ok (.iload_n 2, 1) := by decide +kernel
theorem dX9_build_127 : decode cX9_build 127 = .ok (.iload 10, 2) := by decide +kernel
theorem dX9_build_129 : decode cX9_build 129 = .ok (.iload 11, 2) := by decide +kernel
theorem dX9_build_131 : decode cX9_build 131 = .ok (.iload 12, 2) := by decide +kernel
theorem dX9_build_133 : decode cX9_build 133 = .ok (.lload 6, 2) := by decide +kernel
theorem dX9_build_135 : decode cX9_build 135 = .ok (.invokevirtual 188, 3) := by decide +kernel
theorem dX9_build_138 : decode cX9_build 138 = .ok (.return_, 1) := by decide +kernel
theorem dX9_build_139 : decode cX9_build 139 = .ok (.lload 6, 2) := by decide +kernel
theorem dX9_build_141 : decode cX9_build 141 = .ok (.lload 13, 2) := by decide +kernel
theorem dX9_build_143 : decode cX9_build 143 = .ok (.lsub, 1) := by decide +kernel
theorem dX9_build_144 : decode cX9_build 144 = .ok (.lstore 6, 2) := by decide +kernel
theorem dX9_build_146 : decode cX9_build 146 = .ok (.iinc 9 1, 3) := by decide +kernel
theorem dX9_build_149 : decode cX9_build 149 = .ok (.goto (-108), 3) := by decide +kernel
theorem dX9_build_152 : decode cX9_build 152 = .ok (.iinc 8 1, 3) := by decide +kernel
theorem dX9_build_155 : decode cX9_build 155 = .ok (.goto (-126), 3) := by decide +kernel
theorem dX9_build_158 : decode cX9_build 158 = .ok (.return_, 1) := by decide +kernel
set_option maxRecDepth 20000 in
theorem ggX9_buildNode_X9_treesOf : GoodIn wsX9_buildNode wsX9_treesOf := goodIn_r _ [10, 11, 12, 13, 14, 9, 15, 16, 17, 18, 19, 20, 21, 22, 35, 36, 37, 38, 39, 40, 41, 42, 43, 44, 45, 46, 47, 48, 49, 50, 51, 52, 53, 54, 55, 56, 57, 58, 59, 60, 61, 62, 63, 64] (by decide +kernel) (by decide +kernel)
set_option maxRecDepth 20000 in
theorem gX9_buildNode_X9_treesOf : GoodIn wsX9_buildNode (wsV RX9 182 RX9 yX9_treesOf wsX9_treesOf) := goodIn_app (goodIn_of _ (by decide +kernel)) ggX9_buildNode_X9_treesOf
set_option maxRecDepth 20000 in
theorem ggX9_buildNode_X9_build : GoodIn wsX9_buildNode wsX9_build := goodIn_r _ [26, 16, 27, 5, 28, 29, 30, 9, 31, 6, 7, 8, 10, 11, 12, 13, 14, 15, 17, 18, 19, 20, 21, 22, 32, 33, 34, 0, 1, 2, 3, 4, 23, 24, 25, 35, 36, 37, 38, 39, 40, 41, 42, 43, 44, 45, 46, 47, 48, 49, 50, 51, 52, 53, 54, 55, 56, 57, 58, 59, 60, 61, 62, 63, 64] (by decide +kernel) (by decide +kernel)
set_option maxRecDepth 20000 in
theorem gX9_buildNode_X9_build : GoodIn wsX9_buildNode (wsV RX9 192 RX9 yX9_build wsX9_build) := goodIn_app (goodIn_of _ (by decide +kernel)) ggX9_buildNode_X9_build
theorem dX9_buildNode_0 : decode cX9_buildNode 0 = .ok (.aload_n 0, 1) := by decide +kernel
theorem dX9_buildNode_1 : decode cX9_buildNode 1 = .ok (.getfield 45, 3) := by decide +kernel
theorem dX9_buildNode_4 : decode cX9_buildNode 4 = .ok (.aload_n 0, 1) := by decide +kernel
theorem dX9_buildNode_5 : decode cX9_buildNode 5 = .ok (.getfield 89, 3) := by decide +kernel
theorem dX9_buildNode_8 : decode cX9_buildNode 8 = .ok (.iload_n 1, 1) := by decide +kernel
theorem dX9_buildNode_9 : decode cX9_buildNode 9 = .ok (.iastore, 1) := by decide +kernel
theorem dX9_buildNode_10 : decode cX9_buildNode 10 = .ok (.aload_n 0, 1) := by decide +kernel
theorem dX9_buildNode_11 : decode cX9_buildNode 11 = .ok (.getfield 48, 3) := by decide +kernel
theorem dX9_buildNode_14 : decode cX9_buildNode 14 = .ok (.aload_n 0, 1) := by decide +kernel
theorem dX9_buildNode_15 : decode cX9_buildNode 15 = .ok (.getfield 89, 3) := by decide +kernel
theorem dX9_buildNode_18 : decode cX9_buildNode 18 = .ok (.iload_n 2, 1) := by decide +kernel
theorem dX9_buildNode_19 : decode cX9_buildNode 19 = .ok (.iastore, 1) := by decide +kernel
theorem dX9_buildNode_20 : decode cX9_buildNode 20 = .ok (.aload_n 0, 1) := by decide +kernel
theorem dX9_buildNode_21 : decode cX9_buildNode 21 = .ok (.getfield 51, 3) := by decide +kernel
theorem dX9_buildNode_24 : decode cX9_buildNode 24 = .ok (.aload_n 0, 1) := by decide +kernel
theorem dX9_buildNode_25 : decode cX9_buildNode 25 = .ok (.getfield 89, 3) := by decide +kernel
theorem dX9_buildNode_28 : decode cX9_buildNode 28 = .ok (.iload_n 3, 1) := by decide +kernel
theorem dX9_buildNode_29 : decode cX9_buildNode 29 = .ok (.iload 4, 2) := by decide +kernel
theorem dX9_buildNode_31 : decode cX9_buildNode 31 = .ok (.iadd, 1) := by decide +kernel
theorem dX9_buildNode_32 : decode cX9_buildNode 32 = .ok (.iload 5, 2) := by decide +kernel
theorem dX9_buildNode_34 : decode cX9_buildNode 34 = .ok (.iadd, 1) := by decide +kernel
theorem dX9_buildNode_35 : decode cX9_buildNode 35 = .ok (.iastore, 1) := by decide +kernel
theorem dX9_buildNode_36 : decode cX9_buildNode 36 = .ok (.aload_n 0, 1) := by decide +kernel
theorem dX9_buildNode_37 : decode cX9_buildNode 37 = .ok (.dup, 1) := by decide +kernel
theorem dX9_buildNode_38 : decode cX9_buildNode 38 = .ok (.getfield 89, 3) := by decide +kernel
theorem dX9_buildNode_41 : decode cX9_buildNode 41 = .ok (.iconst 1, 1) := by decide +kernel
theorem dX9_buildNode_42 : decode cX9_buildNode 42 = .ok (.iadd, 1) := by decide +kernel
theorem dX9_buildNode_43 : decode cX9_buildNode 43 = .ok (.putfield 89, 3) := by decide +kernel
theorem dX9_buildNode_46 : decode cX9_buildNode 46 = .ok (.aload_n 0, 1) := by decide +kernel
theorem dX9_buildNode_47 : decode cX9_buildNode 47 = .ok (.aload_n 0, 1) := by decide +kernel
theorem dX9_buildNode_48 : decode cX9_buildNode 48 = .ok (.getfield 18, 3) := by decide +kernel
theorem dX9_buildNode_51 : decode cX9_buildNode 51 = .ok (.iload_n 1, 1) := by decide +kernel
theorem dX9_buildNode_52 : decode cX9_buildNode 52 = .ok (.aaload, 1) := by decide +kernel
theorem dX9_buildNode_53 : decode cX9_buildNode 53 = .ok (.iconst 3, 1) := by decide +kernel
theorem dX9_buildNode_54 : decode cX9_buildNode 54 = .ok (.iaload, 1) := by decide +kernel
theorem dX9_buildNode_55 : decode cX9_buildNode 55 = .ok (.iload_n 2, 1) := by decide +kernel
theorem dX9_buildNode_56 : decode cX9_buildNode 56 = .ok (.iload_n 3, 1) := by decide +kernel
theorem dX9_buildNode_57 : decode cX9_buildNode 57 = .ok (.iadd, 1) := by decide +kernel
theorem dX9_buildNode_58 : decode cX9_buildNode 58 = .ok (.iload 4, 2) := by decide +kernel
theorem dX9_buildNode_60 : decode cX9_buildNode 60 = .ok (.iadd, 1) := by decide +kernel
theorem dX9_buildNode_61 : decode cX9_buildNode 61 = .ok (.iload 5, 2) := by decide +kernel
theorem dX9_buildNode_63 : decode cX9_buildNode 63 = .ok (.invokevirtual 182, 3) := by decide +kernel
theorem dX9_buildNode_66 : decode cX9_buildNode 66 = .ok (.lstore 8, 2) := by decide +kernel
theorem dX9_buildNode_68 : decode cX9_buildNode 68 = .ok (.lload 8, 2) := by decide +kernel
theorem dX9_buildNode_70 : decode cX9_buildNode 70 = .ok (.aload_n 0, 1) := by decide +kernel
theorem dX9_buildNode_71 : decode cX9_buildNode 71 = .ok (.aload_n 0, 1) := by decide +kernel
theorem dX9_buildNode_72 : decode cX9_buildNode 72 = .ok (.getfield 18, 3) := by decide +kernel
theorem dX9_buildNode_75 : decode cX9_buildNode 75 = .ok (.iload_n 1, 1) := by decide +kernel
theorem dX9_buildNode_76 : decode cX9_buildNode 76 = .ok (.aaload, 1) := by decide +kernel
theorem dX9_buildNode_77 : decode cX9_buildNode 77 = .ok (.iconst 2, 1) := by decide +kernel
theorem dX9_buildNode_78 : decode cX9_buildNode 78 = .ok (.iaload, 1) := by decide +kernel
theorem dX9_buildNode_79 : decode cX9_buildNode 79 = .ok (.iload_n 2, 1) := by decide +kernel
theorem dX9_buildNode_80 : decode cX9_buildNode 80 = .ok (.iload_n 3, 1) := by decide +kernel
theorem dX9_buildNode_81 : decode cX9_buildNode 81 = .ok (.iadd, 1) := by decide +kernel
theorem dX9_buildNode_82 : decode cX9_buildNode 82 = .ok (.iload 4, 2) := by decide +kernel
theorem dX9_buildNode_84 : decode cX9_buildNode 84 = .ok (.invokevirtual 182, 3) := by decide +kernel
theorem dX9_buildNode_87 : decode cX9_buildNode 87 = .ok (.lmul, 1) := by decide +kernel
theorem dX9_buildNode_88 : decode cX9_buildNode 88 = .ok (.lstore 10, 2) := by decide +kernel
theorem dX9_buildNode_90 : decode cX9_buildNode 90 = .ok (.aload_n 0, 1) := by decide +kernel
theorem dX9_buildNode_91 : decode cX9_buildNode 91 = .ok (.aload_n 0, 1) := by decide +kernel
theorem dX9_buildNode_92 : decode cX9_buildNode 92 = .ok (.getfield 18, 3) := by decide +kernel
theorem dX9_buildNode_95 : decode cX9_buildNode 95 = .ok (.iload_n 1, 1) := by decide +kernel
theorem dX9_buildNode_96 : decode cX9_buildNode 96 = .ok (.aaload, 1) := by decide +kernel
theorem dX9_buildNode_97 : decode cX9_buildNode 97 = .ok (.iconst 1, 1) := by decide +kernel
theorem dX9_buildNode_98 : decode cX9_buildNode 98 = .ok (.iaload, 1) := by decide +kernel
theorem dX9_buildNode_99 : decode cX9_buildNode 99 = .ok (.iload_n 2, 1) := by decide +kernel
theorem dX9_buildNode_100 : decode cX9_buildNode 100 = .ok (.iload_n 3, 1) := by decide +kernel
theorem dX9_buildNode_101 : decode cX9_buildNode 101 = .ok (.lload 6, 2) := by decide +kernel
theorem dX9_buildNode_103 : decode cX9_buildNode 103 = .ok (.lload 10, 2) := by decide +kernel
theorem dX9_buildNode_105 : decode cX9_buildNode 105 = .ok (.ldiv, 1) := by decide +kernel
theorem dX9_buildNode_106 : decode cX9_buildNode 106 = .ok (.invokevirtual 192, 3) := by decide +kernel
theorem dX9_buildNode_109 : decode cX9_buildNode 109 = .ok (.aload_n 0, 1) := by decide +kernel
theorem dX9_buildNode_110 : decode cX9_buildNode 110 = .ok (.aload_n 0, 1) := by decide +kernel
theorem dX9_buildNode_111 : decode cX9_buildNode 111 = .ok (.getfield 18, 3) := by decide +kernel
theorem dX9_buildNode_114 : decode cX9_buildNode 114 = .ok (.iload_n 1, 1) := by decide +kernel
theorem dX9_buildNode_115 : decode cX9_buildNode 115 = .ok (.aaload, 1) := by decide +kernel
theorem dX9_buildNode_116 : decode cX9_buildNode 116 = .ok (.iconst 2, 1) := by decide +kernel
theorem dX9_buildNode_117 : decode cX9_buildNode 117 = .ok (.iaload, 1) := by decide +kernel
theorem dX9_buildNode_118 : decode cX9_buildNode 118 = .ok (.iload_n 2, 1) := by decide +kernel
theorem dX9_buildNode_119 : decode cX9_buildNode 119 = .ok (.iload_n 3, 1) := by decide +kernel
theorem dX9_buildNode_120 : decode cX9_buildNode 120 = .ok (.iadd, 1) := by decide +kernel
theorem dX9_buildNode_121 : decode cX9_buildNode 121 = .ok (.iload 4, 2) := by decide +kernel
theorem dX9_buildNode_123 : decode cX9_buildNode 123 = .ok (.lload 6, 2) := by decide +kernel
theorem dX9_buildNode_125 : decode cX9_buildNode 125 = .ok (.lload 10, 2) := by decide +kernel
theorem dX9_buildNode_127 : decode cX9_buildNode 127 = .ok (.lrem, 1) := by decide +kernel
theorem dX9_buildNode_128 : decode cX9_buildNode 128 = .ok (.lload 8, 2) := by decide +kernel
theorem dX9_buildNode_130 : decode cX9_buildNode 130 = .ok (.ldiv, 1) := by decide +kernel
theorem dX9_buildNode_131 : decode cX9_buildNode 131 = .ok (.invokevirtual 192, 3) := by decide +kernel
theorem dX9_buildNode_134 : decode cX9_buildNode 134 = .ok (.aload_n 0, 1) := by decide +kernel
theorem dX9_buildNode_135 : decode cX9_buildNode 135 = .ok (.aload_n 0, 1) := by decide +kernel
theorem dX9_buildNode_136 : decode cX9_buildNode 136 = .ok (.getfield 18, 3) := by decide +kernel
theorem dX9_buildNode_139 : decode cX9_buildNode 139 = .ok (.iload_n 1, 1) := by decide +kernel
theorem dX9_buildNode_140 : decode cX9_buildNode 140 = .ok (.aaload, 1) := by decide +kernel
theorem dX9_buildNode_141 : decode cX9_buildNode 141 = .ok (.iconst 3, 1) := by decide +kernel
theorem dX9_buildNode_142 : decode cX9_buildNode 142 = .ok (.iaload, 1) := by decide +kernel
theorem dX9_buildNode_143 : decode cX9_buildNode 143 = .ok (.iload_n 2, 1) := by decide +kernel
theorem dX9_buildNode_144 : decode cX9_buildNode 144 = .ok (.iload_n 3, 1) := by decide +kernel
theorem dX9_buildNode_145 : decode cX9_buildNode 145 = .ok (.iadd, 1) := by decide +kernel
theorem dX9_buildNode_146 : decode cX9_buildNode 146 = .ok (.iload 4, 2) := by decide +kernel
theorem dX9_buildNode_148 : decode cX9_buildNode 148 = .ok (.iadd, 1) := by decide +kernel
theorem dX9_buildNode_149 : decode cX9_buildNode 149 = .ok (.iload 5, 2) := by decide +kernel
theorem dX9_buildNode_151 : decode cX9_buildNode 151 = .ok (.lload 6, 2) := by decide +kernel
theorem dX9_buildNode_153 : decode cX9_buildNode 153 = .ok (.lload 8, 2) := by decide +kernel
theorem dX9_buildNode_155 : decode cX9_buildNode 155 = .ok (.lrem, 1) := by decide +kernel
theorem dX9_buildNode_156 : decode cX9_buildNode 156 = .ok (.invokevirtual 192, 3) := by decide +kernel
theorem dX9_buildNode_159 : decode cX9_buildNode 159 = .ok (.return_, 1) := by decide +kernel
set_option maxRecDepth 20000 in
theorem ggX9_drawTree_X9_isBetween : GoodIn wsX9_drawTree wsX9_isBetween := goodIn_r _ [8] (by decide +kernel) (by decide +kernel)
set_option maxRecDepth 20000 in
theorem gX9_drawTree_X9_isBetween : GoodIn wsX9_drawTree (va_wsS RX9 72 yX9_isBetween wsX9_isBetween) := goodIn_app (goodIn_of _ (by decide +kernel)) ggX9_drawTree_X9_isBetween
set_option maxRecDepth 20000 in
theorem ggX9_drawTree_X9_fails : GoodIn wsX9_drawTree wsX9_fails := goodIn_r _ [12, 13, 64, 65, 66, 67, 68, 69, 70, 71, 72, 73, 74, 75, 76, 77, 78, 79, 80, 81, 82, 83, 84, 85, 86, 87, 88, 89, 90, 91, 92, 93] (by decide +kernel) (by decide +kernel)
set_option maxRecDepth 20000 in
theorem gX9_drawTree_X9_fails : GoodIn wsX9_drawTree (wsV RX9 79 RX9 yX9_fails wsX9_fails) := goodIn_app (goodIn_of _ (by decide +kernel)) ggX9_drawTree_X9_fails
set_option maxRecDepth 20000 in
theorem ggX9_drawTree_X9_countByLength : GoodIn wsX9_drawTree wsX9_countByLength := goodIn_r _ [17, 1, 18, 19, 20, 21, 22, 7, 23, 24, 25, 26, 27, 64, 65, 66, 67, 68, 69, 70, 71, 72, 73, 74, 75, 76, 77, 78, 79, 80, 81, 82, 83, 84, 85, 86, 87, 88, 89, 90, 91, 92, 93] (by decide +kernel) (by decide +kernel)
set_option maxRecDepth 20000 in
theorem gX9_drawTree_X9_countByLength : GoodIn wsX9_drawTree (wsV RX9 128 RX9 yX9_countByLength wsX9_countByLength) := goodIn_app (goodIn_of _ (by decide +kernel)) ggX9_drawTree_X9_countByLength
set_option maxRecDepth 20000 in
theorem ggX9_drawTree_X9_drawn : GoodIn wsX9_drawTree wsX9_drawn := goodIn_r _ [30, 31, 32] (by decide +kernel) (by decide +kernel)
set_option maxRecDepth 20000 in
theorem gX9_drawTree_X9_drawn : GoodIn wsX9_drawTree (va_wsS RX9 174 yX9_drawn wsX9_drawn) := goodIn_app (goodIn_of _ (by decide +kernel)) ggX9_drawTree_X9_drawn
set_option maxRecDepth 20000 in
theorem ggX9_drawTree_X9_build : GoodIn wsX9_drawTree wsX9_build := goodIn_r _ [36, 37, 18, 19, 38, 39, 40, 7, 41, 42, 43, 44, 45, 3, 46, 47, 48, 49, 50, 24, 25, 26, 27, 1, 51, 52, 53, 54, 55, 4, 56, 57, 33, 34, 35, 64, 65, 66, 67, 68, 69, 70, 71, 72, 73, 74, 75, 76, 77, 78, 79, 80, 81, 82, 83, 84, 85, 86, 87, 88, 89, 90, 91, 92, 93] (by decide +kernel) (by decide +kernel)
set_option maxRecDepth 20000 in
theorem gX9_drawTree_X9_build : GoodIn wsX9_drawTree (wsV RX9 192 RX9 yX9_build wsX9_build) := goodIn_app (goodIn_of _ (by decide +kernel)) ggX9_drawTree_X9_build
set_option maxRecDepth 20000 in
theorem ggX9_drawTree_X9_take : GoodIn wsX9_drawTree wsX9_take := goodIn_r _ [61, 62, 37, 63, 4, 64, 65, 66, 67, 68, 69, 70, 71, 72, 73, 74, 75, 76, 77, 78, 79, 80, 81, 82, 83, 84, 85, 86, 87, 88, 89, 90, 91, 92, 93] (by decide +kernel) (by decide +kernel)
set_option maxRecDepth 20000 in
theorem gX9_drawTree_X9_take : GoodIn wsX9_drawTree (wsV RX9 163 RX9 yX9_take wsX9_take) := goodIn_app (goodIn_of _ (by decide +kernel)) ggX9_drawTree_X9_take
theorem dX9_drawTree_0 : decode cX9_drawTree 0 = .ok (.aload_n 0, 1) := by decide +kernel
theorem dX9_drawTree_1 : decode cX9_drawTree 1 = .ok (.iconst 1, 1) := by decide +kernel
theorem dX9_drawTree_2 : decode cX9_drawTree 2 = .ok (.iload_n 3, 1) := by decide +kernel
theorem dX9_drawTree_3 : decode cX9_drawTree 3 = .ok (.iconst 1, 1) := by decide +kernel
theorem dX9_drawTree_4 : decode cX9_drawTree 4 = .ok (.bipush 8, 2) := by decide +kernel
theorem dX9_drawTree_6 : decode cX9_drawTree 6 = .ok (.invokestatic 72, 3) := by decide +kernel
theorem dX9_drawTree_9 : decode cX9_drawTree 9 = .ok (.ifCond .ne 7, 3) := by decide +kernel
theorem dX9_drawTree_12 : decode cX9_drawTree 12 = .ok (.iconst 1, 1) := by decide +kernel
theorem dX9_drawTree_13 : decode cX9_drawTree 13 = .ok (.goto 4, 3) := by decide +kernel
theorem dX9_drawTree_16 : decode cX9_drawTree 16 = .ok (.iconst 0, 1) := by decide +kernel
theorem dX9_drawTree_17 : decode cX9_drawTree 17 = .ok (.invokevirtual 79, 3) := by decide +kernel
theorem dX9_drawTree_20 : decode cX9_drawTree 20 = .ok (.ifCond .eq 5, 3) := by decide +kernel
theorem dX9_drawTree_23 : decode cX9_drawTree 23 = .ok (.lconst 0, 1) := by decide +kernel
theorem dX9_drawTree_24 : decode cX9_drawTree 24 = .ok (.lreturn, 1) := by decide +kernel
theorem dX9_drawTree_25 : decode cX9_drawTree 25 = .ok (.aload_n 0, 1) := by decide +kernel
theorem dX9_drawTree_26 : decode cX9_drawTree 26 = .ok (.invokevirtual 128, 3) := by decide +kernel
theorem dX9_drawTree_29 : decode cX9_drawTree 29 = .ok (.aload_n 0, 1) := by decide +kernel
theorem dX9_drawTree_30 : decode cX9_drawTree 30 = .ok (.iconst 2, 1) := by decide +kernel
theorem dX9_drawTree_31 : decode cX9_drawTree 31 = .ok (.aload_n 0, 1) := by decide +kernel
theorem dX9_drawTree_32 : decode cX9_drawTree 32 = .ok (.getfield 34, 3) := by decide +kernel
theorem dX9_drawTree_35 : decode cX9_drawTree 35 = .ok (.aload_n 0, 1) := by decide +kernel
theorem dX9_drawTree_36 : decode cX9_drawTree 36 = .ok (.getfield 83, 3) := by decide +kernel
theorem dX9_drawTree_39 : decode cX9_drawTree 39 = .ok (.aaload, 1) := by decide +kernel
theorem dX9_drawTree_40 : decode cX9_drawTree 40 = .ok (.iload_n 3, 1) := by decide +kernel
theorem dX9_drawTree_41 : decode cX9_drawTree 41 = .ok (.laload, 1) := by decide +kernel
theorem dX9_drawTree_42 : decode cX9_drawTree 42 = .ok (.lconst 0, 1) := by decide +kernel
theorem dX9_drawTree_43 : decode cX9_drawTree 43 = .ok (.lcmp, 1) := by decide +kernel
theorem dX9_drawTree_44 : decode cX9_drawTree 44 = .ok (.ifCond .ne 7, 3) := by decide +kernel
theorem dX9_drawTree_47 : decode cX9_drawTree 47 = .ok (.iconst 1, 1) := by decide +kernel
theorem dX9_drawTree_48 : decode cX9_drawTree 48 = .ok (.goto 4, 3) := by decide +kernel
theorem dX9_drawTree_51 : decode cX9_drawTree 51 = .ok (.iconst 0, 1) := by decide +kernel
theorem dX9_drawTree_52 : decode cX9_drawTree 52 = .ok (.invokevirtual 79, 3) := by decide +kernel
theorem dX9_drawTree_55 : decode cX9_drawTree 55 = .ok (.ifCond .eq 5, 3) := by decide +kernel
theorem dX9_drawTree_58 : decode cX9_drawTree 58 = .ok (.lconst 0, 1) := by decide +kernel
theorem dX9_drawTree_59 : decode cX9_drawTree 59 = .ok (.lreturn, 1) := by decide +kernel
theorem dX9_drawTree_60 : decode cX9_drawTree 60 = .ok (.lload_n 1, 1) := by decide +kernel
theorem dX9_drawTree_61 : decode cX9_drawTree 61 = .ok (.aload_n 0, 1) := by decide +kernel
theorem dX9_drawTree_62 : decode cX9_drawTree 62 = .ok (.getfield 34, 3) := by decide +kernel
theorem dX9_drawTree_65 : decode cX9_drawTree 65 = .ok (.aload_n 0, 1) := by decide +kernel
theorem dX9_drawTree_66 : decode cX9_drawTree 66 = .ok (.getfield 83, 3) := by decide +kernel
theorem dX9_drawTree_69 : decode cX9_drawTree 69 = .ok (.aaload, 1) := by decide +kernel
theorem dX9_drawTree_70 : decode cX9_drawTree 70 = .ok (.iload_n 3, 1) := by decide +kernel
theorem dX9_drawTree_71 : decode cX9_drawTree 71 = .ok (.laload, 1) := by decide +kernel
theorem dX9_drawTree_72 : decode cX9_drawTree 72 = .ok (.invokestatic 174, 3) := by decide +kernel
theorem dX9_drawTree_75 : decode cX9_drawTree 75 = .ok (.lstore 4, 2) := by decide +kernel
theorem dX9_drawTree_77 : decode cX9_drawTree 77 = .ok (.aload_n 0, 1) := by decide +kernel
theorem dX9_drawTree_78 : decode cX9_drawTree 78 = .ok (.iconst 0, 1) := by decide +kernel
theorem dX9_drawTree_79 : decode cX9_drawTree 79 = .ok (.putfield 178, 3) := by decide +kernel
theorem dX9_drawTree_82 : decode cX9_drawTree 82 = .ok (.aload_n 0, 1) := by decide +kernel
theorem dX9_drawTree_83 : decode cX9_drawTree 83 = .ok (.iconst 0, 1) := by decide +kernel
theorem dX9_drawTree_84 : decode cX9_drawTree 84 = .ok (.putfield 89, 3) := by decide +kernel
theorem dX9_drawTree_87 : decode cX9_drawTree 87 = .ok (.aload_n 0, 1) := by decide +kernel
theorem dX9_drawTree_88 : decode cX9_drawTree 88 = .ok (.aload_n 0, 1) := by decide +kernel
theorem dX9_drawTree_89 : decode cX9_drawTree 89 = .ok (.getfield 83, 3) := by decide +kernel
theorem dX9_drawTree_92 : decode cX9_drawTree 92 = .ok (.iconst 0, 1) := by decide +kernel
theorem dX9_drawTree_93 : decode cX9_drawTree 93 = .ok (.iload_n 3, 1) := by decide +kernel
theorem dX9_drawTree_94 : decode cX9_drawTree 94 = .ok (.lload 4, 2) := by decide +kernel
theorem dX9_drawTree_96 : decode cX9_drawTree 96 = .ok (.invokevirtual 192, 3) := by decide +kernel
theorem dX9_drawTree_99 : decode cX9_drawTree 99 = .ok (.aload_n 0, 1) := by decide +kernel
theorem dX9_drawTree_100 : decode cX9_drawTree 100 = .ok (.getfield 89, 3) := by decide +kernel
theorem dX9_drawTree_103 : decode cX9_drawTree 103 = .ok (.istore 6, 2) := by decide +kernel
theorem dX9_drawTree_105 : decode cX9_drawTree 105 = .ok (.aload_n 0, 1) := by decide +kernel
theorem dX9_drawTree_106 : decode cX9_drawTree 106 = .ok (.iload_n 3, 1) := by decide +kernel
theorem dX9_drawTree_107 : decode cX9_drawTree 107 = .ok (.invokevirtual 163, 3) := by decide +kernel
theorem dX9_drawTree_110 : decode cX9_drawTree 110 = .ok (.aload_n 0, 1) := by decide +kernel
theorem dX9_drawTree_111 : decode cX9_drawTree 111 = .ok (.iload 6, 2) := by decide +kernel
theorem dX9_drawTree_113 : decode cX9_drawTree 113 = .ok (.putfield 89, 3) := by decide +kernel
theorem dX9_drawTree_116 : decode cX9_drawTree 116 = .ok (.lload 4, 2) := by decide +kernel
theorem dX9_drawTree_118 : decode cX9_drawTree 118 = .ok (.lreturn, 1) := by decide +kernel
set_option maxRecDepth 20000 in
theorem ggX9_takeTree_X9_countCurrent : GoodIn wsX9_takeTree wsX9_countCurrent := goodIn_r _ [9, 4, 10, 11, 12, 13, 14, 8, 15, 16, 17, 18, 3, 19, 20, 21, 22, 23, 24, 25, 26, 27, 28, 29, 30, 60, 61, 62, 63, 64, 65, 66, 67, 68, 69, 70, 71, 72, 73, 74, 75, 76, 77, 78, 79, 80, 81, 82, 83, 84, 85, 86, 87, 88, 89] (by decide +kernel) (by decide +kernel)
set_option maxRecDepth 20000 in
theorem gX9_takeTree_X9_countCurrent : GoodIn wsX9_takeTree (wsV RX9 146 RX9 yX9_countCurrent wsX9_countCurrent) := goodIn_app (goodIn_of _ (by decide +kernel)) ggX9_takeTree_X9_countCurrent
set_option maxRecDepth 20000 in
theorem ggX9_takeTree_X9_fails : GoodIn wsX9_takeTree wsX9_fails := goodIn_r _ [34, 35, 60, 61, 62, 63, 64, 65, 66, 67, 68, 69, 70, 71, 72, 73, 74, 75, 76, 77, 78, 79, 80, 81, 82, 83, 84, 85, 86, 87, 88, 89] (by decide +kernel) (by decide +kernel)
set_option maxRecDepth 20000 in
theorem gX9_takeTree_X9_fails : GoodIn wsX9_takeTree (wsV RX9 79 RX9 yX9_fails wsX9_fails) := goodIn_app (goodIn_of _ (by decide +kernel)) ggX9_takeTree_X9_fails
set_option maxRecDepth 20000 in
theorem ggX9_takeTree_X9_build : GoodIn wsX9_takeTree wsX9_build := goodIn_r _ [39, 10, 17, 18, 40, 41, 42, 8, 43, 44, 45, 46, 47, 1, 27, 28, 29, 30, 16, 48, 49, 50, 51, 52, 53, 54, 55, 56, 57, 2, 58, 59, 36, 37, 38, 60, 61, 62, 63, 64, 65, 66, 67, 68, 69, 70, 71, 72, 73, 74, 75, 76, 77, 78, 79, 80, 81, 82, 83, 84, 85, 86, 87, 88, 89] (by decide +kernel) (by decide +kernel)
set_option maxRecDepth 20000 in
theorem gX9_takeTree_X9_build : GoodIn wsX9_takeTree (wsV RX9 192 RX9 yX9_build wsX9_build) := goodIn_app (goodIn_of _ (by decide +kernel)) ggX9_takeTree_X9_build
theorem dX9_takeTree_0 : decode cX9_takeTree 0 = .ok (.aload_n 0, 1) := by decide +kernel
theorem dX9_takeTree_1 : decode cX9_takeTree 1 = .ok (.invokevirtual 146, 3) := by decide +kernel
theorem dX9_takeTree_4 : decode cX9_takeTree 4 = .ok (.lstore_n 3, 1) := by decide +kernel
theorem dX9_takeTree_5 : decode cX9_takeTree 5 = .ok (.aload_n 0, 1) := by decide +kernel
theorem dX9_takeTree_6 : decode cX9_takeTree 6 = .ok (.iconst 1, 1) := by decide +kernel
theorem dX9_takeTree_7 : decode cX9_takeTree 7 = .ok (.lload_n 1, 1) := by decide +kernel
theorem dX9_takeTree_8 : decode cX9_takeTree 8 = .ok (.lconst 0, 1) := by decide +kernel
theorem dX9_takeTree_9 : decode cX9_takeTree 9 = .ok (.lcmp, 1) := by decide +kernel
theorem dX9_takeTree_10 : decode cX9_takeTree 10 = .ok (.ifCond .lt 9, 3) := by decide +kernel
theorem dX9_takeTree_13 : decode cX9_takeTree 13 = .ok (.lload_n 1, 1) := by decide +kernel
theorem dX9_takeTree_14 : decode cX9_takeTree 14 = .ok (.lload_n 3, 1) := by decide +kernel
theorem dX9_takeTree_15 : decode cX9_takeTree 15 = .ok (.lcmp, 1) := by decide +kernel
theorem dX9_takeTree_16 : decode cX9_takeTree 16 = .ok (.ifCond .lt 7, 3) := by decide +kernel
theorem dX9_takeTree_19 : decode cX9_takeTree 19 = .ok (.iconst 1, 1) := by decide +kernel
theorem dX9_takeTree_20 : decode cX9_takeTree 20 = .ok (.goto 4, 3) := by decide +kernel
theorem dX9_takeTree_23 : decode cX9_takeTree 23 = .ok (.iconst 0, 1) := by decide +kernel
theorem dX9_takeTree_24 : decode cX9_takeTree 24 = .ok (.invokevirtual 79, 3) := by decide +kernel
theorem dX9_takeTree_27 : decode cX9_takeTree 27 = .ok (.ifCond .eq 5, 3) := by decide +kernel
theorem dX9_takeTree_30 : decode cX9_takeTree 30 = .ok (.iconst 0, 1) := by decide +kernel
theorem dX9_takeTree_31 : decode cX9_takeTree 31 = .ok (.ireturn, 1) := by decide +kernel
theorem dX9_takeTree_32 : decode cX9_takeTree 32 = .ok (.aload_n 0, 1) := by decide +kernel
theorem dX9_takeTree_33 : decode cX9_takeTree 33 = .ok (.iconst 1, 1) := by decide +kernel
theorem dX9_takeTree_34 : decode cX9_takeTree 34 = .ok (.putfield 178, 3) := by decide +kernel
theorem dX9_takeTree_37 : decode cX9_takeTree 37 = .ok (.aload_n 0, 1) := by decide +kernel
theorem dX9_takeTree_38 : decode cX9_takeTree 38 = .ok (.iconst 0, 1) := by decide +kernel
theorem dX9_takeTree_39 : decode cX9_takeTree 39 = .ok (.putfield 89, 3) := by decide +kernel
theorem dX9_takeTree_42 : decode cX9_takeTree 42 = .ok (.aload_n 0, 1) := by decide +kernel
theorem dX9_takeTree_43 : decode cX9_takeTree 43 = .ok (.aload_n 0, 1) := by decide +kernel
theorem dX9_takeTree_44 : decode cX9_takeTree 44 = .ok (.getfield 83, 3) := by decide +kernel
theorem dX9_takeTree_47 : decode cX9_takeTree 47 = .ok (.iconst 0, 1) := by decide +kernel
theorem dX9_takeTree_48 : decode cX9_takeTree 48 = .ok (.aload_n 0, 1) := by decide +kernel
theorem dX9_takeTree_49 : decode cX9_takeTree 49 = .ok (.getfield 86, 3) := by decide +kernel
theorem dX9_takeTree_52 : decode cX9_takeTree 52 = .ok (.lload_n 1, 1) := by decide +kernel
theorem dX9_takeTree_53 : decode cX9_takeTree 53 = .ok (.invokevirtual 192, 3) := by decide +kernel
theorem dX9_takeTree_56 : decode cX9_takeTree 56 = .ok (.aload_n 0, 1) := by decide +kernel
theorem dX9_takeTree_57 : decode cX9_takeTree 57 = .ok (.getfield 89, 3) := by decide +kernel
theorem dX9_takeTree_60 : decode cX9_takeTree 60 = .ok (.ireturn, 1) := by decide +kernel
set_option maxRecDepth 20000 in
theorem ggX9_numberOf_X9_treesOfProduction : GoodIn wsX9_numberOf wsX9_treesOfProduction := goodIn_r _ [8, 9, 10, 11, 7, 12, 3, 13, 14, 15, 16, 17, 18, 31, 32, 33, 34, 35, 36, 37, 38, 39, 40, 41, 42, 43, 44, 45, 46, 47, 48, 49, 50, 51, 52, 53, 54, 55, 56, 57, 58, 59, 60] (by decide +kernel) (by decide +kernel)
set_option maxRecDepth 20000 in
theorem gX9_numberOf_X9_treesOfProduction : GoodIn wsX9_numberOf (wsV RX9 139 RX9 yX9_treesOfProduction wsX9_treesOfProduction) := goodIn_app (goodIn_of _ (by decide +kernel)) ggX9_numberOf_X9_treesOfProduction
set_option maxRecDepth 20000 in
theorem ggX9_numberOf_X9_sizeOfPart : GoodIn wsX9_numberOf wsX9_sizeOfPart := goodIn_r _ [22, 23, 31, 32, 33, 34, 35, 36, 37, 38, 39, 40, 41, 42, 43, 44, 45, 46, 47, 48, 49, 50, 51, 52, 53, 54, 55, 56, 57, 58, 59, 60] (by decide +kernel) (by decide +kernel)
set_option maxRecDepth 20000 in
theorem gX9_numberOf_X9_sizeOfPart : GoodIn wsX9_numberOf (wsV RX9 199 RX9 yX9_sizeOfPart wsX9_sizeOfPart) := goodIn_app (goodIn_of _ (by decide +kernel)) ggX9_numberOf_X9_sizeOfPart
set_option maxRecDepth 20000 in
theorem ggX9_numberOf_X9_skip : GoodIn wsX9_numberOf wsX9_skip := goodIn_r _ [27, 3, 1, 24, 25, 26, 7, 31, 32, 33, 34, 35, 36, 37, 38, 39, 40, 41, 42, 43, 44, 45, 46, 47, 48, 49, 50, 51, 52, 53, 54, 55, 56, 57, 58, 59, 60] (by decide +kernel) (by decide +kernel)
set_option maxRecDepth 20000 in
theorem gX9_numberOf_X9_skip : GoodIn wsX9_numberOf (wsV RX9 203 RX9 yX9_skip wsX9_skip) := goodIn_app (goodIn_of _ (by decide +kernel)) ggX9_numberOf_X9_skip
set_option maxRecDepth 20000 in
theorem ggX9_numberOf_X9_treesFrom : GoodIn wsX9_numberOf wsX9_treesFrom := goodIn_r _ [12, 3, 13, 14, 15, 7, 16, 17, 18, 31, 32, 33, 34, 35, 36, 37, 38, 39, 40, 41, 42, 43, 44, 45, 46, 47, 48, 49, 50, 51, 52, 53, 54, 55, 56, 57, 58, 59, 60] (by decide +kernel) (by decide +kernel)
set_option maxRecDepth 20000 in
theorem gX9_numberOf_X9_treesFrom : GoodIn wsX9_numberOf (wsV RX9 135 RX9 yX9_treesFrom wsX9_treesFrom) := goodIn_app (goodIn_of _ (by decide +kernel)) ggX9_numberOf_X9_treesFrom
set_option maxRecDepth 20000 in
theorem ggX9_numberOf_X9_treesOfPart : GoodIn wsX9_numberOf wsX9_treesOfPart := goodIn_r _ [16, 17, 18, 31, 32, 33, 34, 35, 36, 37, 38, 39, 40, 41, 42, 43, 44, 45, 46, 47, 48, 49, 50, 51, 52, 53, 54, 55, 56, 57, 58, 59, 60] (by decide +kernel) (by decide +kernel)
set_option maxRecDepth 20000 in
theorem gX9_numberOf_X9_treesOfPart : GoodIn wsX9_numberOf (wsV RX9 131 RX9 yX9_treesOfPart wsX9_treesOfPart) := goodIn_app (goodIn_of _ (by decide +kernel)) ggX9_numberOf_X9_treesOfPart
set_option maxRecDepth 20000 in
theorem ggX9_numberOf_X9_numberOf : GoodIn wsX9_numberOf wsX9_numberOf := goodIn_r _ [0, 1, 2, 3, 4, 5, 6, 7, 8, 9, 10, 11, 12, 13, 14, 15, 16, 17, 18, 19, 20, 21, 22, 23, 24, 25, 26, 27, 28, 29, 30, 31, 32, 33, 34, 35, 36, 37, 38, 39, 40, 41, 42, 43, 44, 45, 46, 47, 48, 49, 50, 51, 52, 53, 54, 55, 56, 57, 58, 59, 60] (by decide +kernel) (by decide +kernel)
set_option maxRecDepth 20000 in
theorem gX9_numberOf_X9_numberOf : GoodIn wsX9_numberOf (wsV RX9 206 RX9 yX9_numberOf wsX9_numberOf) := goodIn_app (goodIn_of _ (by decide +kernel)) ggX9_numberOf_X9_numberOf
theorem dX9_numberOf_0 : decode cX9_numberOf 0 = .ok (.iload_n 1, 1) := by decide +kernel
theorem dX9_numberOf_1 : decode cX9_numberOf 1 = .ok (.ifCond .lt 9, 3) := by decide +kernel
theorem dX9_numberOf_4 : decode cX9_numberOf 4 = .ok (.iload_n 1, 1) := by decide +kernel
theorem dX9_numberOf_5 : decode cX9_numberOf 5 = .ok (.bipush 10, 2) := by decide +kernel
theorem dX9_numberOf_7 : decode cX9_numberOf 7 = .ok (.if_icmp .lt 5, 3) := by decide +kernel
theorem dX9_numberOf_10 : decode cX9_numberOf 10 = .ok (.lconst 0, 1) := by decide +kernel
theorem dX9_numberOf_11 : decode cX9_numberOf 11 = .ok (.lreturn, 1) := by decide +kernel
theorem dX9_numberOf_12 : decode cX9_numberOf 12 = .ok (.aload_n 0, 1) := by decide +kernel
theorem dX9_numberOf_13 : decode cX9_numberOf 13 = .ok (.getfield 45, 3) := by decide +kernel
theorem dX9_numberOf_16 : decode cX9_numberOf 16 = .ok (.aload_n 0, 1) := by decide +kernel
theorem dX9_numberOf_17 : decode cX9_numberOf 17 = .ok (.getfield 196, 3) := by decide +kernel
theorem dX9_numberOf_20 : decode cX9_numberOf 20 = .ok (.iaload, 1) := by decide +kernel
theorem dX9_numberOf_21 : decode cX9_numberOf 21 = .ok (.istore 4, 2) := by decide +kernel
theorem dX9_numberOf_23 : decode cX9_numberOf 23 = .ok (.aload_n 0, 1) := by decide +kernel
theorem dX9_numberOf_24 : decode cX9_numberOf 24 = .ok (.dup, 1) := by decide +kernel
theorem dX9_numberOf_25 : decode cX9_numberOf 25 = .ok (.getfield 196, 3) := by decide +kernel
theorem dX9_numberOf_28 : decode cX9_numberOf 28 = .ok (.iconst 1, 1) := by decide +kernel
theorem dX9_numberOf_29 : decode cX9_numberOf 29 = .ok (.iadd, 1) := by decide +kernel
theorem dX9_numberOf_30 : decode cX9_numberOf 30 = .ok (.putfield 196, 3) := by decide +kernel
theorem dX9_numberOf_33 : decode cX9_numberOf 33 = .ok (.lconst 0, 1) := by decide +kernel
theorem dX9_numberOf_34 : decode cX9_numberOf 34 = .ok (.lstore 5, 2) := by decide +kernel
theorem dX9_numberOf_36 : decode cX9_numberOf 36 = .ok (.iconst 0, 1) := by decide +kernel
theorem dX9_numberOf_37 : decode cX9_numberOf 37 = .ok (.istore 7, 2) := by decide +kernel
theorem dX9_numberOf_39 : decode cX9_numberOf 39 = .ok (.iload 7, 2) := by decide +kernel
theorem dX9_numberOf_41 : decode cX9_numberOf 41 = .ok (.iload 4, 2) := by decide +kernel
theorem dX9_numberOf_43 : decode cX9_numberOf 43 = .ok (.if_icmp .ge 39, 3) := by decide +kernel
theorem dX9_numberOf_46 : decode cX9_numberOf 46 = .ok (.lload 5, 2) := by decide +kernel
theorem dX9_numberOf_48 : decode cX9_numberOf 48 = .ok (.aload_n 0, 1) := by decide +kernel
theorem dX9_numberOf_49 : decode cX9_numberOf 49 = .ok (.getfield 18, 3) := by decide +kernel
theorem dX9_numberOf_52 : decode cX9_numberOf 52 = .ok (.iload 7, 2) := by decide +kernel
theorem dX9_numberOf_54 : decode cX9_numberOf 54 = .ok (.aaload, 1) := by decide +kernel
theorem dX9_numberOf_55 : decode cX9_numberOf 55 = .ok (.iconst 0, 1) := by decide +kernel
theorem dX9_numberOf_56 : decode cX9_numberOf 56 = .ok (.iaload, 1) := by decide +kernel
theorem dX9_numberOf_57 : decode cX9_numberOf 57 = .ok (.iload_n 1, 1) := by decide +kernel
theorem dX9_numberOf_58 : decode cX9_numberOf 58 = .ok (.if_icmp .ne 14, 3) := by decide +kernel
theorem dX9_numberOf_61 : decode cX9_numberOf 61 = .ok (.aload_n 0, 1) := by decide +kernel
theorem dX9_numberOf_62 : decode cX9_numberOf 62 = .ok (.iload 7, 2) := by decide +kernel
theorem dX9_numberOf_64 : decode cX9_numberOf 64 = .ok (.iload_n 2, 1) := by decide +kernel
theorem dX9_numberOf_65 : decode cX9_numberOf 65 = .ok (.iload_n 3, 1) := by decide +kernel
theorem dX9_numberOf_66 : decode cX9_numberOf 66 = .ok (.invokevirtual 139, 3) := by decide +kernel
theorem dX9_numberOf_69 : decode cX9_numberOf 69 = .ok (.goto 4, 3) := by decide +kernel
theorem dX9_numberOf_72 : decode cX9_numberOf 72 = .ok (.lconst 0, 1) := by decide +kernel
theorem dX9_numberOf_73 : decode cX9_numberOf 73 = .ok (.ladd, 1) := by decide +kernel
theorem dX9_numberOf_74 : decode cX9_numberOf 74 = .ok (.lstore 5, 2) := by decide +kernel
theorem dX9_numberOf_76 : decode cX9_numberOf 76 = .ok (.iinc 7 1, 3) := by decide +kernel
theorem dX9_numberOf_79 : decode cX9_numberOf 79 = .ok (.goto (-40), 3) := by decide +kernel
theorem dX9_numberOf_82 : decode cX9_numberOf 82 = .ok (.aload_n 0, 1) := by decide +kernel
theorem dX9_numberOf_83 : decode cX9_numberOf 83 = .ok (.aload_n 0, 1) := by decide +kernel
theorem dX9_numberOf_84 : decode cX9_numberOf 84 = .ok (.getfield 18, 3) := by decide +kernel
theorem dX9_numberOf_87 : decode cX9_numberOf 87 = .ok (.iload 4, 2) := by decide +kernel
theorem dX9_numberOf_89 : decode cX9_numberOf 89 = .ok (.aaload, 1) := by decide +kernel
theorem dX9_numberOf_90 : decode cX9_numberOf 90 = .ok (.iconst 1, 1) := by decide +kernel
theorem dX9_numberOf_91 : decode cX9_numberOf 91 = .ok (.iaload, 1) := by decide +kernel
theorem dX9_numberOf_92 : decode cX9_numberOf 92 = .ok (.iload_n 2, 1) := by decide +kernel
theorem dX9_numberOf_93 : decode cX9_numberOf 93 = .ok (.aload_n 0, 1) := by decide +kernel
theorem dX9_numberOf_94 : decode cX9_numberOf 94 = .ok (.getfield 196, 3) := by decide +kernel
theorem dX9_numberOf_97 : decode cX9_numberOf 97 = .ok (.invokevirtual 199, 3) := by decide +kernel
theorem dX9_numberOf_100 : decode cX9_numberOf 100 = .ok (.istore 7, 2) := by decide +kernel
theorem dX9_numberOf_102 : decode cX9_numberOf 102 = .ok (.aload_n 0, 1) := by decide +kernel
theorem dX9_numberOf_103 : decode cX9_numberOf 103 = .ok (.getfield 18, 3) := by decide +kernel
theorem dX9_numberOf_106 : decode cX9_numberOf 106 = .ok (.iload 4, 2) := by decide +kernel
theorem dX9_numberOf_108 : decode cX9_numberOf 108 = .ok (.aaload, 1) := by decide +kernel
theorem dX9_numberOf_109 : decode cX9_numberOf 109 = .ok (.iconst 1, 1) := by decide +kernel
theorem dX9_numberOf_110 : decode cX9_numberOf 110 = .ok (.iaload, 1) := by decide +kernel
theorem dX9_numberOf_111 : decode cX9_numberOf 111 = .ok (.bipush 10, 2) := by decide +kernel
theorem dX9_numberOf_113 : decode cX9_numberOf 113 = .ok (.if_icmp .ge 14, 3) := by decide +kernel
theorem dX9_numberOf_116 : decode cX9_numberOf 116 = .ok (.aload_n 0, 1) := by decide +kernel
theorem dX9_numberOf_117 : decode cX9_numberOf 117 = .ok (.aload_n 0, 1) := by decide +kernel
theorem dX9_numberOf_118 : decode cX9_numberOf 118 = .ok (.getfield 196, 3) := by decide +kernel
theorem dX9_numberOf_121 : decode cX9_numberOf 121 = .ok (.invokevirtual 203, 3) := by decide +kernel
theorem dX9_numberOf_124 : decode cX9_numberOf 124 = .ok (.goto 7, 3) := by decide +kernel
theorem dX9_numberOf_127 : decode cX9_numberOf 127 = .ok (.aload_n 0, 1) := by decide +kernel
theorem dX9_numberOf_128 : decode cX9_numberOf 128 = .ok (.getfield 196, 3) := by decide +kernel
theorem dX9_numberOf_131 : decode cX9_numberOf 131 = .ok (.istore 8, 2) := by decide +kernel
theorem dX9_numberOf_133 : decode cX9_numberOf 133 = .ok (.aload_n 0, 1) := by decide +kernel
theorem dX9_numberOf_134 : decode cX9_numberOf 134 = .ok (.getfield 18, 3) := by decide +kernel
theorem dX9_numberOf_137 : decode cX9_numberOf 137 = .ok (.iload 4, 2) := by decide +kernel
theorem dX9_numberOf_139 : decode cX9_numberOf 139 = .ok (.aaload, 1) := by decide +kernel
theorem dX9_numberOf_140 : decode cX9_numberOf 140 = .ok (.iconst 2, 1) := by decide +kernel
theorem dX9_numberOf_141 : decode cX9_numberOf 141 = .ok (.iaload, 1) := by decide +kernel
theorem dX9_numberOf_142 : decode cX9_numberOf 142 = .ok (.ifCond .ge 7, 3) := by decide +kernel
theorem dX9_numberOf_145 : decode cX9_numberOf 145 = .ok (.iconst 0, 1) := by decide +kernel
theorem dX9_numberOf_146 : decode cX9_numberOf 146 = .ok (.goto 22, 3) := by decide +kernel
theorem dX9_numberOf_149 : decode cX9_numberOf 149 = .ok (.aload_n 0, 1) := by decide +kernel
theorem dX9_numberOf_150 : decode cX9_numberOf 150 = .ok (.aload_n 0, 1) := by decide +kernel
theorem dX9_numberOf_151 : decode cX9_numberOf 151 = .ok (.getfield 18, 3) := by decide +kernel
theorem dX9_numberOf_154 : decode cX9_numberOf 154 = .ok (.iload 4, 2) := by decide +kernel
theorem dX9_numberOf_156 : decode cX9_numberOf 156 = .ok (.aaload, 1) := by decide +kernel
theorem dX9_numberOf_157 : decode cX9_numberOf 157 = .ok (.iconst 2, 1) := by decide +kernel
theorem dX9_numberOf_158 : decode cX9_numberOf 158 = .ok (.iaload, 1) := by decide +kernel
theorem dX9_numberOf_159 : decode cX9_numberOf 159 = .ok (.iload_n 2, 1) := by decide +kernel
theorem dX9_numberOf_160 : decode cX9_numberOf 160 = .ok (.iload 7, 2) := by decide +kernel
theorem dX9_numberOf_162 : decode cX9_numberOf 162 = .ok (.iadd, 1) := by decide +kernel
theorem dX9_numberOf_163 : decode cX9_numberOf 163 = .ok (.iload 8, 2) := by decide +kernel
theorem dX9_numberOf_165 : decode cX9_numberOf 165 = .ok (.invokevirtual 199, 3) := by decide +kernel
theorem dX9_numberOf_168 : decode cX9_numberOf 168 = .ok (.istore 9, 2) := by decide +kernel
theorem dX9_numberOf_170 : decode cX9_numberOf 170 = .ok (.iload_n 3, 1) := by decide +kernel
theorem dX9_numberOf_171 : decode cX9_numberOf 171 = .ok (.iload 7, 2) := by decide +kernel
theorem dX9_numberOf_173 : decode cX9_numberOf 173 = .ok (.isub, 1) := by decide +kernel
theorem dX9_numberOf_174 : decode cX9_numberOf 174 = .ok (.iload 9, 2) := by decide +kernel
theorem dX9_numberOf_176 : decode cX9_numberOf 176 = .ok (.isub, 1) := by decide +kernel
theorem dX9_numberOf_177 : decode cX9_numberOf 177 = .ok (.istore 10, 2) := by decide +kernel
theorem dX9_numberOf_179 : decode cX9_numberOf 179 = .ok (.iconst 0, 1) := by decide +kernel
theorem dX9_numberOf_180 : decode cX9_numberOf 180 = .ok (.istore 11, 2) := by decide +kernel
theorem dX9_numberOf_182 : decode cX9_numberOf 182 = .ok (.iload 11, 2) := by decide +kernel
theorem dX9_numberOf_184 : decode cX9_numberOf 184 = .ok (.iload 7, 2) := by decide +kernel
theorem dX9_numberOf_186 : decode cX9_numberOf 186 = .ok (.iload_n 3, 1) := by decide +kernel
theorem dX9_numberOf_187 : decode cX9_numberOf 187 = .ok (.iconst 1, 1) := by decide +kernel
theorem dX9_numberOf_188 : decode cX9_numberOf 188 = .ok (.iadd, 1) := by decide +kernel
theorem dX9_numberOf_189 : decode cX9_numberOf 189 = .ok (.imul, 1) := by decide +kernel
theorem dX9_numberOf_190 : decode cX9_numberOf 190 = .ok (.iload 9, 2) := by decide +kernel
theorem dX9_numberOf_192 : decode cX9_numberOf 192 = .ok (.iadd, 1) := by decide +kernel
theorem dX9_numberOf_193 : decode cX9_numberOf 193 = .ok (.if_icmp .ge 61, 3) := by decide +kernel
theorem dX9_numberOf_196 : decode cX9_numberOf 196 = .ok (.iload 11, 2) := by decide +kernel
theorem dX9_numberOf_198 : decode cX9_numberOf 198 = .ok (.iload_n 3, 1) := by decide +kernel
theorem dX9_numberOf_199 : decode cX9_numberOf 199 = .ok (.iconst 1, 1) := by decide +kernel
theorem dX9_numberOf_200 : decode cX9_numberOf 200 = .ok (.iadd, 1) := by decide +kernel
theorem dX9_numberOf_201 : decode cX9_numberOf 201 = .ok (.idiv, 1) := by decide +kernel
theorem dX9_numberOf_202 : decode cX9_numberOf 202 = .ok (.istore 12, 2) := by decide +kernel
theorem dX9_numberOf_204 : decode cX9_numberOf 204 = .ok (.iload 11, 2) := by decide +kernel
theorem dX9_numberOf_206 : decode cX9_numberOf 206 = .ok (.iload_n 3, 1) := by decide +kernel
theorem dX9_numberOf_207 : decode cX9_numberOf 207 = .ok (.iconst 1, 1) := by decide +kernel
theorem dX9_numberOf_208 : decode cX9_numberOf 208 = .ok (.iadd, 1) := by decide +kernel
theorem dX9_numberOf_209 : decode cX9_numberOf 209 = .ok (.irem, 1) := by decide +kernel
theorem dX9_numberOf_210 : decode cX9_numberOf 210 = .ok (.istore 13, 2) := by decide +kernel
theorem dX9_numberOf_212 : decode cX9_numberOf 212 = .ok (.lload 5, 2) := by decide +kernel
theorem dX9_numberOf_214 : decode cX9_numberOf 214 = .ok (.iload 12, 2) := by decide +kernel
theorem dX9_numberOf_216 : decode cX9_numberOf 216 = .ok (.iload 13, 2) := by decide +kernel
theorem dX9_numberOf_218 : decode cX9_numberOf 218 = .ok (.iadd, 1) := by decide +kernel
theorem dX9_numberOf_219 : decode cX9_numberOf 219 = .ok (.iload_n 3, 1) := by decide +kernel
theorem dX9_numberOf_220 : decode cX9_numberOf 220 = .ok (.if_icmp .gt 24, 3) := by decide +kernel
theorem dX9_numberOf_223 : decode cX9_numberOf 223 = .ok (.aload_n 0, 1) := by decide +kernel
theorem dX9_numberOf_224 : decode cX9_numberOf 224 = .ok (.iload 4, 2) := by decide +kernel
theorem dX9_numberOf_226 : decode cX9_numberOf 226 = .ok (.iload_n 2, 1) := by decide +kernel
theorem dX9_numberOf_227 : decode cX9_numberOf 227 = .ok (.iload 12, 2) := by decide +kernel
theorem dX9_numberOf_229 : decode cX9_numberOf 229 = .ok (.iload 13, 2) := by decide +kernel
theorem dX9_numberOf_231 : decode cX9_numberOf 231 = .ok (.iload_n 3, 1) := by decide +kernel
theorem dX9_numberOf_232 : decode cX9_numberOf 232 = .ok (.iload 12, 2) := by decide +kernel
theorem dX9_numberOf_234 : decode cX9_numberOf 234 = .ok (.isub, 1) := by decide +kernel
theorem dX9_numberOf_235 : decode cX9_numberOf 235 = .ok (.iload 13, 2) := by decide +kernel
theorem dX9_numberOf_237 : decode cX9_numberOf 237 = .ok (.isub, 1) := by decide +kernel
theorem dX9_numberOf_238 : decode cX9_numberOf 238 = .ok (.invokevirtual 135, 3) := by decide +kernel
theorem dX9_numberOf_241 : decode cX9_numberOf 241 = .ok (.goto 4, 3) := by decide +kernel
theorem dX9_numberOf_244 : decode cX9_numberOf 244 = .ok (.lconst 0, 1) := by decide +kernel
theorem dX9_numberOf_245 : decode cX9_numberOf 245 = .ok (.ladd, 1) := by decide +kernel
theorem dX9_numberOf_246 : decode cX9_numberOf 246 = .ok (.lstore 5, 2) := by decide +kernel
theorem dX9_numberOf_248 : decode cX9_numberOf 248 = .ok (.iinc 11 1, 3) := by decide +kernel
theorem dX9_numberOf_251 : decode cX9_numberOf 251 = .ok (.goto (-69), 3) := by decide +kernel
theorem dX9_numberOf_254 : decode cX9_numberOf 254 = .ok (.aload_n 0, 1) := by decide +kernel
theorem dX9_numberOf_255 : decode cX9_numberOf 255 = .ok (.aload_n 0, 1) := by decide +kernel
theorem dX9_numberOf_256 : decode cX9_numberOf 256 = .ok (.getfield 18, 3) := by decide +kernel
theorem dX9_numberOf_259 : decode cX9_numberOf 259 = .ok (.iload 4, 2) := by decide +kernel
theorem dX9_numberOf_261 : decode cX9_numberOf 261 = .ok (.aaload, 1) := by decide +kernel
theorem dX9_numberOf_262 : decode cX9_numberOf 262 = .ok (.iconst 3, 1) := by decide +kernel
theorem dX9_numberOf_263 : decode cX9_numberOf 263 = .ok (.iaload, 1) := by decide +kernel
theorem dX9_numberOf_264 : decode cX9_numberOf 264 = .ok (.iload_n 2, 1) := by decide +kernel
theorem dX9_numberOf_265 : decode cX9_numberOf 265 = .ok (.iload 7, 2) := by decide +kernel
theorem dX9_numberOf_267 : decode cX9_numberOf 267 = .ok (.iadd, 1) := by decide +kernel
theorem dX9_numberOf_268 : decode cX9_numberOf 268 = .ok (.iload 9, 2) := by decide +kernel
theorem dX9_numberOf_270 : decode cX9_numberOf 270 = .ok (.iadd, 1) := by decide +kernel
theorem dX9_numberOf_271 : decode cX9_numberOf 271 = .ok (.iload 10, 2) := by decide +kernel
theorem dX9_numberOf_273 : decode cX9_numberOf 273 = .ok (.invokevirtual 131, 3) := by decide +kernel
theorem dX9_numberOf_276 : decode cX9_numberOf 276 = .ok (.lstore 11, 2) := by decide +kernel
theorem dX9_numberOf_278 : decode cX9_numberOf 278 = .ok (.lload 11, 2) := by decide +kernel
theorem dX9_numberOf_280 : decode cX9_numberOf 280 = .ok (.aload_n 0, 1) := by decide +kernel
theorem dX9_numberOf_281 : decode cX9_numberOf 281 = .ok (.aload_n 0, 1) := by decide +kernel
theorem dX9_numberOf_282 : decode cX9_numberOf 282 = .ok (.getfield 18, 3) := by decide +kernel
theorem dX9_numberOf_285 : decode cX9_numberOf 285 = .ok (.iload 4, 2) := by decide +kernel
theorem dX9_numberOf_287 : decode cX9_numberOf 287 = .ok (.aaload, 1) := by decide +kernel
theorem dX9_numberOf_288 : decode cX9_numberOf 288 = .ok (.iconst 2, 1) := by decide +kernel
theorem dX9_numberOf_289 : decode cX9_numberOf 289 = .ok (.iaload, 1) := by decide +kernel
theorem dX9_numberOf_290 : decode cX9_numberOf 290 = .ok (.iload_n 2, 1) := by decide +kernel
theorem dX9_numberOf_291 : decode cX9_numberOf 291 = .ok (.iload 7, 2) := by decide +kernel
theorem dX9_numberOf_293 : decode cX9_numberOf 293 = .ok (.iadd, 1) := by decide +kernel
theorem dX9_numberOf_294 : decode cX9_numberOf 294 = .ok (.iload 9, 2) := by decide +kernel
theorem dX9_numberOf_296 : decode cX9_numberOf 296 = .ok (.invokevirtual 131, 3) := by decide +kernel
theorem dX9_numberOf_299 : decode cX9_numberOf 299 = .ok (.lmul, 1) := by decide +kernel
theorem dX9_numberOf_300 : decode cX9_numberOf 300 = .ok (.lstore 13, 2) := by decide +kernel
theorem dX9_numberOf_302 : decode cX9_numberOf 302 = .ok (.lload 5, 2) := by decide +kernel
theorem dX9_numberOf_304 : decode cX9_numberOf 304 = .ok (.aload_n 0, 1) := by decide +kernel
theorem dX9_numberOf_305 : decode cX9_numberOf 305 = .ok (.aload_n 0, 1) := by decide +kernel
theorem dX9_numberOf_306 : decode cX9_numberOf 306 = .ok (.getfield 18, 3) := by decide +kernel
theorem dX9_numberOf_309 : decode cX9_numberOf 309 = .ok (.iload 4, 2) := by decide +kernel
theorem dX9_numberOf_311 : decode cX9_numberOf 311 = .ok (.aaload, 1) := by decide +kernel
theorem dX9_numberOf_312 : decode cX9_numberOf 312 = .ok (.iconst 1, 1) := by decide +kernel
theorem dX9_numberOf_313 : decode cX9_numberOf 313 = .ok (.iaload, 1) := by decide +kernel
theorem dX9_numberOf_314 : decode cX9_numberOf 314 = .ok (.iload_n 2, 1) := by decide +kernel
theorem dX9_numberOf_315 : decode cX9_numberOf 315 = .ok (.iload 7, 2) := by decide +kernel
theorem dX9_numberOf_317 : decode cX9_numberOf 317 = .ok (.invokevirtual 206, 3) := by decide +kernel
theorem dX9_numberOf_320 : decode cX9_numberOf 320 = .ok (.lload 13, 2) := by decide +kernel
theorem dX9_numberOf_322 : decode cX9_numberOf 322 = .ok (.lmul, 1) := by decide +kernel
theorem dX9_numberOf_323 : decode cX9_numberOf 323 = .ok (.ladd, 1) := by decide +kernel
theorem dX9_numberOf_324 : decode cX9_numberOf 324 = .ok (.lstore 5, 2) := by decide +kernel
theorem dX9_numberOf_326 : decode cX9_numberOf 326 = .ok (.lload 5, 2) := by decide +kernel
theorem dX9_numberOf_328 : decode cX9_numberOf 328 = .ok (.aload_n 0, 1) := by decide +kernel
theorem dX9_numberOf_329 : decode cX9_numberOf 329 = .ok (.aload_n 0, 1) := by decide +kernel
theorem dX9_numberOf_330 : decode cX9_numberOf 330 = .ok (.getfield 18, 3) := by decide +kernel
theorem dX9_numberOf_333 : decode cX9_numberOf 333 = .ok (.iload 4, 2) := by decide +kernel
theorem dX9_numberOf_335 : decode cX9_numberOf 335 = .ok (.aaload, 1) := by decide +kernel
theorem dX9_numberOf_336 : decode cX9_numberOf 336 = .ok (.iconst 2, 1) := by decide +kernel
theorem dX9_numberOf_337 : decode cX9_numberOf 337 = .ok (.iaload, 1) := by decide +kernel
theorem dX9_numberOf_338 : decode cX9_numberOf 338 = .ok (.iload_n 2, 1) := by decide +kernel
theorem dX9_numberOf_339 : decode cX9_numberOf 339 = .ok (.iload 7, 2) := by decide +kernel
theorem dX9_numberOf_341 : decode cX9_numberOf 341 = .ok (.iadd, 1) := by decide +kernel
theorem dX9_numberOf_342 : decode cX9_numberOf 342 = .ok (.iload 9, 2) := by decide +kernel
theorem dX9_numberOf_344 : decode cX9_numberOf 344 = .ok (.invokevirtual 206, 3) := by decide +kernel
theorem dX9_numberOf_347 : decode cX9_numberOf 347 = .ok (.lload 11, 2) := by decide +kernel
theorem dX9_numberOf_349 : decode cX9_numberOf 349 = .ok (.lmul, 1) := by decide +kernel
theorem dX9_numberOf_350 : decode cX9_numberOf 350 = .ok (.ladd, 1) := by decide +kernel
theorem dX9_numberOf_351 : decode cX9_numberOf 351 = .ok (.lstore 5, 2) := by decide +kernel
theorem dX9_numberOf_353 : decode cX9_numberOf 353 = .ok (.lload 5, 2) := by decide +kernel
theorem dX9_numberOf_355 : decode cX9_numberOf 355 = .ok (.aload_n 0, 1) := by decide +kernel
theorem dX9_numberOf_356 : decode cX9_numberOf 356 = .ok (.aload_n 0, 1) := by decide +kernel
theorem dX9_numberOf_357 : decode cX9_numberOf 357 = .ok (.getfield 18, 3) := by decide +kernel
theorem dX9_numberOf_360 : decode cX9_numberOf 360 = .ok (.iload 4, 2) := by decide +kernel
theorem dX9_numberOf_362 : decode cX9_numberOf 362 = .ok (.aaload, 1) := by decide +kernel
theorem dX9_numberOf_363 : decode cX9_numberOf 363 = .ok (.iconst 3, 1) := by decide +kernel
theorem dX9_numberOf_364 : decode cX9_numberOf 364 = .ok (.iaload, 1) := by decide +kernel
theorem dX9_numberOf_365 : decode cX9_numberOf 365 = .ok (.iload_n 2, 1) := by decide +kernel
theorem dX9_numberOf_366 : decode cX9_numberOf 366 = .ok (.iload 7, 2) := by decide +kernel
theorem dX9_numberOf_368 : decode cX9_numberOf 368 = .ok (.iadd, 1) := by decide +kernel
theorem dX9_numberOf_369 : decode cX9_numberOf 369 = .ok (.iload 9, 2) := by decide +kernel
theorem dX9_numberOf_371 : decode cX9_numberOf 371 = .ok (.iadd, 1) := by decide +kernel
theorem dX9_numberOf_372 : decode cX9_numberOf 372 = .ok (.iload 10, 2) := by decide +kernel
theorem dX9_numberOf_374 : decode cX9_numberOf 374 = .ok (.invokevirtual 206, 3) := by decide +kernel
theorem dX9_numberOf_377 : decode cX9_numberOf 377 = .ok (.ladd, 1) := by decide +kernel
theorem dX9_numberOf_378 : decode cX9_numberOf 378 = .ok (.lreturn, 1) := by decide +kernel
theorem dX9_sizeOfPart_0 : decode cX9_sizeOfPart 0 = .ok (.iload_n 1, 1) := by decide +kernel
theorem dX9_sizeOfPart_1 : decode cX9_sizeOfPart 1 = .ok (.bipush 10, 2) := by decide +kernel
theorem dX9_sizeOfPart_3 : decode cX9_sizeOfPart 3 = .ok (.if_icmp .lt 7, 3) := by decide +kernel
theorem dX9_sizeOfPart_6 : decode cX9_sizeOfPart 6 = .ok (.iconst 1, 1) := by decide +kernel
theorem dX9_sizeOfPart_7 : decode cX9_sizeOfPart 7 = .ok (.goto 9, 3) := by decide +kernel
theorem dX9_sizeOfPart_10 : decode cX9_sizeOfPart 10 = .ok (.aload_n 0, 1) := by decide +kernel
theorem dX9_sizeOfPart_11 : decode cX9_sizeOfPart 11 = .ok (.getfield 51, 3) := by decide +kernel
theorem dX9_sizeOfPart_14 : decode cX9_sizeOfPart 14 = .ok (.iload_n 3, 1) := by decide +kernel
theorem dX9_sizeOfPart_15 : decode cX9_sizeOfPart 15 = .ok (.iaload, 1) := by decide +kernel
theorem dX9_sizeOfPart_16 : decode cX9_sizeOfPart 16 = .ok (.ireturn, 1) := by decide +kernel
set_option maxRecDepth 20000 in
theorem ggX9_skip_X9_skip : GoodIn wsX9_skip wsX9_skip := goodIn_r _ [0, 1, 2, 3, 4, 5, 6, 7, 8, 9, 10, 11, 12, 13, 14, 15, 16, 17, 18, 19, 20, 21, 22, 23, 24, 25, 26, 27, 28, 29, 30, 31, 32, 33, 34, 35, 36] (by decide +kernel) (by decide +kernel)
set_option maxRecDepth 20000 in
theorem gX9_skip_X9_skip : GoodIn wsX9_skip (wsV RX9 203 RX9 yX9_skip wsX9_skip) := goodIn_app (goodIn_of _ (by decide +kernel)) ggX9_skip_X9_skip
theorem dX9_skip_0 : decode cX9_skip 0 = .ok (.iload_n 1, 1) := by decide +kernel
theorem dX9_skip_1 : decode cX9_skip 1 = .ok (.iconst 1, 1) := by decide +kernel
theorem dX9_skip_2 : decode cX9_skip 2 = .ok (.iadd, 1) := by decide +kernel
theorem dX9_skip_3 : decode cX9_skip 3 = .ok (.istore_n 2, 1) := by decide +kernel
theorem dX9_skip_4 : decode cX9_skip 4 = .ok (.iconst 1, 1) := by decide +kernel
theorem dX9_skip_5 : decode cX9_skip 5 = .ok (.istore_n 3, 1) := by decide +kernel
theorem dX9_skip_6 : decode cX9_skip 6 = .ok (.iload_n 3, 1) := by decide +kernel
theorem dX9_skip_7 : decode cX9_skip 7 = .ok (.iconst 4, 1) := by decide +kernel
theorem dX9_skip_8 : decode cX9_skip 8 = .ok (.if_icmp .ge 46, 3) := by decide +kernel
theorem dX9_skip_11 : decode cX9_skip 11 = .ok (.aload_n 0, 1) := by decide +kernel
theorem dX9_skip_12 : decode cX9_skip 12 = .ok (.getfield 18, 3) := by decide +kernel
theorem dX9_skip_15 : decode cX9_skip 15 = .ok (.aload_n 0, 1) := by decide +kernel
theorem dX9_skip_16 : decode cX9_skip 16 = .ok (.getfield 45, 3) := by decide +kernel
theorem dX9_skip_19 : decode cX9_skip 19 = .ok (.iload_n 1, 1) := by decide +kernel
theorem dX9_skip_20 : decode cX9_skip 20 = .ok (.iaload, 1) := by decide +kernel
theorem dX9_skip_21 : decode cX9_skip 21 = .ok (.aaload, 1) := by decide +kernel
theorem dX9_skip_22 : decode cX9_skip 22 = .ok (.iload_n 3, 1) := by decide +kernel
theorem dX9_skip_23 : decode cX9_skip 23 = .ok (.iaload, 1) := by decide +kernel
theorem dX9_skip_24 : decode cX9_skip 24 = .ok (.istore 4, 2) := by decide +kernel
theorem dX9_skip_26 : decode cX9_skip 26 = .ok (.iload 4, 2) := by decide +kernel
theorem dX9_skip_28 : decode cX9_skip 28 = .ok (.ifCond .lt 18, 3) := by decide +kernel
theorem dX9_skip_31 : decode cX9_skip 31 = .ok (.iload 4, 2) := by decide +kernel
theorem dX9_skip_33 : decode cX9_skip 33 = .ok (.bipush 10, 2) := by decide +kernel
theorem dX9_skip_35 : decode cX9_skip 35 = .ok (.if_icmp .ge 11, 3) := by decide +kernel
theorem dX9_skip_38 : decode cX9_skip 38 = .ok (.aload_n 0, 1) := by decide +kernel
theorem dX9_skip_39 : decode cX9_skip 39 = .ok (.iload_n 2, 1) := by decide +kernel
theorem dX9_skip_40 : decode cX9_skip 40 = .ok (.invokevirtual 203, 3) := by decide +kernel
theorem dX9_skip_43 : decode cX9_skip 43 = .ok (.goto 4, 3) := by decide +kernel
theorem dX9_skip_46 : decode cX9_skip 46 = .ok (.iload_n 2, 1) := by decide +kernel
theorem dX9_skip_47 : decode cX9_skip 47 = .ok (.istore_n 2, 1) := by decide +kernel
theorem dX9_skip_48 : decode cX9_skip 48 = .ok (.iinc 3 1, 3) := by decide +kernel
theorem dX9_skip_51 : decode cX9_skip 51 = .ok (.goto (-45), 3) := by decide +kernel
theorem dX9_skip_54 : decode cX9_skip 54 = .ok (.iload_n 2, 1) := by decide +kernel
theorem dX9_skip_55 : decode cX9_skip 55 = .ok (.ireturn, 1) := by decide +kernel
set_option maxRecDepth 20000 in
theorem ggX9_treeNumber_X9_fails : GoodIn wsX9_treeNumber wsX9_fails := goodIn_r _ [9, 10, 50, 51, 52, 53, 54, 55, 56, 57, 58, 59, 60, 61, 62, 63, 64, 65, 66, 67, 68, 69, 70, 71, 72, 73, 74, 75, 76, 77, 78, 79] (by decide +kernel) (by decide +kernel)
set_option maxRecDepth 20000 in
theorem gX9_treeNumber_X9_fails : GoodIn wsX9_treeNumber (wsV RX9 79 RX9 yX9_fails wsX9_fails) := goodIn_app (goodIn_of _ (by decide +kernel)) ggX9_treeNumber_X9_fails
set_option maxRecDepth 20000 in
theorem ggX9_treeNumber_X9_countCurrent : GoodIn wsX9_treeNumber wsX9_countCurrent := goodIn_r _ [14, 4, 15, 16, 17, 18, 19, 8, 20, 21, 22, 23, 3, 24, 25, 26, 27, 28, 29, 30, 31, 32, 33, 34, 35, 50, 51, 52, 53, 54, 55, 56, 57, 58, 59, 60, 61, 62, 63, 64, 65, 66, 67, 68, 69, 70, 71, 72, 73, 74, 75, 76, 77, 78, 79] (by decide +kernel) (by decide +kernel)
set_option maxRecDepth 20000 in
theorem gX9_treeNumber_X9_countCurrent : GoodIn wsX9_treeNumber (wsV RX9 146 RX9 yX9_countCurrent wsX9_countCurrent) := goodIn_app (goodIn_of _ (by decide +kernel)) ggX9_treeNumber_X9_countCurrent
set_option maxRecDepth 20000 in
theorem ggX9_treeNumber_X9_numberOf : GoodIn wsX9_treeNumber wsX9_numberOf := goodIn_r _ [39, 40, 2, 23, 24, 25, 26, 8, 27, 28, 29, 30, 31, 32, 33, 34, 35, 15, 21, 41, 42, 43, 44, 45, 46, 47, 48, 49, 36, 37, 38, 50, 51, 52, 53, 54, 55, 56, 57, 58, 59, 60, 61, 62, 63, 64, 65, 66, 67, 68, 69, 70, 71, 72, 73, 74, 75, 76, 77, 78, 79] (by decide +kernel) (by decide +kernel)
set_option maxRecDepth 20000 in
theorem gX9_treeNumber_X9_numberOf : GoodIn wsX9_treeNumber (wsV RX9 206 RX9 yX9_numberOf wsX9_numberOf) := goodIn_app (goodIn_of _ (by decide +kernel)) ggX9_treeNumber_X9_numberOf
theorem dX9_treeNumber_0 : decode cX9_treeNumber 0 = .ok (.aload_n 0, 1) := by decide +kernel
theorem dX9_treeNumber_1 : decode cX9_treeNumber 1 = .ok (.iconst 1, 1) := by decide +kernel
theorem dX9_treeNumber_2 : decode cX9_treeNumber 2 = .ok (.aload_n 0, 1) := by decide +kernel
theorem dX9_treeNumber_3 : decode cX9_treeNumber 3 = .ok (.getfield 89, 3) := by decide +kernel
theorem dX9_treeNumber_6 : decode cX9_treeNumber 6 = .ok (.ifCond .ne 7, 3) := by decide +kernel
theorem dX9_treeNumber_9 : decode cX9_treeNumber 9 = .ok (.iconst 1, 1) := by decide +kernel
theorem dX9_treeNumber_10 : decode cX9_treeNumber 10 = .ok (.goto 4, 3) := by decide +kernel
theorem dX9_treeNumber_13 : decode cX9_treeNumber 13 = .ok (.iconst 0, 1) := by decide +kernel
theorem dX9_treeNumber_14 : decode cX9_treeNumber 14 = .ok (.invokevirtual 79, 3) := by decide +kernel
theorem dX9_treeNumber_17 : decode cX9_treeNumber 17 = .ok (.ifCond .eq 5, 3) := by decide +kernel
theorem dX9_treeNumber_20 : decode cX9_treeNumber 20 = .ok (.lconst 0, 1) := by decide +kernel
theorem dX9_treeNumber_21 : decode cX9_treeNumber 21 = .ok (.lreturn, 1) := by decide +kernel
theorem dX9_treeNumber_22 : decode cX9_treeNumber 22 = .ok (.aload_n 0, 1) := by decide +kernel
theorem dX9_treeNumber_23 : decode cX9_treeNumber 23 = .ok (.invokevirtual 146, 3) := by decide +kernel
theorem dX9_treeNumber_26 : decode cX9_treeNumber 26 = .ok (.pop2, 1) := by decide +kernel
theorem dX9_treeNumber_27 : decode cX9_treeNumber 27 = .ok (.aload_n 0, 1) := by decide +kernel
theorem dX9_treeNumber_28 : decode cX9_treeNumber 28 = .ok (.iconst 0, 1) := by decide +kernel
theorem dX9_treeNumber_29 : decode cX9_treeNumber 29 = .ok (.putfield 196, 3) := by decide +kernel
theorem dX9_treeNumber_32 : decode cX9_treeNumber 32 = .ok (.aload_n 0, 1) := by decide +kernel
theorem dX9_treeNumber_33 : decode cX9_treeNumber 33 = .ok (.aload_n 0, 1) := by decide +kernel
theorem dX9_treeNumber_34 : decode cX9_treeNumber 34 = .ok (.getfield 83, 3) := by decide +kernel
theorem dX9_treeNumber_37 : decode cX9_treeNumber 37 = .ok (.iconst 0, 1) := by decide +kernel
theorem dX9_treeNumber_38 : decode cX9_treeNumber 38 = .ok (.aload_n 0, 1) := by decide +kernel
theorem dX9_treeNumber_39 : decode cX9_treeNumber 39 = .ok (.getfield 86, 3) := by decide +kernel
theorem dX9_treeNumber_42 : decode cX9_treeNumber 42 = .ok (.invokevirtual 206, 3) := by decide +kernel
theorem dX9_treeNumber_45 : decode cX9_treeNumber 45 = .ok (.lreturn, 1) := by decide +kernel
set_option maxRecDepth 20000 in
theorem ggX9_treeSize_X9_fails : GoodIn wsX9_treeSize wsX9_fails := goodIn_r _ [6, 7, 8, 9, 10, 11, 12, 13, 14, 15, 16, 17, 18, 19, 20, 21, 22, 23, 24, 25, 26, 27, 28, 29, 30, 31, 32, 33, 34, 35, 36, 37] (by decide +kernel) (by decide +kernel)
set_option maxRecDepth 20000 in
theorem gX9_treeSize_X9_fails : GoodIn wsX9_treeSize (wsV RX9 79 RX9 yX9_fails wsX9_fails) := goodIn_app (goodIn_of _ (by decide +kernel)) ggX9_treeSize_X9_fails
theorem dX9_treeSize_0 : decode cX9_treeSize 0 = .ok (.aload_n 0, 1) := by decide +kernel
theorem dX9_treeSize_1 : decode cX9_treeSize 1 = .ok (.iconst 1, 1) := by decide +kernel
theorem dX9_treeSize_2 : decode cX9_treeSize 2 = .ok (.aload_n 0, 1) := by decide +kernel
theorem dX9_treeSize_3 : decode cX9_treeSize 3 = .ok (.getfield 89, 3) := by decide +kernel
theorem dX9_treeSize_6 : decode cX9_treeSize 6 = .ok (.ifCond .ne 7, 3) := by decide +kernel
theorem dX9_treeSize_9 : decode cX9_treeSize 9 = .ok (.iconst 1, 1) := by decide +kernel
theorem dX9_treeSize_10 : decode cX9_treeSize 10 = .ok (.goto 4, 3) := by decide +kernel
theorem dX9_treeSize_13 : decode cX9_treeSize 13 = .ok (.iconst 0, 1) := by decide +kernel
theorem dX9_treeSize_14 : decode cX9_treeSize 14 = .ok (.invokevirtual 79, 3) := by decide +kernel
theorem dX9_treeSize_17 : decode cX9_treeSize 17 = .ok (.ifCond .eq 7, 3) := by decide +kernel
theorem dX9_treeSize_20 : decode cX9_treeSize 20 = .ok (.iconst 0, 1) := by decide +kernel
theorem dX9_treeSize_21 : decode cX9_treeSize 21 = .ok (.goto 7, 3) := by decide +kernel
theorem dX9_treeSize_24 : decode cX9_treeSize 24 = .ok (.aload_n 0, 1) := by decide +kernel
theorem dX9_treeSize_25 : decode cX9_treeSize 25 = .ok (.getfield 89, 3) := by decide +kernel
theorem dX9_treeSize_28 : decode cX9_treeSize 28 = .ok (.ireturn, 1) := by decide +kernel
set_option maxRecDepth 20000 in
theorem ggX9_treeNode_X9_fails : GoodIn wsX9_treeNode wsX9_fails := goodIn_r _ [9, 10, 14, 15, 16, 17, 18, 19, 20, 21, 22, 23, 24, 25, 26, 27, 28, 29, 30, 31, 32, 33, 34, 35, 36, 37, 38, 39, 40, 41, 42, 43] (by decide +kernel) (by decide +kernel)
set_option maxRecDepth 20000 in
theorem gX9_treeNode_X9_fails : GoodIn wsX9_treeNode (wsV RX9 79 RX9 yX9_fails wsX9_fails) := goodIn_app (goodIn_of _ (by decide +kernel)) ggX9_treeNode_X9_fails
set_option maxRecDepth 20000 in
theorem ggX9_treeNode_X9_isBetween : GoodIn wsX9_treeNode wsX9_isBetween := goodIn_r _ [13] (by decide +kernel) (by decide +kernel)
set_option maxRecDepth 20000 in
theorem gX9_treeNode_X9_isBetween : GoodIn wsX9_treeNode (va_wsS RX9 72 yX9_isBetween wsX9_isBetween) := goodIn_app (goodIn_of _ (by decide +kernel)) ggX9_treeNode_X9_isBetween
theorem dX9_treeNode_0 : decode cX9_treeNode 0 = .ok (.aload_n 0, 1) := by decide +kernel
theorem dX9_treeNode_1 : decode cX9_treeNode 1 = .ok (.iconst 1, 1) := by decide +kernel
theorem dX9_treeNode_2 : decode cX9_treeNode 2 = .ok (.aload_n 0, 1) := by decide +kernel
theorem dX9_treeNode_3 : decode cX9_treeNode 3 = .ok (.getfield 89, 3) := by decide +kernel
theorem dX9_treeNode_6 : decode cX9_treeNode 6 = .ok (.ifCond .ne 7, 3) := by decide +kernel
theorem dX9_treeNode_9 : decode cX9_treeNode 9 = .ok (.iconst 1, 1) := by decide +kernel
theorem dX9_treeNode_10 : decode cX9_treeNode 10 = .ok (.goto 4, 3) := by decide +kernel
theorem dX9_treeNode_13 : decode cX9_treeNode 13 = .ok (.iconst 0, 1) := by decide +kernel
theorem dX9_treeNode_14 : decode cX9_treeNode 14 = .ok (.invokevirtual 79, 3) := by decide +kernel
theorem dX9_treeNode_17 : decode cX9_treeNode 17 = .ok (.ifCond .ne 52, 3) := by decide +kernel
theorem dX9_treeNode_20 : decode cX9_treeNode 20 = .ok (.aload_n 0, 1) := by decide +kernel
theorem dX9_treeNode_21 : decode cX9_treeNode 21 = .ok (.iconst 2, 1) := by decide +kernel
theorem dX9_treeNode_22 : decode cX9_treeNode 22 = .ok (.iload_n 1, 1) := by decide +kernel
theorem dX9_treeNode_23 : decode cX9_treeNode 23 = .ok (.iconst 0, 1) := by decide +kernel
theorem dX9_treeNode_24 : decode cX9_treeNode 24 = .ok (.aload_n 0, 1) := by decide +kernel
theorem dX9_treeNode_25 : decode cX9_treeNode 25 = .ok (.getfield 89, 3) := by decide +kernel
theorem dX9_treeNode_28 : decode cX9_treeNode 28 = .ok (.iconst 1, 1) := by decide +kernel
theorem dX9_treeNode_29 : decode cX9_treeNode 29 = .ok (.isub, 1) := by decide +kernel
theorem dX9_treeNode_30 : decode cX9_treeNode 30 = .ok (.invokestatic 72, 3) := by decide +kernel
theorem dX9_treeNode_33 : decode cX9_treeNode 33 = .ok (.ifCond .ne 7, 3) := by decide +kernel
theorem dX9_treeNode_36 : decode cX9_treeNode 36 = .ok (.iconst 1, 1) := by decide +kernel
theorem dX9_treeNode_37 : decode cX9_treeNode 37 = .ok (.goto 4, 3) := by decide +kernel
theorem dX9_treeNode_40 : decode cX9_treeNode 40 = .ok (.iconst 0, 1) := by decide +kernel
theorem dX9_treeNode_41 : decode cX9_treeNode 41 = .ok (.invokevirtual 79, 3) := by decide +kernel
theorem dX9_treeNode_44 : decode cX9_treeNode 44 = .ok (.ifCond .ne 25, 3) := by decide +kernel
theorem dX9_treeNode_47 : decode cX9_treeNode 47 = .ok (.aload_n 0, 1) := by decide +kernel
theorem dX9_treeNode_48 : decode cX9_treeNode 48 = .ok (.iconst 3, 1) := by decide +kernel
theorem dX9_treeNode_49 : decode cX9_treeNode 49 = .ok (.iload_n 2, 1) := by decide +kernel
theorem dX9_treeNode_50 : decode cX9_treeNode 50 = .ok (.iconst 0, 1) := by decide +kernel
theorem dX9_treeNode_51 : decode cX9_treeNode 51 = .ok (.iconst 2, 1) := by decide +kernel
theorem dX9_treeNode_52 : decode cX9_treeNode 52 = .ok (.invokestatic 72, 3) := by decide +kernel
theorem dX9_treeNode_55 : decode cX9_treeNode 55 = .ok (.ifCond .ne 7, 3) := by decide +kernel
theorem dX9_treeNode_58 : decode cX9_treeNode 58 = .ok (.iconst 1, 1) := by decide +kernel
theorem dX9_treeNode_59 : decode cX9_treeNode 59 = .ok (.goto 4, 3) := by decide +kernel
theorem dX9_treeNode_62 : decode cX9_treeNode 62 = .ok (.iconst 0, 1) := by decide +kernel
theorem dX9_treeNode_63 : decode cX9_treeNode 63 = .ok (.invokevirtual 79, 3) := by decide +kernel
theorem dX9_treeNode_66 : decode cX9_treeNode 66 = .ok (.ifCond .eq 5, 3) := by decide +kernel
theorem dX9_treeNode_69 : decode cX9_treeNode 69 = .ok (.iconst 0, 1) := by decide +kernel
theorem dX9_treeNode_70 : decode cX9_treeNode 70 = .ok (.ireturn, 1) := by decide +kernel
theorem dX9_treeNode_71 : decode cX9_treeNode 71 = .ok (.iload_n 2, 1) := by decide +kernel
theorem dX9_treeNode_72 : decode cX9_treeNode 72 = .ok (.ifCond .ne 12, 3) := by decide +kernel
theorem dX9_treeNode_75 : decode cX9_treeNode 75 = .ok (.aload_n 0, 1) := by decide +kernel
theorem dX9_treeNode_76 : decode cX9_treeNode 76 = .ok (.getfield 45, 3) := by decide +kernel
theorem dX9_treeNode_79 : decode cX9_treeNode 79 = .ok (.iload_n 1, 1) := by decide +kernel
theorem dX9_treeNode_80 : decode cX9_treeNode 80 = .ok (.iaload, 1) := by decide +kernel
theorem dX9_treeNode_81 : decode cX9_treeNode 81 = .ok (.goto 23, 3) := by decide +kernel
theorem dX9_treeNode_84 : decode cX9_treeNode 84 = .ok (.iload_n 2, 1) := by decide +kernel
theorem dX9_treeNode_85 : decode cX9_treeNode 85 = .ok (.iconst 1, 1) := by decide +kernel
theorem dX9_treeNode_86 : decode cX9_treeNode 86 = .ok (.if_icmp .ne 12, 3) := by decide +kernel
theorem dX9_treeNode_89 : decode cX9_treeNode 89 = .ok (.aload_n 0, 1) := by decide +kernel
theorem dX9_treeNode_90 : decode cX9_treeNode 90 = .ok (.getfield 48, 3) := by decide +kernel
theorem dX9_treeNode_93 : decode cX9_treeNode 93 = .ok (.iload_n 1, 1) := by decide +kernel
theorem dX9_treeNode_94 : decode cX9_treeNode 94 = .ok (.iaload, 1) := by decide +kernel
theorem dX9_treeNode_95 : decode cX9_treeNode 95 = .ok (.goto 9, 3) := by decide +kernel
theorem dX9_treeNode_98 : decode cX9_treeNode 98 = .ok (.aload_n 0, 1) := by decide +kernel
theorem dX9_treeNode_99 : decode cX9_treeNode 99 = .ok (.getfield 51, 3) := by decide +kernel
theorem dX9_treeNode_102 : decode cX9_treeNode 102 = .ok (.iload_n 1, 1) := by decide +kernel
theorem dX9_treeNode_103 : decode cX9_treeNode 103 = .ok (.iaload, 1) := by decide +kernel
theorem dX9_treeNode_104 : decode cX9_treeNode 104 = .ok (.ireturn, 1) := by decide +kernel
set_option maxRecDepth 20000 in
theorem ggX9_isSlot_X9_isBetween : GoodIn wsX9_isSlot wsX9_isBetween := goodIn_r _ [4] (by decide +kernel) (by decide +kernel)
set_option maxRecDepth 20000 in
theorem gX9_isSlot_X9_isBetween : GoodIn wsX9_isSlot (va_wsS RX9 72 yX9_isBetween wsX9_isBetween) := goodIn_app (goodIn_of _ (by decide +kernel)) ggX9_isSlot_X9_isBetween
theorem dX9_isSlot_0 : decode cX9_isSlot 0 = .ok (.iload_n 0, 1) := by decide +kernel
theorem dX9_isSlot_1 : decode cX9_isSlot 1 = .ok (.iconst 0, 1) := by decide +kernel
theorem dX9_isSlot_2 : decode cX9_isSlot 2 = .ok (.iconst 2, 1) := by decide +kernel
theorem dX9_isSlot_3 : decode cX9_isSlot 3 = .ok (.invokestatic 72, 3) := by decide +kernel
theorem dX9_isSlot_6 : decode cX9_isSlot 6 = .ok (.ireturn, 1) := by decide +kernel
set_option maxRecDepth 20000 in
theorem ggX9_allocate_X9_isSlot : GoodIn wsX9_allocate wsX9_isSlot := goodIn_r _ [7, 8, 9, 6, 10] (by decide +kernel) (by decide +kernel)
set_option maxRecDepth 20000 in
theorem gX9_allocate_X9_isSlot : GoodIn wsX9_allocate (va_wsS RX9 209 yX9_isSlot wsX9_isSlot) := goodIn_app (goodIn_of _ (by decide +kernel)) ggX9_allocate_X9_isSlot
set_option maxRecDepth 20000 in
theorem ggX9_allocate_X9_isBetween : GoodIn wsX9_allocate wsX9_isBetween := goodIn_r _ [10] (by decide +kernel) (by decide +kernel)
set_option maxRecDepth 20000 in
theorem gX9_allocate_X9_isBetween : GoodIn wsX9_allocate (va_wsS RX9 72 yX9_isBetween wsX9_isBetween) := goodIn_app (goodIn_of _ (by decide +kernel)) ggX9_allocate_X9_isBetween
set_option maxRecDepth 20000 in
theorem ggX9_allocate_X9_fails : GoodIn wsX9_allocate wsX9_fails := goodIn_r _ [14, 15, 16, 17, 18, 19, 20, 21, 22, 23, 24, 25, 26, 27, 28, 29, 30, 31, 32, 33, 34, 35, 36, 37, 38, 39, 40, 41, 42, 43, 44, 45] (by decide +kernel) (by decide +kernel)
set_option maxRecDepth 20000 in
theorem gX9_allocate_X9_fails : GoodIn wsX9_allocate (wsV RX9 79 RX9 yX9_fails wsX9_fails) := goodIn_app (goodIn_of _ (by decide +kernel)) ggX9_allocate_X9_fails
theorem dX9_allocate_0 : decode cX9_allocate 0 = .ok (.aload_n 0, 1) := by decide +kernel
theorem dX9_allocate_1 : decode cX9_allocate 1 = .ok (.iconst 1, 1) := by decide +kernel
theorem dX9_allocate_2 : decode cX9_allocate 2 = .ok (.iload_n 1, 1) := by decide +kernel
theorem dX9_allocate_3 : decode cX9_allocate 3 = .ok (.invokestatic 209, 3) := by decide +kernel
theorem dX9_allocate_6 : decode cX9_allocate 6 = .ok (.ifCond .eq 13, 3) := by decide +kernel
theorem dX9_allocate_9 : decode cX9_allocate 9 = .ok (.iload_n 3, 1) := by decide +kernel
theorem dX9_allocate_10 : decode cX9_allocate 10 = .ok (.iconst 0, 1) := by decide +kernel
theorem dX9_allocate_11 : decode cX9_allocate 11 = .ok (.bipush 40, 2) := by decide +kernel
theorem dX9_allocate_13 : decode cX9_allocate 13 = .ok (.invokestatic 72, 3) := by decide +kernel
theorem dX9_allocate_16 : decode cX9_allocate 16 = .ok (.ifCond .ne 7, 3) := by decide +kernel
theorem dX9_allocate_19 : decode cX9_allocate 19 = .ok (.iconst 1, 1) := by decide +kernel
theorem dX9_allocate_20 : decode cX9_allocate 20 = .ok (.goto 4, 3) := by decide +kernel
theorem dX9_allocate_23 : decode cX9_allocate 23 = .ok (.iconst 0, 1) := by decide +kernel
theorem dX9_allocate_24 : decode cX9_allocate 24 = .ok (.invokevirtual 79, 3) := by decide +kernel
theorem dX9_allocate_27 : decode cX9_allocate 27 = .ok (.ifCond .eq 4, 3) := by decide +kernel
theorem dX9_allocate_30 : decode cX9_allocate 30 = .ok (.return_, 1) := by decide +kernel
theorem dX9_allocate_31 : decode cX9_allocate 31 = .ok (.aload_n 0, 1) := by decide +kernel
theorem dX9_allocate_32 : decode cX9_allocate 32 = .ok (.getfield 54, 3) := by decide +kernel
theorem dX9_allocate_35 : decode cX9_allocate 35 = .ok (.iload_n 1, 1) := by decide +kernel
theorem dX9_allocate_36 : decode cX9_allocate 36 = .ok (.iload_n 3, 1) := by decide +kernel
theorem dX9_allocate_37 : decode cX9_allocate 37 = .ok (.iastore, 1) := by decide +kernel
theorem dX9_allocate_38 : decode cX9_allocate 38 = .ok (.aload_n 0, 1) := by decide +kernel
theorem dX9_allocate_39 : decode cX9_allocate 39 = .ok (.getfield 57, 3) := by decide +kernel
theorem dX9_allocate_42 : decode cX9_allocate 42 = .ok (.iload_n 1, 1) := by decide +kernel
theorem dX9_allocate_43 : decode cX9_allocate 43 = .ok (.iload_n 2, 1) := by decide +kernel
theorem dX9_allocate_44 : decode cX9_allocate 44 = .ok (.bastore, 1) := by decide +kernel
theorem dX9_allocate_45 : decode cX9_allocate 45 = .ok (.iconst 0, 1) := by decide +kernel
theorem dX9_allocate_46 : decode cX9_allocate 46 = .ok (.istore 4, 2) := by decide +kernel
theorem dX9_allocate_48 : decode cX9_allocate 48 = .ok (.iload 4, 2) := by decide +kernel
theorem dX9_allocate_50 : decode cX9_allocate 50 = .ok (.iload_n 3, 1) := by decide +kernel
theorem dX9_allocate_51 : decode cX9_allocate 51 = .ok (.if_icmp .ge 19, 3) := by decide +kernel
theorem dX9_allocate_54 : decode cX9_allocate 54 = .ok (.aload_n 0, 1) := by decide +kernel
theorem dX9_allocate_55 : decode cX9_allocate 55 = .ok (.getfield 60, 3) := by decide +kernel
theorem dX9_allocate_58 : decode cX9_allocate 58 = .ok (.iload_n 1, 1) := by decide +kernel
theorem dX9_allocate_59 : decode cX9_allocate 59 = .ok (.aaload, 1) := by decide +kernel
theorem dX9_allocate_60 : decode cX9_allocate 60 = .ok (.iload 4, 2) := by decide +kernel
theorem dX9_allocate_62 : decode cX9_allocate 62 = .ok (.iconst 0, 1) := by decide +kernel
theorem dX9_allocate_63 : decode cX9_allocate 63 = .ok (.iastore, 1) := by decide +kernel
theorem dX9_allocate_64 : decode cX9_allocate 64 = .ok (.iinc 4 1, 3) := by decide +kernel
theorem dX9_allocate_67 : decode cX9_allocate 67 = .ok (.goto (-19), 3) := by decide +kernel
theorem dX9_allocate_70 : decode cX9_allocate 70 = .ok (.return_, 1) := by decide +kernel
theorem dX9_narrowed_0 : decode cX9_narrowed 0 = .ok (.aload_n 0, 1) := by decide +kernel
theorem dX9_narrowed_1 : decode cX9_narrowed 1 = .ok (.getfield 57, 3) := by decide +kernel
theorem dX9_narrowed_4 : decode cX9_narrowed 4 = .ok (.iload_n 1, 1) := by decide +kernel
theorem dX9_narrowed_5 : decode cX9_narrowed 5 = .ok (.baload, 1) := by decide +kernel
theorem dX9_narrowed_6 : decode cX9_narrowed 6 = .ok (.ifCond .eq 7, 3) := by decide +kernel
theorem dX9_narrowed_9 : decode cX9_narrowed 9 = .ok (.iload_n 2, 1) := by decide +kernel
theorem dX9_narrowed_10 : decode cX9_narrowed 10 = .ok (.goto 5, 3) := by decide +kernel
theorem dX9_narrowed_13 : decode cX9_narrowed 13 = .ok (.iload_n 2, 1) := by decide +kernel
theorem dX9_narrowed_14 : decode cX9_narrowed 14 = .ok (.i2s, 1) := by decide +kernel
theorem dX9_narrowed_15 : decode cX9_narrowed 15 = .ok (.ireturn, 1) := by decide +kernel
set_option maxRecDepth 20000 in
theorem ggX9_setElement_X9_isSlot : GoodIn wsX9_setElement wsX9_isSlot := goodIn_r _ [6, 7, 8, 5, 9] (by decide +kernel) (by decide +kernel)
set_option maxRecDepth 20000 in
theorem gX9_setElement_X9_isSlot : GoodIn wsX9_setElement (va_wsS RX9 209 yX9_isSlot wsX9_isSlot) := goodIn_app (goodIn_of _ (by decide +kernel)) ggX9_setElement_X9_isSlot
set_option maxRecDepth 20000 in
theorem ggX9_setElement_X9_fails : GoodIn wsX9_setElement wsX9_fails := goodIn_r _ [13, 14, 20, 21, 22, 23, 24, 25, 26, 27, 28, 29, 30, 31, 32, 33, 34, 35, 36, 37, 38, 39, 40, 41, 42, 43, 44, 45, 46, 47, 48, 49] (by decide +kernel) (by decide +kernel)
set_option maxRecDepth 20000 in
theorem gX9_setElement_X9_fails : GoodIn wsX9_setElement (wsV RX9 79 RX9 yX9_fails wsX9_fails) := goodIn_app (goodIn_of _ (by decide +kernel)) ggX9_setElement_X9_fails
set_option maxRecDepth 20000 in
theorem ggX9_setElement_X9_isBetween : GoodIn wsX9_setElement wsX9_isBetween := goodIn_r _ [9] (by decide +kernel) (by decide +kernel)
set_option maxRecDepth 20000 in
theorem gX9_setElement_X9_isBetween : GoodIn wsX9_setElement (va_wsS RX9 72 yX9_isBetween wsX9_isBetween) := goodIn_app (goodIn_of _ (by decide +kernel)) ggX9_setElement_X9_isBetween
set_option maxRecDepth 20000 in
theorem ggX9_setElement_X9_narrowed : GoodIn wsX9_setElement wsX9_narrowed := goodIn_r _ [18, 19, 20, 21, 22, 23, 24, 25, 26, 27, 28, 29, 30, 31, 32, 33, 34, 35, 36, 37, 38, 39, 40, 41, 42, 43, 44, 45, 46, 47, 48, 49] (by decide +kernel) (by decide +kernel)
set_option maxRecDepth 20000 in
theorem gX9_setElement_X9_narrowed : GoodIn wsX9_setElement (wsV RX9 212 RX9 yX9_narrowed wsX9_narrowed) := goodIn_app (goodIn_of _ (by decide +kernel)) ggX9_setElement_X9_narrowed
theorem dX9_setElement_0 : decode cX9_setElement 0 = .ok (.aload_n 0, 1) := by decide +kernel
theorem dX9_setElement_1 : decode cX9_setElement 1 = .ok (.iconst 1, 1) := by decide +kernel
theorem dX9_setElement_2 : decode cX9_setElement 2 = .ok (.iload_n 1, 1) := by decide +kernel
theorem dX9_setElement_3 : decode cX9_setElement 3 = .ok (.invokestatic 209, 3) := by decide +kernel
theorem dX9_setElement_6 : decode cX9_setElement 6 = .ok (.ifCond .ne 7, 3) := by decide +kernel
theorem dX9_setElement_9 : decode cX9_setElement 9 = .ok (.iconst 1, 1) := by decide +kernel
theorem dX9_setElement_10 : decode cX9_setElement 10 = .ok (.goto 4, 3) := by decide +kernel
theorem dX9_setElement_13 : decode cX9_setElement 13 = .ok (.iconst 0, 1) := by decide +kernel
theorem dX9_setElement_14 : decode cX9_setElement 14 = .ok (.invokevirtual 79, 3) := by decide +kernel
theorem dX9_setElement_17 : decode cX9_setElement 17 = .ok (.ifCond .ne 54, 3) := by decide +kernel
theorem dX9_setElement_20 : decode cX9_setElement 20 = .ok (.aload_n 0, 1) := by decide +kernel
theorem dX9_setElement_21 : decode cX9_setElement 21 = .ok (.iconst 2, 1) := by decide +kernel
theorem dX9_setElement_22 : decode cX9_setElement 22 = .ok (.aload_n 0, 1) := by decide +kernel
theorem dX9_setElement_23 : decode cX9_setElement 23 = .ok (.getfield 54, 3) := by decide +kernel
theorem dX9_setElement_26 : decode cX9_setElement 26 = .ok (.iload_n 1, 1) := by decide +kernel
theorem dX9_setElement_27 : decode cX9_setElement 27 = .ok (.iaload, 1) := by decide +kernel
theorem dX9_setElement_28 : decode cX9_setElement 28 = .ok (.ifCond .ge 7, 3) := by decide +kernel
theorem dX9_setElement_31 : decode cX9_setElement 31 = .ok (.iconst 1, 1) := by decide +kernel
theorem dX9_setElement_32 : decode cX9_setElement 32 = .ok (.goto 4, 3) := by decide +kernel
theorem dX9_setElement_35 : decode cX9_setElement 35 = .ok (.iconst 0, 1) := by decide +kernel
theorem dX9_setElement_36 : decode cX9_setElement 36 = .ok (.invokevirtual 79, 3) := by decide +kernel
theorem dX9_setElement_39 : decode cX9_setElement 39 = .ok (.ifCond .ne 32, 3) := by decide +kernel
theorem dX9_setElement_42 : decode cX9_setElement 42 = .ok (.aload_n 0, 1) := by decide +kernel
theorem dX9_setElement_43 : decode cX9_setElement 43 = .ok (.iconst 3, 1) := by decide +kernel
theorem dX9_setElement_44 : decode cX9_setElement 44 = .ok (.iload_n 2, 1) := by decide +kernel
theorem dX9_setElement_45 : decode cX9_setElement 45 = .ok (.iconst 0, 1) := by decide +kernel
theorem dX9_setElement_46 : decode cX9_setElement 46 = .ok (.aload_n 0, 1) := by decide +kernel
theorem dX9_setElement_47 : decode cX9_setElement 47 = .ok (.getfield 54, 3) := by decide +kernel
theorem dX9_setElement_50 : decode cX9_setElement 50 = .ok (.iload_n 1, 1) := by decide +kernel
theorem dX9_setElement_51 : decode cX9_setElement 51 = .ok (.iaload, 1) := by decide +kernel
theorem dX9_setElement_52 : decode cX9_setElement 52 = .ok (.iconst 1, 1) := by decide +kernel
theorem dX9_setElement_53 : decode cX9_setElement 53 = .ok (.isub, 1) := by decide +kernel
theorem dX9_setElement_54 : decode cX9_setElement 54 = .ok (.invokestatic 72, 3) := by decide +kernel
theorem dX9_setElement_57 : decode cX9_setElement 57 = .ok (.ifCond .ne 7, 3) := by decide +kernel
theorem dX9_setElement_60 : decode cX9_setElement 60 = .ok (.iconst 1, 1) := by decide +kernel
theorem dX9_setElement_61 : decode cX9_setElement 61 = .ok (.goto 4, 3) := by decide +kernel
theorem dX9_setElement_64 : decode cX9_setElement 64 = .ok (.iconst 0, 1) := by decide +kernel
theorem dX9_setElement_65 : decode cX9_setElement 65 = .ok (.invokevirtual 79, 3) := by decide +kernel
theorem dX9_setElement_68 : decode cX9_setElement 68 = .ok (.ifCond .eq 5, 3) := by decide +kernel
theorem dX9_setElement_71 : decode cX9_setElement 71 = .ok (.iconst 0, 1) := by decide +kernel
theorem dX9_setElement_72 : decode cX9_setElement 72 = .ok (.ireturn, 1) := by decide +kernel
theorem dX9_setElement_73 : decode cX9_setElement 73 = .ok (.aload_n 0, 1) := by decide +kernel
theorem dX9_setElement_74 : decode cX9_setElement 74 = .ok (.getfield 60, 3) := by decide +kernel
theorem dX9_setElement_77 : decode cX9_setElement 77 = .ok (.iload_n 1, 1) := by decide +kernel
theorem dX9_setElement_78 : decode cX9_setElement 78 = .ok (.aaload, 1) := by decide +kernel
theorem dX9_setElement_79 : decode cX9_setElement 79 = .ok (.iload_n 2, 1) := by decide +kernel
theorem dX9_setElement_80 : decode cX9_setElement 80 = .ok (.iaload, 1) := by decide +kernel
theorem dX9_setElement_81 : decode cX9_setElement 81 = .ok (.istore 4, 2) := by decide +kernel
theorem dX9_setElement_83 : decode cX9_setElement 83 = .ok (.aload_n 0, 1) := by decide +kernel
theorem dX9_setElement_84 : decode cX9_setElement 84 = .ok (.getfield 60, 3) := by decide +kernel
theorem dX9_setElement_87 : decode cX9_setElement 87 = .ok (.iload_n 1, 1) := by decide +kernel
theorem dX9_setElement_88 : decode cX9_setElement 88 = .ok (.aaload, 1) := by decide +kernel
theorem dX9_setElement_89 : decode cX9_setElement 89 = .ok (.iload_n 2, 1) := by decide +kernel
theorem dX9_setElement_90 : decode cX9_setElement 90 = .ok (.aload_n 0, 1) := by decide +kernel
theorem dX9_setElement_91 : decode cX9_setElement 91 = .ok (.iload_n 1, 1) := by decide +kernel
theorem dX9_setElement_92 : decode cX9_setElement 92 = .ok (.iload_n 3, 1) := by decide +kernel
theorem dX9_setElement_93 : decode cX9_setElement 93 = .ok (.invokevirtual 212, 3) := by decide +kernel
theorem dX9_setElement_96 : decode cX9_setElement 96 = .ok (.iastore, 1) := by decide +kernel
theorem dX9_setElement_97 : decode cX9_setElement 97 = .ok (.iload 4, 2) := by decide +kernel
theorem dX9_setElement_99 : decode cX9_setElement 99 = .ok (.ireturn, 1) := by decide +kernel
set_option maxRecDepth 20000 in
theorem ggX9_storeCounts_X9_isSlot : GoodIn wsX9_storeCounts wsX9_isSlot := goodIn_r _ [6, 7, 8, 5, 9] (by decide +kernel) (by decide +kernel)
set_option maxRecDepth 20000 in
theorem gX9_storeCounts_X9_isSlot : GoodIn wsX9_storeCounts (va_wsS RX9 209 yX9_isSlot wsX9_isSlot) := goodIn_app (goodIn_of _ (by decide +kernel)) ggX9_storeCounts_X9_isSlot
set_option maxRecDepth 20000 in
theorem ggX9_storeCounts_X9_fails : GoodIn wsX9_storeCounts wsX9_fails := goodIn_r _ [13, 14, 54, 55, 56, 57, 58, 59, 60, 61, 62, 63, 64, 65, 66, 67, 68, 69, 70, 71, 72, 73, 74, 75, 76, 77, 78, 79, 80, 81, 82, 83] (by decide +kernel) (by decide +kernel)
set_option maxRecDepth 20000 in
theorem gX9_storeCounts_X9_fails : GoodIn wsX9_storeCounts (wsV RX9 79 RX9 yX9_fails wsX9_fails) := goodIn_app (goodIn_of _ (by decide +kernel)) ggX9_storeCounts_X9_fails
set_option maxRecDepth 20000 in
theorem ggX9_storeCounts_X9_isBetween : GoodIn wsX9_storeCounts wsX9_isBetween := goodIn_r _ [9] (by decide +kernel) (by decide +kernel)
set_option maxRecDepth 20000 in
theorem gX9_storeCounts_X9_isBetween : GoodIn wsX9_storeCounts (va_wsS RX9 72 yX9_isBetween wsX9_isBetween) := goodIn_app (goodIn_of _ (by decide +kernel)) ggX9_storeCounts_X9_isBetween
set_option maxRecDepth 20000 in
theorem ggX9_storeCounts_X9_countWords : GoodIn wsX9_storeCounts wsX9_countWords := goodIn_r _ [18, 19, 20, 21, 5, 22, 23, 24, 25, 26, 27, 28, 29, 30, 31, 32, 33, 34, 35, 36, 37, 38, 39, 40, 41, 42, 43, 44, 45, 46, 47, 48, 54, 55, 56, 57, 58, 59, 60, 61, 62, 63, 64, 65, 66, 67, 68, 69, 70, 71, 72, 73, 74, 75, 76, 77, 78, 79, 80, 81, 82, 83] (by decide +kernel) (by decide +kernel)
set_option maxRecDepth 20000 in
theorem gX9_storeCounts_X9_countWords : GoodIn wsX9_storeCounts (wsV RX9 159 RX9 yX9_countWords wsX9_countWords) := goodIn_app (goodIn_of _ (by decide +kernel)) ggX9_storeCounts_X9_countWords
set_option maxRecDepth 20000 in
theorem ggX9_storeCounts_X9_narrowed : GoodIn wsX9_storeCounts wsX9_narrowed := goodIn_r _ [52, 53, 54, 55, 56, 57, 58, 59, 60, 61, 62, 63, 64, 65, 66, 67, 68, 69, 70, 71, 72, 73, 74, 75, 76, 77, 78, 79, 80, 81, 82, 83] (by decide +kernel) (by decide +kernel)
set_option maxRecDepth 20000 in
theorem gX9_storeCounts_X9_narrowed : GoodIn wsX9_storeCounts (wsV RX9 212 RX9 yX9_narrowed wsX9_narrowed) := goodIn_app (goodIn_of _ (by decide +kernel)) ggX9_storeCounts_X9_narrowed
theorem dX9_storeCounts_0 : decode cX9_storeCounts 0 = .ok (.aload_n 0, 1) := by decide +kernel
theorem dX9_storeCounts_1 : decode cX9_storeCounts 1 = .ok (.iconst 1, 1) := by decide +kernel
theorem dX9_storeCounts_2 : decode cX9_storeCounts 2 = .ok (.iload_n 1, 1) := by decide +kernel
theorem dX9_storeCounts_3 : decode cX9_storeCounts 3 = .ok (.invokestatic 209, 3) := by decide +kernel
theorem dX9_storeCounts_6 : decode cX9_storeCounts 6 = .ok (.ifCond .ne 7, 3) := by decide +kernel
theorem dX9_storeCounts_9 : decode cX9_storeCounts 9 = .ok (.iconst 1, 1) := by decide +kernel
theorem dX9_storeCounts_10 : decode cX9_storeCounts 10 = .ok (.goto 4, 3) := by decide +kernel
theorem dX9_storeCounts_13 : decode cX9_storeCounts 13 = .ok (.iconst 0, 1) := by decide +kernel
theorem dX9_storeCounts_14 : decode cX9_storeCounts 14 = .ok (.invokevirtual 79, 3) := by decide +kernel
theorem dX9_storeCounts_17 : decode cX9_storeCounts 17 = .ok (.ifCond .ne 55, 3) := by decide +kernel
theorem dX9_storeCounts_20 : decode cX9_storeCounts 20 = .ok (.aload_n 0, 1) := by decide +kernel
theorem dX9_storeCounts_21 : decode cX9_storeCounts 21 = .ok (.iconst 2, 1) := by decide +kernel
theorem dX9_storeCounts_22 : decode cX9_storeCounts 22 = .ok (.aload_n 0, 1) := by decide +kernel
theorem dX9_storeCounts_23 : decode cX9_storeCounts 23 = .ok (.getfield 54, 3) := by decide +kernel
theorem dX9_storeCounts_26 : decode cX9_storeCounts 26 = .ok (.iload_n 1, 1) := by decide +kernel
theorem dX9_storeCounts_27 : decode cX9_storeCounts 27 = .ok (.iaload, 1) := by decide +kernel
theorem dX9_storeCounts_28 : decode cX9_storeCounts 28 = .ok (.ifCond .ge 7, 3) := by decide +kernel
theorem dX9_storeCounts_31 : decode cX9_storeCounts 31 = .ok (.iconst 1, 1) := by decide +kernel
theorem dX9_storeCounts_32 : decode cX9_storeCounts 32 = .ok (.goto 4, 3) := by decide +kernel
theorem dX9_storeCounts_35 : decode cX9_storeCounts 35 = .ok (.iconst 0, 1) := by decide +kernel
theorem dX9_storeCounts_36 : decode cX9_storeCounts 36 = .ok (.invokevirtual 79, 3) := by decide +kernel
theorem dX9_storeCounts_39 : decode cX9_storeCounts 39 = .ok (.ifCond .ne 33, 3) := by decide +kernel
theorem dX9_storeCounts_42 : decode cX9_storeCounts 42 = .ok (.aload_n 0, 1) := by decide +kernel
theorem dX9_storeCounts_43 : decode cX9_storeCounts 43 = .ok (.iconst 3, 1) := by decide +kernel
theorem dX9_storeCounts_44 : decode cX9_storeCounts 44 = .ok (.iload_n 2, 1) := by decide +kernel
theorem dX9_storeCounts_45 : decode cX9_storeCounts 45 = .ok (.iconst 0, 1) := by decide +kernel
theorem dX9_storeCounts_46 : decode cX9_storeCounts 46 = .ok (.aload_n 0, 1) := by decide +kernel
theorem dX9_storeCounts_47 : decode cX9_storeCounts 47 = .ok (.getfield 54, 3) := by decide +kernel
theorem dX9_storeCounts_50 : decode cX9_storeCounts 50 = .ok (.iload_n 1, 1) := by decide +kernel
theorem dX9_storeCounts_51 : decode cX9_storeCounts 51 = .ok (.iaload, 1) := by decide +kernel
theorem dX9_storeCounts_52 : decode cX9_storeCounts 52 = .ok (.bipush 6, 2) := by decide +kernel
theorem dX9_storeCounts_54 : decode cX9_storeCounts 54 = .ok (.isub, 1) := by decide +kernel
theorem dX9_storeCounts_55 : decode cX9_storeCounts 55 = .ok (.invokestatic 72, 3) := by decide +kernel
theorem dX9_storeCounts_58 : decode cX9_storeCounts 58 = .ok (.ifCond .ne 7, 3) := by decide +kernel
theorem dX9_storeCounts_61 : decode cX9_storeCounts 61 = .ok (.iconst 1, 1) := by decide +kernel
theorem dX9_storeCounts_62 : decode cX9_storeCounts 62 = .ok (.goto 4, 3) := by decide +kernel
theorem dX9_storeCounts_65 : decode cX9_storeCounts 65 = .ok (.iconst 0, 1) := by decide +kernel
theorem dX9_storeCounts_66 : decode cX9_storeCounts 66 = .ok (.invokevirtual 79, 3) := by decide +kernel
theorem dX9_storeCounts_69 : decode cX9_storeCounts 69 = .ok (.ifCond .eq 4, 3) := by decide +kernel
theorem dX9_storeCounts_72 : decode cX9_storeCounts 72 = .ok (.return_, 1) := by decide +kernel
theorem dX9_storeCounts_73 : decode cX9_storeCounts 73 = .ok (.iconst 1, 1) := by decide +kernel
theorem dX9_storeCounts_74 : decode cX9_storeCounts 74 = .ok (.istore_n 3, 1) := by decide +kernel
theorem dX9_storeCounts_75 : decode cX9_storeCounts 75 = .ok (.iload_n 3, 1) := by decide +kernel
theorem dX9_storeCounts_76 : decode cX9_storeCounts 76 = .ok (.bipush 6, 2) := by decide +kernel
theorem dX9_storeCounts_78 : decode cX9_storeCounts 78 = .ok (.if_icmp .gt 32, 3) := by decide +kernel
theorem dX9_storeCounts_81 : decode cX9_storeCounts 81 = .ok (.aload_n 0, 1) := by decide +kernel
theorem dX9_storeCounts_82 : decode cX9_storeCounts 82 = .ok (.getfield 60, 3) := by decide +kernel
theorem dX9_storeCounts_85 : decode cX9_storeCounts 85 = .ok (.iload_n 1, 1) := by decide +kernel
theorem dX9_storeCounts_86 : decode cX9_storeCounts 86 = .ok (.aaload, 1) := by decide +kernel
theorem dX9_storeCounts_87 : decode cX9_storeCounts 87 = .ok (.iload_n 2, 1) := by decide +kernel
theorem dX9_storeCounts_88 : decode cX9_storeCounts 88 = .ok (.iload_n 3, 1) := by decide +kernel
theorem dX9_storeCounts_89 : decode cX9_storeCounts 89 = .ok (.iadd, 1) := by decide +kernel
theorem dX9_storeCounts_90 : decode cX9_storeCounts 90 = .ok (.iconst 1, 1) := by decide +kernel
theorem dX9_storeCounts_91 : decode cX9_storeCounts 91 = .ok (.isub, 1) := by decide +kernel
theorem dX9_storeCounts_92 : decode cX9_storeCounts 92 = .ok (.aload_n 0, 1) := by decide +kernel
theorem dX9_storeCounts_93 : decode cX9_storeCounts 93 = .ok (.iload_n 1, 1) := by decide +kernel
theorem dX9_storeCounts_94 : decode cX9_storeCounts 94 = .ok (.aload_n 0, 1) := by decide +kernel
theorem dX9_storeCounts_95 : decode cX9_storeCounts 95 = .ok (.iload_n 3, 1) := by decide +kernel
theorem dX9_storeCounts_96 : decode cX9_storeCounts 96 = .ok (.iconst 3, 1) := by decide +kernel
theorem dX9_storeCounts_97 : decode cX9_storeCounts 97 = .ok (.invokevirtual 159, 3) := by decide +kernel
theorem dX9_storeCounts_100 : decode cX9_storeCounts 100 = .ok (.invokevirtual 212, 3) := by decide +kernel
theorem dX9_storeCounts_103 : decode cX9_storeCounts 103 = .ok (.iastore, 1) := by decide +kernel
theorem dX9_storeCounts_104 : decode cX9_storeCounts 104 = .ok (.iinc 3 1, 3) := by decide +kernel
theorem dX9_storeCounts_107 : decode cX9_storeCounts 107 = .ok (.goto (-32), 3) := by decide +kernel
theorem dX9_storeCounts_110 : decode cX9_storeCounts 110 = .ok (.return_, 1) := by decide +kernel
set_option maxRecDepth 20000 in
theorem ggX9_areTerminals_X9_isBetween : GoodIn wsX9_areTerminals wsX9_isBetween := goodIn_r _ [6] (by decide +kernel) (by decide +kernel)
set_option maxRecDepth 20000 in
theorem gX9_areTerminals_X9_isBetween : GoodIn wsX9_areTerminals (va_wsS RX9 72 yX9_isBetween wsX9_isBetween) := goodIn_app (goodIn_of _ (by decide +kernel)) ggX9_areTerminals_X9_isBetween
theorem dX9_areTerminals_0 : decode cX9_areTerminals 0 = .ok (.iconst 0, 1) := by decide +kernel
theorem dX9_areTerminals_1 : decode cX9_areTerminals 1 = .ok (.istore 4, 2) := by decide +kernel
theorem dX9_areTerminals_3 : decode cX9_areTerminals 3 = .ok (.iload 4, 2) := by decide +kernel
theorem dX9_areTerminals_5 : decode cX9_areTerminals 5 = .ok (.iload_n 3, 1) := by decide +kernel
theorem dX9_areTerminals_6 : decode cX9_areTerminals 6 = .ok (.if_icmp .ge 35, 3) := by decide +kernel
theorem dX9_areTerminals_9 : decode cX9_areTerminals 9 = .ok (.aload_n 0, 1) := by decide +kernel
theorem dX9_areTerminals_10 : decode cX9_areTerminals 10 = .ok (.getfield 60, 3) := by decide +kernel
theorem dX9_areTerminals_13 : decode cX9_areTerminals 13 = .ok (.iload_n 1, 1) := by decide +kernel
theorem dX9_areTerminals_14 : decode cX9_areTerminals 14 = .ok (.aaload, 1) := by decide +kernel
theorem dX9_areTerminals_15 : decode cX9_areTerminals 15 = .ok (.iload_n 2, 1) := by decide +kernel
theorem dX9_areTerminals_16 : decode cX9_areTerminals 16 = .ok (.iload 4, 2) := by decide +kernel
theorem dX9_areTerminals_18 : decode cX9_areTerminals 18 = .ok (.iadd, 1) := by decide +kernel
theorem dX9_areTerminals_19 : decode cX9_areTerminals 19 = .ok (.iaload, 1) := by decide +kernel
theorem dX9_areTerminals_20 : decode cX9_areTerminals 20 = .ok (.iconst 0, 1) := by decide +kernel
theorem dX9_areTerminals_21 : decode cX9_areTerminals 21 = .ok (.aload_n 0, 1) := by decide +kernel
theorem dX9_areTerminals_22 : decode cX9_areTerminals 22 = .ok (.getfield 13, 3) := by decide +kernel
theorem dX9_areTerminals_25 : decode cX9_areTerminals 25 = .ok (.iconst 1, 1) := by decide +kernel
theorem dX9_areTerminals_26 : decode cX9_areTerminals 26 = .ok (.isub, 1) := by decide +kernel
theorem dX9_areTerminals_27 : decode cX9_areTerminals 27 = .ok (.invokestatic 72, 3) := by decide +kernel
theorem dX9_areTerminals_30 : decode cX9_areTerminals 30 = .ok (.ifCond .ne 5, 3) := by decide +kernel
theorem dX9_areTerminals_33 : decode cX9_areTerminals 33 = .ok (.iconst 0, 1) := by decide +kernel
theorem dX9_areTerminals_34 : decode cX9_areTerminals 34 = .ok (.ireturn, 1) := by decide +kernel
theorem dX9_areTerminals_35 : decode cX9_areTerminals 35 = .ok (.iinc 4 1, 3) := by decide +kernel
theorem dX9_areTerminals_38 : decode cX9_areTerminals 38 = .ok (.goto (-35), 3) := by decide +kernel
theorem dX9_areTerminals_41 : decode cX9_areTerminals 41 = .ok (.iconst 1, 1) := by decide +kernel
theorem dX9_areTerminals_42 : decode cX9_areTerminals 42 = .ok (.ireturn, 1) := by decide +kernel
set_option maxRecDepth 20000 in
theorem ggX9_loadWord_X9_isSlot : GoodIn wsX9_loadWord wsX9_isSlot := goodIn_r _ [9, 10, 11, 8, 12] (by decide +kernel) (by decide +kernel)
set_option maxRecDepth 20000 in
theorem gX9_loadWord_X9_isSlot : GoodIn wsX9_loadWord (va_wsS RX9 209 yX9_isSlot wsX9_isSlot) := goodIn_app (goodIn_of _ (by decide +kernel)) ggX9_loadWord_X9_isSlot
set_option maxRecDepth 20000 in
theorem ggX9_loadWord_X9_isBetween : GoodIn wsX9_loadWord wsX9_isBetween := goodIn_r _ [12] (by decide +kernel) (by decide +kernel)
set_option maxRecDepth 20000 in
theorem gX9_loadWord_X9_isBetween : GoodIn wsX9_loadWord (va_wsS RX9 72 yX9_isBetween wsX9_isBetween) := goodIn_app (goodIn_of _ (by decide +kernel)) ggX9_loadWord_X9_isBetween
set_option maxRecDepth 20000 in
theorem ggX9_loadWord_X9_fails : GoodIn wsX9_loadWord wsX9_fails := goodIn_r _ [16, 17, 23, 24, 25, 26, 27, 28, 29, 30, 31, 32, 33, 34, 35, 36, 37, 38, 39, 40, 41, 42, 43, 44, 45, 46, 47, 48, 49, 50, 51, 52] (by decide +kernel) (by decide +kernel)
set_option maxRecDepth 20000 in
theorem gX9_loadWord_X9_fails : GoodIn wsX9_loadWord (wsV RX9 79 RX9 yX9_fails wsX9_fails) := goodIn_app (goodIn_of _ (by decide +kernel)) ggX9_loadWord_X9_fails
set_option maxRecDepth 20000 in
theorem ggX9_loadWord_X9_areTerminals : GoodIn wsX9_loadWord wsX9_areTerminals := goodIn_r _ [21, 3, 22, 10, 11, 8, 12, 23, 24, 25, 26, 27, 28, 29, 30, 31, 32, 33, 34, 35, 36, 37, 38, 39, 40, 41, 42, 43, 44, 45, 46, 47, 48, 49, 50, 51, 52] (by decide +kernel) (by decide +kernel)
set_option maxRecDepth 20000 in
theorem gX9_loadWord_X9_areTerminals : GoodIn wsX9_loadWord (wsV RX9 215 RX9 yX9_areTerminals wsX9_areTerminals) := goodIn_app (goodIn_of _ (by decide +kernel)) ggX9_loadWord_X9_areTerminals
theorem dX9_loadWord_0 : decode cX9_loadWord 0 = .ok (.aload_n 0, 1) := by decide +kernel
theorem dX9_loadWord_1 : decode cX9_loadWord 1 = .ok (.iconst 1, 1) := by decide +kernel
theorem dX9_loadWord_2 : decode cX9_loadWord 2 = .ok (.iload_n 1, 1) := by decide +kernel
theorem dX9_loadWord_3 : decode cX9_loadWord 3 = .ok (.invokestatic 209, 3) := by decide +kernel
theorem dX9_loadWord_6 : decode cX9_loadWord 6 = .ok (.ifCond .eq 13, 3) := by decide +kernel
theorem dX9_loadWord_9 : decode cX9_loadWord 9 = .ok (.iload_n 3, 1) := by decide +kernel
theorem dX9_loadWord_10 : decode cX9_loadWord 10 = .ok (.iconst 0, 1) := by decide +kernel
theorem dX9_loadWord_11 : decode cX9_loadWord 11 = .ok (.bipush 8, 2) := by decide +kernel
theorem dX9_loadWord_13 : decode cX9_loadWord 13 = .ok (.invokestatic 72, 3) := by decide +kernel
theorem dX9_loadWord_16 : decode cX9_loadWord 16 = .ok (.ifCond .ne 7, 3) := by decide +kernel
theorem dX9_loadWord_19 : decode cX9_loadWord 19 = .ok (.iconst 1, 1) := by decide +kernel
theorem dX9_loadWord_20 : decode cX9_loadWord 20 = .ok (.goto 4, 3) := by decide +kernel
theorem dX9_loadWord_23 : decode cX9_loadWord 23 = .ok (.iconst 0, 1) := by decide +kernel
theorem dX9_loadWord_24 : decode cX9_loadWord 24 = .ok (.invokevirtual 79, 3) := by decide +kernel
theorem dX9_loadWord_27 : decode cX9_loadWord 27 = .ok (.ifCond .ne 25, 3) := by decide +kernel
theorem dX9_loadWord_30 : decode cX9_loadWord 30 = .ok (.aload_n 0, 1) := by decide +kernel
theorem dX9_loadWord_31 : decode cX9_loadWord 31 = .ok (.iconst 2, 1) := by decide +kernel
theorem dX9_loadWord_32 : decode cX9_loadWord 32 = .ok (.aload_n 0, 1) := by decide +kernel
theorem dX9_loadWord_33 : decode cX9_loadWord 33 = .ok (.getfield 54, 3) := by decide +kernel
theorem dX9_loadWord_36 : decode cX9_loadWord 36 = .ok (.iload_n 1, 1) := by decide +kernel
theorem dX9_loadWord_37 : decode cX9_loadWord 37 = .ok (.iaload, 1) := by decide +kernel
theorem dX9_loadWord_38 : decode cX9_loadWord 38 = .ok (.ifCond .ge 7, 3) := by decide +kernel
theorem dX9_loadWord_41 : decode cX9_loadWord 41 = .ok (.iconst 1, 1) := by decide +kernel
theorem dX9_loadWord_42 : decode cX9_loadWord 42 = .ok (.goto 4, 3) := by decide +kernel
theorem dX9_loadWord_45 : decode cX9_loadWord 45 = .ok (.iconst 0, 1) := by decide +kernel
theorem dX9_loadWord_46 : decode cX9_loadWord 46 = .ok (.invokevirtual 79, 3) := by decide +kernel
theorem dX9_loadWord_49 : decode cX9_loadWord 49 = .ok (.ifCond .eq 4, 3) := by decide +kernel
theorem dX9_loadWord_52 : decode cX9_loadWord 52 = .ok (.return_, 1) := by decide +kernel
theorem dX9_loadWord_53 : decode cX9_loadWord 53 = .ok (.iload_n 3, 1) := by decide +kernel
theorem dX9_loadWord_54 : decode cX9_loadWord 54 = .ok (.ifCond .eq 23, 3) := by decide +kernel
theorem dX9_loadWord_57 : decode cX9_loadWord 57 = .ok (.iload_n 2, 1) := by decide +kernel
theorem dX9_loadWord_58 : decode cX9_loadWord 58 = .ok (.ifCond .lt 23, 3) := by decide +kernel
theorem dX9_loadWord_61 : decode cX9_loadWord 61 = .ok (.iload_n 2, 1) := by decide +kernel
theorem dX9_loadWord_62 : decode cX9_loadWord 62 = .ok (.i2l, 1) := by decide +kernel
theorem dX9_loadWord_63 : decode cX9_loadWord 63 = .ok (.iload_n 3, 1) := by decide +kernel
theorem dX9_loadWord_64 : decode cX9_loadWord 64 = .ok (.i2l, 1) := by decide +kernel
theorem dX9_loadWord_65 : decode cX9_loadWord 65 = .ok (.ladd, 1) := by decide +kernel
theorem dX9_loadWord_66 : decode cX9_loadWord 66 = .ok (.aload_n 0, 1) := by decide +kernel
theorem dX9_loadWord_67 : decode cX9_loadWord 67 = .ok (.getfield 54, 3) := by decide +kernel
theorem dX9_loadWord_70 : decode cX9_loadWord 70 = .ok (.iload_n 1, 1) := by decide +kernel
theorem dX9_loadWord_71 : decode cX9_loadWord 71 = .ok (.iaload, 1) := by decide +kernel
theorem dX9_loadWord_72 : decode cX9_loadWord 72 = .ok (.i2l, 1) := by decide +kernel
theorem dX9_loadWord_73 : decode cX9_loadWord 73 = .ok (.lcmp, 1) := by decide +kernel
theorem dX9_loadWord_74 : decode cX9_loadWord 74 = .ok (.ifCond .gt 7, 3) := by decide +kernel
theorem dX9_loadWord_77 : decode cX9_loadWord 77 = .ok (.iconst 1, 1) := by decide +kernel
theorem dX9_loadWord_78 : decode cX9_loadWord 78 = .ok (.goto 4, 3) := by decide +kernel
theorem dX9_loadWord_81 : decode cX9_loadWord 81 = .ok (.iconst 0, 1) := by decide +kernel
theorem dX9_loadWord_82 : decode cX9_loadWord 82 = .ok (.istore 4, 2) := by decide +kernel
theorem dX9_loadWord_84 : decode cX9_loadWord 84 = .ok (.aload_n 0, 1) := by decide +kernel
theorem dX9_loadWord_85 : decode cX9_loadWord 85 = .ok (.iconst 3, 1) := by decide +kernel
theorem dX9_loadWord_86 : decode cX9_loadWord 86 = .ok (.iload 4, 2) := by decide +kernel
theorem dX9_loadWord_88 : decode cX9_loadWord 88 = .ok (.ifCond .ne 7, 3) := by decide +kernel
theorem dX9_loadWord_91 : decode cX9_loadWord 91 = .ok (.iconst 1, 1) := by decide +kernel
theorem dX9_loadWord_92 : decode cX9_loadWord 92 = .ok (.goto 4, 3) := by decide +kernel
theorem dX9_loadWord_95 : decode cX9_loadWord 95 = .ok (.iconst 0, 1) := by decide +kernel
theorem dX9_loadWord_96 : decode cX9_loadWord 96 = .ok (.invokevirtual 79, 3) := by decide +kernel
theorem dX9_loadWord_99 : decode cX9_loadWord 99 = .ok (.ifCond .ne 26, 3) := by decide +kernel
theorem dX9_loadWord_102 : decode cX9_loadWord 102 = .ok (.aload_n 0, 1) := by decide +kernel
theorem dX9_loadWord_103 : decode cX9_loadWord 103 = .ok (.iconst 4, 1) := by decide +kernel
theorem dX9_loadWord_104 : decode cX9_loadWord 104 = .ok (.aload_n 0, 1) := by decide +kernel
theorem dX9_loadWord_105 : decode cX9_loadWord 105 = .ok (.iload_n 1, 1) := by decide +kernel
theorem dX9_loadWord_106 : decode cX9_loadWord 106 = .ok (.iload_n 2, 1) := by decide +kernel
theorem dX9_loadWord_107 : decode cX9_loadWord 107 = .ok (.iload_n 3, 1) := by decide +kernel
theorem dX9_loadWord_108 : decode cX9_loadWord 108 = .ok (.invokevirtual 215, 3) := by decide +kernel
theorem dX9_loadWord_111 : decode cX9_loadWord 111 = .ok (.ifCond .ne 7, 3) := by decide +kernel
theorem dX9_loadWord_114 : decode cX9_loadWord 114 = .ok (.iconst 1, 1) := by decide +kernel
theorem dX9_loadWord_115 : decode cX9_loadWord 115 = .ok (.goto 4, 3) := by decide +kernel
theorem dX9_loadWord_118 : decode cX9_loadWord 118 = .ok (.iconst 0, 1) := by decide +kernel
theorem dX9_loadWord_119 : decode cX9_loadWord 119 = .ok (.invokevirtual 79, 3) := by decide +kernel
theorem dX9_loadWord_122 : decode cX9_loadWord 122 = .ok (.ifCond .eq 4, 3) := by decide +kernel
theorem dX9_loadWord_125 : decode cX9_loadWord 125 = .ok (.return_, 1) := by decide +kernel
theorem dX9_loadWord_126 : decode cX9_loadWord 126 = .ok (.iconst 0, 1) := by decide +kernel
theorem dX9_loadWord_127 : decode cX9_loadWord 127 = .ok (.istore 5, 2) := by decide +kernel
theorem dX9_loadWord_129 : decode cX9_loadWord 129 = .ok (.iload 5, 2) := by decide +kernel
theorem dX9_loadWord_131 : decode cX9_loadWord 131 = .ok (.iload_n 3, 1) := by decide +kernel
theorem dX9_loadWord_132 : decode cX9_loadWord 132 = .ok (.if_icmp .ge 27, 3) := by decide +kernel
theorem dX9_loadWord_135 : decode cX9_loadWord 135 = .ok (.aload_n 0, 1) := by decide +kernel
theorem dX9_loadWord_136 : decode cX9_loadWord 136 = .ok (.getfield 21, 3) := by decide +kernel
theorem dX9_loadWord_139 : decode cX9_loadWord 139 = .ok (.iload 5, 2) := by decide +kernel
theorem dX9_loadWord_141 : decode cX9_loadWord 141 = .ok (.aload_n 0, 1) := by decide +kernel
theorem dX9_loadWord_142 : decode cX9_loadWord 142 = .ok (.getfield 60, 3) := by decide +kernel
theorem dX9_loadWord_145 : decode cX9_loadWord 145 = .ok (.iload_n 1, 1) := by decide +kernel
theorem dX9_loadWord_146 : decode cX9_loadWord 146 = .ok (.aaload, 1) := by decide +kernel
theorem dX9_loadWord_147 : decode cX9_loadWord 147 = .ok (.iload_n 2, 1) := by decide +kernel
theorem dX9_loadWord_148 : decode cX9_loadWord 148 = .ok (.iload 5, 2) := by decide +kernel
theorem dX9_loadWord_150 : decode cX9_loadWord 150 = .ok (.iadd, 1) := by decide +kernel
theorem dX9_loadWord_151 : decode cX9_loadWord 151 = .ok (.iaload, 1) := by decide +kernel
theorem dX9_loadWord_152 : decode cX9_loadWord 152 = .ok (.iastore, 1) := by decide +kernel
theorem dX9_loadWord_153 : decode cX9_loadWord 153 = .ok (.iinc 5 1, 3) := by decide +kernel
theorem dX9_loadWord_156 : decode cX9_loadWord 156 = .ok (.goto (-27), 3) := by decide +kernel
theorem dX9_loadWord_159 : decode cX9_loadWord 159 = .ok (.aload_n 0, 1) := by decide +kernel
theorem dX9_loadWord_160 : decode cX9_loadWord 160 = .ok (.iload_n 3, 1) := by decide +kernel
theorem dX9_loadWord_161 : decode cX9_loadWord 161 = .ok (.putfield 86, 3) := by decide +kernel
theorem dX9_loadWord_164 : decode cX9_loadWord 164 = .ok (.aload_n 0, 1) := by decide +kernel
theorem dX9_loadWord_165 : decode cX9_loadWord 165 = .ok (.iconst 0, 1) := by decide +kernel
theorem dX9_loadWord_166 : decode cX9_loadWord 166 = .ok (.putfield 89, 3) := by decide +kernel
theorem dX9_loadWord_169 : decode cX9_loadWord 169 = .ok (.return_, 1) := by decide +kernel
theorem dX9_copyTable_0 : decode cX9_copyTable 0 = .ok (.iconst 0, 1) := by decide +kernel
theorem dX9_copyTable_1 : decode cX9_copyTable 1 = .ok (.istore_n 2, 1) := by decide +kernel
theorem dX9_copyTable_2 : decode cX9_copyTable 2 = .ok (.iload_n 2, 1) := by decide +kernel
theorem dX9_copyTable_3 : decode cX9_copyTable 3 = .ok (.bipush 24, 2) := by decide +kernel
theorem dX9_copyTable_5 : decode cX9_copyTable 5 = .ok (.if_icmp .ge 32, 3) := by decide +kernel
theorem dX9_copyTable_8 : decode cX9_copyTable 8 = .ok (.iconst 0, 1) := by decide +kernel
theorem dX9_copyTable_9 : decode cX9_copyTable 9 = .ok (.istore_n 3, 1) := by decide +kernel
theorem dX9_copyTable_10 : decode cX9_copyTable 10 = .ok (.iload_n 3, 1) := by decide +kernel
theorem dX9_copyTable_11 : decode cX9_copyTable 11 = .ok (.iconst 4, 1) := by decide +kernel
theorem dX9_copyTable_12 : decode cX9_copyTable 12 = .ok (.if_icmp .ge 19, 3) := by decide +kernel
theorem dX9_copyTable_15 : decode cX9_copyTable 15 = .ok (.aload_n 1, 1) := by decide +kernel
theorem dX9_copyTable_16 : decode cX9_copyTable 16 = .ok (.iload_n 2, 1) := by decide +kernel
theorem dX9_copyTable_17 : decode cX9_copyTable 17 = .ok (.aaload, 1) := by decide +kernel
theorem dX9_copyTable_18 : decode cX9_copyTable 18 = .ok (.iload_n 3, 1) := by decide +kernel
theorem dX9_copyTable_19 : decode cX9_copyTable 19 = .ok (.aload_n 0, 1) := by decide +kernel
theorem dX9_copyTable_20 : decode cX9_copyTable 20 = .ok (.iload_n 2, 1) := by decide +kernel
theorem dX9_copyTable_21 : decode cX9_copyTable 21 = .ok (.aaload, 1) := by decide +kernel
theorem dX9_copyTable_22 : decode cX9_copyTable 22 = .ok (.iload_n 3, 1) := by decide +kernel
theorem dX9_copyTable_23 : decode cX9_copyTable 23 = .ok (.iaload, 1) := by decide +kernel
theorem dX9_copyTable_24 : decode cX9_copyTable 24 = .ok (.iastore, 1) := by decide +kernel
theorem dX9_copyTable_25 : decode cX9_copyTable 25 = .ok (.iinc 3 1, 3) := by decide +kernel
theorem dX9_copyTable_28 : decode cX9_copyTable 28 = .ok (.goto (-18), 3) := by decide +kernel
theorem dX9_copyTable_31 : decode cX9_copyTable 31 = .ok (.iinc 2 1, 3) := by decide +kernel
theorem dX9_copyTable_34 : decode cX9_copyTable 34 = .ok (.goto (-32), 3) := by decide +kernel
theorem dX9_copyTable_37 : decode cX9_copyTable 37 = .ok (.return_, 1) := by decide +kernel
set_option maxRecDepth 20000 in
theorem ggX9_snapshot_X9_copyTable : GoodIn wsX9_snapshot wsX9_copyTable := goodIn_r _ [20] (by decide +kernel) (by decide +kernel)
set_option maxRecDepth 20000 in
theorem gX9_snapshot_X9_copyTable : GoodIn wsX9_snapshot (va_wsS RX9 236 yX9_copyTable wsX9_copyTable) := goodIn_app (goodIn_of _ (by decide +kernel)) ggX9_snapshot_X9_copyTable
theorem dX9_snapshot_0 : decode cX9_snapshot 0 = .ok (.aload_n 0, 1) := by decide +kernel
theorem dX9_snapshot_1 : decode cX9_snapshot 1 = .ok (.iconst 0, 1) := by decide +kernel
theorem dX9_snapshot_2 : decode cX9_snapshot 2 = .ok (.putfield 69, 3) := by decide +kernel
theorem dX9_snapshot_5 : decode cX9_snapshot 5 = .ok (.aload_n 0, 1) := by decide +kernel
theorem dX9_snapshot_6 : decode cX9_snapshot 6 = .ok (.iconst 1, 1) := by decide +kernel
theorem dX9_snapshot_7 : decode cX9_snapshot 7 = .ok (.putfield 218, 3) := by decide +kernel
theorem dX9_snapshot_10 : decode cX9_snapshot 10 = .ok (.aload_n 0, 1) := by decide +kernel
theorem dX9_snapshot_11 : decode cX9_snapshot 11 = .ok (.aload_n 0, 1) := by decide +kernel
theorem dX9_snapshot_12 : decode cX9_snapshot 12 = .ok (.getfield 7, 3) := by decide +kernel
theorem dX9_snapshot_15 : decode cX9_snapshot 15 = .ok (.putfield 221, 3) := by decide +kernel
theorem dX9_snapshot_18 : decode cX9_snapshot 18 = .ok (.aload_n 0, 1) := by decide +kernel
theorem dX9_snapshot_19 : decode cX9_snapshot 19 = .ok (.aload_n 0, 1) := by decide +kernel
theorem dX9_snapshot_20 : decode cX9_snapshot 20 = .ok (.getfield 13, 3) := by decide +kernel
theorem dX9_snapshot_23 : decode cX9_snapshot 23 = .ok (.putfield 224, 3) := by decide +kernel
theorem dX9_snapshot_26 : decode cX9_snapshot 26 = .ok (.aload_n 0, 1) := by decide +kernel
theorem dX9_snapshot_27 : decode cX9_snapshot 27 = .ok (.aload_n 0, 1) := by decide +kernel
theorem dX9_snapshot_28 : decode cX9_snapshot 28 = .ok (.getfield 83, 3) := by decide +kernel
theorem dX9_snapshot_31 : decode cX9_snapshot 31 = .ok (.putfield 227, 3) := by decide +kernel
theorem dX9_snapshot_34 : decode cX9_snapshot 34 = .ok (.aload_n 0, 1) := by decide +kernel
theorem dX9_snapshot_35 : decode cX9_snapshot 35 = .ok (.aload_n 0, 1) := by decide +kernel
theorem dX9_snapshot_36 : decode cX9_snapshot 36 = .ok (.getfield 76, 3) := by decide +kernel
theorem dX9_snapshot_39 : decode cX9_snapshot 39 = .ok (.putfield 230, 3) := by decide +kernel
theorem dX9_snapshot_42 : decode cX9_snapshot 42 = .ok (.aload_n 0, 1) := by decide +kernel
theorem dX9_snapshot_43 : decode cX9_snapshot 43 = .ok (.aload_n 0, 1) := by decide +kernel
theorem dX9_snapshot_44 : decode cX9_snapshot 44 = .ok (.getfield 86, 3) := by decide +kernel
theorem dX9_snapshot_47 : decode cX9_snapshot 47 = .ok (.putfield 233, 3) := by decide +kernel
theorem dX9_snapshot_50 : decode cX9_snapshot 50 = .ok (.aload_n 0, 1) := by decide +kernel
theorem dX9_snapshot_51 : decode cX9_snapshot 51 = .ok (.getfield 18, 3) := by decide +kernel
theorem dX9_snapshot_54 : decode cX9_snapshot 54 = .ok (.aload_n 0, 1) := by decide +kernel
theorem dX9_snapshot_55 : decode cX9_snapshot 55 = .ok (.getfield 63, 3) := by decide +kernel
theorem dX9_snapshot_58 : decode cX9_snapshot 58 = .ok (.invokestatic 236, 3) := by decide +kernel
theorem dX9_snapshot_61 : decode cX9_snapshot 61 = .ok (.iconst 0, 1) := by decide +kernel
theorem dX9_snapshot_62 : decode cX9_snapshot 62 = .ok (.istore_n 1, 1) := by decide +kernel
theorem dX9_snapshot_63 : decode cX9_snapshot 63 = .ok (.iload_n 1, 1) := by decide +kernel
theorem dX9_snapshot_64 : decode cX9_snapshot 64 = .ok (.bipush 8, 2) := by decide +kernel
theorem dX9_snapshot_66 : decode cX9_snapshot 66 = .ok (.if_icmp .ge 21, 3) := by decide +kernel
theorem dX9_snapshot_69 : decode cX9_snapshot 69 = .ok (.aload_n 0, 1) := by decide +kernel
theorem dX9_snapshot_70 : decode cX9_snapshot 70 = .ok (.getfield 66, 3) := by decide +kernel
theorem dX9_snapshot_73 : decode cX9_snapshot 73 = .ok (.iload_n 1, 1) := by decide +kernel
theorem dX9_snapshot_74 : decode cX9_snapshot 74 = .ok (.aload_n 0, 1) := by decide +kernel
theorem dX9_snapshot_75 : decode cX9_snapshot 75 = .ok (.getfield 21, 3) := by decide +kernel
theorem dX9_snapshot_78 : decode cX9_snapshot 78 = .ok (.iload_n 1, 1) := by decide +kernel
theorem dX9_snapshot_79 : decode cX9_snapshot 79 = .ok (.iaload, 1) := by decide +kernel
theorem dX9_snapshot_80 : decode cX9_snapshot 80 = .ok (.iastore, 1) := by decide +kernel
theorem dX9_snapshot_81 : decode cX9_snapshot 81 = .ok (.iinc 1 1, 3) := by decide +kernel
theorem dX9_snapshot_84 : decode cX9_snapshot 84 = .ok (.goto (-21), 3) := by decide +kernel
theorem dX9_snapshot_87 : decode cX9_snapshot 87 = .ok (.return_, 1) := by decide +kernel
set_option maxRecDepth 20000 in
theorem ggX9_restore_X9_fails : GoodIn wsX9_restore wsX9_fails := goodIn_r _ [21, 22, 26, 27, 28, 29, 30, 31, 32, 33, 34, 35, 36, 37, 38, 39, 40, 41, 42, 43, 44, 45, 46, 47, 48, 49, 50, 51, 52, 53, 54, 55] (by decide +kernel) (by decide +kernel)
set_option maxRecDepth 20000 in
theorem gX9_restore_X9_fails : GoodIn wsX9_restore (wsV RX9 79 RX9 yX9_fails wsX9_fails) := goodIn_app (goodIn_of _ (by decide +kernel)) ggX9_restore_X9_fails
set_option maxRecDepth 20000 in
theorem ggX9_restore_X9_copyTable : GoodIn wsX9_restore wsX9_copyTable := goodIn_r _ [25] (by decide +kernel) (by decide +kernel)
set_option maxRecDepth 20000 in
theorem gX9_restore_X9_copyTable : GoodIn wsX9_restore (va_wsS RX9 236 yX9_copyTable wsX9_copyTable) := goodIn_app (goodIn_of _ (by decide +kernel)) ggX9_restore_X9_copyTable
theorem dX9_restore_0 : decode cX9_restore 0 = .ok (.aload_n 0, 1) := by decide +kernel
theorem dX9_restore_1 : decode cX9_restore 1 = .ok (.iconst 1, 1) := by decide +kernel
theorem dX9_restore_2 : decode cX9_restore 2 = .ok (.aload_n 0, 1) := by decide +kernel
theorem dX9_restore_3 : decode cX9_restore 3 = .ok (.getfield 218, 3) := by decide +kernel
theorem dX9_restore_6 : decode cX9_restore 6 = .ok (.ifCond .ne 7, 3) := by decide +kernel
theorem dX9_restore_9 : decode cX9_restore 9 = .ok (.iconst 1, 1) := by decide +kernel
theorem dX9_restore_10 : decode cX9_restore 10 = .ok (.goto 4, 3) := by decide +kernel
theorem dX9_restore_13 : decode cX9_restore 13 = .ok (.iconst 0, 1) := by decide +kernel
theorem dX9_restore_14 : decode cX9_restore 14 = .ok (.invokevirtual 79, 3) := by decide +kernel
theorem dX9_restore_17 : decode cX9_restore 17 = .ok (.ifCond .eq 4, 3) := by decide +kernel
theorem dX9_restore_20 : decode cX9_restore 20 = .ok (.return_, 1) := by decide +kernel
theorem dX9_restore_21 : decode cX9_restore 21 = .ok (.aload_n 0, 1) := by decide +kernel
theorem dX9_restore_22 : decode cX9_restore 22 = .ok (.aload_n 0, 1) := by decide +kernel
theorem dX9_restore_23 : decode cX9_restore 23 = .ok (.getfield 221, 3) := by decide +kernel
theorem dX9_restore_26 : decode cX9_restore 26 = .ok (.putfield 7, 3) := by decide +kernel
theorem dX9_restore_29 : decode cX9_restore 29 = .ok (.aload_n 0, 1) := by decide +kernel
theorem dX9_restore_30 : decode cX9_restore 30 = .ok (.aload_n 0, 1) := by decide +kernel
theorem dX9_restore_31 : decode cX9_restore 31 = .ok (.getfield 224, 3) := by decide +kernel
theorem dX9_restore_34 : decode cX9_restore 34 = .ok (.putfield 13, 3) := by decide +kernel
theorem dX9_restore_37 : decode cX9_restore 37 = .ok (.aload_n 0, 1) := by decide +kernel
theorem dX9_restore_38 : decode cX9_restore 38 = .ok (.aload_n 0, 1) := by decide +kernel
theorem dX9_restore_39 : decode cX9_restore 39 = .ok (.getfield 227, 3) := by decide +kernel
theorem dX9_restore_42 : decode cX9_restore 42 = .ok (.putfield 83, 3) := by decide +kernel
theorem dX9_restore_45 : decode cX9_restore 45 = .ok (.aload_n 0, 1) := by decide +kernel
theorem dX9_restore_46 : decode cX9_restore 46 = .ok (.aload_n 0, 1) := by decide +kernel
theorem dX9_restore_47 : decode cX9_restore 47 = .ok (.getfield 230, 3) := by decide +kernel
theorem dX9_restore_50 : decode cX9_restore 50 = .ok (.putfield 76, 3) := by decide +kernel
theorem dX9_restore_53 : decode cX9_restore 53 = .ok (.aload_n 0, 1) := by decide +kernel
theorem dX9_restore_54 : decode cX9_restore 54 = .ok (.aload_n 0, 1) := by decide +kernel
theorem dX9_restore_55 : decode cX9_restore 55 = .ok (.getfield 233, 3) := by decide +kernel
theorem dX9_restore_58 : decode cX9_restore 58 = .ok (.putfield 86, 3) := by decide +kernel
theorem dX9_restore_61 : decode cX9_restore 61 = .ok (.aload_n 0, 1) := by decide +kernel
theorem dX9_restore_62 : decode cX9_restore 62 = .ok (.getfield 63, 3) := by decide +kernel
theorem dX9_restore_65 : decode cX9_restore 65 = .ok (.aload_n 0, 1) := by decide +kernel
theorem dX9_restore_66 : decode cX9_restore 66 = .ok (.getfield 18, 3) := by decide +kernel
theorem dX9_restore_69 : decode cX9_restore 69 = .ok (.invokestatic 236, 3) := by decide +kernel
theorem dX9_restore_72 : decode cX9_restore 72 = .ok (.iconst 0, 1) := by decide +kernel
theorem dX9_restore_73 : decode cX9_restore 73 = .ok (.istore_n 1, 1) := by decide +kernel
theorem dX9_restore_74 : decode cX9_restore 74 = .ok (.iload_n 1, 1) := by decide +kernel
theorem dX9_restore_75 : decode cX9_restore 75 = .ok (.bipush 8, 2) := by decide +kernel
theorem dX9_restore_77 : decode cX9_restore 77 = .ok (.if_icmp .ge 21, 3) := by decide +kernel
theorem dX9_restore_80 : decode cX9_restore 80 = .ok (.aload_n 0, 1) := by decide +kernel
theorem dX9_restore_81 : decode cX9_restore 81 = .ok (.getfield 21, 3) := by decide +kernel
theorem dX9_restore_84 : decode cX9_restore 84 = .ok (.iload_n 1, 1) := by decide +kernel
theorem dX9_restore_85 : decode cX9_restore 85 = .ok (.aload_n 0, 1) := by decide +kernel
theorem dX9_restore_86 : decode cX9_restore 86 = .ok (.getfield 66, 3) := by decide +kernel
theorem dX9_restore_89 : decode cX9_restore 89 = .ok (.iload_n 1, 1) := by decide +kernel
theorem dX9_restore_90 : decode cX9_restore 90 = .ok (.iaload, 1) := by decide +kernel
theorem dX9_restore_91 : decode cX9_restore 91 = .ok (.iastore, 1) := by decide +kernel
theorem dX9_restore_92 : decode cX9_restore 92 = .ok (.iinc 1 1, 3) := by decide +kernel
theorem dX9_restore_95 : decode cX9_restore 95 = .ok (.goto (-21), 3) := by decide +kernel
theorem dX9_restore_98 : decode cX9_restore 98 = .ok (.aload_n 0, 1) := by decide +kernel
theorem dX9_restore_99 : decode cX9_restore 99 = .ok (.iconst 0, 1) := by decide +kernel
theorem dX9_restore_100 : decode cX9_restore 100 = .ok (.putfield 89, 3) := by decide +kernel
theorem dX9_restore_103 : decode cX9_restore 103 = .ok (.return_, 1) := by decide +kernel
theorem dJ9_max_7cf53_0 : decode cJ9_max_7cf53 0 = .ok (.iload_n 0, 1) := by decide +kernel
theorem dJ9_max_7cf53_1 : decode cJ9_max_7cf53 1 = .ok (.iload_n 1, 1) := by decide +kernel
theorem dJ9_max_7cf53_2 : decode cJ9_max_7cf53 2 = .ok (.if_icmp .lt 7, 3) := by decide +kernel
theorem dJ9_max_7cf53_5 : decode cJ9_max_7cf53 5 = .ok (.iload_n 0, 1) := by decide +kernel
theorem dJ9_max_7cf53_6 : decode cJ9_max_7cf53 6 = .ok (.goto 4, 3) := by decide +kernel
theorem dJ9_max_7cf53_9 : decode cJ9_max_7cf53 9 = .ok (.iload_n 1, 1) := by decide +kernel
theorem dJ9_max_7cf53_10 : decode cJ9_max_7cf53 10 = .ok (.ireturn, 1) := by decide +kernel
theorem dJ9_max_f86c9_0 : decode cJ9_max_f86c9 0 = .ok (.lload_n 0, 1) := by decide +kernel
theorem dJ9_max_f86c9_1 : decode cJ9_max_f86c9 1 = .ok (.lload_n 2, 1) := by decide +kernel
theorem dJ9_max_f86c9_2 : decode cJ9_max_f86c9 2 = .ok (.lcmp, 1) := by decide +kernel
theorem dJ9_max_f86c9_3 : decode cJ9_max_f86c9 3 = .ok (.ifCond .lt 7, 3) := by decide +kernel
theorem dJ9_max_f86c9_6 : decode cJ9_max_f86c9 6 = .ok (.lload_n 0, 1) := by decide +kernel
theorem dJ9_max_f86c9_7 : decode cJ9_max_f86c9 7 = .ok (.goto 4, 3) := by decide +kernel
theorem dJ9_max_f86c9_10 : decode cJ9_max_f86c9 10 = .ok (.lload_n 2, 1) := by decide +kernel
theorem dJ9_max_f86c9_11 : decode cJ9_max_f86c9 11 = .ok (.lreturn, 1) := by decide +kernel
theorem dJ9_min_7cf53_0 : decode cJ9_min_7cf53 0 = .ok (.iload_n 0, 1) := by decide +kernel
theorem dJ9_min_7cf53_1 : decode cJ9_min_7cf53 1 = .ok (.iload_n 1, 1) := by decide +kernel
theorem dJ9_min_7cf53_2 : decode cJ9_min_7cf53 2 = .ok (.if_icmp .gt 7, 3) := by decide +kernel
theorem dJ9_min_7cf53_5 : decode cJ9_min_7cf53 5 = .ok (.iload_n 0, 1) := by decide +kernel
theorem dJ9_min_7cf53_6 : decode cJ9_min_7cf53 6 = .ok (.goto 4, 3) := by decide +kernel
theorem dJ9_min_7cf53_9 : decode cJ9_min_7cf53 9 = .ok (.iload_n 1, 1) := by decide +kernel
theorem dJ9_min_7cf53_10 : decode cJ9_min_7cf53 10 = .ok (.ireturn, 1) := by decide +kernel
set_option maxRecDepth 20000 in
theorem ggL_reset_X8_reset : GoodIn wsL_reset wsX8_reset := goodIn_ca (goodIn_r _ [6, 7, 8, 9, 10, 11, 12, 13, 14, 15, 16, 17, 18, 19, 20, 21, 5, 22, 23, 24, 25, 26, 27, 28, 29, 30, 31, 32, 33, 34, 35, 36, 37, 38, 39, 40, 41, 42, 43, 44, 45, 46, 47, 48, 49, 50, 51, 52, 53, 54, 55, 56, 57, 58, 59, 60, 61, 62, 63, 64, 65, 66, 67, 68, 69, 70, 71, 72, 73, 74, 75, 76, 77, 78] (by decide +kernel) (by decide +kernel)) (goodIn_sub (fun _ h => List.mem_cons_of_mem _ (List.mem_append_right _ h)) (by decide +kernel))
set_option maxRecDepth 20000 in
theorem gL_reset_X8_reset : GoodIn wsL_reset (wsV RL 7 RX8 yX8_reset wsX8_reset) := goodIn_app (goodIn_of _ (by decide +kernel)) ggL_reset_X8_reset
theorem dL_reset_0 : decode cL_reset 0 = .ok (.aload_n 0, 1) := by decide +kernel
theorem dL_reset_1 : decode cL_reset 1 = .ok (.iload_n 1, 1) := by decide +kernel
theorem dL_reset_2 : decode cL_reset 2 = .ok (.iload_n 2, 1) := by decide +kernel
theorem dL_reset_3 : decode cL_reset 3 = .ok (.invokevirtual 7, 3) := by decide +kernel
theorem dL_reset_6 : decode cL_reset 6 = .ok (.goto 6, 3) := by decide +kernel
theorem dL_reset_9 : decode cL_reset 9 = .ok (.astore_n 3, 1) := by decide +kernel
theorem dL_reset_10 : decode cL_reset 10 = .ok (.iconst 1, 1) := by decide +kernel
theorem dL_reset_11 : decode cL_reset 11 = .ok (.ireturn, 1) := by decide +kernel
theorem dL_reset_12 : decode cL_reset 12 = .ok (.iconst 0, 1) := by decide +kernel
theorem dL_reset_13 : decode cL_reset 13 = .ok (.ireturn, 1) := by decide +kernel
set_option maxRecDepth 20000 in
theorem ggL_addProduction_X8_addProduction : GoodIn wsL_addProduction wsX8_addProduction := goodIn_ca (goodIn_ca (goodIn_r _ [6, 7, 8, 9, 10, 11, 12, 13, 14, 15, 16, 17, 18, 19, 20, 21, 22, 23, 24, 25, 26, 27, 28, 29, 30, 31, 32, 33, 34, 35, 36, 37, 38, 39, 40, 41, 42, 43, 44, 5, 45, 46, 47, 48, 49, 50, 51, 52, 53, 54, 55, 56, 57, 58, 59, 60, 61, 62, 63, 64, 65, 66, 67, 68, 69, 70, 71, 72, 73, 74, 75, 76, 77, 78, 79, 80, 81, 82, 83, 84, 85, 86, 87, 88, 89, 90, 91, 92, 93, 94, 95, 96, 97, 98, 99] (by decide +kernel) (by decide +kernel)) (goodIn_sub (fun _ h => List.mem_cons_of_mem _ (List.mem_append_left _ (List.mem_append_right _ h))) (by decide +kernel))) (goodIn_sub (fun _ h => List.mem_cons_of_mem _ (List.mem_append_right _ h)) (by decide +kernel))
set_option maxRecDepth 20000 in
theorem gL_addProduction_X8_addProduction : GoodIn wsL_addProduction (wsV RL 15 RX8 yX8_addProduction wsX8_addProduction) := goodIn_app (goodIn_of _ (by decide +kernel)) ggL_addProduction_X8_addProduction
theorem dL_addProduction_0 : decode cL_addProduction 0 = .ok (.aload 5, 2) := by decide +kernel
theorem dL_addProduction_2 : decode cL_addProduction 2 = .ok (.iconst 0, 1) := by decide +kernel
theorem dL_addProduction_3 : decode cL_addProduction 3 = .ok (.aload_n 0, 1) := by decide +kernel
theorem dL_addProduction_4 : decode cL_addProduction 4 = .ok (.iload_n 1, 1) := by decide +kernel
theorem dL_addProduction_5 : decode cL_addProduction 5 = .ok (.iload_n 2, 1) := by decide +kernel
theorem dL_addProduction_6 : decode cL_addProduction 6 = .ok (.iload_n 3, 1) := by decide +kernel
theorem dL_addProduction_7 : decode cL_addProduction 7 = .ok (.iload 4, 2) := by decide +kernel
theorem dL_addProduction_9 : decode cL_addProduction 9 = .ok (.invokevirtual 15, 3) := by decide +kernel
theorem dL_addProduction_12 : decode cL_addProduction 12 = .ok (.i2l, 1) := by decide +kernel
theorem dL_addProduction_13 : decode cL_addProduction 13 = .ok (.lastore, 1) := by decide +kernel
theorem dL_addProduction_14 : decode cL_addProduction 14 = .ok (.goto 11, 3) := by decide +kernel
theorem dL_addProduction_17 : decode cL_addProduction 17 = .ok (.astore 6, 2) := by decide +kernel
theorem dL_addProduction_19 : decode cL_addProduction 19 = .ok (.iconst 1, 1) := by decide +kernel
theorem dL_addProduction_20 : decode cL_addProduction 20 = .ok (.ireturn, 1) := by decide +kernel
theorem dL_addProduction_21 : decode cL_addProduction 21 = .ok (.astore 6, 2) := by decide +kernel
theorem dL_addProduction_23 : decode cL_addProduction 23 = .ok (.iconst 2, 1) := by decide +kernel
theorem dL_addProduction_24 : decode cL_addProduction 24 = .ok (.ireturn, 1) := by decide +kernel
theorem dL_addProduction_25 : decode cL_addProduction 25 = .ok (.iconst 0, 1) := by decide +kernel
theorem dL_addProduction_26 : decode cL_addProduction 26 = .ok (.ireturn, 1) := by decide +kernel
set_option maxRecDepth 20000 in
theorem ggL_removeProduction_X8_removeProduction : GoodIn wsL_removeProduction wsX8_removeProduction := goodIn_ca (goodIn_r _ [6, 7, 8, 9, 10, 5, 11, 12, 13, 14, 15, 16, 17, 18, 19, 20, 21, 22, 23, 24, 25, 26, 27, 28, 29, 30, 31, 32, 33, 34, 35, 36, 37, 38, 39, 40, 41, 42, 43, 44, 45, 46, 47, 48, 49, 50, 51, 52, 53, 54, 55, 56, 57, 58, 59, 60, 61, 62, 63, 64, 65, 66, 67, 68, 69, 70, 71, 72, 73, 74, 75, 76, 77] (by decide +kernel) (by decide +kernel)) (goodIn_sub (fun _ h => List.mem_cons_of_mem _ (List.mem_append_right _ h)) (by decide +kernel))
set_option maxRecDepth 20000 in
theorem gL_removeProduction_X8_removeProduction : GoodIn wsL_removeProduction (wsV RL 21 RX8 yX8_removeProduction wsX8_removeProduction) := goodIn_app (goodIn_of _ (by decide +kernel)) ggL_removeProduction_X8_removeProduction
theorem dL_removeProduction_0 : decode cL_removeProduction 0 = .ok (.aload_n 2, 1) := by decide +kernel
theorem dL_removeProduction_1 : decode cL_removeProduction 1 = .ok (.iconst 0, 1) := by decide +kernel
theorem dL_removeProduction_2 : decode cL_removeProduction 2 = .ok (.aload_n 0, 1) := by decide +kernel
theorem dL_removeProduction_3 : decode cL_removeProduction 3 = .ok (.iload_n 1, 1) := by decide +kernel
theorem dL_removeProduction_4 : decode cL_removeProduction 4 = .ok (.invokevirtual 21, 3) := by decide +kernel
theorem dL_removeProduction_7 : decode cL_removeProduction 7 = .ok (.i2l, 1) := by decide +kernel
theorem dL_removeProduction_8 : decode cL_removeProduction 8 = .ok (.lastore, 1) := by decide +kernel
theorem dL_removeProduction_9 : decode cL_removeProduction 9 = .ok (.goto 6, 3) := by decide +kernel
theorem dL_removeProduction_12 : decode cL_removeProduction 12 = .ok (.astore_n 3, 1) := by decide +kernel
theorem dL_removeProduction_13 : decode cL_removeProduction 13 = .ok (.iconst 1, 1) := by decide +kernel
theorem dL_removeProduction_14 : decode cL_removeProduction 14 = .ok (.ireturn, 1) := by decide +kernel
theorem dL_removeProduction_15 : decode cL_removeProduction 15 = .ok (.iconst 0, 1) := by decide +kernel
theorem dL_removeProduction_16 : decode cL_removeProduction 16 = .ok (.ireturn, 1) := by decide +kernel
set_option maxRecDepth 20000 in
theorem ggL_productionSymbol_X8_productionSymbol : GoodIn wsL_productionSymbol wsX8_productionSymbol := goodIn_ca (goodIn_ca (goodIn_r _ [6, 7, 8, 9, 10, 11, 12, 5, 13, 14, 15, 16, 17, 18, 19, 20, 21, 22, 23, 24, 25, 26, 27, 28, 29, 30, 31, 32, 33, 34, 35, 36, 37, 38] (by decide +kernel) (by decide +kernel)) (goodIn_sub (fun _ h => List.mem_cons_of_mem _ (List.mem_append_left _ (List.mem_append_right _ h))) (by decide +kernel))) (goodIn_sub (fun _ h => List.mem_cons_of_mem _ (List.mem_append_right _ h)) (by decide +kernel))
set_option maxRecDepth 20000 in
theorem gL_productionSymbol_X8_productionSymbol : GoodIn wsL_productionSymbol (wsV RL 25 RX8 yX8_productionSymbol wsX8_productionSymbol) := goodIn_app (goodIn_of _ (by decide +kernel)) ggL_productionSymbol_X8_productionSymbol
theorem dL_productionSymbol_0 : decode cL_productionSymbol 0 = .ok (.aload_n 3, 1) := by decide +kernel
theorem dL_productionSymbol_1 : decode cL_productionSymbol 1 = .ok (.iconst 0, 1) := by decide +kernel
theorem dL_productionSymbol_2 : decode cL_productionSymbol 2 = .ok (.aload_n 0, 1) := by decide +kernel
theorem dL_productionSymbol_3 : decode cL_productionSymbol 3 = .ok (.iload_n 1, 1) := by decide +kernel
theorem dL_productionSymbol_4 : decode cL_productionSymbol 4 = .ok (.iload_n 2, 1) := by decide +kernel
theorem dL_productionSymbol_5 : decode cL_productionSymbol 5 = .ok (.invokevirtual 25, 3) := by decide +kernel
theorem dL_productionSymbol_8 : decode cL_productionSymbol 8 = .ok (.i2l, 1) := by decide +kernel
theorem dL_productionSymbol_9 : decode cL_productionSymbol 9 = .ok (.lastore, 1) := by decide +kernel
theorem dL_productionSymbol_10 : decode cL_productionSymbol 10 = .ok (.goto 11, 3) := by decide +kernel
theorem dL_productionSymbol_13 : decode cL_productionSymbol 13 = .ok (.astore 4, 2) := by decide +kernel
theorem dL_productionSymbol_15 : decode cL_productionSymbol 15 = .ok (.iconst 1, 1) := by decide +kernel
theorem dL_productionSymbol_16 : decode cL_productionSymbol 16 = .ok (.ireturn, 1) := by decide +kernel
theorem dL_productionSymbol_17 : decode cL_productionSymbol 17 = .ok (.astore 4, 2) := by decide +kernel
theorem dL_productionSymbol_19 : decode cL_productionSymbol 19 = .ok (.iconst 2, 1) := by decide +kernel
theorem dL_productionSymbol_20 : decode cL_productionSymbol 20 = .ok (.ireturn, 1) := by decide +kernel
theorem dL_productionSymbol_21 : decode cL_productionSymbol 21 = .ok (.iconst 0, 1) := by decide +kernel
theorem dL_productionSymbol_22 : decode cL_productionSymbol 22 = .ok (.ireturn, 1) := by decide +kernel
set_option maxRecDepth 20000 in
theorem ggL_setStart_X8_setStart : GoodIn wsL_setStart wsX8_setStart := goodIn_ca (goodIn_r _ [6, 7, 8, 9, 10, 11, 5, 12, 13, 14, 15, 16, 17, 18, 19, 20, 21, 22, 23, 24, 25, 26, 27, 28, 29, 30, 31, 32, 33, 34, 35, 36, 37, 38, 39, 40, 41, 42, 43, 44, 45, 46, 47] (by decide +kernel) (by decide +kernel)) (goodIn_sub (fun _ h => List.mem_cons_of_mem _ (List.mem_append_right _ h)) (by decide +kernel))
set_option maxRecDepth 20000 in
theorem gL_setStart_X8_setStart : GoodIn wsL_setStart (wsV RL 31 RX8 yX8_setStart wsX8_setStart) := goodIn_app (goodIn_of _ (by decide +kernel)) ggL_setStart_X8_setStart
theorem dL_setStart_0 : decode cL_setStart 0 = .ok (.aload_n 2, 1) := by decide +kernel
theorem dL_setStart_1 : decode cL_setStart 1 = .ok (.iconst 0, 1) := by decide +kernel
theorem dL_setStart_2 : decode cL_setStart 2 = .ok (.aload_n 0, 1) := by decide +kernel
theorem dL_setStart_3 : decode cL_setStart 3 = .ok (.iload_n 1, 1) := by decide +kernel
theorem dL_setStart_4 : decode cL_setStart 4 = .ok (.invokevirtual 31, 3) := by decide +kernel
theorem dL_setStart_7 : decode cL_setStart 7 = .ok (.i2l, 1) := by decide +kernel
theorem dL_setStart_8 : decode cL_setStart 8 = .ok (.lastore, 1) := by decide +kernel
theorem dL_setStart_9 : decode cL_setStart 9 = .ok (.goto 6, 3) := by decide +kernel
theorem dL_setStart_12 : decode cL_setStart 12 = .ok (.astore_n 3, 1) := by decide +kernel
theorem dL_setStart_13 : decode cL_setStart 13 = .ok (.iconst 1, 1) := by decide +kernel
theorem dL_setStart_14 : decode cL_setStart 14 = .ok (.ireturn, 1) := by decide +kernel
theorem dL_setStart_15 : decode cL_setStart 15 = .ok (.iconst 0, 1) := by decide +kernel
theorem dL_setStart_16 : decode cL_setStart 16 = .ok (.ireturn, 1) := by decide +kernel
set_option maxRecDepth 20000 in
theorem ggL_shortestLength_X8_shortestLength : GoodIn wsL_shortestLength wsX8_shortestLength := goodIn_ca (goodIn_r _ [6, 7, 8, 9, 10, 5, 11, 12, 13, 14, 15, 16, 17, 18, 19, 20, 21, 22, 23, 24, 25, 26, 27, 28, 29, 30, 31, 32, 33, 34, 35, 36, 37, 38, 39, 40, 41, 42, 43, 44, 45, 46, 47, 48, 49, 50, 51, 52, 53, 54, 55, 56, 57, 58] (by decide +kernel) (by decide +kernel)) (goodIn_sub (fun _ h => List.mem_cons_of_mem _ (List.mem_append_right _ h)) (by decide +kernel))
set_option maxRecDepth 20000 in
theorem gL_shortestLength_X8_shortestLength : GoodIn wsL_shortestLength (wsV RL 34 RX8 yX8_shortestLength wsX8_shortestLength) := goodIn_app (goodIn_of _ (by decide +kernel)) ggL_shortestLength_X8_shortestLength
theorem dL_shortestLength_0 : decode cL_shortestLength 0 = .ok (.aload_n 2, 1) := by decide +kernel
theorem dL_shortestLength_1 : decode cL_shortestLength 1 = .ok (.iconst 0, 1) := by decide +kernel
theorem dL_shortestLength_2 : decode cL_shortestLength 2 = .ok (.aload_n 0, 1) := by decide +kernel
theorem dL_shortestLength_3 : decode cL_shortestLength 3 = .ok (.iload_n 1, 1) := by decide +kernel
theorem dL_shortestLength_4 : decode cL_shortestLength 4 = .ok (.invokevirtual 34, 3) := by decide +kernel
theorem dL_shortestLength_7 : decode cL_shortestLength 7 = .ok (.i2l, 1) := by decide +kernel
theorem dL_shortestLength_8 : decode cL_shortestLength 8 = .ok (.lastore, 1) := by decide +kernel
theorem dL_shortestLength_9 : decode cL_shortestLength 9 = .ok (.goto 6, 3) := by decide +kernel
theorem dL_shortestLength_12 : decode cL_shortestLength 12 = .ok (.astore_n 3, 1) := by decide +kernel
theorem dL_shortestLength_13 : decode cL_shortestLength 13 = .ok (.iconst 1, 1) := by decide +kernel
theorem dL_shortestLength_14 : decode cL_shortestLength 14 = .ok (.ireturn, 1) := by decide +kernel
theorem dL_shortestLength_15 : decode cL_shortestLength 15 = .ok (.iconst 0, 1) := by decide +kernel
theorem dL_shortestLength_16 : decode cL_shortestLength 16 = .ok (.ireturn, 1) := by decide +kernel
set_option maxRecDepth 20000 in
theorem ggL_append_X8_append : GoodIn wsL_append wsX8_append := goodIn_ca (goodIn_ca (goodIn_r _ [6, 7, 8, 9, 10, 11, 12, 13, 14, 15, 16, 17, 18, 19, 20, 21, 22, 23, 24, 25, 26, 27, 28, 29, 30, 31, 32, 33, 34, 35, 36, 37, 38, 39, 40, 41, 42, 43, 44, 45, 46, 47, 48, 49, 50, 51, 52, 53] (by decide +kernel) (by decide +kernel)) (goodIn_sub (fun _ h => List.mem_cons_of_mem _ (List.mem_append_left _ (List.mem_append_right _ h))) (by decide +kernel))) (goodIn_sub (fun _ h => List.mem_cons_of_mem _ (List.mem_append_right _ h)) (by decide +kernel))
set_option maxRecDepth 20000 in
theorem gL_append_X8_append : GoodIn wsL_append (wsV RL 37 RX8 yX8_append wsX8_append) := goodIn_app (goodIn_of _ (by decide +kernel)) ggL_append_X8_append
theorem dL_append_0 : decode cL_append 0 = .ok (.aload_n 2, 1) := by decide +kernel
theorem dL_append_1 : decode cL_append 1 = .ok (.iconst 0, 1) := by decide +kernel
theorem dL_append_2 : decode cL_append 2 = .ok (.aload_n 0, 1) := by decide +kernel
theorem dL_append_3 : decode cL_append 3 = .ok (.iload_n 1, 1) := by decide +kernel
theorem dL_append_4 : decode cL_append 4 = .ok (.invokevirtual 37, 3) := by decide +kernel
theorem dL_append_7 : decode cL_append 7 = .ok (.i2l, 1) := by decide +kernel
theorem dL_append_8 : decode cL_append 8 = .ok (.lastore, 1) := by decide +kernel
theorem dL_append_9 : decode cL_append 9 = .ok (.goto 9, 3) := by decide +kernel
theorem dL_append_12 : decode cL_append 12 = .ok (.astore_n 3, 1) := by decide +kernel
theorem dL_append_13 : decode cL_append 13 = .ok (.iconst 1, 1) := by decide +kernel
theorem dL_append_14 : decode cL_append 14 = .ok (.ireturn, 1) := by decide +kernel
theorem dL_append_15 : decode cL_append 15 = .ok (.astore_n 3, 1) := by decide +kernel
theorem dL_append_16 : decode cL_append 16 = .ok (.iconst 2, 1) := by decide +kernel
theorem dL_append_17 : decode cL_append 17 = .ok (.ireturn, 1) := by decide +kernel
theorem dL_append_18 : decode cL_append 18 = .ok (.iconst 0, 1) := by decide +kernel
theorem dL_append_19 : decode cL_append 19 = .ok (.ireturn, 1) := by decide +kernel
set_option maxRecDepth 20000 in
theorem ggL_terminalAt_X8_terminalAt : GoodIn wsL_terminalAt wsX8_terminalAt := goodIn_ca (goodIn_r _ [6, 7, 8, 9, 10, 11, 12, 13, 14, 15, 16, 17, 18, 19, 20, 21, 22, 23, 24, 25, 26] (by decide +kernel) (by decide +kernel)) (goodIn_sub (fun _ h => List.mem_cons_of_mem _ (List.mem_append_right _ h)) (by decide +kernel))
set_option maxRecDepth 20000 in
theorem gL_terminalAt_X8_terminalAt : GoodIn wsL_terminalAt (wsV RL 40 RX8 yX8_terminalAt wsX8_terminalAt) := goodIn_app (goodIn_of _ (by decide +kernel)) ggL_terminalAt_X8_terminalAt
theorem dL_terminalAt_0 : decode cL_terminalAt 0 = .ok (.aload_n 2, 1) := by decide +kernel
theorem dL_terminalAt_1 : decode cL_terminalAt 1 = .ok (.iconst 0, 1) := by decide +kernel
theorem dL_terminalAt_2 : decode cL_terminalAt 2 = .ok (.aload_n 0, 1) := by decide +kernel
theorem dL_terminalAt_3 : decode cL_terminalAt 3 = .ok (.iload_n 1, 1) := by decide +kernel
