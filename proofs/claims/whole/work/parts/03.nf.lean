theorem dL_terminalAt_4 : decode cL_terminalAt 4 = .ok (.invokevirtual 40, 3) := by decide +kernel
theorem dL_terminalAt_7 : decode cL_terminalAt 7 = .ok (.i2l, 1) := by decide +kernel
theorem dL_terminalAt_8 : decode cL_terminalAt 8 = .ok (.lastore, 1) := by decide +kernel
theorem dL_terminalAt_9 : decode cL_terminalAt 9 = .ok (.goto 6, 3) := by decide +kernel
theorem dL_terminalAt_12 : decode cL_terminalAt 12 = .ok (.astore_n 3, 1) := by decide +kernel
theorem dL_terminalAt_13 : decode cL_terminalAt 13 = .ok (.iconst 1, 1) := by decide +kernel
theorem dL_terminalAt_14 : decode cL_terminalAt 14 = .ok (.ireturn, 1) := by decide +kernel
theorem dL_terminalAt_15 : decode cL_terminalAt 15 = .ok (.iconst 0, 1) := by decide +kernel
theorem dL_terminalAt_16 : decode cL_terminalAt 16 = .ok (.ireturn, 1) := by decide +kernel
set_option maxRecDepth 20000 in
theorem ggL_treesOfLength_X8_treesOfLength : GoodIn wsL_treesOfLength wsX8_treesOfLength := goodIn_ca (goodIn_r _ [6, 7, 8, 5, 9, 10, 11, 12, 13, 14, 15, 16, 17, 18, 19, 20, 21, 22, 23, 24, 25, 26, 27, 28, 29, 30, 31, 32, 33, 34, 35, 36, 37, 38, 39, 40, 41, 42, 43, 44, 45, 46, 47, 48, 49, 50, 51, 52, 53, 54, 55, 56, 57, 58, 59, 60, 61, 62, 63, 64, 65, 66, 67, 68, 69, 70, 71, 72, 73, 74, 75, 76, 77, 78, 79, 80, 81, 82, 83, 84, 85, 86, 87, 88, 89, 90, 91, 92, 93, 94, 95, 96, 97, 98, 99, 100, 101, 102, 103, 104, 105, 106, 107, 108, 109, 110, 111, 112, 113, 114, 115, 116, 117, 118, 119, 120, 121, 122, 123, 124, 125, 126, 127, 128, 129, 130] (by decide +kernel) (by decide +kernel)) (goodIn_sub (fun _ h => List.mem_cons_of_mem _ (List.mem_append_right _ h)) (by decide +kernel))
set_option maxRecDepth 20000 in
theorem gL_treesOfLength_X8_treesOfLength : GoodIn wsL_treesOfLength (wsV RL 43 RX8 yX8_treesOfLength wsX8_treesOfLength) := goodIn_app (goodIn_of _ (by decide +kernel)) ggL_treesOfLength_X8_treesOfLength
theorem dL_treesOfLength_0 : decode cL_treesOfLength 0 = .ok (.aload_n 2, 1) := by decide +kernel
theorem dL_treesOfLength_1 : decode cL_treesOfLength 1 = .ok (.iconst 0, 1) := by decide +kernel
theorem dL_treesOfLength_2 : decode cL_treesOfLength 2 = .ok (.aload_n 0, 1) := by decide +kernel
theorem dL_treesOfLength_3 : decode cL_treesOfLength 3 = .ok (.iload_n 1, 1) := by decide +kernel
theorem dL_treesOfLength_4 : decode cL_treesOfLength 4 = .ok (.invokevirtual 43, 3) := by decide +kernel
theorem dL_treesOfLength_7 : decode cL_treesOfLength 7 = .ok (.lastore, 1) := by decide +kernel
theorem dL_treesOfLength_8 : decode cL_treesOfLength 8 = .ok (.goto 6, 3) := by decide +kernel
theorem dL_treesOfLength_11 : decode cL_treesOfLength 11 = .ok (.astore_n 3, 1) := by decide +kernel
theorem dL_treesOfLength_12 : decode cL_treesOfLength 12 = .ok (.iconst 1, 1) := by decide +kernel
theorem dL_treesOfLength_13 : decode cL_treesOfLength 13 = .ok (.ireturn, 1) := by decide +kernel
theorem dL_treesOfLength_14 : decode cL_treesOfLength 14 = .ok (.iconst 0, 1) := by decide +kernel
theorem dL_treesOfLength_15 : decode cL_treesOfLength 15 = .ok (.ireturn, 1) := by decide +kernel
set_option maxRecDepth 20000 in
theorem ggL_wordsOfLength_X8_wordsOfLength : GoodIn wsL_wordsOfLength wsX8_wordsOfLength := goodIn_ca (goodIn_r _ [6, 7, 8, 9, 10, 11, 5, 12, 13, 14, 15, 16, 17, 18, 19, 20, 21, 22, 23, 24, 25, 26, 27, 28, 29, 30, 31, 32, 33, 34, 35, 36, 37, 38, 39, 40, 41, 42, 43, 44, 45, 46, 47, 48, 49, 50, 51, 52, 53, 54, 55, 56, 57, 58, 59, 60, 61, 62, 63, 64, 65, 66, 67, 68, 69, 70, 71, 72, 73, 74, 75, 76, 77, 78, 79, 80, 81, 82, 83, 84, 85, 86, 87, 88, 89, 90, 91, 92, 93, 94, 95, 96, 97, 98, 99, 100, 101, 102, 103, 104, 105, 106, 107, 108, 109, 110, 111, 112, 113, 114, 115, 116, 117, 118, 119, 120, 121, 122, 123, 124, 125, 126, 127, 128, 129, 130, 131, 132, 133, 134, 135, 136, 137, 138, 139, 140, 141, 142, 143, 144, 145, 146, 147, 148, 149, 150, 151, 152, 153, 154, 155, 156, 157, 158, 159, 160, 161, 162, 163, 164, 165, 166, 167, 168, 169, 170, 171, 172, 173, 174, 175, 176] (by decide +kernel) (by decide +kernel)) (goodIn_sub (fun _ h => List.mem_cons_of_mem _ (List.mem_append_right _ h)) (by decide +kernel))
set_option maxRecDepth 20000 in
theorem gL_wordsOfLength_X8_wordsOfLength : GoodIn wsL_wordsOfLength (wsV RL 47 RX8 yX8_wordsOfLength wsX8_wordsOfLength) := goodIn_app (goodIn_of _ (by decide +kernel)) ggL_wordsOfLength_X8_wordsOfLength
theorem dL_wordsOfLength_0 : decode cL_wordsOfLength 0 = .ok (.aload_n 3, 1) := by decide +kernel
theorem dL_wordsOfLength_1 : decode cL_wordsOfLength 1 = .ok (.iconst 0, 1) := by decide +kernel
theorem dL_wordsOfLength_2 : decode cL_wordsOfLength 2 = .ok (.aload_n 0, 1) := by decide +kernel
theorem dL_wordsOfLength_3 : decode cL_wordsOfLength 3 = .ok (.iload_n 1, 1) := by decide +kernel
theorem dL_wordsOfLength_4 : decode cL_wordsOfLength 4 = .ok (.iload_n 2, 1) := by decide +kernel
theorem dL_wordsOfLength_5 : decode cL_wordsOfLength 5 = .ok (.invokevirtual 47, 3) := by decide +kernel
theorem dL_wordsOfLength_8 : decode cL_wordsOfLength 8 = .ok (.i2l, 1) := by decide +kernel
theorem dL_wordsOfLength_9 : decode cL_wordsOfLength 9 = .ok (.lastore, 1) := by decide +kernel
theorem dL_wordsOfLength_10 : decode cL_wordsOfLength 10 = .ok (.goto 7, 3) := by decide +kernel
theorem dL_wordsOfLength_13 : decode cL_wordsOfLength 13 = .ok (.astore 4, 2) := by decide +kernel
theorem dL_wordsOfLength_15 : decode cL_wordsOfLength 15 = .ok (.iconst 1, 1) := by decide +kernel
theorem dL_wordsOfLength_16 : decode cL_wordsOfLength 16 = .ok (.ireturn, 1) := by decide +kernel
theorem dL_wordsOfLength_17 : decode cL_wordsOfLength 17 = .ok (.iconst 0, 1) := by decide +kernel
theorem dL_wordsOfLength_18 : decode cL_wordsOfLength 18 = .ok (.ireturn, 1) := by decide +kernel
set_option maxRecDepth 20000 in
theorem ggL_unambiguousShare_X8_unambiguousShare : GoodIn wsL_unambiguousShare wsX8_unambiguousShare := goodIn_ca (goodIn_r _ [6, 7, 8, 9, 5, 10, 11, 12, 13, 14, 15, 16, 17, 18, 19, 20, 21, 22, 23, 24, 25, 26, 27, 28, 29, 30, 31, 32, 33, 34, 35, 36, 37, 38, 39, 40, 41, 42, 43, 44, 45, 46, 47, 48, 49, 50, 51, 52, 53, 54, 55, 56, 57, 58, 59, 60, 61, 62, 63, 64, 65, 66, 67, 68, 69, 70, 71, 72, 73, 74, 75, 76, 77, 78, 79, 80, 81, 82, 83, 84, 85, 86, 87, 88, 89, 90, 91, 92, 93, 94, 95, 96, 97, 98, 99, 100, 101, 102, 103, 104, 105, 106, 107, 108, 109, 110, 111, 112, 113, 114, 115, 116, 117, 118, 119, 120, 121, 122, 123, 124, 125, 126, 127, 128, 129, 130, 131, 132, 133, 134, 135, 136, 137, 138, 139, 140, 141, 142, 143, 144, 145, 146, 147, 148, 149, 150, 151, 152, 153, 154, 155, 156, 157, 158, 159, 160, 161, 162, 163, 164, 165, 166, 167, 168, 169, 170, 171, 172, 173, 174, 175, 176] (by decide +kernel) (by decide +kernel)) (goodIn_sub (fun _ h => List.mem_cons_of_mem _ (List.mem_append_right _ h)) (by decide +kernel))
set_option maxRecDepth 20000 in
theorem gL_unambiguousShare_X8_unambiguousShare : GoodIn wsL_unambiguousShare (wsV RL 50 RX8 yX8_unambiguousShare wsX8_unambiguousShare) := goodIn_app (goodIn_of _ (by decide +kernel)) ggL_unambiguousShare_X8_unambiguousShare
theorem dL_unambiguousShare_0 : decode cL_unambiguousShare 0 = .ok (.aload_n 2, 1) := by decide +kernel
theorem dL_unambiguousShare_1 : decode cL_unambiguousShare 1 = .ok (.iconst 0, 1) := by decide +kernel
theorem dL_unambiguousShare_2 : decode cL_unambiguousShare 2 = .ok (.aload_n 0, 1) := by decide +kernel
theorem dL_unambiguousShare_3 : decode cL_unambiguousShare 3 = .ok (.iload_n 1, 1) := by decide +kernel
theorem dL_unambiguousShare_4 : decode cL_unambiguousShare 4 = .ok (.invokevirtual 50, 3) := by decide +kernel
theorem dL_unambiguousShare_7 : decode cL_unambiguousShare 7 = .ok (.dastore, 1) := by decide +kernel
theorem dL_unambiguousShare_8 : decode cL_unambiguousShare 8 = .ok (.goto 6, 3) := by decide +kernel
theorem dL_unambiguousShare_11 : decode cL_unambiguousShare 11 = .ok (.astore_n 3, 1) := by decide +kernel
theorem dL_unambiguousShare_12 : decode cL_unambiguousShare 12 = .ok (.iconst 1, 1) := by decide +kernel
theorem dL_unambiguousShare_13 : decode cL_unambiguousShare 13 = .ok (.ireturn, 1) := by decide +kernel
theorem dL_unambiguousShare_14 : decode cL_unambiguousShare 14 = .ok (.iconst 0, 1) := by decide +kernel
theorem dL_unambiguousShare_15 : decode cL_unambiguousShare 15 = .ok (.ireturn, 1) := by decide +kernel
set_option maxRecDepth 20000 in
theorem ggL_averageTrees_X8_averageTrees : GoodIn wsL_averageTrees wsX8_averageTrees := goodIn_ca (goodIn_ca (goodIn_r _ [6, 7, 8, 9, 10, 11, 5, 12, 13, 14, 15, 16, 17, 18, 19, 20, 21, 22, 23, 24, 25, 26, 27, 28, 29, 30, 31, 32, 33, 34, 35, 36, 37, 38, 39, 40, 41, 42, 43, 44, 45, 46, 47, 48, 49, 50, 51, 52, 53, 54, 55, 56, 57, 58, 59, 60, 61, 62, 63, 64, 65, 66, 67, 68, 69, 70, 71, 72, 73, 74, 75, 76, 77, 78, 79, 80, 81, 82, 83, 84, 85, 86, 87, 88, 89, 90, 91, 92, 93, 94, 95, 96, 97, 98, 99, 100, 101, 102, 103, 104, 105, 106, 107, 108, 109, 110, 111, 112, 113, 114, 115, 116, 117, 118, 119, 120, 121, 122, 123, 124, 125, 126, 127, 128, 129, 130, 131, 132, 133, 134, 135, 136, 137, 138, 139, 140, 141, 142, 143, 144, 145, 146, 147, 148, 149, 150, 151, 152, 153, 154, 155, 156, 157, 158, 159, 160, 161, 162, 163, 164, 165, 166, 167, 168, 169, 170, 171, 172, 173, 174, 175, 176, 177, 178, 179, 180, 181, 182, 183, 184, 185, 186] (by decide +kernel) (by decide +kernel)) (goodIn_sub (fun _ h => List.mem_cons_of_mem _ (List.mem_append_left _ (List.mem_append_right _ h))) (by decide +kernel))) (goodIn_sub (fun _ h => List.mem_cons_of_mem _ (List.mem_append_right _ h)) (by decide +kernel))
set_option maxRecDepth 20000 in
theorem gL_averageTrees_X8_averageTrees : GoodIn wsL_averageTrees (wsV RL 54 RX8 yX8_averageTrees wsX8_averageTrees) := goodIn_app (goodIn_of _ (by decide +kernel)) ggL_averageTrees_X8_averageTrees
theorem dL_averageTrees_0 : decode cL_averageTrees 0 = .ok (.aload_n 2, 1) := by decide +kernel
theorem dL_averageTrees_1 : decode cL_averageTrees 1 = .ok (.iconst 0, 1) := by decide +kernel
theorem dL_averageTrees_2 : decode cL_averageTrees 2 = .ok (.aload_n 0, 1) := by decide +kernel
theorem dL_averageTrees_3 : decode cL_averageTrees 3 = .ok (.iload_n 1, 1) := by decide +kernel
theorem dL_averageTrees_4 : decode cL_averageTrees 4 = .ok (.invokevirtual 54, 3) := by decide +kernel
theorem dL_averageTrees_7 : decode cL_averageTrees 7 = .ok (.dastore, 1) := by decide +kernel
theorem dL_averageTrees_8 : decode cL_averageTrees 8 = .ok (.goto 9, 3) := by decide +kernel
theorem dL_averageTrees_11 : decode cL_averageTrees 11 = .ok (.astore_n 3, 1) := by decide +kernel
theorem dL_averageTrees_12 : decode cL_averageTrees 12 = .ok (.iconst 1, 1) := by decide +kernel
theorem dL_averageTrees_13 : decode cL_averageTrees 13 = .ok (.ireturn, 1) := by decide +kernel
theorem dL_averageTrees_14 : decode cL_averageTrees 14 = .ok (.astore_n 3, 1) := by decide +kernel
theorem dL_averageTrees_15 : decode cL_averageTrees 15 = .ok (.iconst 2, 1) := by decide +kernel
theorem dL_averageTrees_16 : decode cL_averageTrees 16 = .ok (.ireturn, 1) := by decide +kernel
theorem dL_averageTrees_17 : decode cL_averageTrees 17 = .ok (.iconst 0, 1) := by decide +kernel
theorem dL_averageTrees_18 : decode cL_averageTrees 18 = .ok (.ireturn, 1) := by decide +kernel
set_option maxRecDepth 20000 in
theorem ggL_firstAmbiguous_X8_firstAmbiguous : GoodIn wsL_firstAmbiguous wsX8_firstAmbiguous := goodIn_ca (goodIn_ca (goodIn_r _ [6, 7, 8, 9, 10, 11, 5, 12, 13, 14, 15, 16, 17, 18, 19, 20, 21, 22, 23, 24, 25, 26, 27, 28, 29, 30, 31, 32, 33, 34, 35, 36, 37, 38, 39, 40, 41, 42, 43, 44, 45, 46, 47, 48, 49, 50, 51, 52, 53, 54, 55, 56, 57, 58, 59, 60, 61, 62, 63, 64, 65, 66, 67, 68, 69, 70, 71, 72, 73, 74, 75, 76, 77, 78, 79, 80, 81, 82, 83, 84, 85, 86, 87, 88, 89, 90, 91, 92, 93, 94, 95, 96, 97, 98, 99, 100, 101, 102, 103, 104, 105, 106, 107, 108, 109, 110, 111, 112, 113, 114, 115, 116, 117, 118, 119, 120, 121, 122, 123, 124, 125, 126, 127, 128, 129, 130, 131, 132, 133, 134, 135, 136, 137, 138, 139, 140, 141, 142, 143, 144, 145, 146, 147, 148, 149, 150, 151, 152, 153, 154, 155, 156, 157, 158, 159, 160, 161, 162, 163, 164, 165, 166, 167, 168, 169, 170, 171, 172, 173, 174, 175, 176, 177, 178, 179, 180, 181, 182, 183, 184, 185, 186, 187, 188, 189, 190, 191, 192, 193, 194, 195, 196, 197, 198, 199, 200, 201, 202, 203] (by decide +kernel) (by decide +kernel)) (goodIn_sub (fun _ h => List.mem_cons_of_mem _ (List.mem_append_left _ (List.mem_append_right _ h))) (by decide +kernel))) (goodIn_sub (fun _ h => List.mem_cons_of_mem _ (List.mem_append_right _ h)) (by decide +kernel))
set_option maxRecDepth 20000 in
theorem gL_firstAmbiguous_X8_firstAmbiguous : GoodIn wsL_firstAmbiguous (wsV RL 59 RX8 yX8_firstAmbiguous wsX8_firstAmbiguous) := goodIn_app (goodIn_of _ (by decide +kernel)) ggL_firstAmbiguous_X8_firstAmbiguous
theorem dL_firstAmbiguous_0 : decode cL_firstAmbiguous 0 = .ok (.aload_n 2, 1) := by decide +kernel
theorem dL_firstAmbiguous_1 : decode cL_firstAmbiguous 1 = .ok (.iconst 0, 1) := by decide +kernel
theorem dL_firstAmbiguous_2 : decode cL_firstAmbiguous 2 = .ok (.aload_n 0, 1) := by decide +kernel
theorem dL_firstAmbiguous_3 : decode cL_firstAmbiguous 3 = .ok (.iload_n 1, 1) := by decide +kernel
theorem dL_firstAmbiguous_4 : decode cL_firstAmbiguous 4 = .ok (.invokevirtual 59, 3) := by decide +kernel
theorem dL_firstAmbiguous_7 : decode cL_firstAmbiguous 7 = .ok (.i2l, 1) := by decide +kernel
theorem dL_firstAmbiguous_8 : decode cL_firstAmbiguous 8 = .ok (.lastore, 1) := by decide +kernel
theorem dL_firstAmbiguous_9 : decode cL_firstAmbiguous 9 = .ok (.goto 9, 3) := by decide +kernel
theorem dL_firstAmbiguous_12 : decode cL_firstAmbiguous 12 = .ok (.astore_n 3, 1) := by decide +kernel
theorem dL_firstAmbiguous_13 : decode cL_firstAmbiguous 13 = .ok (.iconst 1, 1) := by decide +kernel
theorem dL_firstAmbiguous_14 : decode cL_firstAmbiguous 14 = .ok (.ireturn, 1) := by decide +kernel
theorem dL_firstAmbiguous_15 : decode cL_firstAmbiguous 15 = .ok (.astore_n 3, 1) := by decide +kernel
theorem dL_firstAmbiguous_16 : decode cL_firstAmbiguous 16 = .ok (.iconst 2, 1) := by decide +kernel
theorem dL_firstAmbiguous_17 : decode cL_firstAmbiguous 17 = .ok (.ireturn, 1) := by decide +kernel
theorem dL_firstAmbiguous_18 : decode cL_firstAmbiguous 18 = .ok (.iconst 0, 1) := by decide +kernel
theorem dL_firstAmbiguous_19 : decode cL_firstAmbiguous 19 = .ok (.ireturn, 1) := by decide +kernel
set_option maxRecDepth 20000 in
theorem ggL_wordRank_X8_wordRank : GoodIn wsL_wordRank wsX8_wordRank := goodIn_ca (goodIn_ca (goodIn_r _ [6, 7, 8, 9, 10, 11, 12, 13, 14, 15, 16, 5, 17, 18, 19, 20, 21, 22, 23, 24, 25, 26, 27, 28, 29, 30, 31, 32, 33, 34, 35, 36, 37, 38, 39, 40, 41, 42, 43, 44, 45, 46, 47, 48, 49, 50, 51, 52, 53, 54, 55, 56, 57, 58, 59, 60, 61, 62, 63, 64, 65, 66, 67, 68, 69, 70, 71, 72, 73, 74, 75, 76, 77, 78, 79, 80, 81, 82, 83, 84, 85, 86, 87, 88, 89, 90, 91, 92, 93, 94, 95, 96, 97, 98, 99, 100, 101, 102, 103, 104, 105, 106, 107, 108, 109, 110, 111, 112, 113, 114, 115, 116, 117, 118, 119, 120, 121, 122, 123, 124, 125, 126, 127, 128, 129, 130, 131, 132, 133, 134, 135, 136, 137, 138, 139, 140, 141, 142, 143, 144, 145, 146, 147, 148, 149, 150, 151, 152, 153, 154, 155, 156, 157, 158, 159, 160, 161, 162, 163, 164, 165, 166, 167, 168, 169, 170, 171, 172, 173, 174, 175, 176, 177, 178, 179, 180, 181, 182, 183] (by decide +kernel) (by decide +kernel)) (goodIn_sub (fun _ h => List.mem_cons_of_mem _ (List.mem_append_left _ (List.mem_append_right _ h))) (by decide +kernel))) (goodIn_sub (fun _ h => List.mem_cons_of_mem _ (List.mem_append_right _ h)) (by decide +kernel))
set_option maxRecDepth 20000 in
theorem gL_wordRank_X8_wordRank : GoodIn wsL_wordRank (wsV RL 62 RX8 yX8_wordRank wsX8_wordRank) := goodIn_app (goodIn_of _ (by decide +kernel)) ggL_wordRank_X8_wordRank
theorem dL_wordRank_0 : decode cL_wordRank 0 = .ok (.aload_n 1, 1) := by decide +kernel
theorem dL_wordRank_1 : decode cL_wordRank 1 = .ok (.iconst 0, 1) := by decide +kernel
theorem dL_wordRank_2 : decode cL_wordRank 2 = .ok (.aload_n 0, 1) := by decide +kernel
theorem dL_wordRank_3 : decode cL_wordRank 3 = .ok (.invokevirtual 62, 3) := by decide +kernel
theorem dL_wordRank_6 : decode cL_wordRank 6 = .ok (.i2l, 1) := by decide +kernel
theorem dL_wordRank_7 : decode cL_wordRank 7 = .ok (.lastore, 1) := by decide +kernel
theorem dL_wordRank_8 : decode cL_wordRank 8 = .ok (.goto 9, 3) := by decide +kernel
theorem dL_wordRank_11 : decode cL_wordRank 11 = .ok (.astore_n 2, 1) := by decide +kernel
theorem dL_wordRank_12 : decode cL_wordRank 12 = .ok (.iconst 1, 1) := by decide +kernel
theorem dL_wordRank_13 : decode cL_wordRank 13 = .ok (.ireturn, 1) := by decide +kernel
theorem dL_wordRank_14 : decode cL_wordRank 14 = .ok (.astore_n 2, 1) := by decide +kernel
theorem dL_wordRank_15 : decode cL_wordRank 15 = .ok (.iconst 2, 1) := by decide +kernel
theorem dL_wordRank_16 : decode cL_wordRank 16 = .ok (.ireturn, 1) := by decide +kernel
theorem dL_wordRank_17 : decode cL_wordRank 17 = .ok (.iconst 0, 1) := by decide +kernel
theorem dL_wordRank_18 : decode cL_wordRank 18 = .ok (.ireturn, 1) := by decide +kernel
set_option maxRecDepth 20000 in
theorem ggL_takeWord_X8_takeWord : GoodIn wsL_takeWord wsX8_takeWord := goodIn_ca (goodIn_ca (goodIn_r _ [6, 7, 8, 9, 10, 11, 12, 13, 5, 14, 15, 16, 17, 18, 19, 20, 21, 22, 23, 24, 25, 26, 27, 28, 29, 30, 31, 32, 33, 34, 35, 36, 37, 38, 39, 40, 41, 42, 43, 44, 45, 46, 47, 48, 49, 50, 51, 52, 53, 54, 55, 56, 57, 58, 59, 60, 61, 62, 63, 64, 65, 66, 67, 68, 69, 70, 71, 72, 73, 74, 75, 76, 77, 78, 79, 80, 81, 82, 83, 84, 85, 86, 87, 88, 89, 90, 91, 92, 93, 94, 95, 96, 97, 98, 99, 100, 101, 102, 103, 104, 105, 106, 107, 108, 109, 110, 111, 112, 113, 114, 115, 116, 117, 118, 119, 120, 121, 122, 123, 124, 125, 126, 127, 128, 129, 130, 131, 132, 133, 134, 135, 136, 137, 138, 139, 140, 141, 142, 143, 144, 145, 146, 147, 148, 149, 150, 151, 152, 153, 154, 155, 156, 157, 158, 159, 160, 161, 162, 163, 164, 165, 166, 167, 168, 169, 170, 171, 172, 173, 174, 175, 176, 177, 178, 179, 180, 181, 182, 183, 184, 185, 186, 187, 188, 189, 190, 191, 192, 193, 194, 195, 196, 197, 198, 199, 200, 201, 202, 203] (by decide +kernel) (by decide +kernel)) (goodIn_sub (fun _ h => List.mem_cons_of_mem _ (List.mem_append_left _ (List.mem_append_right _ h))) (by decide +kernel))) (goodIn_sub (fun _ h => List.mem_cons_of_mem _ (List.mem_append_right _ h)) (by decide +kernel))
set_option maxRecDepth 20000 in
theorem gL_takeWord_X8_takeWord : GoodIn wsL_takeWord (wsV RL 66 RX8 yX8_takeWord wsX8_takeWord) := goodIn_app (goodIn_of _ (by decide +kernel)) ggL_takeWord_X8_takeWord
theorem dL_takeWord_0 : decode cL_takeWord 0 = .ok (.aload_n 0, 1) := by decide +kernel
theorem dL_takeWord_1 : decode cL_takeWord 1 = .ok (.iload_n 1, 1) := by decide +kernel
theorem dL_takeWord_2 : decode cL_takeWord 2 = .ok (.iload_n 2, 1) := by decide +kernel
theorem dL_takeWord_3 : decode cL_takeWord 3 = .ok (.invokevirtual 66, 3) := by decide +kernel
theorem dL_takeWord_6 : decode cL_takeWord 6 = .ok (.goto 9, 3) := by decide +kernel
theorem dL_takeWord_9 : decode cL_takeWord 9 = .ok (.astore_n 3, 1) := by decide +kernel
theorem dL_takeWord_10 : decode cL_takeWord 10 = .ok (.iconst 1, 1) := by decide +kernel
theorem dL_takeWord_11 : decode cL_takeWord 11 = .ok (.ireturn, 1) := by decide +kernel
theorem dL_takeWord_12 : decode cL_takeWord 12 = .ok (.astore_n 3, 1) := by decide +kernel
theorem dL_takeWord_13 : decode cL_takeWord 13 = .ok (.iconst 2, 1) := by decide +kernel
theorem dL_takeWord_14 : decode cL_takeWord 14 = .ok (.ireturn, 1) := by decide +kernel
theorem dL_takeWord_15 : decode cL_takeWord 15 = .ok (.iconst 0, 1) := by decide +kernel
theorem dL_takeWord_16 : decode cL_takeWord 16 = .ok (.ireturn, 1) := by decide +kernel
set_option maxRecDepth 20000 in
theorem ggL_drawWord_X8_drawWord : GoodIn wsL_drawWord wsX8_drawWord := goodIn_ca (goodIn_ca (goodIn_r _ [6, 7, 8, 9, 10, 11, 5, 12, 13, 14, 15, 16, 17, 18, 19, 20, 21, 22, 23, 24, 25, 26, 27, 28, 29, 30, 31, 32, 33, 34, 35, 36, 37, 38, 39, 40, 41, 42, 43, 44, 45, 46, 47, 48, 49, 50, 51, 52, 53, 54, 55, 56, 57, 58, 59, 60, 61, 62, 63, 64, 65, 66, 67, 68, 69, 70, 71, 72, 73, 74, 75, 76, 77, 78, 79, 80, 81, 82, 83, 84, 85, 86, 87, 88, 89, 90, 91, 92, 93, 94, 95, 96, 97, 98, 99, 100, 101, 102, 103, 104, 105, 106, 107, 108, 109, 110, 111, 112, 113, 114, 115, 116, 117, 118, 119, 120, 121, 122, 123, 124, 125, 126, 127, 128, 129, 130, 131, 132, 133, 134, 135, 136, 137, 138, 139, 140, 141, 142, 143, 144, 145, 146, 147, 148, 149, 150, 151, 152, 153, 154, 155, 156, 157, 158, 159, 160, 161, 162, 163, 164, 165, 166, 167, 168, 169, 170, 171, 172, 173, 174, 175, 176, 177, 178, 179, 180, 181, 182, 183, 184, 185, 186, 187, 188, 189, 190, 191, 192, 193, 194, 195, 196, 197, 198, 199, 200, 201, 202, 203, 204, 205, 206, 207, 208, 209, 210, 211, 212, 213, 214, 215] (by decide +kernel) (by decide +kernel)) (goodIn_sub (fun _ h => List.mem_cons_of_mem _ (List.mem_append_left _ (List.mem_append_right _ h))) (by decide +kernel))) (goodIn_sub (fun _ h => List.mem_cons_of_mem _ (List.mem_append_right _ h)) (by decide +kernel))
set_option maxRecDepth 20000 in
theorem gL_drawWord_X8_drawWord : GoodIn wsL_drawWord (wsV RL 69 RX8 yX8_drawWord wsX8_drawWord) := goodIn_app (goodIn_of _ (by decide +kernel)) ggL_drawWord_X8_drawWord
theorem dL_drawWord_0 : decode cL_drawWord 0 = .ok (.aload 4, 2) := by decide +kernel
theorem dL_drawWord_2 : decode cL_drawWord 2 = .ok (.iconst 0, 1) := by decide +kernel
theorem dL_drawWord_3 : decode cL_drawWord 3 = .ok (.aload_n 0, 1) := by decide +kernel
theorem dL_drawWord_4 : decode cL_drawWord 4 = .ok (.lload_n 1, 1) := by decide +kernel
theorem dL_drawWord_5 : decode cL_drawWord 5 = .ok (.iload_n 3, 1) := by decide +kernel
theorem dL_drawWord_6 : decode cL_drawWord 6 = .ok (.invokevirtual 69, 3) := by decide +kernel
theorem dL_drawWord_9 : decode cL_drawWord 9 = .ok (.i2l, 1) := by decide +kernel
theorem dL_drawWord_10 : decode cL_drawWord 10 = .ok (.lastore, 1) := by decide +kernel
theorem dL_drawWord_11 : decode cL_drawWord 11 = .ok (.goto 11, 3) := by decide +kernel
theorem dL_drawWord_14 : decode cL_drawWord 14 = .ok (.astore 5, 2) := by decide +kernel
theorem dL_drawWord_16 : decode cL_drawWord 16 = .ok (.iconst 1, 1) := by decide +kernel
theorem dL_drawWord_17 : decode cL_drawWord 17 = .ok (.ireturn, 1) := by decide +kernel
theorem dL_drawWord_18 : decode cL_drawWord 18 = .ok (.astore 5, 2) := by decide +kernel
theorem dL_drawWord_20 : decode cL_drawWord 20 = .ok (.iconst 2, 1) := by decide +kernel
theorem dL_drawWord_21 : decode cL_drawWord 21 = .ok (.ireturn, 1) := by decide +kernel
theorem dL_drawWord_22 : decode cL_drawWord 22 = .ok (.iconst 0, 1) := by decide +kernel
theorem dL_drawWord_23 : decode cL_drawWord 23 = .ok (.ireturn, 1) := by decide +kernel
set_option maxRecDepth 20000 in
theorem ggL_drawTree_X8_drawTree : GoodIn wsL_drawTree wsX8_drawTree := goodIn_ca (goodIn_ca (goodIn_r _ [6, 7, 8, 9, 10, 11, 12, 13, 14, 15, 5, 16, 17, 18, 19, 20, 21, 22, 23, 24, 25, 26, 27, 28, 29, 30, 31, 32, 33, 34, 35, 36, 37, 38, 39, 40, 41, 42, 43, 44, 45, 46, 47, 48, 49, 50, 51, 52, 53, 54, 55, 56, 57, 58, 59, 60, 61, 62, 63, 64, 65, 66, 67, 68, 69, 70, 71, 72, 73, 74, 75, 76, 77, 78, 79, 80, 81, 82, 83, 84, 85, 86, 87, 88, 89, 90, 91, 92, 93, 94, 95, 96, 97, 98, 99, 100, 101, 102, 103, 104, 105, 106, 107, 108, 109, 110, 111, 112, 113, 114, 115, 116, 117, 118, 119, 120, 121, 122, 123, 124, 125, 126, 127, 128, 129, 130, 131, 132, 133, 134, 135, 136, 137, 138, 139, 140, 141, 142, 143, 144, 145, 146, 147, 148, 149, 150, 151, 152, 153, 154, 155, 156, 157, 158, 159, 160, 161, 162, 163, 164, 165, 166, 167, 168, 169, 170, 171, 172, 173, 174, 175, 176, 177, 178, 179, 180, 181, 182, 183, 184, 185, 186, 187, 188, 189, 190, 191, 192, 193, 194, 195, 196, 197, 198, 199, 200, 201, 202, 203, 204, 205, 206, 207, 208, 209, 210, 211, 212, 213, 214, 215, 216, 217, 218, 219, 220, 221, 222, 223, 224, 225, 226, 227, 228, 229, 230, 231] (by decide +kernel) (by decide +kernel)) (goodIn_sub (fun _ h => List.mem_cons_of_mem _ (List.mem_append_left _ (List.mem_append_right _ h))) (by decide +kernel))) (goodIn_sub (fun _ h => List.mem_cons_of_mem _ (List.mem_append_right _ h)) (by decide +kernel))
set_option maxRecDepth 20000 in
theorem gL_drawTree_X8_drawTree : GoodIn wsL_drawTree (wsV RL 73 RX8 yX8_drawTree wsX8_drawTree) := goodIn_app (goodIn_of _ (by decide +kernel)) ggL_drawTree_X8_drawTree
theorem dL_drawTree_0 : decode cL_drawTree 0 = .ok (.aload 4, 2) := by decide +kernel
theorem dL_drawTree_2 : decode cL_drawTree 2 = .ok (.iconst 0, 1) := by decide +kernel
theorem dL_drawTree_3 : decode cL_drawTree 3 = .ok (.aload_n 0, 1) := by decide +kernel
theorem dL_drawTree_4 : decode cL_drawTree 4 = .ok (.lload_n 1, 1) := by decide +kernel
theorem dL_drawTree_5 : decode cL_drawTree 5 = .ok (.iload_n 3, 1) := by decide +kernel
theorem dL_drawTree_6 : decode cL_drawTree 6 = .ok (.invokevirtual 73, 3) := by decide +kernel
theorem dL_drawTree_9 : decode cL_drawTree 9 = .ok (.lastore, 1) := by decide +kernel
theorem dL_drawTree_10 : decode cL_drawTree 10 = .ok (.goto 11, 3) := by decide +kernel
theorem dL_drawTree_13 : decode cL_drawTree 13 = .ok (.astore 5, 2) := by decide +kernel
theorem dL_drawTree_15 : decode cL_drawTree 15 = .ok (.iconst 1, 1) := by decide +kernel
theorem dL_drawTree_16 : decode cL_drawTree 16 = .ok (.ireturn, 1) := by decide +kernel
theorem dL_drawTree_17 : decode cL_drawTree 17 = .ok (.astore 5, 2) := by decide +kernel
theorem dL_drawTree_19 : decode cL_drawTree 19 = .ok (.iconst 2, 1) := by decide +kernel
theorem dL_drawTree_20 : decode cL_drawTree 20 = .ok (.ireturn, 1) := by decide +kernel
theorem dL_drawTree_21 : decode cL_drawTree 21 = .ok (.iconst 0, 1) := by decide +kernel
theorem dL_drawTree_22 : decode cL_drawTree 22 = .ok (.ireturn, 1) := by decide +kernel
set_option maxRecDepth 20000 in
theorem ggL_takeTree_X8_takeTree : GoodIn wsL_takeTree wsX8_takeTree := goodIn_ca (goodIn_r _ [6, 7, 8, 9, 10, 11, 12, 13, 14, 15, 5, 16, 17, 18, 19, 20, 21, 22, 23, 24, 25, 26, 27, 28, 29, 30, 31, 32, 33, 34, 35, 36, 37, 38, 39, 40, 41, 42, 43, 44, 45, 46, 47, 48, 49, 50, 51, 52, 53, 54, 55, 56, 57, 58, 59, 60, 61, 62, 63, 64, 65, 66, 67, 68, 69, 70, 71, 72, 73, 74, 75, 76, 77, 78, 79, 80, 81, 82, 83, 84, 85, 86, 87, 88, 89, 90, 91, 92, 93, 94, 95, 96, 97, 98, 99, 100, 101, 102, 103, 104, 105, 106, 107, 108, 109, 110, 111, 112, 113, 114, 115, 116, 117, 118, 119, 120, 121, 122, 123, 124, 125, 126, 127, 128, 129, 130, 131, 132, 133, 134, 135, 136, 137, 138, 139, 140, 141, 142, 143, 144, 145, 146, 147, 148, 149, 150, 151, 152, 153, 154, 155, 156, 157, 158, 159, 160, 161, 162, 163, 164, 165, 166, 167, 168, 169, 170, 171, 172, 173, 174, 175, 176, 177, 178] (by decide +kernel) (by decide +kernel)) (goodIn_sub (fun _ h => List.mem_cons_of_mem _ (List.mem_append_right _ h)) (by decide +kernel))
set_option maxRecDepth 20000 in
theorem gL_takeTree_X8_takeTree : GoodIn wsL_takeTree (wsV RL 77 RX8 yX8_takeTree wsX8_takeTree) := goodIn_app (goodIn_of _ (by decide +kernel)) ggL_takeTree_X8_takeTree
theorem dL_takeTree_0 : decode cL_takeTree 0 = .ok (.aload_n 3, 1) := by decide +kernel
theorem dL_takeTree_1 : decode cL_takeTree 1 = .ok (.iconst 0, 1) := by decide +kernel
theorem dL_takeTree_2 : decode cL_takeTree 2 = .ok (.aload_n 0, 1) := by decide +kernel
theorem dL_takeTree_3 : decode cL_takeTree 3 = .ok (.lload_n 1, 1) := by decide +kernel
theorem dL_takeTree_4 : decode cL_takeTree 4 = .ok (.invokevirtual 77, 3) := by decide +kernel
theorem dL_takeTree_7 : decode cL_takeTree 7 = .ok (.i2l, 1) := by decide +kernel
theorem dL_takeTree_8 : decode cL_takeTree 8 = .ok (.lastore, 1) := by decide +kernel
theorem dL_takeTree_9 : decode cL_takeTree 9 = .ok (.goto 7, 3) := by decide +kernel
theorem dL_takeTree_12 : decode cL_takeTree 12 = .ok (.astore 4, 2) := by decide +kernel
theorem dL_takeTree_14 : decode cL_takeTree 14 = .ok (.iconst 1, 1) := by decide +kernel
theorem dL_takeTree_15 : decode cL_takeTree 15 = .ok (.ireturn, 1) := by decide +kernel
theorem dL_takeTree_16 : decode cL_takeTree 16 = .ok (.iconst 0, 1) := by decide +kernel
theorem dL_takeTree_17 : decode cL_takeTree 17 = .ok (.ireturn, 1) := by decide +kernel
set_option maxRecDepth 20000 in
theorem ggL_treeNumber_X8_treeNumber : GoodIn wsL_treeNumber wsX8_treeNumber := goodIn_ca (goodIn_r _ [6, 7, 8, 9, 10, 5, 11, 12, 13, 14, 15, 16, 17, 18, 19, 20, 21, 22, 23, 24, 25, 26, 27, 28, 29, 30, 31, 32, 33, 34] (by decide +kernel) (by decide +kernel)) (goodIn_sub (fun _ h => List.mem_cons_of_mem _ (List.mem_append_right _ h)) (by decide +kernel))
set_option maxRecDepth 20000 in
theorem gL_treeNumber_X8_treeNumber : GoodIn wsL_treeNumber (wsV RL 81 RX8 yX8_treeNumber wsX8_treeNumber) := goodIn_app (goodIn_of _ (by decide +kernel)) ggL_treeNumber_X8_treeNumber
theorem dL_treeNumber_0 : decode cL_treeNumber 0 = .ok (.aload_n 1, 1) := by decide +kernel
theorem dL_treeNumber_1 : decode cL_treeNumber 1 = .ok (.iconst 0, 1) := by decide +kernel
theorem dL_treeNumber_2 : decode cL_treeNumber 2 = .ok (.aload_n 0, 1) := by decide +kernel
theorem dL_treeNumber_3 : decode cL_treeNumber 3 = .ok (.invokevirtual 81, 3) := by decide +kernel
theorem dL_treeNumber_6 : decode cL_treeNumber 6 = .ok (.lastore, 1) := by decide +kernel
theorem dL_treeNumber_7 : decode cL_treeNumber 7 = .ok (.goto 6, 3) := by decide +kernel
theorem dL_treeNumber_10 : decode cL_treeNumber 10 = .ok (.astore_n 2, 1) := by decide +kernel
theorem dL_treeNumber_11 : decode cL_treeNumber 11 = .ok (.iconst 1, 1) := by decide +kernel
theorem dL_treeNumber_12 : decode cL_treeNumber 12 = .ok (.ireturn, 1) := by decide +kernel
theorem dL_treeNumber_13 : decode cL_treeNumber 13 = .ok (.iconst 0, 1) := by decide +kernel
theorem dL_treeNumber_14 : decode cL_treeNumber 14 = .ok (.ireturn, 1) := by decide +kernel
set_option maxRecDepth 20000 in
theorem ggL_treeSize_X8_treeSize : GoodIn wsL_treeSize wsX8_treeSize := goodIn_ca (goodIn_r _ [6, 7, 8, 9, 10, 5, 11, 12, 13, 14, 15, 16, 17, 18, 19, 20, 21, 22, 23, 24, 25, 26, 27, 28, 29, 30, 31, 32, 33, 34] (by decide +kernel) (by decide +kernel)) (goodIn_sub (fun _ h => List.mem_cons_of_mem _ (List.mem_append_right _ h)) (by decide +kernel))
set_option maxRecDepth 20000 in
theorem gL_treeSize_X8_treeSize : GoodIn wsL_treeSize (wsV RL 85 RX8 yX8_treeSize wsX8_treeSize) := goodIn_app (goodIn_of _ (by decide +kernel)) ggL_treeSize_X8_treeSize
theorem dL_treeSize_0 : decode cL_treeSize 0 = .ok (.aload_n 1, 1) := by decide +kernel
theorem dL_treeSize_1 : decode cL_treeSize 1 = .ok (.iconst 0, 1) := by decide +kernel
theorem dL_treeSize_2 : decode cL_treeSize 2 = .ok (.aload_n 0, 1) := by decide +kernel
theorem dL_treeSize_3 : decode cL_treeSize 3 = .ok (.invokevirtual 85, 3) := by decide +kernel
theorem dL_treeSize_6 : decode cL_treeSize 6 = .ok (.i2l, 1) := by decide +kernel
theorem dL_treeSize_7 : decode cL_treeSize 7 = .ok (.lastore, 1) := by decide +kernel
theorem dL_treeSize_8 : decode cL_treeSize 8 = .ok (.goto 6, 3) := by decide +kernel
theorem dL_treeSize_11 : decode cL_treeSize 11 = .ok (.astore_n 2, 1) := by decide +kernel
theorem dL_treeSize_12 : decode cL_treeSize 12 = .ok (.iconst 1, 1) := by decide +kernel
theorem dL_treeSize_13 : decode cL_treeSize 13 = .ok (.ireturn, 1) := by decide +kernel
theorem dL_treeSize_14 : decode cL_treeSize 14 = .ok (.iconst 0, 1) := by decide +kernel
theorem dL_treeSize_15 : decode cL_treeSize 15 = .ok (.ireturn, 1) := by decide +kernel
set_option maxRecDepth 20000 in
theorem ggL_treeNode_X8_treeNode : GoodIn wsL_treeNode wsX8_treeNode := goodIn_ca (goodIn_ca (goodIn_ca (goodIn_r _ [6, 7, 8, 9, 10, 11, 12, 13, 14, 5, 15, 16, 17, 18, 19, 20, 21, 22, 23, 24, 25, 26, 27, 28, 29, 30, 31, 32, 33, 34, 35, 36, 37, 38] (by decide +kernel) (by decide +kernel)) (goodIn_sub (fun _ h => List.mem_cons_of_mem _ (List.mem_append_left _ (List.mem_append_left _ (List.mem_append_right _ h)))) (by decide +kernel))) (goodIn_sub (fun _ h => List.mem_cons_of_mem _ (List.mem_append_left _ (List.mem_append_right _ h))) (by decide +kernel))) (goodIn_sub (fun _ h => List.mem_cons_of_mem _ (List.mem_append_right _ h)) (by decide +kernel))
set_option maxRecDepth 20000 in
theorem gL_treeNode_X8_treeNode : GoodIn wsL_treeNode (wsV RL 88 RX8 yX8_treeNode wsX8_treeNode) := goodIn_app (goodIn_of _ (by decide +kernel)) ggL_treeNode_X8_treeNode
theorem dL_treeNode_0 : decode cL_treeNode 0 = .ok (.aload_n 3, 1) := by decide +kernel
theorem dL_treeNode_1 : decode cL_treeNode 1 = .ok (.iconst 0, 1) := by decide +kernel
theorem dL_treeNode_2 : decode cL_treeNode 2 = .ok (.aload_n 0, 1) := by decide +kernel
theorem dL_treeNode_3 : decode cL_treeNode 3 = .ok (.iload_n 1, 1) := by decide +kernel
theorem dL_treeNode_4 : decode cL_treeNode 4 = .ok (.iload_n 2, 1) := by decide +kernel
theorem dL_treeNode_5 : decode cL_treeNode 5 = .ok (.invokevirtual 88, 3) := by decide +kernel
theorem dL_treeNode_8 : decode cL_treeNode 8 = .ok (.i2l, 1) := by decide +kernel
theorem dL_treeNode_9 : decode cL_treeNode 9 = .ok (.lastore, 1) := by decide +kernel
theorem dL_treeNode_10 : decode cL_treeNode 10 = .ok (.goto 15, 3) := by decide +kernel
theorem dL_treeNode_13 : decode cL_treeNode 13 = .ok (.astore 4, 2) := by decide +kernel
theorem dL_treeNode_15 : decode cL_treeNode 15 = .ok (.iconst 1, 1) := by decide +kernel
theorem dL_treeNode_16 : decode cL_treeNode 16 = .ok (.ireturn, 1) := by decide +kernel
theorem dL_treeNode_17 : decode cL_treeNode 17 = .ok (.astore 4, 2) := by decide +kernel
theorem dL_treeNode_19 : decode cL_treeNode 19 = .ok (.iconst 2, 1) := by decide +kernel
theorem dL_treeNode_20 : decode cL_treeNode 20 = .ok (.ireturn, 1) := by decide +kernel
theorem dL_treeNode_21 : decode cL_treeNode 21 = .ok (.astore 4, 2) := by decide +kernel
theorem dL_treeNode_23 : decode cL_treeNode 23 = .ok (.iconst 3, 1) := by decide +kernel
theorem dL_treeNode_24 : decode cL_treeNode 24 = .ok (.ireturn, 1) := by decide +kernel
theorem dL_treeNode_25 : decode cL_treeNode 25 = .ok (.iconst 0, 1) := by decide +kernel
theorem dL_treeNode_26 : decode cL_treeNode 26 = .ok (.ireturn, 1) := by decide +kernel
set_option maxRecDepth 20000 in
theorem ggL_allocate_X8_allocate : GoodIn wsL_allocate wsX8_allocate := goodIn_ca (goodIn_r _ [6, 7, 8, 9, 10, 11, 5, 12, 13, 14, 15, 16, 17, 18, 19, 20, 21, 22, 23, 24, 25, 26, 27, 28, 29, 30, 31, 32, 33, 34] (by decide +kernel) (by decide +kernel)) (goodIn_sub (fun _ h => List.mem_cons_of_mem _ (List.mem_append_right _ h)) (by decide +kernel))
set_option maxRecDepth 20000 in
theorem gL_allocate_X8_allocate : GoodIn wsL_allocate (wsV RL 91 RX8 yX8_allocate wsX8_allocate) := goodIn_app (goodIn_of _ (by decide +kernel)) ggL_allocate_X8_allocate
theorem dL_allocate_0 : decode cL_allocate 0 = .ok (.aload_n 0, 1) := by decide +kernel
theorem dL_allocate_1 : decode cL_allocate 1 = .ok (.iload_n 1, 1) := by decide +kernel
theorem dL_allocate_2 : decode cL_allocate 2 = .ok (.iload_n 2, 1) := by decide +kernel
theorem dL_allocate_3 : decode cL_allocate 3 = .ok (.iload_n 3, 1) := by decide +kernel
theorem dL_allocate_4 : decode cL_allocate 4 = .ok (.invokevirtual 91, 3) := by decide +kernel
theorem dL_allocate_7 : decode cL_allocate 7 = .ok (.goto 7, 3) := by decide +kernel
theorem dL_allocate_10 : decode cL_allocate 10 = .ok (.astore 4, 2) := by decide +kernel
theorem dL_allocate_12 : decode cL_allocate 12 = .ok (.iconst 1, 1) := by decide +kernel
theorem dL_allocate_13 : decode cL_allocate 13 = .ok (.ireturn, 1) := by decide +kernel
theorem dL_allocate_14 : decode cL_allocate 14 = .ok (.iconst 0, 1) := by decide +kernel
theorem dL_allocate_15 : decode cL_allocate 15 = .ok (.ireturn, 1) := by decide +kernel
set_option maxRecDepth 20000 in
theorem ggL_setElement_X8_setElement : GoodIn wsL_setElement wsX8_setElement := goodIn_ca (goodIn_ca (goodIn_ca (goodIn_r _ [6, 7, 8, 9, 5, 10, 11, 12, 13, 14, 15, 16, 17, 18, 19, 20, 21, 22, 23, 24, 25, 26, 27, 28, 29, 30, 31, 32, 33, 34, 35, 36, 37, 38, 39, 40, 41, 42, 43, 44, 45, 46, 47, 48, 49, 50, 51, 52, 53, 54, 55, 56, 57, 58, 59, 60] (by decide +kernel) (by decide +kernel)) (goodIn_sub (fun _ h => List.mem_cons_of_mem _ (List.mem_append_left _ (List.mem_append_left _ (List.mem_append_right _ h)))) (by decide +kernel))) (goodIn_sub (fun _ h => List.mem_cons_of_mem _ (List.mem_append_left _ (List.mem_append_right _ h))) (by decide +kernel))) (goodIn_sub (fun _ h => List.mem_cons_of_mem _ (List.mem_append_right _ h)) (by decide +kernel))
set_option maxRecDepth 20000 in
theorem gL_setElement_X8_setElement : GoodIn wsL_setElement (wsV RL 95 RX8 yX8_setElement wsX8_setElement) := goodIn_app (goodIn_of _ (by decide +kernel)) ggL_setElement_X8_setElement
theorem dL_setElement_0 : decode cL_setElement 0 = .ok (.aload 4, 2) := by decide +kernel
theorem dL_setElement_2 : decode cL_setElement 2 = .ok (.iconst 0, 1) := by decide +kernel
theorem dL_setElement_3 : decode cL_setElement 3 = .ok (.aload_n 0, 1) := by decide +kernel
theorem dL_setElement_4 : decode cL_setElement 4 = .ok (.iload_n 1, 1) := by decide +kernel
theorem dL_setElement_5 : decode cL_setElement 5 = .ok (.iload_n 2, 1) := by decide +kernel
theorem dL_setElement_6 : decode cL_setElement 6 = .ok (.iload_n 3, 1) := by decide +kernel
theorem dL_setElement_7 : decode cL_setElement 7 = .ok (.invokevirtual 95, 3) := by decide +kernel
theorem dL_setElement_10 : decode cL_setElement 10 = .ok (.i2l, 1) := by decide +kernel
theorem dL_setElement_11 : decode cL_setElement 11 = .ok (.lastore, 1) := by decide +kernel
theorem dL_setElement_12 : decode cL_setElement 12 = .ok (.goto 15, 3) := by decide +kernel
theorem dL_setElement_15 : decode cL_setElement 15 = .ok (.astore 5, 2) := by decide +kernel
theorem dL_setElement_17 : decode cL_setElement 17 = .ok (.iconst 1, 1) := by decide +kernel
theorem dL_setElement_18 : decode cL_setElement 18 = .ok (.ireturn, 1) := by decide +kernel
theorem dL_setElement_19 : decode cL_setElement 19 = .ok (.astore 5, 2) := by decide +kernel
theorem dL_setElement_21 : decode cL_setElement 21 = .ok (.iconst 2, 1) := by decide +kernel
theorem dL_setElement_22 : decode cL_setElement 22 = .ok (.ireturn, 1) := by decide +kernel
theorem dL_setElement_23 : decode cL_setElement 23 = .ok (.astore 5, 2) := by decide +kernel
theorem dL_setElement_25 : decode cL_setElement 25 = .ok (.iconst 3, 1) := by decide +kernel
theorem dL_setElement_26 : decode cL_setElement 26 = .ok (.ireturn, 1) := by decide +kernel
theorem dL_setElement_27 : decode cL_setElement 27 = .ok (.iconst 0, 1) := by decide +kernel
theorem dL_setElement_28 : decode cL_setElement 28 = .ok (.ireturn, 1) := by decide +kernel
set_option maxRecDepth 20000 in
theorem ggL_storeCounts_X8_storeCounts : GoodIn wsL_storeCounts wsX8_storeCounts := goodIn_ca (goodIn_ca (goodIn_ca (goodIn_r _ [6, 7, 8, 9, 10, 5, 11, 12, 13, 14, 15, 16, 17, 18, 19, 20, 21, 22, 23, 24, 25, 26, 27, 28, 29, 30, 31, 32, 33, 34, 35, 36, 37, 38, 39, 40, 41, 42, 43, 44, 45, 46, 47, 48, 49, 50, 51, 52, 53, 54, 55, 56, 57, 58, 59, 60, 61, 62, 63, 64, 65, 66, 67, 68, 69, 70, 71, 72, 73, 74, 75, 76, 77, 78, 79, 80, 81, 82, 83, 84, 85, 86, 87, 88, 89, 90, 91, 92, 93, 94, 95, 96, 97, 98, 99, 100, 101, 102, 103, 104, 105, 106, 107, 108, 109, 110, 111, 112, 113, 114, 115, 116, 117, 118, 119, 120, 121, 122, 123, 124, 125, 126, 127, 128, 129, 130, 131, 132, 133, 134, 135, 136, 137, 138, 139, 140, 141, 142, 143, 144, 145, 146, 147, 148, 149, 150, 151, 152, 153, 154, 155, 156, 157, 158, 159, 160, 161, 162, 163, 164, 165, 166, 167, 168, 169, 170, 171, 172, 173, 174, 175, 176, 177, 178, 179, 180, 181, 182, 183, 184, 185, 186, 187, 188, 189, 190, 191, 192, 193, 194, 195, 196, 197, 198, 199, 200, 201, 202, 203, 204, 205, 206, 207, 208, 209, 210, 211, 212] (by decide +kernel) (by decide +kernel)) (goodIn_sub (fun _ h => List.mem_cons_of_mem _ (List.mem_append_left _ (List.mem_append_left _ (List.mem_append_right _ h)))) (by decide +kernel))) (goodIn_sub (fun _ h => List.mem_cons_of_mem _ (List.mem_append_left _ (List.mem_append_right _ h))) (by decide +kernel))) (goodIn_sub (fun _ h => List.mem_cons_of_mem _ (List.mem_append_right _ h)) (by decide +kernel))
set_option maxRecDepth 20000 in
theorem gL_storeCounts_X8_storeCounts : GoodIn wsL_storeCounts (wsV RL 99 RX8 yX8_storeCounts wsX8_storeCounts) := goodIn_app (goodIn_of _ (by decide +kernel)) ggL_storeCounts_X8_storeCounts
theorem dL_storeCounts_0 : decode cL_storeCounts 0 = .ok (.aload_n 0, 1) := by decide +kernel
theorem dL_storeCounts_1 : decode cL_storeCounts 1 = .ok (.iload_n 1, 1) := by decide +kernel
theorem dL_storeCounts_2 : decode cL_storeCounts 2 = .ok (.iload_n 2, 1) := by decide +kernel
theorem dL_storeCounts_3 : decode cL_storeCounts 3 = .ok (.invokevirtual 99, 3) := by decide +kernel
theorem dL_storeCounts_6 : decode cL_storeCounts 6 = .ok (.goto 12, 3) := by decide +kernel
theorem dL_storeCounts_9 : decode cL_storeCounts 9 = .ok (.astore_n 3, 1) := by decide +kernel
theorem dL_storeCounts_10 : decode cL_storeCounts 10 = .ok (.iconst 1, 1) := by decide +kernel
theorem dL_storeCounts_11 : decode cL_storeCounts 11 = .ok (.ireturn, 1) := by decide +kernel
theorem dL_storeCounts_12 : decode cL_storeCounts 12 = .ok (.astore_n 3, 1) := by decide +kernel
theorem dL_storeCounts_13 : decode cL_storeCounts 13 = .ok (.iconst 2, 1) := by decide +kernel
theorem dL_storeCounts_14 : decode cL_storeCounts 14 = .ok (.ireturn, 1) := by decide +kernel
theorem dL_storeCounts_15 : decode cL_storeCounts 15 = .ok (.astore_n 3, 1) := by decide +kernel
theorem dL_storeCounts_16 : decode cL_storeCounts 16 = .ok (.iconst 3, 1) := by decide +kernel
theorem dL_storeCounts_17 : decode cL_storeCounts 17 = .ok (.ireturn, 1) := by decide +kernel
theorem dL_storeCounts_18 : decode cL_storeCounts 18 = .ok (.iconst 0, 1) := by decide +kernel
theorem dL_storeCounts_19 : decode cL_storeCounts 19 = .ok (.ireturn, 1) := by decide +kernel
set_option maxRecDepth 20000 in
theorem ggL_loadWord_X8_loadWord : GoodIn wsL_loadWord wsX8_loadWord := goodIn_ca (goodIn_ca (goodIn_ca (goodIn_ca (goodIn_r _ [6, 7, 8, 9, 10, 11, 12, 13, 14, 15, 16, 5, 17, 18, 19, 20, 21, 22, 23, 24, 25, 26, 27, 28, 29, 30, 31, 32, 33, 34, 35, 36, 37, 38, 39, 40, 41, 42, 43, 44, 45, 46, 47, 48, 49, 50, 51, 52, 53, 54, 55, 56, 57, 58, 59, 60, 61, 62, 63, 64, 65, 66, 67, 68, 69, 70, 71, 72, 73, 74, 75, 76, 77, 78, 79, 80, 81, 82, 83, 84, 85, 86, 87, 88, 89, 90, 91] (by decide +kernel) (by decide +kernel)) (goodIn_sub (fun _ h => List.mem_cons_of_mem _ (List.mem_append_left _ (List.mem_append_left _ (List.mem_append_left _ (List.mem_append_right _ h))))) (by decide +kernel))) (goodIn_sub (fun _ h => List.mem_cons_of_mem _ (List.mem_append_left _ (List.mem_append_left _ (List.mem_append_right _ h)))) (by decide +kernel))) (goodIn_sub (fun _ h => List.mem_cons_of_mem _ (List.mem_append_left _ (List.mem_append_right _ h))) (by decide +kernel))) (goodIn_sub (fun _ h => List.mem_cons_of_mem _ (List.mem_append_right _ h)) (by decide +kernel))
set_option maxRecDepth 20000 in
theorem gL_loadWord_X8_loadWord : GoodIn wsL_loadWord (wsV RL 102 RX8 yX8_loadWord wsX8_loadWord) := goodIn_app (goodIn_of _ (by decide +kernel)) ggL_loadWord_X8_loadWord
theorem dL_loadWord_0 : decode cL_loadWord 0 = .ok (.aload_n 0, 1) := by decide +kernel
theorem dL_loadWord_1 : decode cL_loadWord 1 = .ok (.iload_n 1, 1) := by decide +kernel
theorem dL_loadWord_2 : decode cL_loadWord 2 = .ok (.iload_n 2, 1) := by decide +kernel
theorem dL_loadWord_3 : decode cL_loadWord 3 = .ok (.iload_n 3, 1) := by decide +kernel
theorem dL_loadWord_4 : decode cL_loadWord 4 = .ok (.invokevirtual 102, 3) := by decide +kernel
theorem dL_loadWord_7 : decode cL_loadWord 7 = .ok (.goto 19, 3) := by decide +kernel
theorem dL_loadWord_10 : decode cL_loadWord 10 = .ok (.astore 4, 2) := by decide +kernel
theorem dL_loadWord_12 : decode cL_loadWord 12 = .ok (.iconst 1, 1) := by decide +kernel
theorem dL_loadWord_13 : decode cL_loadWord 13 = .ok (.ireturn, 1) := by decide +kernel
theorem dL_loadWord_14 : decode cL_loadWord 14 = .ok (.astore 4, 2) := by decide +kernel
theorem dL_loadWord_16 : decode cL_loadWord 16 = .ok (.iconst 2, 1) := by decide +kernel
theorem dL_loadWord_17 : decode cL_loadWord 17 = .ok (.ireturn, 1) := by decide +kernel
theorem dL_loadWord_18 : decode cL_loadWord 18 = .ok (.astore 4, 2) := by decide +kernel
theorem dL_loadWord_20 : decode cL_loadWord 20 = .ok (.iconst 3, 1) := by decide +kernel
theorem dL_loadWord_21 : decode cL_loadWord 21 = .ok (.ireturn, 1) := by decide +kernel
theorem dL_loadWord_22 : decode cL_loadWord 22 = .ok (.astore 4, 2) := by decide +kernel
theorem dL_loadWord_24 : decode cL_loadWord 24 = .ok (.iconst 4, 1) := by decide +kernel
theorem dL_loadWord_25 : decode cL_loadWord 25 = .ok (.ireturn, 1) := by decide +kernel
theorem dL_loadWord_26 : decode cL_loadWord 26 = .ok (.iconst 0, 1) := by decide +kernel
theorem dL_loadWord_27 : decode cL_loadWord 27 = .ok (.ireturn, 1) := by decide +kernel
set_option maxRecDepth 20000 in
theorem ggL_restore_X8_restore : GoodIn wsL_restore wsX8_restore := goodIn_ca (goodIn_r _ [6, 7, 8, 9, 10, 11, 12, 13, 14, 15, 16, 17, 18, 19, 20, 21, 22, 23, 24, 25, 26, 27, 28, 29, 30, 31, 5, 32, 33, 34, 35, 36, 37, 38, 39, 40, 41, 42, 43, 44, 45, 46, 47, 48, 49, 50, 51, 52, 53, 54, 55, 56, 57, 58, 59, 60, 61, 62, 63, 64, 65, 66, 67, 68, 69, 70, 71, 72, 73, 74, 75, 76, 77, 78, 79, 80, 81, 82, 83, 84, 85, 86, 87, 88] (by decide +kernel) (by decide +kernel)) (goodIn_sub (fun _ h => List.mem_cons_of_mem _ (List.mem_append_right _ h)) (by decide +kernel))
set_option maxRecDepth 20000 in
theorem gL_restore_X8_restore : GoodIn wsL_restore (wsV RL 106 RX8 yX8_restore wsX8_restore) := goodIn_app (goodIn_of _ (by decide +kernel)) ggL_restore_X8_restore
theorem dL_restore_0 : decode cL_restore 0 = .ok (.aload_n 0, 1) := by decide +kernel
theorem dL_restore_1 : decode cL_restore 1 = .ok (.invokevirtual 106, 3) := by decide +kernel
theorem dL_restore_4 : decode cL_restore 4 = .ok (.goto 6, 3) := by decide +kernel
theorem dL_restore_7 : decode cL_restore 7 = .ok (.astore_n 1, 1) := by decide +kernel
theorem dL_restore_8 : decode cL_restore 8 = .ok (.iconst 1, 1) := by decide +kernel
theorem dL_restore_9 : decode cL_restore 9 = .ok (.ireturn, 1) := by decide +kernel
theorem dL_restore_10 : decode cL_restore 10 = .ok (.iconst 0, 1) := by decide +kernel
theorem dL_restore_11 : decode cL_restore 11 = .ok (.ireturn, 1) := by decide +kernel
set_option maxRecDepth 20000 in
theorem ggL_law_X8_init : GoodIn wsL_law wsX8_init := goodIn_r _ [11, 12, 13, 14, 15, 16, 17, 18, 19, 20, 21, 22, 23, 24, 25, 26, 27, 28, 29, 30, 31, 32, 33, 34, 35, 36, 37, 38, 39, 40, 41, 42, 43, 44, 45, 46, 47, 48, 49, 50, 51, 52, 53, 54, 55, 56, 57, 58, 59, 60, 61, 62, 63, 64, 65, 66, 67, 68, 69, 6, 70, 71, 72, 73, 74, 75, 76, 77, 78, 79, 80, 81, 82, 83, 84, 85, 86, 87, 88, 89, 90, 91, 92, 93, 94, 95, 96, 97, 98, 99, 100, 101, 102, 1005, 1006, 1007, 1008, 1009, 1010, 1011, 965, 966, 967, 968, 969, 970, 971, 972, 973, 974, 1012, 1013, 1014, 1015, 1016, 1017, 1018, 1019, 1020, 1021, 1022, 1023, 1024, 1025, 1026, 1027, 1028, 1029, 1030, 1031, 1032, 1033, 1034, 1035, 1036, 1037, 1038, 1039] (by decide +kernel) (by decide +kernel)
set_option maxRecDepth 20000 in
theorem gL_law_X8_init : GoodIn wsL_law (wsX8_init) := ggL_law_X8_init
set_option maxRecDepth 20000 in
theorem ggL_law_X9_init : GoodIn wsL_law wsX9_init := goodIn_r _ [105, 106, 13, 14, 107, 108, 109, 53, 110, 111, 112, 56, 113, 114, 6, 115, 116, 117, 118, 119, 120, 121, 122, 123, 124, 125, 975, 976, 977, 978, 979, 980, 981, 982, 983, 984, 985, 986, 987, 988, 989, 990, 991, 992, 993, 994, 995, 996, 997, 998, 999, 1000, 1001, 1002, 1003, 1004] (by decide +kernel) (by decide +kernel)
set_option maxRecDepth 20000 in
theorem gL_law_X9_init : GoodIn wsL_law (wsX9_init) := ggL_law_X9_init
set_option maxRecDepth 20000 in
theorem ggL_law_L_reset : GoodIn wsL_law wsL_reset := goodIn_ca (goodIn_r _ [129, 130, 131, 132, 133, 2, 134, 135, 136, 18, 22, 137, 17, 138, 139, 49, 50, 51, 52, 140, 141, 142, 143, 28, 36, 40, 144, 145, 146, 147, 66, 148, 71, 149, 35, 150, 151, 81, 965, 966, 967, 968, 969, 970, 971, 972, 973, 974, 1012, 1013, 1005, 1006, 1007, 1008, 1009, 1010, 1011, 1025, 1026, 1027, 1028, 1029, 1030, 1031, 1032, 1033, 1034, 1035, 1014, 1015, 1016, 1017, 1018, 1019, 1020, 1021, 1022, 1023, 1024] (by decide +kernel) (by decide +kernel)) (goodIn_sub (fun _ h => List.mem_append_left _ (List.mem_append_left _ (List.mem_append_left _ (List.mem_append_right _ h)))) (by decide +kernel))
set_option maxRecDepth 20000 in
theorem gL_law_L_reset : GoodIn wsL_law (va_wsS RL 113 yL_reset wsL_reset) := goodIn_app (goodIn_of _ (by decide +kernel)) ggL_law_L_reset
set_option maxRecDepth 20000 in
theorem ggL_law_X9_reset : GoodIn wsL_law wsX9_reset := goodIn_r _ [155, 107, 108, 156, 157, 158, 159, 160, 161, 5, 162, 163, 164, 165, 166, 167, 975, 976, 977, 978, 979, 980, 981, 982, 983, 984, 985, 986, 987, 988, 989, 990, 991, 992, 993, 994, 995, 996, 997, 998, 999, 1000, 1001, 1002, 1003, 1004] (by decide +kernel) (by decide +kernel)
set_option maxRecDepth 20000 in
theorem gL_law_X9_reset : GoodIn wsL_law (wsV RL 118 RX9 yX9_reset wsX9_reset) := goodIn_app (goodIn_of _ (by decide +kernel)) ggL_law_X9_reset
set_option maxRecDepth 20000 in
theorem ggL_law_X9_thrown : GoodIn wsL_law wsX9_thrown := goodIn_r _ [171, 167, 975, 976, 977, 978, 979, 980, 981, 982, 983, 984, 985, 986, 987, 988, 989, 990, 991, 992, 993, 994, 995, 996, 997, 998, 999, 1000, 1001, 1002, 1003, 1004] (by decide +kernel) (by decide +kernel)
set_option maxRecDepth 20000 in
theorem gL_law_X9_thrown : GoodIn wsL_law (wsV RL 119 RX9 yX9_thrown wsX9_thrown) := goodIn_app (goodIn_of _ (by decide +kernel)) ggL_law_X9_thrown
set_option maxRecDepth 20000 in
theorem ggL_law_L_addProduction : GoodIn wsL_law wsL_addProduction := goodIn_ca (goodIn_ca (goodIn_r _ [174, 130, 175, 176, 177, 2, 178, 135, 136, 179, 180, 18, 181, 17, 182, 183, 49, 184, 185, 186, 187, 188, 189, 190, 191, 192, 193, 194, 195, 50, 196, 197, 198, 52, 199, 200, 201, 202, 54, 203, 204, 205, 140, 141, 142, 143, 28, 36, 40, 144, 145, 146, 147, 66, 148, 71, 149, 35, 150, 151, 81, 965, 966, 967, 968, 969, 970, 971, 972, 973, 974, 1005, 1006, 1007, 1008, 1009, 1010, 1011, 1025, 1026, 1027, 1028, 1029, 1030, 1031, 1032, 1033, 1034, 1035, 1014, 1015, 1016, 1017, 1018, 1019, 1020, 1021, 1022, 1023, 1024] (by decide +kernel) (by decide +kernel)) (goodIn_sub (fun _ h => List.mem_append_left _ (List.mem_append_left _ (List.mem_append_left _ (List.mem_append_right _ h)))) (by decide +kernel))) (goodIn_sub (fun _ h => List.mem_append_left _ (List.mem_append_left _ (List.mem_append_right _ h))) (by decide +kernel))
set_option maxRecDepth 20000 in
theorem gL_law_L_addProduction : GoodIn wsL_law (va_wsS RL 122 yL_addProduction wsL_addProduction) := goodIn_app (goodIn_of _ (by decide +kernel)) ggL_law_L_addProduction
set_option maxRecDepth 20000 in
theorem ggL_law_X9_addProduction : GoodIn wsL_law wsX9_addProduction := goodIn_r _ [209, 157, 110, 159, 210, 211, 212, 5, 213, 214, 215, 216, 217, 107, 160, 161, 162, 218, 219, 220, 221, 222, 223, 224, 225, 108, 163, 164, 165, 166, 167, 975, 976, 977, 978, 979, 980, 981, 982, 983, 984, 985, 986, 987, 988, 989, 990, 991, 992, 993, 994, 995, 996, 997, 998, 999, 1000, 1001, 1002, 1003, 1004] (by decide +kernel) (by decide +kernel)
set_option maxRecDepth 20000 in
theorem gL_law_X9_addProduction : GoodIn wsL_law (wsV RL 125 RX9 yX9_addProduction wsX9_addProduction) := goodIn_app (goodIn_of _ (by decide +kernel)) ggL_law_X9_addProduction
set_option maxRecDepth 20000 in
theorem ggL_law_L_removeProduction : GoodIn wsL_law wsL_removeProduction := goodIn_ca (goodIn_r _ [228, 130, 229, 230, 231, 2, 232, 18, 233, 234, 235, 236, 135, 136, 237, 17, 238, 239, 52, 54, 140, 141, 142, 143, 28, 36, 40, 144, 145, 146, 147, 66, 148, 71, 149, 35, 150, 151, 81, 965, 966, 967, 968, 969, 970, 971, 972, 973, 974, 1005, 1006, 1007, 1008, 1009, 1010, 1011, 1025, 1026, 1027, 1028, 1029, 1030, 1031, 1032, 1033, 1034, 1035, 1014, 1015, 1016, 1017, 1018, 1019, 1020, 1021, 1022, 1023, 1024] (by decide +kernel) (by decide +kernel)) (goodIn_sub (fun _ h => List.mem_append_left _ (List.mem_append_left _ (List.mem_append_left _ (List.mem_append_right _ h)))) (by decide +kernel))
set_option maxRecDepth 20000 in
theorem gL_law_L_removeProduction : GoodIn wsL_law (va_wsS RL 126 yL_removeProduction wsL_removeProduction) := goodIn_app (goodIn_of _ (by decide +kernel)) ggL_law_L_removeProduction
set_option maxRecDepth 20000 in
theorem ggL_law_X9_removeProduction : GoodIn wsL_law wsX9_removeProduction := goodIn_r _ [243, 159, 157, 244, 245, 246, 5, 247, 160, 161, 162, 163, 164, 165, 166, 167, 248, 249, 250, 251, 110, 975, 976, 977, 978, 979, 980, 981, 982, 983, 984, 985, 986, 987, 988, 989, 990, 991, 992, 993, 994, 995, 996, 997, 998, 999, 1000, 1001, 1002, 1003, 1004] (by decide +kernel) (by decide +kernel)
set_option maxRecDepth 20000 in
theorem gL_law_X9_removeProduction : GoodIn wsL_law (wsV RL 129 RX9 yX9_removeProduction wsX9_removeProduction) := goodIn_app (goodIn_of _ (by decide +kernel)) ggL_law_X9_removeProduction
set_option maxRecDepth 20000 in
theorem ggL_law_X8_removeUseless : GoodIn wsL_law wsX8_removeUseless := goodIn_r _ [255, 18, 256, 17, 257, 258, 52, 259, 260, 261, 262, 55, 49, 199, 200, 201, 202, 54, 263, 264, 265, 266, 267, 268, 269, 270, 191, 181, 182, 183, 271, 272, 273, 274, 275, 276, 277, 278, 57, 51, 279, 280, 281, 282, 283, 284, 285, 286, 287, 237, 238, 239, 140, 141, 142, 2, 143, 28, 36, 40, 144, 145, 146, 147, 66, 148, 71, 149, 35, 150, 151, 81, 965, 966, 967, 968, 969, 970, 971, 972, 973, 974, 1005, 1006, 1007, 1008, 1009, 1010, 1011, 1025, 1026, 1027, 1028, 1029, 1030, 1031, 1032, 1033, 1034, 1035, 1014, 1015, 1016, 1017, 1018, 1019, 1020, 1021, 1022, 1023, 1024] (by decide +kernel) (by decide +kernel)
set_option maxRecDepth 20000 in
theorem gL_law_X8_removeUseless : GoodIn wsL_law (wsV RL 130 RX8 yX8_removeUseless wsX8_removeUseless) := goodIn_app (goodIn_of _ (by decide +kernel)) ggL_law_X8_removeUseless
set_option maxRecDepth 20000 in
theorem ggL_law_X9_removeUseless : GoodIn wsL_law wsX9_removeUseless := goodIn_r _ [291, 167, 113, 156, 157, 110, 159, 292, 293, 294, 5, 295, 112, 296, 297, 298, 299, 214, 215, 216, 217, 107, 160, 161, 162, 248, 249, 250, 251, 975, 976, 977, 978, 979, 980, 981, 982, 983, 984, 985, 986, 987, 988, 989, 990, 991, 992, 993, 994, 995, 996, 997, 998, 999, 1000, 1001, 1002, 1003, 1004] (by decide +kernel) (by decide +kernel)
set_option maxRecDepth 20000 in
theorem gL_law_X9_removeUseless : GoodIn wsL_law (wsV RL 133 RX9 yX9_removeUseless wsX9_removeUseless) := goodIn_app (goodIn_of _ (by decide +kernel)) ggL_law_X9_removeUseless
set_option maxRecDepth 20000 in
theorem ggL_law_X8_productionCount : GoodIn wsL_law wsX8_productionCount := goodIn_r _ [303, 18, 965, 966, 967, 968, 969, 970, 971, 972, 973, 974, 1005, 1006, 1007, 1008, 1009, 1010, 1011] (by decide +kernel) (by decide +kernel)
set_option maxRecDepth 20000 in
theorem gL_law_X8_productionCount : GoodIn wsL_law (wsV RL 134 RX8 yX8_productionCount wsX8_productionCount) := goodIn_app (goodIn_of _ (by decide +kernel)) ggL_law_X8_productionCount
set_option maxRecDepth 20000 in
theorem ggL_law_X9_productionCount : GoodIn wsL_law wsX9_productionCount := goodIn_r _ [307, 167, 157, 975, 976, 977, 978, 979, 980, 981, 982, 983, 984, 985, 986, 987, 988, 989, 990, 991, 992, 993, 994, 995, 996, 997, 998, 999, 1000, 1001, 1002, 1003, 1004] (by decide +kernel) (by decide +kernel)
set_option maxRecDepth 20000 in
theorem gL_law_X9_productionCount : GoodIn wsL_law (wsV RL 137 RX9 yX9_productionCount wsX9_productionCount) := goodIn_app (goodIn_of _ (by decide +kernel)) ggL_law_X9_productionCount
set_option maxRecDepth 20000 in
theorem ggL_law_L_productionSymbol : GoodIn wsL_law wsL_productionSymbol := goodIn_ca (goodIn_ca (goodIn_r _ [310, 130, 311, 312, 313, 2, 314, 315, 316, 18, 233, 234, 235, 236, 135, 136, 200, 17, 201, 202, 52, 54, 965, 966, 967, 968, 969, 970, 971, 972, 973, 974, 1005, 1006, 1007, 1008, 1009, 1010, 1011] (by decide +kernel) (by decide +kernel)) (goodIn_sub (fun _ h => List.mem_append_left _ (List.mem_append_right _ h)) (by decide +kernel))) (goodIn_sub (fun _ h => List.mem_append_left _ (List.mem_append_left _ (List.mem_append_left _ (List.mem_append_right _ h)))) (by decide +kernel))
set_option maxRecDepth 20000 in
theorem gL_law_L_productionSymbol : GoodIn wsL_law (va_wsS RL 138 yL_productionSymbol wsL_productionSymbol) := goodIn_app (goodIn_of _ (by decide +kernel)) ggL_law_L_productionSymbol
set_option maxRecDepth 20000 in
theorem ggL_law_X9_productionSymbol : GoodIn wsL_law wsX9_productionSymbol := goodIn_r _ [320, 110, 244, 245, 246, 5, 247, 157, 160, 161, 162, 163, 164, 165, 166, 167, 975, 976, 977, 978, 979, 980, 981, 982, 983, 984, 985, 986, 987, 988, 989, 990, 991, 992, 993, 994, 995, 996, 997, 998, 999, 1000, 1001, 1002, 1003, 1004] (by decide +kernel) (by decide +kernel)
set_option maxRecDepth 20000 in
theorem gL_law_X9_productionSymbol : GoodIn wsL_law (wsV RL 141 RX9 yX9_productionSymbol wsX9_productionSymbol) := goodIn_app (goodIn_of _ (by decide +kernel)) ggL_law_X9_productionSymbol
set_option maxRecDepth 20000 in
theorem ggL_law_L_setStart : GoodIn wsL_law wsL_setStart := goodIn_ca (goodIn_r _ [323, 130, 324, 325, 326, 2, 327, 18, 40, 328, 329, 330, 331, 135, 136, 181, 17, 182, 183, 49, 965, 966, 967, 968, 969, 970, 971, 972, 973, 974, 1005, 1006, 1007, 1008, 1009, 1010, 1011, 1025, 1026, 1027, 1028, 1029, 1030, 1031, 1032, 1033, 1034, 1035] (by decide +kernel) (by decide +kernel)) (goodIn_sub (fun _ h => List.mem_append_left _ (List.mem_append_left _ (List.mem_append_left _ (List.mem_append_right _ h)))) (by decide +kernel))
set_option maxRecDepth 20000 in
theorem gL_law_L_setStart : GoodIn wsL_law (va_wsS RL 142 yL_setStart wsL_setStart) := goodIn_app (goodIn_of _ (by decide +kernel)) ggL_law_L_setStart
set_option maxRecDepth 20000 in
theorem ggL_law_X9_setStart : GoodIn wsL_law wsX9_setStart := goodIn_r _ [335, 156, 159, 214, 215, 216, 5, 217, 107, 160, 161, 162, 163, 164, 165, 166, 167, 975, 976, 977, 978, 979, 980, 981, 982, 983, 984, 985, 986, 987, 988, 989, 990, 991, 992, 993, 994, 995, 996, 997, 998, 999, 1000, 1001, 1002, 1003, 1004] (by decide +kernel) (by decide +kernel)
set_option maxRecDepth 20000 in
theorem gL_law_X9_setStart : GoodIn wsL_law (wsV RL 144 RX9 yX9_setStart wsX9_setStart) := goodIn_app (goodIn_of _ (by decide +kernel)) ggL_law_X9_setStart
set_option maxRecDepth 20000 in
theorem ggL_law_L_shortestLength : GoodIn wsL_law wsL_shortestLength := goodIn_ca (goodIn_r _ [338, 130, 339, 340, 341, 2, 342, 18, 328, 329, 330, 331, 135, 136, 181, 17, 182, 183, 49, 260, 261, 262, 55, 52, 199, 200, 201, 202, 54, 263, 264, 265, 266, 267, 268, 269, 270, 191, 271, 272, 273, 274, 965, 966, 967, 968, 969, 970, 971, 972, 973, 974, 1005, 1006, 1007, 1008, 1009, 1010, 1011] (by decide +kernel) (by decide +kernel)) (goodIn_sub (fun _ h => List.mem_append_left _ (List.mem_append_left _ (List.mem_append_left _ (List.mem_append_right _ h)))) (by decide +kernel))
set_option maxRecDepth 20000 in
theorem gL_law_L_shortestLength : GoodIn wsL_law (va_wsS RL 145 yL_shortestLength wsL_shortestLength) := goodIn_app (goodIn_of _ (by decide +kernel)) ggL_law_L_shortestLength
set_option maxRecDepth 20000 in
theorem ggL_law_X9_shortestLength : GoodIn wsL_law wsX9_shortestLength := goodIn_r _ [346, 112, 214, 215, 216, 5, 217, 107, 160, 161, 162, 163, 164, 165, 166, 167, 292, 293, 294, 295, 157, 110, 296, 297, 298, 299, 975, 976, 977, 978, 979, 980, 981, 982, 983, 984, 985, 986, 987, 988, 989, 990, 991, 992, 993, 994, 995, 996, 997, 998, 999, 1000, 1001, 1002, 1003, 1004] (by decide +kernel) (by decide +kernel)
set_option maxRecDepth 20000 in
theorem gL_law_X9_shortestLength : GoodIn wsL_law (wsV RL 147 RX9 yX9_shortestLength wsX9_shortestLength) := goodIn_app (goodIn_of _ (by decide +kernel)) ggL_law_X9_shortestLength
set_option maxRecDepth 20000 in
theorem ggL_law_L_append : GoodIn wsL_law wsL_append := goodIn_ca (goodIn_ca (goodIn_r _ [349, 130, 350, 351, 352, 2, 353, 135, 136, 179, 180, 18, 22, 40, 193, 17, 194, 195, 50, 354, 21, 355, 356, 62, 965, 966, 967, 968, 969, 970, 971, 972, 973, 974, 1012, 1013, 1025, 1026, 1027, 1028, 1029, 1030, 1031, 1032, 1033, 1034, 1035, 1005, 1006, 1007, 1008, 1009, 1010, 1011] (by decide +kernel) (by decide +kernel)) (goodIn_sub (fun _ h => List.mem_append_left _ (List.mem_append_left _ (List.mem_append_left _ (List.mem_append_right _ h)))) (by decide +kernel))) (goodIn_sub (fun _ h => List.mem_append_left _ (List.mem_append_left _ (List.mem_append_right _ h))) (by decide +kernel))
set_option maxRecDepth 20000 in
theorem gL_law_L_append : GoodIn wsL_law (va_wsS RL 148 yL_append wsL_append) := goodIn_app (goodIn_of _ (by decide +kernel)) ggL_law_L_append
set_option maxRecDepth 20000 in
theorem ggL_law_X9_append : GoodIn wsL_law wsX9_append := goodIn_r _ [360, 108, 158, 111, 159, 160, 161, 5, 162, 163, 164, 165, 166, 167, 975, 976, 977, 978, 979, 980, 981, 982, 983, 984, 985, 986, 987, 988, 989, 990, 991, 992, 993, 994, 995, 996, 997, 998, 999, 1000, 1001, 1002, 1003, 1004] (by decide +kernel) (by decide +kernel)
set_option maxRecDepth 20000 in
theorem gL_law_X9_append : GoodIn wsL_law (wsV RL 150 RX9 yX9_append wsX9_append) := goodIn_app (goodIn_of _ (by decide +kernel)) ggL_law_X9_append
set_option maxRecDepth 20000 in
theorem ggL_law_X8_clearWord : GoodIn wsL_law wsX8_clearWord := goodIn_r _ [364, 22, 40, 965, 966, 967, 968, 969, 970, 971, 972, 973, 974, 1012, 1013, 1025, 1026, 1027, 1028, 1029, 1030, 1031, 1032, 1033, 1034, 1035] (by decide +kernel) (by decide +kernel)
set_option maxRecDepth 20000 in
theorem gL_law_X8_clearWord : GoodIn wsL_law (wsV RL 151 RX8 yX8_clearWord wsX8_clearWord) := goodIn_app (goodIn_of _ (by decide +kernel)) ggL_law_X8_clearWord
set_option maxRecDepth 20000 in
theorem ggL_law_X9_clearWord : GoodIn wsL_law wsX9_clearWord := goodIn_r _ [368, 167, 158, 159, 975, 976, 977, 978, 979, 980, 981, 982, 983, 984, 985, 986, 987, 988, 989, 990, 991, 992, 993, 994, 995, 996, 997, 998, 999, 1000, 1001, 1002, 1003, 1004] (by decide +kernel) (by decide +kernel)
set_option maxRecDepth 20000 in
theorem gL_law_X9_clearWord : GoodIn wsL_law (wsV RL 154 RX9 yX9_clearWord wsX9_clearWord) := goodIn_app (goodIn_of _ (by decide +kernel)) ggL_law_X9_clearWord
set_option maxRecDepth 20000 in
theorem ggL_law_X8_wordLength : GoodIn wsL_law wsX8_wordLength := goodIn_r _ [372, 22, 965, 966, 967, 968, 969, 970, 971, 972, 973, 974, 1012, 1013] (by decide +kernel) (by decide +kernel)
set_option maxRecDepth 20000 in
theorem gL_law_X8_wordLength : GoodIn wsL_law (wsV RL 155 RX8 yX8_wordLength wsX8_wordLength) := goodIn_app (goodIn_of _ (by decide +kernel)) ggL_law_X8_wordLength
set_option maxRecDepth 20000 in
theorem ggL_law_X9_wordLength : GoodIn wsL_law wsX9_wordLength := goodIn_r _ [376, 167, 158, 975, 976, 977, 978, 979, 980, 981, 982, 983, 984, 985, 986, 987, 988, 989, 990, 991, 992, 993, 994, 995, 996, 997, 998, 999, 1000, 1001, 1002, 1003, 1004] (by decide +kernel) (by decide +kernel)
set_option maxRecDepth 20000 in
theorem gL_law_X9_wordLength : GoodIn wsL_law (wsV RL 158 RX9 yX9_wordLength wsX9_wordLength) := goodIn_app (goodIn_of _ (by decide +kernel)) ggL_law_X9_wordLength
set_option maxRecDepth 20000 in
theorem ggL_law_L_terminalAt : GoodIn wsL_law wsL_terminalAt := goodIn_ca (goodIn_r _ [379, 380, 381, 382, 383, 2, 384, 315, 316, 22, 385, 21, 386, 387, 62, 965, 966, 967, 968, 969, 970, 971, 972, 973, 974, 1012, 1013] (by decide +kernel) (by decide +kernel)) (goodIn_sub (fun _ h => List.mem_append_left _ (List.mem_append_right _ h)) (by decide +kernel))
set_option maxRecDepth 20000 in
theorem gL_law_L_terminalAt : GoodIn wsL_law (va_wsS RL 159 yL_terminalAt wsL_terminalAt) := goodIn_app (goodIn_of _ (by decide +kernel)) ggL_law_L_terminalAt
set_option maxRecDepth 20000 in
theorem ggL_law_X9_terminalAt : GoodIn wsL_law wsX9_terminalAt := goodIn_r _ [391, 158, 111, 160, 161, 5, 162, 163, 164, 165, 166, 167, 975, 976, 977, 978, 979, 980, 981, 982, 983, 984, 985, 986, 987, 988, 989, 990, 991, 992, 993, 994, 995, 996, 997, 998, 999, 1000, 1001, 1002, 1003, 1004] (by decide +kernel) (by decide +kernel)
set_option maxRecDepth 20000 in
theorem gL_law_X9_terminalAt : GoodIn wsL_law (wsV RL 161 RX9 yX9_terminalAt wsX9_terminalAt) := goodIn_app (goodIn_of _ (by decide +kernel)) ggL_law_X9_terminalAt
set_option maxRecDepth 20000 in
theorem ggL_law_X8_treeCount : GoodIn wsL_law wsX8_treeCount := goodIn_r _ [395, 32, 18, 22, 396, 397, 398, 2, 399, 400, 401, 402, 147, 66, 148, 71, 403, 404, 405, 406, 407, 69, 408, 409, 410, 411, 412, 413, 414, 415, 27, 416, 417, 418, 31, 419, 74, 420, 421, 422, 423, 424, 200, 17, 201, 202, 52, 54, 425, 426, 427, 428, 429, 430, 431, 432, 433, 434, 435, 436, 437, 438, 439, 440, 441, 442, 70, 443, 444, 445, 446, 447, 448, 449, 450, 451, 452, 453, 454, 455, 456, 457, 458, 459, 460, 461, 462, 463, 464, 465, 466, 467, 468, 469, 470, 471, 472, 473, 474, 475, 476, 965, 966, 967, 968, 969, 970, 971, 972, 973, 974, 1005, 1006, 1007, 1008, 1009, 1010, 1011, 1012, 1013, 1014, 1015, 1016, 1017, 1018, 1019, 1020] (by decide +kernel) (by decide +kernel)
set_option maxRecDepth 20000 in
theorem gL_law_X8_treeCount : GoodIn wsL_law (wsV RL 162 RX8 yX8_treeCount wsX8_treeCount) := goodIn_app (goodIn_of _ (by decide +kernel)) ggL_law_X8_treeCount
set_option maxRecDepth 20000 in
theorem ggL_law_X9_treeCount : GoodIn wsL_law wsX9_treeCount := goodIn_r _ [480, 167, 481, 482, 483, 5, 484, 158, 116, 111, 485, 486, 487, 488, 117, 157, 110, 156, 489, 490, 491, 492, 493, 494, 495, 496, 497, 498, 499, 500, 975, 976, 977, 978, 979, 980, 981, 982, 983, 984, 985, 986, 987, 988, 989, 990, 991, 992, 993, 994, 995, 996, 997, 998, 999, 1000, 1001, 1002, 1003, 1004] (by decide +kernel) (by decide +kernel)
set_option maxRecDepth 20000 in
theorem gL_law_X9_treeCount : GoodIn wsL_law (wsV RL 165 RX9 yX9_treeCount wsX9_treeCount) := goodIn_app (goodIn_of _ (by decide +kernel)) ggL_law_X9_treeCount
set_option maxRecDepth 20000 in
theorem ggL_law_L_treesOfLength : GoodIn wsL_law wsL_treesOfLength := goodIn_ca (goodIn_r _ [503, 130, 504, 505, 506, 2, 507, 508, 509, 510, 135, 136, 511, 512, 513, 514, 28, 18, 515, 516, 517, 406, 66, 407, 71, 69, 408, 409, 410, 411, 412, 413, 414, 415, 27, 416, 417, 418, 31, 419, 74, 420, 421, 422, 423, 424, 200, 17, 201, 202, 52, 54, 425, 426, 427, 428, 429, 430, 431, 432, 433, 434, 435, 436, 437, 438, 439, 440, 441, 442, 70, 443, 444, 445, 446, 447, 448, 449, 450, 451, 452, 453, 454, 455, 456, 457, 458, 459, 460, 461, 462, 463, 464, 465, 466, 467, 468, 469, 470, 471, 472, 473, 518, 519, 520, 965, 966, 967, 968, 969, 970, 971, 972, 973, 974, 1005, 1006, 1007, 1008, 1009, 1010, 1011, 1014, 1015, 1016, 1017, 1018, 1019, 1020, 1012, 1013] (by decide +kernel) (by decide +kernel)) (goodIn_sub (fun _ h => List.mem_append_left _ (List.mem_append_left _ (List.mem_append_left _ (List.mem_append_right _ h)))) (by decide +kernel))
set_option maxRecDepth 20000 in
theorem gL_law_L_treesOfLength : GoodIn wsL_law (va_wsS RL 166 yL_treesOfLength wsL_treesOfLength) := goodIn_app (goodIn_of _ (by decide +kernel)) ggL_law_L_treesOfLength
set_option maxRecDepth 20000 in
theorem ggL_law_X9_treesOfLength : GoodIn wsL_law wsX9_treesOfLength := goodIn_r _ [524, 115, 156, 160, 161, 5, 162, 163, 164, 165, 166, 167, 525, 526, 527, 528, 157, 110, 529, 530, 531, 532, 533, 534, 535, 536, 975, 976, 977, 978, 979, 980, 981, 982, 983, 984, 985, 986, 987, 988, 989, 990, 991, 992, 993, 994, 995, 996, 997, 998, 999, 1000, 1001, 1002, 1003, 1004] (by decide +kernel) (by decide +kernel)
set_option maxRecDepth 20000 in
theorem gL_law_X9_treesOfLength : GoodIn wsL_law (wsV RL 168 RX9 yX9_treesOfLength wsX9_treesOfLength) := goodIn_app (goodIn_of _ (by decide +kernel)) ggL_law_X9_treesOfLength
set_option maxRecDepth 20000 in
theorem ggL_law_L_wordsOfLength : GoodIn wsL_law wsL_wordsOfLength := goodIn_ca (goodIn_r _ [539, 130, 540, 541, 542, 2, 543, 135, 136, 36, 508, 509, 510, 544, 545, 546, 547, 28, 515, 516, 517, 406, 66, 407, 71, 69, 408, 409, 410, 411, 412, 413, 414, 415, 27, 416, 417, 418, 31, 419, 74, 420, 421, 422, 423, 424, 200, 17, 201, 202, 52, 54, 425, 426, 427, 428, 429, 430, 431, 432, 433, 434, 435, 436, 437, 438, 439, 440, 441, 442, 70, 443, 444, 445, 446, 447, 448, 449, 450, 451, 452, 453, 454, 455, 456, 457, 458, 459, 460, 461, 462, 463, 464, 465, 466, 467, 468, 469, 470, 471, 472, 473, 548, 35, 549, 550, 81, 78, 79, 551, 552, 553, 554, 555, 80, 556, 557, 558, 559, 560, 561, 562, 563, 564, 565, 566, 567, 568, 569, 570, 571, 572, 573, 574, 575, 576, 577, 578, 579, 580, 581, 582, 583, 584, 585, 586, 587, 965, 966, 967, 968, 969, 970, 971, 972, 973, 974, 1014, 1015, 1016, 1017, 1018, 1019, 1020, 1005, 1006, 1007, 1008, 1009, 1010, 1011, 1012, 1013, 1021, 1022, 1023, 1024] (by decide +kernel) (by decide +kernel)) (goodIn_sub (fun _ h => List.mem_append_left _ (List.mem_append_left _ (List.mem_append_left _ (List.mem_append_right _ h)))) (by decide +kernel))
set_option maxRecDepth 20000 in
theorem gL_law_L_wordsOfLength : GoodIn wsL_law (va_wsS RL 169 yL_wordsOfLength wsL_wordsOfLength) := goodIn_app (goodIn_of _ (by decide +kernel)) ggL_law_L_wordsOfLength
set_option maxRecDepth 20000 in
theorem ggL_law_X9_wordsOfLength : GoodIn wsL_law wsX9_wordsOfLength := goodIn_r _ [591, 592, 593, 5, 594, 160, 161, 162, 163, 164, 165, 166, 167, 595, 596, 597, 598, 599, 600, 601, 602, 108, 603, 604, 605, 606, 116, 485, 486, 487, 488, 117, 157, 110, 156, 489, 490, 491, 492, 493, 494, 495, 496, 497, 498, 499, 500, 975, 976, 977, 978, 979, 980, 981, 982, 983, 984, 985, 986, 987, 988, 989, 990, 991, 992, 993, 994, 995, 996, 997, 998, 999, 1000, 1001, 1002, 1003, 1004] (by decide +kernel) (by decide +kernel)
set_option maxRecDepth 20000 in
theorem gL_law_X9_wordsOfLength : GoodIn wsL_law (wsV RL 171 RX9 yX9_wordsOfLength wsX9_wordsOfLength) := goodIn_app (goodIn_of _ (by decide +kernel)) ggL_law_X9_wordsOfLength
set_option maxRecDepth 20000 in
theorem ggL_law_L_unambiguousShare : GoodIn wsL_law wsL_unambiguousShare := goodIn_ca (goodIn_r _ [609, 130, 610, 611, 612, 2, 613, 36, 508, 509, 510, 135, 136, 544, 545, 546, 547, 28, 515, 516, 517, 406, 66, 407, 71, 69, 408, 409, 410, 411, 412, 413, 414, 415, 27, 416, 417, 418, 31, 419, 74, 420, 421, 422, 423, 424, 200, 17, 201, 202, 52, 54, 425, 426, 427, 428, 429, 430, 431, 432, 433, 434, 435, 436, 437, 438, 439, 440, 441, 442, 70, 443, 444, 445, 446, 447, 448, 449, 450, 451, 452, 453, 454, 455, 456, 457, 458, 459, 460, 461, 462, 463, 464, 465, 466, 467, 468, 469, 470, 471, 472, 473, 548, 35, 549, 550, 81, 78, 79, 551, 552, 553, 554, 555, 80, 556, 557, 558, 559, 560, 561, 562, 563, 564, 565, 566, 567, 568, 569, 570, 571, 572, 573, 574, 575, 576, 577, 578, 579, 580, 581, 582, 583, 584, 585, 586, 587, 965, 966, 967, 968, 969, 970, 971, 972, 973, 974, 1014, 1015, 1016, 1017, 1018, 1019, 1020, 1005, 1006, 1007, 1008, 1009, 1010, 1011, 1012, 1013, 1021, 1022, 1023, 1024] (by decide +kernel) (by decide +kernel)) (goodIn_sub (fun _ h => List.mem_append_left _ (List.mem_append_left _ (List.mem_append_left _ (List.mem_append_right _ h)))) (by decide +kernel))
set_option maxRecDepth 20000 in
theorem gL_law_L_unambiguousShare : GoodIn wsL_law (va_wsS RL 172 yL_unambiguousShare wsL_unambiguousShare) := goodIn_app (goodIn_of _ (by decide +kernel)) ggL_law_L_unambiguousShare
set_option maxRecDepth 20000 in
theorem ggL_law_X9_unambiguousShare : GoodIn wsL_law wsX9_unambiguousShare := goodIn_r _ [617, 592, 593, 5, 594, 160, 161, 162, 163, 164, 165, 166, 167, 595, 596, 597, 598, 599, 600, 601, 602, 108, 603, 604, 605, 606, 116, 485, 486, 487, 488, 117, 157, 110, 156, 489, 490, 491, 492, 493, 494, 495, 496, 497, 498, 499, 500, 975, 976, 977, 978, 979, 980, 981, 982, 983, 984, 985, 986, 987, 988, 989, 990, 991, 992, 993, 994, 995, 996, 997, 998, 999, 1000, 1001, 1002, 1003, 1004] (by decide +kernel) (by decide +kernel)
set_option maxRecDepth 20000 in
theorem gL_law_X9_unambiguousShare : GoodIn wsL_law (wsV RL 175 RX9 yX9_unambiguousShare wsX9_unambiguousShare) := goodIn_app (goodIn_of _ (by decide +kernel)) ggL_law_X9_unambiguousShare
set_option maxRecDepth 20000 in
theorem ggL_law_L_averageTrees : GoodIn wsL_law wsL_averageTrees := goodIn_ca (goodIn_ca (goodIn_r _ [620, 130, 621, 622, 623, 2, 624, 625, 626, 36, 508, 509, 510, 135, 136, 544, 545, 546, 547, 28, 515, 516, 517, 406, 66, 407, 71, 69, 408, 409, 410, 411, 412, 413, 414, 415, 27, 416, 417, 418, 31, 419, 74, 420, 421, 422, 423, 424, 200, 17, 201, 202, 52, 54, 425, 426, 427, 428, 429, 430, 431, 432, 433, 434, 435, 436, 437, 438, 439, 440, 441, 442, 70, 443, 444, 445, 446, 447, 448, 449, 450, 451, 452, 453, 454, 455, 456, 457, 458, 459, 460, 461, 462, 463, 464, 465, 466, 467, 468, 469, 470, 471, 472, 473, 548, 35, 549, 550, 81, 78, 79, 551, 552, 553, 554, 555, 80, 556, 557, 558, 559, 560, 561, 562, 563, 564, 565, 566, 567, 568, 569, 570, 571, 572, 573, 574, 575, 576, 577, 578, 579, 580, 581, 582, 583, 584, 585, 586, 587, 511, 512, 513, 514, 18, 518, 519, 520, 965, 966, 967, 968, 969, 970, 971, 972, 973, 974, 1014, 1015, 1016, 1017, 1018, 1019, 1020, 1005, 1006, 1007, 1008, 1009, 1010, 1011, 1012, 1013, 1021, 1022, 1023, 1024] (by decide +kernel) (by decide +kernel)) (goodIn_sub (fun _ h => List.mem_append_right _ h) (by decide +kernel))) (goodIn_sub (fun _ h => List.mem_append_left _ (List.mem_append_left _ (List.mem_append_left _ (List.mem_append_right _ h)))) (by decide +kernel))
set_option maxRecDepth 20000 in
theorem gL_law_L_averageTrees : GoodIn wsL_law (va_wsS RL 176 yL_averageTrees wsL_averageTrees) := goodIn_app (goodIn_of _ (by decide +kernel)) ggL_law_L_averageTrees
set_option maxRecDepth 20000 in
theorem ggL_law_X9_averageTrees : GoodIn wsL_law wsX9_averageTrees := goodIn_r _ [630, 115, 156, 592, 593, 5, 594, 160, 161, 162, 163, 164, 165, 166, 167, 595, 596, 597, 598, 599, 600, 601, 602, 108, 603, 604, 605, 606, 116, 485, 486, 487, 488, 117, 157, 110, 489, 490, 491, 492, 493, 494, 495, 496, 497, 498, 499, 500, 525, 526, 527, 528, 529, 530, 531, 532, 533, 534, 535, 536, 975, 976, 977, 978, 979, 980, 981, 982, 983, 984, 985, 986, 987, 988, 989, 990, 991, 992, 993, 994, 995, 996, 997, 998, 999, 1000, 1001, 1002, 1003, 1004] (by decide +kernel) (by decide +kernel)
set_option maxRecDepth 20000 in
theorem gL_law_X9_averageTrees : GoodIn wsL_law (wsV RL 178 RX9 yX9_averageTrees wsX9_averageTrees) := goodIn_app (goodIn_of _ (by decide +kernel)) ggL_law_X9_averageTrees
set_option maxRecDepth 20000 in
theorem ggL_law_L_firstAmbiguous : GoodIn wsL_law wsL_firstAmbiguous := goodIn_ca (goodIn_ca (goodIn_r _ [633, 130, 634, 635, 636, 2, 637, 625, 626, 36, 508, 509, 510, 135, 136, 544, 545, 546, 547, 28, 515, 516, 517, 406, 66, 407, 71, 69, 408, 409, 410, 411, 412, 413, 414, 415, 27, 416, 417, 418, 31, 419, 74, 420, 421, 422, 423, 424, 200, 17, 201, 202, 52, 54, 425, 426, 427, 428, 429, 430, 431, 432, 433, 434, 435, 436, 437, 438, 439, 440, 441, 442, 70, 443, 444, 445, 446, 447, 448, 449, 450, 451, 452, 453, 454, 455, 456, 457, 458, 459, 460, 461, 462, 463, 464, 465, 466, 467, 468, 469, 470, 471, 472, 473, 548, 35, 549, 550, 81, 78, 79, 551, 552, 553, 554, 555, 80, 556, 557, 558, 559, 560, 561, 562, 563, 564, 565, 566, 567, 568, 569, 570, 571, 572, 573, 574, 575, 576, 638, 639, 640, 584, 585, 586, 587, 641, 642, 643, 644, 22, 18, 40, 645, 21, 646, 647, 648, 61, 649, 354, 355, 356, 62, 965, 966, 967, 968, 969, 970, 971, 972, 973, 974, 1014, 1015, 1016, 1017, 1018, 1019, 1020, 1005, 1006, 1007, 1008, 1009, 1010, 1011, 1012, 1013, 1021, 1022, 1023, 1024, 1025, 1026, 1027, 1028, 1029, 1030, 1031, 1032, 1033, 1034, 1035] (by decide +kernel) (by decide +kernel)) (goodIn_sub (fun _ h => List.mem_append_right _ h) (by decide +kernel))) (goodIn_sub (fun _ h => List.mem_append_left _ (List.mem_append_left _ (List.mem_append_left _ (List.mem_append_right _ h)))) (by decide +kernel))
set_option maxRecDepth 20000 in
theorem gL_law_L_firstAmbiguous : GoodIn wsL_law (va_wsS RL 179 yL_firstAmbiguous wsL_firstAmbiguous) := goodIn_app (goodIn_of _ (by decide +kernel)) ggL_law_L_firstAmbiguous
set_option maxRecDepth 20000 in
theorem ggL_law_X9_firstAmbiguous : GoodIn wsL_law wsX9_firstAmbiguous := goodIn_r _ [653, 167, 592, 593, 5, 594, 160, 161, 162, 163, 164, 165, 166, 599, 600, 601, 602, 108, 603, 604, 605, 606, 116, 485, 486, 487, 488, 117, 157, 110, 156, 489, 490, 491, 492, 493, 494, 495, 496, 497, 498, 499, 500, 654, 655, 656, 657, 111, 158, 159, 975, 976, 977, 978, 979, 980, 981, 982, 983, 984, 985, 986, 987, 988, 989, 990, 991, 992, 993, 994, 995, 996, 997, 998, 999, 1000, 1001, 1002, 1003, 1004] (by decide +kernel) (by decide +kernel)
set_option maxRecDepth 20000 in
theorem gL_law_X9_firstAmbiguous : GoodIn wsL_law (wsV RL 181 RX9 yX9_firstAmbiguous wsX9_firstAmbiguous) := goodIn_app (goodIn_of _ (by decide +kernel)) ggL_law_X9_firstAmbiguous
set_option maxRecDepth 20000 in
theorem ggL_law_L_wordRank : GoodIn wsL_law wsL_wordRank := goodIn_ca (goodIn_ca (goodIn_r _ [660, 661, 662, 663, 664, 2, 665, 179, 180, 625, 626, 22, 18, 36, 544, 545, 546, 547, 28, 515, 516, 517, 406, 66, 407, 71, 69, 408, 409, 410, 411, 412, 413, 414, 415, 27, 416, 417, 418, 31, 419, 74, 420, 421, 422, 423, 424, 200, 17, 201, 202, 52, 54, 425, 426, 427, 428, 429, 430, 431, 432, 433, 434, 435, 436, 437, 438, 439, 440, 441, 442, 70, 443, 444, 445, 446, 447, 448, 449, 450, 451, 452, 453, 454, 455, 456, 457, 458, 459, 460, 461, 462, 463, 464, 465, 466, 467, 468, 469, 470, 471, 472, 473, 548, 35, 549, 550, 81, 78, 79, 551, 552, 553, 554, 555, 80, 556, 557, 558, 559, 560, 561, 562, 563, 564, 565, 566, 567, 568, 569, 570, 571, 572, 573, 574, 575, 576, 666, 21, 667, 668, 61, 669, 385, 386, 387, 62, 585, 586, 587, 581, 582, 583, 584, 965, 966, 967, 968, 969, 970, 971, 972, 973, 974, 1012, 1013, 1005, 1006, 1007, 1008, 1009, 1010, 1011, 1014, 1015, 1016, 1017, 1018, 1019, 1020, 1021, 1022, 1023, 1024] (by decide +kernel) (by decide +kernel)) (goodIn_sub (fun _ h => List.mem_append_left _ (List.mem_append_left _ (List.mem_append_right _ h))) (by decide +kernel))) (goodIn_sub (fun _ h => List.mem_append_right _ h) (by decide +kernel))
set_option maxRecDepth 20000 in
theorem gL_law_L_wordRank : GoodIn wsL_law (va_wsS RL 182 yL_wordRank wsL_wordRank) := goodIn_app (goodIn_of _ (by decide +kernel)) ggL_law_L_wordRank
set_option maxRecDepth 20000 in
theorem ggL_law_X9_wordRank : GoodIn wsL_law wsX9_wordRank := goodIn_r _ [673, 158, 108, 111, 592, 593, 5, 594, 160, 161, 162, 163, 164, 165, 166, 167, 481, 482, 483, 484, 116, 485, 486, 487, 488, 117, 157, 110, 156, 489, 490, 491, 492, 493, 494, 495, 496, 497, 498, 499, 500, 603, 604, 605, 606, 975, 976, 977, 978, 979, 980, 981, 982, 983, 984, 985, 986, 987, 988, 989, 990, 991, 992, 993, 994, 995, 996, 997, 998, 999, 1000, 1001, 1002, 1003, 1004] (by decide +kernel) (by decide +kernel)
set_option maxRecDepth 20000 in
theorem gL_law_X9_wordRank : GoodIn wsL_law (wsV RL 185 RX9 yX9_wordRank wsX9_wordRank) := goodIn_app (goodIn_of _ (by decide +kernel)) ggL_law_X9_wordRank
set_option maxRecDepth 20000 in
theorem ggL_law_L_takeWord : GoodIn wsL_law wsL_takeWord := goodIn_ca (goodIn_ca (goodIn_r _ [676, 130, 677, 678, 679, 2, 680, 135, 136, 625, 626, 36, 508, 509, 510, 544, 545, 546, 547, 28, 515, 516, 517, 406, 66, 407, 71, 69, 408, 409, 410, 411, 412, 413, 414, 415, 27, 416, 417, 418, 31, 419, 74, 420, 421, 422, 423, 424, 200, 17, 201, 202, 52, 54, 425, 426, 427, 428, 429, 430, 431, 432, 433, 434, 435, 436, 437, 438, 439, 440, 441, 442, 70, 443, 444, 445, 446, 447, 448, 449, 450, 451, 452, 453, 454, 455, 456, 457, 458, 459, 460, 461, 462, 463, 464, 465, 466, 467, 468, 469, 470, 471, 472, 473, 548, 35, 549, 550, 81, 78, 79, 551, 552, 553, 554, 555, 80, 556, 557, 558, 559, 560, 561, 562, 563, 564, 565, 566, 567, 568, 569, 570, 571, 572, 573, 574, 575, 576, 638, 639, 640, 584, 585, 586, 587, 641, 642, 643, 644, 22, 18, 40, 645, 21, 646, 647, 648, 61, 649, 354, 355, 356, 62, 965, 966, 967, 968, 969, 970, 971, 972, 973, 974, 1014, 1015, 1016, 1017, 1018, 1019, 1020, 1005, 1006, 1007, 1008, 1009, 1010, 1011, 1012, 1013, 1021, 1022, 1023, 1024, 1025, 1026, 1027, 1028, 1029, 1030, 1031, 1032, 1033, 1034, 1035] (by decide +kernel) (by decide +kernel)) (goodIn_sub (fun _ h => List.mem_append_left _ (List.mem_append_left _ (List.mem_append_left _ (List.mem_append_right _ h)))) (by decide +kernel))) (goodIn_sub (fun _ h => List.mem_append_right _ h) (by decide +kernel))
set_option maxRecDepth 20000 in
theorem gL_law_L_takeWord : GoodIn wsL_law (va_wsS RL 186 yL_takeWord wsL_takeWord) := goodIn_app (goodIn_of _ (by decide +kernel)) ggL_law_L_takeWord
set_option maxRecDepth 20000 in
theorem ggL_law_X9_takeWord : GoodIn wsL_law wsX9_takeWord := goodIn_r _ [684, 592, 593, 5, 594, 160, 161, 162, 163, 164, 165, 166, 167, 685, 686, 687, 688, 599, 600, 601, 602, 108, 603, 604, 605, 606, 116, 485, 486, 487, 488, 117, 157, 110, 156, 489, 490, 491, 492, 493, 494, 495, 496, 497, 498, 499, 500, 654, 655, 656, 657, 111, 158, 159, 975, 976, 977, 978, 979, 980, 981, 982, 983, 984, 985, 986, 987, 988, 989, 990, 991, 992, 993, 994, 995, 996, 997, 998, 999, 1000, 1001, 1002, 1003, 1004] (by decide +kernel) (by decide +kernel)
set_option maxRecDepth 20000 in
theorem gL_law_X9_takeWord : GoodIn wsL_law (wsV RL 188 RX9 yX9_takeWord wsX9_takeWord) := goodIn_app (goodIn_of _ (by decide +kernel)) ggL_law_X9_takeWord
set_option maxRecDepth 20000 in
theorem ggL_law_L_drawWord : GoodIn wsL_law wsL_drawWord := goodIn_ca (goodIn_ca (goodIn_r _ [691, 130, 692, 693, 694, 2, 695, 625, 626, 36, 508, 509, 510, 135, 136, 544, 545, 546, 547, 28, 515, 516, 517, 406, 66, 407, 71, 69, 408, 409, 410, 411, 412, 413, 414, 415, 27, 416, 417, 418, 31, 419, 74, 420, 421, 422, 423, 424, 200, 17, 201, 202, 52, 54, 425, 426, 427, 428, 429, 430, 431, 432, 433, 434, 435, 436, 437, 438, 439, 440, 441, 442, 70, 443, 444, 445, 446, 447, 448, 449, 450, 451, 452, 453, 454, 455, 456, 457, 458, 459, 460, 461, 462, 463, 464, 465, 466, 467, 468, 469, 470, 471, 472, 473, 548, 35, 549, 550, 81, 78, 79, 551, 552, 553, 554, 555, 80, 556, 557, 558, 559, 560, 561, 562, 563, 564, 565, 566, 567, 568, 569, 570, 571, 572, 573, 574, 575, 576, 577, 578, 579, 580, 581, 582, 583, 584, 585, 586, 587, 696, 697, 698, 699, 700, 638, 639, 640, 641, 642, 643, 644, 22, 18, 40, 645, 21, 646, 647, 648, 61, 649, 354, 355, 356, 62, 965, 966, 967, 968, 969, 970, 971, 972, 973, 974, 1014, 1015, 1016, 1017, 1018, 1019, 1020, 1005, 1006, 1007, 1008, 1009, 1010, 1011, 1012, 1013, 1021, 1022, 1023, 1024, 1025, 1026, 1027, 1028, 1029, 1030, 1031, 1032, 1033, 1034, 1035] (by decide +kernel) (by decide +kernel)) (goodIn_sub (fun _ h => List.mem_append_right _ h) (by decide +kernel))) (goodIn_sub (fun _ h => List.mem_append_left _ (List.mem_append_left _ (List.mem_append_left _ (List.mem_append_right _ h)))) (by decide +kernel))
set_option maxRecDepth 20000 in
theorem gL_law_L_drawWord : GoodIn wsL_law (va_wsS RL 191 yL_drawWord wsL_drawWord) := goodIn_app (goodIn_of _ (by decide +kernel)) ggL_law_L_drawWord
set_option maxRecDepth 20000 in
theorem ggL_law_X9_drawWord : GoodIn wsL_law wsX9_drawWord := goodIn_r _ [704, 592, 593, 5, 594, 160, 161, 162, 163, 164, 165, 166, 167, 595, 596, 597, 598, 599, 600, 601, 602, 108, 603, 604, 605, 606, 116, 485, 486, 487, 488, 117, 157, 110, 156, 489, 490, 491, 492, 493, 494, 495, 496, 497, 498, 499, 500, 705, 706, 707, 708, 709, 685, 686, 687, 688, 654, 655, 656, 657, 111, 158, 159, 975, 976, 977, 978, 979, 980, 981, 982, 983, 984, 985, 986, 987, 988, 989, 990, 991, 992, 993, 994, 995, 996, 997, 998, 999, 1000, 1001, 1002, 1003, 1004] (by decide +kernel) (by decide +kernel)
set_option maxRecDepth 20000 in
theorem gL_law_X9_drawWord : GoodIn wsL_law (wsV RL 194 RX9 yX9_drawWord wsX9_drawWord) := goodIn_app (goodIn_of _ (by decide +kernel)) ggL_law_X9_drawWord
set_option maxRecDepth 20000 in
theorem ggL_law_L_drawTree : GoodIn wsL_law wsL_drawTree := goodIn_ca (goodIn_ca (goodIn_r _ [712, 130, 713, 714, 715, 2, 716, 625, 626, 40, 28, 18, 22, 32, 508, 509, 510, 135, 136, 511, 512, 513, 514, 515, 516, 517, 406, 66, 407, 71, 69, 408, 409, 410, 411, 412, 413, 414, 415, 27, 416, 417, 418, 31, 419, 74, 420, 421, 422, 423, 424, 200, 17, 201, 202, 52, 54, 425, 426, 427, 428, 429, 430, 431, 432, 433, 434, 435, 436, 437, 438, 439, 440, 441, 442, 70, 443, 444, 445, 446, 447, 448, 449, 450, 451, 452, 453, 454, 455, 456, 457, 458, 459, 460, 461, 462, 463, 464, 465, 466, 467, 468, 469, 470, 471, 472, 473, 518, 519, 520, 696, 697, 698, 699, 700, 717, 39, 718, 719, 88, 85, 90, 91, 89, 92, 93, 720, 721, 722, 181, 182, 183, 49, 723, 724, 725, 726, 727, 728, 729, 730, 731, 567, 568, 732, 733, 734, 735, 736, 737, 738, 739, 740, 741, 354, 21, 355, 356, 62, 396, 397, 398, 399, 400, 401, 402, 147, 148, 403, 404, 405, 742, 743, 744, 745, 746, 747, 95, 94, 748, 475, 476, 749, 750, 751, 752, 753, 754, 755, 756, 757, 758, 759, 760, 761, 965, 966, 967, 968, 969, 970, 971, 972, 973, 974, 1025, 1026, 1027, 1028, 1029, 1030, 1031, 1032, 1033, 1034, 1035, 1005, 1006, 1007, 1008, 1009, 1010, 1011, 1012, 1013, 1014, 1015, 1016, 1017, 1018, 1019, 1020] (by decide +kernel) (by decide +kernel)) (goodIn_sub (fun _ h => List.mem_append_right _ h) (by decide +kernel))) (goodIn_sub (fun _ h => List.mem_append_left _ (List.mem_append_left _ (List.mem_append_left _ (List.mem_append_right _ h)))) (by decide +kernel))
set_option maxRecDepth 20000 in
theorem gL_law_L_drawTree : GoodIn wsL_law (va_wsS RL 195 yL_drawTree wsL_drawTree) := goodIn_app (goodIn_of _ (by decide +kernel)) ggL_law_L_drawTree
set_option maxRecDepth 20000 in
theorem ggL_law_X9_drawTree : GoodIn wsL_law wsX9_drawTree := goodIn_r _ [765, 115, 156, 766, 159, 160, 161, 5, 162, 163, 164, 165, 166, 167, 525, 526, 527, 528, 157, 110, 529, 530, 531, 532, 533, 534, 535, 536, 705, 706, 707, 708, 709, 767, 768, 769, 770, 116, 771, 772, 773, 774, 775, 776, 777, 778, 497, 498, 499, 500, 117, 779, 780, 781, 782, 118, 119, 120, 654, 655, 656, 657, 111, 158, 975, 976, 977, 978, 979, 980, 981, 982, 983, 984, 985, 986, 987, 988, 989, 990, 991, 992, 993, 994, 995, 996, 997, 998, 999, 1000, 1001, 1002, 1003, 1004] (by decide +kernel) (by decide +kernel)
set_option maxRecDepth 20000 in
theorem gL_law_X9_drawTree : GoodIn wsL_law (wsV RL 197 RX9 yX9_drawTree wsX9_drawTree) := goodIn_app (goodIn_of _ (by decide +kernel)) ggL_law_X9_drawTree
set_option maxRecDepth 20000 in
theorem ggL_law_L_takeTree : GoodIn wsL_law wsL_takeTree := goodIn_ca (goodIn_r _ [785, 786, 787, 788, 789, 2, 790, 625, 626, 32, 18, 22, 40, 396, 397, 398, 399, 400, 401, 402, 147, 66, 148, 71, 403, 404, 405, 406, 407, 69, 408, 409, 410, 411, 412, 413, 414, 415, 27, 416, 417, 418, 31, 419, 74, 420, 421, 422, 423, 424, 200, 17, 201, 202, 52, 54, 425, 426, 427, 428, 429, 430, 431, 432, 433, 434, 435, 436, 437, 438, 439, 440, 441, 442, 70, 443, 444, 445, 446, 447, 448, 449, 450, 451, 452, 453, 454, 455, 456, 457, 458, 459, 460, 461, 462, 463, 464, 465, 466, 467, 468, 469, 470, 471, 472, 473, 474, 475, 476, 717, 39, 718, 719, 88, 85, 90, 91, 89, 92, 93, 720, 721, 722, 181, 182, 183, 49, 723, 724, 725, 726, 727, 728, 729, 730, 731, 567, 568, 732, 733, 734, 735, 965, 966, 967, 968, 969, 970, 971, 972, 973, 974, 1005, 1006, 1007, 1008, 1009, 1010, 1011, 1012, 1013, 1025, 1026, 1027, 1028, 1029, 1030, 1031, 1032, 1033, 1034, 1035, 1014, 1015, 1016, 1017, 1018, 1019, 1020] (by decide +kernel) (by decide +kernel)) (goodIn_sub (fun _ h => List.mem_append_right _ h) (by decide +kernel))
set_option maxRecDepth 20000 in
theorem gL_law_L_takeTree : GoodIn wsL_law (va_wsS RL 198 yL_takeTree wsL_takeTree) := goodIn_app (goodIn_of _ (by decide +kernel)) ggL_law_L_takeTree
set_option maxRecDepth 20000 in
theorem ggL_law_X9_takeTree : GoodIn wsL_law wsX9_takeTree := goodIn_r _ [794, 766, 159, 156, 158, 481, 482, 483, 5, 484, 116, 111, 485, 486, 487, 488, 117, 157, 110, 489, 490, 491, 492, 493, 494, 495, 496, 497, 498, 499, 500, 163, 164, 165, 166, 167, 767, 768, 769, 770, 771, 772, 773, 774, 775, 776, 777, 778, 533, 534, 535, 536, 115, 779, 780, 781, 782, 118, 119, 120, 975, 976, 977, 978, 979, 980, 981, 982, 983, 984, 985, 986, 987, 988, 989, 990, 991, 992, 993, 994, 995, 996, 997, 998, 999, 1000, 1001, 1002, 1003, 1004] (by decide +kernel) (by decide +kernel)
set_option maxRecDepth 20000 in
theorem gL_law_X9_takeTree : GoodIn wsL_law (wsV RL 201 RX9 yX9_takeTree wsX9_takeTree) := goodIn_app (goodIn_of _ (by decide +kernel)) ggL_law_X9_takeTree
set_option maxRecDepth 20000 in
theorem ggL_law_L_treeNumber : GoodIn wsL_law wsL_treeNumber := goodIn_ca (goodIn_r _ [797, 661, 798, 799, 800, 2, 801, 40, 802, 803, 804, 805, 179, 180, 965, 966, 967, 968, 969, 970, 971, 972, 973, 974, 1025, 1026, 1027, 1028, 1029, 1030, 1031, 1032, 1033, 1034, 1035] (by decide +kernel) (by decide +kernel)) (goodIn_sub (fun _ h => List.mem_append_left _ (List.mem_append_left _ (List.mem_append_right _ h))) (by decide +kernel))
set_option maxRecDepth 20000 in
theorem gL_law_L_treeNumber : GoodIn wsL_law (va_wsS RL 202 yL_treeNumber wsL_treeNumber) := goodIn_app (goodIn_of _ (by decide +kernel)) ggL_law_L_treeNumber
set_option maxRecDepth 20000 in
theorem ggL_law_X9_treeNumber : GoodIn wsL_law wsX9_treeNumber := goodIn_r _ [809, 159, 810, 156, 158, 163, 164, 165, 5, 166, 167, 481, 482, 483, 484, 116, 111, 485, 486, 487, 488, 117, 157, 110, 489, 490, 491, 492, 493, 494, 495, 496, 497, 498, 499, 500, 811, 812, 813, 814, 118, 815, 816, 817, 818, 120, 819, 820, 821, 822, 975, 976, 977, 978, 979, 980, 981, 982, 983, 984, 985, 986, 987, 988, 989, 990, 991, 992, 993, 994, 995, 996, 997, 998, 999, 1000, 1001, 1002, 1003, 1004] (by decide +kernel) (by decide +kernel)
set_option maxRecDepth 20000 in
theorem gL_law_X9_treeNumber : GoodIn wsL_law (wsV RL 204 RX9 yX9_treeNumber wsX9_treeNumber) := goodIn_app (goodIn_of _ (by decide +kernel)) ggL_law_X9_treeNumber
set_option maxRecDepth 20000 in
theorem ggL_law_L_treeSize : GoodIn wsL_law wsL_treeSize := goodIn_ca (goodIn_r _ [825, 661, 826, 827, 828, 2, 829, 40, 802, 803, 804, 805, 179, 180, 965, 966, 967, 968, 969, 970, 971, 972, 973, 974, 1025, 1026, 1027, 1028, 1029, 1030, 1031, 1032, 1033, 1034, 1035] (by decide +kernel) (by decide +kernel)) (goodIn_sub (fun _ h => List.mem_append_left _ (List.mem_append_left _ (List.mem_append_right _ h))) (by decide +kernel))
set_option maxRecDepth 20000 in
theorem gL_law_L_treeSize : GoodIn wsL_law (va_wsS RL 205 yL_treeSize wsL_treeSize) := goodIn_app (goodIn_of _ (by decide +kernel)) ggL_law_L_treeSize
set_option maxRecDepth 20000 in
theorem ggL_law_X9_treeSize : GoodIn wsL_law wsX9_treeSize := goodIn_r _ [833, 159, 163, 164, 165, 5, 166, 167, 975, 976, 977, 978, 979, 980, 981, 982, 983, 984, 985, 986, 987, 988, 989, 990, 991, 992, 993, 994, 995, 996, 997, 998, 999, 1000, 1001, 1002, 1003, 1004] (by decide +kernel) (by decide +kernel)
set_option maxRecDepth 20000 in
theorem gL_law_X9_treeSize : GoodIn wsL_law (wsV RL 207 RX9 yX9_treeSize wsX9_treeSize) := goodIn_app (goodIn_of _ (by decide +kernel)) ggL_law_X9_treeSize
set_option maxRecDepth 20000 in
theorem ggL_law_L_treeNode : GoodIn wsL_law wsL_treeNode := goodIn_ca (goodIn_ca (goodIn_ca (goodIn_r _ [836, 661, 837, 838, 839, 2, 840, 315, 316, 135, 136, 40, 802, 803, 804, 805, 179, 180, 965, 966, 967, 968, 969, 970, 971, 972, 973, 974, 1025, 1026, 1027, 1028, 1029, 1030, 1031, 1032, 1033, 1034, 1035] (by decide +kernel) (by decide +kernel)) (goodIn_sub (fun _ h => List.mem_append_left _ (List.mem_append_right _ h)) (by decide +kernel))) (goodIn_sub (fun _ h => List.mem_append_left _ (List.mem_append_left _ (List.mem_append_left _ (List.mem_append_right _ h)))) (by decide +kernel))) (goodIn_sub (fun _ h => List.mem_append_left _ (List.mem_append_left _ (List.mem_append_right _ h))) (by decide +kernel))
set_option maxRecDepth 20000 in
theorem gL_law_L_treeNode : GoodIn wsL_law (va_wsS RL 208 yL_treeNode wsL_treeNode) := goodIn_app (goodIn_of _ (by decide +kernel)) ggL_law_L_treeNode
set_option maxRecDepth 20000 in
theorem ggL_law_X9_treeNode : GoodIn wsL_law wsX9_treeNode := goodIn_r _ [844, 159, 118, 119, 120, 163, 164, 165, 5, 166, 167, 160, 161, 162, 975, 976, 977, 978, 979, 980, 981, 982, 983, 984, 985, 986, 987, 988, 989, 990, 991, 992, 993, 994, 995, 996, 997, 998, 999, 1000, 1001, 1002, 1003, 1004] (by decide +kernel) (by decide +kernel)
set_option maxRecDepth 20000 in
theorem gL_law_X9_treeNode : GoodIn wsL_law (wsV RL 210 RX9 yX9_treeNode wsX9_treeNode) := goodIn_app (goodIn_of _ (by decide +kernel)) ggL_law_X9_treeNode
set_option maxRecDepth 20000 in
theorem ggL_law_L_allocate : GoodIn wsL_law wsL_allocate := goodIn_ca (goodIn_r _ [847, 130, 848, 849, 850, 2, 851, 135, 136, 44, 852, 853, 854, 855, 43, 856, 857, 99, 100, 101, 102, 965, 966, 967, 968, 969, 970, 971, 972, 973, 974, 1036, 1037, 1038, 1039] (by decide +kernel) (by decide +kernel)) (goodIn_sub (fun _ h => List.mem_append_left _ (List.mem_append_left _ (List.mem_append_left _ (List.mem_append_right _ h)))) (by decide +kernel))
set_option maxRecDepth 20000 in
theorem gL_law_L_allocate : GoodIn wsL_law (va_wsS RL 211 yL_allocate wsL_allocate) := goodIn_app (goodIn_of _ (by decide +kernel)) ggL_law_L_allocate
set_option maxRecDepth 20000 in
theorem ggL_law_X9_allocate : GoodIn wsL_law wsX9_allocate := goodIn_r _ [861, 121, 122, 123, 862, 863, 5, 864, 160, 161, 162, 163, 164, 165, 166, 167, 975, 976, 977, 978, 979, 980, 981, 982, 983, 984, 985, 986, 987, 988, 989, 990, 991, 992, 993, 994, 995, 996, 997, 998, 999, 1000, 1001, 1002, 1003, 1004] (by decide +kernel) (by decide +kernel)
set_option maxRecDepth 20000 in
theorem gL_law_X9_allocate : GoodIn wsL_law (wsV RL 214 RX9 yX9_allocate wsX9_allocate) := goodIn_app (goodIn_of _ (by decide +kernel)) ggL_law_X9_allocate
set_option maxRecDepth 20000 in
theorem ggL_law_L_setElement : GoodIn wsL_law wsL_setElement := goodIn_ca (goodIn_ca (goodIn_ca (goodIn_r _ [867, 130, 868, 869, 870, 2, 871, 44, 852, 853, 854, 135, 136, 872, 873, 874, 875, 179, 180, 876, 43, 877, 878, 99, 879, 880, 881, 882, 315, 316, 883, 884, 885, 101, 886, 887, 888, 889, 102, 890, 891, 892, 893, 894, 895, 896, 100, 965, 966, 967, 968, 969, 970, 971, 972, 973, 974, 1036, 1037, 1038, 1039] (by decide +kernel) (by decide +kernel)) (goodIn_sub (fun _ h => List.mem_append_left _ (List.mem_append_left _ (List.mem_append_left _ (List.mem_append_right _ h)))) (by decide +kernel))) (goodIn_sub (fun _ h => List.mem_append_left _ (List.mem_append_left _ (List.mem_append_right _ h))) (by decide +kernel))) (goodIn_sub (fun _ h => List.mem_append_left _ (List.mem_append_right _ h)) (by decide +kernel))
set_option maxRecDepth 20000 in
theorem gL_law_L_setElement : GoodIn wsL_law (va_wsS RL 215 yL_setElement wsL_setElement) := goodIn_app (goodIn_of _ (by decide +kernel)) ggL_law_L_setElement
set_option maxRecDepth 20000 in
theorem ggL_law_X9_setElement : GoodIn wsL_law wsX9_setElement := goodIn_r _ [900, 121, 123, 862, 863, 5, 864, 160, 161, 162, 163, 164, 165, 166, 167, 901, 902, 903, 904, 122, 975, 976, 977, 978, 979, 980, 981, 982, 983, 984, 985, 986, 987, 988, 989, 990, 991, 992, 993, 994, 995, 996, 997, 998, 999, 1000, 1001, 1002, 1003, 1004] (by decide +kernel) (by decide +kernel)
set_option maxRecDepth 20000 in
theorem gL_law_X9_setElement : GoodIn wsL_law (wsV RL 218 RX9 yX9_setElement wsX9_setElement) := goodIn_app (goodIn_of _ (by decide +kernel)) ggL_law_X9_setElement
set_option maxRecDepth 20000 in
theorem ggL_law_L_storeCounts : GoodIn wsL_law wsL_storeCounts := goodIn_ca (goodIn_ca (goodIn_ca (goodIn_r _ [907, 130, 908, 909, 910, 2, 911, 44, 36, 852, 853, 854, 135, 136, 872, 873, 874, 875, 179, 180, 876, 43, 877, 878, 99, 879, 880, 881, 882, 315, 316, 883, 884, 885, 101, 886, 544, 545, 546, 547, 28, 515, 516, 517, 406, 66, 407, 71, 69, 408, 409, 410, 411, 412, 413, 414, 415, 27, 416, 417, 418, 31, 419, 74, 420, 421, 422, 423, 424, 200, 17, 201, 202, 52, 54, 425, 426, 427, 428, 429, 430, 431, 432, 433, 434, 435, 436, 437, 438, 439, 440, 441, 442, 70, 443, 444, 445, 446, 447, 448, 449, 450, 451, 452, 453, 454, 455, 456, 457, 458, 459, 460, 461, 462, 463, 464, 465, 466, 467, 468, 469, 470, 471, 472, 473, 548, 35, 549, 550, 81, 78, 79, 551, 552, 553, 554, 555, 80, 556, 557, 558, 559, 560, 561, 562, 563, 564, 565, 566, 567, 568, 569, 570, 571, 572, 573, 574, 575, 576, 577, 578, 579, 580, 581, 582, 583, 584, 585, 586, 587, 894, 895, 896, 102, 100, 890, 891, 892, 893, 965, 966, 967, 968, 969, 970, 971, 972, 973, 974, 1036, 1037, 1038, 1039, 1014, 1015, 1016, 1017, 1018, 1019, 1020, 1005, 1006, 1007, 1008, 1009, 1010, 1011, 1012, 1013, 1021, 1022, 1023, 1024] (by decide +kernel) (by decide +kernel)) (goodIn_sub (fun _ h => List.mem_append_left _ (List.mem_append_left _ (List.mem_append_left _ (List.mem_append_right _ h)))) (by decide +kernel))) (goodIn_sub (fun _ h => List.mem_append_left _ (List.mem_append_left _ (List.mem_append_right _ h))) (by decide +kernel))) (goodIn_sub (fun _ h => List.mem_append_left _ (List.mem_append_right _ h)) (by decide +kernel))
set_option maxRecDepth 20000 in
theorem gL_law_L_storeCounts : GoodIn wsL_law (va_wsS RL 219 yL_storeCounts wsL_storeCounts) := goodIn_app (goodIn_of _ (by decide +kernel)) ggL_law_L_storeCounts
set_option maxRecDepth 20000 in
theorem ggL_law_X9_storeCounts : GoodIn wsL_law wsX9_storeCounts := goodIn_r _ [915, 121, 123, 862, 863, 5, 864, 160, 161, 162, 163, 164, 165, 166, 167, 595, 596, 597, 598, 599, 600, 601, 602, 108, 603, 604, 605, 606, 116, 485, 486, 487, 488, 117, 157, 110, 156, 489, 490, 491, 492, 493, 494, 495, 496, 497, 498, 499, 500, 901, 902, 903, 904, 122, 975, 976, 977, 978, 979, 980, 981, 982, 983, 984, 985, 986, 987, 988, 989, 990, 991, 992, 993, 994, 995, 996, 997, 998, 999, 1000, 1001, 1002, 1003, 1004] (by decide +kernel) (by decide +kernel)
set_option maxRecDepth 20000 in
theorem gL_law_X9_storeCounts : GoodIn wsL_law (wsV RL 221 RX9 yX9_storeCounts wsX9_storeCounts) := goodIn_app (goodIn_of _ (by decide +kernel)) ggL_law_X9_storeCounts
set_option maxRecDepth 20000 in
theorem ggL_law_L_loadWord : GoodIn wsL_law wsL_loadWord := goodIn_ca (goodIn_ca (goodIn_ca (goodIn_ca (goodIn_r _ [918, 130, 919, 920, 921, 2, 922, 135, 136, 625, 626, 18, 44, 22, 40, 852, 853, 854, 872, 873, 874, 875, 179, 180, 876, 43, 877, 878, 99, 879, 880, 881, 882, 315, 316, 883, 884, 885, 101, 886, 887, 888, 889, 102, 890, 891, 892, 893, 193, 17, 194, 195, 50, 354, 21, 355, 356, 62, 965, 966, 967, 968, 969, 970, 971, 972, 973, 974, 1012, 1013, 1025, 1026, 1027, 1028, 1029, 1030, 1031, 1032, 1033, 1034, 1035, 1036, 1037, 1038, 1039, 1005, 1006, 1007, 1008, 1009, 1010, 1011] (by decide +kernel) (by decide +kernel)) (goodIn_sub (fun _ h => List.mem_append_left _ (List.mem_append_left _ (List.mem_append_left _ (List.mem_append_right _ h)))) (by decide +kernel))) (goodIn_sub (fun _ h => List.mem_append_right _ h) (by decide +kernel))) (goodIn_sub (fun _ h => List.mem_append_left _ (List.mem_append_left _ (List.mem_append_right _ h))) (by decide +kernel))) (goodIn_sub (fun _ h => List.mem_append_left _ (List.mem_append_right _ h)) (by decide +kernel))
set_option maxRecDepth 20000 in
theorem gL_law_L_loadWord : GoodIn wsL_law (va_wsS RL 222 yL_loadWord wsL_loadWord) := goodIn_app (goodIn_of _ (by decide +kernel)) ggL_law_L_loadWord
set_option maxRecDepth 20000 in
theorem ggL_law_X9_loadWord : GoodIn wsL_law wsX9_loadWord := goodIn_r _ [926, 121, 111, 123, 158, 159, 862, 863, 5, 864, 160, 161, 162, 163, 164, 165, 166, 167, 927, 928, 929, 930, 108, 975, 976, 977, 978, 979, 980, 981, 982, 983, 984, 985, 986, 987, 988, 989, 990, 991, 992, 993, 994, 995, 996, 997, 998, 999, 1000, 1001, 1002, 1003, 1004] (by decide +kernel) (by decide +kernel)
set_option maxRecDepth 20000 in
theorem gL_law_X9_loadWord : GoodIn wsL_law (wsV RL 225 RX9 yX9_loadWord wsX9_loadWord) := goodIn_app (goodIn_of _ (by decide +kernel)) ggL_law_X9_loadWord
set_option maxRecDepth 20000 in
theorem ggL_law_X8_snapshot : GoodIn wsL_law wsX8_snapshot := goodIn_r _ [934, 23, 18, 24, 22, 45, 935, 17, 936, 937, 49, 50, 51, 52, 54, 938, 21, 939, 940, 61, 62, 965, 966, 967, 968, 969, 970, 971, 972, 973, 974, 1005, 1006, 1007, 1008, 1009, 1010, 1011, 1012, 1013] (by decide +kernel) (by decide +kernel)
set_option maxRecDepth 20000 in
theorem gL_law_X8_snapshot : GoodIn wsL_law (wsV RL 226 RX8 yX8_snapshot wsX8_snapshot) := goodIn_app (goodIn_of _ (by decide +kernel)) ggL_law_X8_snapshot
set_option maxRecDepth 20000 in
theorem ggL_law_X9_snapshot : GoodIn wsL_law wsX9_snapshot := goodIn_r _ [944, 167, 945, 107, 946, 108, 947, 156, 948, 157, 949, 158, 950, 110, 124, 125, 111, 951, 952, 5, 953, 975, 976, 977, 978, 979, 980, 981, 982, 983, 984, 985, 986, 987, 988, 989, 990, 991, 992, 993, 994, 995, 996, 997, 998, 999, 1000, 1001, 1002, 1003, 1004] (by decide +kernel) (by decide +kernel)
set_option maxRecDepth 20000 in
theorem gL_law_X9_snapshot : GoodIn wsL_law (wsV RL 229 RX9 yX9_snapshot wsX9_snapshot) := goodIn_app (goodIn_of _ (by decide +kernel)) ggL_law_X9_snapshot
set_option maxRecDepth 20000 in
theorem ggL_law_L_restore : GoodIn wsL_law wsL_restore := goodIn_ca (goodIn_r _ [956, 661, 957, 958, 959, 2, 960, 179, 180, 45, 18, 23, 22, 24, 935, 17, 936, 937, 49, 50, 51, 52, 54, 938, 21, 939, 940, 61, 62, 140, 141, 142, 143, 28, 36, 40, 144, 145, 146, 147, 66, 148, 71, 149, 35, 150, 151, 81, 965, 966, 967, 968, 969, 970, 971, 972, 973, 974, 1005, 1006, 1007, 1008, 1009, 1010, 1011, 1012, 1013, 1025, 1026, 1027, 1028, 1029, 1030, 1031, 1032, 1033, 1034, 1035, 1014, 1015, 1016, 1017, 1018, 1019, 1020, 1021, 1022, 1023, 1024] (by decide +kernel) (by decide +kernel)) (goodIn_sub (fun _ h => List.mem_append_left _ (List.mem_append_left _ (List.mem_append_right _ h))) (by decide +kernel))
set_option maxRecDepth 20000 in
theorem gL_law_L_restore : GoodIn wsL_law (va_wsS RL 230 yL_restore wsL_restore) := goodIn_app (goodIn_of _ (by decide +kernel)) ggL_law_L_restore
set_option maxRecDepth 20000 in
theorem ggL_law_X9_restore : GoodIn wsL_law wsX9_restore := goodIn_r _ [964, 945, 946, 107, 947, 108, 948, 156, 949, 157, 950, 158, 124, 110, 111, 125, 159, 163, 164, 165, 5, 166, 167, 951, 952, 953, 975, 976, 977, 978, 979, 980, 981, 982, 983, 984, 985, 986, 987, 988, 989, 990, 991, 992, 993, 994, 995, 996, 997, 998, 999, 1000, 1001, 1002, 1003, 1004] (by decide +kernel) (by decide +kernel)
set_option maxRecDepth 20000 in
theorem gL_law_X9_restore : GoodIn wsL_law (wsV RL 233 RX9 yX9_restore wsX9_restore) := goodIn_app (goodIn_of _ (by decide +kernel)) ggL_law_X9_restore
theorem dL_law_0 : decode cL_law 0 = .ok (.new 8, 3) := by decide +kernel
theorem dL_law_3 : decode cL_law 3 = .ok (.dup, 1) := by decide +kernel
theorem dL_law_4 : decode cL_law 4 = .ok (.invokespecial 109, 3) := by decide +kernel
theorem dL_law_7 : decode cL_law 7 = .ok (.astore_n 1, 1) := by decide +kernel
theorem dL_law_8 : decode cL_law 8 = .ok (.new 110, 3) := by decide +kernel
theorem dL_law_11 : decode cL_law 11 = .ok (.dup, 1) := by decide +kernel
theorem dL_law_12 : decode cL_law 12 = .ok (.invokespecial 112, 3) := by decide +kernel
theorem dL_law_15 : decode cL_law 15 = .ok (.astore_n 2, 1) := by decide +kernel
theorem dL_law_16 : decode cL_law 16 = .ok (.iconst 1, 1) := by decide +kernel
theorem dL_law_17 : decode cL_law 17 = .ok (.newarray .long, 2) := by decide +kernel
theorem dL_law_19 : decode cL_law 19 = .ok (.astore_n 3, 1) := by decide +kernel
theorem dL_law_20 : decode cL_law 20 = .ok (.iconst 1, 1) := by decide +kernel
theorem dL_law_21 : decode cL_law 21 = .ok (.newarray .double, 2) := by decide +kernel
theorem dL_law_23 : decode cL_law 23 = .ok (.astore 4, 2) := by decide +kernel
theorem dL_law_25 : decode cL_law 25 = .ok (.iconst 0, 1) := by decide +kernel
theorem dL_law_26 : decode cL_law 26 = .ok (.istore 5, 2) := by decide +kernel
theorem dL_law_28 : decode cL_law 28 = .ok (.iload 5, 2) := by decide +kernel
theorem dL_law_30 : decode cL_law 30 = .ok (.aload_n 0, 1) := by decide +kernel
theorem dL_law_31 : decode cL_law 31 = .ok (.arraylength, 1) := by decide +kernel
theorem dL_law_32 : decode cL_law 32 = .ok (.iconst 5, 1) := by decide +kernel
theorem dL_law_33 : decode cL_law 33 = .ok (.isub, 1) := by decide +kernel
theorem dL_law_34 : decode cL_law 34 = .ok (.if_icmp .gt 1880, 3) := by decide +kernel
theorem dL_law_37 : decode cL_law 37 = .ok (.aload_n 0, 1) := by decide +kernel
theorem dL_law_38 : decode cL_law 38 = .ok (.iload 5, 2) := by decide +kernel
theorem dL_law_40 : decode cL_law 40 = .ok (.iaload, 1) := by decide +kernel
theorem dL_law_41 : decode cL_law 41 = .ok (.bipush 31, 2) := by decide +kernel
theorem dL_law_43 : decode cL_law 43 = .ok (.iand, 1) := by decide +kernel
theorem dL_law_44 : decode cL_law 44 = .ok (.tableswitch 1864 0 31 #[144, 192, 284, 340, 353, 366, 434, 490, 546, 602, 615, 628, 684, 698, 753, 821, 898, 975, 1031, 1075, 1123, 1223, 1322, 1410, 1453, 1497, 1565, 1641, 1721, 1769, 1829, 1840], 144) := by decide +kernel
theorem dL_law_188 : decode cL_law 188 = .ok (.aload_n 1, 1) := by decide +kernel
theorem dL_law_189 : decode cL_law 189 = .ok (.aload_n 0, 1) := by decide +kernel
theorem dL_law_190 : decode cL_law 190 = .ok (.iload 5, 2) := by decide +kernel
theorem dL_law_192 : decode cL_law 192 = .ok (.iconst 1, 1) := by decide +kernel
theorem dL_law_193 : decode cL_law 193 = .ok (.iadd, 1) := by decide +kernel
theorem dL_law_194 : decode cL_law 194 = .ok (.iaload, 1) := by decide +kernel
theorem dL_law_195 : decode cL_law 195 = .ok (.aload_n 0, 1) := by decide +kernel
theorem dL_law_196 : decode cL_law 196 = .ok (.iload 5, 2) := by decide +kernel
theorem dL_law_198 : decode cL_law 198 = .ok (.iconst 2, 1) := by decide +kernel
theorem dL_law_199 : decode cL_law 199 = .ok (.iadd, 1) := by decide +kernel
theorem dL_law_200 : decode cL_law 200 = .ok (.iaload, 1) := by decide +kernel
theorem dL_law_201 : decode cL_law 201 = .ok (.invokestatic 113, 3) := by decide +kernel
theorem dL_law_204 : decode cL_law 204 = .ok (.istore 6, 2) := by decide +kernel
theorem dL_law_206 : decode cL_law 206 = .ok (.aload_n 2, 1) := by decide +kernel
theorem dL_law_207 : decode cL_law 207 = .ok (.aload_n 0, 1) := by decide +kernel
theorem dL_law_208 : decode cL_law 208 = .ok (.iload 5, 2) := by decide +kernel
theorem dL_law_210 : decode cL_law 210 = .ok (.iconst 1, 1) := by decide +kernel
theorem dL_law_211 : decode cL_law 211 = .ok (.iadd, 1) := by decide +kernel
theorem dL_law_212 : decode cL_law 212 = .ok (.iaload, 1) := by decide +kernel
theorem dL_law_213 : decode cL_law 213 = .ok (.aload_n 0, 1) := by decide +kernel
theorem dL_law_214 : decode cL_law 214 = .ok (.iload 5, 2) := by decide +kernel
theorem dL_law_216 : decode cL_law 216 = .ok (.iconst 2, 1) := by decide +kernel
theorem dL_law_217 : decode cL_law 217 = .ok (.iadd, 1) := by decide +kernel
theorem dL_law_218 : decode cL_law 218 = .ok (.iaload, 1) := by decide +kernel
theorem dL_law_219 : decode cL_law 219 = .ok (.invokevirtual 118, 3) := by decide +kernel
theorem dL_law_222 : decode cL_law 222 = .ok (.aload_n 2, 1) := by decide +kernel
theorem dL_law_223 : decode cL_law 223 = .ok (.invokevirtual 119, 3) := by decide +kernel
theorem dL_law_226 : decode cL_law 226 = .ok (.iload 6, 2) := by decide +kernel
theorem dL_law_228 : decode cL_law 228 = .ok (.if_icmp .eq 5, 3) := by decide +kernel
theorem dL_law_231 : decode cL_law 231 = .ok (.iconst 0, 1) := by decide +kernel
theorem dL_law_232 : decode cL_law 232 = .ok (.ireturn, 1) := by decide +kernel
theorem dL_law_233 : decode cL_law 233 = .ok (.goto 1675, 3) := by decide +kernel
theorem dL_law_236 : decode cL_law 236 = .ok (.aload_n 1, 1) := by decide +kernel
theorem dL_law_237 : decode cL_law 237 = .ok (.aload_n 0, 1) := by decide +kernel
theorem dL_law_238 : decode cL_law 238 = .ok (.iload 5, 2) := by decide +kernel
theorem dL_law_240 : decode cL_law 240 = .ok (.iconst 1, 1) := by decide +kernel
theorem dL_law_241 : decode cL_law 241 = .ok (.iadd, 1) := by decide +kernel
theorem dL_law_242 : decode cL_law 242 = .ok (.iaload, 1) := by decide +kernel
theorem dL_law_243 : decode cL_law 243 = .ok (.aload_n 0, 1) := by decide +kernel
theorem dL_law_244 : decode cL_law 244 = .ok (.iload 5, 2) := by decide +kernel
theorem dL_law_246 : decode cL_law 246 = .ok (.iconst 2, 1) := by decide +kernel
theorem dL_law_247 : decode cL_law 247 = .ok (.iadd, 1) := by decide +kernel
theorem dL_law_248 : decode cL_law 248 = .ok (.iaload, 1) := by decide +kernel
theorem dL_law_249 : decode cL_law 249 = .ok (.aload_n 0, 1) := by decide +kernel
theorem dL_law_250 : decode cL_law 250 = .ok (.iload 5, 2) := by decide +kernel
theorem dL_law_252 : decode cL_law 252 = .ok (.iconst 3, 1) := by decide +kernel
theorem dL_law_253 : decode cL_law 253 = .ok (.iadd, 1) := by decide +kernel
theorem dL_law_254 : decode cL_law 254 = .ok (.iaload, 1) := by decide +kernel
theorem dL_law_255 : decode cL_law 255 = .ok (.aload_n 0, 1) := by decide +kernel
theorem dL_law_256 : decode cL_law 256 = .ok (.iload 5, 2) := by decide +kernel
theorem dL_law_258 : decode cL_law 258 = .ok (.iconst 4, 1) := by decide +kernel
theorem dL_law_259 : decode cL_law 259 = .ok (.iadd, 1) := by decide +kernel
theorem dL_law_260 : decode cL_law 260 = .ok (.iaload, 1) := by decide +kernel
theorem dL_law_261 : decode cL_law 261 = .ok (.aload_n 3, 1) := by decide +kernel
theorem dL_law_262 : decode cL_law 262 = .ok (.invokestatic 122, 3) := by decide +kernel
theorem dL_law_265 : decode cL_law 265 = .ok (.istore 6, 2) := by decide +kernel
theorem dL_law_267 : decode cL_law 267 = .ok (.aload_n 2, 1) := by decide +kernel
theorem dL_law_268 : decode cL_law 268 = .ok (.aload_n 0, 1) := by decide +kernel
theorem dL_law_269 : decode cL_law 269 = .ok (.iload 5, 2) := by decide +kernel
theorem dL_law_271 : decode cL_law 271 = .ok (.iconst 1, 1) := by decide +kernel
theorem dL_law_272 : decode cL_law 272 = .ok (.iadd, 1) := by decide +kernel
theorem dL_law_273 : decode cL_law 273 = .ok (.iaload, 1) := by decide +kernel
theorem dL_law_274 : decode cL_law 274 = .ok (.aload_n 0, 1) := by decide +kernel
theorem dL_law_275 : decode cL_law 275 = .ok (.iload 5, 2) := by decide +kernel
theorem dL_law_277 : decode cL_law 277 = .ok (.iconst 2, 1) := by decide +kernel
theorem dL_law_278 : decode cL_law 278 = .ok (.iadd, 1) := by decide +kernel
theorem dL_law_279 : decode cL_law 279 = .ok (.iaload, 1) := by decide +kernel
theorem dL_law_280 : decode cL_law 280 = .ok (.aload_n 0, 1) := by decide +kernel
theorem dL_law_281 : decode cL_law 281 = .ok (.iload 5, 2) := by decide +kernel
theorem dL_law_283 : decode cL_law 283 = .ok (.iconst 3, 1) := by decide +kernel
theorem dL_law_284 : decode cL_law 284 = .ok (.iadd, 1) := by decide +kernel
theorem dL_law_285 : decode cL_law 285 = .ok (.iaload, 1) := by decide +kernel
theorem dL_law_286 : decode cL_law 286 = .ok (.aload_n 0, 1) := by decide +kernel
theorem dL_law_287 : decode cL_law 287 = .ok (.iload 5, 2) := by decide +kernel
theorem dL_law_289 : decode cL_law 289 = .ok (.iconst 4, 1) := by decide +kernel
theorem dL_law_290 : decode cL_law 290 = .ok (.iadd, 1) := by decide +kernel
theorem dL_law_291 : decode cL_law 291 = .ok (.iaload, 1) := by decide +kernel
theorem dL_law_292 : decode cL_law 292 = .ok (.invokevirtual 125, 3) := by decide +kernel
theorem dL_law_295 : decode cL_law 295 = .ok (.istore 7, 2) := by decide +kernel
theorem dL_law_297 : decode cL_law 297 = .ok (.aload_n 2, 1) := by decide +kernel
theorem dL_law_298 : decode cL_law 298 = .ok (.invokevirtual 119, 3) := by decide +kernel
theorem dL_law_301 : decode cL_law 301 = .ok (.iload 6, 2) := by decide +kernel
theorem dL_law_303 : decode cL_law 303 = .ok (.if_icmp .eq 5, 3) := by decide +kernel
theorem dL_law_306 : decode cL_law 306 = .ok (.iconst 0, 1) := by decide +kernel
theorem dL_law_307 : decode cL_law 307 = .ok (.ireturn, 1) := by decide +kernel
theorem dL_law_308 : decode cL_law 308 = .ok (.iload 6, 2) := by decide +kernel
theorem dL_law_310 : decode cL_law 310 = .ok (.ifCond .ne 15, 3) := by decide +kernel
theorem dL_law_313 : decode cL_law 313 = .ok (.aload_n 3, 1) := by decide +kernel
theorem dL_law_314 : decode cL_law 314 = .ok (.iconst 0, 1) := by decide +kernel
theorem dL_law_315 : decode cL_law 315 = .ok (.laload, 1) := by decide +kernel
theorem dL_law_316 : decode cL_law 316 = .ok (.iload 7, 2) := by decide +kernel
theorem dL_law_318 : decode cL_law 318 = .ok (.i2l, 1) := by decide +kernel
theorem dL_law_319 : decode cL_law 319 = .ok (.lcmp, 1) := by decide +kernel
theorem dL_law_320 : decode cL_law 320 = .ok (.ifCond .eq 5, 3) := by decide +kernel
theorem dL_law_323 : decode cL_law 323 = .ok (.iconst 0, 1) := by decide +kernel
theorem dL_law_324 : decode cL_law 324 = .ok (.ireturn, 1) := by decide +kernel
theorem dL_law_325 : decode cL_law 325 = .ok (.goto 1583, 3) := by decide +kernel
theorem dL_law_328 : decode cL_law 328 = .ok (.aload_n 1, 1) := by decide +kernel
theorem dL_law_329 : decode cL_law 329 = .ok (.aload_n 0, 1) := by decide +kernel
theorem dL_law_330 : decode cL_law 330 = .ok (.iload 5, 2) := by decide +kernel
theorem dL_law_332 : decode cL_law 332 = .ok (.iconst 1, 1) := by decide +kernel
theorem dL_law_333 : decode cL_law 333 = .ok (.iadd, 1) := by decide +kernel
theorem dL_law_334 : decode cL_law 334 = .ok (.iaload, 1) := by decide +kernel
theorem dL_law_335 : decode cL_law 335 = .ok (.aload_n 3, 1) := by decide +kernel
theorem dL_law_336 : decode cL_law 336 = .ok (.invokestatic 126, 3) := by decide +kernel
theorem dL_law_339 : decode cL_law 339 = .ok (.istore 6, 2) := by decide +kernel
theorem dL_law_341 : decode cL_law 341 = .ok (.aload_n 2, 1) := by decide +kernel
theorem dL_law_342 : decode cL_law 342 = .ok (.aload_n 0, 1) := by decide +kernel
theorem dL_law_343 : decode cL_law 343 = .ok (.iload 5, 2) := by decide +kernel
theorem dL_law_345 : decode cL_law 345 = .ok (.iconst 1, 1) := by decide +kernel
theorem dL_law_346 : decode cL_law 346 = .ok (.iadd, 1) := by decide +kernel
theorem dL_law_347 : decode cL_law 347 = .ok (.iaload, 1) := by decide +kernel
theorem dL_law_348 : decode cL_law 348 = .ok (.invokevirtual 129, 3) := by decide +kernel
theorem dL_law_351 : decode cL_law 351 = .ok (.istore 7, 2) := by decide +kernel
theorem dL_law_353 : decode cL_law 353 = .ok (.aload_n 2, 1) := by decide +kernel
theorem dL_law_354 : decode cL_law 354 = .ok (.invokevirtual 119, 3) := by decide +kernel
theorem dL_law_357 : decode cL_law 357 = .ok (.iload 6, 2) := by decide +kernel
theorem dL_law_359 : decode cL_law 359 = .ok (.if_icmp .eq 5, 3) := by decide +kernel
theorem dL_law_362 : decode cL_law 362 = .ok (.iconst 0, 1) := by decide +kernel
theorem dL_law_363 : decode cL_law 363 = .ok (.ireturn, 1) := by decide +kernel
theorem dL_law_364 : decode cL_law 364 = .ok (.iload 6, 2) := by decide +kernel
theorem dL_law_366 : decode cL_law 366 = .ok (.ifCond .ne 15, 3) := by decide +kernel
theorem dL_law_369 : decode cL_law 369 = .ok (.aload_n 3, 1) := by decide +kernel
theorem dL_law_370 : decode cL_law 370 = .ok (.iconst 0, 1) := by decide +kernel
theorem dL_law_371 : decode cL_law 371 = .ok (.laload, 1) := by decide +kernel
theorem dL_law_372 : decode cL_law 372 = .ok (.iload 7, 2) := by decide +kernel
theorem dL_law_374 : decode cL_law 374 = .ok (.i2l, 1) := by decide +kernel
theorem dL_law_375 : decode cL_law 375 = .ok (.lcmp, 1) := by decide +kernel
theorem dL_law_376 : decode cL_law 376 = .ok (.ifCond .eq 5, 3) := by decide +kernel
theorem dL_law_379 : decode cL_law 379 = .ok (.iconst 0, 1) := by decide +kernel
theorem dL_law_380 : decode cL_law 380 = .ok (.ireturn, 1) := by decide +kernel
theorem dL_law_381 : decode cL_law 381 = .ok (.goto 1527, 3) := by decide +kernel
theorem dL_law_384 : decode cL_law 384 = .ok (.aload_n 1, 1) := by decide +kernel
theorem dL_law_385 : decode cL_law 385 = .ok (.invokevirtual 130, 3) := by decide +kernel
theorem dL_law_388 : decode cL_law 388 = .ok (.aload_n 2, 1) := by decide +kernel
theorem dL_law_389 : decode cL_law 389 = .ok (.invokevirtual 133, 3) := by decide +kernel
theorem dL_law_392 : decode cL_law 392 = .ok (.if_icmp .eq 1516, 3) := by decide +kernel
theorem dL_law_395 : decode cL_law 395 = .ok (.iconst 0, 1) := by decide +kernel
theorem dL_law_396 : decode cL_law 396 = .ok (.ireturn, 1) := by decide +kernel
theorem dL_law_397 : decode cL_law 397 = .ok (.aload_n 1, 1) := by decide +kernel
theorem dL_law_398 : decode cL_law 398 = .ok (.invokevirtual 134, 3) := by decide +kernel
theorem dL_law_401 : decode cL_law 401 = .ok (.aload_n 2, 1) := by decide +kernel
theorem dL_law_402 : decode cL_law 402 = .ok (.invokevirtual 137, 3) := by decide +kernel
theorem dL_law_405 : decode cL_law 405 = .ok (.if_icmp .eq 1503, 3) := by decide +kernel
theorem dL_law_408 : decode cL_law 408 = .ok (.iconst 0, 1) := by decide +kernel
theorem dL_law_409 : decode cL_law 409 = .ok (.ireturn, 1) := by decide +kernel
theorem dL_law_410 : decode cL_law 410 = .ok (.aload_n 1, 1) := by decide +kernel
theorem dL_law_411 : decode cL_law 411 = .ok (.aload_n 0, 1) := by decide +kernel
theorem dL_law_412 : decode cL_law 412 = .ok (.iload 5, 2) := by decide +kernel
theorem dL_law_414 : decode cL_law 414 = .ok (.iconst 1, 1) := by decide +kernel
theorem dL_law_415 : decode cL_law 415 = .ok (.iadd, 1) := by decide +kernel
theorem dL_law_416 : decode cL_law 416 = .ok (.iaload, 1) := by decide +kernel
theorem dL_law_417 : decode cL_law 417 = .ok (.aload_n 0, 1) := by decide +kernel
theorem dL_law_418 : decode cL_law 418 = .ok (.iload 5, 2) := by decide +kernel
theorem dL_law_420 : decode cL_law 420 = .ok (.iconst 2, 1) := by decide +kernel
theorem dL_law_421 : decode cL_law 421 = .ok (.iadd, 1) := by decide +kernel
theorem dL_law_422 : decode cL_law 422 = .ok (.iaload, 1) := by decide +kernel
theorem dL_law_423 : decode cL_law 423 = .ok (.aload_n 3, 1) := by decide +kernel
theorem dL_law_424 : decode cL_law 424 = .ok (.invokestatic 138, 3) := by decide +kernel
theorem dL_law_427 : decode cL_law 427 = .ok (.istore 6, 2) := by decide +kernel
theorem dL_law_429 : decode cL_law 429 = .ok (.aload_n 2, 1) := by decide +kernel
theorem dL_law_430 : decode cL_law 430 = .ok (.aload_n 0, 1) := by decide +kernel
theorem dL_law_431 : decode cL_law 431 = .ok (.iload 5, 2) := by decide +kernel
theorem dL_law_433 : decode cL_law 433 = .ok (.iconst 1, 1) := by decide +kernel
theorem dL_law_434 : decode cL_law 434 = .ok (.iadd, 1) := by decide +kernel
theorem dL_law_435 : decode cL_law 435 = .ok (.iaload, 1) := by decide +kernel
theorem dL_law_436 : decode cL_law 436 = .ok (.aload_n 0, 1) := by decide +kernel
theorem dL_law_437 : decode cL_law 437 = .ok (.iload 5, 2) := by decide +kernel
theorem dL_law_439 : decode cL_law 439 = .ok (.iconst 2, 1) := by decide +kernel
theorem dL_law_440 : decode cL_law 440 = .ok (.iadd, 1) := by decide +kernel
theorem dL_law_441 : decode cL_law 441 = .ok (.iaload, 1) := by decide +kernel
theorem dL_law_442 : decode cL_law 442 = .ok (.invokevirtual 141, 3) := by decide +kernel
theorem dL_law_445 : decode cL_law 445 = .ok (.istore 7, 2) := by decide +kernel
theorem dL_law_447 : decode cL_law 447 = .ok (.aload_n 2, 1) := by decide +kernel
theorem dL_law_448 : decode cL_law 448 = .ok (.invokevirtual 119, 3) := by decide +kernel
theorem dL_law_451 : decode cL_law 451 = .ok (.iload 6, 2) := by decide +kernel
theorem dL_law_453 : decode cL_law 453 = .ok (.if_icmp .eq 5, 3) := by decide +kernel
theorem dL_law_456 : decode cL_law 456 = .ok (.iconst 0, 1) := by decide +kernel
theorem dL_law_457 : decode cL_law 457 = .ok (.ireturn, 1) := by decide +kernel
theorem dL_law_458 : decode cL_law 458 = .ok (.iload 6, 2) := by decide +kernel
theorem dL_law_460 : decode cL_law 460 = .ok (.ifCond .ne 15, 3) := by decide +kernel
theorem dL_law_463 : decode cL_law 463 = .ok (.aload_n 3, 1) := by decide +kernel
theorem dL_law_464 : decode cL_law 464 = .ok (.iconst 0, 1) := by decide +kernel
theorem dL_law_465 : decode cL_law 465 = .ok (.laload, 1) := by decide +kernel
theorem dL_law_466 : decode cL_law 466 = .ok (.iload 7, 2) := by decide +kernel
theorem dL_law_468 : decode cL_law 468 = .ok (.i2l, 1) := by decide +kernel
theorem dL_law_469 : decode cL_law 469 = .ok (.lcmp, 1) := by decide +kernel
theorem dL_law_470 : decode cL_law 470 = .ok (.ifCond .eq 5, 3) := by decide +kernel
theorem dL_law_473 : decode cL_law 473 = .ok (.iconst 0, 1) := by decide +kernel
theorem dL_law_474 : decode cL_law 474 = .ok (.ireturn, 1) := by decide +kernel
theorem dL_law_475 : decode cL_law 475 = .ok (.goto 1433, 3) := by decide +kernel
theorem dL_law_478 : decode cL_law 478 = .ok (.aload_n 1, 1) := by decide +kernel
theorem dL_law_479 : decode cL_law 479 = .ok (.aload_n 0, 1) := by decide +kernel
theorem dL_law_480 : decode cL_law 480 = .ok (.iload 5, 2) := by decide +kernel
theorem dL_law_482 : decode cL_law 482 = .ok (.iconst 1, 1) := by decide +kernel
theorem dL_law_483 : decode cL_law 483 = .ok (.iadd, 1) := by decide +kernel
theorem dL_law_484 : decode cL_law 484 = .ok (.iaload, 1) := by decide +kernel
theorem dL_law_485 : decode cL_law 485 = .ok (.aload_n 3, 1) := by decide +kernel
theorem dL_law_486 : decode cL_law 486 = .ok (.invokestatic 142, 3) := by decide +kernel
theorem dL_law_489 : decode cL_law 489 = .ok (.istore 6, 2) := by decide +kernel
theorem dL_law_491 : decode cL_law 491 = .ok (.aload_n 2, 1) := by decide +kernel
theorem dL_law_492 : decode cL_law 492 = .ok (.aload_n 0, 1) := by decide +kernel
theorem dL_law_493 : decode cL_law 493 = .ok (.iload 5, 2) := by decide +kernel
theorem dL_law_495 : decode cL_law 495 = .ok (.iconst 1, 1) := by decide +kernel
theorem dL_law_496 : decode cL_law 496 = .ok (.iadd, 1) := by decide +kernel
theorem dL_law_497 : decode cL_law 497 = .ok (.iaload, 1) := by decide +kernel
theorem dL_law_498 : decode cL_law 498 = .ok (.invokevirtual 144, 3) := by decide +kernel
theorem dL_law_501 : decode cL_law 501 = .ok (.istore 7, 2) := by decide +kernel
theorem dL_law_503 : decode cL_law 503 = .ok (.aload_n 2, 1) := by decide +kernel
theorem dL_law_504 : decode cL_law 504 = .ok (.invokevirtual 119, 3) := by decide +kernel
theorem dL_law_507 : decode cL_law 507 = .ok (.iload 6, 2) := by decide +kernel
theorem dL_law_509 : decode cL_law 509 = .ok (.if_icmp .eq 5, 3) := by decide +kernel
theorem dL_law_512 : decode cL_law 512 = .ok (.iconst 0, 1) := by decide +kernel
theorem dL_law_513 : decode cL_law 513 = .ok (.ireturn, 1) := by decide +kernel
theorem dL_law_514 : decode cL_law 514 = .ok (.iload 6, 2) := by decide +kernel
theorem dL_law_516 : decode cL_law 516 = .ok (.ifCond .ne 15, 3) := by decide +kernel
theorem dL_law_519 : decode cL_law 519 = .ok (.aload_n 3, 1) := by decide +kernel
theorem dL_law_520 : decode cL_law 520 = .ok (.iconst 0, 1) := by decide +kernel
theorem dL_law_521 : decode cL_law 521 = .ok (.laload, 1) := by decide +kernel
theorem dL_law_522 : decode cL_law 522 = .ok (.iload 7, 2) := by decide +kernel
theorem dL_law_524 : decode cL_law 524 = .ok (.i2l, 1) := by decide +kernel
theorem dL_law_525 : decode cL_law 525 = .ok (.lcmp, 1) := by decide +kernel
theorem dL_law_526 : decode cL_law 526 = .ok (.ifCond .eq 5, 3) := by decide +kernel
theorem dL_law_529 : decode cL_law 529 = .ok (.iconst 0, 1) := by decide +kernel
theorem dL_law_530 : decode cL_law 530 = .ok (.ireturn, 1) := by decide +kernel
theorem dL_law_531 : decode cL_law 531 = .ok (.goto 1377, 3) := by decide +kernel
theorem dL_law_534 : decode cL_law 534 = .ok (.aload_n 1, 1) := by decide +kernel
theorem dL_law_535 : decode cL_law 535 = .ok (.aload_n 0, 1) := by decide +kernel
theorem dL_law_536 : decode cL_law 536 = .ok (.iload 5, 2) := by decide +kernel
theorem dL_law_538 : decode cL_law 538 = .ok (.iconst 1, 1) := by decide +kernel
theorem dL_law_539 : decode cL_law 539 = .ok (.iadd, 1) := by decide +kernel
theorem dL_law_540 : decode cL_law 540 = .ok (.iaload, 1) := by decide +kernel
theorem dL_law_541 : decode cL_law 541 = .ok (.aload_n 3, 1) := by decide +kernel
theorem dL_law_542 : decode cL_law 542 = .ok (.invokestatic 145, 3) := by decide +kernel
theorem dL_law_545 : decode cL_law 545 = .ok (.istore 6, 2) := by decide +kernel
theorem dL_law_547 : decode cL_law 547 = .ok (.aload_n 2, 1) := by decide +kernel
theorem dL_law_548 : decode cL_law 548 = .ok (.aload_n 0, 1) := by decide +kernel
theorem dL_law_549 : decode cL_law 549 = .ok (.iload 5, 2) := by decide +kernel
theorem dL_law_551 : decode cL_law 551 = .ok (.iconst 1, 1) := by decide +kernel
theorem dL_law_552 : decode cL_law 552 = .ok (.iadd, 1) := by decide +kernel
theorem dL_law_553 : decode cL_law 553 = .ok (.iaload, 1) := by decide +kernel
theorem dL_law_554 : decode cL_law 554 = .ok (.invokevirtual 147, 3) := by decide +kernel
theorem dL_law_557 : decode cL_law 557 = .ok (.istore 7, 2) := by decide +kernel
theorem dL_law_559 : decode cL_law 559 = .ok (.aload_n 2, 1) := by decide +kernel
theorem dL_law_560 : decode cL_law 560 = .ok (.invokevirtual 119, 3) := by decide +kernel
theorem dL_law_563 : decode cL_law 563 = .ok (.iload 6, 2) := by decide +kernel
theorem dL_law_565 : decode cL_law 565 = .ok (.if_icmp .eq 5, 3) := by decide +kernel
theorem dL_law_568 : decode cL_law 568 = .ok (.iconst 0, 1) := by decide +kernel
theorem dL_law_569 : decode cL_law 569 = .ok (.ireturn, 1) := by decide +kernel
theorem dL_law_570 : decode cL_law 570 = .ok (.iload 6, 2) := by decide +kernel
theorem dL_law_572 : decode cL_law 572 = .ok (.ifCond .ne 15, 3) := by decide +kernel
theorem dL_law_575 : decode cL_law 575 = .ok (.aload_n 3, 1) := by decide +kernel
theorem dL_law_576 : decode cL_law 576 = .ok (.iconst 0, 1) := by decide +kernel
theorem dL_law_577 : decode cL_law 577 = .ok (.laload, 1) := by decide +kernel
theorem dL_law_578 : decode cL_law 578 = .ok (.iload 7, 2) := by decide +kernel
theorem dL_law_580 : decode cL_law 580 = .ok (.i2l, 1) := by decide +kernel
theorem dL_law_581 : decode cL_law 581 = .ok (.lcmp, 1) := by decide +kernel
theorem dL_law_582 : decode cL_law 582 = .ok (.ifCond .eq 5, 3) := by decide +kernel
theorem dL_law_585 : decode cL_law 585 = .ok (.iconst 0, 1) := by decide +kernel
theorem dL_law_586 : decode cL_law 586 = .ok (.ireturn, 1) := by decide +kernel
theorem dL_law_587 : decode cL_law 587 = .ok (.goto 1321, 3) := by decide +kernel
theorem dL_law_590 : decode cL_law 590 = .ok (.aload_n 1, 1) := by decide +kernel
theorem dL_law_591 : decode cL_law 591 = .ok (.aload_n 0, 1) := by decide +kernel
theorem dL_law_592 : decode cL_law 592 = .ok (.iload 5, 2) := by decide +kernel
theorem dL_law_594 : decode cL_law 594 = .ok (.iconst 1, 1) := by decide +kernel
theorem dL_law_595 : decode cL_law 595 = .ok (.iadd, 1) := by decide +kernel
theorem dL_law_596 : decode cL_law 596 = .ok (.iaload, 1) := by decide +kernel
theorem dL_law_597 : decode cL_law 597 = .ok (.aload_n 3, 1) := by decide +kernel
theorem dL_law_598 : decode cL_law 598 = .ok (.invokestatic 148, 3) := by decide +kernel
theorem dL_law_601 : decode cL_law 601 = .ok (.istore 6, 2) := by decide +kernel
theorem dL_law_603 : decode cL_law 603 = .ok (.aload_n 2, 1) := by decide +kernel
theorem dL_law_604 : decode cL_law 604 = .ok (.aload_n 0, 1) := by decide +kernel
theorem dL_law_605 : decode cL_law 605 = .ok (.iload 5, 2) := by decide +kernel
theorem dL_law_607 : decode cL_law 607 = .ok (.iconst 1, 1) := by decide +kernel
theorem dL_law_608 : decode cL_law 608 = .ok (.iadd, 1) := by decide +kernel
theorem dL_law_609 : decode cL_law 609 = .ok (.iaload, 1) := by decide +kernel
theorem dL_law_610 : decode cL_law 610 = .ok (.invokevirtual 150, 3) := by decide +kernel
theorem dL_law_613 : decode cL_law 613 = .ok (.istore 7, 2) := by decide +kernel
theorem dL_law_615 : decode cL_law 615 = .ok (.aload_n 2, 1) := by decide +kernel
theorem dL_law_616 : decode cL_law 616 = .ok (.invokevirtual 119, 3) := by decide +kernel
theorem dL_law_619 : decode cL_law 619 = .ok (.iload 6, 2) := by decide +kernel
theorem dL_law_621 : decode cL_law 621 = .ok (.if_icmp .eq 5, 3) := by decide +kernel
theorem dL_law_624 : decode cL_law 624 = .ok (.iconst 0, 1) := by decide +kernel
theorem dL_law_625 : decode cL_law 625 = .ok (.ireturn, 1) := by decide +kernel
theorem dL_law_626 : decode cL_law 626 = .ok (.iload 6, 2) := by decide +kernel
theorem dL_law_628 : decode cL_law 628 = .ok (.ifCond .ne 15, 3) := by decide +kernel
theorem dL_law_631 : decode cL_law 631 = .ok (.aload_n 3, 1) := by decide +kernel
theorem dL_law_632 : decode cL_law 632 = .ok (.iconst 0, 1) := by decide +kernel
theorem dL_law_633 : decode cL_law 633 = .ok (.laload, 1) := by decide +kernel
theorem dL_law_634 : decode cL_law 634 = .ok (.iload 7, 2) := by decide +kernel
theorem dL_law_636 : decode cL_law 636 = .ok (.i2l, 1) := by decide +kernel
theorem dL_law_637 : decode cL_law 637 = .ok (.lcmp, 1) := by decide +kernel
theorem dL_law_638 : decode cL_law 638 = .ok (.ifCond .eq 5, 3) := by decide +kernel
theorem dL_law_641 : decode cL_law 641 = .ok (.iconst 0, 1) := by decide +kernel
theorem dL_law_642 : decode cL_law 642 = .ok (.ireturn, 1) := by decide +kernel
theorem dL_law_643 : decode cL_law 643 = .ok (.goto 1265, 3) := by decide +kernel
theorem dL_law_646 : decode cL_law 646 = .ok (.aload_n 1, 1) := by decide +kernel
theorem dL_law_647 : decode cL_law 647 = .ok (.invokevirtual 151, 3) := by decide +kernel
theorem dL_law_650 : decode cL_law 650 = .ok (.aload_n 2, 1) := by decide +kernel
theorem dL_law_651 : decode cL_law 651 = .ok (.invokevirtual 154, 3) := by decide +kernel
theorem dL_law_654 : decode cL_law 654 = .ok (.if_icmp .eq 1254, 3) := by decide +kernel
theorem dL_law_657 : decode cL_law 657 = .ok (.iconst 0, 1) := by decide +kernel
theorem dL_law_658 : decode cL_law 658 = .ok (.ireturn, 1) := by decide +kernel
theorem dL_law_659 : decode cL_law 659 = .ok (.aload_n 1, 1) := by decide +kernel
theorem dL_law_660 : decode cL_law 660 = .ok (.invokevirtual 155, 3) := by decide +kernel
theorem dL_law_663 : decode cL_law 663 = .ok (.aload_n 2, 1) := by decide +kernel
theorem dL_law_664 : decode cL_law 664 = .ok (.invokevirtual 158, 3) := by decide +kernel
theorem dL_law_667 : decode cL_law 667 = .ok (.if_icmp .eq 1241, 3) := by decide +kernel
theorem dL_law_670 : decode cL_law 670 = .ok (.iconst 0, 1) := by decide +kernel
theorem dL_law_671 : decode cL_law 671 = .ok (.ireturn, 1) := by decide +kernel
theorem dL_law_672 : decode cL_law 672 = .ok (.aload_n 1, 1) := by decide +kernel
theorem dL_law_673 : decode cL_law 673 = .ok (.aload_n 0, 1) := by decide +kernel
theorem dL_law_674 : decode cL_law 674 = .ok (.iload 5, 2) := by decide +kernel
theorem dL_law_676 : decode cL_law 676 = .ok (.iconst 1, 1) := by decide +kernel
theorem dL_law_677 : decode cL_law 677 = .ok (.iadd, 1) := by decide +kernel
theorem dL_law_678 : decode cL_law 678 = .ok (.iaload, 1) := by decide +kernel
theorem dL_law_679 : decode cL_law 679 = .ok (.aload_n 3, 1) := by decide +kernel
theorem dL_law_680 : decode cL_law 680 = .ok (.invokestatic 159, 3) := by decide +kernel
theorem dL_law_683 : decode cL_law 683 = .ok (.istore 6, 2) := by decide +kernel
theorem dL_law_685 : decode cL_law 685 = .ok (.aload_n 2, 1) := by decide +kernel
theorem dL_law_686 : decode cL_law 686 = .ok (.aload_n 0, 1) := by decide +kernel
theorem dL_law_687 : decode cL_law 687 = .ok (.iload 5, 2) := by decide +kernel
theorem dL_law_689 : decode cL_law 689 = .ok (.iconst 1, 1) := by decide +kernel
theorem dL_law_690 : decode cL_law 690 = .ok (.iadd, 1) := by decide +kernel
theorem dL_law_691 : decode cL_law 691 = .ok (.iaload, 1) := by decide +kernel
theorem dL_law_692 : decode cL_law 692 = .ok (.invokevirtual 161, 3) := by decide +kernel
theorem dL_law_695 : decode cL_law 695 = .ok (.istore 7, 2) := by decide +kernel
theorem dL_law_697 : decode cL_law 697 = .ok (.aload_n 2, 1) := by decide +kernel
theorem dL_law_698 : decode cL_law 698 = .ok (.invokevirtual 119, 3) := by decide +kernel
theorem dL_law_701 : decode cL_law 701 = .ok (.iload 6, 2) := by decide +kernel
theorem dL_law_703 : decode cL_law 703 = .ok (.if_icmp .eq 5, 3) := by decide +kernel
theorem dL_law_706 : decode cL_law 706 = .ok (.iconst 0, 1) := by decide +kernel
theorem dL_law_707 : decode cL_law 707 = .ok (.ireturn, 1) := by decide +kernel
theorem dL_law_708 : decode cL_law 708 = .ok (.iload 6, 2) := by decide +kernel
theorem dL_law_710 : decode cL_law 710 = .ok (.ifCond .ne 15, 3) := by decide +kernel
theorem dL_law_713 : decode cL_law 713 = .ok (.aload_n 3, 1) := by decide +kernel
theorem dL_law_714 : decode cL_law 714 = .ok (.iconst 0, 1) := by decide +kernel
theorem dL_law_715 : decode cL_law 715 = .ok (.laload, 1) := by decide +kernel
theorem dL_law_716 : decode cL_law 716 = .ok (.iload 7, 2) := by decide +kernel
theorem dL_law_718 : decode cL_law 718 = .ok (.i2l, 1) := by decide +kernel
theorem dL_law_719 : decode cL_law 719 = .ok (.lcmp, 1) := by decide +kernel
theorem dL_law_720 : decode cL_law 720 = .ok (.ifCond .eq 5, 3) := by decide +kernel
theorem dL_law_723 : decode cL_law 723 = .ok (.iconst 0, 1) := by decide +kernel
theorem dL_law_724 : decode cL_law 724 = .ok (.ireturn, 1) := by decide +kernel
theorem dL_law_725 : decode cL_law 725 = .ok (.goto 1183, 3) := by decide +kernel
theorem dL_law_728 : decode cL_law 728 = .ok (.aload_n 1, 1) := by decide +kernel
theorem dL_law_729 : decode cL_law 729 = .ok (.invokevirtual 162, 3) := by decide +kernel
theorem dL_law_732 : decode cL_law 732 = .ok (.aload_n 2, 1) := by decide +kernel
theorem dL_law_733 : decode cL_law 733 = .ok (.invokevirtual 165, 3) := by decide +kernel
theorem dL_law_736 : decode cL_law 736 = .ok (.lcmp, 1) := by decide +kernel
theorem dL_law_737 : decode cL_law 737 = .ok (.ifCond .eq 1171, 3) := by decide +kernel
theorem dL_law_740 : decode cL_law 740 = .ok (.iconst 0, 1) := by decide +kernel
theorem dL_law_741 : decode cL_law 741 = .ok (.ireturn, 1) := by decide +kernel
theorem dL_law_742 : decode cL_law 742 = .ok (.aload_n 1, 1) := by decide +kernel
theorem dL_law_743 : decode cL_law 743 = .ok (.aload_n 0, 1) := by decide +kernel
theorem dL_law_744 : decode cL_law 744 = .ok (.iload 5, 2) := by decide +kernel
theorem dL_law_746 : decode cL_law 746 = .ok (.iconst 1, 1) := by decide +kernel
theorem dL_law_747 : decode cL_law 747 = .ok (.iadd, 1) := by decide +kernel
theorem dL_law_748 : decode cL_law 748 = .ok (.iaload, 1) := by decide +kernel
theorem dL_law_749 : decode cL_law 749 = .ok (.aload_n 3, 1) := by decide +kernel
theorem dL_law_750 : decode cL_law 750 = .ok (.invokestatic 166, 3) := by decide +kernel
theorem dL_law_753 : decode cL_law 753 = .ok (.istore 6, 2) := by decide +kernel
theorem dL_law_755 : decode cL_law 755 = .ok (.aload_n 2, 1) := by decide +kernel
theorem dL_law_756 : decode cL_law 756 = .ok (.aload_n 0, 1) := by decide +kernel
theorem dL_law_757 : decode cL_law 757 = .ok (.iload 5, 2) := by decide +kernel
theorem dL_law_759 : decode cL_law 759 = .ok (.iconst 1, 1) := by decide +kernel
theorem dL_law_760 : decode cL_law 760 = .ok (.iadd, 1) := by decide +kernel
theorem dL_law_761 : decode cL_law 761 = .ok (.iaload, 1) := by decide +kernel
theorem dL_law_762 : decode cL_law 762 = .ok (.invokevirtual 168, 3) := by decide +kernel
theorem dL_law_765 : decode cL_law 765 = .ok (.lstore 7, 2) := by decide +kernel
theorem dL_law_767 : decode cL_law 767 = .ok (.aload_n 2, 1) := by decide +kernel
theorem dL_law_768 : decode cL_law 768 = .ok (.invokevirtual 119, 3) := by decide +kernel
theorem dL_law_771 : decode cL_law 771 = .ok (.iload 6, 2) := by decide +kernel
theorem dL_law_773 : decode cL_law 773 = .ok (.if_icmp .eq 5, 3) := by decide +kernel
theorem dL_law_776 : decode cL_law 776 = .ok (.iconst 0, 1) := by decide +kernel
theorem dL_law_777 : decode cL_law 777 = .ok (.ireturn, 1) := by decide +kernel
theorem dL_law_778 : decode cL_law 778 = .ok (.iload 6, 2) := by decide +kernel
theorem dL_law_780 : decode cL_law 780 = .ok (.ifCond .ne 14, 3) := by decide +kernel
theorem dL_law_783 : decode cL_law 783 = .ok (.aload_n 3, 1) := by decide +kernel
theorem dL_law_784 : decode cL_law 784 = .ok (.iconst 0, 1) := by decide +kernel
theorem dL_law_785 : decode cL_law 785 = .ok (.laload, 1) := by decide +kernel
theorem dL_law_786 : decode cL_law 786 = .ok (.lload 7, 2) := by decide +kernel
theorem dL_law_788 : decode cL_law 788 = .ok (.lcmp, 1) := by decide +kernel
theorem dL_law_789 : decode cL_law 789 = .ok (.ifCond .eq 5, 3) := by decide +kernel
theorem dL_law_792 : decode cL_law 792 = .ok (.iconst 0, 1) := by decide +kernel
theorem dL_law_793 : decode cL_law 793 = .ok (.ireturn, 1) := by decide +kernel
theorem dL_law_794 : decode cL_law 794 = .ok (.goto 1114, 3) := by decide +kernel
theorem dL_law_797 : decode cL_law 797 = .ok (.aload_n 1, 1) := by decide +kernel
theorem dL_law_798 : decode cL_law 798 = .ok (.aload_n 0, 1) := by decide +kernel
theorem dL_law_799 : decode cL_law 799 = .ok (.iload 5, 2) := by decide +kernel
theorem dL_law_801 : decode cL_law 801 = .ok (.iconst 1, 1) := by decide +kernel
theorem dL_law_802 : decode cL_law 802 = .ok (.iadd, 1) := by decide +kernel
theorem dL_law_803 : decode cL_law 803 = .ok (.iaload, 1) := by decide +kernel
theorem dL_law_804 : decode cL_law 804 = .ok (.aload_n 0, 1) := by decide +kernel
theorem dL_law_805 : decode cL_law 805 = .ok (.iload 5, 2) := by decide +kernel
theorem dL_law_807 : decode cL_law 807 = .ok (.iconst 2, 1) := by decide +kernel
theorem dL_law_808 : decode cL_law 808 = .ok (.iadd, 1) := by decide +kernel
theorem dL_law_809 : decode cL_law 809 = .ok (.iaload, 1) := by decide +kernel
theorem dL_law_810 : decode cL_law 810 = .ok (.aload_n 3, 1) := by decide +kernel
theorem dL_law_811 : decode cL_law 811 = .ok (.invokestatic 169, 3) := by decide +kernel
theorem dL_law_814 : decode cL_law 814 = .ok (.istore 6, 2) := by decide +kernel
theorem dL_law_816 : decode cL_law 816 = .ok (.aload_n 2, 1) := by decide +kernel
theorem dL_law_817 : decode cL_law 817 = .ok (.aload_n 0, 1) := by decide +kernel
theorem dL_law_818 : decode cL_law 818 = .ok (.iload 5, 2) := by decide +kernel
theorem dL_law_820 : decode cL_law 820 = .ok (.iconst 1, 1) := by decide +kernel
theorem dL_law_821 : decode cL_law 821 = .ok (.iadd, 1) := by decide +kernel
theorem dL_law_822 : decode cL_law 822 = .ok (.iaload, 1) := by decide +kernel
theorem dL_law_823 : decode cL_law 823 = .ok (.aload_n 0, 1) := by decide +kernel
theorem dL_law_824 : decode cL_law 824 = .ok (.iload 5, 2) := by decide +kernel
theorem dL_law_826 : decode cL_law 826 = .ok (.iconst 2, 1) := by decide +kernel
theorem dL_law_827 : decode cL_law 827 = .ok (.iadd, 1) := by decide +kernel
theorem dL_law_828 : decode cL_law 828 = .ok (.iaload, 1) := by decide +kernel
theorem dL_law_829 : decode cL_law 829 = .ok (.invokevirtual 171, 3) := by decide +kernel
theorem dL_law_832 : decode cL_law 832 = .ok (.istore 7, 2) := by decide +kernel
theorem dL_law_834 : decode cL_law 834 = .ok (.aload_n 2, 1) := by decide +kernel
theorem dL_law_835 : decode cL_law 835 = .ok (.invokevirtual 119, 3) := by decide +kernel
theorem dL_law_838 : decode cL_law 838 = .ok (.iload 6, 2) := by decide +kernel
theorem dL_law_840 : decode cL_law 840 = .ok (.if_icmp .eq 5, 3) := by decide +kernel
theorem dL_law_843 : decode cL_law 843 = .ok (.iconst 0, 1) := by decide +kernel
theorem dL_law_844 : decode cL_law 844 = .ok (.ireturn, 1) := by decide +kernel
theorem dL_law_845 : decode cL_law 845 = .ok (.iload 6, 2) := by decide +kernel
theorem dL_law_847 : decode cL_law 847 = .ok (.ifCond .ne 15, 3) := by decide +kernel
theorem dL_law_850 : decode cL_law 850 = .ok (.aload_n 3, 1) := by decide +kernel
theorem dL_law_851 : decode cL_law 851 = .ok (.iconst 0, 1) := by decide +kernel
theorem dL_law_852 : decode cL_law 852 = .ok (.laload, 1) := by decide +kernel
theorem dL_law_853 : decode cL_law 853 = .ok (.iload 7, 2) := by decide +kernel
theorem dL_law_855 : decode cL_law 855 = .ok (.i2l, 1) := by decide +kernel
theorem dL_law_856 : decode cL_law 856 = .ok (.lcmp, 1) := by decide +kernel
theorem dL_law_857 : decode cL_law 857 = .ok (.ifCond .eq 5, 3) := by decide +kernel
theorem dL_law_860 : decode cL_law 860 = .ok (.iconst 0, 1) := by decide +kernel
theorem dL_law_861 : decode cL_law 861 = .ok (.ireturn, 1) := by decide +kernel
theorem dL_law_862 : decode cL_law 862 = .ok (.goto 1046, 3) := by decide +kernel
theorem dL_law_865 : decode cL_law 865 = .ok (.aload_n 1, 1) := by decide +kernel
theorem dL_law_866 : decode cL_law 866 = .ok (.aload_n 0, 1) := by decide +kernel
theorem dL_law_867 : decode cL_law 867 = .ok (.iload 5, 2) := by decide +kernel
theorem dL_law_869 : decode cL_law 869 = .ok (.iconst 1, 1) := by decide +kernel
theorem dL_law_870 : decode cL_law 870 = .ok (.iadd, 1) := by decide +kernel
theorem dL_law_871 : decode cL_law 871 = .ok (.iaload, 1) := by decide +kernel
theorem dL_law_872 : decode cL_law 872 = .ok (.aload 4, 2) := by decide +kernel
theorem dL_law_874 : decode cL_law 874 = .ok (.invokestatic 172, 3) := by decide +kernel
theorem dL_law_877 : decode cL_law 877 = .ok (.istore 6, 2) := by decide +kernel
theorem dL_law_879 : decode cL_law 879 = .ok (.aload_n 2, 1) := by decide +kernel
theorem dL_law_880 : decode cL_law 880 = .ok (.aload_n 0, 1) := by decide +kernel
theorem dL_law_881 : decode cL_law 881 = .ok (.iload 5, 2) := by decide +kernel
theorem dL_law_883 : decode cL_law 883 = .ok (.iconst 1, 1) := by decide +kernel
theorem dL_law_884 : decode cL_law 884 = .ok (.iadd, 1) := by decide +kernel
theorem dL_law_885 : decode cL_law 885 = .ok (.iaload, 1) := by decide +kernel
theorem dL_law_886 : decode cL_law 886 = .ok (.invokevirtual 175, 3) := by decide +kernel
theorem dL_law_889 : decode cL_law 889 = .ok (.dstore 7, 2) := by decide +kernel
theorem dL_law_891 : decode cL_law 891 = .ok (.aload_n 2, 1) := by decide +kernel
theorem dL_law_892 : decode cL_law 892 = .ok (.invokevirtual 119, 3) := by decide +kernel
theorem dL_law_895 : decode cL_law 895 = .ok (.iload 6, 2) := by decide +kernel
theorem dL_law_897 : decode cL_law 897 = .ok (.if_icmp .eq 5, 3) := by decide +kernel
theorem dL_law_900 : decode cL_law 900 = .ok (.iconst 0, 1) := by decide +kernel
theorem dL_law_901 : decode cL_law 901 = .ok (.ireturn, 1) := by decide +kernel
theorem dL_law_902 : decode cL_law 902 = .ok (.iload 6, 2) := by decide +kernel
theorem dL_law_904 : decode cL_law 904 = .ok (.ifCond .ne 35, 3) := by decide +kernel
theorem dL_law_907 : decode cL_law 907 = .ok (.aload 4, 2) := by decide +kernel
theorem dL_law_909 : decode cL_law 909 = .ok (.iconst 0, 1) := by decide +kernel
theorem dL_law_910 : decode cL_law 910 = .ok (.daload, 1) := by decide +kernel
theorem dL_law_911 : decode cL_law 911 = .ok (.dload 7, 2) := by decide +kernel
theorem dL_law_913 : decode cL_law 913 = .ok (.dcmp .l, 1) := by decide +kernel
theorem dL_law_914 : decode cL_law 914 = .ok (.ifCond .eq 25, 3) := by decide +kernel
theorem dL_law_917 : decode cL_law 917 = .ok (.aload 4, 2) := by decide +kernel
theorem dL_law_919 : decode cL_law 919 = .ok (.iconst 0, 1) := by decide +kernel
theorem dL_law_920 : decode cL_law 920 = .ok (.daload, 1) := by decide +kernel
theorem dL_law_921 : decode cL_law 921 = .ok (.aload 4, 2) := by decide +kernel
theorem dL_law_923 : decode cL_law 923 = .ok (.iconst 0, 1) := by decide +kernel
theorem dL_law_924 : decode cL_law 924 = .ok (.daload, 1) := by decide +kernel
theorem dL_law_925 : decode cL_law 925 = .ok (.dcmp .l, 1) := by decide +kernel
theorem dL_law_926 : decode cL_law 926 = .ok (.ifCond .eq 11, 3) := by decide +kernel
theorem dL_law_929 : decode cL_law 929 = .ok (.dload 7, 2) := by decide +kernel
theorem dL_law_931 : decode cL_law 931 = .ok (.dload 7, 2) := by decide +kernel
theorem dL_law_933 : decode cL_law 933 = .ok (.dcmp .l, 1) := by decide +kernel
theorem dL_law_934 : decode cL_law 934 = .ok (.ifCond .ne 5, 3) := by decide +kernel
theorem dL_law_937 : decode cL_law 937 = .ok (.iconst 0, 1) := by decide +kernel
theorem dL_law_938 : decode cL_law 938 = .ok (.ireturn, 1) := by decide +kernel
theorem dL_law_939 : decode cL_law 939 = .ok (.goto 969, 3) := by decide +kernel
theorem dL_law_942 : decode cL_law 942 = .ok (.aload_n 1, 1) := by decide +kernel
theorem dL_law_943 : decode cL_law 943 = .ok (.aload_n 0, 1) := by decide +kernel
theorem dL_law_944 : decode cL_law 944 = .ok (.iload 5, 2) := by decide +kernel
theorem dL_law_946 : decode cL_law 946 = .ok (.iconst 1, 1) := by decide +kernel
theorem dL_law_947 : decode cL_law 947 = .ok (.iadd, 1) := by decide +kernel
theorem dL_law_948 : decode cL_law 948 = .ok (.iaload, 1) := by decide +kernel
theorem dL_law_949 : decode cL_law 949 = .ok (.aload 4, 2) := by decide +kernel
theorem dL_law_951 : decode cL_law 951 = .ok (.invokestatic 176, 3) := by decide +kernel
theorem dL_law_954 : decode cL_law 954 = .ok (.istore 6, 2) := by decide +kernel
theorem dL_law_956 : decode cL_law 956 = .ok (.aload_n 2, 1) := by decide +kernel
theorem dL_law_957 : decode cL_law 957 = .ok (.aload_n 0, 1) := by decide +kernel
theorem dL_law_958 : decode cL_law 958 = .ok (.iload 5, 2) := by decide +kernel
theorem dL_law_960 : decode cL_law 960 = .ok (.iconst 1, 1) := by decide +kernel
theorem dL_law_961 : decode cL_law 961 = .ok (.iadd, 1) := by decide +kernel
theorem dL_law_962 : decode cL_law 962 = .ok (.iaload, 1) := by decide +kernel
theorem dL_law_963 : decode cL_law 963 = .ok (.invokevirtual 178, 3) := by decide +kernel
theorem dL_law_966 : decode cL_law 966 = .ok (.dstore 7, 2) := by decide +kernel
theorem dL_law_968 : decode cL_law 968 = .ok (.aload_n 2, 1) := by decide +kernel
theorem dL_law_969 : decode cL_law 969 = .ok (.invokevirtual 119, 3) := by decide +kernel
theorem dL_law_972 : decode cL_law 972 = .ok (.iload 6, 2) := by decide +kernel
theorem dL_law_974 : decode cL_law 974 = .ok (.if_icmp .eq 5, 3) := by decide +kernel
theorem dL_law_977 : decode cL_law 977 = .ok (.iconst 0, 1) := by decide +kernel
theorem dL_law_978 : decode cL_law 978 = .ok (.ireturn, 1) := by decide +kernel
theorem dL_law_979 : decode cL_law 979 = .ok (.iload 6, 2) := by decide +kernel
theorem dL_law_981 : decode cL_law 981 = .ok (.ifCond .ne 35, 3) := by decide +kernel
theorem dL_law_984 : decode cL_law 984 = .ok (.aload 4, 2) := by decide +kernel
theorem dL_law_986 : decode cL_law 986 = .ok (.iconst 0, 1) := by decide +kernel
theorem dL_law_987 : decode cL_law 987 = .ok (.daload, 1) := by decide +kernel
theorem dL_law_988 : decode cL_law 988 = .ok (.dload 7, 2) := by decide +kernel
theorem dL_law_990 : decode cL_law 990 = .ok (.dcmp .l, 1) := by decide +kernel
theorem dL_law_991 : decode cL_law 991 = .ok (.ifCond .eq 25, 3) := by decide +kernel
theorem dL_law_994 : decode cL_law 994 = .ok (.aload 4, 2) := by decide +kernel
theorem dL_law_996 : decode cL_law 996 = .ok (.iconst 0, 1) := by decide +kernel
theorem dL_law_997 : decode cL_law 997 = .ok (.daload, 1) := by decide +kernel
theorem dL_law_998 : decode cL_law 998 = .ok (.aload 4, 2) := by decide +kernel
theorem dL_law_1000 : decode cL_law 1000 = .ok (.iconst 0, 1) := by decide +kernel
theorem dL_law_1001 : decode cL_law 1001 = .ok (.daload, 1) := by decide +kernel
theorem dL_law_1002 : decode cL_law 1002 = .ok (.dcmp .l, 1) := by decide +kernel
theorem dL_law_1003 : decode cL_law 1003 = .ok (.ifCond .eq 11, 3) := by decide +kernel
theorem dL_law_1006 : decode cL_law 1006 = .ok (.dload 7, 2) := by decide +kernel
theorem dL_law_1008 : decode cL_law 1008 = .ok (.dload 7, 2) := by decide +kernel
theorem dL_law_1010 : decode cL_law 1010 = .ok (.dcmp .l, 1) := by decide +kernel
theorem dL_law_1011 : decode cL_law 1011 = .ok (.ifCond .ne 5, 3) := by decide +kernel
theorem dL_law_1014 : decode cL_law 1014 = .ok (.iconst 0, 1) := by decide +kernel
theorem dL_law_1015 : decode cL_law 1015 = .ok (.ireturn, 1) := by decide +kernel
theorem dL_law_1016 : decode cL_law 1016 = .ok (.goto 892, 3) := by decide +kernel
theorem dL_law_1019 : decode cL_law 1019 = .ok (.aload_n 1, 1) := by decide +kernel
theorem dL_law_1020 : decode cL_law 1020 = .ok (.aload_n 0, 1) := by decide +kernel
theorem dL_law_1021 : decode cL_law 1021 = .ok (.iload 5, 2) := by decide +kernel
theorem dL_law_1023 : decode cL_law 1023 = .ok (.iconst 1, 1) := by decide +kernel
theorem dL_law_1024 : decode cL_law 1024 = .ok (.iadd, 1) := by decide +kernel
theorem dL_law_1025 : decode cL_law 1025 = .ok (.iaload, 1) := by decide +kernel
theorem dL_law_1026 : decode cL_law 1026 = .ok (.aload_n 3, 1) := by decide +kernel
theorem dL_law_1027 : decode cL_law 1027 = .ok (.invokestatic 179, 3) := by decide +kernel
theorem dL_law_1030 : decode cL_law 1030 = .ok (.istore 6, 2) := by decide +kernel
theorem dL_law_1032 : decode cL_law 1032 = .ok (.aload_n 2, 1) := by decide +kernel
theorem dL_law_1033 : decode cL_law 1033 = .ok (.aload_n 0, 1) := by decide +kernel
theorem dL_law_1034 : decode cL_law 1034 = .ok (.iload 5, 2) := by decide +kernel
theorem dL_law_1036 : decode cL_law 1036 = .ok (.iconst 1, 1) := by decide +kernel
theorem dL_law_1037 : decode cL_law 1037 = .ok (.iadd, 1) := by decide +kernel
theorem dL_law_1038 : decode cL_law 1038 = .ok (.iaload, 1) := by decide +kernel
theorem dL_law_1039 : decode cL_law 1039 = .ok (.invokevirtual 181, 3) := by decide +kernel
theorem dL_law_1042 : decode cL_law 1042 = .ok (.istore 7, 2) := by decide +kernel
theorem dL_law_1044 : decode cL_law 1044 = .ok (.aload_n 2, 1) := by decide +kernel
theorem dL_law_1045 : decode cL_law 1045 = .ok (.invokevirtual 119, 3) := by decide +kernel
theorem dL_law_1048 : decode cL_law 1048 = .ok (.iload 6, 2) := by decide +kernel
theorem dL_law_1050 : decode cL_law 1050 = .ok (.if_icmp .eq 5, 3) := by decide +kernel
theorem dL_law_1053 : decode cL_law 1053 = .ok (.iconst 0, 1) := by decide +kernel
theorem dL_law_1054 : decode cL_law 1054 = .ok (.ireturn, 1) := by decide +kernel
theorem dL_law_1055 : decode cL_law 1055 = .ok (.iload 6, 2) := by decide +kernel
theorem dL_law_1057 : decode cL_law 1057 = .ok (.ifCond .ne 15, 3) := by decide +kernel
theorem dL_law_1060 : decode cL_law 1060 = .ok (.aload_n 3, 1) := by decide +kernel
theorem dL_law_1061 : decode cL_law 1061 = .ok (.iconst 0, 1) := by decide +kernel
theorem dL_law_1062 : decode cL_law 1062 = .ok (.laload, 1) := by decide +kernel
theorem dL_law_1063 : decode cL_law 1063 = .ok (.iload 7, 2) := by decide +kernel
theorem dL_law_1065 : decode cL_law 1065 = .ok (.i2l, 1) := by decide +kernel
theorem dL_law_1066 : decode cL_law 1066 = .ok (.lcmp, 1) := by decide +kernel
theorem dL_law_1067 : decode cL_law 1067 = .ok (.ifCond .eq 5, 3) := by decide +kernel
theorem dL_law_1070 : decode cL_law 1070 = .ok (.iconst 0, 1) := by decide +kernel
theorem dL_law_1071 : decode cL_law 1071 = .ok (.ireturn, 1) := by decide +kernel
theorem dL_law_1072 : decode cL_law 1072 = .ok (.goto 836, 3) := by decide +kernel
theorem dL_law_1075 : decode cL_law 1075 = .ok (.aload_n 1, 1) := by decide +kernel
theorem dL_law_1076 : decode cL_law 1076 = .ok (.aload_n 3, 1) := by decide +kernel
theorem dL_law_1077 : decode cL_law 1077 = .ok (.invokestatic 182, 3) := by decide +kernel
theorem dL_law_1080 : decode cL_law 1080 = .ok (.istore 6, 2) := by decide +kernel
theorem dL_law_1082 : decode cL_law 1082 = .ok (.aload_n 2, 1) := by decide +kernel
theorem dL_law_1083 : decode cL_law 1083 = .ok (.invokevirtual 185, 3) := by decide +kernel
theorem dL_law_1086 : decode cL_law 1086 = .ok (.istore 7, 2) := by decide +kernel
theorem dL_law_1088 : decode cL_law 1088 = .ok (.aload_n 2, 1) := by decide +kernel
theorem dL_law_1089 : decode cL_law 1089 = .ok (.invokevirtual 119, 3) := by decide +kernel
theorem dL_law_1092 : decode cL_law 1092 = .ok (.iload 6, 2) := by decide +kernel
theorem dL_law_1094 : decode cL_law 1094 = .ok (.if_icmp .eq 5, 3) := by decide +kernel
theorem dL_law_1097 : decode cL_law 1097 = .ok (.iconst 0, 1) := by decide +kernel
theorem dL_law_1098 : decode cL_law 1098 = .ok (.ireturn, 1) := by decide +kernel
theorem dL_law_1099 : decode cL_law 1099 = .ok (.iload 6, 2) := by decide +kernel
theorem dL_law_1101 : decode cL_law 1101 = .ok (.ifCond .ne 15, 3) := by decide +kernel
theorem dL_law_1104 : decode cL_law 1104 = .ok (.aload_n 3, 1) := by decide +kernel
theorem dL_law_1105 : decode cL_law 1105 = .ok (.iconst 0, 1) := by decide +kernel
theorem dL_law_1106 : decode cL_law 1106 = .ok (.laload, 1) := by decide +kernel
theorem dL_law_1107 : decode cL_law 1107 = .ok (.iload 7, 2) := by decide +kernel
theorem dL_law_1109 : decode cL_law 1109 = .ok (.i2l, 1) := by decide +kernel
theorem dL_law_1110 : decode cL_law 1110 = .ok (.lcmp, 1) := by decide +kernel
theorem dL_law_1111 : decode cL_law 1111 = .ok (.ifCond .eq 5, 3) := by decide +kernel
theorem dL_law_1114 : decode cL_law 1114 = .ok (.iconst 0, 1) := by decide +kernel
theorem dL_law_1115 : decode cL_law 1115 = .ok (.ireturn, 1) := by decide +kernel
theorem dL_law_1116 : decode cL_law 1116 = .ok (.goto 792, 3) := by decide +kernel
theorem dL_law_1119 : decode cL_law 1119 = .ok (.aload_n 1, 1) := by decide +kernel
theorem dL_law_1120 : decode cL_law 1120 = .ok (.aload_n 0, 1) := by decide +kernel
theorem dL_law_1121 : decode cL_law 1121 = .ok (.iload 5, 2) := by decide +kernel
theorem dL_law_1123 : decode cL_law 1123 = .ok (.iconst 1, 1) := by decide +kernel
theorem dL_law_1124 : decode cL_law 1124 = .ok (.iadd, 1) := by decide +kernel
theorem dL_law_1125 : decode cL_law 1125 = .ok (.iaload, 1) := by decide +kernel
theorem dL_law_1126 : decode cL_law 1126 = .ok (.aload_n 0, 1) := by decide +kernel
theorem dL_law_1127 : decode cL_law 1127 = .ok (.iload 5, 2) := by decide +kernel
theorem dL_law_1129 : decode cL_law 1129 = .ok (.iconst 2, 1) := by decide +kernel
theorem dL_law_1130 : decode cL_law 1130 = .ok (.iadd, 1) := by decide +kernel
theorem dL_law_1131 : decode cL_law 1131 = .ok (.iaload, 1) := by decide +kernel
theorem dL_law_1132 : decode cL_law 1132 = .ok (.invokestatic 186, 3) := by decide +kernel
theorem dL_law_1135 : decode cL_law 1135 = .ok (.istore 6, 2) := by decide +kernel
theorem dL_law_1137 : decode cL_law 1137 = .ok (.aload_n 2, 1) := by decide +kernel
theorem dL_law_1138 : decode cL_law 1138 = .ok (.aload_n 0, 1) := by decide +kernel
theorem dL_law_1139 : decode cL_law 1139 = .ok (.iload 5, 2) := by decide +kernel
theorem dL_law_1141 : decode cL_law 1141 = .ok (.iconst 1, 1) := by decide +kernel
theorem dL_law_1142 : decode cL_law 1142 = .ok (.iadd, 1) := by decide +kernel
theorem dL_law_1143 : decode cL_law 1143 = .ok (.iaload, 1) := by decide +kernel
theorem dL_law_1144 : decode cL_law 1144 = .ok (.aload_n 0, 1) := by decide +kernel
theorem dL_law_1145 : decode cL_law 1145 = .ok (.iload 5, 2) := by decide +kernel
theorem dL_law_1147 : decode cL_law 1147 = .ok (.iconst 2, 1) := by decide +kernel
theorem dL_law_1148 : decode cL_law 1148 = .ok (.iadd, 1) := by decide +kernel
theorem dL_law_1149 : decode cL_law 1149 = .ok (.iaload, 1) := by decide +kernel
theorem dL_law_1150 : decode cL_law 1150 = .ok (.invokevirtual 188, 3) := by decide +kernel
theorem dL_law_1153 : decode cL_law 1153 = .ok (.aload_n 2, 1) := by decide +kernel
theorem dL_law_1154 : decode cL_law 1154 = .ok (.invokevirtual 119, 3) := by decide +kernel
theorem dL_law_1157 : decode cL_law 1157 = .ok (.iload 6, 2) := by decide +kernel
theorem dL_law_1159 : decode cL_law 1159 = .ok (.if_icmp .eq 5, 3) := by decide +kernel
theorem dL_law_1162 : decode cL_law 1162 = .ok (.iconst 0, 1) := by decide +kernel
theorem dL_law_1163 : decode cL_law 1163 = .ok (.ireturn, 1) := by decide +kernel
theorem dL_law_1164 : decode cL_law 1164 = .ok (.goto 744, 3) := by decide +kernel
theorem dL_law_1167 : decode cL_law 1167 = .ok (.aload_n 1, 1) := by decide +kernel
theorem dL_law_1168 : decode cL_law 1168 = .ok (.aload_n 0, 1) := by decide +kernel
theorem dL_law_1169 : decode cL_law 1169 = .ok (.iload 5, 2) := by decide +kernel
theorem dL_law_1171 : decode cL_law 1171 = .ok (.iconst 1, 1) := by decide +kernel
theorem dL_law_1172 : decode cL_law 1172 = .ok (.iadd, 1) := by decide +kernel
theorem dL_law_1173 : decode cL_law 1173 = .ok (.iaload, 1) := by decide +kernel
theorem dL_law_1174 : decode cL_law 1174 = .ok (.i2l, 1) := by decide +kernel
theorem dL_law_1175 : decode cL_law 1175 = .ok (.bipush 32, 2) := by decide +kernel
theorem dL_law_1177 : decode cL_law 1177 = .ok (.lshl, 1) := by decide +kernel
theorem dL_law_1178 : decode cL_law 1178 = .ok (.aload_n 0, 1) := by decide +kernel
theorem dL_law_1179 : decode cL_law 1179 = .ok (.iload 5, 2) := by decide +kernel
theorem dL_law_1181 : decode cL_law 1181 = .ok (.iconst 2, 1) := by decide +kernel
theorem dL_law_1182 : decode cL_law 1182 = .ok (.iadd, 1) := by decide +kernel
theorem dL_law_1183 : decode cL_law 1183 = .ok (.iaload, 1) := by decide +kernel
theorem dL_law_1184 : decode cL_law 1184 = .ok (.i2l, 1) := by decide +kernel
theorem dL_law_1185 : decode cL_law 1185 = .ok (.ldc2_w 189, 3) := by decide +kernel
theorem dL_law_1188 : decode cL_law 1188 = .ok (.land, 1) := by decide +kernel
theorem dL_law_1189 : decode cL_law 1189 = .ok (.lor, 1) := by decide +kernel
theorem dL_law_1190 : decode cL_law 1190 = .ok (.aload_n 0, 1) := by decide +kernel
theorem dL_law_1191 : decode cL_law 1191 = .ok (.iload 5, 2) := by decide +kernel
theorem dL_law_1193 : decode cL_law 1193 = .ok (.iconst 3, 1) := by decide +kernel
theorem dL_law_1194 : decode cL_law 1194 = .ok (.iadd, 1) := by decide +kernel
theorem dL_law_1195 : decode cL_law 1195 = .ok (.iaload, 1) := by decide +kernel
theorem dL_law_1196 : decode cL_law 1196 = .ok (.aload_n 3, 1) := by decide +kernel
theorem dL_law_1197 : decode cL_law 1197 = .ok (.invokestatic 191, 3) := by decide +kernel
theorem dL_law_1200 : decode cL_law 1200 = .ok (.istore 6, 2) := by decide +kernel
theorem dL_law_1202 : decode cL_law 1202 = .ok (.aload_n 2, 1) := by decide +kernel
theorem dL_law_1203 : decode cL_law 1203 = .ok (.aload_n 0, 1) := by decide +kernel
theorem dL_law_1204 : decode cL_law 1204 = .ok (.iload 5, 2) := by decide +kernel
theorem dL_law_1206 : decode cL_law 1206 = .ok (.iconst 1, 1) := by decide +kernel
theorem dL_law_1207 : decode cL_law 1207 = .ok (.iadd, 1) := by decide +kernel
theorem dL_law_1208 : decode cL_law 1208 = .ok (.iaload, 1) := by decide +kernel
theorem dL_law_1209 : decode cL_law 1209 = .ok (.i2l, 1) := by decide +kernel
theorem dL_law_1210 : decode cL_law 1210 = .ok (.bipush 32, 2) := by decide +kernel
theorem dL_law_1212 : decode cL_law 1212 = .ok (.lshl, 1) := by decide +kernel
theorem dL_law_1213 : decode cL_law 1213 = .ok (.aload_n 0, 1) := by decide +kernel
theorem dL_law_1214 : decode cL_law 1214 = .ok (.iload 5, 2) := by decide +kernel
theorem dL_law_1216 : decode cL_law 1216 = .ok (.iconst 2, 1) := by decide +kernel
theorem dL_law_1217 : decode cL_law 1217 = .ok (.iadd, 1) := by decide +kernel
theorem dL_law_1218 : decode cL_law 1218 = .ok (.iaload, 1) := by decide +kernel
theorem dL_law_1219 : decode cL_law 1219 = .ok (.i2l, 1) := by decide +kernel
theorem dL_law_1220 : decode cL_law 1220 = .ok (.ldc2_w 189, 3) := by decide +kernel
theorem dL_law_1223 : decode cL_law 1223 = .ok (.land, 1) := by decide +kernel
theorem dL_law_1224 : decode cL_law 1224 = .ok (.lor, 1) := by decide +kernel
theorem dL_law_1225 : decode cL_law 1225 = .ok (.aload_n 0, 1) := by decide +kernel
theorem dL_law_1226 : decode cL_law 1226 = .ok (.iload 5, 2) := by decide +kernel
theorem dL_law_1228 : decode cL_law 1228 = .ok (.iconst 3, 1) := by decide +kernel
theorem dL_law_1229 : decode cL_law 1229 = .ok (.iadd, 1) := by decide +kernel
theorem dL_law_1230 : decode cL_law 1230 = .ok (.iaload, 1) := by decide +kernel
theorem dL_law_1231 : decode cL_law 1231 = .ok (.invokevirtual 194, 3) := by decide +kernel
theorem dL_law_1234 : decode cL_law 1234 = .ok (.istore 7, 2) := by decide +kernel
theorem dL_law_1236 : decode cL_law 1236 = .ok (.aload_n 2, 1) := by decide +kernel
theorem dL_law_1237 : decode cL_law 1237 = .ok (.invokevirtual 119, 3) := by decide +kernel
theorem dL_law_1240 : decode cL_law 1240 = .ok (.iload 6, 2) := by decide +kernel
theorem dL_law_1242 : decode cL_law 1242 = .ok (.if_icmp .eq 5, 3) := by decide +kernel
theorem dL_law_1245 : decode cL_law 1245 = .ok (.iconst 0, 1) := by decide +kernel
theorem dL_law_1246 : decode cL_law 1246 = .ok (.ireturn, 1) := by decide +kernel
theorem dL_law_1247 : decode cL_law 1247 = .ok (.iload 6, 2) := by decide +kernel
theorem dL_law_1249 : decode cL_law 1249 = .ok (.ifCond .ne 15, 3) := by decide +kernel
theorem dL_law_1252 : decode cL_law 1252 = .ok (.aload_n 3, 1) := by decide +kernel
theorem dL_law_1253 : decode cL_law 1253 = .ok (.iconst 0, 1) := by decide +kernel
theorem dL_law_1254 : decode cL_law 1254 = .ok (.laload, 1) := by decide +kernel
theorem dL_law_1255 : decode cL_law 1255 = .ok (.iload 7, 2) := by decide +kernel
theorem dL_law_1257 : decode cL_law 1257 = .ok (.i2l, 1) := by decide +kernel
theorem dL_law_1258 : decode cL_law 1258 = .ok (.lcmp, 1) := by decide +kernel
theorem dL_law_1259 : decode cL_law 1259 = .ok (.ifCond .eq 5, 3) := by decide +kernel
theorem dL_law_1262 : decode cL_law 1262 = .ok (.iconst 0, 1) := by decide +kernel
theorem dL_law_1263 : decode cL_law 1263 = .ok (.ireturn, 1) := by decide +kernel
theorem dL_law_1264 : decode cL_law 1264 = .ok (.goto 644, 3) := by decide +kernel
theorem dL_law_1267 : decode cL_law 1267 = .ok (.aload_n 1, 1) := by decide +kernel
theorem dL_law_1268 : decode cL_law 1268 = .ok (.aload_n 0, 1) := by decide +kernel
theorem dL_law_1269 : decode cL_law 1269 = .ok (.iload 5, 2) := by decide +kernel
theorem dL_law_1271 : decode cL_law 1271 = .ok (.iconst 1, 1) := by decide +kernel
theorem dL_law_1272 : decode cL_law 1272 = .ok (.iadd, 1) := by decide +kernel
theorem dL_law_1273 : decode cL_law 1273 = .ok (.iaload, 1) := by decide +kernel
theorem dL_law_1274 : decode cL_law 1274 = .ok (.i2l, 1) := by decide +kernel
theorem dL_law_1275 : decode cL_law 1275 = .ok (.bipush 32, 2) := by decide +kernel
theorem dL_law_1277 : decode cL_law 1277 = .ok (.lshl, 1) := by decide +kernel
theorem dL_law_1278 : decode cL_law 1278 = .ok (.aload_n 0, 1) := by decide +kernel
theorem dL_law_1279 : decode cL_law 1279 = .ok (.iload 5, 2) := by decide +kernel
theorem dL_law_1281 : decode cL_law 1281 = .ok (.iconst 2, 1) := by decide +kernel
theorem dL_law_1282 : decode cL_law 1282 = .ok (.iadd, 1) := by decide +kernel
theorem dL_law_1283 : decode cL_law 1283 = .ok (.iaload, 1) := by decide +kernel
theorem dL_law_1284 : decode cL_law 1284 = .ok (.i2l, 1) := by decide +kernel
theorem dL_law_1285 : decode cL_law 1285 = .ok (.ldc2_w 189, 3) := by decide +kernel
theorem dL_law_1288 : decode cL_law 1288 = .ok (.land, 1) := by decide +kernel
theorem dL_law_1289 : decode cL_law 1289 = .ok (.lor, 1) := by decide +kernel
theorem dL_law_1290 : decode cL_law 1290 = .ok (.aload_n 0, 1) := by decide +kernel
theorem dL_law_1291 : decode cL_law 1291 = .ok (.iload 5, 2) := by decide +kernel
theorem dL_law_1293 : decode cL_law 1293 = .ok (.iconst 3, 1) := by decide +kernel
theorem dL_law_1294 : decode cL_law 1294 = .ok (.iadd, 1) := by decide +kernel
theorem dL_law_1295 : decode cL_law 1295 = .ok (.iaload, 1) := by decide +kernel
theorem dL_law_1296 : decode cL_law 1296 = .ok (.aload_n 3, 1) := by decide +kernel
theorem dL_law_1297 : decode cL_law 1297 = .ok (.invokestatic 195, 3) := by decide +kernel
theorem dL_law_1300 : decode cL_law 1300 = .ok (.istore 6, 2) := by decide +kernel
theorem dL_law_1302 : decode cL_law 1302 = .ok (.aload_n 2, 1) := by decide +kernel
theorem dL_law_1303 : decode cL_law 1303 = .ok (.aload_n 0, 1) := by decide +kernel
theorem dL_law_1304 : decode cL_law 1304 = .ok (.iload 5, 2) := by decide +kernel
theorem dL_law_1306 : decode cL_law 1306 = .ok (.iconst 1, 1) := by decide +kernel
theorem dL_law_1307 : decode cL_law 1307 = .ok (.iadd, 1) := by decide +kernel
theorem dL_law_1308 : decode cL_law 1308 = .ok (.iaload, 1) := by decide +kernel
theorem dL_law_1309 : decode cL_law 1309 = .ok (.i2l, 1) := by decide +kernel
theorem dL_law_1310 : decode cL_law 1310 = .ok (.bipush 32, 2) := by decide +kernel
theorem dL_law_1312 : decode cL_law 1312 = .ok (.lshl, 1) := by decide +kernel
theorem dL_law_1313 : decode cL_law 1313 = .ok (.aload_n 0, 1) := by decide +kernel
theorem dL_law_1314 : decode cL_law 1314 = .ok (.iload 5, 2) := by decide +kernel
theorem dL_law_1316 : decode cL_law 1316 = .ok (.iconst 2, 1) := by decide +kernel
theorem dL_law_1317 : decode cL_law 1317 = .ok (.iadd, 1) := by decide +kernel
theorem dL_law_1318 : decode cL_law 1318 = .ok (.iaload, 1) := by decide +kernel
theorem dL_law_1319 : decode cL_law 1319 = .ok (.i2l, 1) := by decide +kernel
theorem dL_law_1320 : decode cL_law 1320 = .ok (.ldc2_w 189, 3) := by decide +kernel
theorem dL_law_1323 : decode cL_law 1323 = .ok (.land, 1) := by decide +kernel
theorem dL_law_1324 : decode cL_law 1324 = .ok (.lor, 1) := by decide +kernel
theorem dL_law_1325 : decode cL_law 1325 = .ok (.aload_n 0, 1) := by decide +kernel
theorem dL_law_1326 : decode cL_law 1326 = .ok (.iload 5, 2) := by decide +kernel
theorem dL_law_1328 : decode cL_law 1328 = .ok (.iconst 3, 1) := by decide +kernel
theorem dL_law_1329 : decode cL_law 1329 = .ok (.iadd, 1) := by decide +kernel
theorem dL_law_1330 : decode cL_law 1330 = .ok (.iaload, 1) := by decide +kernel
theorem dL_law_1331 : decode cL_law 1331 = .ok (.invokevirtual 197, 3) := by decide +kernel
theorem dL_law_1334 : decode cL_law 1334 = .ok (.lstore 7, 2) := by decide +kernel
theorem dL_law_1336 : decode cL_law 1336 = .ok (.aload_n 2, 1) := by decide +kernel
theorem dL_law_1337 : decode cL_law 1337 = .ok (.invokevirtual 119, 3) := by decide +kernel
theorem dL_law_1340 : decode cL_law 1340 = .ok (.iload 6, 2) := by decide +kernel
theorem dL_law_1342 : decode cL_law 1342 = .ok (.if_icmp .eq 5, 3) := by decide +kernel
theorem dL_law_1345 : decode cL_law 1345 = .ok (.iconst 0, 1) := by decide +kernel
theorem dL_law_1346 : decode cL_law 1346 = .ok (.ireturn, 1) := by decide +kernel
theorem dL_law_1347 : decode cL_law 1347 = .ok (.iload 6, 2) := by decide +kernel
theorem dL_law_1349 : decode cL_law 1349 = .ok (.ifCond .ne 14, 3) := by decide +kernel
theorem dL_law_1352 : decode cL_law 1352 = .ok (.aload_n 3, 1) := by decide +kernel
theorem dL_law_1353 : decode cL_law 1353 = .ok (.iconst 0, 1) := by decide +kernel
theorem dL_law_1354 : decode cL_law 1354 = .ok (.laload, 1) := by decide +kernel
theorem dL_law_1355 : decode cL_law 1355 = .ok (.lload 7, 2) := by decide +kernel
theorem dL_law_1357 : decode cL_law 1357 = .ok (.lcmp, 1) := by decide +kernel
theorem dL_law_1358 : decode cL_law 1358 = .ok (.ifCond .eq 5, 3) := by decide +kernel
theorem dL_law_1361 : decode cL_law 1361 = .ok (.iconst 0, 1) := by decide +kernel
theorem dL_law_1362 : decode cL_law 1362 = .ok (.ireturn, 1) := by decide +kernel
theorem dL_law_1363 : decode cL_law 1363 = .ok (.goto 545, 3) := by decide +kernel
theorem dL_law_1366 : decode cL_law 1366 = .ok (.aload_n 1, 1) := by decide +kernel
theorem dL_law_1367 : decode cL_law 1367 = .ok (.aload_n 0, 1) := by decide +kernel
theorem dL_law_1368 : decode cL_law 1368 = .ok (.iload 5, 2) := by decide +kernel
theorem dL_law_1370 : decode cL_law 1370 = .ok (.iconst 1, 1) := by decide +kernel
theorem dL_law_1371 : decode cL_law 1371 = .ok (.iadd, 1) := by decide +kernel
theorem dL_law_1372 : decode cL_law 1372 = .ok (.iaload, 1) := by decide +kernel
theorem dL_law_1373 : decode cL_law 1373 = .ok (.i2l, 1) := by decide +kernel
theorem dL_law_1374 : decode cL_law 1374 = .ok (.bipush 32, 2) := by decide +kernel
theorem dL_law_1376 : decode cL_law 1376 = .ok (.lshl, 1) := by decide +kernel
theorem dL_law_1377 : decode cL_law 1377 = .ok (.aload_n 0, 1) := by decide +kernel
theorem dL_law_1378 : decode cL_law 1378 = .ok (.iload 5, 2) := by decide +kernel
theorem dL_law_1380 : decode cL_law 1380 = .ok (.iconst 2, 1) := by decide +kernel
theorem dL_law_1381 : decode cL_law 1381 = .ok (.iadd, 1) := by decide +kernel
theorem dL_law_1382 : decode cL_law 1382 = .ok (.iaload, 1) := by decide +kernel
theorem dL_law_1383 : decode cL_law 1383 = .ok (.i2l, 1) := by decide +kernel
theorem dL_law_1384 : decode cL_law 1384 = .ok (.ldc2_w 189, 3) := by decide +kernel
theorem dL_law_1387 : decode cL_law 1387 = .ok (.land, 1) := by decide +kernel
theorem dL_law_1388 : decode cL_law 1388 = .ok (.lor, 1) := by decide +kernel
theorem dL_law_1389 : decode cL_law 1389 = .ok (.aload_n 3, 1) := by decide +kernel
theorem dL_law_1390 : decode cL_law 1390 = .ok (.invokestatic 198, 3) := by decide +kernel
theorem dL_law_1393 : decode cL_law 1393 = .ok (.istore 6, 2) := by decide +kernel
theorem dL_law_1395 : decode cL_law 1395 = .ok (.aload_n 2, 1) := by decide +kernel
theorem dL_law_1396 : decode cL_law 1396 = .ok (.aload_n 0, 1) := by decide +kernel
theorem dL_law_1397 : decode cL_law 1397 = .ok (.iload 5, 2) := by decide +kernel
theorem dL_law_1399 : decode cL_law 1399 = .ok (.iconst 1, 1) := by decide +kernel
theorem dL_law_1400 : decode cL_law 1400 = .ok (.iadd, 1) := by decide +kernel
theorem dL_law_1401 : decode cL_law 1401 = .ok (.iaload, 1) := by decide +kernel
theorem dL_law_1402 : decode cL_law 1402 = .ok (.i2l, 1) := by decide +kernel
theorem dL_law_1403 : decode cL_law 1403 = .ok (.bipush 32, 2) := by decide +kernel
theorem dL_law_1405 : decode cL_law 1405 = .ok (.lshl, 1) := by decide +kernel
theorem dL_law_1406 : decode cL_law 1406 = .ok (.aload_n 0, 1) := by decide +kernel
theorem dL_law_1407 : decode cL_law 1407 = .ok (.iload 5, 2) := by decide +kernel
theorem dL_law_1409 : decode cL_law 1409 = .ok (.iconst 2, 1) := by decide +kernel
theorem dL_law_1410 : decode cL_law 1410 = .ok (.iadd, 1) := by decide +kernel
theorem dL_law_1411 : decode cL_law 1411 = .ok (.iaload, 1) := by decide +kernel
theorem dL_law_1412 : decode cL_law 1412 = .ok (.i2l, 1) := by decide +kernel
theorem dL_law_1413 : decode cL_law 1413 = .ok (.ldc2_w 189, 3) := by decide +kernel
theorem dL_law_1416 : decode cL_law 1416 = .ok (.land, 1) := by decide +kernel
theorem dL_law_1417 : decode cL_law 1417 = .ok (.lor, 1) := by decide +kernel
theorem dL_law_1418 : decode cL_law 1418 = .ok (.invokevirtual 201, 3) := by decide +kernel
theorem dL_law_1421 : decode cL_law 1421 = .ok (.istore 7, 2) := by decide +kernel
theorem dL_law_1423 : decode cL_law 1423 = .ok (.aload_n 2, 1) := by decide +kernel
theorem dL_law_1424 : decode cL_law 1424 = .ok (.invokevirtual 119, 3) := by decide +kernel
theorem dL_law_1427 : decode cL_law 1427 = .ok (.iload 6, 2) := by decide +kernel
theorem dL_law_1429 : decode cL_law 1429 = .ok (.if_icmp .eq 5, 3) := by decide +kernel
theorem dL_law_1432 : decode cL_law 1432 = .ok (.iconst 0, 1) := by decide +kernel
theorem dL_law_1433 : decode cL_law 1433 = .ok (.ireturn, 1) := by decide +kernel
theorem dL_law_1434 : decode cL_law 1434 = .ok (.iload 6, 2) := by decide +kernel
theorem dL_law_1436 : decode cL_law 1436 = .ok (.ifCond .ne 15, 3) := by decide +kernel
theorem dL_law_1439 : decode cL_law 1439 = .ok (.aload_n 3, 1) := by decide +kernel
theorem dL_law_1440 : decode cL_law 1440 = .ok (.iconst 0, 1) := by decide +kernel
theorem dL_law_1441 : decode cL_law 1441 = .ok (.laload, 1) := by decide +kernel
theorem dL_law_1442 : decode cL_law 1442 = .ok (.iload 7, 2) := by decide +kernel
theorem dL_law_1444 : decode cL_law 1444 = .ok (.i2l, 1) := by decide +kernel
theorem dL_law_1445 : decode cL_law 1445 = .ok (.lcmp, 1) := by decide +kernel
theorem dL_law_1446 : decode cL_law 1446 = .ok (.ifCond .eq 5, 3) := by decide +kernel
theorem dL_law_1449 : decode cL_law 1449 = .ok (.iconst 0, 1) := by decide +kernel
theorem dL_law_1450 : decode cL_law 1450 = .ok (.ireturn, 1) := by decide +kernel
theorem dL_law_1451 : decode cL_law 1451 = .ok (.goto 457, 3) := by decide +kernel
theorem dL_law_1454 : decode cL_law 1454 = .ok (.aload_n 1, 1) := by decide +kernel
theorem dL_law_1455 : decode cL_law 1455 = .ok (.aload_n 3, 1) := by decide +kernel
theorem dL_law_1456 : decode cL_law 1456 = .ok (.invokestatic 202, 3) := by decide +kernel
theorem dL_law_1459 : decode cL_law 1459 = .ok (.istore 6, 2) := by decide +kernel
theorem dL_law_1461 : decode cL_law 1461 = .ok (.aload_n 2, 1) := by decide +kernel
theorem dL_law_1462 : decode cL_law 1462 = .ok (.invokevirtual 204, 3) := by decide +kernel
theorem dL_law_1465 : decode cL_law 1465 = .ok (.lstore 7, 2) := by decide +kernel
theorem dL_law_1467 : decode cL_law 1467 = .ok (.aload_n 2, 1) := by decide +kernel
theorem dL_law_1468 : decode cL_law 1468 = .ok (.invokevirtual 119, 3) := by decide +kernel
theorem dL_law_1471 : decode cL_law 1471 = .ok (.iload 6, 2) := by decide +kernel
theorem dL_law_1473 : decode cL_law 1473 = .ok (.if_icmp .eq 5, 3) := by decide +kernel
theorem dL_law_1476 : decode cL_law 1476 = .ok (.iconst 0, 1) := by decide +kernel
theorem dL_law_1477 : decode cL_law 1477 = .ok (.ireturn, 1) := by decide +kernel
theorem dL_law_1478 : decode cL_law 1478 = .ok (.iload 6, 2) := by decide +kernel
theorem dL_law_1480 : decode cL_law 1480 = .ok (.ifCond .ne 14, 3) := by decide +kernel
theorem dL_law_1483 : decode cL_law 1483 = .ok (.aload_n 3, 1) := by decide +kernel
theorem dL_law_1484 : decode cL_law 1484 = .ok (.iconst 0, 1) := by decide +kernel
theorem dL_law_1485 : decode cL_law 1485 = .ok (.laload, 1) := by decide +kernel
theorem dL_law_1486 : decode cL_law 1486 = .ok (.lload 7, 2) := by decide +kernel
theorem dL_law_1488 : decode cL_law 1488 = .ok (.lcmp, 1) := by decide +kernel
theorem dL_law_1489 : decode cL_law 1489 = .ok (.ifCond .eq 5, 3) := by decide +kernel
theorem dL_law_1492 : decode cL_law 1492 = .ok (.iconst 0, 1) := by decide +kernel
theorem dL_law_1493 : decode cL_law 1493 = .ok (.ireturn, 1) := by decide +kernel
theorem dL_law_1494 : decode cL_law 1494 = .ok (.goto 414, 3) := by decide +kernel
theorem dL_law_1497 : decode cL_law 1497 = .ok (.aload_n 1, 1) := by decide +kernel
theorem dL_law_1498 : decode cL_law 1498 = .ok (.aload_n 3, 1) := by decide +kernel
theorem dL_law_1499 : decode cL_law 1499 = .ok (.invokestatic 205, 3) := by decide +kernel
theorem dL_law_1502 : decode cL_law 1502 = .ok (.istore 6, 2) := by decide +kernel
theorem dL_law_1504 : decode cL_law 1504 = .ok (.aload_n 2, 1) := by decide +kernel
theorem dL_law_1505 : decode cL_law 1505 = .ok (.invokevirtual 207, 3) := by decide +kernel
theorem dL_law_1508 : decode cL_law 1508 = .ok (.istore 7, 2) := by decide +kernel
theorem dL_law_1510 : decode cL_law 1510 = .ok (.aload_n 2, 1) := by decide +kernel
theorem dL_law_1511 : decode cL_law 1511 = .ok (.invokevirtual 119, 3) := by decide +kernel
theorem dL_law_1514 : decode cL_law 1514 = .ok (.iload 6, 2) := by decide +kernel
theorem dL_law_1516 : decode cL_law 1516 = .ok (.if_icmp .eq 5, 3) := by decide +kernel
theorem dL_law_1519 : decode cL_law 1519 = .ok (.iconst 0, 1) := by decide +kernel
theorem dL_law_1520 : decode cL_law 1520 = .ok (.ireturn, 1) := by decide +kernel
theorem dL_law_1521 : decode cL_law 1521 = .ok (.iload 6, 2) := by decide +kernel
theorem dL_law_1523 : decode cL_law 1523 = .ok (.ifCond .ne 15, 3) := by decide +kernel
theorem dL_law_1526 : decode cL_law 1526 = .ok (.aload_n 3, 1) := by decide +kernel
theorem dL_law_1527 : decode cL_law 1527 = .ok (.iconst 0, 1) := by decide +kernel
theorem dL_law_1528 : decode cL_law 1528 = .ok (.laload, 1) := by decide +kernel
theorem dL_law_1529 : decode cL_law 1529 = .ok (.iload 7, 2) := by decide +kernel
theorem dL_law_1531 : decode cL_law 1531 = .ok (.i2l, 1) := by decide +kernel
theorem dL_law_1532 : decode cL_law 1532 = .ok (.lcmp, 1) := by decide +kernel
theorem dL_law_1533 : decode cL_law 1533 = .ok (.ifCond .eq 5, 3) := by decide +kernel
theorem dL_law_1536 : decode cL_law 1536 = .ok (.iconst 0, 1) := by decide +kernel
theorem dL_law_1537 : decode cL_law 1537 = .ok (.ireturn, 1) := by decide +kernel
theorem dL_law_1538 : decode cL_law 1538 = .ok (.goto 370, 3) := by decide +kernel
theorem dL_law_1541 : decode cL_law 1541 = .ok (.aload_n 1, 1) := by decide +kernel
theorem dL_law_1542 : decode cL_law 1542 = .ok (.aload_n 0, 1) := by decide +kernel
theorem dL_law_1543 : decode cL_law 1543 = .ok (.iload 5, 2) := by decide +kernel
theorem dL_law_1545 : decode cL_law 1545 = .ok (.iconst 1, 1) := by decide +kernel
theorem dL_law_1546 : decode cL_law 1546 = .ok (.iadd, 1) := by decide +kernel
theorem dL_law_1547 : decode cL_law 1547 = .ok (.iaload, 1) := by decide +kernel
theorem dL_law_1548 : decode cL_law 1548 = .ok (.aload_n 0, 1) := by decide +kernel
theorem dL_law_1549 : decode cL_law 1549 = .ok (.iload 5, 2) := by decide +kernel
theorem dL_law_1551 : decode cL_law 1551 = .ok (.iconst 2, 1) := by decide +kernel
theorem dL_law_1552 : decode cL_law 1552 = .ok (.iadd, 1) := by decide +kernel
theorem dL_law_1553 : decode cL_law 1553 = .ok (.iaload, 1) := by decide +kernel
theorem dL_law_1554 : decode cL_law 1554 = .ok (.aload_n 3, 1) := by decide +kernel
theorem dL_law_1555 : decode cL_law 1555 = .ok (.invokestatic 208, 3) := by decide +kernel
theorem dL_law_1558 : decode cL_law 1558 = .ok (.istore 6, 2) := by decide +kernel
theorem dL_law_1560 : decode cL_law 1560 = .ok (.aload_n 2, 1) := by decide +kernel
theorem dL_law_1561 : decode cL_law 1561 = .ok (.aload_n 0, 1) := by decide +kernel
theorem dL_law_1562 : decode cL_law 1562 = .ok (.iload 5, 2) := by decide +kernel
theorem dL_law_1564 : decode cL_law 1564 = .ok (.iconst 1, 1) := by decide +kernel
theorem dL_law_1565 : decode cL_law 1565 = .ok (.iadd, 1) := by decide +kernel
theorem dL_law_1566 : decode cL_law 1566 = .ok (.iaload, 1) := by decide +kernel
theorem dL_law_1567 : decode cL_law 1567 = .ok (.aload_n 0, 1) := by decide +kernel
theorem dL_law_1568 : decode cL_law 1568 = .ok (.iload 5, 2) := by decide +kernel
theorem dL_law_1570 : decode cL_law 1570 = .ok (.iconst 2, 1) := by decide +kernel
theorem dL_law_1571 : decode cL_law 1571 = .ok (.iadd, 1) := by decide +kernel
theorem dL_law_1572 : decode cL_law 1572 = .ok (.iaload, 1) := by decide +kernel
theorem dL_law_1573 : decode cL_law 1573 = .ok (.invokevirtual 210, 3) := by decide +kernel
theorem dL_law_1576 : decode cL_law 1576 = .ok (.istore 7, 2) := by decide +kernel
theorem dL_law_1578 : decode cL_law 1578 = .ok (.aload_n 2, 1) := by decide +kernel
theorem dL_law_1579 : decode cL_law 1579 = .ok (.invokevirtual 119, 3) := by decide +kernel
theorem dL_law_1582 : decode cL_law 1582 = .ok (.iload 6, 2) := by decide +kernel
theorem dL_law_1584 : decode cL_law 1584 = .ok (.if_icmp .eq 5, 3) := by decide +kernel
theorem dL_law_1587 : decode cL_law 1587 = .ok (.iconst 0, 1) := by decide +kernel
theorem dL_law_1588 : decode cL_law 1588 = .ok (.ireturn, 1) := by decide +kernel
theorem dL_law_1589 : decode cL_law 1589 = .ok (.iload 6, 2) := by decide +kernel
theorem dL_law_1591 : decode cL_law 1591 = .ok (.ifCond .ne 15, 3) := by decide +kernel
theorem dL_law_1594 : decode cL_law 1594 = .ok (.aload_n 3, 1) := by decide +kernel
theorem dL_law_1595 : decode cL_law 1595 = .ok (.iconst 0, 1) := by decide +kernel
theorem dL_law_1596 : decode cL_law 1596 = .ok (.laload, 1) := by decide +kernel
theorem dL_law_1597 : decode cL_law 1597 = .ok (.iload 7, 2) := by decide +kernel
theorem dL_law_1599 : decode cL_law 1599 = .ok (.i2l, 1) := by decide +kernel
theorem dL_law_1600 : decode cL_law 1600 = .ok (.lcmp, 1) := by decide +kernel
theorem dL_law_1601 : decode cL_law 1601 = .ok (.ifCond .eq 5, 3) := by decide +kernel
theorem dL_law_1604 : decode cL_law 1604 = .ok (.iconst 0, 1) := by decide +kernel
theorem dL_law_1605 : decode cL_law 1605 = .ok (.ireturn, 1) := by decide +kernel
theorem dL_law_1606 : decode cL_law 1606 = .ok (.goto 302, 3) := by decide +kernel
theorem dL_law_1609 : decode cL_law 1609 = .ok (.aload_n 1, 1) := by decide +kernel
theorem dL_law_1610 : decode cL_law 1610 = .ok (.aload_n 0, 1) := by decide +kernel
theorem dL_law_1611 : decode cL_law 1611 = .ok (.iload 5, 2) := by decide +kernel
theorem dL_law_1613 : decode cL_law 1613 = .ok (.iconst 1, 1) := by decide +kernel
theorem dL_law_1614 : decode cL_law 1614 = .ok (.iadd, 1) := by decide +kernel
theorem dL_law_1615 : decode cL_law 1615 = .ok (.iaload, 1) := by decide +kernel
theorem dL_law_1616 : decode cL_law 1616 = .ok (.aload_n 0, 1) := by decide +kernel
theorem dL_law_1617 : decode cL_law 1617 = .ok (.iload 5, 2) := by decide +kernel
theorem dL_law_1619 : decode cL_law 1619 = .ok (.iconst 2, 1) := by decide +kernel
theorem dL_law_1620 : decode cL_law 1620 = .ok (.iadd, 1) := by decide +kernel
theorem dL_law_1621 : decode cL_law 1621 = .ok (.iaload, 1) := by decide +kernel
theorem dL_law_1622 : decode cL_law 1622 = .ok (.ifCond .eq 7, 3) := by decide +kernel
theorem dL_law_1625 : decode cL_law 1625 = .ok (.iconst 1, 1) := by decide +kernel
theorem dL_law_1626 : decode cL_law 1626 = .ok (.goto 4, 3) := by decide +kernel
theorem dL_law_1629 : decode cL_law 1629 = .ok (.iconst 0, 1) := by decide +kernel
theorem dL_law_1630 : decode cL_law 1630 = .ok (.aload_n 0, 1) := by decide +kernel
theorem dL_law_1631 : decode cL_law 1631 = .ok (.iload 5, 2) := by decide +kernel
theorem dL_law_1633 : decode cL_law 1633 = .ok (.iconst 3, 1) := by decide +kernel
theorem dL_law_1634 : decode cL_law 1634 = .ok (.iadd, 1) := by decide +kernel
theorem dL_law_1635 : decode cL_law 1635 = .ok (.iaload, 1) := by decide +kernel
theorem dL_law_1636 : decode cL_law 1636 = .ok (.invokestatic 211, 3) := by decide +kernel
theorem dL_law_1639 : decode cL_law 1639 = .ok (.istore 6, 2) := by decide +kernel
theorem dL_law_1641 : decode cL_law 1641 = .ok (.aload_n 2, 1) := by decide +kernel
theorem dL_law_1642 : decode cL_law 1642 = .ok (.aload_n 0, 1) := by decide +kernel
theorem dL_law_1643 : decode cL_law 1643 = .ok (.iload 5, 2) := by decide +kernel
theorem dL_law_1645 : decode cL_law 1645 = .ok (.iconst 1, 1) := by decide +kernel
theorem dL_law_1646 : decode cL_law 1646 = .ok (.iadd, 1) := by decide +kernel
theorem dL_law_1647 : decode cL_law 1647 = .ok (.iaload, 1) := by decide +kernel
theorem dL_law_1648 : decode cL_law 1648 = .ok (.aload_n 0, 1) := by decide +kernel
theorem dL_law_1649 : decode cL_law 1649 = .ok (.iload 5, 2) := by decide +kernel
theorem dL_law_1651 : decode cL_law 1651 = .ok (.iconst 2, 1) := by decide +kernel
theorem dL_law_1652 : decode cL_law 1652 = .ok (.iadd, 1) := by decide +kernel
theorem dL_law_1653 : decode cL_law 1653 = .ok (.iaload, 1) := by decide +kernel
theorem dL_law_1654 : decode cL_law 1654 = .ok (.ifCond .eq 7, 3) := by decide +kernel
theorem dL_law_1657 : decode cL_law 1657 = .ok (.iconst 1, 1) := by decide +kernel
theorem dL_law_1658 : decode cL_law 1658 = .ok (.goto 4, 3) := by decide +kernel
theorem dL_law_1661 : decode cL_law 1661 = .ok (.iconst 0, 1) := by decide +kernel
theorem dL_law_1662 : decode cL_law 1662 = .ok (.aload_n 0, 1) := by decide +kernel
theorem dL_law_1663 : decode cL_law 1663 = .ok (.iload 5, 2) := by decide +kernel
theorem dL_law_1665 : decode cL_law 1665 = .ok (.iconst 3, 1) := by decide +kernel
theorem dL_law_1666 : decode cL_law 1666 = .ok (.iadd, 1) := by decide +kernel
theorem dL_law_1667 : decode cL_law 1667 = .ok (.iaload, 1) := by decide +kernel
theorem dL_law_1668 : decode cL_law 1668 = .ok (.invokevirtual 214, 3) := by decide +kernel
theorem dL_law_1671 : decode cL_law 1671 = .ok (.aload_n 2, 1) := by decide +kernel
theorem dL_law_1672 : decode cL_law 1672 = .ok (.invokevirtual 119, 3) := by decide +kernel
theorem dL_law_1675 : decode cL_law 1675 = .ok (.iload 6, 2) := by decide +kernel
theorem dL_law_1677 : decode cL_law 1677 = .ok (.if_icmp .eq 5, 3) := by decide +kernel
theorem dL_law_1680 : decode cL_law 1680 = .ok (.iconst 0, 1) := by decide +kernel
theorem dL_law_1681 : decode cL_law 1681 = .ok (.ireturn, 1) := by decide +kernel
theorem dL_law_1682 : decode cL_law 1682 = .ok (.goto 226, 3) := by decide +kernel
theorem dL_law_1685 : decode cL_law 1685 = .ok (.aload_n 1, 1) := by decide +kernel
theorem dL_law_1686 : decode cL_law 1686 = .ok (.aload_n 0, 1) := by decide +kernel
theorem dL_law_1687 : decode cL_law 1687 = .ok (.iload 5, 2) := by decide +kernel
theorem dL_law_1689 : decode cL_law 1689 = .ok (.iconst 1, 1) := by decide +kernel
theorem dL_law_1690 : decode cL_law 1690 = .ok (.iadd, 1) := by decide +kernel
theorem dL_law_1691 : decode cL_law 1691 = .ok (.iaload, 1) := by decide +kernel
theorem dL_law_1692 : decode cL_law 1692 = .ok (.aload_n 0, 1) := by decide +kernel
theorem dL_law_1693 : decode cL_law 1693 = .ok (.iload 5, 2) := by decide +kernel
theorem dL_law_1695 : decode cL_law 1695 = .ok (.iconst 2, 1) := by decide +kernel
theorem dL_law_1696 : decode cL_law 1696 = .ok (.iadd, 1) := by decide +kernel
theorem dL_law_1697 : decode cL_law 1697 = .ok (.iaload, 1) := by decide +kernel
theorem dL_law_1698 : decode cL_law 1698 = .ok (.aload_n 0, 1) := by decide +kernel
theorem dL_law_1699 : decode cL_law 1699 = .ok (.iload 5, 2) := by decide +kernel
theorem dL_law_1701 : decode cL_law 1701 = .ok (.iconst 3, 1) := by decide +kernel
theorem dL_law_1702 : decode cL_law 1702 = .ok (.iadd, 1) := by decide +kernel
theorem dL_law_1703 : decode cL_law 1703 = .ok (.iaload, 1) := by decide +kernel
theorem dL_law_1704 : decode cL_law 1704 = .ok (.aload_n 3, 1) := by decide +kernel
theorem dL_law_1705 : decode cL_law 1705 = .ok (.invokestatic 215, 3) := by decide +kernel
theorem dL_law_1708 : decode cL_law 1708 = .ok (.istore 6, 2) := by decide +kernel
theorem dL_law_1710 : decode cL_law 1710 = .ok (.aload_n 2, 1) := by decide +kernel
theorem dL_law_1711 : decode cL_law 1711 = .ok (.aload_n 0, 1) := by decide +kernel
theorem dL_law_1712 : decode cL_law 1712 = .ok (.iload 5, 2) := by decide +kernel
theorem dL_law_1714 : decode cL_law 1714 = .ok (.iconst 1, 1) := by decide +kernel
theorem dL_law_1715 : decode cL_law 1715 = .ok (.iadd, 1) := by decide +kernel
theorem dL_law_1716 : decode cL_law 1716 = .ok (.iaload, 1) := by decide +kernel
theorem dL_law_1717 : decode cL_law 1717 = .ok (.aload_n 0, 1) := by decide +kernel
theorem dL_law_1718 : decode cL_law 1718 = .ok (.iload 5, 2) := by decide +kernel
theorem dL_law_1720 : decode cL_law 1720 = .ok (.iconst 2, 1) := by decide +kernel
theorem dL_law_1721 : decode cL_law 1721 = .ok (.iadd, 1) := by decide +kernel
theorem dL_law_1722 : decode cL_law 1722 = .ok (.iaload, 1) := by decide +kernel
theorem dL_law_1723 : decode cL_law 1723 = .ok (.aload_n 0, 1) := by decide +kernel
theorem dL_law_1724 : decode cL_law 1724 = .ok (.iload 5, 2) := by decide +kernel
theorem dL_law_1726 : decode cL_law 1726 = .ok (.iconst 3, 1) := by decide +kernel
theorem dL_law_1727 : decode cL_law 1727 = .ok (.iadd, 1) := by decide +kernel
theorem dL_law_1728 : decode cL_law 1728 = .ok (.iaload, 1) := by decide +kernel
theorem dL_law_1729 : decode cL_law 1729 = .ok (.invokevirtual 218, 3) := by decide +kernel
theorem dL_law_1732 : decode cL_law 1732 = .ok (.istore 7, 2) := by decide +kernel
theorem dL_law_1734 : decode cL_law 1734 = .ok (.aload_n 2, 1) := by decide +kernel
theorem dL_law_1735 : decode cL_law 1735 = .ok (.invokevirtual 119, 3) := by decide +kernel
theorem dL_law_1738 : decode cL_law 1738 = .ok (.iload 6, 2) := by decide +kernel
theorem dL_law_1740 : decode cL_law 1740 = .ok (.if_icmp .eq 5, 3) := by decide +kernel
theorem dL_law_1743 : decode cL_law 1743 = .ok (.iconst 0, 1) := by decide +kernel
theorem dL_law_1744 : decode cL_law 1744 = .ok (.ireturn, 1) := by decide +kernel
theorem dL_law_1745 : decode cL_law 1745 = .ok (.iload 6, 2) := by decide +kernel
theorem dL_law_1747 : decode cL_law 1747 = .ok (.ifCond .ne 15, 3) := by decide +kernel
theorem dL_law_1750 : decode cL_law 1750 = .ok (.aload_n 3, 1) := by decide +kernel
theorem dL_law_1751 : decode cL_law 1751 = .ok (.iconst 0, 1) := by decide +kernel
theorem dL_law_1752 : decode cL_law 1752 = .ok (.laload, 1) := by decide +kernel
theorem dL_law_1753 : decode cL_law 1753 = .ok (.iload 7, 2) := by decide +kernel
theorem dL_law_1755 : decode cL_law 1755 = .ok (.i2l, 1) := by decide +kernel
theorem dL_law_1756 : decode cL_law 1756 = .ok (.lcmp, 1) := by decide +kernel
theorem dL_law_1757 : decode cL_law 1757 = .ok (.ifCond .eq 5, 3) := by decide +kernel
theorem dL_law_1760 : decode cL_law 1760 = .ok (.iconst 0, 1) := by decide +kernel
theorem dL_law_1761 : decode cL_law 1761 = .ok (.ireturn, 1) := by decide +kernel
theorem dL_law_1762 : decode cL_law 1762 = .ok (.goto 146, 3) := by decide +kernel
theorem dL_law_1765 : decode cL_law 1765 = .ok (.aload_n 1, 1) := by decide +kernel
theorem dL_law_1766 : decode cL_law 1766 = .ok (.aload_n 0, 1) := by decide +kernel
theorem dL_law_1767 : decode cL_law 1767 = .ok (.iload 5, 2) := by decide +kernel
theorem dL_law_1769 : decode cL_law 1769 = .ok (.iconst 1, 1) := by decide +kernel
theorem dL_law_1770 : decode cL_law 1770 = .ok (.iadd, 1) := by decide +kernel
theorem dL_law_1771 : decode cL_law 1771 = .ok (.iaload, 1) := by decide +kernel
theorem dL_law_1772 : decode cL_law 1772 = .ok (.aload_n 0, 1) := by decide +kernel
theorem dL_law_1773 : decode cL_law 1773 = .ok (.iload 5, 2) := by decide +kernel
theorem dL_law_1775 : decode cL_law 1775 = .ok (.iconst 2, 1) := by decide +kernel
theorem dL_law_1776 : decode cL_law 1776 = .ok (.iadd, 1) := by decide +kernel
theorem dL_law_1777 : decode cL_law 1777 = .ok (.iaload, 1) := by decide +kernel
theorem dL_law_1778 : decode cL_law 1778 = .ok (.invokestatic 219, 3) := by decide +kernel
theorem dL_law_1781 : decode cL_law 1781 = .ok (.istore 6, 2) := by decide +kernel
theorem dL_law_1783 : decode cL_law 1783 = .ok (.aload_n 2, 1) := by decide +kernel
theorem dL_law_1784 : decode cL_law 1784 = .ok (.aload_n 0, 1) := by decide +kernel
theorem dL_law_1785 : decode cL_law 1785 = .ok (.iload 5, 2) := by decide +kernel
theorem dL_law_1787 : decode cL_law 1787 = .ok (.iconst 1, 1) := by decide +kernel
theorem dL_law_1788 : decode cL_law 1788 = .ok (.iadd, 1) := by decide +kernel
theorem dL_law_1789 : decode cL_law 1789 = .ok (.iaload, 1) := by decide +kernel
theorem dL_law_1790 : decode cL_law 1790 = .ok (.aload_n 0, 1) := by decide +kernel
theorem dL_law_1791 : decode cL_law 1791 = .ok (.iload 5, 2) := by decide +kernel
theorem dL_law_1793 : decode cL_law 1793 = .ok (.iconst 2, 1) := by decide +kernel
theorem dL_law_1794 : decode cL_law 1794 = .ok (.iadd, 1) := by decide +kernel
theorem dL_law_1795 : decode cL_law 1795 = .ok (.iaload, 1) := by decide +kernel
theorem dL_law_1796 : decode cL_law 1796 = .ok (.invokevirtual 221, 3) := by decide +kernel
theorem dL_law_1799 : decode cL_law 1799 = .ok (.aload_n 2, 1) := by decide +kernel
theorem dL_law_1800 : decode cL_law 1800 = .ok (.invokevirtual 119, 3) := by decide +kernel
theorem dL_law_1803 : decode cL_law 1803 = .ok (.iload 6, 2) := by decide +kernel
theorem dL_law_1805 : decode cL_law 1805 = .ok (.if_icmp .eq 5, 3) := by decide +kernel
theorem dL_law_1808 : decode cL_law 1808 = .ok (.iconst 0, 1) := by decide +kernel
theorem dL_law_1809 : decode cL_law 1809 = .ok (.ireturn, 1) := by decide +kernel
theorem dL_law_1810 : decode cL_law 1810 = .ok (.goto 98, 3) := by decide +kernel
theorem dL_law_1813 : decode cL_law 1813 = .ok (.aload_n 1, 1) := by decide +kernel
theorem dL_law_1814 : decode cL_law 1814 = .ok (.aload_n 0, 1) := by decide +kernel
theorem dL_law_1815 : decode cL_law 1815 = .ok (.iload 5, 2) := by decide +kernel
theorem dL_law_1817 : decode cL_law 1817 = .ok (.iconst 1, 1) := by decide +kernel
theorem dL_law_1818 : decode cL_law 1818 = .ok (.iadd, 1) := by decide +kernel
theorem dL_law_1819 : decode cL_law 1819 = .ok (.iaload, 1) := by decide +kernel
theorem dL_law_1820 : decode cL_law 1820 = .ok (.aload_n 0, 1) := by decide +kernel
theorem dL_law_1821 : decode cL_law 1821 = .ok (.iload 5, 2) := by decide +kernel
theorem dL_law_1823 : decode cL_law 1823 = .ok (.iconst 2, 1) := by decide +kernel
theorem dL_law_1824 : decode cL_law 1824 = .ok (.iadd, 1) := by decide +kernel
theorem dL_law_1825 : decode cL_law 1825 = .ok (.iaload, 1) := by decide +kernel
theorem dL_law_1826 : decode cL_law 1826 = .ok (.aload_n 0, 1) := by decide +kernel
theorem dL_law_1827 : decode cL_law 1827 = .ok (.iload 5, 2) := by decide +kernel
theorem dL_law_1829 : decode cL_law 1829 = .ok (.iconst 3, 1) := by decide +kernel
theorem dL_law_1830 : decode cL_law 1830 = .ok (.iadd, 1) := by decide +kernel
theorem dL_law_1831 : decode cL_law 1831 = .ok (.iaload, 1) := by decide +kernel
theorem dL_law_1832 : decode cL_law 1832 = .ok (.invokestatic 222, 3) := by decide +kernel
theorem dL_law_1835 : decode cL_law 1835 = .ok (.istore 6, 2) := by decide +kernel
theorem dL_law_1837 : decode cL_law 1837 = .ok (.aload_n 2, 1) := by decide +kernel
theorem dL_law_1838 : decode cL_law 1838 = .ok (.aload_n 0, 1) := by decide +kernel
theorem dL_law_1839 : decode cL_law 1839 = .ok (.iload 5, 2) := by decide +kernel
theorem dL_law_1841 : decode cL_law 1841 = .ok (.iconst 1, 1) := by decide +kernel
theorem dL_law_1842 : decode cL_law 1842 = .ok (.iadd, 1) := by decide +kernel
theorem dL_law_1843 : decode cL_law 1843 = .ok (.iaload, 1) := by decide +kernel
theorem dL_law_1844 : decode cL_law 1844 = .ok (.aload_n 0, 1) := by decide +kernel
theorem dL_law_1845 : decode cL_law 1845 = .ok (.iload 5, 2) := by decide +kernel
theorem dL_law_1847 : decode cL_law 1847 = .ok (.iconst 2, 1) := by decide +kernel
theorem dL_law_1848 : decode cL_law 1848 = .ok (.iadd, 1) := by decide +kernel
theorem dL_law_1849 : decode cL_law 1849 = .ok (.iaload, 1) := by decide +kernel
theorem dL_law_1850 : decode cL_law 1850 = .ok (.aload_n 0, 1) := by decide +kernel
theorem dL_law_1851 : decode cL_law 1851 = .ok (.iload 5, 2) := by decide +kernel
theorem dL_law_1853 : decode cL_law 1853 = .ok (.iconst 3, 1) := by decide +kernel
theorem dL_law_1854 : decode cL_law 1854 = .ok (.iadd, 1) := by decide +kernel
theorem dL_law_1855 : decode cL_law 1855 = .ok (.iaload, 1) := by decide +kernel
theorem dL_law_1856 : decode cL_law 1856 = .ok (.invokevirtual 225, 3) := by decide +kernel
theorem dL_law_1859 : decode cL_law 1859 = .ok (.aload_n 2, 1) := by decide +kernel
theorem dL_law_1860 : decode cL_law 1860 = .ok (.invokevirtual 119, 3) := by decide +kernel
theorem dL_law_1863 : decode cL_law 1863 = .ok (.iload 6, 2) := by decide +kernel
theorem dL_law_1865 : decode cL_law 1865 = .ok (.if_icmp .eq 5, 3) := by decide +kernel
theorem dL_law_1868 : decode cL_law 1868 = .ok (.iconst 0, 1) := by decide +kernel
theorem dL_law_1869 : decode cL_law 1869 = .ok (.ireturn, 1) := by decide +kernel
theorem dL_law_1870 : decode cL_law 1870 = .ok (.goto 38, 3) := by decide +kernel
theorem dL_law_1873 : decode cL_law 1873 = .ok (.aload_n 1, 1) := by decide +kernel
theorem dL_law_1874 : decode cL_law 1874 = .ok (.invokevirtual 226, 3) := by decide +kernel
theorem dL_law_1877 : decode cL_law 1877 = .ok (.aload_n 2, 1) := by decide +kernel
theorem dL_law_1878 : decode cL_law 1878 = .ok (.invokevirtual 229, 3) := by decide +kernel
theorem dL_law_1881 : decode cL_law 1881 = .ok (.goto 27, 3) := by decide +kernel
theorem dL_law_1884 : decode cL_law 1884 = .ok (.aload_n 1, 1) := by decide +kernel
theorem dL_law_1885 : decode cL_law 1885 = .ok (.invokestatic 230, 3) := by decide +kernel
theorem dL_law_1888 : decode cL_law 1888 = .ok (.istore 6, 2) := by decide +kernel
theorem dL_law_1890 : decode cL_law 1890 = .ok (.aload_n 2, 1) := by decide +kernel
theorem dL_law_1891 : decode cL_law 1891 = .ok (.invokevirtual 233, 3) := by decide +kernel
theorem dL_law_1894 : decode cL_law 1894 = .ok (.aload_n 2, 1) := by decide +kernel
theorem dL_law_1895 : decode cL_law 1895 = .ok (.invokevirtual 119, 3) := by decide +kernel
theorem dL_law_1898 : decode cL_law 1898 = .ok (.iload 6, 2) := by decide +kernel
theorem dL_law_1900 : decode cL_law 1900 = .ok (.if_icmp .eq 5, 3) := by decide +kernel
theorem dL_law_1903 : decode cL_law 1903 = .ok (.iconst 0, 1) := by decide +kernel
theorem dL_law_1904 : decode cL_law 1904 = .ok (.ireturn, 1) := by decide +kernel
theorem dL_law_1905 : decode cL_law 1905 = .ok (.goto 3, 3) := by decide +kernel
theorem dL_law_1908 : decode cL_law 1908 = .ok (.iinc 5 5, 3) := by decide +kernel
theorem dL_law_1911 : decode cL_law 1911 = .ok (.goto (-1883), 3) := by decide +kernel
theorem dL_law_1914 : decode cL_law 1914 = .ok (.iconst 1, 1) := by decide +kernel
theorem dL_law_1915 : decode cL_law 1915 = .ok (.ireturn, 1) := by decide +kernel
abbrev vwCl : List vw_C := [(RX1, TX1, 7), (RX2, TX2, 3), (RX3, TX3, 4), (RX4, TX4, 4), (RX5, TX5, 11), (RX6, TX6, 2), (RX7, TX7, 4), (RX8, TX8, 10), (RX9, TX9, 30)]
